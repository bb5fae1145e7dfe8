/-- codes from a place on -/
def SEG (cd : Nat → Int32) : Nat → List Int32 → Prop
  | _, [] => True
  | o, c :: cs => cd o = c ∧ SEG cd (o + 1) cs
theorem seg_app {cd : Nat → Int32} : ∀ (a b : List Int32) (o : Nat), SEG cd o (a ++ b) ↔ SEG cd o a ∧ SEG cd (o + a.length) b
  | [], b, o => ⟨fun h => ⟨trivial, h⟩, fun h => h.2⟩
  | c :: a, b, o => by
    have := seg_app (cd := cd) a b (o + 1)
    show (cd o = c ∧ SEG cd (o + 1) (a ++ b)) ↔ (cd o = c ∧ SEG cd (o + 1) a) ∧ SEG cd (o + (a.length + 1)) b
    rw [this, show o + (a.length + 1) = o + 1 + a.length by omega]
    exact ⟨fun h => ⟨⟨h.1, h.2.1⟩, h.2.2⟩, fun h => ⟨h.1.1, h.1.2, h.2⟩⟩
theorem seg_at {cd : Nat → Int32} : ∀ (a : List Int32) (o : Nat), SEG cd o a ↔ ∀ j, j < a.length → cd (o + j) = a.getD j 0
  | [], o => ⟨fun _ j hj => absurd hj (by simp), fun _ => trivial⟩
  | c :: a, o => by
    have := seg_at (cd := cd) a (o + 1)
    show (cd o = c ∧ SEG cd (o + 1) a) ↔ _
    rw [this]
    constructor
    · intro h j hj
      cases j with
      | zero => exact h.1
      | succ j =>
        have := h.2 j (by simp only [List.length_cons] at hj; omega)
        rw [show o + (j + 1) = o + 1 + j by omega]
        exact this
    · intro h
      refine ⟨h 0 (by simp), fun j hj => ?_⟩
      have := h (j + 1) (by simp only [List.length_cons]; omega)
      rw [show o + 1 + j = o + (j + 1) by omega]
      exact this
theorem cst_at {cd w : Nat → Int32} {h : Int32} {st : List Int32} {i op od : Nat} (e : cd i = enc op od) (ho : op < 13) (hd : od < 1000) : cst cd w (h, st, i) = cst4 (nI op) (nI od) w h st i := by
  unfold cst
  simp only
  rw [e, (enc_d op ho od hd).1, (enc_d op ho od hd).2]
theorem bd_01 {v : Int32} (h : v = 0 ∨ v = 1) : bd v := by rcases h with rfl | rfl <;> (unfold bd; decide)
theorem k6a : (-1000000 : Int32).toInt = -1000000 := by decide
theorem k6b : (1000000 : Int32).toInt = 1000000 := by decide
theorem cl6_bd {v : Int32} (h : bd v) : cl6 v = v := by
  obtain ⟨h1, h2⟩ := h
  have a1 : v.toInt64 ≤ 1000000 := by
    rw [Int64.le_iff_toInt_le, Int32.toInt_toInt64]
    rw [fa_le, k6b] at h2
    exact h2
  have a2 : -1000000 ≤ v.toInt64 := by
    rw [Int64.le_iff_toInt_le, Int32.toInt_toInt64]
    rw [fa_le, k6a] at h1
    exact h1
  unfold cl6 cl64
  rw [if_pos a1, if_pos a2]
  exact Int32.toInt32_toInt64 _
theorem cl64_bd (v : Int64) : bd (cl64 v) := by
  unfold cl64
  by_cases h : v ≤ 1000000
  · rw [if_pos h]
    by_cases h2 : -1000000 ≤ v
    · rw [if_pos h2]
      rw [Int64.le_iff_toInt_le] at h h2
      have c1 : (1000000 : Int64).toInt = 1000000 := by decide
      have c2 : (-1000000 : Int64).toInt = -1000000 := by decide
      rw [c1] at h
      rw [c2] at h2
      unfold bd
      rw [fa_le, fa_le, k6a, k6b, Int64.toInt_toInt32]
      rw [Int.bmod_eq_of_le (by omega) (by omega)]
      omega
    · rw [if_neg h2]; unfold bd; decide
  · rw [if_neg h]; unfold bd; decide
def TVl (v : (Nat → Int32) → Int32) : Prop := ∀ w, v w = 0 ∨ v w = 1
/-- codes cc of the class from o on, codes rc of the reference, tell v -/
def EX (q o : Nat) (cc rc : List Int32) (v : (Nat → Int32) → Int32) : Prop :=
  (∀ w s, rr w rc s = some (v w :: s)) ∧ (∀ w, wb w → bd (v w)) ∧ ∀ w, wb w → ∀ (cd : Nat → Int32) (n : Nat), SEG cd o cc → o + cc.length ≤ n → ∀ h st, bd h → st.length + q ≤ 64 → ∃ f, f ≤ cc.length ∧ cR n cd w f (h, st, o) (v w, h :: st, o + cc.length)
theorem EX.up {q q2 o : Nat} {cc rc : List Int32} {v : (Nat → Int32) → Int32} (h : EX q o cc rc v) (hq : q ≤ q2) : EX q2 o cc rc v := ⟨h.1, h.2.1, fun w hw cd n h1 h2 h0 st h3 h4 => h.2.2 w hw cd n h1 h2 h0 st h3 (by omega)⟩
theorem cR_1 {n : Nat} {cd w : Nat → Int32} {s s2 : Int32 × List Int32 × Nat} (h1 : s.2.2 < n) (h2 : cst cd w s = some s2) : cR n cd w 1 s s2 := ⟨h1, s2, h2, rfl⟩
theorem rr_1 {w : Nat → Int32} {c : Int32} {s : List Int32} : rr w [c] s = rst w c s := by
  show (rst w c s).bind (rr w []) = rst w c s
  cases rst w c s <;> rfl
section
variable {q qa qb qc o : Nat} {ca cb2 ct ra rb rt : List Int32} {va vb vt : (Nat → Int32) → Int32}
theorem ex_num {k : Nat} (hk : k < 1000) : EX 1 o [enc 0 k] [nI k] (fun _ => nI k) := by
  refine ⟨fun w s => ?_, fun w _ => bd_nI (by omega), fun w hw cd n h1 h2 h st h3 h4 => ⟨1, Nat.le_refl _, cR_1 (by simp only [List.length_cons, List.length_nil] at h2; exact h2) ?_⟩⟩
  · rw [rr_1]
    unfold rst
    rw [if_neg (by rw [i_3000, c_le (by omega) (by omega)]; omega), if_neg (by rw [i_1000, c_le (by omega) (by omega)]; omega)]
  · rw [cst_at h1.1 (by omega) (by omega)]
    unfold cst4
    rw [if_neg (by decide), if_pos (by omega), if_pos (by decide)]
    rfl
theorem ex_word {k : Nat} (hk : k < 6) : EX 1 o [enc 1 k] [nI (1000 + k)] (fun w => w k) := by
  refine ⟨fun w s => ?_, fun w hw => hw k hk, fun w hw cd n h1 h2 h st h3 h4 => ⟨1, Nat.le_refl _, cR_1 (by simp only [List.length_cons, List.length_nil] at h2; exact h2) ?_⟩⟩
  · rw [rr_1]
    unfold rst
    rw [if_neg (by rw [i_3000, c_le (by omega) (by omega)]; omega), if_pos (by rw [i_1000, c_le (by omega) (by omega)]; omega), i_1000, c_sub (by omega), show 1000 + k - 1000 = k by omega, gvI hk (by omega), cl_nI (by omega)]
  · rw [cst_at h1.1 (by omega) (by omega)]
    have e7 : ∀ k, k < 6 → (nI k &&& 7).toNatClampNeg = k := by decide +kernel
    unfold cst4
    rw [if_neg (by decide), if_pos (by omega), if_neg (by decide), e7 k hk]
    rfl
theorem btw_bd : ∀ j, j < 6 → ∀ a b : Int32, bd (btw (nI (3000 + j)) a b) := by
  intro j hj a b
  rcases (by omega : j = 0 ∨ j = 1 ∨ j = 2 ∨ j = 3 ∨ j = 4 ∨ j = 5) with rfl | rfl | rfl | rfl | rfl | rfl
  · show bd (btw 3000 a b); rw [btw0]; exact cl64_bd _
  · show bd (btw 3001 a b); rw [btw1]; exact cl64_bd _
  · show bd (btw 3002 a b); rw [btw2]; exact cl64_bd _
  · show bd (btw 3003 a b); rw [btw3]; split <;> (unfold bd; decide)
  · show bd (btw 3004 a b); rw [btw4]; split <;> (unfold bd; decide)
  · show bd (btw 3005 a b); rw [btw5]; split <;> (unfold bd; decide)
theorem btw_tv {j : Nat} (h1 : 3 ≤ j) (h2 : j < 6) (a b : Int32) : btw (nI (3000 + j)) a b = 0 ∨ btw (nI (3000 + j)) a b = 1 := by
  rcases (by omega : j = 3 ∨ j = 4 ∨ j = 5) with rfl | rfl | rfl
  · show btw 3003 a b = 0 ∨ btw 3003 a b = 1; rw [btw3]; split <;> simp
  · show btw 3004 a b = 0 ∨ btw 3004 a b = 1; rw [btw4]; split <;> simp
  · show btw 3005 a b = 0 ∨ btw 3005 a b = 1; rw [btw5]; split <;> simp
theorem cst4_bin : ∀ j, j < 6 → ∀ (w : Nat → Int32) (h a : Int32) (st : List Int32) (i : Nat), cst4 (nI (2 + j)) (nI 0) w h (a :: st) i = some (btw (nI (3000 + j)) a h, st, i + 1) := by
  intro j hj w h a st i
  rcases (by omega : j = 0 ∨ j = 1 ∨ j = 2 ∨ j = 3 ∨ j = 4 ∨ j = 5) with rfl | rfl | rfl | rfl | rfl | rfl
  all_goals
    unfold cst4
    rw [if_pos (by decide), if_neg (by decide), if_neg (by decide), if_neg (fun q => absurd q.1 (by decide)), if_neg (fun q => absurd q.1 (by decide))]
    rfl
theorem ex_bin {j : Nat} (hj : j < 6) (ha : EX qa o ca ra va) (hb : EX qb (o + ca.length) cb2 rb vb) (h1 : qa ≤ q) (h2 : qb + 1 ≤ q) : EX q o (ca ++ cb2 ++ [enc (2 + j) 0]) (ra ++ rb ++ [nI (3000 + j)]) (fun w => btw (nI (3000 + j)) (va w) (vb w)) := by
  refine ⟨fun w s => ?_, fun w _ => btw_bd j hj _ _, fun w hw cd n hs hn h st h3 h4 => ?_⟩
  · rw [rr_app, rr_app, ha.1, Option.bind_some, hb.1, Option.bind_some, rr_1]
    unfold rst
    rw [if_pos (by rw [i_3000, c_le (by omega) (by omega)]; omega), if_neg (by rw [i_3006, c_eq (by omega) (by omega)]; omega), if_neg (by rw [i_3009, c_eq (by omega) (by omega)]; omega)]
  · rw [seg_app, seg_app] at hs
    obtain ⟨⟨s1, s2⟩, s3, _⟩ := hs
    simp only [List.length_append, List.length_cons, List.length_nil] at hn s3 ⊢
    obtain ⟨f1, g1, r1⟩ := ha.2.2 w hw cd n s1 (by omega) h st h3 (by omega)
    obtain ⟨f2, g2, r2⟩ := hb.2.2 w hw cd n s2 (by omega) (va w) (h :: st) (ha.2.1 w hw) (by simp only [List.length_cons]; omega)
    refine ⟨f1 + f2 + 1, by omega, (r1.trans r2).trans (cR_1 (by show o + ca.length + cb2.length < n; omega) ?_)⟩
    rw [cst_at (by rw [Nat.add_assoc]; exact s3) (by omega) (by omega), cst4_bin j hj, show o + ca.length + cb2.length + 1 = o + (ca.length + cb2.length + (0 + 1)) by omega]
theorem ex_not (ha : EX q o ca ra va) (ht : TVl va) : EX q o (ca ++ [enc 8 0]) (ra ++ [(3006 : Int32)]) (fun w => 1 - va w) ∧ TVl (fun w => 1 - va w) := by
  have tv : TVl (fun w => 1 - va w) := fun w => by rcases ht w with e | e <;> simp only [e] <;> decide
  refine ⟨⟨fun w s => ?_, fun w _ => bd_01 (tv w), fun w hw cd n hs hn h st h3 h4 => ?_⟩, tv⟩
  · rw [rr_app, ha.1, Option.bind_some, rr_1]
    unfold rst
    rw [if_pos (by decide), if_pos rfl]
  · rw [seg_app] at hs
    obtain ⟨s1, s3, _⟩ := hs
    simp only [List.length_append, List.length_cons, List.length_nil] at hn ⊢
    obtain ⟨f1, g1, r1⟩ := ha.2.2 w hw cd n s1 (by omega) h st h3 (by omega)
    refine ⟨f1 + 1, by omega, r1.trans (cR_1 (by show o + ca.length < n; omega) ?_)⟩
    rw [cst_at s3 (by omega) (by omega)]
    unfold cst4
    rw [if_pos (by decide), if_pos (by decide), show o + ca.length + 1 = o + (ca.length + (0 + 1)) by omega]
theorem jmp_to {t i : Nat} (h : i < t) (ht : t < 1000) : jmp (nI t) i = t := by
  unfold jmp
  rw [if_pos (by rw [c_lt (by omega) (by omega)]; exact h), cl_nI (by omega)]
theorem and_01 {a b : Int32} (ha : a = 0 ∨ a = 1) (hb : b = 0 ∨ b = 1) : (a = 0 → btw 3007 a b = 0) ∧ (a = 1 → btw 3007 a b = b) ∧ (btw 3007 a b = 0 ∨ btw 3007 a b = 1) := by
  rw [btw7]
  rcases ha with rfl | rfl <;> rcases hb with rfl | rfl <;> decide
theorem or_01 {a b : Int32} (ha : a = 0 ∨ a = 1) (hb : b = 0 ∨ b = 1) : (a = 1 → btw 3008 a b = 1) ∧ (a = 0 → btw 3008 a b = b) ∧ (btw 3008 a b = 0 ∨ btw 3008 a b = 1) := by
  rw [btw8]
  rcases ha with rfl | rfl <;> rcases hb with rfl | rfl <;> decide
theorem ex_and {t : Nat} (ha : EX q o ca ra va) (hta : TVl va) (hb : EX q (o + ca.length + 1) cb2 rb vb) (htb : TVl vb) (et : t = o + ca.length + 1 + cb2.length) (ht : t < 1000) : EX q o (ca ++ (enc 9 t :: cb2)) (ra ++ rb ++ [(3007 : Int32)]) (fun w => btw 3007 (va w) (vb w)) ∧ TVl (fun w => btw 3007 (va w) (vb w)) := by
  have tv : TVl (fun w => btw 3007 (va w) (vb w)) := fun w => (and_01 (hta w) (htb w)).2.2
  refine ⟨⟨fun w s => ?_, fun w _ => bd_01 (tv w), fun w hw cd n hs hn h st h3 h4 => ?_⟩, tv⟩
  · rw [rr_app, rr_app, ha.1, Option.bind_some, hb.1, Option.bind_some, rr_1]
    unfold rst
    rw [if_pos (by decide), if_neg (by decide), if_neg (by decide)]
  · rw [seg_app] at hs
    obtain ⟨s1, s3, s2⟩ := hs
    simp only [List.length_append, List.length_cons] at hn ⊢
    obtain ⟨f1, g1, r1⟩ := ha.2.2 w hw cd n s1 (by omega) h st h3 (by omega)
    rw [show o + (ca.length + (cb2.length + 1)) = t by omega]
    rcases hta w with e | e
    · refine ⟨f1 + 1, by omega, r1.trans (cR_1 (by show o + ca.length < n; omega) ?_)⟩
      rw [cst_at s3 (by omega) (by omega), (and_01 (hta w) (htb w)).1 e, e]
      unfold cst4
      rw [if_pos (by decide), if_neg (by decide), if_neg (by decide), if_pos ⟨by decide, rfl⟩, jmp_to (by omega) ht]
    · have st1 : cst cd w (va w, h :: st, o + ca.length) = some (h, st, o + ca.length + 1) := by
        rw [cst_at s3 (by omega) (by omega), e]
        unfold cst4
        rw [if_pos (by decide), if_neg (by decide), if_neg (by decide), if_neg (fun z => absurd z.2 (by decide)), if_neg (fun z => absurd z.1 (by decide))]
        show some (cl6 h, st, o + ca.length + 1) = _
        rw [cl6_bd h3]
      obtain ⟨f2, g2, r2⟩ := hb.2.2 w hw cd n s2 (by omega) h st h3 (by omega)
      refine ⟨f1 + 1 + f2, by omega, ?_⟩
      rw [(and_01 (hta w) (htb w)).2.1 e, et]
      exact (r1.trans (cR_1 (by show o + ca.length < n; omega) st1)).trans r2
theorem ex_or {t : Nat} (ha : EX q o ca ra va) (hta : TVl va) (hb : EX q (o + ca.length + 1) cb2 rb vb) (htb : TVl vb) (et : t = o + ca.length + 1 + cb2.length) (ht : t < 1000) : EX q o (ca ++ (enc 10 t :: cb2)) (ra ++ rb ++ [(3008 : Int32)]) (fun w => btw 3008 (va w) (vb w)) ∧ TVl (fun w => btw 3008 (va w) (vb w)) := by
  have tv : TVl (fun w => btw 3008 (va w) (vb w)) := fun w => (or_01 (hta w) (htb w)).2.2
  refine ⟨⟨fun w s => ?_, fun w _ => bd_01 (tv w), fun w hw cd n hs hn h st h3 h4 => ?_⟩, tv⟩
  · rw [rr_app, rr_app, ha.1, Option.bind_some, hb.1, Option.bind_some, rr_1]
    unfold rst
    rw [if_pos (by decide), if_neg (by decide), if_neg (by decide)]
  · rw [seg_app] at hs
    obtain ⟨s1, s3, s2⟩ := hs
    simp only [List.length_append, List.length_cons] at hn ⊢
    obtain ⟨f1, g1, r1⟩ := ha.2.2 w hw cd n s1 (by omega) h st h3 (by omega)
    rw [show o + (ca.length + (cb2.length + 1)) = t by omega]
    rcases hta w with e | e
    · have st1 : cst cd w (va w, h :: st, o + ca.length) = some (h, st, o + ca.length + 1) := by
        rw [cst_at s3 (by omega) (by omega), e]
        unfold cst4
        rw [if_pos (by decide), if_neg (by decide), if_neg (by decide), if_neg (fun z => absurd z.1 (by decide)), if_neg (fun z => absurd rfl z.2)]
        show some (cl6 h, st, o + ca.length + 1) = _
        rw [cl6_bd h3]
      obtain ⟨f2, g2, r2⟩ := hb.2.2 w hw cd n s2 (by omega) h st h3 (by omega)
      refine ⟨f1 + 1 + f2, by omega, ?_⟩
      rw [(or_01 (hta w) (htb w)).2.1 e, et]
      exact (r1.trans (cR_1 (by show o + ca.length < n; omega) st1)).trans r2
    · refine ⟨f1 + 1, by omega, r1.trans (cR_1 (by show o + ca.length < n; omega) ?_)⟩
      rw [cst_at s3 (by omega) (by omega), (or_01 (hta w) (htb w)).1 e, e]
      unfold cst4
      rw [if_pos (by decide), if_neg (by decide), if_neg (by decide), if_neg (fun z => absurd z.1 (by decide)), if_pos ⟨by decide, by decide⟩, jmp_to (by omega) ht]
theorem ex_if {t1 t2 : Nat} (hc : EX q o ct rt vt) (htt : TVl vt) (ha : EX q (o + ct.length + 1) ca ra va) (hb : EX q (o + ct.length + 1 + ca.length + 1) cb2 rb vb) (et1 : t1 = o + ct.length + 1 + ca.length + 1) (et2 : t2 = o + ct.length + 1 + ca.length + 1 + cb2.length) (ht : t2 < 1000) : EX q o (ct ++ (enc 11 t1 :: ca) ++ (enc 12 t2 :: cb2)) (rt ++ ra ++ rb ++ [(3009 : Int32)]) (fun w => if vt w = 1 then va w else vb w) := by
  refine ⟨fun w s => ?_, fun w hw => ?_, fun w hw cd n hs hn h st h3 h4 => ?_⟩
  · rw [rr_app, rr_app, rr_app, hc.1, Option.bind_some, ha.1, Option.bind_some, hb.1, Option.bind_some, rr_1]
    unfold rst
    rw [if_pos (by decide), if_neg (by decide), if_pos rfl]
  · simp only
    split
    · exact ha.2.1 w hw
    · exact hb.2.1 w hw
  · rw [seg_app, seg_app] at hs
    obtain ⟨⟨s1, s2, s3⟩, s4, s5⟩ := hs
    simp only [List.length_append, List.length_cons] at hn s4 s5 ⊢
    rw [show o + (ct.length + (ca.length + 1)) = o + ct.length + 1 + ca.length by omega] at s4 s5
    rw [show o + (ct.length + (ca.length + 1) + (cb2.length + 1)) = t2 by omega]
    obtain ⟨f1, g1, r1⟩ := hc.2.2 w hw cd n s1 (by omega) h st h3 (by omega)
    rcases htt w with e | e
    · rw [if_neg (by rw [e]; decide)]
      have st1 : cst cd w (vt w, h :: st, o + ct.length) = some (h, st, t1) := by
        rw [cst_at s2 (by omega) (by omega), e]
        unfold cst4
        rw [if_pos (by decide), if_neg (by decide), if_neg (by decide), if_neg (fun z => absurd z.1 (by decide)), if_neg (fun z => absurd z.1 (by decide))]
        show some (cl6 h, st, jmp (nI t1) (o + ct.length)) = _
        rw [cl6_bd h3, jmp_to (by omega) (by omega)]
      obtain ⟨f2, g2, r2⟩ := hb.2.2 w hw cd n s5 (by omega) h st h3 (by omega)
      refine ⟨f1 + 1 + f2, by omega, ?_⟩
      rw [et2]
      rw [et1] at st1
      exact (r1.trans (cR_1 (by show o + ct.length < n; omega) st1)).trans r2
    · rw [if_pos e]
      have st1 : cst cd w (vt w, h :: st, o + ct.length) = some (h, st, o + ct.length + 1) := by
        rw [cst_at s2 (by omega) (by omega), e]
        unfold cst4
        rw [if_pos (by decide), if_neg (by decide), if_neg (by decide), if_neg (fun z => absurd z.1 (by decide)), if_neg (fun z => absurd z.1 (by decide))]
        show some (cl6 h, st, o + ct.length + 1) = _
        rw [cl6_bd h3]
      obtain ⟨f2, g2, r2⟩ := ha.2.2 w hw cd n s3 (by omega) h st h3 (by omega)
      have st2 : cst cd w (va w, h :: st, o + ct.length + 1 + ca.length) = some (va w, h :: st, t2) := by
        rw [cst_at s4 (by omega) (by omega)]
        unfold cst4
        rw [if_pos (by decide), if_neg (by decide), if_pos (by decide), jmp_to (by omega) (by omega)]
      exact ⟨f1 + 1 + f2 + 1, by omega, ((r1.trans (cR_1 (by show o + ct.length < n; omega) st1)).trans r2).trans (cR_1 (by show o + ct.length + 1 + ca.length < n; omega) st2)⟩
/-- only words that are used matter -/
def DP (u : Int32) (v : (Nat → Int32) → Int32) : Prop := ∀ w w2 : Nat → Int32, (∀ j, j < 6 → bt u j = true → w j = w2 j) → v w = v w2
def UM (u u2 : Int32) : Prop := ∀ j, j < 6 → bt u j = true → bt u2 j = true
theorem UM.rfl {u : Int32} : UM u u := fun _ _ h => h
theorem UM.trans {u u2 u3 : Int32} (h : UM u u2) (h2 : UM u2 u3) : UM u u3 := fun j hj e => h2 j hj (h j hj e)
theorem DP.um {u u2 : Int32} {v : (Nat → Int32) → Int32} (h : DP u v) (m : UM u u2) : DP u2 v := fun w w2 e => h w w2 (fun j hj b => e j hj (m j hj b))
end
