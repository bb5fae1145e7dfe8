/-! the class's law: one number in hand, a row of those that wait -/
def cl64 (v : Int64) : Int32 := if v ≤ 1000000 then (if -1000000 ≤ v then v.toInt32 else -1000000) else 1000000
def cl6 (v : Int32) : Int32 := cl64 v.toInt64
def jmp (od : Int32) (i : Nat) : Nat := if nI i < od then od.toNatClampNeg else i + 1
def cst4 (op od : Int32) (w : Nat → Int32) (h : Int32) (st : List Int32) (i : Nat) : Option (Int32 × List Int32 × Nat) :=
  if (1 : Int32) < op then
    (if op = 8 then some (1 - h, st, i + 1)
    else if op = 12 then some (h, st, jmp od i)
    else if op = 9 ∧ h = 0 then some (h, st, jmp od i)
    else if op = 10 ∧ ¬ h = 0 then some (h, st, jmp od i)
    else match st with
      | [] => none
      | v :: st => if op = 2 then some (btw 3000 v h, st, i + 1) else if op = 3 then some (btw 3001 v h, st, i + 1) else if op = 4 then some (btw 3002 v h, st, i + 1) else if op = 5 then some (btw 3003 v h, st, i + 1) else if op = 6 then some (btw 3004 v h, st, i + 1) else if op = 7 then some (btw 3005 v h, st, i + 1) else if op = 11 ∧ h = 0 then some (cl6 v, st, jmp od i) else some (cl6 v, st, i + 1))
  else if st.length < 64 then some ((if op = 0 then od else w (od &&& 7).toNatClampNeg), h :: st, i + 1) else none
def cst (cd w : Nat → Int32) (s : Int32 × List Int32 × Nat) : Option (Int32 × List Int32 × Nat) := cst4 (cd s.2.2 &&& 15) (cd s.2.2 >>> ((4 : Int32) &&& 31)) w s.1 s.2.1 s.2.2
theorem j317 (T : Sh) (M : Me) (b v k : Nat) (x4 x5 : Int32) (z : Int64) : jX4_valueBy_317 T M b v k x4 x5 z = some (.inl (cl64 z, x4, x5 + 1, M)) := by
  unfold jX4_valueBy_317 cl64
  simp only [lc_le, lc_ge, lte]
  split
  · split <;> rfl
  · rfl
theorem btw0 (a b : Int32) : btw 3000 a b = cl64 (a.toInt64 + b.toInt64) := by
  unfold btw fX12_between jX12_between_81 jX12_between_116 cl64
  rw [if_neg (by decide), if_neg (by decide), if_neg (by decide), if_neg (by decide), if_neg (by decide), if_pos rfl]
  simp only [lc_le, lc_ge]
  split
  · split <;> rfl
  · rfl
theorem btw1 (a b : Int32) : btw 3001 a b = cl64 (a.toInt64 - b.toInt64) := by
  unfold btw fX12_between jX12_between_81 jX12_between_116 cl64
  rw [if_neg (by decide), if_neg (by decide), if_neg (by decide), if_neg (by decide), if_neg (by decide), if_neg (by decide), if_pos rfl]
  simp only [lc_le, lc_ge]
  split
  · split <;> rfl
  · rfl
theorem btw2 (a b : Int32) : btw 3002 a b = cl64 (a.toInt64 * b.toInt64) := by
  unfold btw fX12_between jX12_between_81 jX12_between_116 cl64
  rw [if_neg (by decide), if_neg (by decide), if_neg (by decide), if_neg (by decide), if_neg (by decide), if_neg (by decide), if_neg (by decide)]
  simp only [lc_le, lc_ge]
  split
  · split <;> rfl
  · rfl
theorem btw3 (a b : Int32) : btw 3003 a b = if a = b then 1 else 0 := by
  unfold btw fX12_between
  rw [if_pos rfl]
  split <;> rfl
theorem btw4 (a b : Int32) : btw 3004 a b = if b ≤ a then 0 else 1 := by
  unfold btw fX12_between
  rw [if_neg (by decide), if_pos rfl]
  split <;> rfl
theorem btw5 (a b : Int32) : btw 3005 a b = if a ≤ b then 0 else 1 := by
  unfold btw fX12_between
  rw [if_neg (by decide), if_neg (by decide), if_pos rfl]
  split <;> rfl
theorem btw7 (a b : Int32) : btw 3007 a b = a &&& b := by
  unfold btw fX12_between
  rw [if_neg (by decide), if_neg (by decide), if_neg (by decide), if_pos rfl]; rfl
theorem btw8 (a b : Int32) : btw 3008 a b = a ||| b := by
  unfold btw fX12_between
  rw [if_neg (by decide), if_neg (by decide), if_neg (by decide), if_neg (by decide), if_pos rfl]; rfl
theorem cl64_0 : cl64 0 = 0 := by decide
theorem cl64_1 : cl64 1 = 1 := by decide
theorem i_back (a : Int32) : a - 1 + 1 = a := by
  apply Int32.toBitVec_inj.mp
  simp
theorem jmp_pos {od : Int32} {i : Nat} (hi : i < 2147483648) (h : ¬ od ≤ nI i) : nI (jmp od i) = od := by
  have h2 : nI i < od := fa_of_nle h
  unfold jmp
  rw [if_pos h2]
  obtain ⟨j, hj, rfl⟩ := nI_of (x := od) (by
    intro q
    have h3 := (fa_lt _ _).mp h2
    have h4 := (fa_lt _ _).mp q
    rw [nI_toInt hi] at h3
    have e0 : (0 : Int32).toInt = 0 := by decide
    omega)
  rw [cl_nI hj]
theorem jmp_neg {od : Int32} {i : Nat} (h : od ≤ nI i) : jmp od i = i + 1 := by
  unfold jmp
  rw [if_neg]
  intro q
  exact (fa_of_lt q).2.1 h
theorem c_step {T : Sh} {M : Me} {b c v k n i : Nat} {h0 : Int32} {st : List Int32} {s2 : Int32 × List Int32 × Nat} (hb : kd T b = 3) (hr : gR M b 0 = some c) (hc : kd T c = 13) (hl : ln T c = n) (hn : n ≤ 900) (hi : i < n) (hv : kd T v = 13) (hvl : ln T v = 8) (hk : kd T k = 13) (hkl : ln T k = 64) (hvk : v ≠ k) (hs : sa (gI M k) st) (hst : st.length ≤ 64) (h : cst (gI M c) (gI M v) (h0, st, i) = some s2) : ∃ g, bX4_valueBy_8 T b v k h0 (nI st.length) (nI i) M = some (.inl (s2.1, nI s2.2.1.length, nI s2.2.2, pA M k g)) ∧ sa g s2.2.1 ∧ s2.2.1.length ≤ 64 := by
  unfold cst at h
  simp only at h
  unfold bX4_valueBy_8
  simp (disch := omega) only [gdI, gdT, Option.bind_some, lte, une2, une3, nI_add, gvI, cl_nI, c_le, c_lt, c_eq, Sum.elim_inl, Sum.elim_inr, hb, hr, hc, hl, Nat.not_le.mpr hi, if_false, hk, hkl, hv, hvl]
  generalize gI M c i &&& 15 = op at h ⊢
  generalize gI M c i >>> ((4 : Int32) &&& 31) = od at h ⊢
  have same : ∀ (s : List Int32), sa (gI M k) s → s.length ≤ 64 → ∀ (a : Int32) (j : Nat), ∃ g, (some (Sum.inl (a, nI s.length, nI j, M)) : Option ((Int32 × Int32 × Int32 × Me) ⊕ (Int32 × Me))) = some (.inl (a, nI s.length, nI j, pA M k g)) ∧ sa g s ∧ s.length ≤ 64 := fun s q ql a j => ⟨gI M k, by rw [pA_id (fun _ => rfl)], q, ql⟩
  unfold cst4 at h
  by_cases h1 : (1 : Int32) < op
  · rw [if_pos h1] at h
    rw [if_pos h1]
    unfold jX4_valueBy_83
    by_cases h8 : op = 8
    · rw [if_pos h8] at h; cases h
      rw [if_pos h8]
      simp only [lte, nI_1]
      exact same st hs hst _ _
    rw [if_neg h8] at h
    rw [if_neg h8]
    have hjump : ∃ g, (if od ≤ nI i then lt (nI i + 1) fun v17 => some (Sum.inl (h0, nI st.length, v17, M)) else lt (od - 1) fun v18 => lt (v18 + 1) fun v19 => some (Sum.inl (h0, nI st.length, v19, M)) : Option ((Int32 × Int32 × Int32 × Me) ⊕ (Int32 × Me))) = some (.inl (h0, nI st.length, nI (jmp od i), pA M k g)) ∧ sa g st ∧ st.length ≤ 64 := by
      by_cases hj : od ≤ nI i
      · rw [if_pos hj, jmp_neg hj]
        simp only [lte, nI_1]
        exact same st hs hst _ _
      · rw [if_neg hj, jmp_pos (by omega) hj]
        simp only [lte, i_back]
        exact ⟨gI M k, by rw [pA_id (fun _ => rfl)], hs, hst⟩
    by_cases h12 : op = 12
    · rw [if_pos h12] at h; cases h
      rw [if_pos h12]
      exact hjump
    rw [if_neg h12] at h
    rw [if_neg h12]
    have h147 : ∀ (hna : ¬ (op = 9 ∧ h0 = 0)) (hnb : ¬ (op = 10 ∧ ¬ h0 = 0)), ∃ g, jX4_valueBy_147 T M b v k h0 (nI st.length) (nI i) op od = some (.inl (s2.1, nI s2.2.1.length, nI s2.2.2, pA M k g)) ∧ sa g s2.2.1 ∧ s2.2.1.length ≤ 64 := by
      intro hna hnb
      rw [if_neg hna, if_neg hnb] at h
      cases st with
      | nil => cases h
      | cons u st =>
        simp only [List.length_cons] at hst ⊢
        simp only at h
        obtain ⟨hs1, hs2⟩ := hs
        unfold jX4_valueBy_147
        rw [if_neg (nI_nle (Nat.succ_pos _) (by omega))]
        simp only [lte, i_m1]
        simp (disch := omega) only [gvI, gdI, gdT, hk, hkl, cl_nI, hs1]
        simp only [j317]
        by_cases o2 : op = 2
        · rw [if_pos o2] at h ⊢; cases h
          rw [btw0, nI_1]; exact same st hs2 (by omega) _ _
        rw [if_neg o2] at h ⊢
        by_cases o3 : op = 3
        · rw [if_pos o3] at h ⊢; cases h
          rw [btw1, nI_1]; exact same st hs2 (by omega) _ _
        rw [if_neg o3] at h ⊢
        by_cases o4 : op = 4
        · rw [if_pos o4] at h ⊢; cases h
          rw [btw2, nI_1]; exact same st hs2 (by omega) _ _
        rw [if_neg o4] at h ⊢
        unfold jX4_valueBy_247 jX4_valueBy_265 jX4_valueBy_283 jX4_valueBy_313 jX4_valueBy_315
        simp only [j317, lc_eq, lc_ge, lc_le, fa_wide_eq, fa_wide_le, cl64_0, cl64_1, nI_1, i_back]
        by_cases o5 : op = 5
        · rw [if_pos o5] at h ⊢; cases h
          rw [btw3]
          by_cases q : u = h0
          · rw [if_pos q, if_pos q]; exact same st hs2 (by omega) _ _
          · rw [if_neg q, if_neg q]; exact same st hs2 (by omega) _ _
        rw [if_neg o5] at h ⊢
        by_cases o6 : op = 6
        · rw [if_pos o6] at h ⊢; cases h
          rw [btw4]
          by_cases q : h0 ≤ u
          · rw [if_pos q, if_pos q]; exact same st hs2 (by omega) _ _
          · rw [if_neg q, if_neg q]; exact same st hs2 (by omega) _ _
        rw [if_neg o6] at h ⊢
        by_cases o7 : op = 7
        · rw [if_pos o7] at h ⊢; cases h
          rw [btw5]
          by_cases q : u ≤ h0
          · rw [if_pos q, if_pos q]; exact same st hs2 (by omega) _ _
          · rw [if_neg q, if_neg q]; exact same st hs2 (by omega) _ _
        rw [if_neg o7] at h ⊢
        by_cases o11 : op = 11
        · rw [if_pos o11]
          by_cases q : h0 = 0
          · rw [if_pos ⟨o11, q⟩] at h; cases h
            rw [if_pos q]
            by_cases hj : od ≤ nI i
            · rw [if_pos hj, jmp_neg hj]
              exact same st hs2 (by omega) _ _
            · rw [if_neg hj, jmp_pos (by omega) hj]
              exact ⟨gI M k, by rw [pA_id (fun _ => rfl)]; rfl, hs2, Nat.le_of_succ_le hst⟩
          · rw [if_neg (fun z => q z.2)] at h; cases h
            rw [if_neg q]
            exact same st hs2 (by omega) _ _
        · rw [if_neg (fun z => o11 z.1)] at h; cases h
          rw [if_neg o11]
          exact same st hs2 (by omega) _ _
    by_cases h9 : op = 9
    · rw [if_pos h9]
      by_cases q : h0 = 0
      · rw [if_pos ⟨h9, q⟩] at h; cases h
        rw [if_pos q]
        exact hjump
      · rw [if_neg q]
        unfold jX4_valueBy_115
        rw [if_neg (by rw [h9]; decide)]
        exact h147 (fun z => q z.2) (fun z => by rw [h9] at z; exact absurd z.1 (by decide))
    · rw [if_neg h9]
      unfold jX4_valueBy_115
      rw [if_neg (fun z => h9 z.1)] at h
      by_cases h10 : op = 10
      · rw [if_pos h10]
        by_cases q : h0 = 0
        · rw [if_pos q]
          refine h147 (fun z => h9 z.1) (fun z => z.2 q)
        · rw [if_neg q]
          rw [if_pos ⟨h10, q⟩] at h; cases h
          exact hjump
      · rw [if_neg h10]
        refine h147 (fun z => h9 z.1) (fun z => h10 z.1)
  · rw [if_neg h1] at h
    rw [if_neg h1]
    by_cases hf : st.length < 64
    · rw [if_pos hf] at h; cases h
      simp (disch := omega) only [gdI, gdT, Option.bind_some, lte, une2, une3, nI_add, gvI, cl_nI, c_le, c_lt, c_eq, Sum.elim_inl, Sum.elim_inr, Nat.not_le.mpr hf, if_false, nI_1, mIIn hvk]
      have e7 : gv (od &&& 7) 8 (some (Sum.inl (gI M v (Int32.toNatClampNeg (od &&& 7)), nI (st.length + 1), nI (i + 1), pI M k st.length h0)) : Option ((Int32 × Int32 × Int32 × Me) ⊕ (Int32 × Me))) = some (Sum.inl (gI M v (Int32.toNatClampNeg (od &&& 7)), nI (st.length + 1), nI (i + 1), pI M k st.length h0)) := gv_pos (pk_andIn od (m := 7) 3 (by decide) (by omega))
      rw [e7]
      have hsa : sa (gI (pI M k st.length h0) k) (h0 :: st) := sa_push hs
      rw [pI_pA] at hsa ⊢
      refine ⟨_, ?_, sa_cong (fun i _ => rfl) (show sa (fun j => if j = st.length then h0 else gI M k j) (h0 :: st) from by
        have e : (gI (pA M k fun j => if j = st.length then h0 else gI M k j) k) = (fun j => if j = st.length then h0 else gI M k j) := funext fun j => mIA1
        rw [e] at hsa; exact hsa), by simp only [List.length_cons]; omega⟩
      by_cases o0 : op = 0
      · rw [if_pos o0, if_pos o0]; rfl
      · rw [if_neg o0, if_neg o0]; rfl
    · rw [if_neg hf] at h; cases h
/-- steps, all within n -/
def cR (n : Nat) (cd w : Nat → Int32) : Nat → Int32 × List Int32 × Nat → Int32 × List Int32 × Nat → Prop
  | 0, s, s2 => s = s2
  | k + 1, s, s2 => s.2.2 < n ∧ ∃ s1, cst cd w s = some s1 ∧ cR n cd w k s1 s2
theorem cR.trans {n : Nat} {cd w : Nat → Int32} : ∀ {a b : Nat} {s s1 s2 : Int32 × List Int32 × Nat}, cR n cd w a s s1 → cR n cd w b s1 s2 → cR n cd w (a + b) s s2 := by
  intro a
  induction a with
  | zero => intro b s s1 s2 h h2; have h : s = s1 := h; subst h; rw [Nat.zero_add]; exact h2
  | succ a ih =>
    intro b s s1 s2 h h2
    obtain ⟨h0, t, e, h3⟩ := h
    rw [show a + 1 + b = (a + b) + 1 by omega]
    exact ⟨h0, t, e, ih h3 h2⟩
theorem c_run {T : Sh} {b c v k n : Nat} (hb : kd T b = 3) (hc : kd T c = 13) (hl : ln T c = n) (hn : n ≤ 900) (hv : kd T v = 13) (hvl : ln T v = 8) (hk : kd T k = 13) (hkl : ln T k = 64) (hvk : v ≠ k) (hck : c ≠ k) : ∀ (f : Nat) (M : Me) (s s2 : Int32 × List Int32 × Nat) (q : Nat), gR M b 0 = some c → cR n (gI M c) (gI M v) f s s2 → s2.2.2 = n → sa (gI M k) s.2.1 → s.2.1.length ≤ 64 → f < q → Ok (lp q (fun s => bX4_valueBy_8 T b v k s.1 s.2.1 s.2.2.1 s.2.2.2) (s.1, nI s.2.1.length, nI s.2.2, M)) (fun p => p.1 = s2.1 ∧ ∃ g, p.2 = pA M k g) := by
  intro f
  induction f with
  | zero =>
    intro M s s2 q hr h he hs hst hq
    have h : s = s2 := h
    subst h
    obtain ⟨q, rfl⟩ : ∃ z, q = z + 1 := ⟨q - 1, by omega⟩
    refine ⟨(s.1, M), lp_inr ?_, rfl, gI M k, (pA_id (fun _ => rfl)).symm⟩
    show bX4_valueBy_8 T b v k s.1 (nI s.2.1.length) (nI s.2.2) M = _
    unfold bX4_valueBy_8
    simp (disch := omega) only [gdI, gdT, Option.bind_some, lte, une2, une3, nI_add, gvI, cl_nI, c_le, c_lt, c_eq, Sum.elim_inl, Sum.elim_inr, hb, hr, hc, hl, he, Nat.le_refl, if_true]
  | succ f ih =>
    intro M s s2 q hr h he hs hst hq
    obtain ⟨q, rfl⟩ : ∃ z, q = z + 1 := ⟨q - 1, by omega⟩
    obtain ⟨hi, s1, e, h3⟩ := h
    obtain ⟨g, h4, h5, h6⟩ := c_step hb hr hc hl hn hi hv hvl hk hkl hvk hs hst e
    rw [lp_inl (s' := (s1.1, nI s1.2.1.length, nI s1.2.2, pA M k g)) h4]
    have e1 : gI (pA M k g) c = gI M c := funext fun j => mIAn hck
    have e2 : gI (pA M k g) v = gI M v := funext fun j => mIAn hvk
    have e3 : gI (pA M k g) k = g := funext fun j => mIA1
    refine Ok.mono (ih (pA M k g) s1 s2 q (by rw [mRA]; exact hr) (by rw [e1, e2]; exact h3) he (by rw [e3]; exact h5) h6 (by omega)) (fun p hp => ?_)
    obtain ⟨hp1, g2, hp2⟩ := hp
    exact ⟨hp1, g2, by rw [hp2, pA_pA]⟩
theorem c_value {T : Sh} {M : Me} {b c v k n f : Nat} {r : Int32} {st : List Int32} (hb : kd T b = 3) (hr : gR M b 0 = some c) (hc : kd T c = 13) (hl : ln T c = n) (hn : n ≤ 900) (hv : kd T v = 13) (hvl : ln T v = 8) (hk : kd T k = 13) (hkl : ln T k = 64) (hvk : v ≠ k) (hck : c ≠ k) (hf : f < 1000000) (h : cR n (gI M c) (gI M v) f (0, [], 0) (r, st, n)) : Ok (fX4_valueBy T M b v k) (fun p => p.1 = r ∧ ∃ g, p.2 = pA M k g) := by
  unfold fX4_valueBy
  exact Ok.bd (c_run hb hc hl hn hv hvl hk hkl hvk hck f M (0, [], 0) (r, st, n) FU hr h rfl trivial (by simp) hf) (fun p hp => ok_i hp)
