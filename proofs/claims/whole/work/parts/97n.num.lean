/-! numbers in a lab -/
section
variable {x m n N lw i o q d : Nat} {b : Nat → Nat} {sp u : Int32} {T : Sh} {M M1 M2 : Me}
def rh (m a k : Nat) : Prop := a = m ∧ (k = 6 ∨ k = 7 ∨ k = 9 ∨ k = 10 ∨ k = 11 ∨ k = 12)
theorem rh_tq {a k : Nat} (h : tq m a k) : rh m a k := by unfold tq at h; unfold rh; omega
/-- the class, the reference at token i, or at a fault -/
def CBF (x n N : Nat) (b : Nat → Nat) (T : Sh) (i : Nat) (fl : Option (Nat × Nat)) (M : Me) : Prop := match fl with
  | none => CBq x n N b T i M
  | some f => CFl x T f.1 f.2 M
def RBF (m n N : Nat) (b : Nat → Nat) (T : Sh) (i : Nat) (fl : Option (Nat × Nat)) (M : Me) : Prop := match fl with
  | none => RBq m n N b T i M
  | some f => RFl m T f.1 f.2 M
theorem CBF.px {fl : Option (Nat × Nat)} (h : CBF x n N b T i fl M) : PX x T M := by
  cases fl with
  | none => exact h.1
  | some f => exact h.1
theorem RBF.rm {fl : Option (Nat × Nat)} (h : RBF m n N b T i fl M) : RM m T M := by
  cases fl with
  | none => exact h.1.1
  | some f => exact h.1
theorem r_failsh {fk : Nat} (h : RBq m n N b T i M) (h1 : 1 ≤ fk) (h2 : fk ≤ 4) : Ok (fX12_fails T M m (nI fk)) (fun p => RFl m T (fkd n b i fk) (tP b n i) p.2 ∧ FI m (rh m) M p.2) := by
  have hb := fkd_b (n := n) (b := b) (i := i) h1 h2
  have := h.k42
  obtain ⟨t, e6, e7, e9, e10, e11, hi, hN⟩ := h
  unfold fX12_fails
  rw [t.1.k, gdI, e11, if_pos rfl, e9, i_27, ite_eq (by omega) (by omega)]
  have key : ∀ kk : Int32, kk = nI (fkd n b i fk) → Ok (lt (pI M m 11 kk) fun M6 => lt (pI M6 m 12 (gI M6 m 6)) fun M7 => (some ((), M7) : Option (Unit × Me))) (fun p => RFl m T (fkd n b i fk) (tP b n i) p.2 ∧ FI m (rh m) M p.2) := by
    intro kk e
    rw [lte, lte, mIIk (by omega), e6]
    refine ok_i ⟨⟨t.1.fr (fun _ => rfl), ?_, mII1, hb⟩, (FI.rfl.pI ⟨rfl, by omega⟩).pI ⟨rfl, by omega⟩⟩
    rw [mIIk (by omega), mII1, e]
  by_cases z : tK b n i = 27
  · rw [if_pos z]
    exact key 1 (by unfold fkd; rw [if_pos z]; rfl)
  · rw [if_neg z]
    exact key (nI fk) (by unfold fkd; rw [if_neg z])
/-- what a fault, or none, at a number is -/
def nfl (n : Nat) (b : Nat → Nat) (i lo hi : Nat) : Option (Nat × Nat) := if tK b n i = 25 then (if lo ≤ tV b n i ∧ tV b n i ≤ hi then none else some (3, tP b n i)) else some (fkd n b i 2, tP b n i)
theorem nfl_0 {lo hi : Nat} (h : nfl n b i lo hi = none) : tK b n i = 25 ∧ lo ≤ tV b n i ∧ tV b n i ≤ hi := by
  unfold nfl at h
  by_cases z : tK b n i = 25
  · rw [if_pos z] at h
    by_cases y : lo ≤ tV b n i ∧ tV b n i ≤ hi
    · exact ⟨z, y⟩
    · rw [if_neg y] at h; cases h
  · rw [if_neg z] at h; cases h
/-- the class takes a number -/
def numT (T : Sh) (M2 : Me) (x0 : Nat) (x2 x3 : Int32) : Option (Int32 × Me) := Option.bind (fX6_kind T M2 x0) fun r3 => if r3 = (1 : Int32) then (Option.bind (gR M2 x0 0) fun a5 => gd (kd T a5 = 8) <| Option.bind (gR M2 a5 2) fun a7 => gd (kd T a7 = 13) <| gv (gI M2 x0 1) (ln T a7) <| lt (gI M2 a7 (Int32.toNatClampNeg (gI M2 x0 1))) fun v10 => if v10 < x2 then (Option.bind (fX6_fail T M2 x0 (3 : Int32)) <| un2 fun _u M12 => some (x2, M12)) else (if v10 ≤ x3 then (lt (pI M2 x0 1 ((gI M2 x0 1) + (1 : Int32))) fun M14 => some (v10, M14)) else (Option.bind (fX6_fail T M2 x0 (3 : Int32)) <| un2 fun _u M15 => some (x2, M15)))) else (Option.bind (fX6_fail T M2 x0 (2 : Int32)) <| un2 fun _u M16 => some (x2, M16))
theorem num_eq {x1 x2 x3 : Int32} {x0 : Nat} : fX6_numberBehind T M x0 x1 x2 x3 = gd (kd T x0 = 5) (Option.bind (fX6_expect T M x0 x1) (un2 fun _u M2 => numT T M2 x0 x2 x3)) := rfl
theorem k_num {lo hi : Nat} (h : CBq x n N b T i M) (hl : lo < 1000) (hh : hi < 1000) : Ok (numT T M (x + 2) (nI lo) (nI hi)) (fun p => (nfl n b i lo hi = none → p.1 = nI (tV b n i)) ∧ CBF x n N b T (i + 1) (nfl n b i lo hi) p.2 ∧ LFr x M p.2) := by
  have h9 := h.n9
  unfold numT
  rw [k_kind h, Option.bind_some, ck_lit (c := 1) (k := 25) rfl (by unfold vk; omega)]
  by_cases z : tK b n i = 25
  · have hv := tV_b z
    have hp := h.1
    rw [if_pos z, hp.r2_0, Option.bind_some, hp.k3, gdI, hp.r3_2, Option.bind_some, hp.k6, gdI, h.2.2.1, hp.l6, gvI (by omega) (by omega), lte, cl_nI (by omega), (h.2.1 i (by have := h.2.2.2.2.1; omega)).2.2 z, ite_lt (by omega) (by omega), ite_le (by omega) (by omega)]
    have bad : ¬ (lo ≤ tV b n i ∧ tV b n i ≤ hi) → Ok (Option.bind (fX6_fail T M (x + 2) (3 : Int32)) <| un2 fun _u M12 => some (nI lo, M12)) (fun p => (nfl n b i lo hi = none → p.1 = nI (tV b n i)) ∧ CBF x n N b T (i + 1) (nfl n b i lo hi) p.2 ∧ LFr x M p.2) := fun w => by
      have e : nfl n b i lo hi = some (3, tP b n i) := by unfold nfl; rw [if_pos z, if_neg w]
      rw [e, i_3]
      refine Ok.bd (k_fail h (by omega) (by omega)) (fun p hq => ?_)
      obtain ⟨p1, M2⟩ := p
      obtain ⟨h1, f1, _⟩ := hq
      have h1 : CFl x T (fkd n b i 3) (tP b n i) M2 := h1
      rw [une2]
      refine ok_i ⟨fun q => (by cases q), ?_, f1⟩
      show CFl x T 3 (tP b n i) M2
      have e3 : fkd n b i 3 = 3 := by unfold fkd; rw [if_neg (by omega)]
      rw [e3] at h1; exact h1
    by_cases y1 : tV b n i < lo
    · rw [if_pos y1]; exact bad (by omega)
    · rw [if_neg y1]
      by_cases y2 : tV b n i ≤ hi
      · have e : nfl n b i lo hi = none := by unfold nfl; rw [if_pos z, if_pos ⟨by omega, y2⟩]
        obtain ⟨a1, a2⟩ := k_next h (by omega) (by omega)
        rw [if_pos y2, lte, ← h.2.2.1, e]
        exact ok_i ⟨fun _ => rfl, a1, a2⟩
      · rw [if_neg y2]; exact bad (by omega)
  · have e : nfl n b i lo hi = some (fkd n b i 2, tP b n i) := by unfold nfl; rw [if_neg z]
    rw [if_neg z, e, i_2]
    refine Ok.bd (k_fail h (by omega) (by omega)) (fun p hq => ?_)
    obtain ⟨p1, M2⟩ := p
    obtain ⟨h1, f1, _⟩ := hq
    rw [une2]
    exact ok_i ⟨fun q => (by cases q), h1, f1⟩
theorem k_numF {x2 x3 : Int32} (hp : PX x T M) (h : gI M (x + 2) 2 ≠ 0) : numT T M (x + 2) x2 x3 = some (x2, M) := by
  unfold numT
  rw [k_kindF hp h, Option.bind_some, if_neg (by decide), k_failF hp h, Option.bind_some, une2]
theorem r_num {lo hi : Nat} (h : RBq m n N b T i M) (hl : lo < 1000) (hh : hi < 1000) : Ok (fX12_takes T M m (nI lo) (nI hi)) (fun p => (nfl n b i lo hi = none → p.1 = nI (tV b n i)) ∧ RBF m n N b T (i + 1) (nfl n b i lo hi) p.2 ∧ FI m (rh m) M p.2) := by
  unfold fX12_takes
  rw [h.1.1.k, gdI, r_is h i_25 (by omega), Option.bind_some]
  by_cases z : tK b n i = 25
  · have hv := tV_b z
    rw [if_pos z, if_neg (by decide), h.2.2.2.2.1 z]
    by_cases y : lo ≤ tV b n i ∧ tV b n i ≤ hi
    · have e : nfl n b i lo hi = none := by unfold nfl; rw [if_pos z, if_pos y]
      rw [wi_1 (by rw [Int32.toInt_toInt64, Int32.toInt_toInt64, Int32.toInt_toInt64, nI_toInt (by omega), nI_toInt (by omega), nI_toInt (by omega)]; omega), Option.bind_some, if_neg (by decide), lte, h.2.2.2.2.2.1, if_pos rfl, e]
      refine Ok.bd (r_next h (by omega) (by omega)) (fun p hp => ?_)
      obtain ⟨p1, M2⟩ := p
      rw [une2]
      exact ok_i ⟨fun _ => rfl, hp.1, hp.2.wide (fun a k z => rh_tq z)⟩
    · have e : nfl n b i lo hi = some (3, tP b n i) := by unfold nfl; rw [if_pos z, if_neg y]
      rw [wi_0 (by rw [Int32.toInt_toInt64, Int32.toInt_toInt64, Int32.toInt_toInt64, nI_toInt (by omega), nI_toInt (by omega), nI_toInt (by omega)]; omega), Option.bind_some, if_pos rfl, i_3, e]
      refine Ok.bd (r_failsh h (by omega) (by omega)) (fun p hp => ?_)
      obtain ⟨p1, M2⟩ := p
      obtain ⟨h1, f1⟩ := hp
      have h1 : RFl m T (fkd n b i 3) (tP b n i) M2 := h1
      rw [une2, lte, if_neg h1.ne]
      have e3 : fkd n b i 3 = 3 := by unfold fkd; rw [if_neg (by omega)]
      rw [e3] at h1
      exact ok_i ⟨fun q => (by cases q), h1, f1⟩
  · have e : nfl n b i lo hi = some (fkd n b i 2, tP b n i) := by unfold nfl; rw [if_neg z]
    rw [if_neg z, if_pos rfl, i_2, e]
    refine Ok.bd (r_failsh h (by omega) (by omega)) (fun p hp => ?_)
    obtain ⟨p1, M2⟩ := p
    obtain ⟨h1, f1⟩ := hp
    have h1 : RFl m T (fkd n b i 2) (tP b n i) M2 := h1
    rw [une2, lte, if_neg h1.ne]
    exact ok_i ⟨fun q => (by cases q), h1, f1⟩
theorem r_numF {x2 x3 : Int32} (hm : RM m T M) (h : gI M m 11 ≠ 0) : fX12_takes T M m x2 x3 = some (gI M m 10, M) := by
  unfold fX12_takes
  rw [hm.k, gdI, r_isF hm h, Option.bind_some, if_pos rfl, r_failsF hm h, Option.bind_some, une2, lte, if_neg h]
/-- what a word and a number behind it come to -/
def wfl (n : Nat) (b : Nat → Nat) (i k lo hi : Nat) (fl : Option (Nat × Nat)) : Option (Nat × Nat) := match fl with
  | some f => some f
  | none => if tK b n i = k then nfl n b (i + 1) lo hi else some (fkd n b i 2, tP b n i)
theorem wfl_0 {k lo hi : Nat} {fl : Option (Nat × Nat)} (h : wfl n b i k lo hi fl = none) : fl = none ∧ tK b n i = k ∧ tK b n (i + 1) = 25 ∧ lo ≤ tV b n (i + 1) ∧ tV b n (i + 1) ≤ hi := by
  cases fl with
  | some f => cases h
  | none =>
    unfold wfl at h
    by_cases z : tK b n i = k
    · simp only at h
      rw [if_pos z] at h
      exact ⟨rfl, z, nfl_0 h⟩
    · simp only at h
      rw [if_neg z] at h; cases h
theorem k_named {k lo hi : Nat} {kk : Int32} {fl : Option (Nat × Nat)} (h : CBF x n N b T i fl M) (ek : kk = ck k) (hk : k < 23) (hl : lo < 1000) (hh : hi < 1000) : Ok (fX6_numberBehind T M (x + 2) kk (nI lo) (nI hi)) (fun p => (wfl n b i k lo hi fl = none → p.1 = nI (tV b n (i + 1))) ∧ CBF x n N b T (i + 2) (wfl n b i k lo hi fl) p.2 ∧ LFr x M p.2) := by
  rw [num_eq, h.px.k2, gdI]
  cases fl with
  | some f =>
    have h : CFl x T f.1 f.2 M := h
    rw [k_expectF h.1 h.ne ek (by omega), Option.bind_some, une2, k_numF h.1 h.ne]
    exact ok_i ⟨fun q => (by cases q), h, LFr.rfl⟩
  | none =>
    have h : CBq x n N b T i M := h
    by_cases z : tK b n i = k
    · obtain ⟨a1, a2⟩ := k_next h (by omega) (by omega)
      have e : wfl n b i k lo hi none = nfl n b (i + 1) lo hi := if_pos z
      rw [k_expect1 h ek z (by omega) (by omega), Option.bind_some, une2, e]
      exact (k_num a1 hl hh).mono (fun p hp => ⟨hp.1, hp.2.1, a2.trans hp.2.2⟩)
    · have e : wfl n b i k lo hi none = some (fkd n b i 2, tP b n i) := if_neg z
      rw [e]
      refine Ok.bd (k_expect0 h ek (by unfold vk; omega) z) (fun p hp => ?_)
      obtain ⟨p1, M2⟩ := p
      obtain ⟨h1, f1, _⟩ := hp
      have h1 : CFl x T (fkd n b i 2) (tP b n i) M2 := h1
      rw [une2, k_numF h1.1 h1.ne]
      exact ok_i ⟨fun q => (by cases q), h1, f1⟩
theorem r_named {k lo hi : Nat} {kk : Int32} {fl : Option (Nat × Nat)} (h : RBF m n N b T i fl M) (ek : kk = nI k) (hk : k < 23) (hl : lo < 1000) (hh : hi < 1000) : Ok (fX12_named T M m kk (nI lo) (nI hi)) (fun p => (wfl n b i k lo hi fl = none → p.1 = nI (tV b n (i + 1))) ∧ RBF m n N b T (i + 2) (wfl n b i k lo hi fl) p.2 ∧ FI m (rh m) M p.2) := by
  unfold fX12_named
  rw [h.rm.k, gdI]
  cases fl with
  | some f =>
    have h : RFl m T f.1 f.2 M := h
    rw [r_eatsF h.1 h.ne, Option.bind_some, une2, if_pos rfl, r_failsF h.1 h.ne, Option.bind_some, une2, r_numF h.1 h.ne, Option.bind_some, une2]
    exact ok_i ⟨fun q => (by cases q), h, FI.rfl⟩
  | none =>
    have h : RBq m n N b T i M := h
    by_cases z : tK b n i = k
    · have e : wfl n b i k lo hi none = nfl n b (i + 1) lo hi := if_pos z
      rw [e]
      refine Ok.bd (r_eats1 h ek (by omega) z (by omega) (by omega)) (fun p hp => ?_)
      obtain ⟨p1, M2⟩ := p
      obtain ⟨e1, h1, f1⟩ := hp
      have e1 : p1 = 1 := e1
      rw [une2, e1, if_neg (by decide)]
      refine Ok.bd (r_num h1 hl hh) (fun p hp => ?_)
      obtain ⟨p1, M3⟩ := p
      rw [une2]
      exact ok_i ⟨hp.1, hp.2.1, (f1.wide (fun a k z => rh_tq z)).trans hp.2.2⟩
    · have e : wfl n b i k lo hi none = some (fkd n b i 2, tP b n i) := if_neg z
      rw [e, r_eats0 h ek (by omega) z, Option.bind_some, une2, if_pos rfl, i_2]
      refine Ok.bd (r_failsh h (by omega) (by omega)) (fun p hp => ?_)
      obtain ⟨p1, M2⟩ := p
      obtain ⟨h1, f1⟩ := hp
      have h1 : RFl m T (fkd n b i 2) (tP b n i) M2 := h1
      rw [une2, r_numF h1.1 h1.ne, Option.bind_some, une2]
      exact ok_i ⟨fun q => (by cases q), h1, f1⟩
end
