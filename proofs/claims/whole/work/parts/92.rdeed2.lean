section
variable {m : Nat} {A B : Nat → Int32} {T : Sh} {M M1 M2 : Me}
theorem elB_c {pm : Nat → Nat → Bool} {k : Nat} : ∀ (N : Nat) (r : Nat × Nat), elB pm k N = some r → r.2 < N
  | 0, r, h => by cases h
  | c + 1, r, h => by
    have h : (if pmc pm c = true then elN (nO pm k c) c (elB pm k c) else elB pm k c) = some r := h
    by_cases z : pmc pm c = true
    · rw [if_pos z] at h
      cases e : elB pm k c with
      | none =>
        rw [e] at h
        have h := Option.some.inj h
        rw [← h]; exact Nat.lt_succ_self _
      | some r' =>
        rw [e] at h
        have h : (if r'.1 < nO pm k c - 1 then some (nO pm k c - 1, c) else some r') = some r := h
        by_cases w : r'.1 < nO pm k c - 1
        · rw [if_pos w] at h
          have h := Option.some.inj h
          rw [← h]; exact Nat.lt_succ_self _
        · rw [if_neg w] at h
          have h := Option.some.inj h
          rw [← h]
          have := elB_c c r' e
          omega
    · rw [if_neg z] at h
      have := elB_c c r h
      omega
theorem trL_c {l w : Nat} (hL : LV A) (hS : SV A) (hl : l < nlA A) (hw : w < 3) : trL A l w = -2 ∨ ∃ c, c < 384 ∧ trL A l w = nI c := by
  have h6 := hL.b3
  have hpt := hS.ptb (l := l) (by omega)
  obtain ⟨ho1, ho9⟩ := hL.b2
  unfold trL
  by_cases w2 : w = 2
  · rw [if_pos w2]
    rcases edI_c (bt (rsA A (eA A) l)) ho1 with q | ⟨d, hd, q⟩
    · rw [q, if_pos rfl]; exact Or.inl rfl
    · rw [q, if_neg (i_ne1 _ (by omega))]; exact Or.inr ⟨_, by omega, nI_add _ _⟩
  · rw [if_neg w2]
    by_cases e0 : ctm (psd A (qA A) (eA A) l) 16 = 0
    · rw [if_pos e0]; exact Or.inl rfl
    · rw [if_neg e0]
      right
      by_cases w0 : w = 0
      · rw [if_pos w0]; exact ⟨_, mid_b (lgR_b A l) (rall_pos e0), rfl⟩
      · rw [if_neg w0]
        have hne := elB_pos (k := asA A) e0
        cases hel : elB (psd A (qA A) (eA A) l) (asA A) 384 with
        | none => exact absurd hel hne
        | some r => exact ⟨r.2, elB_c 384 r hel, rfl⟩
/-- the point that training finds, laid by for the deed -/
def LB (m : Nat) (A : Nat → Int32) (v : Int64) (M : Me) : Prop := 100 ≤ v.toInt → v.toInt ≤ 199 → (dd A v).1 = 0 → gI M m 30 = trL A ((v.toInt.toNat - 100) / 10) (v.toInt.toNat % 10)
theorem wi_1 {v lo hi : Int64} (h : lo.toInt ≤ v.toInt ∧ v.toInt ≤ hi.toInt) : fX12_within v lo hi = some 1 := by rw [within_I, decide_eq_true h]; rfl
theorem wi_0 {v lo hi : Int64} (h : ¬ (lo.toInt ≤ v.toInt ∧ v.toInt ≤ hi.toInt)) : fX12_within v lo hi = some 0 := by rw [within_I, decide_eq_false h]; rfl
theorem r_whyNot (h : RV m A T M) (v : Int64) : Ok (fX12_whyNot T M m v) (fun p => p.1 = (dd A v).1 ∧ FI m (kf m) M p.2 ∧ LB m A v p.2) := by
  have hM := h.rm
  have h6 := h.lv.b3
  have h4 := h.lv.b4
  have c0 : (0 : Int64).toInt = 0 := by decide
  have c1 : (1 : Int64).toInt = 1 := by decide
  have cm : (-1 : Int64).toInt = -1 := by decide
  have c10 : (10 : Int64).toInt = 10 := by decide
  have c14 : (14 : Int64).toInt = 14 := by decide
  have c100 : (100 : Int64).toInt = 100 := by decide
  have c199 : (199 : Int64).toInt = 199 := by decide
  have c10k : (10000 : Int64).toInt = 10000 := by decide
  have c15k : (15999 : Int64).toInt = 15999 := by decide
  have k10 : (10 : Int64) = lN 10 := by decide
  have k11 : (11 : Int64) = lN 11 := by decide
  have k100 : (100 : Int64) = lN 100 := by decide
  have k1000 : (1000 : Int64) = lN 1000 := by decide
  have k10000 : (10000 : Int64) = lN 10000 := by decide
  have fin : ∀ r : Int32, r = (dd A v).1 → ¬ (100 ≤ v.toInt ∧ v.toInt ≤ 199) → Ok (some (r, M)) (fun p => p.1 = (dd A v).1 ∧ FI m (kf m) M p.2 ∧ LB m A v p.2) := fun r e n => ok_i ⟨e, FI.rfl, fun q1 q2 => absurd ⟨q1, q2⟩ n⟩
  unfold fX12_whyNot
  by_cases a1 : 0 ≤ v.toInt ∧ v.toInt ≤ 1
  · rw [wi_1 (by rw [c0, c1]; exact a1), Option.bind_some, if_neg (by decide)]
    refine fin _ ?_ (by omega)
    unfold dd
    by_cases z : v.toInt = 0
    · rw [if_pos z]
    · rw [if_neg z, if_pos (by omega)]
  rw [wi_0 (by rw [c0, c1]; exact a1), Option.bind_some, if_pos rfl]
  have v0 : ¬ v.toInt = 0 := by omega
  have v1 : ¬ v.toInt = 1 := by omega
  by_cases a2 : 10 ≤ v.toInt ∧ v.toInt ≤ 14
  · rw [wi_1 (by rw [c10, c14]; exact a2), Option.bind_some, if_neg (by decide)]
    have edd : dd A v = (if v.toInt.toNat - 10 ≤ npA A then (0, upA A 49 (v.toInt32 - 11)) else (1, A)) := by
      unfold dd; rw [if_neg v0, if_neg v1, if_pos a2]
    simp (disch := omega) only [gdI, gdT, Option.bind_some, lte, une2, une3, nI_add, gvI, cl_nI, c_le, c_lt, c_eq, Sum.elim_inl, Sum.elim_inr, hM.k, hM.r1, hM.k1, hM.l1, i_4, h.al, h.lv.n4]
    have e1 : (v - 11).toInt = v.toInt - 11 := by
      have hv : v = lN v.toInt.toNat := l_of (by omega)
      have b1 : 10 ≤ v.toInt.toNat := by omega
      have b2 : v.toInt.toNat ≤ 14 := by omega
      generalize v.toInt.toNat = n at hv b1 b2
      subst hv
      rcases (by omega : n = 10 ∨ n = 11 ∨ n = 12 ∨ n = 13 ∨ n = 14) with rfl | rfl | rfl | rfl | rfl <;> decide
    have e2 : (nI (npA A) - 1).toInt64.toInt = (npA A : Int) - 1 := by rw [Int32.toInt_toInt64, i_pm (by omega)]
    by_cases q : v.toInt.toNat - 10 ≤ npA A
    · rw [wi_1 (by rw [cm, e1, e2]; omega), Option.bind_some, if_neg (by decide)]
      exact fin _ (by rw [edd, if_pos q]) (by omega)
    · rw [wi_0 (by rw [cm, e1, e2]; omega), Option.bind_some, if_pos rfl]
      exact fin _ (by rw [edd, if_neg q]) (by omega)
  rw [wi_0 (by rw [c10, c14]; exact a2), Option.bind_some, if_pos rfl]
  by_cases a3 : 100 ≤ v.toInt ∧ v.toInt ≤ 199
  · rw [wi_1 (by rw [c100, c199]; exact a3), Option.bind_some, if_neg (by decide)]
    have edd : dd A v = (if (v.toInt.toNat - 100) / 10 < nlA A ∧ v.toInt.toNat % 10 < 3 then (if trL A ((v.toInt.toNat - 100) / 10) (v.toInt.toNat % 10) = -2 then (2, A) else (0, upA A (42 + (v.toInt.toNat - 100) / 10) (trL A ((v.toInt.toNat - 100) / 10) (v.toInt.toNat % 10)))) else (1, A)) := by
      unfold dd; rw [if_neg v0, if_neg v1, if_neg a2, if_pos a3]
    rw [hM.k, gdI]
    unfold LB
    generalize hn : v.toInt.toNat = n at *
    have hv : v = lN n := by rw [← hn]; exact l_of (by omega)
    have hn2 : n < 2147483648 := by omega
    rw [hv, k100, k10, l_sub (by omega), l_div (by omega) (by omega), l_rem hn2 (by omega), ← hv]
    by_cases q : (n - 100) / 10 < nlA A ∧ n % 10 < 3
    · rw [if_pos q] at edd
      refine Ok.bd (r_why h q.1 q.2) (fun p hq => ?_)
      obtain ⟨p1, M2⟩ := p
      obtain ⟨rfl, g, f⟩ := hq
      rw [une2]
      by_cases z : trL A ((n - 100) / 10) (n % 10) = -2
      · rw [if_pos z] at edd
        rw [if_pos z, edd]
        exact ok_i ⟨rfl, f, fun _ _ w => absurd (show (2 : Int32) = 0 from w) (by decide)⟩
      · rw [if_neg z] at edd
        rw [if_neg z, edd]
        exact ok_i ⟨rfl, f, fun _ _ _ => g z⟩
    · rw [if_neg q] at edd
      rw [r_why0 h (by rw [pf_lI (by omega), pf_lI (by omega)]; omega), Option.bind_some, une2, edd]
      exact ok_i ⟨rfl, FI.rfl, fun _ _ w => absurd (show (1 : Int32) = 0 from w) (by decide)⟩
  rw [wi_0 (by rw [c100, c199]; exact a3), Option.bind_some, if_pos rfl]
  by_cases a4 : 10000 ≤ v.toInt ∧ v.toInt ≤ 15999
  · rw [wi_1 (by rw [c10k, c15k]; exact a4), Option.bind_some, if_neg (by decide)]
    have edd : dd A v = if (v.toInt.toNat - 10000) / 1000 < nlA A ∧ v.toInt.toNat % 1000 < 384 then (0, upA A (42 + (v.toInt.toNat - 10000) / 1000) (nI (v.toInt.toNat % 1000))) else (1, A) := by
      unfold dd; rw [if_neg v0, if_neg v1, if_neg a2, if_neg a3, if_pos a4]
    rw [hM.k, gdI, r_isLane h, r_cell]
    have hn : v.toInt.toNat < 2147483648 := by omega
    have hn0 : 10000 ≤ v.toInt.toNat := by omega
    have hv : v = lN v.toInt.toNat := l_of (by omega)
    have e1 : ((v - 10000) / 1000).toInt = ((v.toInt.toNat - 10000) / 1000 : Nat) := by
      generalize v.toInt.toNat = n at *
      rw [hv, k10000, k1000, l_sub (by omega), l_div (by omega) (by omega), pf_lI (by omega)]
    have e2 : (v - v / 1000 * 1000).toInt = (v.toInt.toNat % 1000 : Nat) := by
      generalize v.toInt.toNat = n at *
      rw [hv, k1000, l_rem (by omega) (by omega), pf_lI (by omega)]
    rw [e1, e2, Option.bind_some]
    by_cases q : (v.toInt.toNat - 10000) / 1000 < nlA A
    · rw [decide_eq_true (by omega), if_neg (by decide), Option.bind_some]
      by_cases q2 : v.toInt.toNat % 1000 < 384
      · rw [decide_eq_true (by omega), if_neg (by decide)]
        exact fin _ (by rw [edd, if_pos ⟨q, q2⟩]) a3
      · rw [decide_eq_false (by omega), if_pos (b2_ne.mpr rfl)]
        exact fin _ (by rw [edd, if_neg (by omega)]) a3
    · rw [decide_eq_false (by omega), if_pos (b2_ne.mpr rfl)]
      exact fin _ (by rw [edd, if_neg (by omega)]) a3
  · rw [wi_0 (by rw [c10k, c15k]; exact a4), Option.bind_some, if_pos rfl]
    refine fin _ ?_ a3
    unfold dd
    rw [if_neg v0, if_neg v1, if_neg a2, if_neg a3, if_neg a4]
theorem r_does (h : RV m A T M) (ht : tmA A + 1 ≤ 1000000) (v : Int64) (hd : (dd A v).1 = 0) (lb : LB m A v M) : Ok (fX12_does T M m v.toInt32) (fun p => FI m (df m) M p.2 ∧ RV m (dd A v).2 T p.2) := by
  have hM := h.rm
  have h6 := h.lv.b3
  have h4 := h.lv.b4
  have hS := h.sv
  have w0 : 0 ≤ v.toInt := by
    by_cases z : 0 ≤ v.toInt
    · exact z
    · exfalso; unfold dd at hd; rw [if_neg (by omega), if_neg (by omega), if_neg (by omega), if_neg (by omega), if_neg (by omega)] at hd; exact absurd (show (1 : Int32) = 0 from hd) (by decide)
  have w1 : v.toInt ≤ 15999 := by
    by_cases z : v.toInt ≤ 15999
    · exact z
    · exfalso; unfold dd at hd; rw [if_neg (by omega), if_neg (by omega), if_neg (by omega), if_neg (by omega), if_neg (by omega)] at hd; exact absurd (show (1 : Int32) = 0 from hd) (by decide)
  have e32 : v.toInt32 = nI v.toInt.toNat := by
    have hv : v = lN v.toInt.toNat := l_of w0
    have hn : v.toInt.toNat < 2147483648 := by omega
    generalize v.toInt.toNat = n at *
    rw [hv]; exact l_32 hn
  unfold LB at lb
  unfold dd at hd lb ⊢
  unfold fX12_does
  rw [e32] at hd lb ⊢
  have hvi : v.toInt = (v.toInt.toNat : Int) := by omega
  generalize hn : v.toInt.toNat = n at *
  rw [hvi] at hd lb ⊢
  have hb : n ≤ 15999 := by omega
  clear hvi hn e32 w0 w1
  have L2 : (2 : Int32) ≤ nI n ↔ 2 ≤ n := by rw [i_2, c_le (by omega) (by omega)]
  have L15 : (15 : Int32) ≤ nI n ↔ 15 ≤ n := by rw [i_15, c_le (by omega) (by omega)]
  have L200 : (200 : Int32) ≤ nI n ↔ 200 ≤ n := by rw [i_200, c_le (by omega) (by omega)]
  by_cases z0 : n = 0
  · subst z0
    have g := r_goesTick h ht 0 (by omega)
    rw [if_neg (show ¬ (2 : Int32) ≤ nI 0 by decide), if_neg (show ¬ nI 0 = (1 : Int32) by decide), if_pos (show ((0 : Nat) : Int) = 0 from rfl), hM.k, gdI]
    refine Ok.bd g (fun p hq => ?_)
    exact ok_i hq
  by_cases z1 : n = 1
  · subst z1
    have g := r_goesTick h ht 1 (by omega)
    rw [if_neg (show ¬ (2 : Int32) ≤ nI 1 by decide), if_pos (show nI 1 = (1 : Int32) by decide), if_neg (show ¬ ((1 : Nat) : Int) = 0 by decide), if_pos (show ((1 : Nat) : Int) = 1 from rfl), hM.k, gdI]
    refine Ok.bd g (fun p hq => ?_)
    exact ok_i hq
  rw [if_neg (show ¬ (n : Int) = 0 by omega), if_neg (show ¬ (n : Int) = 1 by omega)] at hd lb ⊢
  rw [if_pos (L2.mpr (by omega))]
  by_cases a2 : 10 ≤ (n : Int) ∧ (n : Int) ≤ 14
  · rw [if_pos a2] at hd ⊢
    rw [if_neg (fun z => absurd (L15.mp z) (by omega))]
    by_cases q : n - 10 ≤ npA A
    · rw [if_pos q]
      have ep : nI n - 11 + 1 = nI (n - 10) := by
        rw [i_sub1a, nI_1, i_11, c_sub (by omega), show n + 1 - 11 = n - 10 by omega]
      simp (disch := omega) only [gdI, gdT, Option.bind_some, lte, une2, une3, nI_add, gvI, cl_nI, c_le, c_lt, c_eq, Sum.elim_inl, Sum.elim_inr, hM.k, hM.r1, hM.k1, hM.l1, i_49]
      obtain ⟨g1, g2⟩ := h.up (k := 49) (v := nI n - 11) (by omega) (by omega) (hS.pat h.lv ep q)
      exact ok_i ⟨g2, g1⟩
    · rw [if_neg q] at hd; exact absurd (show (1 : Int32) = 0 from hd) (by decide)
  rw [if_neg a2] at hd lb ⊢
  by_cases a3 : 100 ≤ (n : Int) ∧ (n : Int) ≤ 199
  · rw [if_pos a3] at hd lb ⊢
    rw [if_pos (L15.mpr (by omega)), if_neg (fun z => absurd (L200.mp z) (by omega))]
    by_cases q : (n - 100) / 10 < nlA A ∧ n % 10 < 3
    · rw [if_pos q] at hd lb ⊢
      by_cases z : trL A ((n - 100) / 10) (n % 10) = -2
      · rw [if_pos z] at hd; exact absurd (show (2 : Int32) = 0 from hd) (by decide)
      rw [if_neg z] at hd lb ⊢
      have el := lb a3.1 a3.2 rfl
      rw [i_100, i_10, c_sub (by omega), c_div (by omega) (by omega) (by omega)]
      simp (disch := omega) only [gdI, gdT, Option.bind_some, lte, une2, une3, nI_add, gvI, cl_nI, c_le, c_lt, c_eq, Sum.elim_inl, Sum.elim_inr, hM.k, hM.r1, hM.k1, hM.l1, i_42, el]
      have hc : ∃ c, c < 384 ∧ trL A ((n - 100) / 10) (n % 10) = nI c := by
        rcases trL_c h.lv h.sv q.1 q.2 with e | e
        · exact absurd e z
        · exact e
      obtain ⟨c, hc, ec⟩ := hc
      rw [ec]
      obtain ⟨g1, g2⟩ := h.up (k := 42 + (n - 100) / 10) (v := nI c) (by omega) (by omega) (hS.pts h.lv (by omega) hc)
      exact ok_i ⟨g2, g1⟩
    · rw [if_neg q] at hd; exact absurd (show (1 : Int32) = 0 from hd) (by decide)
  rw [if_neg a3] at hd lb ⊢
  by_cases a4 : 10000 ≤ (n : Int) ∧ (n : Int) ≤ 15999
  · rw [if_pos a4] at hd lb ⊢
    rw [if_pos (L15.mpr (by omega)), if_pos (L200.mpr (by omega))]
    by_cases q : (n - 10000) / 1000 < nlA A ∧ n % 1000 < 384
    · rw [if_pos q]
      rw [i_10000, i_1000, c_sub (by omega), c_rem (by omega) (by omega) (by omega), c_div (by omega) (by omega) (by omega)]
      simp (disch := omega) only [gdI, gdT, Option.bind_some, lte, une2, une3, nI_add, gvI, cl_nI, c_le, c_lt, c_eq, Sum.elim_inl, Sum.elim_inr, hM.k, hM.r1, hM.k1, hM.l1, i_42]
      obtain ⟨g1, g2⟩ := h.up (k := 42 + (n - 10000) / 1000) (v := nI (n % 1000)) (by omega) (by omega) (hS.pts h.lv (by omega) q.2)
      exact ok_i ⟨g2, g1⟩
    · rw [if_neg q] at hd; exact absurd (show (1 : Int32) = 0 from hd) (by decide)
  · rw [if_neg a4] at hd; exact absurd (show (1 : Int32) = 0 from hd) (by decide)
end
