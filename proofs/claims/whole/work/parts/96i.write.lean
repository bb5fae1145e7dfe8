/-! a number is written -/
def ctv (j : Nat) (v : Int64) : Int64 := if j = 0 then (Int32.toInt64 (Int8.toInt32 (Int32.toInt8 (Int64.toInt32 v)))) else if j = 1 then (Int32.toInt64 (Int16.toInt32 (Int32.toInt16 (Int64.toInt32 v)))) else if j = 2 then (Int32.toInt64 (Int64.toInt32 v)) else v
section
variable {x m : Nat} {A B : Nat → Int32} {T T2 : Sh} {M M1 M2 : Me} {S : Wd}
theorem c_put {t j i : Nat} {v : Int64} (hp : PX x T M) (ht : t < 4) (hj : j < 4) (hi : i < 40) (hs : gI M (x + 51 + 2 * t) 1 = nI j) : fX10_put T M (x + 51 + 2 * t) (nI i) v = some ((), pJ M (x + 52 + 2 * t) i (ctv j v)) := by
  obtain ⟨t1, t2, t3, t4, t5⟩ := hp.tr ht
  unfold fX10_put ctv
  simp (disch := omega) only [gdI, gdT, Option.bind_some, lte, t1, hs, t2, t3, t4, gvI, cl_nI]
  rw [i_0, i_1, i_2, ite_eq (by omega) (by omega), ite_eq (by omega) (by omega), ite_eq (by omega) (by omega)]
  by_cases j0 : j = 0
  · rw [if_pos j0, if_pos j0]
  rw [if_neg j0, if_neg j0]
  by_cases j1 : j = 1
  · rw [if_pos j1, if_pos j1]
  rw [if_neg j1, if_neg j1]
  by_cases j2 : j = 2
  · rw [if_pos j2, if_pos j2]
  · rw [if_neg j2, if_neg j2]
theorem r_cut {j : Nat} {v : Int64} (hj : j < 4) : fX12_cut v (nI j) = some (ctv j v) := by
  unfold fX12_cut ctv
  have L0 : (nI j = (0 : Int32)) ↔ j = 0 := by rw [i_0, c_eq (by omega) (by omega)]
  have L1 : (nI j = (1 : Int32)) ↔ j = 1 := by rw [i_1, c_eq (by omega) (by omega)]
  have L2 : (nI j = (2 : Int32)) ↔ j = 2 := by rw [i_2, c_eq (by omega) (by omega)]
  by_cases j0 : j = 0
  · rw [if_pos (L0.mpr j0), if_pos j0]
  rw [if_neg (fun z => j0 (L0.mp z)), if_neg j0]
  by_cases j1 : j = 1
  · rw [if_pos (L1.mpr j1), if_pos j1]
  rw [if_neg (fun z => j1 (L1.mp z)), if_neg j1]
  by_cases j2 : j = 2
  · rw [if_pos (L2.mpr j2), if_pos j2]
  · rw [if_neg (fun z => j2 (L2.mp z)), if_neg j2]
/-- number i of tray t is v now -/
def nuW (S : Wd) (t i : Nat) (v : Int64) : Wd := trW S t (S.so t) (S.sz t) (fun q => if q = i then v else S.nu t q)
theorem nu_ok {t i : Nat} {v : Int64} (hS : S.ok) (ht : t < 4) (nm : S.sz t ≠ -1) : (nuW S t i v).ok := by
  rcases hS.2.2.2.1 t ht with y | ⟨k, j, hk, ek, hj, ej⟩
  · exact absurd y nm
  · unfold nuW; rw [ek, ej]; exact tr_ok hS hk hj
theorem WC.nu {t i : Nat} {v : Int64} (h : WC x S T M) (ht : t < 4) (nm : S.sz t ≠ -1) : WC x (nuW S t i v) T (pJ M (x + 52 + 2 * t) i v) ∧ CF x M (pJ M (x + 52 + 2 * t) i v) := by
  obtain ⟨q1, q2, q3⟩ := h.2.2.2.2.2.1 t ht
  refine h.tr ht (fun a q z => rfl) (fun a q z => mJJn z) rfl (q2 nm) q1 (fun q hq => ?_)
  rw [mJJ]
  by_cases y : q = i
  · rw [if_pos ⟨rfl, y⟩, if_pos y]
  · rw [if_neg (fun z => y z.2), if_neg y]; exact q3 q hq
theorem WR.nu {t i : Nat} {v : Int64} (hS : S.ok) (h : WR m S T M) (ht : t < 4) (hi : i < 40) (nm : S.sz t ≠ -1) : WR m (nuW S t i v) T (pJ M (m + 18) (40 * t + i) v) ∧ RF m M (pJ M (m + 18) (40 * t + i) v) := by
  obtain ⟨q1, q2, q3⟩ := h.2.2.2.1 t ht
  refine h.tr ht nm hS (fun a q _ _ => rfl) (fun a q z => by rw [mJJ, if_neg (by omega)]) rfl (q2 nm).1 (q2 nm).2 (fun q hq => ?_)
  rw [mJJ]
  by_cases y : q = i
  · rw [if_pos ⟨rfl, by omega⟩, if_pos y]
  · rw [if_neg (by omega), if_neg y]; exact q3 q hq
theorem s_write (hS : S.ok) (a b : Int32) (v : Int64) : QS x S (fun T M => fX11_write T M x a b v) (fun T M => fX12_write T M (x + 69) a b v) := by
  have k0 : (0 : Int64).toInt = 0 := by decide
  have i0 : (0 : Int32).toInt = 0 := by decide
  rcases (ix_I a 4 (by omega)).symm with ha | ⟨t, ht, rfl⟩
  · refine qs_no hS (-2) (fun T M h => ?_) (fun T M h => ?_)
    · show fX11_write T M x a b v = _
      unfold fX11_write
      rw [c_tray0 ha, Option.bind_some, if_neg (by decide)]
    · show fX12_write T M (x + 69) a b v = _
      unfold fX12_write
      rw [h.1.1.k, gdI, lte, r_tray0 ha, Option.bind_some, if_neg (by decide)]
      rfl
  rcases hS.2.2.2.1 t ht with em | ⟨k, j, hk, ek, hj, ej⟩
  · refine qs_no hS (-6) (fun T M h => ?_) (fun T M h => ?_)
    · show fX11_write T M x (nI t) b v = _
      have hp := h.1.px
      obtain ⟨t1, t2, t3, t4, t5⟩ := hp.tr ht
      unfold fX11_write
      rw [c_tray1 ht, Option.bind_some, if_pos rfl]
      simp (disch := omega) only [gdI, gdT, Option.bind_some, lte, hp.k0, hp.r0_9, hp.k50, hp.l50, gvI, cl_nI, t5, t1, c_miss h ht]
      rw [if_pos em, if_neg (by decide)]
    · show fX12_write T M (x + 69) (nI t) b v = _
      unfold fX12_write
      rw [h.1.1.k, gdI, lte, r_tray1 hS h.t0.1 ht, Option.bind_some, if_pos em, if_neg (by decide)]
      rfl
  have nm : ¬ S.sz t = -1 := by rw [ek]; exact i_ne1 _ (by omega)
  have cHead : ∀ T M, WC x S T M → fX11_write T M x (nI t) b v = if b < 0 then (some ((-7 : Int64), M)) else (if b < nI k then (Option.bind (fX10_put T M (x + 51 + 2 * t) b v) <| un2 fun _u M13 => Option.bind (gR M13 (x + 51 + 2 * t) 0) fun a14 => gd (kd T a14 = 14) <| gv b (ln T a14) <| some ((gJ M13 a14 (Int32.toNatClampNeg b)), M13)) else (some ((-7 : Int64), M))) := by
    intro T M h
    have hp := h.1.px
    obtain ⟨t1, t2, t3, t4, t5⟩ := hp.tr ht
    have e2 : gI M (x + 51 + 2 * t) 2 = nI k := (h.2.2.2.2.2.1 t ht).1.trans ek
    unfold fX11_write
    rw [c_tray1 ht, Option.bind_some, if_pos rfl]
    simp (disch := omega) only [gdI, gdT, Option.bind_some, lte, hp.k0, hp.r0_9, hp.k50, hp.l50, gvI, cl_nI, t5, t1, c_miss h ht]
    rw [if_neg nm, if_pos rfl, e2]
  have e17 : ∀ {T M}, WR (x + 69) S T M → gI M (x + 69 + 17) t = nI k := fun h => ((h.2.2.2.1 t ht).2.1 nm).2.trans ek
  have e2 : (nI k - 1).toInt64.toInt = (k : Int) - 1 := by rw [Int32.toInt_toInt64, i_pm (by omega)]
  rcases (ix_I b k (by omega)).symm with hb | ⟨i, hi, rfl⟩
  · refine qs_no hS (-7) (fun T M h => ?_) (fun T M h => ?_)
    · show fX11_write T M x (nI t) b v = _
      rw [cHead T M h]
      by_cases z : b < 0
      · rw [if_pos z]
      · rw [if_neg z, if_neg]
        rw [fa_lt, i0] at z
        rw [fa_lt, nI_toInt (by omega)]; omega
    · show fX12_write T M (x + 69) (nI t) b v = _
      obtain ⟨h0, f0⟩ := h.t0 (v := 0)
      have hM := h0.1.1
      unfold fX12_write
      rw [h.1.1.k, gdI, lte, r_tray1 hS h0 ht, Option.bind_some, if_neg nm, if_pos rfl]
      simp (disch := omega) only [gdI, gdT, Option.bind_some, lte, une2, une3, nI_add, gvI, cl_nI, c_le, c_lt, c_eq, Sum.elim_inl, Sum.elim_inr, hM.k, hM.r17, hM.k17, hM.l17, e17 h0]
      rw [wi_0 (by rw [k0, e2, Int32.toInt_toInt64]; omega), Option.bind_some, if_pos rfl]
  refine ⟨ctv j v, nuW S t i (ctv j v), nu_ok hS ht nm, by show S.c ≤ S.c + 1; omega, fun T M h => ?_, fun T M h => ?_⟩
  · show Ok (fX11_write T M x (nI t) (nI i) v) _
    have hp := h.1.px
    obtain ⟨t1, t2, t3, t4, t5⟩ := hp.tr ht
    rw [cHead T M h, i_0, ite_lt (by omega) (by omega), ite_lt (by omega) (by omega), if_neg (by omega), if_pos hi, c_put hp ht hj (by omega) (((h.2.2.2.2.2.1 t ht).2.1 nm).trans ej), Option.bind_some, une2]
    simp (disch := omega) only [gdI, gdT, Option.bind_some, mRJ, t2, t3, t4, gvI, cl_nI, mJJ1]
    exact ok_i ⟨rfl, h.nu ht nm⟩
  · show Ok (fX12_write T M (x + 69) (nI t) (nI i) v) _
    obtain ⟨h0, f0⟩ := h.t0 (v := 0)
    have hM := h0.1.1
    have e16 : gI (pI M (x + 69) 0 0) (x + 69 + 16) t = nI j := ((h0.2.2.2.1 t ht).2.1 nm).1.trans ej
    unfold fX12_write
    rw [h.1.1.k, gdI, lte, r_tray1 hS h0 ht, Option.bind_some, if_neg nm, if_pos rfl]
    have e17' := e17 h0
    generalize pI M (x + 69) 0 0 = M0 at h0 f0 hM e16 e17' ⊢
    simp (disch := omega) only [gdI, gdT, Option.bind_some, lte, une2, une3, nI_add, gvI, cl_nI, c_le, c_lt, c_eq, Sum.elim_inl, Sum.elim_inr, hM.k, hM.r17, hM.k17, hM.l17, e17']
    rw [wi_1 (by rw [k0, e2, Int32.toInt_toInt64, nI_toInt (by omega)]; omega), Option.bind_some, if_neg (by decide)]
    simp (disch := omega) only [gdI, gdT, Option.bind_some, lte, une2, une3, nI_add, gvI, cl_nI, c_le, c_lt, c_eq, Sum.elim_inl, Sum.elim_inr, hM.k, hM.r16, hM.k16, hM.l16, hM.r18, hM.k18, hM.l18, e16, r_cut hj, i_40, c_mul, mRJ, mJJ1]
    have := h0.nu (v := ctv j v) hS ht (show i < 40 by omega) nm
    exact ok_i ⟨rfl, this.1, f0.trans this.2⟩
end
