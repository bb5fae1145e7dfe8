/-! what the reference keeps for undoing -/
def RW (m : Nat) (R : Nat → Int32) (T : Sh) (M : Me) : Prop := RM m T M ∧ ∀ k, k < 1032 → gI M (m + 1) k = R k
def WZ (m : Nat) (w : Nat → Int32) (M : Me) : Prop := ∀ k, k < 8 → gI M (m + 8) k = w k
section
variable {m u v : Nat} {A R S w : Nat → Int32} {T : Sh} {M M1 M2 : Me}
theorem RV.rw (h : RV m A T M) : RW m A T M := ⟨h.rm, fun _ hk => h.al hk⟩
theorem RW.up {k : Nat} {z : Int32} (h : RW m R T M) (e : ∀ j, j < 1032 → S j = if j = k then z else R j) : RW m S T (pI M (m + 1) k z) := ⟨h.1.fr (fun _ => rfl), fun j hj => by
  rw [mII, e j hj]
  by_cases q : j = k
  · rw [if_pos ⟨rfl, q⟩, if_pos q]
  · rw [if_neg (fun y => q y.2), if_neg q]; exact h.2 j hj⟩
theorem RW.eq (h : RW m R T M) (e : ∀ j, j < 1032 → S j = R j) : RW m S T M := ⟨h.1, fun j hj => (h.2 j hj).trans (e j hj).symm⟩
theorem WZ.fi {P : Nat → Nat → Prop} (h : WZ m w M) (f : FI m P M M2) (n : ∀ k, ¬ P (m + 8) k) : WZ m w M2 := fun k hk => (f.1 _ _ (n k)).trans (h k hk)
theorem r_stores (h : RW m R T M) : Ok (fX12_stores T M m) (fun p => WZ m (fun k => R (42 + k)) p.2 ∧ FI m (fun a _ => a = m + 8) M p.2) := by
  unfold fX12_stores
  refine Ok.bd (ok_forF (s := ((0 : Int32), M)) 0 8 (fun i s => ∃ M', s = (nI i, M') ∧ FI m (fun a _ => a = m + 8) M M' ∧ ∀ k, k < i → gI M' (m + 8) k = R (42 + k)) (fun M' => WZ m (fun k => R (42 + k)) M' ∧ FI m (fun a _ => a = m + 8) M M') ⟨M, rfl, FI.rfl, fun _ hk => absurd hk (by omega)⟩ (by omega) (by omega) (fun i s _ hi hI => ?_) (fun s hI => ?_)) (fun p hq => ok_i hq)
  · obtain ⟨M', rfl, f, g⟩ := hI
    have hM := h.1.fr (M' := M') (fun k => f.2.2 m k (by omega))
    show Ok (bX12_stores_2 T m (nI i) M') _
    have e : gI M' (m + 1) (42 + i) = R (42 + i) := (f.1 _ _ (by omega)).trans (h.2 _ (by omega))
    unfold bX12_stores_2
    simp (disch := omega) only [gdI, gdT, Option.bind_some, lte, une2, une3, nI_add, gvI, cl_nI, c_le, c_lt, c_eq, Sum.elim_inl, Sum.elim_inr, hM.k, hM.r1, hM.k1, hM.l1, hM.r8, hM.k8, hM.l8, i_8, i_42, Nat.not_le.mpr hi, if_false, nI_1, e]
    refine ok_i ⟨_, rfl, f.pI rfl, fun k hk => ?_⟩
    rw [mII]
    by_cases z : k = i
    · rw [if_pos ⟨rfl, z⟩, z]
    · rw [if_neg (fun y => z y.2)]; exact g k (by omega)
  · obtain ⟨M', rfl, f, g⟩ := hI
    show Ok (bX12_stores_2 T m (nI 8) M') _
    unfold bX12_stores_2
    simp (disch := omega) only [i_8, c_le, Nat.le_refl, if_true]
    exact ok_i ⟨g, f⟩
def agA (A w : Nat → Int32) (i : Nat) : Nat → Int32 := fun j => if 42 ≤ j ∧ j < 42 + i then w (j - 42) else A j
theorem r_isAgain (h : RW m R T M) (hw : WZ m w M) : Ok (fX12_isAgain T M m) (fun p => RW m (agA R w 8) T p.2 ∧ FI m (fun a k => a = m + 1 ∧ 42 ≤ k ∧ k < 50) M p.2) := by
  unfold fX12_isAgain
  refine Ok.bd (ok_forF (s := ((0 : Int32), M)) 0 8 (fun i s => ∃ M', s = (nI i, M') ∧ FI m (fun a k => a = m + 1 ∧ 42 ≤ k ∧ k < 50) M M' ∧ RW m (agA R w i) T M') (fun M' => RW m (agA R w 8) T M' ∧ FI m (fun a k => a = m + 1 ∧ 42 ≤ k ∧ k < 50) M M') ⟨M, rfl, FI.rfl, h.eq (fun j _ => if_neg (by omega))⟩ (by omega) (by omega) (fun i s _ hi hI => ?_) (fun s hI => ?_)) (fun p hq => ok_i hq)
  · obtain ⟨M', rfl, f, g⟩ := hI
    have hM := g.1
    have e : gI M' (m + 8) i = w i := (hw.fi f (fun k => by omega)) i (by omega)
    show Ok (bX12_isAgain_2 T m (nI i) M') _
    unfold bX12_isAgain_2
    simp (disch := omega) only [gdI, gdT, Option.bind_some, lte, une2, une3, nI_add, gvI, cl_nI, c_le, c_lt, c_eq, Sum.elim_inl, Sum.elim_inr, hM.k, hM.r1, hM.k1, hM.l1, hM.r8, hM.k8, hM.l8, i_8, i_42, Nat.not_le.mpr hi, if_false, nI_1, e]
    refine ok_i ⟨_, rfl, f.pI ⟨rfl, by omega, by omega⟩, g.up (fun j hj => ?_)⟩
    unfold agA
    by_cases z : j = 42 + i
    · rw [if_pos (by omega), if_pos z, z, show 42 + i - 42 = i by omega]
    · rw [if_neg z]
      by_cases y : 42 ≤ j ∧ j < 42 + i
      · rw [if_pos y, if_pos (by omega)]
      · rw [if_neg y, if_neg (by omega)]
  · obtain ⟨M', rfl, f, g⟩ := hI
    show Ok (bX12_isAgain_2 T m (nI 8) M') _
    unfold bX12_isAgain_2
    simp (disch := omega) only [i_8, c_le, Nat.le_refl, if_true]
    exact ok_i ⟨g, f⟩
def uf (m a k : Nat) : Prop := a = m + 1 ∧ 50 ≤ k ∧ k < 131
def pnA (R w : Nat → Int32) (v i : Nat) : Nat → Int32 := fun j => if 51 + 8 * v ≤ j ∧ j < 51 + 8 * v + i then w (j - (51 + 8 * v)) else R j
theorem r_notes2 (h : RW m R T M) (hw : WZ m w M) (hv : v < 10) (h50 : R 50 = nI v) : Ok (jX12_notes_55 T M m) (fun p => RW m (upA (pnA R w v 8) 50 (nI (v + 1))) T p.2 ∧ FI m (uf m) M p.2) := by
  unfold jX12_notes_55
  refine Ok.bd (ok_forF (s := ((0 : Int32), M)) 0 8 (fun i s => ∃ M', s = (nI i, M') ∧ FI m (uf m) M M' ∧ RW m (pnA R w v i) T M') (fun M' => FI m (uf m) M M' ∧ RW m (pnA R w v 8) T M') ⟨M, rfl, FI.rfl, h.eq (fun j _ => if_neg (by omega))⟩ (by omega) (by omega) (fun i s _ hi hI => ?_) (fun s hI => ?_)) (fun M' hq => ?_)
  · obtain ⟨M', rfl, f, g⟩ := hI
    have hM := g.1
    have e : gI M' (m + 8) i = w i := (hw.fi f (fun k => by unfold uf; omega)) i (by omega)
    have e50 : gI M' (m + 1) 50 = nI v := (g.2 50 (by omega)).trans ((if_neg (by omega)).trans h50)
    show Ok (bX12_notes_57 T m (nI i) M') _
    unfold bX12_notes_57
    simp (disch := omega) only [gdI, gdT, Option.bind_some, lte, une2, une3, nI_add, gvI, cl_nI, c_le, c_lt, c_eq, Sum.elim_inl, Sum.elim_inr, hM.k, hM.r1, hM.k1, hM.l1, hM.r8, hM.k8, hM.l8, i_8, i_50, i_51, Nat.not_le.mpr hi, if_false, nI_1, e, e50, c_mul]
    refine ok_i ⟨_, rfl, f.pI ⟨rfl, by omega, by omega⟩, g.up (fun j hj => ?_)⟩
    unfold pnA
    by_cases z : j = 51 + 8 * v + i
    · rw [if_pos (by omega), if_pos z, z, show 51 + 8 * v + i - (51 + 8 * v) = i by omega]
    · rw [if_neg z]
      by_cases y : 51 + 8 * v ≤ j ∧ j < 51 + 8 * v + i
      · rw [if_pos y, if_pos (by omega)]
      · rw [if_neg y, if_neg (by omega)]
  · obtain ⟨M', rfl, f, g⟩ := hI
    show Ok (bX12_notes_57 T m (nI 8) M') _
    unfold bX12_notes_57
    simp (disch := omega) only [i_8, c_le, Nat.le_refl, if_true]
    exact ok_i ⟨f, g⟩
  · obtain ⟨f, g⟩ := hq
    have hM := g.1
    have e50 : gI M' (m + 1) 50 = nI v := (g.2 50 (by omega)).trans ((if_neg (by omega)).trans h50)
    simp (disch := omega) only [gdI, gdT, Option.bind_some, lte, une2, une3, nI_add, gvI, cl_nI, c_le, c_lt, c_eq, Sum.elim_inl, Sum.elim_inr, hM.k, hM.r1, hM.k1, hM.l1, i_50, e50, nI_1]
    exact ok_i ⟨g.up (fun j hj => rfl), f.pI ⟨rfl, by omega, by omega⟩⟩
def shA (A : Nat → Int32) (i : Nat) : Nat → Int32 := fun j => if 51 ≤ j ∧ j < 51 + i then A (j + 8) else A j
theorem r_notes (h : RW m A T M) (hw : WZ m w M) (hu : u ≤ 10) (h50 : A 50 = nI u) : Ok (fX12_notes T M m) (fun p => RW m (ntA A u w) T p.2 ∧ FI m (uf m) M p.2) := by
  have hM := h.1
  have e50 : gI M (m + 1) 50 = nI u := (h.2 50 (by omega)).trans h50
  unfold fX12_notes
  simp (disch := omega) only [gdI, gdT, Option.bind_some, lte, une2, une3, nI_add, gvI, cl_nI, c_le, c_lt, c_eq, Sum.elim_inl, Sum.elim_inr, hM.k, hM.r1, hM.k1, hM.l1, i_50, i_10, e50]
  by_cases z : u = 10
  · rw [if_pos z]
    refine Ok.bd (ok_forF (s := ((0 : Int32), M)) 0 72 (fun i s => ∃ M', s = (nI i, M') ∧ FI m (uf m) M M' ∧ RW m (shA A i) T M') (fun M' => FI m (uf m) M M' ∧ RW m (shA A 72) T M') ⟨M, rfl, FI.rfl, h.eq (fun j _ => if_neg (by omega))⟩ (by omega) (by omega) (fun i s _ hi hI => ?_) (fun s hI => ?_)) (fun M' hq => ?_)
    · obtain ⟨M', rfl, f, g⟩ := hI
      have hM := g.1
      have e : gI M' (m + 1) (59 + i) = A (59 + i) := (g.2 _ (by omega)).trans (if_neg (by omega))
      show Ok (bX12_notes_14 T m (nI i) M') _
      unfold bX12_notes_14
      simp (disch := omega) only [gdI, gdT, Option.bind_some, lte, une2, une3, nI_add, gvI, cl_nI, c_le, c_lt, c_eq, Sum.elim_inl, Sum.elim_inr, hM.k, hM.r1, hM.k1, hM.l1, i_72, i_59, i_51, Nat.not_le.mpr hi, if_false, nI_1, e]
      refine ok_i ⟨_, rfl, f.pI ⟨rfl, by omega, by omega⟩, g.up (fun j hj => ?_)⟩
      unfold shA
      by_cases z : j = 51 + i
      · rw [if_pos (by omega), if_pos z, z, show 51 + i + 8 = 59 + i by omega]
      · rw [if_neg z]
        by_cases y : 51 ≤ j ∧ j < 51 + i
        · rw [if_pos y, if_pos (by omega)]
        · rw [if_neg y, if_neg (by omega)]
    · obtain ⟨M', rfl, f, g⟩ := hI
      show Ok (bX12_notes_14 T m (nI 72) M') _
      unfold bX12_notes_14
      simp (disch := omega) only [i_72, c_le, Nat.le_refl, if_true]
      exact ok_i ⟨f, g⟩
    · obtain ⟨f, g⟩ := hq
      have hM := g.1
      have e50 : gI M' (m + 1) 50 = nI u := (g.2 50 (by omega)).trans ((if_neg (by omega)).trans h50)
      simp (disch := omega) only [gdI, gdT, Option.bind_some, lte, une2, une3, nI_add, gvI, cl_nI, c_le, c_lt, c_eq, Sum.elim_inl, Sum.elim_inr, hM.k, hM.r1, hM.k1, hM.l1, i_50, i_1, e50, z, c_sub]
      have f2 : FI m (uf m) M (pI M' (m + 1) 50 (nI (10 - 1))) := f.pI ⟨rfl, by omega, by omega⟩
      refine (r_notes2 (v := 9) (R := upA (shA A 72) 50 (nI 9)) (g.up (fun j hj => rfl)) (hw.fi f2 (fun k => by unfold uf; omega)) (by omega) upA_1).mono (fun p hp => ⟨hp.1.eq (fun j hj => ?_), f2.trans hp.2⟩)
      unfold ntA upA pnA shA
      rw [if_pos rfl]
      by_cases j50 : j = 50
      · rw [if_pos j50, if_pos j50]
      rw [if_neg j50, if_neg j50]
      by_cases j1 : 51 ≤ j ∧ j < 123
      · rw [if_pos j1, if_neg (by omega)]
        show A (j + 8) = if j = 50 then nI 9 else if 51 ≤ j ∧ j < 51 + 72 then A (j + 8) else A j
        rw [if_neg j50, if_pos (by omega)]
      · rw [if_neg j1]
        by_cases j2 : 123 ≤ j ∧ j < 131
        · rw [if_pos j2, if_pos (by omega)]
        · rw [if_neg j2, if_neg (by omega)]
          show A j = if j = 50 then nI 9 else if 51 ≤ j ∧ j < 51 + 72 then A (j + 8) else A j
          rw [if_neg j50, if_neg (by omega)]
  · rw [if_neg z]
    refine (r_notes2 (v := u) h hw (by omega) h50).mono (fun p hp => ⟨hp.1.eq (fun j hj => ?_), hp.2⟩)
    unfold ntA upA pnA
    rw [if_neg z]
    by_cases j50 : j = 50
    · rw [if_pos j50, if_pos j50]
    rw [if_neg j50, if_neg j50]
    by_cases j1 : 51 + 8 * u ≤ j ∧ j < 59 + 8 * u
    · rw [if_pos j1, if_pos (by omega)]
    · rw [if_neg j1, if_neg (by omega)]
/-- the row after undoing n -/
def unA (A : Nat → Int32) (v i : Nat) : Nat → Int32 := fun j => if j = 50 then nI v else if 42 ≤ j ∧ j < 42 + i then A (51 + 8 * v + (j - 42)) else A j
theorem r_undo0 {x : Int32} (h : RW m A T M) (h50 : A 50 = nI u) (hu : u ≤ 10) (hx : x.toInt < 1 ∨ (u : Int) < x.toInt) : fX12_undo T M m x = some (-3, pI M m 0 0) := by
  have hM := h.1
  have k1 : (1 : Int64).toInt = 1 := by decide
  have k10 : (10 : Int64).toInt = 10 := by decide
  have e50 : gI M (m + 1) 50 = nI u := (h.2 50 (by omega)).trans h50
  unfold fX12_undo
  rw [hM.k, gdI, lte]
  by_cases z : 1 ≤ x.toInt ∧ x.toInt ≤ 10
  · rw [wi_1 (by rw [Int32.toInt_toInt64, k1, k10]; exact z), Option.bind_some, if_neg (by decide)]
    simp (disch := omega) only [gdI, gdT, Option.bind_some, lte, une2, une3, nI_add, gvI, cl_nI, c_le, c_lt, c_eq, Sum.elim_inl, Sum.elim_inr, hM.k, hM.r1, hM.k1, hM.l1, i_50, mRI, mIIn, e50]
    rw [if_neg]
    rw [fa_le, nI_toInt (by omega)]
    omega
  · rw [wi_0 (by rw [Int32.toInt_toInt64, k1, k10]; exact z), Option.bind_some, if_pos rfl]
theorem r_undo {n : Nat} (h : RW m A T M) (h50 : A 50 = nI u) (hu : u ≤ 10) (h1 : 1 ≤ n) (hn : n ≤ u) : Ok (fX12_undo T M m (nI n)) (fun p => p.1 = nI (u - n) ∧ RW m (unA A (u - n) 8) T p.2 ∧ FI m (fun a k => a = m ∧ k = 0 ∨ a = m + 1 ∧ 42 ≤ k ∧ k ≤ 50) M p.2) := by
  have hM := h.1
  have k1 : (1 : Int64).toInt = 1 := by decide
  have k10 : (10 : Int64).toInt = 10 := by decide
  have e50 : gI M (m + 1) 50 = nI u := (h.2 50 (by omega)).trans h50
  unfold fX12_undo
  rw [hM.k, gdI, lte, wi_1 (by rw [Int32.toInt_toInt64, nI_toInt (by omega), k1, k10]; omega), Option.bind_some, if_neg (by decide)]
  simp (disch := omega) only [gdI, gdT, Option.bind_some, lte, une2, une3, nI_add, gvI, cl_nI, c_le, c_lt, c_eq, Sum.elim_inl, Sum.elim_inr, hM.k, hM.r1, hM.k1, hM.l1, i_50, mRI, mIIn, e50, hn, if_true, c_sub]
  have f0 : FI m (fun a k => a = m ∧ k = 0 ∨ a = m + 1 ∧ 42 ≤ k ∧ k ≤ 50) M (pI (pI M m 0 0) (m + 1) 50 (nI (u - n))) := (FI.rfl.pI (Or.inl ⟨rfl, rfl⟩)).pI (Or.inr ⟨rfl, by omega, by omega⟩)
  have h0 : RW m (unA A (u - n) 0) T (pI (pI M m 0 0) (m + 1) 50 (nI (u - n))) := by
    refine RW.up (R := A) ⟨hM.fr (fun _ => rfl), fun j hj => (mIIn (by omega)).trans (h.2 j hj)⟩ (fun j hj => ?_)
    unfold unA
    rw [if_neg (show ¬ (42 ≤ j ∧ j < 42 + 0) by omega)]
  generalize pI (pI M m 0 0) (m + 1) 50 (nI (u - n)) = M0 at f0 h0 ⊢
  refine Ok.bd (ok_forF (s := ((0 : Int32), M0)) 0 8 (fun i s => ∃ M', s = (nI i, M') ∧ FI m (fun a k => a = m ∧ k = 0 ∨ a = m + 1 ∧ 42 ≤ k ∧ k ≤ 50) M M' ∧ RW m (unA A (u - n) i) T M') (fun M' => FI m (fun a k => a = m ∧ k = 0 ∨ a = m + 1 ∧ 42 ≤ k ∧ k ≤ 50) M M' ∧ RW m (unA A (u - n) 8) T M') ⟨M0, rfl, f0, h0⟩ (by omega) (by omega) (fun i s _ hi hI => ?_) (fun s hI => ?_)) (fun M' hq => ?_)
  · obtain ⟨M', rfl, f, g⟩ := hI
    have hM := g.1
    have e50' : gI M' (m + 1) 50 = nI (u - n) := (g.2 50 (by omega)).trans (if_pos rfl)
    have e : gI M' (m + 1) (51 + 8 * (u - n) + i) = A (51 + 8 * (u - n) + i) := (g.2 _ (by omega)).trans ((if_neg (by omega)).trans (if_neg (by omega)))
    show Ok (bX12_undo_44 T m (nI i) M') _
    unfold bX12_undo_44
    simp (disch := omega) only [gdI, gdT, Option.bind_some, lte, une2, une3, nI_add, gvI, cl_nI, c_le, c_lt, c_eq, Sum.elim_inl, Sum.elim_inr, hM.k, hM.r1, hM.k1, hM.l1, i_8, i_50, i_51, i_42, Nat.not_le.mpr hi, if_false, nI_1, e50', c_mul, e]
    refine ok_i ⟨_, rfl, f.pI (Or.inr ⟨rfl, by omega, by omega⟩), g.up (fun j hj => ?_)⟩
    unfold unA
    by_cases z : j = 42 + i
    · rw [if_neg (by omega), if_pos (by omega), if_pos z, z, show 42 + i - 42 = i by omega]
    · rw [if_neg z]
      by_cases j50 : j = 50
      · rw [if_pos j50, if_pos j50]
      · rw [if_neg j50, if_neg j50]
        by_cases y : 42 ≤ j ∧ j < 42 + i
        · rw [if_pos y, if_pos (by omega)]
        · rw [if_neg y, if_neg (by omega)]
  · obtain ⟨M', rfl, f, g⟩ := hI
    show Ok (bX12_undo_44 T m (nI 8) M') _
    unfold bX12_undo_44
    simp (disch := omega) only [i_8, c_le, Nat.le_refl, if_true]
    exact ok_i ⟨f, g⟩
  · obtain ⟨f, g⟩ := hq
    have hM := g.1
    have e50' : gI M' (m + 1) 50 = nI (u - n) := (g.2 50 (by omega)).trans (if_pos rfl)
    simp (disch := omega) only [gdI, gdT, Option.bind_some, lte, une2, une3, nI_add, gvI, cl_nI, c_le, c_lt, c_eq, Sum.elim_inl, Sum.elim_inr, hM.k, hM.r1, hM.k1, hM.l1, i_50, e50']
    exact ok_i ⟨rfl, g, f⟩
end
