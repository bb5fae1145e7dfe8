/-! deeds: the reference does them -/
def df (m a k : Nat) : Prop := kf m a k ∨ a = m + 1 ∧ 42 ≤ k ∧ k < 50
theorem kf_df {m a k : Nat} (h : kf m a k) : df m a k := Or.inl h
theorem wf_df {m a k : Nat} (h : wf m a k) : df m a k := Or.inl (wf_kf h)
theorem nf_df {m a k : Nat} (h : nf m a k) : df m a k := Or.inl (nf_kf h)
section
variable {m : Nat} {A B : Nat → Int32} {T : Sh} {M M1 M2 : Me}
theorem RV.set (h : RV m A T M) (le : LE A B) (sv : SV B) (f : ∀ k, gR M2 m k = gR M m k) (row : ∀ k, k < 1032 → gI M2 (m + 1) k = B k) : RV m B T M2 := ⟨h.1.fr f, row, le.hLV h.lv, sv⟩
theorem RV.up {k : Nat} {v : Int32} (h : RV m A T M) (h1 : 42 ≤ k) (h2 : k < 50) (sv : SV (upA A k v)) : RV m (upA A k v) T (pI M (m + 1) k v) ∧ FI m (df m) M (pI M (m + 1) k v) := by
  refine ⟨h.set (LE.up h1 (by omega)) sv (fun _ => rfl) (fun j hj => ?_), FI.rfl.pI (Or.inr ⟨rfl, h1, h2⟩)⟩
  by_cases z : j = k
  · rw [z, mII1, upA_1]
  · rw [mIIk z, upA_n z]; exact h.al hj
theorem RV.kfr (h : RV m A T M) (f : FI m (kf m) M M2) : RV m A T M2 := h.fi f (fun _ _ => kf_qf)
theorem r_passedNow (h : RV m A T M) : Ok (fX12_passedNow T M m) (fun p => p.1 = mk (pip A) (nlA A) ∧ FI m (nf m) M p.2 ∧ RV m A T p.2) := by
  have hM := h.rm
  have h6 := h.lv.b3
  unfold fX12_passedNow
  rw [hM.k, gdI]
  refine Ok.bd (r_laysNow h) (fun p hq => ?_)
  obtain ⟨p1, M1⟩ := p
  obtain ⟨d1, f1, h1⟩ := hq
  rw [une2]
  refine Ok.bd (ok_forF (s := ((0 : Int32), (0 : Int32), M1)) 0 (nlA A) (fun i s => ∃ M', s = (mk (pip A) i, nI i, M') ∧ FI m (wf m) M1 M') (fun p => p.1 = mk (pip A) (nlA A) ∧ FI m (wf m) M1 p.2) ⟨M1, rfl, FI.rfl⟩ (by omega) (by omega) (fun i s _ hi hI => ?_) (fun s hI => ?_)) (fun p hq => ?_)
  · obtain ⟨M', rfl, f⟩ := hI
    have h' : RV m A T M' := h1.fi f (fun _ _ => wf_qf)
    have hM := h'.rm
    show Ok (bX12_passedNow_8 T m (mk (pip A) i) (nI i) M') _
    unfold bX12_passedNow_8
    simp (disch := omega) only [gdI, gdT, Option.bind_some, lte, une2, une3, nI_add, gvI, cl_nI, c_le, c_lt, c_eq, Sum.elim_inl, Sum.elim_inr, hM.k, hM.r1, hM.k1, hM.l1, i_3, h'.al, h'.lv.n3, Nat.not_le.mpr hi, if_false]
    refine Ok.bd (r_pip h' hi (d1.w f)) (fun p hq => ?_)
    obtain ⟨p1, M2⟩ := p
    obtain ⟨rfl, f2⟩ := hq
    simp only [une2, lte, nI_1]
    cases hb : pip A i
    · rw [if_pos (b2_ne.mpr rfl)]
      exact ok_i ⟨M2, by rw [mk, if_neg (by rw [hb]; decide)], f.trans f2⟩
    · rw [if_neg (fun z => absurd (b2_ne.mp z) (by decide))]
      exact ok_i ⟨M2, by rw [mk, if_pos hb], f.trans f2⟩
  · obtain ⟨M', rfl, f⟩ := hI
    have h' : RV m A T M' := h1.fi f (fun _ _ => wf_qf)
    have hM := h'.rm
    show Ok (bX12_passedNow_8 T m (mk (pip A) (nlA A)) (nI (nlA A)) M') _
    unfold bX12_passedNow_8
    simp (disch := omega) only [gdI, gdT, Option.bind_some, lte, une2, une3, nI_add, gvI, cl_nI, c_le, c_lt, c_eq, Sum.elim_inl, Sum.elim_inr, hM.k, hM.r1, hM.k1, hM.l1, i_3, h'.al, h'.lv.n3, Nat.le_refl, if_true]
    exact ok_i ⟨rfl, f⟩
  · obtain ⟨p1, M2⟩ := p
    obtain ⟨rfl, f2⟩ := hq
    rw [une2]
    exact ok_i ⟨rfl, f1.trans (f2.wide (fun _ _ => wf_nf)), h1.fi f2 (fun _ _ => wf_qf)⟩
theorem RD.pt {q e k : Nat} {v : Int32} (h : RD m A q e M) : RD m A q e (pI M (m + 1) k v) := ⟨(mIIn (by omega)).trans h.1, (mIIn (by omega)).trans h.2⟩
theorem RD.le {q e : Nat} (h : RD m A q e M) (le : LE A B) (hq : q ≤ 4) : RD m B q e M := ⟨h.1, h.2.trans (le.hst hq)⟩
theorem fpt_le {q e l c : Nat} (le : LE A B) (hq : q ≤ 4) (hl : l < 6) : fpt A q e l c = fpt B q e l c := by unfold fpt; rw [le.hrw hq hl]
theorem flI_s {i : Nat} : flI A (i + 1) = upA (flI A i) (42 + i) (nI (fpt A (qA A) (eA A) i (ptA A i))) := funext fun j => by
  show (if 42 ≤ j ∧ j < 42 + (i + 1) then _ else A j) = if j = 42 + i then _ else if 42 ≤ j ∧ j < 42 + i then _ else A j
  by_cases z : j = 42 + i
  · rw [if_pos (by omega), if_pos z, z, show 42 + i - 42 = i by omega]
  · rw [if_neg z]
    by_cases w : 42 ≤ j ∧ j < 42 + i
    · rw [if_pos w, if_pos (by omega)]
    · rw [if_neg w, if_neg (by omega)]
theorem flI_0 : flI A 0 = A := funext fun j => if_neg (by omega)
theorem flI_n {i j : Nat} (h : j < 42 ∨ 42 + i ≤ j) : flI A i j = A j := if_neg (by omega)
theorem r_goesTick (h : RV m A T M) (ht : tmA A + 1 ≤ 1000000) (w : Nat) (hw : w ≤ 1) : Ok (fX12_goesTick T M m (nI w)) (fun p => FI m (df m) M p.2 ∧ RV m (if w = 0 then tkA A else flA (tkA A)) T p.2) := by
  have hM := h.rm
  have h6 := h.lv.b3
  obtain ⟨g1, g2⟩ := h.up (k := 48) (v := A 48 + 1) (by omega) (by omega) (h.sv.tk h.lv ht).1
  unfold fX12_goesTick
  simp (disch := omega) only [gdI, gdT, Option.bind_some, lte, une2, une3, nI_add, gvI, cl_nI, c_le, c_lt, c_eq, Sum.elim_inl, Sum.elim_inr, hM.k, hM.r1, hM.k1, hM.l1, i_48, h.al]
  have eB : upA A 48 (A 48 + 1) = tkA A := rfl
  rw [eB] at g1
  generalize tkA A = B at g1 ⊢
  refine Ok.bd (r_laysNow g1) (fun p hq => ?_)
  obtain ⟨p1, M1⟩ := p
  obtain ⟨d1, f1, h1⟩ := hq
  have h6 := h1.lv.b3
  have h4 := h1.lv.b4
  have hS := h1.sv
  have hq4 : qA B ≤ 4 := by have := hS.b49; omega
  have f0 := g2.trans (f1.wide (fun _ _ => nf_df))
  rw [une2]
  refine Ok.bd (P := fun M' => FI m (df m) M M' ∧ RV m (if w = 0 then B else flA B) T M') ?_ (fun p hq => ok_i hq)
  by_cases w0 : w = 0
  · refine ok_forF (s := ((0 : Int32), M1)) 0 0 (fun i s => s = (0, M1)) _ rfl (by omega) (by omega) (fun i s _ hi hI => by omega) (fun s hI => ?_)
    subst hI
    have hM := h1.rm
    show Ok (bX12_goesTick_17 T m (nI w) 0 M1) _
    unfold bX12_goesTick_17
    simp (disch := omega) only [gdI, gdT, Option.bind_some, lte, une2, une3, nI_add, gvI, cl_nI, c_le, c_lt, c_eq, Sum.elim_inl, Sum.elim_inr, hM.k, hM.r1, hM.k1, hM.l1, i_3, h1.al, w0, if_true]
    have fin : FI m (df m) M M1 ∧ RV m B T M1 := ⟨f0, h1⟩
    by_cases z : B 3 ≤ 0
    · rw [if_pos z]; exact ok_i fin
    · rw [if_neg z]; exact ok_i fin
  · have w1 : w = 1 := by omega
    subst w1
    refine ok_forF (s := ((0 : Int32), M1)) 0 (nlA B) (fun i s => ∃ M', s = (nI i, M') ∧ FI m (df m) M M' ∧ RV m (flI B i) T M' ∧ RD m B (qA B) (eA B) M') _ ⟨M1, rfl, f0, by rw [flI_0]; exact h1, d1⟩ (by omega) (by omega) (fun i s _ hi hI => ?_) (fun s hI => ?_)
    · obtain ⟨M', rfl, f, h', d'⟩ := hI
      have hM := h'.rm
      have le : LE B (flI B i) := LE.fl (by omega)
      have e3 : flI B i 3 = nI (nlA B) := (flI_n (by omega)).trans h1.lv.n3
      have e42 : flI B i (42 + i) = nI (ptA B i) := (flI_n (by omega)).trans (hS.pt (by omega))
      have hpt := hS.ptb (l := i) (by omega)
      show Ok (bX12_goesTick_17 T m (nI 1) (nI i) M') _
      unfold bX12_goesTick_17
      simp (disch := omega) only [gdI, gdT, Option.bind_some, lte, une2, une3, nI_add, gvI, cl_nI, c_le, c_lt, c_eq, Sum.elim_inl, Sum.elim_inr, hM.k, hM.r1, hM.k1, hM.l1, i_3, i_42, h'.al, e3, e42, Nat.not_le.mpr hi, if_false, i_0, Nat.one_ne_zero]
      refine Ok.bd (r_followedFrom (q := qA B) (e := eA B) (l := i) (c := ptA B i) h' (d'.le le hq4) (by rw [le.nl]; exact hi) hpt) (fun p hq => ?_)
      obtain ⟨p1, M2⟩ := p
      obtain ⟨rfl, f2⟩ := hq
      have h2 : RV m (flI B i) T M2 := h'.fi f2 (fun _ _ => wf_qf)
      have hM2 := h2.rm
      rw [← fpt_le le hq4 (by omega), une2]
      simp (disch := omega) only [gdI, gdT, Option.bind_some, lte, une2, une3, nI_add, gvI, cl_nI, c_le, c_lt, c_eq, Sum.elim_inl, Sum.elim_inr, hM2.k, hM2.r1, hM2.k1, hM2.l1, nI_1]
      obtain ⟨k1, k2⟩ := h2.up (k := 42 + i) (v := nI (fpt B (qA B) (eA B) i (ptA B i))) (by omega) (by omega) (by rw [← flI_s]; exact hS.fl h1.lv (by omega))
      rw [← flI_s] at k1
      exact ok_i ⟨_, rfl, (f.trans (f2.wide (fun _ _ => wf_df))).trans k2, k1, (d'.w f2).pt⟩
    · obtain ⟨M', rfl, f, h', d'⟩ := hI
      have hM := h'.rm
      have e3 : flI B (nlA B) 3 = nI (nlA B) := (flI_n (by omega)).trans h1.lv.n3
      show Ok (bX12_goesTick_17 T m (nI 1) (nI (nlA B)) M') _
      unfold bX12_goesTick_17
      simp (disch := omega) only [gdI, gdT, Option.bind_some, lte, une2, une3, nI_add, gvI, cl_nI, c_le, c_lt, c_eq, Sum.elim_inl, Sum.elim_inr, hM.k, hM.r1, hM.k1, hM.l1, i_3, h'.al, e3, Nat.le_refl, if_true]
      exact ok_i ⟨f, h'⟩
end
