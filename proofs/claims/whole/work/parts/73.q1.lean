/-! calls that do nothing: the class and the reference answer the same -/
def QQ {α : Type} (x m : Nat) (A : Nat → Int32) (f g : Sh → Me → Option (α × Me)) : Prop := ∃ r, (∀ T M, CV x A T M → Ok (f T M) (fun p => p.1 = r ∧ GF x M p.2 ∧ CV x A T p.2)) ∧ ∀ T M, RV m A T M → Ok (g T M) (fun p => p.1 = r ∧ QF m M p.2)
theorem QF.rfl {m : Nat} {M : Me} : QF m M M := ⟨fun _ _ _ => Eq.refl _, fun _ _ _ => Eq.refl _, fun _ _ _ => Eq.refl _⟩
theorem i_lt0 {x : Int32} (h : x.toInt < 0) : x < 0 := (fa_lt _ _).mpr h
theorem i_nlt {x : Int32} {N : Nat} (hN : N < 2147483648) (h : (N : Int) ≤ x.toInt) : ¬ x < nI N := fun q => by
  have := (fa_lt _ _).mp q
  rw [nI_toInt (by omega)] at this
  omega
theorem i_nle {x : Int32} {N : Nat} (hN : N < 2147483648) (h : (N : Int) < x.toInt) : ¬ x ≤ nI N := fun q => by
  have := (fa_le _ _).mp q
  rw [nI_toInt (by omega)] at this
  omega
theorem rng0 {α : Type} {x : Int32} {N : Nat} {a b : α} (hN : N < 2147483648) (h : x.toInt < 0 ∨ (N : Int) ≤ x.toInt) : (if x < 0 then a else if x < nI N then b else a) = a := by
  rcases h with h | h
  · rw [if_pos (i_lt0 h)]
  · rw [if_neg (i_nlt hN h)]
    split <;> rfl
theorem rng0' {α : Type} {x : Int32} {N : Nat} {a b : α} (hN : N < 2147483648) (h : x.toInt < 0 ∨ ((N + 1 : Nat) : Int) ≤ x.toInt) : (if x < 0 then a else if x ≤ nI N then b else a) = a := by
  rcases h with h | h
  · rw [if_pos (i_lt0 h)]
  · rw [if_neg (i_nle hN (by omega))]
    split <;> rfl
theorem rng1 {α : Type} {n N : Nat} {a b : α} (hN : N < 2147483648) (h : n < N) : (if nI n < 0 then a else if nI n < nI N then b else a) = b := by
  rw [if_neg (i_neg n (by omega)), if_pos ((c_lt (by omega) hN).mpr h)]
theorem rng1' {α : Type} {n N : Nat} {a b : α} (hN : N < 2147483648) (h : n ≤ N) : (if nI n < 0 then a else if nI n ≤ nI N then b else a) = b := by
  rw [if_neg (i_neg n (by omega)), if_pos ((c_le (by omega) hN).mpr h)]
section
variable {x m : Nat} {A : Nat → Int32} {T : Sh} {M M2 : Me}
theorem c_lane1 (h : CV x A T M) {l : Nat} (hl : l < nlA A) : fX11_noLane T M x (nI l) = some 0 := by
  have hp := h.px
  obtain ⟨a, ha, hb⟩ := h.lab
  have := h.lv.b3
  unfold fX11_noLane
  simp (disch := omega) only [gdI, gdT, Option.bind_some, lte, une2, une3, nI_add, gvI, cl_nI, c_le, c_lt, c_eq, Sum.elim_inl, Sum.elim_inr, hp.k0, hp.k8, hp.k15, hp.l15, hp.k16, hp.l16, hp.k17, hp.l17, hp.k18, hp.l18, hp.r0_0, hp.r0_2, hp.r0_3, hp.r0_4, hp.r0_5, hp.r0_6, hp.r0_7, hp.r0_9, hp.r0_10, hp.r0_13, hp.r8_1, hp.r8_2, hp.r8_4, hp.r8_5, ha, hb.k, hb.f7, h.lv.n3]
  rw [if_neg (i_neg l (by omega)), if_pos hl]
theorem c_lane0 (h : CV x A T M) {v : Int32} (hv : v.toInt < 0 ∨ (nlA A : Int) ≤ v.toInt) : fX11_noLane T M x v = some 1 := by
  have hp := h.px
  obtain ⟨a, ha, hb⟩ := h.lab
  have := h.lv.b3
  unfold fX11_noLane
  simp (disch := omega) only [gdI, gdT, Option.bind_some, lte, une2, une3, nI_add, gvI, cl_nI, c_le, c_lt, c_eq, Sum.elim_inl, Sum.elim_inr, hp.k0, hp.k8, hp.k15, hp.l15, hp.k16, hp.l16, hp.k17, hp.l17, hp.k18, hp.l18, hp.r0_0, hp.r0_2, hp.r0_3, hp.r0_4, hp.r0_5, hp.r0_6, hp.r0_7, hp.r0_9, hp.r0_10, hp.r0_13, hp.r8_1, hp.r8_2, hp.r8_4, hp.r8_5, ha, hb.k, hb.f7, h.lv.n3]
  rw [rng0 (by omega) hv]
theorem c_cell1 {c : Nat} (hc : c < 384) : fX11_noCell (nI c) = some 0 := by
  unfold fX11_noCell
  rw [i_384, rng1 (by omega) hc]
theorem c_cell0 {v : Int32} (hv : v.toInt < 0 ∨ ((384 : Nat) : Int) ≤ v.toInt) : fX11_noCell v = some 1 := by
  unfold fX11_noCell
  rw [i_384, rng0 (by omega) hv]
theorem r_cell (v : Int64) : fX12_isCell v = some (b2 (decide (0 ≤ v.toInt ∧ v.toInt < 384))) := by
  unfold fX12_isCell
  rw [within_I]
  simp only [Option.bind_some, gd_b]
  refine congrArg (fun z => some (b2 z)) (decide_eq_decide.mpr ?_)
  have e1 : (0 : Int64).toInt = 0 := by decide
  have e2 : (383 : Int64).toInt = 383 := by decide
  rw [e1, e2]
  omega
theorem r_cell1 {c : Nat} (hc : c < 384) : fX12_isCell (nI c).toInt64 = some 1 := by
  rw [r_cell, Int32.toInt_toInt64, nI_toInt (by omega), decide_eq_true (by omega)]; rfl
theorem r_cell0 {v : Int32} (hv : v.toInt < 0 ∨ ((384 : Nat) : Int) ≤ v.toInt) : fX12_isCell v.toInt64 = some 0 := by
  rw [r_cell, Int32.toInt_toInt64, decide_eq_false (by omega)]; rfl
theorem r_isAtPoint {q e l : Nat} (h : RV m A T M) (hd : RD m A q e M) (hl : l < nlA A) : Ok (fX12_isAtPoint T M m (nI l)) (fun p => p.1 = b2 (psd A q e l (ptA A l / 24) (ptA A l % 24)) ∧ FI m (wf m) M p.2) := by
  have hM := h.rm
  have h6 := h.lv.b3
  have hb := h.sv.ptb (l := l) (by omega)
  unfold fX12_isAtPoint
  simp (disch := omega) only [gdI, gdT, Option.bind_some, lte, une2, une3, nI_add, gvI, cl_nI, c_le, c_lt, c_eq, Sum.elim_inl, Sum.elim_inr, hM.k, hM.r1, hM.k1, hM.l1, i_42, h.al, h.sv.pt (l := l) (by omega)]
  refine Ok.bd (r_isPassed h hd hl hb) (fun p hq => ?_)
  obtain ⟨p1, M1⟩ := p
  obtain ⟨rfl, f1⟩ := hq
  rw [une2, gd_b]
  exact ok_i ⟨rfl, f1⟩
theorem r_pip {l : Nat} (h : RV m A T M) (hl : l < nlA A) (hd : RD m A (qA A) (eA A) M) : Ok (fX12_isAtPoint T M m (nI l)) (fun p => p.1 = b2 (pip A l) ∧ FI m (wf m) M p.2) := r_isAtPoint h hd hl
theorem b2_if {α : Type} {b : Bool} {M : α} : (if b2 b = 0 then some ((0 : Int32), M) else some ((1 : Int32), M)) = some (b2 b, M) := by cases b <;> rfl

theorem q_lane (hL : LV A) (hS : SV A) (a b : Int32) : QQ x m A (fun T M => fX11_lane T M x a b) (fun T M => fX12_lane T M m a b) := by
  have h6 := hL.b3
  rcases ix_I a (nlA A) (by omega) with ⟨l, hl, rfl⟩ | hn
  · have cm : ∀ (r : Int32), (∀ T M, CV x A T M → Ok (fX11_lane T M x (nI l) b) (fun p => p.1 = r ∧ GF x M p.2 ∧ CV x A T p.2)) → (∀ T M, RV m A T M → Ok (fX12_lane T M m (nI l) b) (fun p => p.1 = r ∧ QF m M p.2)) → QQ x m A (fun T M => fX11_lane T M x (nI l) b) (fun T M => fX12_lane T M m (nI l) b) := fun r h1 h2 => ⟨r, h1, h2⟩
    by_cases w0 : b = 0
    · subst w0
      refine cm (A (14 + l)) (fun T M h => ?_) (fun T M h => ?_)
      · have hp := h.px
        obtain ⟨q, hq, hb⟩ := h.lab
        unfold fX11_lane
        rw [c_lane1 h hl, hp.k0, gdI, Option.bind_some, if_pos rfl, if_pos rfl]
        simp (disch := omega) only [gdI, gdT, Option.bind_some, lte, une2, une3, nI_add, gvI, cl_nI, c_le, c_lt, c_eq, Sum.elim_inl, Sum.elim_inr, hp.k0, hp.k8, hp.k15, hp.l15, hp.k16, hp.l16, hp.k17, hp.l17, hp.k18, hp.l18, hp.r0_0, hp.r0_2, hp.r0_3, hp.r0_4, hp.r0_5, hp.r0_6, hp.r0_7, hp.r0_9, hp.r0_10, hp.r0_13, hp.r8_1, hp.r8_2, hp.r8_4, hp.r8_5, hq, hb.k, hb.r0, hb.k1, hb.l1, hb.at hl]
        exact ok_i ⟨rfl, GF.rfl, h⟩
      · have h0 := h.t0 (v := 0)
        have hM := h0.rm
        unfold fX12_lane
        rw [hM.k, gdI, lte, r_lane1 h0 hl, Option.bind_some, if_neg (by decide), if_pos rfl]
        simp (disch := omega) only [gdI, gdT, Option.bind_some, lte, une2, une3, nI_add, gvI, cl_nI, c_le, c_lt, c_eq, Sum.elim_inl, Sum.elim_inr, hM.k, hM.r1, hM.k1, hM.l1, i_14, i_20, i_26, i_32, h0.al]
        exact ok_i ⟨rfl, r_t0.qf (fun _ _ => nf_qf)⟩
    by_cases w1 : b = 1
    · subst w1
      refine cm (A (20 + l)) (fun T M h => ?_) (fun T M h => ?_)
      · have hp := h.px
        obtain ⟨q, hq, hb⟩ := h.lab
        unfold fX11_lane
        rw [c_lane1 h hl, hp.k0, gdI, Option.bind_some, if_pos rfl, if_neg (by decide), if_pos rfl]
        simp (disch := omega) only [gdI, gdT, Option.bind_some, lte, une2, une3, nI_add, gvI, cl_nI, c_le, c_lt, c_eq, Sum.elim_inl, Sum.elim_inr, hp.k0, hp.k8, hp.k15, hp.l15, hp.k16, hp.l16, hp.k17, hp.l17, hp.k18, hp.l18, hp.r0_0, hp.r0_2, hp.r0_3, hp.r0_4, hp.r0_5, hp.r0_6, hp.r0_7, hp.r0_9, hp.r0_10, hp.r0_13, hp.r8_1, hp.r8_2, hp.r8_4, hp.r8_5, hq, hb.k, hb.r1, hb.k2, hb.l2, hb.mid hl]
        exact ok_i ⟨rfl, GF.rfl, h⟩
      · have h0 := h.t0 (v := 0)
        have hM := h0.rm
        unfold fX12_lane
        rw [hM.k, gdI, lte, r_lane1 h0 hl, Option.bind_some, if_neg (by decide), if_neg (by decide), if_pos rfl]
        simp (disch := omega) only [gdI, gdT, Option.bind_some, lte, une2, une3, nI_add, gvI, cl_nI, c_le, c_lt, c_eq, Sum.elim_inl, Sum.elim_inr, hM.k, hM.r1, hM.k1, hM.l1, i_14, i_20, i_26, i_32, h0.al]
        exact ok_i ⟨rfl, r_t0.qf (fun _ _ => nf_qf)⟩
    by_cases w2 : b = 2
    · subst w2
      refine cm (A (26 + l)) (fun T M h => ?_) (fun T M h => ?_)
      · have hp := h.px
        obtain ⟨q, hq, hb⟩ := h.lab
        unfold fX11_lane
        rw [c_lane1 h hl, hp.k0, gdI, Option.bind_some, if_pos rfl, if_neg (by decide), if_neg (by decide), if_pos rfl]
        simp (disch := omega) only [gdI, gdT, Option.bind_some, lte, une2, une3, nI_add, gvI, cl_nI, c_le, c_lt, c_eq, Sum.elim_inl, Sum.elim_inr, hp.k0, hp.k8, hp.k15, hp.l15, hp.k16, hp.l16, hp.k17, hp.l17, hp.k18, hp.l18, hp.r0_0, hp.r0_2, hp.r0_3, hp.r0_4, hp.r0_5, hp.r0_6, hp.r0_7, hp.r0_9, hp.r0_10, hp.r0_13, hp.r8_1, hp.r8_2, hp.r8_4, hp.r8_5, hq, hb.k, hb.r2, hb.k3, hb.l3, hb.wide hl]
        exact ok_i ⟨rfl, GF.rfl, h⟩
      · have h0 := h.t0 (v := 0)
        have hM := h0.rm
        unfold fX12_lane
        rw [hM.k, gdI, lte, r_lane1 h0 hl, Option.bind_some, if_neg (by decide), if_neg (by decide), if_neg (by decide), if_pos rfl]
        simp (disch := omega) only [gdI, gdT, Option.bind_some, lte, une2, une3, nI_add, gvI, cl_nI, c_le, c_lt, c_eq, Sum.elim_inl, Sum.elim_inr, hM.k, hM.r1, hM.k1, hM.l1, i_14, i_20, i_26, i_32, h0.al]
        exact ok_i ⟨rfl, r_t0.qf (fun _ _ => nf_qf)⟩
    by_cases w3 : b = 3
    · subst w3
      refine cm (A (32 + l)) (fun T M h => ?_) (fun T M h => ?_)
      · have hp := h.px
        obtain ⟨q, hq, hb⟩ := h.lab
        unfold fX11_lane
        rw [c_lane1 h hl, hp.k0, gdI, Option.bind_some, if_pos rfl, if_neg (by decide), if_neg (by decide), if_neg (by decide), if_pos rfl]
        simp (disch := omega) only [gdI, gdT, Option.bind_some, lte, une2, une3, nI_add, gvI, cl_nI, c_le, c_lt, c_eq, Sum.elim_inl, Sum.elim_inr, hp.k0, hp.k8, hp.k15, hp.l15, hp.k16, hp.l16, hp.k17, hp.l17, hp.k18, hp.l18, hp.r0_0, hp.r0_2, hp.r0_3, hp.r0_4, hp.r0_5, hp.r0_6, hp.r0_7, hp.r0_9, hp.r0_10, hp.r0_13, hp.r8_1, hp.r8_2, hp.r8_4, hp.r8_5, hq, hb.k, hb.r3, hb.k4, hb.l4, hb.high hl]
        exact ok_i ⟨rfl, GF.rfl, h⟩
      · have h0 := h.t0 (v := 0)
        have hM := h0.rm
        unfold fX12_lane
        rw [hM.k, gdI, lte, r_lane1 h0 hl, Option.bind_some, if_neg (by decide), if_neg (by decide), if_neg (by decide), if_neg (by decide), if_pos rfl]
        simp (disch := omega) only [gdI, gdT, Option.bind_some, lte, une2, une3, nI_add, gvI, cl_nI, c_le, c_lt, c_eq, Sum.elim_inl, Sum.elim_inr, hM.k, hM.r1, hM.k1, hM.l1, i_14, i_20, i_26, i_32, h0.al]
        exact ok_i ⟨rfl, r_t0.qf (fun _ _ => nf_qf)⟩
    by_cases w4 : b = 4
    · subst w4
      refine cm (A (42 + l)) (fun T M h => ?_) (fun T M h => ?_)
      · have hp := h.px
        unfold fX11_lane
        rw [c_lane1 h hl, hp.k0, gdI, Option.bind_some, if_pos rfl, if_neg (by decide), if_neg (by decide), if_neg (by decide), if_neg (by decide), if_pos rfl]
        simp (disch := omega) only [gdI, gdT, Option.bind_some, lte, une2, une3, nI_add, gvI, cl_nI, c_le, c_lt, c_eq, Sum.elim_inl, Sum.elim_inr, hp.k0, hp.k25, hp.k26, hp.l26, hp.r0_0, hp.r0_2, hp.r0_3, hp.r0_4, hp.r0_5, hp.r0_6, hp.r0_7, hp.r0_9, hp.r0_10, hp.r0_13, hp.r25_0, h.pt (l := l) (by omega)]
        exact ok_i ⟨rfl, GF.rfl, h⟩
      · have h0 := h.t0 (v := 0)
        have hM := h0.rm
        unfold fX12_lane
        rw [hM.k, gdI, lte, r_lane1 h0 hl, Option.bind_some, if_neg (by decide), if_neg (by decide), if_neg (by decide), if_neg (by decide), if_neg (by decide), if_pos rfl]
        simp (disch := omega) only [gdI, gdT, Option.bind_some, lte, une2, une3, nI_add, gvI, cl_nI, c_le, c_lt, c_eq, Sum.elim_inl, Sum.elim_inr, hM.k, hM.r1, hM.k1, hM.l1, i_42, h0.al]
        exact ok_i ⟨rfl, r_t0.qf (fun _ _ => nf_qf)⟩
    by_cases w5 : b = 5
    · subst w5
      refine cm (b2 (pip A l)) (fun T M h => ?_) (fun T M h => ?_)
      · have hp := h.px
        unfold fX11_lane
        rw [c_lane1 h hl, hp.k0, gdI, Option.bind_some, if_pos rfl, if_neg (by decide), if_neg (by decide), if_neg (by decide), if_neg (by decide), if_neg (by decide), if_pos rfl]
        refine Ok.bd (c_passesInPoint h hl) (fun p hq => ?_)
        obtain ⟨p1, M1⟩ := p
        obtain ⟨rfl, f1, h1⟩ := hq
        rw [une2, b2_if]
        exact ok_i ⟨rfl, f1.gf, h1⟩
      · have h0 := h.t0 (v := 0)
        have hM := h0.rm
        unfold fX12_lane
        rw [hM.k, gdI, lte, r_lane1 h0 hl, Option.bind_some, if_neg (by decide), if_neg (by decide), if_neg (by decide), if_neg (by decide), if_neg (by decide), if_neg (by decide), if_pos rfl]
        refine Ok.bd (r_laysNow h0) (fun p hq => ?_)
        obtain ⟨p1, M1⟩ := p
        obtain ⟨d1, f1, h1⟩ := hq
        rw [une2]
        refine Ok.bd (r_pip h1 hl d1) (fun p hq => ?_)
        obtain ⟨p1, M2⟩ := p
        obtain ⟨rfl, f2⟩ := hq
        rw [une2, b2_if]
        exact ok_i ⟨rfl, ((r_t0.trans f1).trans (f2.wide (fun _ _ => wf_nf))).qf (fun _ _ => nf_qf)⟩
    refine cm (-2) (fun T M h => ?_) (fun T M h => ?_)
    · unfold fX11_lane
      rw [c_lane1 h hl, h.px.k0, gdI, Option.bind_some, if_pos rfl, if_neg w0, if_neg w1, if_neg w2, if_neg w3, if_neg w4, if_neg w5]
      exact ok_i ⟨rfl, GF.rfl, h⟩
    · have h0 := h.t0 (v := 0)
      unfold fX12_lane
      rw [h0.rm.k, gdI, lte, r_lane1 h0 hl, Option.bind_some, if_neg (by decide), if_neg w0, if_neg w1, if_neg w2, if_neg w3, if_neg w4, if_neg w5]
      exact ok_i ⟨rfl, r_t0.qf (fun _ _ => nf_qf)⟩
  · refine ⟨-2, fun T M h => ?_, fun T M h => ?_⟩
    · show Ok (fX11_lane T M x a b) _
      unfold fX11_lane
      rw [c_lane0 h hn, h.px.k0, gdI, Option.bind_some, if_neg (by decide)]
      exact ok_i ⟨rfl, GF.rfl, h⟩
    · have h0 := h.t0 (v := 0)
      show Ok (fX12_lane T M m a b) _
      unfold fX12_lane
      rw [h0.rm.k, gdI, lte, r_lane0 h0 hn, Option.bind_some, if_pos rfl]
      exact ok_i ⟨rfl, r_t0.qf (fun _ _ => nf_qf)⟩
theorem q_stress (hL : LV A) (a : Int32) : QQ x m A (fun T M => (fX11_stress T M x a).bind (fun r => some (r, M))) (fun T M => fX12_stress T M m a) := by
  have h4 := hL.b4
  rcases ix_I a (npA A) (by omega) with ⟨p, hp4, rfl⟩ | hn
  · refine ⟨A (38 + p), fun T M h => ?_, fun T M h => ?_⟩
    · have hp := h.px
      obtain ⟨q, hq, hb⟩ := h.lab
      show Ok ((fX11_stress T M x (nI p)).bind (fun r => some (r, M))) _
      unfold fX11_stress
      simp (disch := omega) only [gdI, gdT, Option.bind_some, lte, une2, une3, nI_add, gvI, cl_nI, c_le, c_lt, c_eq, Sum.elim_inl, Sum.elim_inr, hp.k0, hp.k8, hp.k15, hp.l15, hp.k16, hp.l16, hp.k17, hp.l17, hp.k18, hp.l18, hp.r0_0, hp.r0_2, hp.r0_3, hp.r0_4, hp.r0_5, hp.r0_6, hp.r0_7, hp.r0_9, hp.r0_10, hp.r0_13, hp.r8_1, hp.r8_2, hp.r8_4, hp.r8_5, hq, hb.k, hb.f8, h.lv.n4, nI_1, hb.r4, hb.k5, hb.l5, hb.st (q := p + 1) (by omega)]
      rw [if_neg (i_neg p (by omega)), if_pos hp4, Option.bind_some]
      refine ok_i ⟨?_, GF.rfl, h⟩
      unfold stA
      rw [if_neg (by omega), show 37 + (p + 1) = 38 + p by omega]
    · have h0 := h.t0 (v := 0)
      have hM := h0.rm
      show Ok (fX12_stress T M m (nI p)) _
      unfold fX12_stress
      rw [hM.k, gdI, lte, r_pat1 h0 hp4, Option.bind_some, if_neg (by decide)]
      simp (disch := omega) only [gdI, gdT, Option.bind_some, lte, une2, une3, nI_add, gvI, cl_nI, c_le, c_lt, c_eq, Sum.elim_inl, Sum.elim_inr, hM.k, hM.r1, hM.k1, hM.l1, i_38, h0.al]
      exact ok_i ⟨rfl, r_t0.qf (fun _ _ => nf_qf)⟩
  · refine ⟨-2, fun T M h => ?_, fun T M h => ?_⟩
    · have hp := h.px
      obtain ⟨q, hq, hb⟩ := h.lab
      show Ok ((fX11_stress T M x a).bind (fun r => some (r, M))) _
      unfold fX11_stress
      simp (disch := omega) only [gdI, gdT, Option.bind_some, lte, une2, une3, nI_add, gvI, cl_nI, c_le, c_lt, c_eq, Sum.elim_inl, Sum.elim_inr, hp.k0, hp.k8, hp.k15, hp.l15, hp.k16, hp.l16, hp.k17, hp.l17, hp.k18, hp.l18, hp.r0_0, hp.r0_2, hp.r0_3, hp.r0_4, hp.r0_5, hp.r0_6, hp.r0_7, hp.r0_9, hp.r0_10, hp.r0_13, hp.r8_1, hp.r8_2, hp.r8_4, hp.r8_5, hq, hb.k, hb.f8, h.lv.n4]
      rw [rng0 (by omega) hn, Option.bind_some]
      exact ok_i ⟨rfl, GF.rfl, h⟩
    · have h0 := h.t0 (v := 0)
      show Ok (fX12_stress T M m a) _
      unfold fX12_stress
      rw [h0.rm.k, gdI, lte, r_pat0 h0 hn, Option.bind_some, if_pos rfl]
      exact ok_i ⟨rfl, r_t0.qf (fun _ _ => nf_qf)⟩
theorem L_0 : (0 : Int64) = lN 0 := Eq.trans rfl rfl
theorem L_1 : (1 : Int64) = lN 1 := Eq.trans rfl rfl
theorem L_2 : (2 : Int64) = lN 2 := Eq.trans rfl rfl
theorem L_3 : (3 : Int64) = lN 3 := Eq.trans rfl rfl
theorem L_5 : (5 : Int64) = lN 5 := Eq.trans rfl rfl
theorem L_15 : (15 : Int64) = lN 15 := Eq.trans rfl rfl
theorem L_23 : (23 : Int64) = lN 23 := Eq.trans rfl rfl
theorem L_999 : (999 : Int64) = lN 999 := Eq.trans rfl rfl
theorem L_9999 : (9999 : Int64) = lN 9999 := Eq.trans rfl rfl
theorem q_drift (a : Int32) : QQ x m A (fun T M => fX11_drift T M x a) (fun T M => fX12_drift T M m a) := by
  rcases ix_I a 10000 (by omega) with ⟨t, ht, rfl⟩ | hn
  · refine ⟨dft (eT A t), fun T M h => ?_, fun T M h => ?_⟩
    · have hp := h.px
      show Ok (fX11_drift T M x (nI t)) _
      unfold fX11_drift
      rw [i_9999, rng1' (by omega) (by omega)]
      simp only [gdI, gdT, Option.bind_some, lte, une2, une3, nI_add, gvI, cl_nI, c_le, c_lt, c_eq, Sum.elim_inl, Sum.elim_inr, hp.k0, hp.k8, hp.k15, hp.l15, hp.k16, hp.l16, hp.k17, hp.l17, hp.k18, hp.l18, hp.r0_0, hp.r0_2, hp.r0_3, hp.r0_4, hp.r0_5, hp.r0_6, hp.r0_7, hp.r0_9, hp.r0_10, hp.r0_13, hp.r8_1, hp.r8_2, hp.r8_4, hp.r8_5]
      refine Ok.bd (c_driftAt h (by omega)) (fun p hq => ?_)
      obtain ⟨p1, M1⟩ := p
      obtain ⟨rfl, f1, h1⟩ := hq
      exact ok_i ⟨rfl, f1.gf, h1⟩
    · have h0 := h.t0 (v := 0)
      have hM := h0.rm
      show Ok (fX12_drift T M m (nI t)) _
      unfold fX12_drift
      rw [hM.k, gdI, lte, L_0, L_9999, r_in1 (by omega) (by omega) (by omega), Option.bind_some, if_neg (by decide)]
      refine Ok.bd (r_driftAt h0 (by omega)) (fun p hq => ?_)
      obtain ⟨p1, M1⟩ := p
      obtain ⟨rfl, f1⟩ := hq
      exact ok_i ⟨rfl, (r_t0.trans (f1.wide (fun _ _ => wf_nf))).qf (fun _ _ => nf_qf)⟩
  · refine ⟨-99000003, fun T M h => ?_, fun T M h => ?_⟩
    · show Ok (fX11_drift T M x a) _
      unfold fX11_drift
      rw [i_9999, rng0' (by omega) hn]
      exact ok_i ⟨rfl, GF.rfl, h⟩
    · have h0 := h.t0 (v := 0)
      show Ok (fX12_drift T M m a) _
      unfold fX12_drift
      rw [h0.rm.k, gdI, lte, L_0, L_9999, r_in0 (by omega) (by omega) (by omega), Option.bind_some, if_pos rfl]
      exact ok_i ⟨rfl, r_t0.qf (fun _ _ => nf_qf)⟩
theorem q_passes (hL : LV A) (hS : SV A) (a b : Int32) : QQ x m A (fun T M => fX11_passes T M x a b) (fun T M => fX12_passes T M m a b) := by
  have h6 := hL.b3
  rcases ix_I a (nlA A) (by omega) with ⟨l, hl, rfl⟩ | hn
  · rcases ix_I b 384 (by omega) with ⟨c, hc, rfl⟩ | hn
    · refine ⟨b2 (psd A (qA A) (eA A) l (c / 24) (c % 24)), fun T M h => ?_, fun T M h => ?_⟩
      · have hp := h.px
        show Ok (fX11_passes T M x (nI l) (nI c)) _
        unfold fX11_passes
        rw [c_lane1 h hl, hp.k0, gdI, Option.bind_some, if_pos rfl, c_cell1 hc, Option.bind_some, if_pos rfl, i_24, c_div (by omega) (by omega) (by omega)]
        refine Ok.bd (c_rowNow h hl (by omega)) (fun p hq => ?_)
        obtain ⟨p1, M1⟩ := p
        obtain ⟨rfl, f1, h1⟩ := hq
        rw [une2, c_remQ (by omega) (by omega) (by omega), bit_at (by omega), bt_mp (by omega)]
        exact ok_i ⟨rfl, f1.gf, h1⟩
      · have h0 := h.t0 (v := 0)
        have hM := h0.rm
        show Ok (fX12_passes T M m (nI l) (nI c)) _
        unfold fX12_passes
        rw [hM.k, gdI, lte, r_lane1 h0 hl, Option.bind_some, if_neg (by decide), r_cell1 hc, Option.bind_some, if_neg (by decide)]
        refine Ok.bd (r_laysNow h0) (fun p hq => ?_)
        obtain ⟨p1, M1⟩ := p
        obtain ⟨d1, f1, h1⟩ := hq
        rw [une2]
        refine Ok.bd (r_isPassed h1 d1 hl hc) (fun p hq => ?_)
        obtain ⟨p1, M2⟩ := p
        obtain ⟨rfl, f2⟩ := hq
        rw [une2, b2_if]
        exact ok_i ⟨rfl, ((r_t0.trans f1).trans (f2.wide (fun _ _ => wf_nf))).qf (fun _ _ => nf_qf)⟩
    · refine ⟨-2, fun T M h => ?_, fun T M h => ?_⟩
      · show Ok (fX11_passes T M x (nI l) b) _
        unfold fX11_passes
        rw [c_lane1 h hl, h.px.k0, gdI, Option.bind_some, if_pos rfl, c_cell0 hn, Option.bind_some, if_neg (by decide)]
        exact ok_i ⟨rfl, GF.rfl, h⟩
      · have h0 := h.t0 (v := 0)
        show Ok (fX12_passes T M m (nI l) b) _
        unfold fX12_passes
        rw [h0.rm.k, gdI, lte, r_lane1 h0 hl, Option.bind_some, if_neg (by decide), r_cell0 hn, Option.bind_some, if_pos rfl]
        exact ok_i ⟨rfl, r_t0.qf (fun _ _ => nf_qf)⟩
  · refine ⟨-2, fun T M h => ?_, fun T M h => ?_⟩
    · show Ok (fX11_passes T M x a b) _
      unfold fX11_passes
      rw [c_lane0 h hn, h.px.k0, gdI, Option.bind_some, if_neg (by decide)]
      exact ok_i ⟨rfl, GF.rfl, h⟩
    · have h0 := h.t0 (v := 0)
      show Ok (fX12_passes T M m a b) _
      unfold fX12_passes
      rw [h0.rm.k, gdI, lte, r_lane0 h0 hn, Option.bind_some, if_pos rfl]
      exact ok_i ⟨rfl, r_t0.qf (fun _ _ => nf_qf)⟩
theorem q_row (hL : LV A) (hS : SV A) (a b : Int32) : QQ x m A (fun T M => fX11_row T M x a b) (fun T M => fX12_row T M m a b) := by
  have h6 := hL.b3
  rcases ix_I a (nlA A) (by omega) with ⟨l, hl, rfl⟩ | hn
  · rcases ix_I b 16 (by omega) with ⟨v, hv, rfl⟩ | hn
    · refine ⟨mpA A l v, fun T M h => ?_, fun T M h => ?_⟩
      · show Ok (fX11_row T M x (nI l) (nI v)) _
        unfold fX11_row
        rw [c_lane1 h hl, h.px.k0, gdI, Option.bind_some, if_pos rfl, i_16, rng1 (by omega) hv]
        refine Ok.bd (c_rowNow h hl hv) (fun p hq => ?_)
        obtain ⟨p1, M1⟩ := p
        obtain ⟨rfl, f1, h1⟩ := hq
        exact ok_i ⟨rfl, f1.gf, h1⟩
      · have h0 := h.t0 (v := 0)
        show Ok (fX12_row T M m (nI l) (nI v)) _
        unfold fX12_row
        rw [h0.rm.k, gdI, lte, r_lane1 h0 hl, Option.bind_some, if_neg (by decide), L_0, L_15, r_in1 (by omega) (by omega) (by omega), Option.bind_some, if_neg (by decide)]
        refine Ok.bd (r_laysNow h0) (fun p hq => ?_)
        obtain ⟨p1, M1⟩ := p
        obtain ⟨d1, f1, h1⟩ := hq
        rw [une2]
        refine Ok.bd (r_rowOf h1 d1 hl hv) (fun p hq => ?_)
        obtain ⟨p1, M2⟩ := p
        obtain ⟨rfl, f2⟩ := hq
        exact ok_i ⟨rfl, ((r_t0.trans f1).trans (f2.wide (fun _ _ => wf_nf))).qf (fun _ _ => nf_qf)⟩
    · refine ⟨-2, fun T M h => ?_, fun T M h => ?_⟩
      · show Ok (fX11_row T M x (nI l) b) _
        unfold fX11_row
        rw [c_lane1 h hl, h.px.k0, gdI, Option.bind_some, if_pos rfl, i_16, rng0 (by omega) hn]
        exact ok_i ⟨rfl, GF.rfl, h⟩
      · have h0 := h.t0 (v := 0)
        show Ok (fX12_row T M m (nI l) b) _
        unfold fX12_row
        rw [h0.rm.k, gdI, lte, r_lane1 h0 hl, Option.bind_some, if_neg (by decide), L_0, L_15, r_in0 (by omega) (by omega) (by omega), Option.bind_some, if_pos rfl]
        exact ok_i ⟨rfl, r_t0.qf (fun _ _ => nf_qf)⟩
  · refine ⟨-2, fun T M h => ?_, fun T M h => ?_⟩
    · show Ok (fX11_row T M x a b) _
      unfold fX11_row
      rw [c_lane0 h hn, h.px.k0, gdI, Option.bind_some, if_neg (by decide)]
      exact ok_i ⟨rfl, GF.rfl, h⟩
    · have h0 := h.t0 (v := 0)
      show Ok (fX12_row T M m a b) _
      unfold fX12_row
      rw [h0.rm.k, gdI, lte, r_lane0 h0 hn, Option.bind_some, if_pos rfl]
      exact ok_i ⟨rfl, r_t0.qf (fun _ _ => nf_qf)⟩
theorem q_area (hL : LV A) (a : Int32) : QQ x m A (fun T M => fX11_area T M x a) (fun T M => fX12_area T M m a) := by
  have h6 := hL.b3
  rcases ix_I a (nlA A) (by omega) with ⟨l, hl, rfl⟩ | hn
  · refine ⟨nI (ctm (psd A (qA A) (eA A) l) 16), fun T M h => ?_, fun T M h => ?_⟩
    · show Ok (fX11_area T M x (nI l)) _
      unfold fX11_area
      rw [c_lane1 h hl, h.px.k0, gdI, Option.bind_some, if_pos rfl]
      refine Ok.bd (c_look h hl) (fun p hq => ?_)
      obtain ⟨p1, M1⟩ := p
      obtain ⟨m1, f1, h1⟩ := hq
      have hp := h1.px
      simp only [gdI, gdT, Option.bind_some, lte, une2, une3, nI_add, gvI, cl_nI, c_le, c_lt, c_eq, Sum.elim_inl, Sum.elim_inr, hp.k0, hp.k19, hp.k20, hp.l20, hp.k21, hp.l21, hp.k22, hp.l22, hp.r0_0, hp.r0_2, hp.r0_3, hp.r0_4, hp.r0_5, hp.r0_6, hp.r0_7, hp.r0_9, hp.r0_10, hp.r0_13, hp.r19_0, hp.r19_1, hp.r19_2]
      rw [c_cells hp m1]
      exact ok_i ⟨rfl, f1.gf, h1⟩
    · have h0 := h.t0 (v := 0)
      show Ok (fX12_area T M m (nI l)) _
      unfold fX12_area
      rw [h0.rm.k, gdI, lte, r_lane1 h0 hl, Option.bind_some, if_neg (by decide)]
      refine Ok.bd (r_laysMapNow h0 hl) (fun p hq => ?_)
      obtain ⟨p1, M1⟩ := p
      obtain ⟨m1, f1, h1, d1⟩ := hq
      rw [une2, r_areaNow h1.rm m1]
      exact ok_i ⟨rfl, ((r_t0.wide (fun _ _ => nf_mf)).trans f1).qf (fun _ _ => mf_qf)⟩
  · refine ⟨-2, fun T M h => ?_, fun T M h => ?_⟩
    · show Ok (fX11_area T M x a) _
      unfold fX11_area
      rw [c_lane0 h hn, h.px.k0, gdI, Option.bind_some, if_neg (by decide)]
      exact ok_i ⟨rfl, GF.rfl, h⟩
    · have h0 := h.t0 (v := 0)
      show Ok (fX12_area T M m a) _
      unfold fX12_area
      rw [h0.rm.k, gdI, lte, r_lane0 h0 hn, Option.bind_some, if_pos rfl]
      exact ok_i ⟨rfl, r_t0.qf (fun _ _ => nf_qf)⟩
theorem q_rectangle (hL : LV A) (a b : Int32) : QQ x m A (fun T M => fX11_rectangle T M x a b) (fun T M => fX12_rectangle T M m a b) := by
  have h6 := hL.b3
  rcases ix_I a (nlA A) (by omega) with ⟨l, hl, rfl⟩ | hn
  · rcases ix_I b 6 (by omega) with ⟨w, hw, rfl⟩ | hn
    · have hb := rall_b (mr (psd A (qA A) (eA A) l)) 16 (by omega)
      refine ⟨if (rall (mr (psd A (qA A) (eA A) l)) 16).1 = 0 then -1 else if w = 0 then nI (rall (mr (psd A (qA A) (eA A) l)) 16).1 else if w = 1 then nI (rall (mr (psd A (qA A) (eA A) l)) 16).2.1 else if w = 2 then nI (rall (mr (psd A (qA A) (eA A) l)) 16).2.2.1 else if w = 3 then nI (rall (mr (psd A (qA A) (eA A) l)) 16).2.2.2.1 else if w = 4 then nI (rall (mr (psd A (qA A) (eA A) l)) 16).2.2.2.2 else nI (mid (rall (mr (psd A (qA A) (eA A) l)) 16)), fun T M h => ?_, fun T M h => ?_⟩
      · show Ok (fX11_rectangle T M x (nI l) (nI w)) _
        unfold fX11_rectangle
        rw [c_lane1 h hl, h.px.k0, gdI, Option.bind_some, if_pos rfl, i_5, rng1' (by omega) (by omega)]
        refine Ok.bd (c_look h hl) (fun p hq => ?_)
        obtain ⟨p1, M1⟩ := p
        obtain ⟨m1, f1, h1⟩ := hq
        have hp := h1.px
        simp only [gdI, gdT, Option.bind_some, lte, une2, une3, nI_add, gvI, cl_nI, c_le, c_lt, c_eq, Sum.elim_inl, Sum.elim_inr, hp.k0, hp.k19, hp.k20, hp.l20, hp.k21, hp.l21, hp.k22, hp.l22, hp.r0_0, hp.r0_2, hp.r0_3, hp.r0_4, hp.r0_5, hp.r0_6, hp.r0_7, hp.r0_9, hp.r0_10, hp.r0_13, hp.r19_0, hp.r19_1, hp.r19_2]
        refine Ok.bd (c_findRect hp (g := mr (psd A (qA A) (eA A) l)) m1) (fun p hq => ?_)
        obtain ⟨p1, M2⟩ := p
        obtain ⟨hc, f2⟩ := hq
        have hp2 := hp.eq f2.r
        have h2 : CV x A T M2 := h1.fx f2 (fun a k q => by omega)
        have fin : GF x M M2 := f1.gf.trans (f2.hf (x := x) (fun a k q => by omega)).gf
        generalize rall (mr (psd A (qA A) (eA A) l)) 16 = r at *
        simp only [gdI, gdT, Option.bind_some, lte, une2, une3, nI_add, gvI, cl_nI, c_le, c_lt, c_eq, Sum.elim_inl, Sum.elim_inr, hp2.k0, hp2.k19, hp2.k20, hp2.l20, hp2.k21, hp2.l21, hp2.k22, hp2.l22, hp2.r0_0, hp2.r0_2, hp2.r0_3, hp2.r0_4, hp2.r0_5, hp2.r0_6, hp2.r0_7, hp2.r0_9, hp2.r0_10, hp2.r0_13, hp2.r19_0, hp2.r19_1, hp2.r19_2, hc.1]
        rw [i_0, ite_eq (by have := hb.1; omega) (by omega)]
        by_cases e0 : r.1 = 0
        · rw [if_pos e0, if_pos e0]; exact ok_i ⟨rfl, fin, h2⟩
        · rw [if_neg e0, if_neg e0]
          obtain ⟨q1, q2, q3, q4⟩ := hc.2 (by omega)
          simp only [q1, q2, q3, q4, c_middle hp2 hc hb (by omega), Option.bind_some, i_1, i_2, i_3, i_4]
          simp (disch := omega) only [c_eq]
          repeat' split
          all_goals exact ok_i ⟨rfl, fin, h2⟩
      · have h0 := h.t0 (v := 0)
        show Ok (fX12_rectangle T M m (nI l) (nI w)) _
        unfold fX12_rectangle
        rw [h0.rm.k, gdI, lte, r_lane1 h0 hl, Option.bind_some, if_neg (by decide), L_0, L_5, r_in1 (by omega) (by omega) (by omega), Option.bind_some, if_neg (by decide)]
        refine Ok.bd (r_laysMapNow h0 hl) (fun p hq => ?_)
        obtain ⟨p1, M1⟩ := p
        obtain ⟨m1, f1, h1, d1⟩ := hq
        rw [une2]
        refine Ok.bd (r_laysRect h1.rm (g := mr (psd A (qA A) (eA A) l)) m1) (fun p hq => ?_)
        obtain ⟨p1, M2⟩ := p
        obtain ⟨hc, f2⟩ := hq
        have h2 : RV m A T M2 := h1.fi f2 (fun _ _ => rf_qf)
        have hM2 := h2.rm
        have fin : QF m M M2 := (((r_t0.wide (fun _ _ => nf_mf)).trans f1).qf (fun _ _ => mf_qf)).trans (f2.qf (fun _ _ => rf_qf))
        generalize rall (mr (psd A (qA A) (eA A) l)) 16 = r at *
        simp only [une2, hc.1]
        rw [i_0, ite_eq (by have := hb.1; omega) (by omega)]
        by_cases e0 : r.1 = 0
        · rw [if_pos e0, if_pos e0]; exact ok_i ⟨rfl, fin⟩
        · rw [if_neg e0, if_neg e0]
          obtain ⟨q1, q2, q3, q4⟩ := hc.2 (by omega)
          simp only [q1, q2, q3, q4, r_middle hM2 hc hb (by omega), Option.bind_some, i_1, i_2, i_3, i_4]
          simp (disch := omega) only [c_eq]
          repeat' split
          all_goals exact ok_i ⟨rfl, fin⟩
    · refine ⟨-2, fun T M h => ?_, fun T M h => ?_⟩
      · show Ok (fX11_rectangle T M x (nI l) b) _
        unfold fX11_rectangle
        rw [c_lane1 h hl, h.px.k0, gdI, Option.bind_some, if_pos rfl, i_5, rng0' (by omega) hn]
        exact ok_i ⟨rfl, GF.rfl, h⟩
      · have h0 := h.t0 (v := 0)
        show Ok (fX12_rectangle T M m (nI l) b) _
        unfold fX12_rectangle
        rw [h0.rm.k, gdI, lte, r_lane1 h0 hl, Option.bind_some, if_neg (by decide), L_0, L_5, r_in0 (by omega) (by omega) (by omega), Option.bind_some, if_pos rfl]
        exact ok_i ⟨rfl, r_t0.qf (fun _ _ => nf_qf)⟩
  · refine ⟨-2, fun T M h => ?_, fun T M h => ?_⟩
    · show Ok (fX11_rectangle T M x a b) _
      unfold fX11_rectangle
      rw [c_lane0 h hn, h.px.k0, gdI, Option.bind_some, if_neg (by decide)]
      exact ok_i ⟨rfl, GF.rfl, h⟩
    · have h0 := h.t0 (v := 0)
      show Ok (fX12_rectangle T M m a b) _
      unfold fX12_rectangle
      rw [h0.rm.k, gdI, lte, r_lane0 h0 hn, Option.bind_some, if_pos rfl]
      exact ok_i ⟨rfl, r_t0.qf (fun _ _ => nf_qf)⟩
end
