/-! what a lane would be trained to -/
def kf (m a k : Nat) : Prop := m + 5 ≤ a ∧ a ≤ m + 7 ∨ a = m ∧ (k = 0 ∨ 18 ≤ k ∧ k ≤ 30)
theorem kf_qf {m a k : Nat} (h : kf m a k) : sq m a k := by unfold kf at h; unfold sq; omega
theorem nf_kf {m a k : Nat} (h : nf m a k) : kf m a k := by unfold nf at h; unfold kf; omega
theorem mf_kf {m a k : Nat} (h : mf m a k) : kf m a k := by unfold mf at h; unfold kf; omega
theorem wf_kf {m a k : Nat} (h : wf m a k) : kf m a k := nf_kf (wf_nf h)
theorem rf_kf {m a k : Nat} (h : rf m a k) : kf m a k := by unfold rf at h; unfold kf; omega
theorem ef_kf {m a k : Nat} (h : ef m a k) : kf m a k := by unfold ef at h; unfold kf; omega
noncomputable def trL (A : Nat → Int32) (l w : Nat) : Int32 := if w = 2 then (if edI (bt (rsA A (eA A) l)) (hoA A) = -1 then -2 else nI (ptA A l / 24 * 24) + edI (bt (rsA A (eA A) l)) (hoA A)) else if ctm (psd A (qA A) (eA A) l) 16 = 0 then -2 else if w = 0 then nI (mid (lgR A l)) else eC (elB (psd A (qA A) (eA A) l) (asA A) 384)
theorem edI_c (b : Nat → Bool) {h : Nat} (h1 : 1 ≤ h) : edI b h = -1 ∨ ∃ d, d < 24 ∧ edI b h = nI d := by
  unfold edI
  by_cases q : fa_first (edP b h) (24 - h) < 24 - h
  · rw [if_pos q]; exact Or.inr ⟨_, by omega, rfl⟩
  · rw [if_neg q]; exact Or.inl rfl
theorem elN_some {n c : Nat} {e : Option (Nat × Nat)} : elN n c e ≠ none := by
  cases e with
  | none => exact fun q => by cases q
  | some r =>
    show (if r.1 < n - 1 then some (n - 1, c) else some r) ≠ none
    split <;> exact fun q => by cases q
theorem elB_some {pm : Nat → Nat → Bool} {k c : Nat} (hc : pmc pm c = true) : ∀ j, elB pm k (c + 1 + j) ≠ none
  | 0 => by
    show (if pmc pm c = true then elN (nO pm k c) c (elB pm k c) else elB pm k c) ≠ none
    rw [if_pos hc]; exact elN_some
  | j + 1 => by
    show (if pmc pm (c + 1 + j) = true then elN (nO pm k (c + 1 + j)) (c + 1 + j) (elB pm k (c + 1 + j)) else elB pm k (c + 1 + j)) ≠ none
    split
    · exact elN_some
    · exact elB_some hc j
theorem elB_pos {pm : Nat → Nat → Bool} {k : Nat} (h : ctm pm 16 ≠ 0) : elB pm k 384 ≠ none := by
  obtain ⟨v, d, hv, hd, e⟩ := ctm_pos h
  have hc : pmc pm (24 * v + d) = true := by
    unfold pmc
    rw [show (24 * v + d) / 24 = v by omega, show (24 * v + d) % 24 = d by omega]
    exact e
  have := elB_some (k := k) hc (383 - (24 * v + d))
  rw [show 24 * v + d + 1 + (383 - (24 * v + d)) = 384 by omega] at this
  exact this
section
variable {x m : Nat} {A : Nat → Int32} {T : Sh} {M M2 : Me}
theorem c_trained {l w : Nat} (h : CV x A T M) (hl : l < nlA A) (hw : w < 3) : Ok (fX11_trainedPoint T M x (nI l) (nI w)) (fun p => p.1 = trL A l w ∧ (trL A l w = -2 ∨ ∃ c, c < 384 ∧ trL A l w = nI c) ∧ GF x M p.2 ∧ CV x A T p.2) := by
  have hp := h.px
  have h6 := h.lv.b3
  have hS := h.sv
  have hpt := hS.ptb (l := l) (by omega)
  have hcb := ctm_b (psd A (qA A) (eA A) l)
  obtain ⟨k1, k9⟩ := h.lv.b1
  obtain ⟨ho1, ho9⟩ := h.lv.b2
  unfold fX11_trainedPoint trL
  rw [c_lane1 h hl, hp.k0, gdI, Option.bind_some, if_pos rfl, i_2, rng1' (by omega) (by omega), ite_eq (by omega) (by omega)]
  by_cases w2 : w = 2
  · rw [if_pos w2, if_pos w2]
    refine Ok.bd (c_edgeOf h hl) (fun p hq => ?_)
    obtain ⟨p1, M1⟩ := p
    obtain ⟨rfl, f1, h1⟩ := hq
    have hp1 := h1.px
    rw [une2]
    rcases edI_c (bt (rsA A (eA A) l)) ho1 with q | ⟨d, hd, q⟩
    · rw [q, if_pos rfl, if_pos rfl]
      exact ok_i ⟨rfl, Or.inl rfl, f1.gf, h1⟩
    · rw [q, if_neg (i_ne1 _ (by omega)), if_neg (i_ne1 _ (by omega))]
      simp (disch := omega) only [gdI, gdT, Option.bind_some, hp1.k0, hp1.k25, hp1.k26, hp1.l26, hp1.r0_0, hp1.r0_2, hp1.r0_3, hp1.r0_4, hp1.r0_5, hp1.r0_6, hp1.r0_7, hp1.r0_9, hp1.r0_10, hp1.r0_13, hp1.r25_0, gvI, cl_nI, h1.pt (l := l) (by omega), hS.pt (l := l) (by omega), i_24, c_div, c_mul]
      exact ok_i ⟨rfl, Or.inr ⟨_, by omega, nI_add _ _⟩, f1.gf, h1⟩
  · rw [if_neg w2, if_neg w2]
    refine Ok.bd (c_look h hl) (fun p hq => ?_)
    obtain ⟨p1, M1⟩ := p
    obtain ⟨m1, f1, h1⟩ := hq
    have hp1 := h1.px
    have m1 : MP (x + 20) (mr (psd A (qA A) (eA A) l)) M1 := m1
    obtain ⟨lb, hlb, hlab⟩ := h1.lab
    simp only [gdI, gdT, Option.bind_some, lte, une2, une3, nI_add, gvI, cl_nI, c_le, c_lt, c_eq, Sum.elim_inl, Sum.elim_inr, hp1.k0, hp1.k8, hp1.k15, hp1.l15, hp1.k16, hp1.l16, hp1.k17, hp1.l17, hp1.k18, hp1.l18, hp1.k19, hp1.k20, hp1.l20, hp1.k21, hp1.l21, hp1.k22, hp1.l22, hp1.r0_0, hp1.r0_2, hp1.r0_3, hp1.r0_4, hp1.r0_5, hp1.r0_6, hp1.r0_7, hp1.r0_9, hp1.r0_10, hp1.r0_13, hp1.r8_1, hp1.r8_2, hp1.r8_4, hp1.r8_5, hp1.r19_0, hp1.r19_1, hp1.r19_2, hlb, hlab.k, hlab.f5, h.lv.n1]
    rw [c_cells hp1 m1, Option.bind_some, i_0, ite_eq (by omega) (by omega)]
    by_cases e0 : ctm (psd A (qA A) (eA A) l) 16 = 0
    · rw [if_pos e0, if_pos e0]
      exact ok_i ⟨rfl, Or.inl rfl, f1.gf, h1⟩
    · rw [if_neg e0, if_neg e0, ite_eq (by omega) (by omega)]
      by_cases w0 : w = 0
      · rw [if_pos w0, if_pos w0]
        refine Ok.bd (c_findRect hp1 m1) (fun p hq => ?_)
        obtain ⟨p1, M2⟩ := p
        obtain ⟨hc, f2⟩ := hq
        rw [show rall (mr (psd A (qA A) (eA A) l)) 16 = lgR A l from rfl] at hc
        have hp2 := hp1.eq f2.r
        have h2 : CV x A T M2 := h1.fx f2 (fun a k q => by omega)
        have hb := lgR_b A l
        have hpos : 0 < (lgR A l).1 := rall_pos e0
        simp only [gdI, gdT, Option.bind_some, lte, une2, une3, nI_add, gvI, cl_nI, c_le, c_lt, c_eq, Sum.elim_inl, Sum.elim_inr, hp2.k0, hp2.k19, hp2.k20, hp2.l20, hp2.k21, hp2.l21, hp2.k22, hp2.l22, hp2.r0_0, hp2.r0_2, hp2.r0_3, hp2.r0_4, hp2.r0_5, hp2.r0_6, hp2.r0_7, hp2.r0_9, hp2.r0_10, hp2.r0_13, hp2.r19_0, hp2.r19_1, hp2.r19_2]
        rw [c_middle hp2 hc hb hpos]
        exact ok_i ⟨rfl, Or.inr ⟨_, mid_b hb hpos, rfl⟩, f1.gf.trans (f2.hf (x := x) (fun a k q => by omega)).gf, h2⟩
      · rw [if_neg w0, if_neg w0]
        refine Ok.bd (c_findEllipse hp1 m1 k1 k9) (fun p hq => ?_)
        obtain ⟨p1, M2⟩ := p
        obtain ⟨e1, e2, hB, f2⟩ := hq
        have h2 : CV x A T M2 := h1.fx f2 (fun a k q => by omega)
        have hp2 := h2.px
        simp only [gdI, gdT, Option.bind_some, lte, une2, une3, nI_add, gvI, cl_nI, c_le, c_lt, c_eq, Sum.elim_inl, Sum.elim_inr, hp2.k0, hp2.k19, hp2.k20, hp2.l20, hp2.k21, hp2.l21, hp2.k22, hp2.l22, hp2.r0_0, hp2.r0_2, hp2.r0_3, hp2.r0_4, hp2.r0_5, hp2.r0_6, hp2.r0_7, hp2.r0_9, hp2.r0_10, hp2.r0_13, hp2.r19_0, hp2.r19_1, hp2.r19_2, e2]
        refine ok_i ⟨rfl, Or.inr ?_, f1.gf.trans (f2.hf (x := x) (fun a k q => by omega)).gf, h2⟩
        have hne := elB_pos (k := asA A) e0
        cases hel : elB (psd A (qA A) (eA A) l) (asA A) 384 with
        | none => exact absurd hel hne
        | some r =>
          rw [hel] at hB
          exact ⟨r.2, hB.2, rfl⟩
theorem c_trained0 {a b : Int32} (h : CV x A T M) (hn : (a.toInt < 0 ∨ (nlA A : Int) ≤ a.toInt) ∨ (b.toInt < 0 ∨ ((3 : Nat) : Int) ≤ b.toInt)) : fX11_trainedPoint T M x a b = some (-1, M) := by
  have h6 := h.lv.b3
  unfold fX11_trainedPoint
  rw [h.px.k0, gdI]
  rcases ix_I a (nlA A) (by omega) with ⟨l, hl, rfl⟩ | hq
  · rw [c_lane1 h hl, Option.bind_some, if_pos rfl, i_2]
    rcases hn with q | q
    · exfalso
      rw [nI_toInt (by omega)] at q
      omega
    · rw [rng0' (by omega) q]
  · rw [c_lane0 h hq, Option.bind_some, if_neg (by decide)]
theorem r_why {l w : Nat} (h : RV m A T M) (hl : l < nlA A) (hw : w < 3) : Ok (fX12_whyTrain T M m (lN l) (lN w)) (fun p => p.1 = (if trL A l w = -2 then (2 : Int32) else 0) ∧ (trL A l w ≠ -2 → gI p.2 m 30 = trL A l w) ∧ FI m (kf m) M p.2) := by
  have hM := h.rm
  have h6 := h.lv.b3
  have hS := h.sv
  have hpt := hS.ptb (l := l) (by omega)
  have hcb := ctm_b (psd A (qA A) (eA A) l)
  obtain ⟨k1, k9⟩ := h.lv.b1
  obtain ⟨ho1, ho9⟩ := h.lv.b2
  have hL1 : fX12_isLane T M m (lN l) = some 1 := by rw [r_isLane h, pf_lI (by omega), decide_eq_true (by omega)]; rfl
  have hW1 : fX12_within (lN w) (0 : Int64) (2 : Int64) = some 1 := by
    have e0 : (0 : Int64).toInt = 0 := by decide
    have e2 : (2 : Int64).toInt = 2 := by decide
    rw [within_I, pf_lI (by omega), e0, e2, decide_eq_true (by omega)]; rfl
  unfold fX12_whyTrain
  rw [hM.k, gdI, hL1, Option.bind_some, if_neg (by decide), hW1, Option.bind_some, if_neg (by decide)]
  refine Ok.bd (r_laysNow h) (fun p hq => ?_)
  obtain ⟨p1, M1⟩ := p
  obtain ⟨d1, f1, h1⟩ := hq
  have hM1 := h1.rm
  simp only [une2, lc_eq]
  rw [l_32 (by omega)]
  have c2 : (lN w = (2 : Int64)) = (w = 2) := l_eq (b := 2) (by omega) (by omega)
  have c0 : (lN w = (0 : Int64)) = (w = 0) := l_eq (b := 0) (by omega) (by omega)
  simp only [c2, c0]
  unfold trL
  by_cases w2 : w = 2
  · rw [if_pos w2, if_pos w2]
    refine Ok.bd (r_edgeOf h1 d1 hl) (fun p hq => ?_)
    obtain ⟨p1, M2⟩ := p
    obtain ⟨rfl, f2⟩ := hq
    have h2 : RV m A T M2 := h1.fi f2 (fun _ _ => wf_qf)
    have hM2 := h2.rm
    simp (disch := omega) only [gdI, gdT, Option.bind_some, lte, une2, une3, nI_add, gvI, cl_nI, c_le, c_lt, c_eq, Sum.elim_inl, Sum.elim_inr, hM2.k, hM2.r1, hM2.k1, hM2.l1, i_42, i_24, h2.al, hS.pt (l := l) (by omega), c_div, c_mul]
    have g2 : FI m (kf m) M M2 := (f1.wide (fun _ _ => nf_kf)).trans (f2.wide (fun _ _ => wf_kf))
    rcases edI_c (bt (rsA A (eA A) l)) ho1 with q | ⟨d, hd, q⟩
    · rw [q, if_pos rfl, if_pos rfl, if_pos rfl]
      exact ok_i ⟨rfl, fun z => absurd rfl z, g2.pI (Or.inr ⟨rfl, by omega⟩)⟩
    · have hne : ¬ nI (ptA A l / 24 * 24) + nI d = (-2 : Int32) := by
        rw [nI_add]
        intro z
        have := congrArg Int32.toInt z
        rw [nI_toInt (by omega)] at this
        have e2 : (-2 : Int32).toInt = -2 := by decide
        omega
      rw [q, if_neg (i_ne1 _ (by omega)), if_neg (i_ne1 _ (by omega)), if_neg hne]
      exact ok_i ⟨rfl, fun _ => mII1, g2.pI (Or.inr ⟨rfl, by omega⟩)⟩
  · rw [if_neg w2, if_neg w2]
    refine Ok.bd (r_laysMap h1 d1 hl) (fun p hq => ?_)
    obtain ⟨p1, M2⟩ := p
    obtain ⟨m2, f2⟩ := hq
    have m2 : MP (m + 7) (mr (psd A (qA A) (eA A) l)) M2 := m2
    have g2 : FI m (kf m) M M2 := (f1.wide (fun _ _ => nf_kf)).trans (f2.wide (fun a k q => by unfold kf; omega))
    have h2 : RV m A T M2 := h.fi g2 (fun _ _ => kf_qf)
    rw [une2, r_areaNow h2.rm m2, Option.bind_some, i_0, ite_eq (by omega) (by omega)]
    by_cases e0 : ctm (psd A (qA A) (eA A) l) 16 = 0
    · rw [if_pos e0, if_pos e0, if_pos rfl]
      exact ok_i ⟨rfl, fun z => absurd rfl z, g2⟩
    · rw [if_neg e0, if_neg e0]
      refine Ok.bd (r_laysRect h2.rm m2) (fun p hq => ?_)
      obtain ⟨p1, M3⟩ := p
      obtain ⟨hc, f3⟩ := hq
      rw [show rall (mr (psd A (qA A) (eA A) l)) 16 = lgR A l from rfl] at hc
      have g3 : FI m (kf m) M M3 := g2.trans (f3.wide (fun _ _ => rf_kf))
      have h3 : RV m A T M3 := h.fi g3 (fun _ _ => kf_qf)
      have hb := lgR_b A l
      have hpos : 0 < (lgR A l).1 := rall_pos e0
      have hmb := mid_b hb hpos
      have m3 : MP (m + 7) (mr (psd A (qA A) (eA A) l)) M3 := m2.fi f3 (fun j => by unfold rf; omega)
      have ne2 : ∀ c, c < 384 → ¬ nI c = (-2 : Int32) := fun c hc z => by
        have := congrArg Int32.toInt z
        rw [nI_toInt (by omega)] at this
        have e2 : (-2 : Int32).toInt = -2 := by decide
        omega
      rw [une2, r_middle h3.rm hc hb hpos, Option.bind_some, lte]
      by_cases w0 : w = 0
      · rw [if_pos w0, if_pos w0, if_neg (ne2 _ hmb)]
        exact ok_i ⟨rfl, fun _ => mII1, g3.pI (Or.inr ⟨rfl, by omega⟩)⟩
      · rw [if_neg w0, if_neg w0]
        have g4 := g3.pI (a := m) (k := 30) (v := nI (mid (lgR A l))) (Or.inr ⟨rfl, by omega⟩)
        have h4 : RV m A T _ := h.fi g4 (fun _ _ => kf_qf)
        refine Ok.bd (r_laysEllipse h4 (pm := psd A (qA A) (eA A) l) (fun v hv => (mIIn (by omega)).trans (m3 v hv)) h.lv.n1 k1 k9) (fun p hq => ?_)
        obtain ⟨p1, M5⟩ := p
        obtain ⟨e1, e2, hB, f5⟩ := hq
        have g5 := g4.trans (f5.wide (fun _ _ => ef_kf))
        have hne := elB_pos (k := asA A) e0
        have e2' : gI M5 m 27 = eC (elB (psd A (qA A) (eA A) l) (asA A) 384) := e2 hne
        simp only [une2, lte]
        rw [e2']
        cases hel : elB (psd A (qA A) (eA A) l) (asA A) 384 with
        | none => exact absurd hel hne
        | some r =>
          rw [hel] at hB
          rw [if_neg (show ¬ eC (some r) = (-2 : Int32) from ne2 _ hB.2)]
          exact ok_i ⟨rfl, fun _ => mII1, g5.pI (Or.inr ⟨rfl, by omega⟩)⟩
theorem r_why0 {a b : Int64} (h : RV m A T M) (hn : (a.toInt < 0 ∨ (nlA A : Int) ≤ a.toInt) ∨ (b.toInt < 0 ∨ 3 ≤ b.toInt)) : fX12_whyTrain T M m a b = some (1, M) := by
  have e0 : (0 : Int64).toInt = 0 := by decide
  have e2 : (2 : Int64).toInt = 2 := by decide
  unfold fX12_whyTrain
  rw [h.rm.k, gdI, r_isLane h, within_I, e0, e2, Option.bind_some, Option.bind_some]
  by_cases q : 0 ≤ a.toInt ∧ a.toInt < nlA A
  · rw [decide_eq_true q, if_neg (by decide), decide_eq_false (by omega), if_pos (b2_ne.mpr rfl)]
  · rw [decide_eq_false q, if_pos (b2_ne.mpr rfl)]
end
