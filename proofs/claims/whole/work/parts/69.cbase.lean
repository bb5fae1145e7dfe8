/-! the clock -/
theorem c_risenAt {x l e : Nat} {A : Nat → Int32} {T : Sh} {M : Me} (h : CV x A T M) (hln : l < nlA A) (he : e ≤ 30) : Ok (fX5_risenAt T M (x + 8) (nI l) (dft e)) (fun p => p.1 = rsA A e l ∧ PF x M p.2 ∧ CV x A T p.2) := by
  have hp := h.px
  obtain ⟨a, ha, hl⟩ := h.lab
  have hn6 := h.lv.b3
  unfold fX5_risenAt
  simp (disch := omega) only [gdI, gdT, Option.bind_some, lte, une2, une3, nI_add, gvI, cl_nI, c_le, c_lt, c_eq, Sum.elim_inl, Sum.elim_inr, hp.k8, hp.k15, hp.l15, hp.k16, hp.l16, hp.k17, hp.l17, hp.k18, hp.l18, hp.r8_1, hp.r8_2, hp.r8_4, hp.r8_5, mII1, mIJ, mIR, mJI, mJR, mRI, mRJ, mJJ1, i_2, i_4, ha, hl.k]
  simp only [pI_pA, mIA1, pA_pA]
  have key : Ok (lp FU (fun s => bX5_risenAt_28 T (x + 8) (nI l) (dft e) (gR M a 11) s.1 s.2.1 s.2.2) ((0 : Int32), (0 : Int32), pA M (x + 17) (fun j => if j = 4 then dft e else if j = 2 then nI l else gI M (x + 17) j))) (fun p => p.1 = rsA A e l ∧ ∃ g g2, p.2 = pA (pA M (x + 17) g) (x + 18) g2 ∧ wb g) := by
    refine ok_forF 0 24 (fun i s => ∃ g g2, s = (mk (rsd A e l) i, nI i, pA (pA M (x + 17) g) (x + 18) g2) ∧ g 2 = nI l ∧ g 4 = dft e ∧ wb g) _ ⟨(fun j => if j = 4 then dft e else if j = 2 then nI l else gI M (x + 17) j), gI M (x + 18), Prod.ext rfl (Prod.ext nI_0.symm ?_), rfl, rfl, fun j hj => ?_⟩ (by omega) (by omega) (fun i s _ hi hI => ?_) (fun s hI => ?_)
    · refine (pA_id (fun k => ?_)).symm
      rw [mIAn (by omega)]
    · show bd (if j = 4 then dft e else if j = 2 then nI l else gI M (x + 17) j)
      by_cases e4 : j = 4
      · rw [if_pos e4]; exact bd_dft e (by omega)
      · rw [if_neg e4]
        by_cases e2 : j = 2
        · rw [if_pos e2]; exact bd_nI (by omega)
        · rw [if_neg e2]; exact h.vb j hj
    · obtain ⟨g, g2, rfl, w2, w4, w6⟩ := hI
      show Ok (bX5_risenAt_28 T (x + 8) (nI l) (dft e) (gR M a 11) (mk (rsd A e l) i) (nI i) _) _
      unfold bX5_risenAt_28
      simp (disch := omega) only [gdI, gdT, Option.bind_some, lte, une2, une3, nI_add, gvI, cl_nI, c_le, c_lt, c_eq, Sum.elim_inl, Sum.elim_inr, hp.k8, hp.k15, hp.l15, hp.k16, hp.l16, hp.k17, hp.l17, hp.k18, hp.l18, hp.r8_1, hp.r8_2, hp.r8_4, hp.r8_5, mII1, mIJ, mIR, mJI, mJR, mRI, mRJ, mJJ1, mRA, i_24, Nat.not_le.mpr hi, if_false]
      have e0 : Int32.toNatClampNeg (0 : Int32) = 0 := by decide
      have hv0 : vp_in (0 : Int32) 8 := by unfold vp_in; decide
      rw [gv_pos hv0, e0]
      have eM : pI (pA (pA M (x + 17) g) (x + 18) g2) (x + 17) 0 (nI i) = pA (pA M (x + 17) (fun j => if j = 0 then nI i else g j)) (x + 18) g2 := by
        refine me_ext (fun b j => ?_) (fun _ _ => rfl) (fun _ _ => rfl)
        rw [mII, mIA, mIA, mIA, mIA]
        by_cases b7 : b = x + 17
        · subst b7; simp
        · simp [b7]
      rw [eM]
      generalize hg : (fun j => if j = 0 then nI i else g j) = g'
      have v0 : g' 0 = nI i := by rw [← hg]; rfl
      have v2 : g' 2 = nI l := by rw [← hg]; exact w2
      have v4 : g' 4 = dft e := by rw [← hg]; exact w4
      have eg : gI (pA (pA M (x + 17) g') (x + 18) g2) (x + 17) = g' := funext fun j => by rw [mIAn (by omega), mIA1]
      have wg : wb g' := fun j hj => by
        by_cases z : j = 0
        · rw [z, v0]; exact bd_nI (by omega)
        · rw [← hg]; show bd (if j = 0 then nI i else g j); rw [if_neg z]; exact w6 j hj
      have fin : ∀ (g3 : Nat → Int32), ∃ g g2, (mk (rsd A e l) (i + 1), nI (i + 1), pA (pA M (x + 17) g') (x + 18) g3) = (mk (rsd A e l) (i + 1), nI (i + 1), pA (pA M (x + 17) g) (x + 18) g2) ∧ g 2 = nI l ∧ g 4 = dft e ∧ wb g := fun g3 => ⟨g', g3, rfl, v2, v4, wg⟩
      have mkT : rsd A e l i = true → mk (rsd A e l) i ||| (1 : Int32) <<< (nI i &&& 31) = mk (rsd A e l) (i + 1) := fun z => by rw [mk, if_pos z]
      have mkF : rsd A e l i = false → mk (rsd A e l) i ||| (0 : Int32) = mk (rsd A e l) (i + 1) := fun z => by rw [mk, if_neg (by rw [z]; decide)]
      rcases hl.law (lw := 1) (by omega) with kk | ⟨b, k1, k2, k3⟩
      · have hw0 : gR M a 11 = none := kk.1
        have h5 : ¬ A 6 = 1 := by rw [show A 6 = 0 from kk.2]; decide
        have had := hl.ad
        rw [hw0, moN]
        simp (disch := omega) only [gdI, gdT, Option.bind_some, lte, une2, une3, nI_add, gvI, cl_nI, c_le, c_lt, c_eq, Sum.elim_inl, Sum.elim_inr, hp.k8, hp.k15, hp.l15, hp.k16, hp.l16, hp.k17, hp.l17, hp.k18, hp.l18, hp.r8_1, hp.r8_2, hp.r8_4, hp.r8_5, mII1, mIJ, mIR, mJI, mJR, mRI, mRJ, mJJ1, mRA, ha, hl.k, hl.r0, hl.k1, hl.l1, mIAn, hl.at hln]
        have ep : rsd A e l i = decide (A (14 + l) + dft e ≤ nI i) := by unfold rsd; rw [if_neg h5]
        by_cases c : nI i < A (14 + l) + dft e
        · have : rsd A e l i = false := by rw [ep]; exact decide_eq_false (fa_of_lt c).2.1
          rw [if_pos c, if_pos trivial, mkF this, nI_1]
          exact ok_i (fin g2)
        · have : rsd A e l i = true := by rw [ep]; exact decide_eq_true (fa_of_nlt c)
          rw [if_neg c, if_neg (by decide), mkT this, nI_1]
          exact ok_i (fin g2)
      · have hw0 : gR M a 11 = some b := k1
        rw [hw0, moS]
        simp (disch := omega) only [gdI, gdT, Option.bind_some, lte, une2, une3, nI_add, gvI, cl_nI, c_le, c_lt, c_eq, Sum.elim_inl, Sum.elim_inr, hp.k8, hp.k15, hp.l15, hp.k16, hp.l16, hp.k17, hp.l17, hp.k18, hp.l18, hp.r8_1, hp.r8_2, hp.r8_4, hp.r8_5, mII1, mIJ, mIR, mJI, mJR, mRI, mRJ, mJJ1, mRA, k3.1.1]
        have k4 : CLaw x b A 1 T (pA (pA M (x + 17) g') (x + 18) g2) := k3.fr TE.rfl (fun a k z _ => by rw [mIAn (by omega), mIAn (by omega)]) (fun _ _ _ _ => rfl)
        refine Ok.bd (c_law (hp.eq rfl) k4 (by rw [eg]; exact wg)) (fun p hq => ?_)
        obtain ⟨p1, p2⟩ := p
        obtain ⟨r1, g3, rfl⟩ := hq
        simp only [une2, pA_pA, nI_1, lte]
        rw [eg] at r1
        rcases h.lv.lw (lw := 1) (by omega) with z | z
        · exact absurd (z.symm.trans k2) (by decide)
        have ed : den A 1 g' = den A 1 (wds (nI i) 0 (nI l) 0 (dft e) 0) := z.2.2.2 _ _ (fun j hj => by
          have hj5 : j = 0 ∨ j = 2 ∨ j = 4 := by simpa [al] using hj
          rcases hj5 with z | z | z <;> subst z
          · exact v0
          · exact v2
          · exact v4)
        have ep : rsd A e l i = decide (den A 1 (wds (nI i) 0 (nI l) 0 (dft e) 0) = 1) := by unfold rsd; rw [if_pos k2]
        obtain ⟨r, hr1, hr2⟩ := z.2.2.1 (wds (nI i) 0 (nI l) 0 (dft e) 0)
        have hr3 := den_of hr1
        have hp1 : p1 = r := r1.trans (ed.trans hr3)
        rcases hr2 (by omega) with hr0 | hr0
        · have : rsd A e l i = false := by rw [ep, hr3, hr0]; decide
          rw [if_pos (show p1 = 0 from hp1.trans hr0), if_pos trivial, mkF this]
          exact ok_i (fin g3)
        · have : rsd A e l i = true := by rw [ep, hr3, hr0]; decide
          rw [if_neg (show ¬ p1 = 0 by rw [hp1, hr0]; decide), if_neg (by decide), mkT this]
          exact ok_i (fin g3)
    · obtain ⟨g, g2, rfl, w2, w4, w6⟩ := hI
      show Ok (bX5_risenAt_28 T (x + 8) (nI l) (dft e) (gR M a 11) (mk (rsd A e l) 24) (nI 24) _) _
      unfold bX5_risenAt_28
      rw [i_24, if_pos (by decide)]
      exact ok_i ⟨rfl, g, g2, rfl, w6⟩
  refine Ok.bd key (fun p hq2 => ?_)
  obtain ⟨p1, p2⟩ := p
  obtain ⟨rfl, g, g2, rfl, hw⟩ := hq2
  have f : PF x M (pA (pA M (x + 17) g) (x + 18) g2) := ⟨fun a k h1 h2 h3 => by rw [mIAn h3, mIAn h2], fun _ _ _ => rfl, rfl⟩
  refine ok_i ⟨rfl, f, h.put f (CK.pf h f (fun r hr => ?_) (fun _ => rfl)) (fun j hj => ?_)⟩
  · rw [mIAn (by omega), mIAn (by omega)]; exact h.ck.1 r hr
  · rw [mIAn (by omega), mIA1]; exact hw j hj
/-! the class's rows now -/
theorem bt_rw {A : Nat → Int32} {q e l v d : Nat} (hd : d < 24) : bt (rwA A q e l v) d = psd A q e l v d := bt_mk24 hd
theorem bt_mp {A : Nat → Int32} {l v d : Nat} (hd : d < 24) : bt (mpA A l v) d = psd A (qA A) (eA A) l v d := bt_mk24 hd
def pipT (A : Nat → Int32) (t l : Nat) : Bool := psd A (qA A) (eT A t) l (ptA A l / 24) (ptA A l % 24)
def pip (A : Nat → Int32) (l : Nat) : Bool := pipT A (tmA A) l
theorem c_rowNow {x l v : Nat} {A : Nat → Int32} {T : Sh} {M : Me} (h : CV x A T M) (hln : l < nlA A) (hv : v < 16) : Ok (fX11_rowNow T M x (nI l) (nI v)) (fun p => p.1 = mpA A l v ∧ PF x M p.2 ∧ CV x A T p.2) := by
  have hp := h.px
  have hs := h.sv
  unfold fX11_rowNow
  simp (disch := omega) only [gdI, gdT, Option.bind_some, lte, une2, une3, nI_add, gvI, cl_nI, c_le, c_lt, c_eq, Sum.elim_inl, Sum.elim_inr, hp.k0, hp.k8, hp.k15, hp.l15, hp.k16, hp.l16, hp.k17, hp.l17, hp.k18, hp.l18, hp.k25, hp.k26, hp.l26, hp.r0_0, hp.r0_2, hp.r0_3, hp.r0_4, hp.r0_5, hp.r0_6, hp.r0_7, hp.r0_9, hp.r0_10, hp.r0_13, hp.r8_1, hp.r8_2, hp.r8_4, hp.r8_5, hp.r25_0, h.tm, h.pa, hs.n48]
  refine Ok.bd (c_driftAt h (by have := hs.b48; omega)) (fun p hq => ?_)
  obtain ⟨p1, M1⟩ := p
  obtain ⟨rfl, f1, h1⟩ := hq
  simp only [une2]
  refine Ok.bd (c_passing h1 hln hs.b49 (eT_b A _) hv hs.n49) (fun p hq => ?_)
  obtain ⟨p1, M2⟩ := p
  obtain ⟨rfl, f2, h2⟩ := hq
  exact ok_i ⟨rfl, f1.trans f2, h2⟩
theorem c_passesLater {x l n : Nat} {A : Nat → Int32} {T : Sh} {M : Me} (h : CV x A T M) (hln : l < nlA A) (hn : n ≤ 1000) : Ok (fX11_passesLater T M x (nI l) (nI n)) (fun p => p.1 = b2 (pipT A (tmA A + n) l) ∧ PF x M p.2 ∧ CV x A T p.2) := by
  have hp := h.px
  have hs := h.sv
  have hn6 := h.lv.b3
  have hpt := hs.ptb (l := l) (by omega)
  have htm := hs.b48
  unfold fX11_passesLater
  simp (disch := omega) only [gdI, gdT, Option.bind_some, lte, une2, une3, nI_add, gvI, cl_nI, c_le, c_lt, c_eq, Sum.elim_inl, Sum.elim_inr, hp.k0, hp.k8, hp.k15, hp.l15, hp.k16, hp.l16, hp.k17, hp.l17, hp.k18, hp.l18, hp.k25, hp.k26, hp.l26, hp.r0_0, hp.r0_2, hp.r0_3, hp.r0_4, hp.r0_5, hp.r0_6, hp.r0_7, hp.r0_9, hp.r0_10, hp.r0_13, hp.r8_1, hp.r8_2, hp.r8_4, hp.r8_5, hp.r25_0, h.tm, h.pa, hs.n48, h.pt (l := l) (by omega), hs.pt (l := l) (by omega), i_24, c_div, c_remQ]
  refine Ok.bd (c_driftAt h (by omega)) (fun p hq => ?_)
  obtain ⟨p1, M1⟩ := p
  obtain ⟨rfl, f1, h1⟩ := hq
  simp only [une2]
  refine Ok.bd (c_passing h1 hln hs.b49 (eT_b A _) (by omega) hs.n49) (fun p hq => ?_)
  obtain ⟨p1, M2⟩ := p
  obtain ⟨rfl, f2, h2⟩ := hq
  simp only [une2]
  simp (disch := omega) only [bit0, bt_rw]
  unfold pipT
  cases psd A (qA A) (eT A (tmA A + n)) l (ptA A l / 24) (ptA A l % 24)
  · rw [if_pos rfl]; exact ok_i ⟨rfl, f1.trans f2, h2⟩
  · rw [if_neg (by decide)]; exact ok_i ⟨rfl, f1.trans f2, h2⟩
theorem c_passesInPoint {x l : Nat} {A : Nat → Int32} {T : Sh} {M : Me} (h : CV x A T M) (hln : l < nlA A) : Ok (fX11_passesInPoint T M x (nI l)) (fun p => p.1 = b2 (pip A l) ∧ PF x M p.2 ∧ CV x A T p.2) := by
  have hp := h.px
  unfold fX11_passesInPoint
  simp only [gdI, gdT, Option.bind_some, lte, une2, une3, nI_add, gvI, cl_nI, c_le, c_lt, c_eq, Sum.elim_inl, Sum.elim_inr, hp.k0, i_0]
  refine Ok.bd (c_passesLater h hln (by omega)) (fun p hq => ?_)
  obtain ⟨p1, M1⟩ := p
  obtain ⟨rfl, f1, h1⟩ := hq
  rw [une2, gd_pos (by cases pipT A (tmA A + 0) l <;> decide)]
  exact ok_i ⟨rfl, f1, h1⟩
theorem c_passingLanes {x : Nat} {A : Nat → Int32} {T : Sh} {M : Me} (h : CV x A T M) : Ok (fX11_passingLanes T M x) (fun p => p.1 = mk (pip A) (nlA A) ∧ PF x M p.2 ∧ CV x A T p.2) := by
  have hn6 := h.lv.b3
  unfold fX11_passingLanes
  refine Ok.bd (ok_forF (s := ((0 : Int32), (0 : Int32), M)) 0 (nlA A) (fun i s => ∃ M', s = (mk (pip A) i, nI i, M') ∧ PF x M M' ∧ CV x A T M') (fun p => p.1 = mk (pip A) (nlA A) ∧ PF x M p.2 ∧ CV x A T p.2) ⟨M, rfl, PF.rfl, h⟩ (by omega) (by omega) (fun i s _ hi hI => ?_) (fun s hI => ?_)) (fun p hq => ok_i hq)
  · obtain ⟨M', rfl, f, h'⟩ := hI
    have hp := h'.px
    obtain ⟨a, ha, hl⟩ := h'.lab
    show Ok (bX11_passingLanes_4 T x (mk (pip A) i) (nI i) M') _
    unfold bX11_passingLanes_4
    simp (disch := omega) only [gdI, gdT, Option.bind_some, lte, une2, une3, nI_add, gvI, cl_nI, c_le, c_lt, c_eq, Sum.elim_inl, Sum.elim_inr, hp.k0, hp.k8, hp.k15, hp.l15, hp.k16, hp.l16, hp.k17, hp.l17, hp.k18, hp.l18, hp.r0_0, hp.r0_2, hp.r0_3, hp.r0_4, hp.r0_5, hp.r0_6, hp.r0_7, hp.r0_9, hp.r0_10, hp.r0_13, hp.r8_1, hp.r8_2, hp.r8_4, hp.r8_5, ha, hl.k, hl.f7, h.lv.n3, Nat.not_le.mpr hi, if_false]
    refine Ok.bd (c_passesInPoint h' hi) (fun p hq => ?_)
    obtain ⟨p1, M1⟩ := p
    obtain ⟨rfl, f1, h1⟩ := hq
    simp only [une2, lte, nI_1]
    cases hb : pip A i
    · rw [if_pos (b2_ne.mpr rfl)]
      exact ok_i ⟨M1, by rw [mk, if_neg (by rw [hb]; decide)], f.trans f1, h1⟩
    · rw [if_neg (fun z => absurd (b2_ne.mp z) (by decide))]
      exact ok_i ⟨M1, by rw [mk, if_pos hb], f.trans f1, h1⟩
  · obtain ⟨M', rfl, f, h'⟩ := hI
    have hp := h'.px
    obtain ⟨a, ha, hl⟩ := h'.lab
    show Ok (bX11_passingLanes_4 T x (mk (pip A) (nlA A)) (nI (nlA A)) M') _
    unfold bX11_passingLanes_4
    simp (disch := omega) only [gdI, gdT, Option.bind_some, lte, une2, une3, nI_add, gvI, cl_nI, c_le, c_lt, c_eq, Sum.elim_inl, Sum.elim_inr, hp.k0, hp.k8, hp.k15, hp.l15, hp.k16, hp.l16, hp.k17, hp.l17, hp.k18, hp.l18, hp.r0_0, hp.r0_2, hp.r0_3, hp.r0_4, hp.r0_5, hp.r0_6, hp.r0_7, hp.r0_9, hp.r0_10, hp.r0_13, hp.r8_1, hp.r8_2, hp.r8_4, hp.r8_5, ha, hl.k, hl.f7, h.lv.n3, Nat.le_refl, if_true]
    exact ok_i ⟨rfl, f, h'⟩
/-- as PF, and the map too -/
def LF (x : Nat) (M M2 : Me) : Prop := (∀ a k, a ≠ x + 15 → a ≠ x + 17 → a ≠ x + 18 → a ≠ x + 20 → gI M2 a k = gI M a k) ∧ (∀ a k, a ≠ x + 16 → gJ M2 a k = gJ M a k) ∧ M2.2.2 = M.2.2
theorem PF.lf {x : Nat} {M M2 : Me} (h : PF x M M2) : LF x M M2 := ⟨fun a k p q r _ => h.1 a k p q r, h.2.1, h.2.2⟩
theorem LF.trans {x : Nat} {M M1 M2 : Me} (h : LF x M M1) (h2 : LF x M1 M2) : LF x M M2 := ⟨fun a k p q r s => (h2.1 a k p q r s).trans (h.1 a k p q r s), fun a k p => (h2.2.1 a k p).trans (h.2.1 a k p), h2.2.2.trans h.2.2⟩
/-- all that a call may change that does nothing -/
def GF (x : Nat) (M M2 : Me) : Prop := (∀ a k, a ≠ x + 15 → ¬ (x + 17 ≤ a ∧ a ≤ x + 22) → ¬ (x + 66 ≤ a ∧ a ≤ x + 68) → gI M2 a k = gI M a k) ∧ (∀ a k, a ≠ x + 16 → a ≠ x + 23 → a ≠ x + 24 → gJ M2 a k = gJ M a k) ∧ ∀ a k, ¬ (a = x ∧ (k = 11 ∨ k = 12)) → ¬ (a = x + 19 ∧ (k = 3 ∨ k = 4)) → gR M2 a k = gR M a k
theorem GF.rfl {x : Nat} {M : Me} : GF x M M := ⟨fun _ _ _ _ _ => Eq.refl _, fun _ _ _ _ _ => Eq.refl _, fun _ _ _ _ => Eq.refl _⟩
theorem GF.trans {x : Nat} {M M1 M2 : Me} (h : GF x M M1) (h2 : GF x M1 M2) : GF x M M2 := ⟨fun a k p q r => (h2.1 a k p q r).trans (h.1 a k p q r), fun a k p q r => (h2.2.1 a k p q r).trans (h.2.1 a k p q r), fun a k p q => (h2.2.2 a k p q).trans (h.2.2 a k p q)⟩
theorem LF.gf {x : Nat} {M M2 : Me} (h : LF x M M2) : GF x M M2 := ⟨fun a k p q r => h.1 a k p (by omega) (by omega) (by omega), fun a k p _ _ => h.2.1 a k p, fun a k _ _ => by unfold gR; rw [h.2.2]⟩
theorem PF.gf {x : Nat} {M M2 : Me} (h : PF x M M2) : GF x M M2 := h.lf.gf
theorem HF.gf {x : Nat} {M M2 : Me} (h : HF x M M2) : GF x M M2 := ⟨fun a k _ q r => h.1 a k (by omega) r, fun a k _ q r => h.2.1 a k q r, h.2.2⟩
theorem CV.map {x : Nat} {A : Nat → Int32} {T : Sh} {M : Me} (h : CV x A T M) (k : Nat) (v : Int32) : CV x A T (pI M (x + 20) k v) := by
  refine h.hf ⟨fun a j q _ => mIIn (by omega), fun _ _ _ _ => Eq.refl _, fun _ _ _ _ => Eq.refl _⟩ ?_
  obtain ⟨⟨s1, p1, p2, p3⟩, ⟨s2, p4, p5, p6⟩, p7⟩ := h.sw
  exact ⟨⟨s1, p1, p2, p3⟩, ⟨s2, p4, p5, p6⟩, p7⟩
theorem c_look {x l : Nat} {A : Nat → Int32} {T : Sh} {M : Me} (h : CV x A T M) (hln : l < nlA A) : Ok (fX11_look T M x (nI l)) (fun p => (∀ v, v < 16 → gI p.2 (x + 20) v = mpA A l v) ∧ LF x M p.2 ∧ CV x A T p.2) := by
  have hp := h.px
  have hs := h.sv
  unfold fX11_look
  simp (disch := omega) only [gdI, gdT, Option.bind_some, lte, une2, une3, nI_add, gvI, cl_nI, c_le, c_lt, c_eq, Sum.elim_inl, Sum.elim_inr, hp.k0, hp.k8, hp.k15, hp.l15, hp.k16, hp.l16, hp.k17, hp.l17, hp.k18, hp.l18, hp.k25, hp.k26, hp.l26, hp.r0_0, hp.r0_2, hp.r0_3, hp.r0_4, hp.r0_5, hp.r0_6, hp.r0_7, hp.r0_9, hp.r0_10, hp.r0_13, hp.r8_1, hp.r8_2, hp.r8_4, hp.r8_5, hp.r25_0, h.tm, hs.n48]
  refine Ok.bd (c_driftAt h (by have := hs.b48; omega)) (fun p hq => ?_)
  obtain ⟨p1, M1⟩ := p
  obtain ⟨rfl, f1, h1⟩ := hq
  simp only [une2]
  refine Ok.bd (ok_forF (s := ((0 : Int32), M1)) 0 16 (fun i s => ∃ M', s = (nI i, M') ∧ (∀ v, v < i → gI M' (x + 20) v = mpA A l v) ∧ LF x M M' ∧ CV x A T M') (fun M' => (∀ v, v < 16 → gI M' (x + 20) v = mpA A l v) ∧ LF x M M' ∧ CV x A T M') ⟨M1, rfl, fun v hv => absurd hv (by omega), f1.lf, h1⟩ (by omega) (by omega) (fun i s _ hi hI => ?_) (fun s hI => ?_)) (fun p hq => ok_i hq)
  · obtain ⟨M', rfl, hm, f, h'⟩ := hI
    have hp' := h'.px
    show Ok (bX11_look_17 T x (nI l) _ (nI i) M') _
    unfold bX11_look_17
    simp (disch := omega) only [gdI, gdT, Option.bind_some, lte, une2, une3, nI_add, gvI, cl_nI, c_le, c_lt, c_eq, Sum.elim_inl, Sum.elim_inr, hp'.k0, hp'.k8, hp'.k15, hp'.l15, hp'.k16, hp'.l16, hp'.k17, hp'.l17, hp'.k18, hp'.l18, hp'.k19, hp'.k20, hp'.l20, hp'.k21, hp'.l21, hp'.k22, hp'.l22, hp'.k25, hp'.k26, hp'.l26, hp'.r0_0, hp'.r0_2, hp'.r0_3, hp'.r0_4, hp'.r0_5, hp'.r0_6, hp'.r0_7, hp'.r0_9, hp'.r0_10, hp'.r0_13, hp'.r8_1, hp'.r8_2, hp'.r8_4, hp'.r8_5, hp'.r19_0, hp'.r19_1, hp'.r19_2, hp'.r25_0, i_16, Nat.not_le.mpr hi, if_false, h'.pa]
    refine Ok.bd (c_passing h' hln hs.b49 (eT_b A _) hi hs.n49) (fun p hq => ?_)
    obtain ⟨p1, M2⟩ := p
    obtain ⟨rfl, f2, h2⟩ := hq
    simp (disch := omega) only [gdI, gdT, Option.bind_some, lte, une2, une3, nI_add, gvI, cl_nI, c_le, c_lt, c_eq, Sum.elim_inl, Sum.elim_inr, hp'.k0, hp'.k8, hp'.k15, hp'.l15, hp'.k16, hp'.l16, hp'.k17, hp'.l17, hp'.k18, hp'.l18, hp'.k19, hp'.k20, hp'.l20, hp'.k21, hp'.l21, hp'.k22, hp'.l22, hp'.k25, hp'.k26, hp'.l26, hp'.r0_0, hp'.r0_2, hp'.r0_3, hp'.r0_4, hp'.r0_5, hp'.r0_6, hp'.r0_7, hp'.r0_9, hp'.r0_10, hp'.r0_13, hp'.r8_1, hp'.r8_2, hp'.r8_4, hp'.r8_5, hp'.r19_0, hp'.r19_1, hp'.r19_2, hp'.r25_0, nI_1]
    refine ok_i ⟨_, rfl, fun v hv => ?_, f.trans (f2.lf.trans ⟨fun a k _ _ _ q => mIIn q, fun _ _ _ => rfl, rfl⟩), h2.map _ _⟩
    by_cases e : v = i
    · rw [e, mII1]; rfl
    · rw [mIIk e, f2.1 _ _ (by omega) (by omega) (by omega)]; exact hm v (by omega)
  · obtain ⟨M', rfl, hm, f, h'⟩ := hI
    show Ok (bX11_look_17 T x (nI l) _ (nI 16) M') _
    unfold bX11_look_17
    rw [i_16, if_pos (by decide)]
    exact ok_i ⟨hm, f, h'⟩
