/-! the class: drift, where a lane passes, where its clock has risen -/
theorem c_law {x b lw : Nat} {A : Nat → Int32} {T : Sh} {M : Me} (hp : PX x T M) (h : CLaw x b A lw T M) (hw : wb (gI M (x + 17))) : Ok (fX4_valueBy T M b (x + 17) (x + 18)) (fun p => p.1 = den A lw (gI M (x + 17)) ∧ ∃ g, p.2 = pA M (x + 18) g) := by
  obtain ⟨⟨h1, h2, h3⟩, ⟨c, n, h4, h5, h6, h7, h8, h9, h10⟩, h11⟩ := h
  obtain ⟨f, st, hf, hr⟩ := h10 _ hw
  exact c_value h1 h4 h5 h6 h7 hp.k17 hp.l17 hp.k18 hp.l18 (by omega) (by omega) hf hr
theorem c_floorMod {t : Nat} (ht : t < 2147483648) : fJ9_floorMod_7cf53 (nI t) 100 = some (nI (t % 100)) := by
  unfold fJ9_floorMod_7cf53
  have h0 : ¬ (100 : Int32) = 0 := by decide
  have hx : (0 : Int32) ≤ nI t ^^^ nI 100 := by
    rw [nx_xor]
    exact nI_pos' (Nat.xor_lt_two_pow (n := 31) (by omega) (by omega))
  rw [i_100] at h0 ⊢
  rw [gd_pos h0]
  simp (disch := omega) only [lte, c_rem]
  rw [if_pos hx]
theorem c_cl15 (v : Int32) : ∃ m, fJ9_min_7cf53 15 v = some m ∧ fJ9_max_7cf53 (-15) m = some (cl15 v) := by
  unfold fJ9_min_7cf53 fJ9_max_7cf53 cl15
  have e1 : (-15 : Int32).toInt = -15 := by decide
  have e2 : (15 : Int32).toInt = 15 := by decide
  by_cases h1 : v < 15
  · rw [if_pos h1]
    refine ⟨_, rfl, ?_⟩
    by_cases h2 : -15 < v
    · rw [if_pos h2, if_neg (fa_of_lt h2).2.2.1, if_neg (fa_of_lt h1).2.2.1]
    · rw [if_neg h2]
      by_cases h3 : v < -15
      · rw [if_pos h3]
      · have : v = -15 := by rw [fa_eq]; rw [fa_lt] at h2 h3; omega
        subst this; decide
  · rw [if_neg h1]
    refine ⟨_, rfl, ?_⟩
    rw [if_pos (by decide)]
    by_cases h3 : v < -15
    · exfalso; rw [fa_lt] at h1 h3; omega
    · rw [if_neg h3]
      by_cases h4 : 15 < v
      · rw [if_pos h4]
      · rw [if_neg h4]
        have : v = 15 := by rw [fa_eq]; rw [fa_lt] at h1 h4; omega
        rw [this]
theorem drI_99 (A : Nat → Int32) (r : Nat) : drI A r ≠ 99 := by
  obtain ⟨h1, h2⟩ := drE_b A r
  rw [h2]
  intro e
  have := congrArg (fun z => z + nI 15) e
  simp only [dft_15 h1] at this
  rw [i_99, nI_add, nI_eq (by omega) (by omega)] at this
  omega
theorem moS {α β : Type} {a : α} {n : Option β} {f : α → Option β} : mo (some a) n f = f a := Eq.trans rfl rfl
theorem moN {α β : Type} {n : Option β} {f : α → Option β} : mo none n f = n := Eq.trans rfl rfl
theorem CK.pf {x : Nat} {A : Nat → Int32} {T : Sh} {M M2 : Me} (h : CV x A T M) (f : PF x M M2) (h15 : ∀ r, r < 100 → gI M2 (x + 15) r = 99 ∨ gI M2 (x + 15) r = drI A r) (h16 : ∀ k, gJ M2 (x + 16) k = gJ M (x + 16) k) : CK x A M2 := by
  obtain ⟨h3, G, g1, g2, g3, g4⟩ := h.ck
  exact ⟨h15, G, g1, g2, (f.2.1 _ _ (by omega)).trans g3, fun k hk => by rw [h16, PF.um h f]; exact g4 k hk⟩
theorem c_driftAt {x t : Nat} {A : Nat → Int32} {T : Sh} {M : Me} (h : CV x A T M) (ht : t < 2147483648) : Ok (fX5_driftAt T M (x + 8) (nI t)) (fun p => p.1 = dft (eT A t) ∧ PF x M p.2 ∧ CV x A T p.2) := by
  have hp := h.px
  obtain ⟨a, ha, hl⟩ := h.lab
  have hr : t % 100 < 100 := Nat.mod_lt _ (by omega)
  unfold fX5_driftAt eT
  rw [← (drE_b A (t % 100)).2]
  simp (disch := omega) only [c_floorMod ht, gdI, gdT, Option.bind_some, lte, une2, une3, nI_add, gvI, cl_nI, c_le, c_lt, c_eq, Sum.elim_inl, Sum.elim_inr, hp.k8, hp.k15, hp.l15, hp.k16, hp.l16, hp.k17, hp.l17, hp.k18, hp.l18, hp.r8_1, hp.r8_2, hp.r8_4, hp.r8_5, ha, hl.k]
  generalize t % 100 = r at *
  rcases hl.law (lw := 2) (by omega) with k | ⟨b, k1, k2, k3⟩
  · simp only [k.1, moN]
    refine ok_i ⟨?_, PF.rfl, h⟩
    have e : ¬ A 7 = 1 := by rw [show A 7 = 0 from k.2]; decide
    unfold drI
    rw [if_neg e]
  · simp only [k1, moS]
    by_cases hc : gI M (x + 15) r = 99
    · rw [if_pos hc]
      simp (disch := omega) only [gdI, gdT, Option.bind_some, lte, une2, une3, nI_add, gvI, cl_nI, c_le, c_lt, c_eq, Sum.elim_inl, Sum.elim_inr, hp.k8, hp.k15, hp.l15, hp.k16, hp.l16, hp.k17, hp.l17, hp.k18, hp.l18, hp.r8_1, hp.r8_2, hp.r8_4, hp.r8_5, mII1, mIJ, mIR, mJI, mJR, mRI, mRJ, mJJ1, ha, hl.k, k1, k3.1.1, i_5]
      have hw : wb (gI (pI M (x + 17) 5 (nI r)) (x + 17)) := fun j hj => by
        by_cases e : j = 5
        · rw [e, mII1]; exact bd_nI (by omega)
        · rw [mIIk e]; exact h.vb j hj
      have k4 : CLaw x b A 2 T (pI M (x + 17) 5 (nI r)) := k3.fr TE.rfl (fun a k q _ => mIIn (by omega)) (fun a k _ _ => rfl)
      refine Ok.bd (c_law (hp.eq rfl) k4 hw) (fun p hq => ?_)
      obtain ⟨p1, p2⟩ := p
      obtain ⟨rfl, g, rfl⟩ := hq
      have ed : den A 2 (gI (pI M (x + 17) 5 (nI r)) (x + 17)) = den A 2 (fun _ => nI r) := by
        rcases hl.law (lw := 2) (by omega) with z | _
        · exact absurd (z.1.symm.trans k1) (by simp)
        · rcases h.lv.lw (lw := 2) (by omega) with z | z
          · exact absurd (z.symm.trans k2) (by decide)
          · refine z.2.2.2 _ _ (fun j hj => ?_)
            have : j = 5 := by simpa [al] using hj
            rw [this, mII1]
      have e7 : drI A r = cl15 (den A 2 (fun _ => nI r)) := by unfold drI; rw [if_pos k2]
      simp only [ed]
      obtain ⟨m, q1, q2⟩ := c_cl15 (den A 2 (fun _ => nI r))
      simp (disch := omega) only [gdI, gdT, Option.bind_some, lte, une2, une3, nI_add, gvI, cl_nI, c_le, c_lt, c_eq, Sum.elim_inl, Sum.elim_inr, hp.k8, hp.k15, hp.l15, hp.k16, hp.l16, hp.k17, hp.l17, hp.k18, hp.l18, hp.r8_1, hp.r8_2, hp.r8_4, hp.r8_5, mII1, mIJ, mIR, mJI, mJR, mRI, mRJ, mJJ1, mRA, q1, q2]
      have f : PF x M (pI (pA (pI M (x + 17) 5 (nI r)) (x + 18) g) (x + 15) r (cl15 (den A 2 (fun _ => nI r)))) := by
        refine ⟨fun a k h1 h2 h3 => ?_, fun a k _ => rfl, rfl⟩
        rw [mIIn h1, mIAn h3, mIIn h2]
      refine ok_i ⟨e7.symm, f, h.put f (CK.pf h f (fun j hj => ?_) (fun _ => rfl)) (fun j hj => ?_)⟩
      · by_cases e : j = r
        · right; rw [e, mII1, e7]
        · rw [mIIk e, mIAn (by omega), mIIn (by omega)]; exact h.ck.1 j hj
      · rw [mIIn (by omega), mIAn (by omega)]; exact hw j hj
    · rw [if_neg hc]
      refine ok_i ⟨?_, PF.rfl, h⟩
      rcases h.ck.1 r hr with z | z
      · exact absurd z hc
      · exact z
/-! where a lane passes -/
theorem j113_eq {T : Sh} {M : Me} {x0 : Nat} {a b c d : Int32} {w : Option Nat} {k1 k2 s0 s1 : Int32} {z : Int64} (h : k1 = k2) (h2 : s0 = s1) : jX5_passing_113 T M x0 a b c d w k1 s0 z = jX5_passing_113 T M x0 a b c d w k2 s1 z := by
  rw [h, h2]
theorem c_key {T : Sh} {M : Me} {x0 l q e v G : Nat} {pat u : Int32} {w : Option Nat} (hk : kd T x0 = 4) (hG : gJ M x0 3 = lN G) (hp : pat + 1 = nI q) (he : e ≤ 30) : jX5_passing_23 T M x0 (nI l) pat (dft e) (nI v) w u = jX5_passing_113 T M x0 (nI l) pat (dft e) (nI v) w (nI (ky u l e v)) (nI (kq u q)) (lN G * (5 : Int64)) := by
  unfold jX5_passing_23 jX5_passing_39 jX5_passing_63 jX5_passing_86
  have b2 : ((u >>> ((2 : Int32) &&& 31)) &&& (1 : Int32) = 0) = (bt u 2 = false) := bit0 (n := 2) (by omega)
  have b3 : ((u >>> ((3 : Int32) &&& 31)) &&& (1 : Int32) = 0) = (bt u 3 = false) := bit0 (n := 3) (by omega)
  have b4 : ((u >>> ((4 : Int32) &&& 31)) &&& (1 : Int32) = 0) = (bt u 4 = false) := bit0 (n := 4) (by omega)
  have b1 : ((u >>> ((1 : Int32) &&& 31)) &&& (1 : Int32) = 0) = (bt u 1 = false) := bit0 (n := 1) (by omega)
  have c15 : dft e + (15 : Int32) = nI e := dft_15 he
  simp only [b1, b2, b3, b4, lte, hp, c15, hk, hG, gdI]
  unfold ky kq
  cases h1 : bt u 1 <;> cases h2 : bt u 2 <;> cases h3 : bt u 3 <;> cases h4 : bt u 4 <;>
    simp only [if_true, if_false, Bool.true_eq_false, Bool.false_eq_true, reduceCtorEq] <;>
    (refine j113_eq ?_ ?_
     · rw [i_31, i_16]
       try rw [i_0]
       simp only [c_mul, nI_add]
     · first | rfl | exact i_0)
theorem c_abs (v : Int32) : fJ9_abs_0f7a4 v = some (ab v) := by
  unfold fJ9_abs_0f7a4 ab
  by_cases h : (0 : Int32) ≤ v
  · rw [if_pos h, if_neg]
    intro q; exact (fa_of_lt q).2.1 h
  · rw [if_neg h, if_pos (fa_of_nle h)]
theorem c_plain {x a l d v q e : Nat} {A : Nat → Int32} {T : Sh} {M : Me} (hp : PX x T M) (ha : gR M (x + 8) 0 = some a) (hl : CLab x a A T M) (h5 : ¬ A 5 = 1) (hln : l < nlA A) (hn6 : nlA A ≤ 6) (w0 : gI M (x + 17) 0 = nI d) (w1 : gI M (x + 17) 1 = nI v) (w2 : gI M (x + 17) 2 = nI l) (w3 : gI M (x + 17) 3 = stA A q) (w4 : gI M (x + 17) 4 = dft e) : fX5_isInPlainEye T M (x + 8) = some (b2 (psd A q e l v d)) := by
  unfold fX5_isInPlainEye psd
  rw [if_neg h5]
  simp (disch := omega) only [gdI, gdT, Option.bind_some, lte, une2, une3, nI_add, gvI, cl_nI, c_le, c_lt, c_eq, Sum.elim_inl, Sum.elim_inr, hp.k8, hp.k15, hp.l15, hp.k16, hp.l16, hp.k17, hp.l17, hp.k18, hp.l18, hp.r8_1, hp.r8_2, hp.r8_4, hp.r8_5, i_0, i_1, i_2, i_3, i_4, ha, hl.k, hl.r0, hl.r1, hl.r2, hl.r3, hl.k1, hl.k2, hl.k3, hl.k4, hl.l1, hl.l2, hl.l3, hl.l4, w0, w1, w2, w3, w4, hl.at hln, hl.mid hln, hl.wide hln, hl.high hln, c_abs]
  generalize A (26 + l) - stA A q = w
  by_cases g1 : w < nI 1
  · rw [if_pos g1]
    have : ¬ ((nI 0) < w ∧ ab (nI d - A (14 + l) - dft e) * A (32 + l) + ab (nI v - A (20 + l)) * w < w * A (32 + l)) := by
      intro z
      have z1 := (fa_lt _ _).mp z.1
      have z2 := (fa_lt _ _).mp g1
      rw [nI_toInt (by omega)] at z1 z2
      omega
    rw [decide_eq_false this]; rfl
  · rw [if_neg g1]
    have g2 : (nI 0) < w := by
      rw [fa_lt, nI_toInt (by omega)]
      rw [fa_lt, nI_toInt (by omega)] at g1
      omega
    by_cases g3 : w * A (32 + l) ≤ ab (nI d - A (14 + l) - dft e) * A (32 + l) + ab (nI v - A (20 + l)) * w
    · rw [if_pos g3]
      have : ¬ ((nI 0) < w ∧ ab (nI d - A (14 + l) - dft e) * A (32 + l) + ab (nI v - A (20 + l)) * w < w * A (32 + l)) := fun z => (fa_of_lt z.2).2.1 g3
      rw [decide_eq_false this]; rfl
    · rw [if_neg g3]
      have : ((nI 0) < w ∧ ab (nI d - A (14 + l) - dft e) * A (32 + l) + ab (nI v - A (20 + l)) * w < w * A (32 + l)) := ⟨g2, fa_of_nle g3⟩
      rw [decide_eq_true this]; rfl
/-- what the class's loop over delays makes -/
theorem c_passLoop {x a l q e v k : Nat} {A : Nat → Int32} {T : Sh} {M : Me} {w : Option Nat} {z : Int64} (h : CV x A T M) (ha : gR M (x + 8) 0 = some a) (hl : CLab x a A T M) (hln : l < nlA A) (hq : q ≤ 4) (he : e ≤ 30) (hv : v < 16) (hw : gR M a 10 = w) (g0 : Nat → Int32) (w1 : g0 1 = nI v) (w2 : g0 2 = nI l) (w3 : g0 3 = stA A q) (w4 : g0 4 = dft e) (w5 : bd (g0 5)) : Ok (lp FU (fun s => bX5_passing_190 T (x + 8) w (nI k) z s.1 s.2.1 s.2.2) ((0 : Int32), (0 : Int32), pA M (x + 17) g0)) (fun p => p.1 = rwA A q e l v ∧ ∃ g g2, p.2 = pA (pA M (x + 17) g) (x + 18) g2 ∧ wb g) := by
  have hp := h.px
  obtain ⟨sv, hs9, hst⟩ := h.lv.st hq
  have hn6 := h.lv.b3
  refine ok_forF 0 24 (fun i s => ∃ g g2, s = (mk (psd A q e l v) i, nI i, pA (pA M (x + 17) g) (x + 18) g2) ∧ g 1 = nI v ∧ g 2 = nI l ∧ g 3 = stA A q ∧ g 4 = dft e ∧ bd (g 5) ∧ (0 < i → bd (g 0))) _ ⟨g0, gI M (x + 18), Prod.ext rfl (Prod.ext nI_0.symm ?_), w1, w2, w3, w4, w5, fun z => absurd z (by omega)⟩ (by omega) (by omega) (fun i s _ hi hI => ?_) (fun s hI => ?_)
  · refine (pA_id (fun k => ?_)).symm
    rw [mIAn (by omega)]
  · obtain ⟨g, g2, rfl, w1, w2, w3, w4, w5, w6⟩ := hI
    show Ok (bX5_passing_190 T (x + 8) w (nI k) z (mk (psd A q e l v) i) (nI i) _) _
    unfold bX5_passing_190
    simp (disch := omega) only [gdI, gdT, Option.bind_some, lte, une2, une3, nI_add, gvI, cl_nI, c_le, c_lt, c_eq, Sum.elim_inl, Sum.elim_inr, hp.k8, hp.k15, hp.l15, hp.k16, hp.l16, hp.k17, hp.l17, hp.k18, hp.l18, hp.r8_1, hp.r8_2, hp.r8_4, hp.r8_5, mII1, mIJ, mIR, mJI, mJR, mRI, mRJ, mJJ1, mRA, i_24, Nat.not_le.mpr hi, if_false]
    have e0 : Int32.toNatClampNeg (0 : Int32) = 0 := by decide
    have hv0 : vp_in (0 : Int32) 8 := by unfold vp_in; decide
    rw [gv_pos hv0, e0]
    have eM : pI (pA (pA M (x + 17) g) (x + 18) g2) (x + 17) 0 (nI i) = pA (pA M (x + 17) (fun j => if j = 0 then nI i else g j)) (x + 18) g2 := by
      refine me_ext (fun b j => ?_) (fun _ _ => rfl) (fun _ _ => rfl)
      rw [mII, mIA, mIA, mIA, mIA]
      by_cases b7 : b = x + 17
      · subst b7; simp
      · simp [b7]
    rw [eM]
    generalize hg : (fun j => if j = 0 then nI i else g j) = g'
    have v0 : g' 0 = nI i := by rw [← hg]; rfl
    have v1 : g' 1 = nI v := by rw [← hg]; exact w1
    have v2 : g' 2 = nI l := by rw [← hg]; exact w2
    have v3 : g' 3 = stA A q := by rw [← hg]; exact w3
    have v4 : g' 4 = dft e := by rw [← hg]; exact w4
    have v5 : bd (g' 5) := by rw [← hg]; exact w5
    have eg : gI (pA (pA M (x + 17) g') (x + 18) g2) (x + 17) = g' := funext fun j => by rw [mIAn (by omega), mIA1]
    have wg : wb g' := fun j hj => by
      rcases (by omega : j = 0 ∨ j = 1 ∨ j = 2 ∨ j = 3 ∨ j = 4 ∨ j = 5) with z | z | z | z | z | z <;> subst z
      · rw [v0]; exact bd_nI (by omega)
      · rw [v1]; exact bd_nI (by omega)
      · rw [v2]; exact bd_nI (by omega)
      · rw [v3, hst]; exact bd_nI (by omega)
      · rw [v4]; exact bd_dft e (by omega)
      · exact v5
    have fin : ∀ (g3 : Nat → Int32), ∃ g g2, (mk (psd A q e l v) (i + 1), nI (i + 1), pA (pA M (x + 17) g') (x + 18) g3) = (mk (psd A q e l v) (i + 1), nI (i + 1), pA (pA M (x + 17) g) (x + 18) g2) ∧ g 1 = nI v ∧ g 2 = nI l ∧ g 3 = stA A q ∧ g 4 = dft e ∧ bd (g 5) ∧ (0 < i + 1 → bd (g 0)) := fun g3 => ⟨g', g3, rfl, v1, v2, v3, v4, v5, fun _ => wg 0 (by omega)⟩
    have mkT : psd A q e l v i = true → mk (psd A q e l v) i ||| (1 : Int32) <<< (nI i &&& 31) = mk (psd A q e l v) (i + 1) := fun z => by rw [mk, if_pos z]
    have mkF : psd A q e l v i = false → mk (psd A q e l v) i ||| (0 : Int32) = mk (psd A q e l v) (i + 1) := fun z => by rw [mk, if_neg (by rw [z]; decide)]
    rcases hl.law (lw := 0) (by omega) with kk | ⟨b, k1, k2, k3⟩
    · have hw0 : w = none := by rw [← hw]; exact kk.1
      subst hw0
      have h5 : ¬ A 5 = 1 := by rw [show A 5 = 0 from kk.2]; decide
      have hlM : CLab x a A T (pA (pA M (x + 17) g') (x + 18) g2) := hl.fr TE.rfl (fun b k z _ => by rw [mIAn (by unfold lr at z; omega), mIAn (by unfold lr at z; omega)]) (fun _ _ _ _ => rfl)
      have hpl := c_plain (d := i) (v := v) (q := q) (e := e) (hp.eq (M2 := pA (pA M (x + 17) g') (x + 18) g2) rfl) (show gR (pA (pA M (x + 17) g') (x + 18) g2) (x + 8) 0 = some a from ha) hlM h5 hln hn6 (by rw [eg]; exact v0) (by rw [eg]; exact v1) (by rw [eg]; exact v2) (by rw [eg]; exact v3) (by rw [eg]; exact v4)
      simp only [moN, hpl, Option.bind_some]
      cases hb : psd A q e l v i
      · rw [if_pos (b2_ne.mpr rfl), mkF hb, nI_1]
        exact ok_i (fin g2)
      · rw [if_neg (fun z => absurd (b2_ne.mp z) (by decide)), mkT hb, nI_1]
        exact ok_i (fin g2)
    · have hw0 : w = some b := by rw [← hw]; exact k1
      subst hw0
      simp only [moS]
      simp (disch := omega) only [gdI, gdT, Option.bind_some, lte, une2, une3, nI_add, gvI, cl_nI, c_le, c_lt, c_eq, Sum.elim_inl, Sum.elim_inr, hp.k8, hp.k15, hp.l15, hp.k16, hp.l16, hp.k17, hp.l17, hp.k18, hp.l18, hp.r8_1, hp.r8_2, hp.r8_4, hp.r8_5, mII1, mIJ, mIR, mJI, mJR, mRI, mRJ, mJJ1, mRA, k3.1.1]
      have k4 : CLaw x b A 0 T (pA (pA M (x + 17) g') (x + 18) g2) := k3.fr TE.rfl (fun a k z _ => by rw [mIAn (by omega), mIAn (by omega)]) (fun _ _ _ _ => rfl)
      refine Ok.bd (c_law (hp.eq rfl) k4 (by rw [eg]; exact wg)) (fun p hq => ?_)
      obtain ⟨p1, p2⟩ := p
      obtain ⟨r1, g3, rfl⟩ := hq
      simp only [une2, pA_pA, nI_1, lte]
      rw [eg] at r1
      have LW0 := h.lv.lw (lw := 0) (by omega)
      rcases LW0 with z | z
      · exact absurd (z.symm.trans k2) (by decide)
      have ed : den A 0 g' = den A 0 (wds (nI i) (nI v) (nI l) (stA A q) (dft e) 0) := z.2.2.2 _ _ (fun j hj => by
        have hj5 : j < 5 := by simpa [al] using hj
        rcases (by omega : j = 0 ∨ j = 1 ∨ j = 2 ∨ j = 3 ∨ j = 4) with z | z | z | z | z <;> subst z
        · exact v0
        · exact v1
        · exact v2
        · exact v3
        · exact v4)
      have ep : psd A q e l v i = decide (den A 0 (wds (nI i) (nI v) (nI l) (stA A q) (dft e) 0) = 1) := by unfold psd; rw [if_pos k2]
      obtain ⟨r, hr1, hr2⟩ := z.2.2.1 (wds (nI i) (nI v) (nI l) (stA A q) (dft e) 0)
      have hr3 := den_of hr1
      have hp1 : p1 = r := r1.trans (ed.trans hr3)
      rcases hr2 (by omega) with hr0 | hr0
      · have : psd A q e l v i = false := by rw [ep, hr3, hr0]; decide
        rw [if_pos (show p1 = 0 from hp1.trans hr0), if_pos trivial, mkF this]
        exact ok_i (fin g3)
      · have : psd A q e l v i = true := by rw [ep, hr3, hr0]; decide
        rw [if_neg (show ¬ p1 = 0 by rw [hp1, hr0]; decide), if_neg (by decide), mkT this]
        exact ok_i (fin g3)
  · obtain ⟨g, g2, rfl, w1, w2, w3, w4, w5, w6⟩ := hI
    show Ok (bX5_passing_190 T (x + 8) w (nI k) z (mk (psd A q e l v) 24) (nI 24) _) _
    unfold bX5_passing_190
    rw [i_24, if_pos (by decide)]
    refine ok_i ⟨rfl, g, g2, rfl, fun j hj => ?_⟩
    rcases (by omega : j = 0 ∨ j = 1 ∨ j = 2 ∨ j = 3 ∨ j = 4 ∨ j = 5) with z | z | z | z | z | z <;> subst z
    · exact w6 (by omega)
    · rw [w1]; exact bd_nI (by omega)
    · rw [w2]; exact bd_nI (by omega)
    · rw [w3, hst]; exact bd_nI (by omega)
    · rw [w4]; exact bd_dft e (by omega)
    · exact w5
theorem sh24 {n b : Nat} (hn : n ≤ 6000000) (hb : b < 16777216) : lN (n * 16777216 + b) >>> (Int32.toInt64 (24 : Int32) &&& 63) = lN n := by
  rw [pf_shr (d := 24) (by decide) (by omega)]
  exact congrArg lN (by omega)
theorem lo24 {n b : Nat} (hb : b < 16777216) : Int64.toInt32 (lN (n * 16777216 + b)) &&& (16777215 : Int32) = nI b := by
  rw [lN_i, show (16777215 : Int32) = nI 16777215 from rfl, nx_and, show (16777215 : Nat) = 2 ^ 24 - 1 from rfl, Nat.and_two_pow_sub_one_eq_mod]
  exact congrArg nI (by omega)
theorem mk5 {G q : Nat} (hq : q ≤ 4) : lN G * (5 : Int64) + Int32.toInt64 (nI q) = lN (G * 5 + q) := by
  rw [nI_l (by omega), show (5 : Int64) = lN 5 from rfl]
  exact (congrArg (fun y => y + lN q) (Int64.ofNat_mul G 5).symm).trans (Int64.ofNat_add (G * 5) q).symm
theorem or24 {n b : Nat} (hn : n ≤ 6000000) (hb : b < 16777216) : lN n <<< (Int32.toInt64 (24 : Int32) &&& 63) ||| Int32.toInt64 (nI b) = lN (n * 16777216 + b) := by
  rw [g_shl (k := 24) (p := 16777216) (by decide) (by omega) (by decide) (by omega), nI_l (by omega), g_or (k := 24) (by decide) hb (by omega)]
/-- rows that a law doesn't tell apart are the same -/
theorem rw_same {x a l q e v l2 q2 e2 v2 : Nat} {A : Nat → Int32} {T : Sh} {M : Me} (ha : gR M (x + 8) 0 = some a) (hl : CLab x a A T M) (hv : LV A) (h1 : l < 6 ∧ q < 5 ∧ e < 31 ∧ v < 16) (h2 : l2 < 6 ∧ q2 < 5 ∧ e2 < 31 ∧ v2 < 16) (hk : ky (mU x M) l2 e2 v2 = ky (mU x M) l e v) (hk2 : kq (mU x M) q2 = kq (mU x M) q) : rwA A q2 e2 l2 v2 = rwA A q e l v := by
  have key : ∀ u : Int32, ky u l2 e2 v2 = ky u l e v → kq u q2 = kq u q → (bt u 2 = true → l2 = l) ∧ (bt u 3 = true → q2 = q) ∧ (bt u 4 = true → e2 = e) ∧ (bt u 1 = true → v2 = v) := by
    intro u hu hu2
    unfold ky at hu
    unfold kq at hu2
    cases k1 : bt u 1 <;> cases k2 : bt u 2 <;> cases k3 : bt u 3 <;> cases k4 : bt u 4 <;>
      simp only [k1, k2, k3, k4, if_true, if_false, Bool.false_eq_true, reduceCtorEq] at hu hu2 <;>
      refine ⟨fun z => ?_, fun z => ?_, fun z => ?_, fun z => ?_⟩ <;> first | omega | (exact absurd z (by decide))
  rcases hl.law (lw := 0) (by omega) with kk | ⟨b, k1, k2, k3⟩
  · have hu : mU x M = -1 := by unfold mU; rw [ha]; simp only; rw [kk.1]
    rw [hu] at hk hk2
    obtain ⟨f1, f2, f3, f4⟩ := key _ hk hk2
    rw [f1 (by decide), f2 (by decide), f3 (by decide), f4 (by decide)]
  · have hu : mU x M = gI M b 1 := by unfold mU; rw [ha]; simp only; rw [k1]
    rw [hu] at hk hk2
    obtain ⟨f1, f2, f3, f4⟩ := key _ hk hk2
    refine mk_cong (fun i hi => ?_)
    unfold psd
    rw [if_pos k2, if_pos k2]
    refine congrArg (fun z => decide (z = (1 : Int32))) (k3.2.2 _ _ (fun j hj hb => ?_))
    rcases (by omega : j = 0 ∨ j = 1 ∨ j = 2 ∨ j = 3 ∨ j = 4 ∨ j = 5) with z | z | z | z | z | z <;> subst z
    · rfl
    · show nI v2 = nI v; rw [f4 hb]
    · show nI l2 = nI l; rw [f1 hb]
    · show stA A q2 = stA A q; rw [f2 hb]
    · show dft e2 = dft e; rw [f3 hb]
    · rfl
theorem c_passing {x l q e v : Nat} {pat : Int32} {A : Nat → Int32} {T : Sh} {M : Me} (h : CV x A T M) (hln : l < nlA A) (hq : q ≤ npA A) (he : e ≤ 30) (hv : v < 16) (hpat : pat + 1 = nI q) : Ok (fX5_passing T M (x + 8) (nI l) pat (dft e) (nI v)) (fun p => p.1 = rwA A q e l v ∧ PF x M p.2 ∧ CV x A T p.2) := by
  have hp := h.px
  obtain ⟨a, ha, hl⟩ := h.lab
  have hn6 := h.lv.b3
  have hn4 := h.lv.b4
  have ck := h.ck
  obtain ⟨c1, G, g1, g2', g3, g4⟩ := ck
  have red : fX5_passing T M (x + 8) (nI l) pat (dft e) (nI v) = jX5_passing_113 T M (x + 8) (nI l) pat (dft e) (nI v) (gR M a 10) (nI (ky (mU x M) l e v)) (nI (kq (mU x M) q)) (lN G * (5 : Int64)) := by
    unfold fX5_passing
    simp (disch := omega) only [gdI, gdT, Option.bind_some, lte, une2, une3, nI_add, gvI, cl_nI, c_le, c_lt, c_eq, Sum.elim_inl, Sum.elim_inr, hp.k8, hp.k15, hp.l15, hp.k16, hp.l16, hp.k17, hp.l17, hp.k18, hp.l18, hp.r8_1, hp.r8_2, hp.r8_4, hp.r8_5, ha, hl.k]
    rcases hl.law (lw := 0) (by omega) with kk | ⟨b, k1, k2, k3⟩
    · have hu : mU x M = -1 := by unfold mU; rw [ha]; simp only; rw [kk.1]
      rw [kk.1, hu, moN, c_key hp.k8 g3 hpat he]
    · have hu : mU x M = gI M b 1 := by unfold mU; rw [ha]; simp only; rw [k1]
      rw [k1, hu, moS, k3.1.1, gdI, c_key hp.k8 g3 hpat he]
  rw [red]
  have hkl : ky (mU x M) l e v < 2976 := ky_lt (by omega) (by omega) hv
  have hkq : kq (mU x M) q ≤ 4 := kq_le (by omega)
  unfold jX5_passing_113
  rw [mk5 hkq]
  generalize hN : G * 5 + kq (mU x M) q = N
  simp (disch := omega) only [gdI, gdT, Option.bind_some, lte, une2, une3, nI_add, gvI, cl_nI, c_le, c_lt, c_eq, Sum.elim_inl, Sum.elim_inr, hp.k8, hp.k15, hp.l15, hp.k16, hp.l16, hp.k17, hp.l17, hp.k18, hp.l18, hp.r8_1, hp.r8_2, hp.r8_4, hp.r8_5, Nat.add_zero, lc_eq]
  obtain ⟨n0, b0, n1, n2, n3, n4⟩ := g4 _ hkl
  rw [n3, sh24 (by omega) n2, lo24 n2]
  by_cases hit : n0 = N
  · rw [if_pos (congrArg lN hit)]
    exact ok_i ⟨n4 l q e v (by omega) (by omega) (by omega) hv (hit.trans hN.symm) rfl, PF.rfl, h⟩
  · rw [if_neg (by rw [pk_lEQ (by omega) (by omega)]; exact hit)]
    have hpat2 : pat + nI 1 = nI q := hpat
    have had := hl.ad
    simp (disch := omega) only [gdI, gdT, Option.bind_some, lte, une2, une3, nI_add, gvI, cl_nI, c_le, c_lt, c_eq, Sum.elim_inl, Sum.elim_inr, hp.k8, hp.k15, hp.l15, hp.k16, hp.l16, hp.k17, hp.l17, hp.k18, hp.l18, hp.r8_1, hp.r8_2, hp.r8_4, hp.r8_5, mII1, mIJ, mIR, mJI, mJR, mRI, mRJ, mJJ1, i_1, i_2, i_3, i_4, ha, hl.k, hl.r4, hl.k5, hl.l5, hpat2, mIIn, hl.st hq]
    simp only [pI_pA, mIA1, pA_pA]
    refine Ok.bd (c_passLoop h ha hl hln (by omega) he hv rfl _ rfl rfl rfl rfl (h.vb 5 (by omega))) (fun p hq2 => ?_)
    obtain ⟨p1, p2⟩ := p
    obtain ⟨rfl, g, g2, rfl, hw⟩ := hq2
    have hr : ∃ b, b < 2 ^ 24 ∧ rwA A q e l v = nI b := mk_nI _ 24 (by omega)
    obtain ⟨b, hb, eb⟩ := hr
    simp (disch := omega) only [gdI, gdT, Option.bind_some, lte, une2, une3, nI_add, gvI, cl_nI, c_le, c_lt, c_eq, Sum.elim_inl, Sum.elim_inr, hp.k8, hp.k15, hp.l15, hp.k16, hp.l16, hp.k17, hp.l17, hp.k18, hp.l18, hp.r8_1, hp.r8_2, hp.r8_4, hp.r8_5, mII1, mIJ, mIR, mJI, mJR, mRI, mRJ, mJJ1, mRA, mJA, eb]
    simp only [or24 (n := N) (by omega) hb]
    have f : PF x M (pJ (pA (pA M (x + 17) g) (x + 18) g2) (x + 16) (ky (mU x M) l e v) (lN (N * 16777216 + b))) := by
      refine ⟨fun a k h1 h2 h3 => ?_, fun a k h1 => ?_, rfl⟩
      · rw [mIJ, mIAn h3, mIAn h2]
      · rw [mJJn h1]; rfl
    refine ok_i ⟨rfl, f, h.put f ⟨fun r hr => ?_, G, g1, g2', (f.2.1 _ _ (by omega)).trans g3, fun k hk => ?_⟩ (fun j hj => ?_)⟩
    · rw [mIJ, mIAn (by omega), mIAn (by omega)]; exact c1 r hr
    · rw [PF.um h f]
      by_cases ek : k = ky (mU x M) l e v
      · refine ⟨N, b, by omega, hb, by rw [ek, mJJ1], fun l2 q2 e2 v2 z1 z2 z3 z4 z6 z5 => ?_⟩
        rw [← eb]
        exact (rw_same ha hl h.lv ⟨by omega, by omega, by omega, hv⟩ ⟨z1, z2, z3, z4⟩ (z5.trans ek) (by omega)).symm
      · have : gJ (pJ (pA (pA M (x + 17) g) (x + 18) g2) (x + 16) (ky (mU x M) l e v) (lN (N * 16777216 + b))) (x + 16) k = gJ M (x + 16) k := by
          rw [mJJ, if_neg (fun z => ek z.2)]; rfl
        rw [this]; exact g4 k hk
    · rw [mIJ, mIAn (by omega), mIA1]; exact hw j hj
