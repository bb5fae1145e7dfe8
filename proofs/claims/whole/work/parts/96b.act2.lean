section
variable {x m : Nat} {A B : Nat → Int32} {T T2 : Sh} {M M1 M2 : Me} {S : Wd}
/-- how it stands is copied from another stand -/
theorem c_copyN {b : Nat} {w : Nat → Int32} (hp : PX x T M) (hb : KS b T M) (n1 : b ≠ x + 25) (n2 : b ≠ x + 25 + 1) (n3 : b + 1 ≠ x + 25) (hw : SD b w M) : Ok (fX8_copy T M (x + 25) b) (fun p => SD (x + 25) w p.2 ∧ NF x M p.2) := by
  obtain ⟨b1, b2, b3, b4⟩ := hb
  rw [copy_eq hp.k25 b1 hp.r25_0 hp.k26 hp.l26 b2 b3 b4 (by omega)]
  refine ok_i ⟨⟨fun k hk => ?_, ?_, ?_⟩, fun c k h1 h2 => ?_, rfl⟩
  · rw [mIIn (by omega), mIIn (by omega), mIA1, if_pos hk]; exact hw.1 k hk
  · rw [mIIk (by omega), mII1, mIAn (by omega)]; exact hw.2.1
  · rw [mII1, mIIn (by omega), mIAn (by omega)]; exact hw.2.2
  · rw [mII, if_neg (by omega), mII, if_neg (by omega), mIAn h2]
theorem s_train (hS : S.ok) (hc : S.c < 600) (a b : Int32) : QS x S (fun T M => fX11_train T M x a b) (fun T M => fX12_train T M (x + 69) a b) := by
  have h6 := hS.lv.b3
  have no : ((a.toInt < 0 ∨ (nlA S.A : Int) ≤ a.toInt) ∨ (b.toInt < 0 ∨ ((3 : Nat) : Int) ≤ b.toInt)) → QS x S (fun T M => fX11_train T M x a b) (fun T M => fX12_train T M (x + 69) a b) := by
    intro hn
    refine qs_no hS (-11) (fun T M h => ?_) (fun T M h => ?_)
    · show fX11_train T M x a b = _
      unfold fX11_train
      rw [h.1.px.k0, gdI, c_trained0 h.1 hn, Option.bind_some, une2, if_neg (by decide)]
      rfl
    · show fX12_train T M (x + 69) a b = _
      unfold fX12_train
      rw [h.1.1.k, gdI, lte, r_why0 (h.t0.1.rv hS) (by rw [Int32.toInt_toInt64, Int32.toInt_toInt64]; exact hn), Option.bind_some, une2, if_neg (by decide)]
      rfl
  rcases (ix_I a (nlA S.A) (by omega)).symm with ha | ⟨l, hl, rfl⟩
  · exact no (Or.inl ha)
  rcases (ix_I b 3 (by omega)).symm with hb | ⟨w, hw, rfl⟩
  · exact no (Or.inr hb)
  clear no
  rcases trL_c hS.lv hS.sv hl hw with e2 | ⟨c, hcc, ec⟩
  · refine ⟨-12, S, hS, by omega, fun T M h => ?_, fun T M h => ?_⟩
    · show Ok (fX11_train T M x (nI l) (nI w)) _
      unfold fX11_train
      rw [h.1.px.k0, gdI]
      refine Ok.bd (c_trained h.1 hl hw) (fun p hq => ?_)
      obtain ⟨p1, M1⟩ := p
      obtain ⟨rfl, _, f1, h1⟩ := hq
      rw [une2, e2, if_neg (by decide)]
      exact ok_i ⟨show (-10 : Int32) + -2 = -12 by decide, h.gf h1 f1, f1.wf.2.2.2⟩
    · show Ok (fX12_train T M (x + 69) (nI l) (nI w)) _
      obtain ⟨h0, f0⟩ := h.t0 (v := 0)
      unfold fX12_train
      rw [h.1.1.k, gdI, lte, w_nI (by omega), w_nI (by omega)]
      refine Ok.bd (r_why (h0.rv hS) hl hw) (fun p hq => ?_)
      obtain ⟨p1, M1⟩ := p
      obtain ⟨rfl, _, f1⟩ := hq
      rw [une2, if_pos e2, if_neg (by decide)]
      exact ok_i ⟨by show (-10 : Int32) - 2 = -12; decide, h0.qf (f1.qf (fun _ _ => kf_qf)), f0.trans (f1.qf (fun _ _ => kf_qf)).rf⟩
  · have hne : ¬ trL S.A l w = -2 := by
      rw [ec]
      intro z
      have := congrArg Int32.toInt z
      rw [nI_toInt (by omega)] at this
      have e2 : (-2 : Int32).toInt = -2 := by decide
      omega
    have sv : SV (upA S.A (42 + l) (nI c)) := hS.sv.pts hS.lv (by omega) hcc
    have hok := ok_act hS hc (up_OK hS (by omega) (by omega) (by omega) sv) (LE.up (by omega) (by omega)) (up_e (by omega))
    refine ⟨nI c, acW S (upA S.A (42 + l) (nI c)), hok, Nat.le_refl _, fun T M h => ?_, fun T M h => ?_⟩
    · show Ok (fX11_train T M x (nI l) (nI w)) _
      unfold fX11_train
      rw [h.1.px.k0, gdI]
      refine Ok.bd (c_trained h.1 hl hw) (fun p hq => ?_)
      obtain ⟨p1, M1⟩ := p
      obtain ⟨rfl, _, f1, h1⟩ := hq
      have hp1 := h1.px
      rw [une2, ec, if_pos (nI_pos' (by omega)), hp1.r0_5, Option.bind_some]
      refine Ok.bd (c_act (h.gf h1 f1)) (fun p hq => ?_)
      obtain ⟨p1, M2⟩ := p
      obtain ⟨h2, h3, h4, h5⟩ := hq
      have hp2 := h2.px
      rw [une2]
      simp (disch := omega) only [gdI, gdT, Option.bind_some, lte, hp2.k0, hp2.k25, hp2.k26, hp2.l26, hp2.r0_0, hp2.r0_2, hp2.r0_3, hp2.r0_4, hp2.r0_5, hp2.r0_6, hp2.r0_7, hp2.r0_9, hp2.r0_10, hp2.r0_13, hp2.r25_0, gvI, cl_nI]
      obtain ⟨g1, g2⟩ := h2.setpt (l := l) (c := c) (by omega) hcc
      exact ok_i ⟨rfl, c_actW hS.hu g1 (h3.df g2.df) (h4.wf g2.wf) (up_e (by omega)), (f1.wf.2.2.2.trans h5).trans g2.wf.2.2.2⟩
    · show Ok (fX12_train T M (x + 69) (nI l) (nI w)) _
      obtain ⟨h0, f0⟩ := h.t0 (v := 0)
      unfold fX12_train
      rw [h.1.1.k, gdI, lte, w_nI (by omega), w_nI (by omega)]
      refine Ok.bd (r_why (h0.rv hS) hl hw) (fun p hq => ?_)
      obtain ⟨p1, M1⟩ := p
      obtain ⟨rfl, e30, f1⟩ := hq
      have e30 : gI M1 (x + 69) 30 = nI c := (e30 hne).trans ec
      rw [une2, if_neg hne, if_pos rfl]
      have h1 := h0.qf (f1.qf (fun _ _ => kf_qf))
      refine Ok.bd (r_act h1) (fun p hq => ?_)
      obtain ⟨p1, M2⟩ := p
      obtain ⟨w2, h2, f2⟩ := hq
      have hM2 := h2.1.1
      have e30' : gI M2 (x + 69) 30 = nI c := (f2.1 _ _ (by omega)).trans e30
      rw [une2]
      simp (disch := omega) only [gdI, gdT, Option.bind_some, lte, une2, une3, nI_add, gvI, cl_nI, c_le, c_lt, c_eq, Sum.elim_inl, Sum.elim_inr, hM2.k, hM2.r1, hM2.k1, hM2.l1, i_42, e30']
      obtain ⟨g1, g2⟩ := (h2.rv hS).up (k := 42 + l) (v := nI c) (by omega) (by omega) sv
      refine Ok.bd (r_actW hS.hu (by rw [upA_n (by omega)]; exact hS.h50) g1.rw (w2.fi g2 (fun k => by unfold df kf; omega)) (h2.2.yf (g2.yf (fun a k q => by unfold df kf at q; omega)))) (fun p hq => ?_)
      obtain ⟨p1, M3⟩ := p
      obtain ⟨h3, f3⟩ := hq
      rw [une2]
      refine ok_i ⟨?_, h3, (((f0.trans (f1.qf (fun _ _ => kf_qf)).rf).trans (f2.rf (fun a k q => by omega))).trans (g2.rf (fun a k q => by unfold df kf at q; omega))).trans (f3.rf (fun a k q => by unfold uf at q; omega))⟩
      show gI M3 (x + 69) 30 = nI c
      have f3 : FI (x + 69) (uf (x + 69)) (pI M2 (x + 69 + 1) (42 + l) (nI c)) M3 := f3
      rw [f3.1 _ _ (by unfold uf; omega), mIIn (by omega)]
      exact e30'
theorem s_pattern (hS : S.ok) (hc : S.c < 600) (a : Int32) : QS x S (fun T M => fX11_pattern T M x a) (fun T M => fX12_pattern T M (x + 69) a) := by
  have h4 := hS.lv.b4
  have cm : (-1 : Int64).toInt = -1 := by decide
  have cm' : (-1 : Int32).toInt = -1 := by decide
  have e2 : (nI (npA S.A) - 1).toInt64.toInt = (npA S.A : Int) - 1 := by rw [Int32.toInt_toInt64, i_pm (by omega)]
  have e4 : ∀ {T M}, WR (x + 69) S T M → gI M (x + 69 + 1) 4 = nI (npA S.A) := fun h => (h.1.2 4 (by omega)).trans hS.lv.n4
  have yes : ∀ q, a + 1 = nI q → q ≤ npA S.A → a.toInt = (q : Int) - 1 → QS x S (fun T M => fX11_pattern T M x a) (fun T M => fX12_pattern T M (x + 69) a) := by
    intro q hq hqn hqi
    have sv : SV (upA S.A 49 a) := hS.sv.pat hS.lv hq hqn
    have hok := ok_act hS hc (up_OK hS (by omega) (by omega) (by omega) sv) (LE.up (by omega) (by omega)) (up_e (by omega))
    refine ⟨S.A 49, acW S (upA S.A 49 a), hok, Nat.le_refl _, fun T M h => ?_, fun T M h => ?_⟩
    · show Ok (fX11_pattern T M x a) _
      unfold fX11_pattern
      rw [h.1.px.k0, gdI, c_patok h.1 hq (by omega), if_pos hqn, Option.bind_some, if_pos rfl, h.1.px.r0_5, Option.bind_some]
      refine Ok.bd (c_act h) (fun p hq => ?_)
      obtain ⟨p1, M2⟩ := p
      obtain ⟨h2, h3, h4, h5⟩ := hq
      have hp2 := h2.px
      rw [une2]
      simp (disch := omega) only [gdI, gdT, Option.bind_some, lte, hp2.k0, hp2.k25, hp2.k26, hp2.l26, hp2.r0_0, hp2.r0_2, hp2.r0_3, hp2.r0_4, hp2.r0_5, hp2.r0_6, hp2.r0_7, hp2.r0_9, hp2.r0_10, hp2.r0_13, hp2.r25_0]
      obtain ⟨g1, g2⟩ := h2.setpa hq hqn
      exact ok_i ⟨h2.pa, c_actW hS.hu g1 (h3.df g2.df) (h4.wf g2.wf) (up_e (by omega)), h5.trans g2.wf.2.2.2⟩
    · show Ok (fX12_pattern T M (x + 69) a) _
      obtain ⟨h0, f0⟩ := h.t0 (v := 0)
      have hM := h0.1.1
      unfold fX12_pattern
      simp (disch := omega) only [gdI, gdT, Option.bind_some, lte, une2, une3, nI_add, gvI, cl_nI, c_le, c_lt, c_eq, Sum.elim_inl, Sum.elim_inr, h.1.1.k, hM.k, hM.r1, hM.k1, hM.l1, i_4, e4 h0]
      rw [wi_1 (by rw [cm, e2, Int32.toInt_toInt64, hqi]; omega), Option.bind_some, if_neg (by decide)]
      refine Ok.bd (r_act h0) (fun p hq => ?_)
      obtain ⟨p1, M2⟩ := p
      obtain ⟨w2, h2, f2⟩ := hq
      have hM2 := h2.1.1
      rw [une2]
      simp (disch := omega) only [gdI, gdT, Option.bind_some, lte, une2, une3, nI_add, gvI, cl_nI, c_le, c_lt, c_eq, Sum.elim_inl, Sum.elim_inr, hM2.k, hM2.r1, hM2.k1, hM2.l1, i_49]
      obtain ⟨g1, g2⟩ := (h2.rv hS).up (k := 49) (v := a) (by omega) (by omega) sv
      have w2' := w2.fi g2 (fun k => by unfold df kf; omega)
      refine Ok.bd (r_actW hS.hu (by rw [upA_n (by omega)]; exact hS.h50) g1.rw w2' (h2.2.yf (g2.yf (fun a k q => by unfold df kf at q; omega)))) (fun p hq => ?_)
      obtain ⟨p1, M3⟩ := p
      obtain ⟨h3, f3⟩ := hq
      have hM3 := h3.1.1
      rw [une2]
      have e7 : gI M3 (x + 69 + 8) 7 = S.A 49 := (w2'.fi f3 (fun k => by unfold uf; omega)) 7 (by omega)
      simp (disch := omega) only [gdI, gdT, Option.bind_some, lte, une2, une3, nI_add, gvI, cl_nI, c_le, c_lt, c_eq, Sum.elim_inl, Sum.elim_inr, hM3.k, hM3.r8, hM3.k8, hM3.l8, i_7, e7]
      exact ok_i ⟨rfl, h3, ((f0.trans (f2.rf (fun a k q => by omega))).trans (g2.rf (fun a k q => by unfold df kf at q; omega))).trans (f3.rf (fun a k q => by unfold uf at q; omega))⟩
  have no : a.toInt < -1 ∨ (npA S.A : Int) ≤ a.toInt → QS x S (fun T M => fX11_pattern T M x a) (fun T M => fX12_pattern T M (x + 69) a) := by
    intro hn
    refine qs_no hS (-11) (fun T M h => ?_) (fun T M h => ?_)
    · show fX11_pattern T M x a = _
      unfold fX11_pattern
      rw [h.1.px.k0, gdI, c_patno h.1 hn, Option.bind_some, if_neg (by decide)]
    · show fX12_pattern T M (x + 69) a = _
      obtain ⟨h0, f0⟩ := h.t0 (v := 0)
      have hM := h0.1.1
      unfold fX12_pattern
      simp (disch := omega) only [gdI, gdT, Option.bind_some, lte, une2, une3, nI_add, gvI, cl_nI, c_le, c_lt, c_eq, Sum.elim_inl, Sum.elim_inr, h.1.1.k, hM.k, hM.r1, hM.k1, hM.l1, i_4, e4 h0]
      rw [wi_0 (by rw [cm, e2, Int32.toInt_toInt64]; omega), Option.bind_some, if_pos rfl]
  rcases (ix_I a (npA S.A) (by omega)).symm with ha | ⟨k, hk, rfl⟩
  · by_cases z : a.toInt = -1
    · have : a = -1 := (fa_eq _ _).mpr (by rw [z, cm'])
      exact yes 0 (by rw [this]; decide) (by omega) (by rw [z]; omega)
    · exact no (by omega)
  · exact yes (k + 1) (nI_1 k) (by omega) (by rw [nI_toInt (by omega)]; omega)
theorem s_undo (hS : S.ok) (hc : S.c < 600) (a : Int32) : QS x S (fun T M => fX11_undo T M x a) (fun T M => fX12_undo T M (x + 69) a) := by
  have hu := hS.hu
  rcases (ix_I a (S.u + 1) (by omega)).symm with ha | ⟨n, hn, rfl⟩
  · refine qs_no hS (-3) (fun T M h => ?_) (fun T M h => ?_)
    · show fX11_undo T M x a = _
      unfold fX11_undo
      have k1 : (1 : Int32).toInt = 1 := by decide
      by_cases z : a < 1
      · rw [if_pos z]
      · rw [if_neg z, h.1.px.k0, gdI, h.2.1.2.2.1, if_neg]
        rw [fa_lt, k1] at z
        rw [fa_le, nI_toInt (by omega)]
        omega
    · exact r_undo0 h.1 hS.h50 hu (by omega)
  by_cases n0 : n = 0
  · subst n0
    refine qs_no hS (-3) (fun T M h => ?_) (fun T M h => ?_)
    · show fX11_undo T M x (nI 0) = _
      unfold fX11_undo
      rw [if_pos (by decide)]
    · exact r_undo0 h.1 hS.h50 hu (by rw [nI_toInt (by omega)]; omega)
  have hv : S.u - n < S.u := by omega
  have hO := hS.2.1.2.2 (S.u - n) hv
  have hok : Wd.ok (mkW (unA S.A (S.u - n) 8) (S.u - n) S.n S.b S.f1 S.f2 S.so S.sz S.nu S.im S.c) := by
    obtain ⟨⟨h1, h2⟩, ⟨h3, h4, h5⟩, h6, h7, h8⟩ := hS
    refine ⟨⟨hO, h2⟩, ⟨by show S.u - n ≤ 10; omega, show unA S.A (S.u - n) 8 50 = _ from if_pos rfl, fun i hi => ?_⟩, h6, h7, h8⟩
    have hi : i < S.u - n := hi
    show OK (unA (unA S.A (S.u - n) 8) i 8) (100 * S.c)
    refine (h5 i (by omega)).eq8 ((LE.un (by omega)).symm.trans ((LE.un (by omega)).trans (LE.un (by omega)))) (fun k a b => ?_)
    rw [unA_8 a b, unA_8 a b]
    unfold unA
    rw [if_neg (by omega), if_neg (by omega)]
  refine ⟨nI (S.u - n), mkW (unA S.A (S.u - n) 8) (S.u - n) S.n S.b S.f1 S.f2 S.so S.sz S.nu S.im S.c, hok, by show S.c ≤ S.c + 1; omega, fun T M h => ?_, fun T M h => ?_⟩
  · show Ok (fX11_undo T M x (nI n)) _
    obtain ⟨h1, ⟨u1, u2, u3, q, q1, q2, q3, q4⟩, h3⟩ := h
    have hp := h1.px
    have qv := q1 (S.u - n) (by omega)
    unfold fX11_undo
    rw [if_neg (by rw [i_1, c_lt (by omega) (by omega)]; omega)]
    simp (disch := omega) only [gdI, gdT, Option.bind_some, lte, hp.k0, hp.k25, hp.k26, hp.l26, hp.k29, hp.l29, hp.k30, hp.k31, hp.l31, hp.k32, hp.k33, hp.l33, hp.k34, hp.k35, hp.l35, hp.k36, hp.k37, hp.l37, hp.k38, hp.k39, hp.l39, hp.k40, hp.k41, hp.l41, hp.k42, hp.k43, hp.l43, hp.k44, hp.k45, hp.l45, hp.k46, hp.k47, hp.l47, hp.k48, hp.k49, hp.l49, hp.r0_0, hp.r0_2, hp.r0_3, hp.r0_4, hp.r0_5, hp.r0_6, hp.r0_7, hp.r0_9, hp.r0_10, hp.r0_13, hp.r25_0, hp.r30_0, hp.r32_0, hp.r34_0, hp.r36_0, hp.r38_0, hp.r40_0, hp.r42_0, hp.r44_0, hp.r46_0, hp.r48_0, u3, c_le, show n ≤ S.u by omega, if_true, c_sub, mRI, mII1, gvI, cl_nI, q3]
    have f0 : UF x M (pI M x 8 (nI (S.u - n))) := ⟨fun a k z _ => by rw [mII, if_neg z], rfl, fun a k _ => rfl⟩
    have hp0 := hp.uf f0
    have sd0 : SD (x + 30 + 2 * q (S.u - n)) (fun k => S.A (51 + 8 * (S.u - n) + k)) (pI M x 8 (nI (S.u - n))) := (q4 (S.u - n) (by omega)).fr (fun k => mIIn (by omega)) (fun k => mIIn (by omega))
    have h10 := h1.uf f0 (by have := h3.1; omega)
    refine Ok.bd (c_copyN hp0 (hp0.ks qv) (by omega) (by omega) (by omega) sd0) (fun p hq => ?_)
    obtain ⟨p1, M2⟩ := p
    obtain ⟨k1, k2⟩ := hq
    have k1 : SD (x + 25) (fun k => S.A (51 + 8 * (S.u - n) + k)) M2 := k1
    have k2 : NF x (pI M x 8 (nI (S.u - n))) M2 := k2
    rw [une2]
    have h2 : CV x (unA S.A (S.u - n) 8) T M2 := h10.set (LE.un (by omega)) hO.2.1 k2 (k1.2.1.trans (unA_8 (k := 48) (by omega) (by omega)).symm) (k1.2.2.trans (unA_8 (k := 49) (by omega) (by omega)).symm) (fun l hl => (k1.1 l hl).trans (by rw [unA_8 (by omega) (by omega), show 42 + l - 42 = l by omega]))
    have e8 : gI M2 x 8 = nI (S.u - n) := (k2.1 _ _ (by omega) (by omega)).trans mII1
    refine ok_i ⟨e8, ⟨h2, ⟨by show S.u - n ≤ 10; omega, show unA S.A (S.u - n) 8 50 = _ from if_pos rfl, e8, q, q1, q2, fun i hi => ?_, fun i hi => ?_⟩, (h3.wf f0.wf).wf k2.wf⟩, f0.wf.2.2.2.trans k2.wf.2.2.2⟩
    · unfold gR; rw [k2.2]; exact q3 i hi
    · have hi : i < S.u - n := hi
      have := q1 i (by omega)
      refine ((q4 i (by omega)).fr (fun k => ?_) (fun k => ?_)).cong (fun k hk => ?_)
      · rw [k2.1 _ _ (by omega) (by omega), mIIn (by omega)]
      · rw [k2.1 _ _ (by omega) (by omega), mIIn (by omega)]
      · show unA S.A (S.u - n) 8 (51 + 8 * i + k) = _
        unfold unA; rw [if_neg (by omega), if_neg (by omega)]
  · show Ok (fX12_undo T M (x + 69) (nI n)) _
    refine (r_undo h.1 hS.h50 hu (by omega) (by omega)).mono (fun p hp => ⟨hp.1, ⟨hp.2.1, ?_⟩, hp.2.2.rf (fun a k q => by omega)⟩)
    exact h.2.yf (hp.2.2.yf (fun a k q => by omega))
end
