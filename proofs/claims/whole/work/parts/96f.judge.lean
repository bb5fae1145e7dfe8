section
variable {x m : Nat} {A B : Nat → Int32} {T T2 : Sh} {M M1 M2 : Me} {S : Wd}
theorem c_back (h : CV x B T M) (s : SD (x + 27) (wA A) M) (le : LE B A) (sv : SV A) : Ok (fX8_copy T M (x + 25) (x + 27)) (fun p => CV x A T p.2 ∧ NF x M p.2) := by
  refine (c_copyN h.px h.px.ks27 (by omega) (by omega) (by omega) s).mono (fun p hp => ⟨h.set le sv hp.2 hp.1.2.1 hp.1.2.2 (fun l hl => hp.1.1 l hl), hp.2⟩)
theorem c_j78 {w : Nat} {J R a : Int32} (h : CV x B T M) (s : SD (x + 27) (wA A) M) (le : LE B A) (sv : SV A) (hw : w < 4) (ha : a = if R = 0 then -1 else J) : Ok (jX11_judge_78 T M x (nI w) J R) (fun p => p.1 = jdg B w a R ∧ DF x M p.2 ∧ CV x A T p.2) := by
  unfold jX11_judge_78
  by_cases z : R = 0
  · rw [if_pos z] at ha
    rw [if_pos z, h.px.k0, gdI, ha]
    refine Ok.bd (c_judged h hw) (fun p hq => ?_)
    obtain ⟨p1, M1⟩ := p
    obtain ⟨rfl, f1, h1⟩ := hq
    rw [une2, h1.px.r0_5, Option.bind_some, h1.px.r0_6, Option.bind_some, h1.px.k25, gdI]
    refine Ok.bd (c_back h1 (sd_df s f1) le sv) (fun p hq => ?_)
    obtain ⟨p1, M2⟩ := p
    rw [une2]
    exact ok_i ⟨rfl, f1.trans hq.2.df, hq.1⟩
  · rw [if_neg z] at ha
    rw [if_neg z, h.px.k0, gdI, ha]
    refine Ok.bd (c_judged h hw) (fun p hq => ?_)
    obtain ⟨p1, M1⟩ := p
    obtain ⟨rfl, f1, h1⟩ := hq
    rw [une2, h1.px.r0_5, Option.bind_some, h1.px.r0_6, Option.bind_some, h1.px.k25, gdI]
    refine Ok.bd (c_back h1 (sd_df s f1) le sv) (fun p hq => ?_)
    obtain ⟨p1, M2⟩ := p
    rw [une2]
    exact ok_i ⟨rfl, f1.trans hq.2.df, hq.1⟩
theorem r_sum {a b : Int32} (h : RV m B T M) : lp FU (fun s => bX12_judge_49 T M m a b s.1 s.2) ((0 : Int32), (0 : Int32)) = some (smI (fun l => B (42 + l)) (nlA B)) := by
  have h6 := h.lv.b3
  have hM := h.rm
  have key : Ok (lp FU (fun s => bX12_judge_49 T M m a b s.1 s.2) ((0 : Int32), (0 : Int32))) (fun r => r = smI (fun l => B (42 + l)) (nlA B)) := by
    refine ok_forF (s := ((0 : Int32), (0 : Int32))) 0 (nlA B) (fun i s => s = (smI (fun l => B (42 + l)) i, nI i)) (fun r => r = smI (fun l => B (42 + l)) (nlA B)) rfl (by omega) (by omega) (fun i s _ hi hI => ?_) (fun s hI => ?_)
    · subst hI
      show Ok (bX12_judge_49 T M m a b (smI (fun l => B (42 + l)) i) (nI i)) _
      unfold bX12_judge_49
      simp (disch := omega) only [gdI, gdT, Option.bind_some, lte, une2, une3, nI_add, gvI, cl_nI, c_le, c_lt, c_eq, Sum.elim_inl, Sum.elim_inr, hM.k, hM.r1, hM.k1, hM.l1, i_3, i_42, h.al, h.lv.n3, Nat.not_le.mpr hi, if_false, nI_1]
      exact ok_i rfl
    · subst hI
      show Ok (bX12_judge_49 T M m a b (smI (fun l => B (42 + l)) (nlA B)) (nI (nlA B))) _
      unfold bX12_judge_49
      simp (disch := omega) only [gdI, gdT, Option.bind_some, lte, une2, une3, nI_add, gvI, cl_nI, c_le, c_lt, c_eq, Sum.elim_inl, Sum.elim_inr, hM.k, hM.r1, hM.k1, hM.l1, i_3, h.al, h.lv.n3, Nat.le_refl, if_true]
      exact ok_i rfl
  obtain ⟨r, e, rfl⟩ := key
  exact e
theorem n3 (a : Int32) : (a.toInt < 0 ∨ 3 < a.toInt) ∨ ∃ n, n < 4 ∧ a = nI n := by
  rcases (ix_I a 4 (by omega)).symm with ha | ⟨n, hn, rfl⟩
  · exact Or.inl (by omega)
  · exact Or.inr ⟨n, hn, rfl⟩
theorem c_out3 {α : Type} {a : Int32} {u v : α} (h : a.toInt < 0 ∨ 3 < a.toInt) : (if a < (0 : Int32) then u else if a ≤ (3 : Int32) then v else u) = u := by
  have k0 : (0 : Int32).toInt = 0 := by decide
  have k3 : (3 : Int32).toInt = 3 := by decide
  by_cases z : a < 0
  · rw [if_pos z]
  · rw [if_neg z, if_neg]
    rw [fa_lt, k0] at z
    rw [fa_le, k3]
    omega
theorem c_in3 {α : Type} {n : Nat} {u v : α} (h2 : n < 4) : (if nI n < (0 : Int32) then u else if nI n ≤ (3 : Int32) then v else u) = v := by
  rw [i_0, i_3, ite_lt (by omega) (by omega), ite_le (by omega) (by omega), if_neg (by omega), if_pos (by omega)]
theorem s_judge (hS : S.ok) (hc : S.c < 600) (a b : Int32) : QS x S (fun T M => fX11_judge T M x a b) (fun T M => fX12_judge T M (x + 69) a b) := by
  have k0 : (0 : Int64).toInt = 0 := by decide
  have k3 : (3 : Int64).toInt = 3 := by decide
  rcases n3 b with hb | ⟨w, hw, rfl⟩
  · refine qs_no hS (-2) (fun T M h => ?_) (fun T M h => ?_)
    · show fX11_judge T M x a b = _
      unfold fX11_judge
      rcases (ix_I a 4 (by omega)).symm with ha | ⟨t, ht, rfl⟩
      · rw [c_tray0 ha, Option.bind_some, if_neg (by decide)]
      · rw [c_tray1 ht, Option.bind_some, if_pos rfl]; exact c_out3 hb
    · show fX12_judge T M (x + 69) a b = _
      unfold fX12_judge
      rw [h.1.1.k, gdI, lte, wi_0 (by rw [Int32.toInt_toInt64, k0, k3]; omega), Option.bind_some, if_pos rfl]
  have w3 : fX12_within (nI w).toInt64 0 3 = some 1 := wi_1 (by rw [Int32.toInt_toInt64, nI_toInt (by omega), k0, k3]; omega)
  rcases (ix_I a 4 (by omega)).symm with ha | ⟨t, ht, rfl⟩
  · refine qs_no hS (-2) (fun T M h => ?_) (fun T M h => ?_)
    · show fX11_judge T M x a (nI w) = _
      unfold fX11_judge
      rw [c_tray0 ha, Option.bind_some, if_neg (by decide)]
    · show fX12_judge T M (x + 69) a (nI w) = _
      unfold fX12_judge
      rw [h.1.1.k, gdI, lte, w3, Option.bind_some, if_neg (by decide), r_tray0 ha, Option.bind_some, if_neg (by decide)]
  rcases hS.2.2.2.1 t ht with em | ⟨k, j, hk, ek, hj, ej⟩
  · refine qs_no hS (-6) (fun T M h => ?_) (fun T M h => ?_)
    · show fX11_judge T M x (nI t) (nI w) = _
      have hp := h.1.px
      obtain ⟨t1, t2, t3, t4, t5⟩ := hp.tr ht
      unfold fX11_judge
      rw [c_tray1 ht, Option.bind_some, if_pos rfl, c_in3 hw]
      simp (disch := omega) only [gdI, gdT, Option.bind_some, lte, hp.k0, hp.r0_9, hp.k50, hp.l50, gvI, cl_nI, t5, t1, c_miss h ht]
      rw [if_pos em, if_neg (by decide)]
    · show fX12_judge T M (x + 69) (nI t) (nI w) = _
      unfold fX12_judge
      rw [h.1.1.k, gdI, lte, w3, Option.bind_some, if_neg (by decide), r_tray1 hS h.t0.1 ht, Option.bind_some, if_pos em, if_neg (by decide)]
  have nm : ¬ S.sz t = -1 := by rw [ek]; exact i_ne1 _ (by omega)
  have hcl : (S.sz t).toNatClampNeg = k := by rw [ek]; exact cl_nI (by omega)
  obtain ⟨J, hJ, j1, j2⟩ := exJ (fun i => (dd (sq2 (S.nu t) S.A i) (S.nu t i)).1 = 0) k
  have hN := sq2_ok (nu := S.nu t) hS.1.1 J (by have := hS.1.2; omega)
  generalize hR : (if J < k then (dd (sq2 (S.nu t) S.A J) (S.nu t J)).1 else 0) = R
  have hR0 : (if R = 0 then (-1 : Int32) else nI J) = if J < k then nI J else -1 := by
    rw [← hR]
    by_cases z : J < k
    · rw [if_pos z, if_pos z, if_neg (j2 z)]
    · rw [if_neg z, if_neg z, if_pos rfl]
  refine ⟨jdg (sq2 (S.nu t) S.A J) w (if R = 0 then -1 else nI J) R, S, hS, by omega, fun T M h => ?_, fun T M h => ?_⟩
  · show Ok (fX11_judge T M x (nI t) (nI w)) _
    have hp := h.1.px
    obtain ⟨t1, t2, t3, t4, t5⟩ := hp.tr ht
    unfold fX11_judge
    rw [c_tray1 ht, Option.bind_some, if_pos rfl, c_in3 hw]
    simp (disch := omega) only [gdI, gdT, Option.bind_some, lte, hp.k0, hp.r0_9, hp.k50, hp.l50, gvI, cl_nI, t5, t1, c_miss h ht]
    rw [if_neg nm, if_pos rfl, hp.r0_6, Option.bind_some, hp.r0_5, Option.bind_some, hp.k27, gdI]
    refine Ok.bd (c_keep h) (fun p hq => ?_)
    obtain ⟨p1, M1⟩ := p
    obtain ⟨h1, s1, f1⟩ := hq
    rw [une2]
    have hsz1 : gI M1 (x + 51 + 2 * t) 2 = nI k := (h1.2.2.2.2.2.1 t ht).1.trans ek
    have hnu1 : ∀ i, i < k → gJ M1 (x + 52 + 2 * t) i = S.nu t i := fun i hi => (h1.2.2.2.2.2.1 t ht).2.2 i (by omega)
    refine Ok.bd (c_doDeeds h1.1 hS.1.1 (by have := hS.1.2; omega) ht hk hsz1 hnu1 hJ j1 j2) (fun p hq => ?_)
    obtain ⟨p1, M2⟩ := p
    obtain ⟨rfl, f2, h2⟩ := hq
    have f2 : DF x M1 M2 := f2
    have hsz2 : gI M2 (x + 51 + 2 * t) 2 = nI k := (f2.1 _ _ (by omega) (by omega) (by omega) (by omega) (by omega)).trans hsz1
    have hp2 := h2.px
    obtain ⟨t1, t2, t3, t4, t5⟩ := hp2.tr ht
    rw [une2, hsz2, ite_le (by omega) (by omega)]
    by_cases z : J < k
    · rw [if_pos z] at hR
      have en : gJ M2 (x + 52 + 2 * t) J = S.nu t J := (f2.2.1 _ _ (by omega) (by omega) (by omega)).trans (hnu1 J z)
      rw [if_neg (by omega)]
      simp (disch := omega) only [gdI, gdT, Option.bind_some, t2, t3, t4, gvI, cl_nI, en]
      refine Ok.bd (c_doDeed h2 (by have := hN.1.2.2; have := hS.1.2; omega) (S.nu t J)) (fun p hq => ?_)
      obtain ⟨p1, M3⟩ := p
      obtain ⟨rfl, f3, h3⟩ := hq
      have h3 : CV x (dd (sq2 (S.nu t) S.A J) (S.nu t J)).2 T M3 := h3
      rw [dd_no (j2 z)] at h3
      rw [une2, hR]
      refine (c_j78 h3 (sd_df (sd_df s1 f2) f3) hN.2.1.symm hS.sv hw rfl).mono (fun p hp => ⟨hp.1, ⟨hp.2.2, ((h1.2.1.df f2).df f3).df hp.2.1, ((h1.2.2.wf f2.wf).wf f3.wf).wf hp.2.1.wf⟩, ((f1.trans f2.wf.2.2.2).trans f3.wf.2.2.2).trans hp.2.1.wf.2.2.2⟩)
    · rw [if_neg z] at hR
      subst hR
      rw [if_pos (by omega)]
      refine (c_j78 h2 (sd_df s1 f2) hN.2.1.symm hS.sv hw rfl).mono (fun p hp => ⟨hp.1, ⟨hp.2.2, (h1.2.1.df f2).df hp.2.1, (h1.2.2.wf f2.wf).wf hp.2.1.wf⟩, (f1.trans f2.wf.2.2.2).trans hp.2.1.wf.2.2.2⟩)
  · show Ok (fX12_judge T M (x + 69) (nI t) (nI w)) _
    obtain ⟨h0, f0⟩ := h.t0 (v := 0)
    unfold fX12_judge
    rw [h.1.1.k, gdI, lte, w3, Option.bind_some, if_neg (by decide), r_tray1 hS h0 ht, Option.bind_some, if_neg nm, if_pos rfl]
    refine Ok.bd (r_act h0) (fun p hq => ?_)
    obtain ⟨p1, M1⟩ := p
    obtain ⟨w1, h1, f1⟩ := hq
    rw [une2]
    refine Ok.bd (r_tells (h1.rv hS) hS.1.1 (by have := hS.1.2; omega) ht hk (((h1.2.2.2.1 t ht).2.1 nm).2.trans ek) (fun i hi => (h1.2.2.2.1 t ht).2.2 i (by omega)) hJ j1 j2) (fun p hq => ?_)
    obtain ⟨p1, M2⟩ := p
    obtain ⟨rfl, e31, f2, h2⟩ := hq
    rw [hR] at e31
    have e31 : gI M2 (x + 69) 31 = R := e31
    rw [une2, r_sum h2, Option.bind_some]
    refine Ok.bd (r_passedNow h2) (fun p hq => ?_)
    obtain ⟨p1, M3⟩ := p
    obtain ⟨rfl, f3, h3⟩ := hq
    have f3 : FI (x + 69) (nf (x + 69)) M2 M3 := f3
    rw [une2]
    have w3' : WZ (x + 69) (wA S.A) M3 := (w1.fi f2 (fun k => by unfold tf df kf; omega)).fi f3 (fun k => by unfold nf; omega)
    refine Ok.bd (r_isAgain h3.rw w3') (fun p hq => ?_)
    obtain ⟨p1, M4⟩ := p
    obtain ⟨h4, f4⟩ := hq
    have f4 : FI (x + 69) (fun a k => a = x + 69 + 1 ∧ 42 ≤ k ∧ k < 50) M3 M4 := f4
    have h4 : RW (x + 69) (agA (sq2 (S.nu t) S.A J) (wA S.A) 8) T M4 := h4
    have e4 : gI M4 (x + 69) 31 = R := ((f4.1 _ _ (by omega)).trans (f3.1 _ _ (by unfold nf; omega))).trans e31
    have fin : WR (x + 69) S T M4 ∧ RF (x + 69) M M4 := by
      refine ⟨⟨h4.eq (fun j hj => ?_), ((h1.2.yf (f2.yf (fun _ _ => tf_y))).yf (f3.yf (fun a k q => by unfold nf at q; omega))).yf (f4.yf (fun a k q => by omega))⟩, (((f0.trans (f1.rf (fun a k q => by omega))).trans (f2.rf (fun _ _ => tf_r))).trans (f3.rf (fun a k q => by unfold nf at q; omega))).trans (f4.rf (fun a k q => by omega))⟩
      unfold agA
      by_cases z : 42 ≤ j ∧ j < 42 + 8
      · rw [if_pos z]
        show S.A j = S.A (42 + (j - 42))
        rw [show 42 + (j - 42) = j by omega]
      · rw [if_neg z]
        by_cases y : j < 42
        · exact hN.2.1.1 j y
        · exact (hN.2.2 j (by omega)).symm
    rw [une2, e4]
    unfold jdg
    rw [i_1, i_2, ite_eq (by omega) (by omega), ite_eq (by omega) (by omega)]
    have L0 : (nI w = (0 : Int32)) ↔ w = 0 := by rw [i_0, c_eq (by omega) (by omega)]
    by_cases w0 : w = 0
    · rw [if_pos (L0.mpr w0), if_pos w0]
      by_cases z : R = 0
      · rw [if_pos z, if_pos z]; exact ok_i ⟨rfl, fin⟩
      · rw [if_neg z, if_neg z]; exact ok_i ⟨rfl, fin⟩
    rw [if_neg (fun z => w0 (L0.mp z)), if_neg w0]
    by_cases w1 : w = 1
    · rw [if_pos w1, if_pos w1]; exact ok_i ⟨rfl, fin⟩
    rw [if_neg w1, if_neg w1]
    by_cases w2 : w = 2
    · rw [if_pos w2, if_pos w2]; exact ok_i ⟨rfl, fin⟩
    · rw [if_neg w2, if_neg w2]; exact ok_i ⟨rfl, fin⟩
end
