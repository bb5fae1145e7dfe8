/-! trays of deeds are done and judged -/
def smI (f : Nat → Int32) : Nat → Int32
  | 0 => 0
  | i + 1 => smI f i + f i
section
variable {x m : Nat} {A B : Nat → Int32} {T T2 : Sh} {M M1 M2 : Me} {S : Wd}
theorem c_tray1 {t : Nat} (ht : t < 4) : fX11_noTray (nI t) = some 0 := by
  unfold fX11_noTray
  rw [if_neg (by rw [fa_lt, nI_toInt (by omega)]; show ¬ ((t : Int) < 0); omega), i_4, ite_lt (by omega) (by omega), if_pos ht]
theorem c_tray0 {a : Int32} (ha : a.toInt < 0 ∨ ((4 : Nat) : Int) ≤ a.toInt) : fX11_noTray a = some 1 := by
  have k4 : (4 : Int32).toInt = 4 := by decide
  unfold fX11_noTray
  by_cases z : a < 0
  · rw [if_pos z]
  · rw [if_neg z, if_neg]
    have z : ¬ a.toInt < 0 := fun q => z ((fa_lt _ _).mpr q)
    rw [fa_lt, k4]; omega
theorem c_miss {t : Nat} (h : WC x S T M) (ht : t < 4) : fX10_isMissing T M (x + 51 + 2 * t) = some (if S.sz t = -1 then 1 else 0) := by
  unfold fX10_isMissing
  rw [(h.1.px.tr ht).1, gdI, (h.2.2.2.2.2.1 t ht).1]
  by_cases z : S.sz t = -1
  · rw [if_pos z, if_pos z]
  · rw [if_neg z, if_neg z]
theorem r_tray0 {a : Int32} (ha : a.toInt < 0 ∨ ((4 : Nat) : Int) ≤ a.toInt) : fX12_noTray T M m a = some (-2) := by
  have k0 : (0 : Int64).toInt = 0 := by decide
  have k3 : (3 : Int64).toInt = 3 := by decide
  unfold fX12_noTray
  rw [wi_0 (by rw [Int32.toInt_toInt64, k0, k3]; omega), Option.bind_some, if_pos rfl]
theorem r_tray1 {t : Nat} (hS : S.ok) (h : WR m S T M) (ht : t < 4) : fX12_noTray T M m (nI t) = some (if S.sz t = -1 then -6 else 0) := by
  have k0 : (0 : Int64).toInt = 0 := by decide
  have k3 : (3 : Int64).toInt = 3 := by decide
  have hM := h.1.1
  obtain ⟨q1, q2, q3⟩ := h.2.2.2.1 t ht
  unfold fX12_noTray
  rw [wi_1 (by rw [Int32.toInt_toInt64, nI_toInt (by omega), k0, k3]; omega), Option.bind_some, if_neg (by decide)]
  simp (disch := omega) only [gdI, gdT, Option.bind_some, lte, une2, une3, nI_add, gvI, cl_nI, c_le, c_lt, c_eq, Sum.elim_inl, Sum.elim_inr, hM.k, hM.r16, hM.k16, hM.l16]
  by_cases z : S.sz t = -1
  · rw [q1 z, if_pos rfl, if_pos z]
  · rw [if_neg z, (q2 z).1, if_neg]
    rcases hS.2.2.2.1 t ht with y | ⟨k, j, hk, e, hj, ej⟩
    · exact absurd y z
    · rw [ej]; exact i_ne1 _ (by omega)
theorem c_keep (h : WC x S T M) : Ok (fX8_copy T M (x + 27) (x + 25)) (fun p => WC x S T p.2 ∧ SD (x + 27) (wA S.A) p.2 ∧ CF x M p.2) := by
  refine (c_copy h.1.px.ks27 h.1.px.ks25 (by omega) (by omega) (by omega) h.1.sd).mono (fun p hp => ?_)
  obtain ⟨k1, k2, k3⟩ := hp
  have eJ : ∀ a k, gJ p.2 a k = gJ M a k := fun a k => by unfold gJ; rw [k3]
  have eR : ∀ a k, gR p.2 a k = gR M a k := fun a k => by unfold gR; rw [k3]
  have f : WF x M p.2 := ⟨fun a k q => k2 _ _ (by unfold lr at q; omega) (by unfold lr at q; omega), fun a k _ => eJ a k, fun a k _ => eR a k, fun a k _ _ => ⟨k2 _ _ (by omega) (by omega), eJ a k, eR a k⟩⟩
  exact ⟨⟨h.1.fr TE.rfl (by have := h.2.2.1; omega) (fun a k q _ => k2 _ _ (by unfold lr at q; omega) (by unfold lr at q; omega)) (fun a k _ => eJ a k) (fun a k _ _ => eR a k), h.2.1.fr (k2 _ _ (by omega) (by omega)) (fun a k _ _ => k2 _ _ (by omega) (by omega)) (fun k => eR _ k), h.2.2.wf f⟩, k1, f.2.2.2⟩
theorem sd_df {w : Nat → Int32} (h : SD (x + 27) w M) (f : DF x M M2) : SD (x + 27) w M2 := h.fr (fun k => f.1 _ _ (by omega) (by omega) (by omega) (by omega) (by omega)) (fun k => f.1 _ _ (by omega) (by omega) (by omega) (by omega) (by omega))
theorem tf_r {a k : Nat} (q : tf m a k) : m ≤ a ∧ a ≤ m + 18 := by unfold tf df kf at q; omega
theorem tf_y {a k : Nat} (q : tf m a k) : ¬ (a = m ∧ (k = 5 ∨ k = 13 ∨ k = 14) ∨ a = m + 2 ∨ a = m + 3 ∨ a = m + 16 ∨ a = m + 17 ∨ a = m + 1 ∧ 1032 ≤ k) := by unfold tf df kf at q; omega
theorem s_perform (hS : S.ok) (hc : S.c < 600) (a : Int32) : QS x S (fun T M => fX11_perform T M x a) (fun T M => fX12_perform T M (x + 69) a) := by
  rcases (ix_I a 4 (by omega)).symm with ha | ⟨t, ht, rfl⟩
  · refine qs_no hS (-2) (fun T M h => ?_) (fun T M h => ?_)
    · show fX11_perform T M x a = _
      unfold fX11_perform
      rw [c_tray0 ha, Option.bind_some, if_neg (by decide)]
    · show fX12_perform T M (x + 69) a = _
      unfold fX12_perform
      rw [h.1.1.k, gdI, lte, r_tray0 ha, Option.bind_some, if_neg (by decide)]
  rcases hS.2.2.2.1 t ht with em | ⟨k, j, hk, ek, hj, ej⟩
  · refine qs_no hS (-6) (fun T M h => ?_) (fun T M h => ?_)
    · show fX11_perform T M x (nI t) = _
      have hp := h.1.px
      obtain ⟨t1, t2, t3, t4, t5⟩ := hp.tr ht
      unfold fX11_perform
      rw [c_tray1 ht, Option.bind_some, if_pos rfl]
      simp (disch := omega) only [gdI, gdT, Option.bind_some, lte, hp.k0, hp.r0_9, hp.k50, hp.l50, gvI, cl_nI, t5, t1, c_miss h ht]
      rw [if_pos em, if_neg (by decide)]
    · show fX12_perform T M (x + 69) (nI t) = _
      unfold fX12_perform
      rw [h.1.1.k, gdI, lte, r_tray1 hS h.t0.1 ht, Option.bind_some, if_pos em, if_neg (by decide)]
  have nm : ¬ S.sz t = -1 := by rw [ek]; exact i_ne1 _ (by omega)
  have hcl : (S.sz t).toNatClampNeg = k := by rw [ek]; exact cl_nI (by omega)
  obtain ⟨J, hJ, j1, j2⟩ := exJ (fun i => (dd (sq2 (S.nu t) S.A i) (S.nu t i)).1 = 0) k
  have hN := sq2_ok (nu := S.nu t) hS.1.1 J (by have := hS.1.2; omega)
  have cRun : ∀ T M, WC x S T M → Ok (fX11_doDeeds T M x (x + 51 + 2 * t)) (fun p => p.1 = nI J ∧ DF x M p.2 ∧ CV x (sq2 (S.nu t) S.A J) T p.2) := fun T M h => c_doDeeds h.1 hS.1.1 (by have := hS.1.2; omega) ht hk ((h.2.2.2.2.2.1 t ht).1.trans ek) (fun i hi => (h.2.2.2.2.2.1 t ht).2.2 i (by omega)) hJ j1 j2
  have rRun : ∀ T M, WR (x + 69) S T M → Ok (fX12_tells T M (x + 69) (nI t)) (fun p => p.1 = nI J ∧ gI p.2 (x + 69) 31 = (if J < k then (dd (sq2 (S.nu t) S.A J) (S.nu t J)).1 else 0) ∧ FI (x + 69) (tf (x + 69)) M p.2 ∧ RV (x + 69) (sq2 (S.nu t) S.A J) T p.2) := fun T M h => r_tells (h.rv hS) hS.1.1 (by have := hS.1.2; omega) ht hk (((h.2.2.2.1 t ht).2.1 nm).2.trans ek) (fun i hi => (h.2.2.2.1 t ht).2.2 i (by omega)) hJ j1 j2
  have cHead : ∀ T M, WC x S T M → fX11_perform T M x (nI t) = Option.bind (fX8_copy T M (x + 27) (x + 25)) (un2 fun _u M14 => Option.bind (fX11_doDeeds T M14 x (x + 51 + 2 * t)) <| un2 fun r15 M16 => if r15 ≤ 0 then (some (r15, M16)) else (Option.bind (gR M16 x 6) fun a18 => Option.bind (fX11_remember T M16 x a18) <| un2 fun _u M19 => some (r15, M19))) := by
    intro T M h
    have hp := h.1.px
    obtain ⟨t1, t2, t3, t4, t5⟩ := hp.tr ht
    unfold fX11_perform
    rw [c_tray1 ht, Option.bind_some, if_pos rfl]
    simp (disch := omega) only [gdI, gdT, Option.bind_some, lte, hp.k0, hp.r0_9, hp.k50, hp.l50, gvI, cl_nI, t5, t1, c_miss h ht]
    rw [if_neg nm, if_pos rfl, hp.r0_6, Option.bind_some, hp.r0_5, Option.bind_some, hp.k27, gdI]
  by_cases J0 : J = 0
  · subst J0
    refine ⟨nI 0, S, hS, by omega, fun T M h => ?_, fun T M h => ?_⟩
    · show Ok (fX11_perform T M x (nI t)) _
      rw [cHead T M h]
      refine Ok.bd (c_keep h) (fun p hq => ?_)
      obtain ⟨p1, M1⟩ := p
      obtain ⟨h1, _, f1⟩ := hq
      rw [une2]
      refine Ok.bd (cRun T M1 h1) (fun p hq => ?_)
      obtain ⟨p1, M2⟩ := p
      obtain ⟨rfl, f2, h2⟩ := hq
      rw [une2, if_pos (by decide)]
      exact ok_i ⟨rfl, ⟨h2, h1.2.1.df f2, h1.2.2.wf f2.wf⟩, f1.trans f2.wf.2.2.2⟩
    · show Ok (fX12_perform T M (x + 69) (nI t)) _
      obtain ⟨h0, f0⟩ := h.t0 (v := 0)
      unfold fX12_perform
      rw [h.1.1.k, gdI, lte, r_tray1 hS h0 ht, Option.bind_some, if_neg nm, if_pos rfl]
      refine Ok.bd (r_act h0) (fun p hq => ?_)
      obtain ⟨p1, M1⟩ := p
      obtain ⟨w1, h1, f1⟩ := hq
      rw [une2]
      refine Ok.bd (rRun T M1 h1) (fun p hq => ?_)
      obtain ⟨p1, M2⟩ := p
      obtain ⟨rfl, _, f2, h2⟩ := hq
      rw [une2, if_pos (by decide)]
      exact ok_i ⟨rfl, ⟨h2.rw, h1.2.yf (f2.yf (fun _ _ => tf_y))⟩, (f0.trans (f1.rf (fun a k q => by omega))).trans (f2.rf (fun _ _ => tf_r))⟩
  · have npos : ¬ nI J ≤ (0 : Int32) := by rw [i_0, c_le (by omega) (by omega)]; omega
    have hok : (acW S (sq2 (S.nu t) S.A J)).ok := ok_act hS hc (hN.1.up (by omega)) hN.2.1 (fun k a _ => hN.2.2 k a)
    refine ⟨nI J, acW S (sq2 (S.nu t) S.A J), hok, Nat.le_refl _, fun T M h => ?_, fun T M h => ?_⟩
    · show Ok (fX11_perform T M x (nI t)) _
      rw [cHead T M h]
      refine Ok.bd (c_keep h) (fun p hq => ?_)
      obtain ⟨p1, M1⟩ := p
      obtain ⟨h1, s1, f1⟩ := hq
      rw [une2]
      refine Ok.bd (cRun T M1 h1) (fun p hq => ?_)
      obtain ⟨p1, M2⟩ := p
      obtain ⟨rfl, f2, h2⟩ := hq
      rw [une2, if_neg npos, h2.px.r0_6, Option.bind_some]
      refine Ok.bd (c_remember h2.px (h1.2.1.df f2) (Or.inr rfl) (sd_df s1 f2)) (fun p hq => ?_)
      obtain ⟨p1, M3⟩ := p
      obtain ⟨u3, f3⟩ := hq
      rw [une2]
      exact ok_i ⟨rfl, c_actW hS.hu (h2.uf f3 (by have := h1.2.2.1; omega)) u3 ((h1.2.2.wf f2.wf).wf f3.wf) (fun k a _ => hN.2.2 k a), (f1.trans f2.wf.2.2.2).trans f3.wf.2.2.2⟩
    · show Ok (fX12_perform T M (x + 69) (nI t)) _
      obtain ⟨h0, f0⟩ := h.t0 (v := 0)
      unfold fX12_perform
      rw [h.1.1.k, gdI, lte, r_tray1 hS h0 ht, Option.bind_some, if_neg nm, if_pos rfl]
      refine Ok.bd (r_act h0) (fun p hq => ?_)
      obtain ⟨p1, M1⟩ := p
      obtain ⟨w1, h1, f1⟩ := hq
      rw [une2]
      refine Ok.bd (rRun T M1 h1) (fun p hq => ?_)
      obtain ⟨p1, M2⟩ := p
      obtain ⟨rfl, _, f2, h2⟩ := hq
      rw [une2, if_neg npos]
      refine Ok.bd (r_actW hS.hu (by rw [hN.2.2 50 (by omega)]; exact hS.h50) h2.rw (w1.fi f2 (fun k => by unfold tf df kf; omega)) (h1.2.yf (f2.yf (fun _ _ => tf_y)))) (fun p hq => ?_)
      obtain ⟨p1, M3⟩ := p
      obtain ⟨h3, f3⟩ := hq
      rw [une2]
      exact ok_i ⟨rfl, h3, ((f0.trans (f1.rf (fun a k q => by omega))).trans (f2.rf (fun _ _ => tf_r))).trans (f3.rf (fun a k q => by unfold uf at q; omega))⟩
/-- what is judged -/
def jdg (B : Nat → Int32) (w : Nat) (a s : Int32) : Int32 := if w = 0 then a else if w = 1 then s else if w = 2 then smI (fun l => B (42 + l)) (nlA B) else mk (pip B) (nlA B)
theorem c_judged {w : Nat} {a s : Int32} (h : CV x B T M) (hw : w < 4) : Ok (fX11_judged T M x (nI w) a s) (fun p => p.1 = jdg B w a s ∧ DF x M p.2 ∧ CV x B T p.2) := by
  have h6 := h.lv.b3
  have hp := h.px
  obtain ⟨lb, hlb, hlab⟩ := h.lab
  unfold fX11_judged jdg
  rw [i_0, i_1, i_2, ite_eq (by omega) (by omega), ite_eq (by omega) (by omega), ite_eq (by omega) (by omega)]
  by_cases w0 : w = 0
  · rw [if_pos w0, if_pos w0]; exact ok_i ⟨rfl, DF.rfl, h⟩
  rw [if_neg w0, if_neg w0]
  by_cases w1 : w = 1
  · rw [if_pos w1, if_pos w1]; exact ok_i ⟨rfl, DF.rfl, h⟩
  rw [if_neg w1, if_neg w1]
  by_cases w2 : w = 2
  · rw [if_pos w2, if_pos w2]
    refine Ok.bd (ok_forF (s := (nI 0, nI 0)) 0 (nlA B) (fun i s => s = (smI (fun l => B (42 + l)) i, nI i)) (fun r => r = smI (fun l => B (42 + l)) (nlA B)) rfl (by omega) (by omega) (fun i s _ hi hI => ?_) (fun s hI => ?_)) (fun r hr => ?_)
    · subst hI
      show Ok (bX11_judged_38 T M x (smI (fun l => B (42 + l)) i) (nI i)) _
      unfold bX11_judged_38
      simp (disch := omega) only [gdI, gdT, Option.bind_some, lte, hp.k0, hp.k8, hp.k15, hp.l15, hp.k16, hp.l16, hp.k17, hp.l17, hp.k18, hp.l18, hp.k25, hp.k26, hp.l26, hp.r0_0, hp.r0_2, hp.r0_3, hp.r0_4, hp.r0_5, hp.r0_6, hp.r0_7, hp.r0_9, hp.r0_10, hp.r0_13, hp.r8_1, hp.r8_2, hp.r8_4, hp.r8_5, hp.r25_0, hlb, hlab.k, hlab.f7, h.lv.n3, c_le, Nat.not_le.mpr hi, if_false, gvI, cl_nI, h.pt, nI_1]
      exact ok_i rfl
    · subst hI
      show Ok (bX11_judged_38 T M x (smI (fun l => B (42 + l)) (nlA B)) (nI (nlA B))) _
      unfold bX11_judged_38
      simp (disch := omega) only [gdI, gdT, Option.bind_some, lte, hp.k0, hp.k8, hp.k15, hp.l15, hp.k16, hp.l16, hp.k17, hp.l17, hp.k18, hp.l18, hp.r0_0, hp.r0_2, hp.r0_3, hp.r0_4, hp.r0_5, hp.r0_6, hp.r0_7, hp.r0_9, hp.r0_10, hp.r0_13, hp.r8_1, hp.r8_2, hp.r8_4, hp.r8_5, hlb, hlab.k, hlab.f7, h.lv.n3, c_le, Nat.le_refl, if_true]
      exact ok_i rfl
    · rw [hr]; exact ok_i ⟨rfl, DF.rfl, h⟩
  · rw [if_neg w2, if_neg w2, hp.k0, gdI]
    refine Ok.bd (c_passingLanes h) (fun p hq => ?_)
    obtain ⟨p1, M1⟩ := p
    obtain ⟨rfl, f1, h1⟩ := hq
    rw [une2]
    exact ok_i ⟨rfl, f1.gf.df, h1⟩
end
