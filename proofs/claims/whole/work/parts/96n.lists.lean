/-! lists -/
noncomputable def nnv (A : Nat → Int32) (j l : Nat) (v : Int64) : Int64 := if (0 ≤ v.toInt ∧ v.toInt < 384) then ctv j (2 * v + (b2 (psd A (qA A) (eA A) l (v.toInt.toNat / 24) (v.toInt.toNat % 24))).toInt64) else v
noncomputable def cnR (v : Nat → Int64) : Nat → Nat
  | 0 => 0
  | i + 1 => cnR v i + (if (0 ≤ (v i).toInt ∧ (v i).toInt < 384) then 1 else 0)
noncomputable def vvv (A : Nat → Int32) (j l : Nat) (v : Nat → Int64) (i : Nat) : Nat → Int64 := fun q => if q < i then nnv A j l (v q) else v q
section
variable {x m : Nat} {A B : Nat → Int32} {T T2 : Sh} {M M1 M2 : Me} {S : Wd}
theorem vvv_s {j l i : Nat} {v : Nat → Int64} : vvv A j l v (i + 1) = fun q => if q = i then nnv A j l (v i) else vvv A j l v i q := funext fun q => by
  show (if q < i + 1 then nnv A j l (v q) else v q) = if q = i then nnv A j l (v i) else if q < i then nnv A j l (v q) else v q
  by_cases z : q = i
  · rw [if_pos (by omega), if_pos z, z]
  · rw [if_neg z]
    by_cases y : q < i
    · rw [if_pos y, if_pos (by omega)]
    · rw [if_neg y, if_neg (by omega)]
theorem vvv_i {j l i : Nat} {v : Nat → Int64} : vvv A j l v i i = v i := if_neg (by omega)
theorem vvv_n {j l i : Nat} {v : Nat → Int64} (h : ¬ (0 ≤ (v i).toInt ∧ (v i).toInt < 384)) : vvv A j l v (i + 1) = vvv A j l v i := by
  rw [vvv_s]
  funext q
  by_cases z : q = i
  · rw [if_pos z, z, vvv_i]; unfold nnv; rw [if_neg h]
  · rw [if_neg z]
theorem trW2 {t : Nat} {a b a2 b2 : Int32} {v v2 : Nat → Int64} : trW (trW S t a b v) t a2 b2 v2 = trW S t a2 b2 v2 := by
  have h : ∀ {α : Type} (f : Nat → α) (a a2 : α), (fun i => if i = t then a2 else (if i = t then a else f i)) = fun i => if i = t then a2 else f i := fun f a a2 => funext fun i => by
    by_cases z : i = t
    · rw [if_pos z, if_pos z]
    · rw [if_neg z, if_neg z, if_neg z]
  show mkW S.A S.u S.n S.b S.f1 S.f2 (fun i => if i = t then a2 else (if i = t then a else S.so i)) (fun i => if i = t then b2 else (if i = t then b else S.sz i)) (fun i => if i = t then v2 else (if i = t then v else S.nu i)) S.im S.c = _
  rw [h, h, h]
  rfl
theorem WC.tr0 {t : Nat} (h : WC x S T M) (ht : t < 4) (nm : S.sz t ≠ -1) : WC x (trW S t (S.so t) (S.sz t) (S.nu t)) T M := by
  obtain ⟨q1, q2, q3⟩ := h.2.2.2.2.2.1 t ht
  exact (h.tr ht (fun _ _ _ => rfl) (fun _ _ _ => rfl) rfl (q2 nm) q1 q3).1
theorem WR.tr0 {t : Nat} (hS : S.ok) (h : WR m S T M) (ht : t < 4) (nm : S.sz t ≠ -1) : WR m (trW S t (S.so t) (S.sz t) (S.nu t)) T M := by
  obtain ⟨q1, q2, q3⟩ := h.2.2.2.1 t ht
  exact (h.tr ht nm hS (fun _ _ _ _ => rfl) (fun _ _ _ => rfl) rfl (q2 nm).1 (q2 nm).2 q3).1
theorem WC.nu2 {t i : Nat} {a b : Int32} {u : Nat → Int64} {v : Int64} (h : WC x (trW S t a b u) T M) (ht : t < 4) (nm : b ≠ -1) : WC x (trW S t a b (fun q => if q = i then v else u q)) T (pJ M (x + 52 + 2 * t) i v) ∧ CF x M (pJ M (x + 52 + 2 * t) i v) := by
  have e1 : (trW S t a b u).so t = a := if_pos rfl
  have e2 : (trW S t a b u).sz t = b := if_pos rfl
  have e3 : (trW S t a b u).nu t = u := if_pos rfl
  have := h.nu (t := t) (i := i) (v := v) ht (by rw [e2]; exact nm)
  unfold nuW at this
  rw [e1, e2, e3, trW2] at this
  exact this
theorem WR.nu2 {t i : Nat} {a b : Int32} {u : Nat → Int64} {v : Int64} (hS : (trW S t a b u).ok) (h : WR m (trW S t a b u) T M) (ht : t < 4) (hi : i < 40) (nm : b ≠ -1) : WR m (trW S t a b (fun q => if q = i then v else u q)) T (pJ M (m + 18) (40 * t + i) v) ∧ RF m M (pJ M (m + 18) (40 * t + i) v) := by
  have e1 : (trW S t a b u).so t = a := if_pos rfl
  have e2 : (trW S t a b u).sz t = b := if_pos rfl
  have e3 : (trW S t a b u).nu t = u := if_pos rfl
  have := h.nu (t := t) (i := i) (v := v) hS ht hi (by rw [e2]; exact nm)
  unfold nuW at this
  rw [e1, e2, e3, trW2] at this
  exact this
theorem s_lists (hS : S.ok) (a b : Int32) : QS x S (fun T M => fX11_lists T M x a b) (fun T M => fX12_lists T M (x + 69) a b) := by
  have h6 := hS.lv.b3
  have k0 : (0 : Int64).toInt = 0 := by decide
  have k3 : (3 : Int64).toInt = 3 := by decide
  have k384 : (384 : Int64).toInt = 384 := by decide
  rcases (ix_I a 4 (by omega)).symm with ha | ⟨t, ht, rfl⟩
  · refine qs_no hS (-2) (fun T M h => ?_) (fun T M h => ?_)
    · show fX11_lists T M x a b = _
      unfold fX11_lists
      rw [c_tray0 ha, Option.bind_some, if_neg (by decide)]
    · show fX12_lists T M (x + 69) a b = _
      unfold fX12_lists
      rw [h.1.1.k, gdI, lte, wi_0 (by rw [Int32.toInt_toInt64, k0, k3]; omega), Option.bind_some, if_pos rfl]
  have w1 : fX12_within (nI t).toInt64 0 3 = some 1 := wi_1 (by rw [Int32.toInt_toInt64, nI_toInt (by omega), k0, k3]; omega)
  rcases (ix_I b (nlA S.A) (by omega)).symm with hb | ⟨l, hl, rfl⟩
  · refine qs_no hS (-2) (fun T M h => ?_) (fun T M h => ?_)
    · show fX11_lists T M x (nI t) b = _
      unfold fX11_lists
      rw [c_tray1 ht, Option.bind_some, if_pos rfl, h.1.px.k0, gdI, c_lane0 h.1 hb, Option.bind_some, if_neg (by decide)]
    · show fX12_lists T M (x + 69) (nI t) b = _
      unfold fX12_lists
      rw [h.1.1.k, gdI, lte, w1, Option.bind_some, if_neg (by decide), r_lane0 (h.t0.1.rv hS) hb, Option.bind_some, if_pos rfl]
  rcases hS.2.2.2.1 t ht with em | ⟨k, j, hk, ek, hj, ej⟩
  · refine qs_no hS (-6) (fun T M h => ?_) (fun T M h => ?_)
    · show fX11_lists T M x (nI t) (nI l) = _
      have hp := h.1.px
      obtain ⟨t1, t2, t3, t4, t5⟩ := hp.tr ht
      unfold fX11_lists
      rw [c_tray1 ht, Option.bind_some, if_pos rfl, hp.k0, gdI, c_lane1 h.1 hl, Option.bind_some, if_pos rfl]
      simp (disch := omega) only [gdI, gdT, Option.bind_some, lte, hp.r0_9, hp.k50, hp.l50, gvI, cl_nI, t5, t1, c_miss h ht]
      rw [if_pos em, if_neg (by decide)]
    · show fX12_lists T M (x + 69) (nI t) (nI l) = _
      unfold fX12_lists
      rw [h.1.1.k, gdI, lte, w1, Option.bind_some, if_neg (by decide), r_lane1 (h.t0.1.rv hS) hl, Option.bind_some, if_neg (by decide), r_tray1 hS h.t0.1 ht, Option.bind_some, if_pos em, if_neg (by decide)]
  have nm : ¬ S.sz t = -1 := by rw [ek]; exact i_ne1 _ (by omega)
  have okv : ∀ v, (trW S t (S.so t) (S.sz t) v).ok := fun v => by rw [ek, ej]; exact tr_ok hS hk hj
  have v0 : vvv S.A j l (S.nu t) 0 = S.nu t := funext fun q => if_neg (by omega)
  refine ⟨nI (cnR (S.nu t) k), trW S t (S.so t) (S.sz t) (vvv S.A j l (S.nu t) k), okv _, by show S.c ≤ S.c + 1; omega, fun T M h => ?_, fun T M h => ?_⟩
  · show Ok (fX11_lists T M x (nI t) (nI l)) _
    have hp := h.1.px
    obtain ⟨t1, t2, t3, t4, t5⟩ := hp.tr ht
    unfold fX11_lists
    rw [c_tray1 ht, Option.bind_some, if_pos rfl, hp.k0, gdI, c_lane1 h.1 hl, Option.bind_some, if_pos rfl]
    simp (disch := omega) only [gdI, gdT, Option.bind_some, lte, hp.r0_9, hp.k50, hp.l50, gvI, cl_nI, t5, t1, c_miss h ht]
    rw [if_neg nm, if_pos rfl]
    refine Ok.bd (ok_forF (s := ((0 : Int32), (0 : Int32), M)) 0 k (fun i s => ∃ M', s = (nI (cnR (S.nu t) i), nI i, M') ∧ WC x (trW S t (S.so t) (S.sz t) (vvv S.A j l (S.nu t) i)) T M' ∧ CF x M M') (fun r => r.1 = nI (cnR (S.nu t) k) ∧ WC x (trW S t (S.so t) (S.sz t) (vvv S.A j l (S.nu t) k)) T r.2 ∧ CF x M r.2) ⟨M, rfl, by rw [v0]; exact h.tr0 ht nm, CF.rfl⟩ (by omega) (by omega) (fun i s _ hi hI => ?_) (fun s hI => ?_)) (fun r hq => ?_)
    · obtain ⟨M', rfl, h', f'⟩ := hI
      have hp' := h'.1.px
      have hcv : CV x S.A T M' := h'.1
      obtain ⟨t1, t2, t3, t4, t5⟩ := hp'.tr ht
      obtain ⟨q1, q2, q3⟩ := h'.2.2.2.2.2.1 t ht
      have es : gI M' (x + 51 + 2 * t) 2 = nI k := q1.trans ((if_pos rfl).trans ek)
      have ez : (trW S t (S.so t) (S.sz t) (vvv S.A j l (S.nu t) i)).sz t = nI k := (if_pos rfl).trans ek
      have eso : gI M' (x + 51 + 2 * t) 1 = nI j := (q2 (by rw [ez]; exact i_ne1 _ (by omega))).trans ((if_pos rfl).trans ej)
      have env : gJ M' (x + 52 + 2 * t) i = S.nu t i := (q3 i (by rw [ez, cl_nI (by omega)]; exact hi)).trans ((congrFun (show (trW S t (S.so t) (S.sz t) (vvv S.A j l (S.nu t) i)).nu t = vvv S.A j l (S.nu t) i from if_pos rfl) i).trans vvv_i)
      show Ok (bX11_lists_41 T x (nI l) (x + 51 + 2 * t) (nI (cnR (S.nu t) i)) (nI i) M') _
      unfold bX11_lists_41
      simp (disch := omega) only [gdI, gdT, Option.bind_some, lte, t1, es, c_le, Nat.not_le.mpr hi, if_false, t2, t3, t4, gvI, cl_nI, env, lc_lt, lc_ge, fa_lt64, fa_le64, k0, k384]
      have cn : cnR (S.nu t) (i + 1) = cnR (S.nu t) i + (if (0 ≤ (S.nu t i).toInt ∧ (S.nu t i).toInt < 384) then 1 else 0) := rfl
      by_cases z1 : (S.nu t i).toInt < 0
      · have ni : ¬ (0 ≤ (S.nu t i).toInt ∧ (S.nu t i).toInt < 384) := fun z => by omega
        rw [if_pos z1, nI_1]
        rw [if_neg ni] at cn
        exact ok_i ⟨M', by rw [cn]; rfl, by rw [vvv_n ni]; exact h', f'⟩
      rw [if_neg z1]
      by_cases z2 : 384 ≤ (S.nu t i).toInt
      · have ni : ¬ (0 ≤ (S.nu t i).toInt ∧ (S.nu t i).toInt < 384) := fun z => by omega
        rw [if_pos z2, nI_1]
        rw [if_neg ni] at cn
        exact ok_i ⟨M', by rw [cn]; rfl, by rw [vvv_n ni]; exact h', f'⟩
      rw [if_neg z2]
      have yi : (0 ≤ (S.nu t i).toInt ∧ (S.nu t i).toInt < 384) := ⟨by omega, by omega⟩
      rw [if_pos yi] at cn
      have hv : S.nu t i = lN (S.nu t i).toInt.toNat := l_of (by omega)
      have e32 : (S.nu t i).toInt32 = nI (S.nu t i).toInt.toNat := by
        have hb : (S.nu t i).toInt.toNat < 2147483648 := by omega
        generalize (S.nu t i).toInt.toNat = n at *
        rw [hv]; exact l_32 hb
      have hc : (S.nu t i).toInt.toNat < 384 := by omega
      have enn : nnv S.A j l (S.nu t i) = ctv j (2 * S.nu t i + (b2 (psd S.A (qA S.A) (eA S.A) l ((S.nu t i).toInt.toNat / 24) ((S.nu t i).toInt.toNat % 24))).toInt64) := if_pos yi
      rw [e32]
      generalize (S.nu t i).toInt.toNat = c at hc enn
      rw [i_24, c_div (by omega) (by omega) (by omega), hp'.k0, gdI]
      refine Ok.bd (c_rowNow hcv hl (by omega)) (fun p hq => ?_)
      obtain ⟨p1, M1⟩ := p
      obtain ⟨rfl, f1, h1⟩ := hq
      have hw1 : WC x (trW S t (S.so t) (S.sz t) (vvv S.A j l (S.nu t) i)) T M1 := h'.gf h1 f1.gf
      have eso1 : gI M1 (x + 51 + 2 * t) 1 = nI j := (f1.1 _ _ (by omega) (by omega) (by omega)).trans eso
      rw [une2, c_remQ (by omega) (by omega) (by omega), bit_at (by omega), bt_mp (by omega), c_put hw1.1.px ht hj (by omega) eso1, Option.bind_some, une2, ← enn, nI_1, nI_1]
      have this := hw1.nu2 (i := i) (v := nnv S.A j l (S.nu t i)) ht nm
      rw [← vvv_s] at this
      exact ok_i ⟨_, by rw [cn], this.1, (f'.trans f1.gf.wf.2.2.2).trans this.2⟩
    · obtain ⟨M', rfl, h', f'⟩ := hI
      obtain ⟨t1, t2, t3, t4, t5⟩ := h'.1.px.tr ht
      obtain ⟨q1, q2, q3⟩ := h'.2.2.2.2.2.1 t ht
      have es : gI M' (x + 51 + 2 * t) 2 = nI k := q1.trans ((if_pos rfl).trans ek)
      show Ok (bX11_lists_41 T x (nI l) (x + 51 + 2 * t) (nI (cnR (S.nu t) k)) (nI k) M') _
      unfold bX11_lists_41
      simp (disch := omega) only [gdI, gdT, t1, es, c_le, Nat.le_refl, if_true]
      exact ok_i ⟨rfl, h', f'⟩
    · obtain ⟨r1, M'⟩ := r
      rw [une2]
      exact ok_i hq
  · show Ok (fX12_lists T M (x + 69) (nI t) (nI l)) _
    obtain ⟨h0, f0⟩ := h.t0 (v := 0)
    unfold fX12_lists
    rw [h.1.1.k, gdI, lte, w1, Option.bind_some, if_neg (by decide), r_lane1 (h0.rv hS) hl, Option.bind_some, if_neg (by decide), r_tray1 hS h0 ht, Option.bind_some, if_neg nm, if_pos rfl]
    refine Ok.bd (r_laysNow (h0.rv hS)) (fun p hq => ?_)
    obtain ⟨p1, M1⟩ := p
    obtain ⟨d1, fn1, _⟩ := hq
    have qn1 := fn1.qf (fun _ _ => nf_qf)
    have hw0 : WR (x + 69) S T M1 := h0.qf qn1
    rw [une2]
    refine Ok.bd (ok_forF (s := ((0 : Int32), (0 : Int32), M1)) 0 k (fun i s => ∃ M', s = (nI (cnR (S.nu t) i), nI i, M') ∧ WR (x + 69) (trW S t (S.so t) (S.sz t) (vvv S.A j l (S.nu t) i)) T M' ∧ RD (x + 69) S.A (qA S.A) (eA S.A) M' ∧ RF (x + 69) M M') (fun r => r.1 = nI (cnR (S.nu t) k) ∧ WR (x + 69) (trW S t (S.so t) (S.sz t) (vvv S.A j l (S.nu t) k)) T r.2 ∧ RF (x + 69) M r.2) ⟨M1, rfl, by rw [v0]; exact hw0.tr0 hS ht nm, d1, f0.trans qn1.rf⟩ (by omega) (by omega) (fun i s _ hi hI => ?_) (fun s hI => ?_)) (fun r hq => ?_)
    · obtain ⟨M', rfl, h', d', f'⟩ := hI
      have hM := h'.1.1
      have hrv : RV (x + 69) S.A T M' := ⟨h'.1.1, h'.1.2, hS.lv, hS.sv⟩
      have ez : (trW S t (S.so t) (S.sz t) (vvv S.A j l (S.nu t) i)).sz t = nI k := (if_pos rfl).trans ek
      obtain ⟨q1, q2, q3⟩ := h'.2.2.2.1 t ht
      have q2' := q2 (by rw [ez]; exact i_ne1 _ (by omega))
      have es : gI M' (x + 69 + 17) t = nI k := q2'.2.trans ez
      have eso : gI M' (x + 69 + 16) t = nI j := q2'.1.trans ((if_pos rfl).trans ej)
      have env : gJ M' (x + 69 + 18) (40 * t + i) = S.nu t i := (q3 i (by rw [ez, cl_nI (by omega)]; exact hi)).trans ((congrFun (show (trW S t (S.so t) (S.sz t) (vvv S.A j l (S.nu t) i)).nu t = vvv S.A j l (S.nu t) i from if_pos rfl) i).trans vvv_i)
      have cn : cnR (S.nu t) (i + 1) = cnR (S.nu t) i + (if 0 ≤ (S.nu t i).toInt ∧ (S.nu t i).toInt < 384 then 1 else 0) := rfl
      show Ok (bX12_lists_51 T (x + 69) (nI t) (nI l) (nI (cnR (S.nu t) i)) (nI i) M') _
      unfold bX12_lists_51
      simp (disch := omega) only [gdI, gdT, Option.bind_some, lte, une2, une3, nI_add, gvI, cl_nI, c_le, c_lt, c_eq, Sum.elim_inl, Sum.elim_inr, hM.k, hM.r17, hM.k17, hM.l17, hM.r18, hM.k18, hM.l18, es, Nat.not_le.mpr hi, if_false, i_40, c_mul, env, r_cell]
      by_cases yi : 0 ≤ (S.nu t i).toInt ∧ (S.nu t i).toInt < 384
      · rw [if_pos yi] at cn
        rw [decide_eq_true yi, if_neg (by decide)]
        have hv : S.nu t i = lN (S.nu t i).toInt.toNat := l_of (by omega)
        have e32 : (S.nu t i).toInt32 = nI (S.nu t i).toInt.toNat := by
          have hb : (S.nu t i).toInt.toNat < 2147483648 := by omega
          generalize (S.nu t i).toInt.toNat = n at *
          rw [hv]; exact l_32 hb
        have hc : (S.nu t i).toInt.toNat < 384 := by omega
        have enn : nnv S.A j l (S.nu t i) = ctv j (2 * S.nu t i + (b2 (psd S.A (qA S.A) (eA S.A) l ((S.nu t i).toInt.toNat / 24) ((S.nu t i).toInt.toNat % 24))).toInt64) := if_pos yi
        rw [e32]
        generalize (S.nu t i).toInt.toNat = c at hc enn
        refine Ok.bd (r_isPassed hrv d' hl hc) (fun p hq => ?_)
        obtain ⟨p1, M2⟩ := p
        obtain ⟨rfl, f2⟩ := hq
        have q2 := f2.qf (fun _ _ => wf_qf)
        have h2 : WR (x + 69) (trW S t (S.so t) (S.sz t) (vvv S.A j l (S.nu t) i)) T M2 := h'.qf q2
        have hM2 := h2.1.1
        have f2 : FI (x + 69) (wf (x + 69)) M' M2 := f2
        have eso2 : gI M2 (x + 69 + 16) t = nI j := (f2.1 _ _ (by unfold wf; omega)).trans eso
        have fin := h2.nu2 (i := i) (v := nnv S.A j l (S.nu t i)) (okv _) ht (by omega) nm
        rw [← vvv_s] at fin
        have d2 : RD (x + 69) S.A (qA S.A) (eA S.A) (pJ M2 (x + 69 + 18) (40 * t + i) (nnv S.A j l (S.nu t i))) := (show RD (x + 69) S.A (qA S.A) (eA S.A) M2 from d'.w f2)
        rw [une2]
        cases hb : psd S.A (qA S.A) (eA S.A) l (c / 24) (c % 24)
        · rw [hb] at enn
          have enn : nnv S.A j l (S.nu t i) = ctv j (2 * S.nu t i + 0) := enn
          rw [if_pos (b2_ne.mpr rfl)]
          simp (disch := omega) only [gdI, gdT, Option.bind_some, lte, une2, une3, nI_add, gvI, cl_nI, c_le, c_lt, c_eq, Sum.elim_inl, Sum.elim_inr, hM2.k, hM2.r16, hM2.k16, hM2.l16, hM2.r18, hM2.k18, hM2.l18, eso2, r_cut hj, nI_1]
          rw [← enn]
          exact ok_i ⟨_, by rw [cn], fin.1, d2, (f'.trans q2.rf).trans fin.2⟩
        · rw [hb] at enn
          have enn : nnv S.A j l (S.nu t i) = ctv j (2 * S.nu t i + 1) := enn
          rw [if_neg (fun z => absurd (b2_ne.mp z) (by decide))]
          simp (disch := omega) only [gdI, gdT, Option.bind_some, lte, une2, une3, nI_add, gvI, cl_nI, c_le, c_lt, c_eq, Sum.elim_inl, Sum.elim_inr, hM2.k, hM2.r16, hM2.k16, hM2.l16, hM2.r18, hM2.k18, hM2.l18, eso2, r_cut hj, nI_1]
          rw [← enn]
          exact ok_i ⟨_, by rw [cn], fin.1, d2, (f'.trans q2.rf).trans fin.2⟩
      · rw [if_neg yi] at cn
        rw [decide_eq_false yi, if_pos (b2_ne.mpr rfl), nI_1]
        exact ok_i ⟨M', by rw [cn]; rfl, by rw [vvv_n yi]; exact h', d', f'⟩
    · obtain ⟨M', rfl, h', d', f'⟩ := hI
      have hM := h'.1.1
      have ez : (trW S t (S.so t) (S.sz t) (vvv S.A j l (S.nu t) k)).sz t = nI k := (if_pos rfl).trans ek
      obtain ⟨q1, q2, q3⟩ := h'.2.2.2.1 t ht
      have es : gI M' (x + 69 + 17) t = nI k := (q2 (by rw [ez]; exact i_ne1 _ (by omega))).2.trans ez
      show Ok (bX12_lists_51 T (x + 69) (nI t) (nI l) (nI (cnR (S.nu t) k)) (nI k) M') _
      unfold bX12_lists_51
      simp (disch := omega) only [gdI, gdT, Option.bind_some, lte, une2, une3, nI_add, gvI, cl_nI, c_le, c_lt, c_eq, Sum.elim_inl, Sum.elim_inr, hM.k, hM.r17, hM.k17, hM.l17, es, Nat.le_refl, if_true]
      exact ok_i ⟨rfl, h', f'⟩
    · obtain ⟨r1, M'⟩ := r
      rw [une2]
      exact ok_i hq
end
