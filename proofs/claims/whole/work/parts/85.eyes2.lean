/-! eyes, greatest -/
theorem szE_pos {pc : Nat → Bool} {k : Nat} (hk : k < 384) (h : rk pc k k = true) : 0 < szE pc k := by
  have h1 := ct_rem hk h
  have h2 : fb_ct (rk pc (k + 1)) 384 ≤ fb_ct (fun e => if e = k then false else rk pc k e) 384 := fb_ct_sub (fun c _ q => by
    have q := rk_s.mp q
    show (if c = k then false else rk pc k c) = true
    by_cases z : c = k
    · exfalso; rw [z] at q; exact q.2 ⟨h, Con.refl⟩
    · rw [if_neg z]; exact q.1)
  unfold szE
  omega
section
variable {x m : Nat} {A : Nat → Int32} {T : Sh} {M M2 : Me} {pm : Nat → Nat → Bool}
theorem r_eyesOf {l : Nat} {w : Int32} (h : RV m A T M) (hl : l < nlA A) : Ok (fX12_eyesOf T M m (nI l) w) (fun p => p.1 = (if w = 0 then nI (grE (pmc (psd A (qA A) (eA A) l)) 384) else nI (mnE (pmc (psd A (qA A) (eA A) l)) 384)) ∧ QF m M p.2) := by
  have hM := h.rm
  unfold fX12_eyesOf
  simp only [gdI, gdT, Option.bind_some, lte, une2, une3, nI_add, gvI, cl_nI, c_le, c_lt, c_eq, Sum.elim_inl, Sum.elim_inr, hM.k]
  refine Ok.bd (r_laysMapNow h hl) (fun p hq => ?_)
  obtain ⟨p1, M1⟩ := p
  obtain ⟨m1, f1, h1, d1⟩ := hq
  have m1 : MP (m + 7) (mr (psd A (qA A) (eA A) l)) M1 := m1
  have hM1 := h1.rm
  generalize psd A (qA A) (eA A) l = pm at *
  rw [une2]
  refine Ok.bd (ok_forF (s := ((0 : Int32), M1)) 0 384 (fun i s => ∃ M', s = (nI i, M') ∧ (∀ c, c < i → gI M' (m + 9) c = 0) ∧ FI m (fun a _ => a = m + 9) M1 M') (fun M' => (∀ c, c < 384 → gI M' (m + 9) c = 0) ∧ FI m (fun a _ => a = m + 9) M1 M') ⟨M1, rfl, fun c hc => absurd hc (by omega), FI.rfl⟩ (by omega) (by omega) (fun i s _ hi hI => ?_) (fun s hI => ?_)) (fun M2 h2 => ?_)
  · obtain ⟨M', rfl, hm, f⟩ := hI
    have hM' : RM m T M' := hM1.fr (fun k => f.2.2 m k (by omega))
    show Ok (bX12_eyesOf_7 T m w (nI i) M') _
    unfold bX12_eyesOf_7
    rw [i_384, if_neg (by rw [c_le (by omega) (by omega)]; omega)]
    simp (disch := omega) only [gdI, gdT, Option.bind_some, lte, une2, une3, nI_add, gvI, cl_nI, c_le, c_lt, c_eq, Sum.elim_inl, Sum.elim_inr, hM'.k, hM'.r9, hM'.k9, hM'.l9, nI_1]
    refine ok_i ⟨_, rfl, fun c hc => ?_, f.pI rfl⟩
    by_cases z : c = i
    · rw [z, mII1]; rfl
    · rw [mIIk z]; exact hm c (by omega)
  · obtain ⟨M', rfl, hm, f⟩ := hI
    show Ok (bX12_eyesOf_7 T m w (nI 384) M') _
    unfold bX12_eyesOf_7
    rw [i_384, if_pos (by decide)]
    exact ok_i ⟨hm, f⟩
  obtain ⟨hm2, f2⟩ := h2
  refine Ok.bd (ok_forF (s := ((0 : Int32), (0 : Int32), (0 : Int32), M2)) 0 384 (fun k s => ∃ M' K, s = (nI (mnE (pmc pm) k), nI (grE (pmc pm) k), nI k, M') ∧ KM m K M' ∧ (∀ c, c < 384 → unK (pmc pm) K c = rk (pmc pm) k c) ∧ FI m (fun a _ => a = m + 9) M1 M') (fun r => ∃ M', r = (nI (mnE (pmc pm) 384), nI (grE (pmc pm) 384), M') ∧ FI m (fun a _ => a = m + 9) M1 M') ⟨M2, fun _ => false, rfl, fun c hc => hm2 c hc, fun c hc => ?_, f2⟩ (by omega) (by omega) (fun k s _ hk hI => ?_) (fun s hI => ?_)) (fun r hr => ?_)
  · show (pmc pm c && !false) = pmc pm c
    simp
  · obtain ⟨M', K, rfl, hK, hU, f⟩ := hI
    have gb := grE_b (pmc pm) k
    have sb := szE_b (pmc pm) k
    have mb : mnE (pmc pm) k ≤ k := fb_ct_le _ _
    have em : mnE (pmc pm) (k + 1) = mnE (pmc pm) k + (if rk (pmc pm) k k = true then 1 else 0) := rfl
    have eg : grE (pmc pm) (k + 1) = max (grE (pmc pm) k) (szE (pmc pm) k) := rfl
    show Ok (bX12_eyesOf_35 T m w (nI (mnE (pmc pm) k)) (nI (grE (pmc pm) k)) (nI k) M') _
    unfold bX12_eyesOf_35
    rw [i_384, if_neg (by rw [c_le (by omega) (by omega)]; omega), hM1.k, gdI]
    refine Ok.bd (r_eyeFrom hM1 m1 400 K k M' f hK hk (by have := fb_ct_le (unK (pmc pm) K) 384; omega)) (fun p hp => ?_)
    obtain ⟨p1, M3⟩ := p
    obtain ⟨K3, w1, w2, rfl, w4, w5⟩ := hp
    have tk : TK (pmc pm) (rk (pmc pm) k) (unK (pmc pm) K3) k := by
      obtain ⟨t1, t2, t3, t4, t5⟩ := w2
      exact ⟨fun c hc q => by rw [← hU c hc]; exact t1 c hc q, fun q => t2 (by rw [hU k hk]; exact q), fun c hc q1 q2 => t3 c hc (by rw [hU c hc]; exact q1) q2, fun c s n hc hs q1 q2 hb => t4 c s n hc hs (by rw [hU c hc]; exact q1) q2 hb, fun q c hc => by rw [← hU c hc]; exact t5 (by rw [hU k hk]; exact q) c hc⟩
    have e3 := rk_tk hk tk
    have es : fb_ct (unK (pmc pm) K) 384 - fb_ct (unK (pmc pm) K3) 384 = szE (pmc pm) k := by
      rw [fb_ct_cong hU, fb_ct_cong e3]; rfl
    rw [une2, es, i_0, ite_le (by omega) (by omega), nI_add, Nat.add_zero]
    simp only [lte, nI_1]
    have fin : ∀ (a b : Nat), a = mnE (pmc pm) (k + 1) → b = grE (pmc pm) (k + 1) → ∃ M' K, ((nI a, nI b, nI (k + 1), M3) : Int32 × Int32 × Int32 × Me) = (nI (mnE (pmc pm) (k + 1)), nI (grE (pmc pm) (k + 1)), nI (k + 1), M') ∧ KM m K M' ∧ (∀ c, c < 384 → unK (pmc pm) K c = rk (pmc pm) (k + 1) c) ∧ FI m (fun a _ => a = m + 9) M1 M' := fun a b ha hb => ⟨M3, K3, by rw [ha, hb], w1, e3, f.trans w5⟩
    cases hb : rk (pmc pm) k k
    · rw [hb, if_neg (by decide)] at em
      have ez := szE_0 hb
      rw [if_pos (by omega), ite_le (by omega) (by omega), if_pos (by omega)]
      exact ok_i (fin _ _ em.symm (by rw [eg]; omega))
    · rw [hb, if_pos rfl] at em
      have ez := szE_pos hk hb
      rw [if_neg (by omega), ite_le (by omega) (by omega)]
      by_cases q : szE (pmc pm) k ≤ grE (pmc pm) k
      · rw [if_pos q]; exact ok_i (fin _ _ em.symm (by rw [eg]; omega))
      · rw [if_neg q]; exact ok_i (fin _ _ em.symm (by rw [eg]; omega))
  · obtain ⟨M', K, rfl, hK, hU, f⟩ := hI
    show Ok (bX12_eyesOf_35 T m w _ _ (nI 384) M') _
    unfold bX12_eyesOf_35
    rw [i_384, if_pos (by decide)]
    exact ok_i ⟨M', rfl, f⟩
  · obtain ⟨M', rfl, f⟩ := hr
    have fin : QF m M M' := (f1.qf (fun _ _ => mf_qf)).trans (f.qf (fun a k q => by unfold sq; omega))
    rw [une3]
    by_cases q : w = 0
    · rw [if_pos q, if_pos q]; exact ok_i ⟨rfl, fin⟩
    · rw [if_neg q, if_neg q]; exact ok_i ⟨rfl, fin⟩
theorem q_eyes (hL : LV A) (a : Int32) : QQ x m A (fun T M => fX11_eyes T M x a) (fun T M => fX12_eyes T M m a) := by
  have h6 := hL.b3
  rcases ix_I a (nlA A) (by omega) with ⟨l, hl, rfl⟩ | hn
  · refine ⟨nI (mnE (pmc (psd A (qA A) (eA A) l)) 384), fun T M h => ?_, fun T M h => ?_⟩
    · show Ok (fX11_eyes T M x (nI l)) _
      unfold fX11_eyes
      rw [c_lane1 h hl, h.px.k0, gdI, Option.bind_some, if_pos rfl]
      refine Ok.bd (c_look h hl) (fun p hq => ?_)
      obtain ⟨p1, M1⟩ := p
      obtain ⟨m1, f1, h1⟩ := hq
      have hp := h1.px
      simp only [gdI, gdT, Option.bind_some, lte, une2, une3, nI_add, gvI, cl_nI, c_le, c_lt, c_eq, Sum.elim_inl, Sum.elim_inr, hp.k0, hp.k19, hp.k20, hp.l20, hp.k21, hp.l21, hp.k22, hp.l22, hp.r0_0, hp.r0_2, hp.r0_3, hp.r0_4, hp.r0_5, hp.r0_6, hp.r0_7, hp.r0_9, hp.r0_10, hp.r0_13, hp.r19_0, hp.r19_1, hp.r19_2]
      refine Ok.bd (c_findEyes hp (pm := psd A (qA A) (eA A) l) m1) (fun p hq => ?_)
      obtain ⟨p1, M2⟩ := p
      obtain ⟨e1, e2, f2⟩ := hq
      have h2 : CV x A T M2 := h1.fx f2 (fun a k q => by omega)
      have hp2 := h2.px
      simp only [gdI, gdT, Option.bind_some, lte, une2, une3, nI_add, gvI, cl_nI, c_le, c_lt, c_eq, Sum.elim_inl, Sum.elim_inr, hp2.k0, hp2.k19, hp2.k20, hp2.l20, hp2.k21, hp2.l21, hp2.k22, hp2.l22, hp2.r0_0, hp2.r0_2, hp2.r0_3, hp2.r0_4, hp2.r0_5, hp2.r0_6, hp2.r0_7, hp2.r0_9, hp2.r0_10, hp2.r0_13, hp2.r19_0, hp2.r19_1, hp2.r19_2, e1, e2]
      exact ok_i ⟨rfl, f1.gf.trans (f2.hf (x := x) (fun a k q => by omega)).gf, h2⟩
    · have h0 := h.t0 (v := 0)
      show Ok (fX12_eyes T M m (nI l)) _
      unfold fX12_eyes
      rw [h0.rm.k, gdI, lte, r_lane1 h0 hl, Option.bind_some, if_neg (by decide)]
      refine Ok.bd (r_eyesOf h0 hl) (fun p hq => ?_)
      obtain ⟨p1, M1⟩ := p
      obtain ⟨hr, f1⟩ := hq
      rw [if_neg (by decide)] at hr
      exact ok_i ⟨hr, (r_t0.qf (fun _ _ => nf_qf)).trans f1⟩
  · refine ⟨-2, fun T M h => ?_, fun T M h => ?_⟩
    · show Ok (fX11_eyes T M x a) _
      unfold fX11_eyes
      rw [c_lane0 h hn, h.px.k0, gdI, Option.bind_some, if_neg (by decide)]
      exact ok_i ⟨rfl, GF.rfl, h⟩
    · have h0 := h.t0 (v := 0)
      show Ok (fX12_eyes T M m a) _
      unfold fX12_eyes
      rw [h0.rm.k, gdI, lte, r_lane0 h0 hn, Option.bind_some, if_pos rfl]
      exact ok_i ⟨rfl, r_t0.qf (fun _ _ => nf_qf)⟩
theorem q_greatest (hL : LV A) (a : Int32) : QQ x m A (fun T M => fX11_greatest T M x a) (fun T M => fX12_greatest T M m a) := by
  have h6 := hL.b3
  rcases ix_I a (nlA A) (by omega) with ⟨l, hl, rfl⟩ | hn
  · refine ⟨nI (grE (pmc (psd A (qA A) (eA A) l)) 384), fun T M h => ?_, fun T M h => ?_⟩
    · show Ok (fX11_greatest T M x (nI l)) _
      unfold fX11_greatest
      rw [c_lane1 h hl, h.px.k0, gdI, Option.bind_some, if_pos rfl]
      refine Ok.bd (c_look h hl) (fun p hq => ?_)
      obtain ⟨p1, M1⟩ := p
      obtain ⟨m1, f1, h1⟩ := hq
      have hp := h1.px
      simp only [gdI, gdT, Option.bind_some, lte, une2, une3, nI_add, gvI, cl_nI, c_le, c_lt, c_eq, Sum.elim_inl, Sum.elim_inr, hp.k0, hp.k19, hp.k20, hp.l20, hp.k21, hp.l21, hp.k22, hp.l22, hp.r0_0, hp.r0_2, hp.r0_3, hp.r0_4, hp.r0_5, hp.r0_6, hp.r0_7, hp.r0_9, hp.r0_10, hp.r0_13, hp.r19_0, hp.r19_1, hp.r19_2]
      refine Ok.bd (c_findEyes hp (pm := psd A (qA A) (eA A) l) m1) (fun p hq => ?_)
      obtain ⟨p1, M2⟩ := p
      obtain ⟨e1, e2, f2⟩ := hq
      have h2 : CV x A T M2 := h1.fx f2 (fun a k q => by omega)
      have hp2 := h2.px
      simp only [gdI, gdT, Option.bind_some, lte, une2, une3, nI_add, gvI, cl_nI, c_le, c_lt, c_eq, Sum.elim_inl, Sum.elim_inr, hp2.k0, hp2.k19, hp2.k20, hp2.l20, hp2.k21, hp2.l21, hp2.k22, hp2.l22, hp2.r0_0, hp2.r0_2, hp2.r0_3, hp2.r0_4, hp2.r0_5, hp2.r0_6, hp2.r0_7, hp2.r0_9, hp2.r0_10, hp2.r0_13, hp2.r19_0, hp2.r19_1, hp2.r19_2, e1, e2]
      exact ok_i ⟨rfl, f1.gf.trans (f2.hf (x := x) (fun a k q => by omega)).gf, h2⟩
    · have h0 := h.t0 (v := 0)
      show Ok (fX12_greatest T M m (nI l)) _
      unfold fX12_greatest
      rw [h0.rm.k, gdI, lte, r_lane1 h0 hl, Option.bind_some, if_neg (by decide)]
      refine Ok.bd (r_eyesOf h0 hl) (fun p hq => ?_)
      obtain ⟨p1, M1⟩ := p
      obtain ⟨hr, f1⟩ := hq
      rw [if_pos rfl] at hr
      exact ok_i ⟨hr, (r_t0.qf (fun _ _ => nf_qf)).trans f1⟩
  · refine ⟨-2, fun T M h => ?_, fun T M h => ?_⟩
    · show Ok (fX11_greatest T M x a) _
      unfold fX11_greatest
      rw [c_lane0 h hn, h.px.k0, gdI, Option.bind_some, if_neg (by decide)]
      exact ok_i ⟨rfl, GF.rfl, h⟩
    · have h0 := h.t0 (v := 0)
      show Ok (fX12_greatest T M m a) _
      unfold fX12_greatest
      rw [h0.rm.k, gdI, lte, r_lane0 h0 hn, Option.bind_some, if_pos rfl]
      exact ok_i ⟨rfl, r_t0.qf (fun _ _ => nf_qf)⟩
end
