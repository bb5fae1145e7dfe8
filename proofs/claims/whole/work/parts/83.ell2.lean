/-! the largest ellipse is found -/
noncomputable def nO (pm : Nat → Nat → Bool) (k c : Nat) : Nat := Classical.epsilon (IsMn pm k c)
theorem nO_of {pm : Nat → Nat → Bool} {k c n : Nat} (h : IsMn pm k c n) : nO pm k c = n := (Classical.epsilon_spec ⟨n, h⟩ : IsMn pm k c (nO pm k c)).u h
theorem IsMn.pos {pm : Nat → Nat → Bool} {k c n : Nat} (h : IsMn pm k c n) (hk : 1 ≤ k) (hc : c < 384) (hp : pmc pm c = true) : 1 ≤ n := by
  rcases Nat.eq_zero_or_pos n with q | q
  · exfalso
    obtain ⟨⟨z, y, a1, a2, a3⟩, _⟩ := h
    rw [q] at a3
    unfold vN at a3
    have h1 : (z - (c % 24 : Nat)).natAbs * (z - (c % 24 : Nat)).natAbs = 0 := by omega
    have h2 : k * ((y - (c / 24 : Nat)).natAbs * (y - (c / 24 : Nat)).natAbs) = 0 := by omega
    have h3 : (z - (c % 24 : Nat)).natAbs = 0 := by
      rcases Nat.mul_eq_zero.mp h1 with w | w <;> exact w
    have h4 : (y - (c / 24 : Nat)).natAbs = 0 := by
      rcases Nat.mul_eq_zero.mp h2 with w | w
      · omega
      · rcases Nat.mul_eq_zero.mp w with w | w <;> exact w
    rw [show z = ((c % 24 : Nat) : Int) by omega, show y = ((c / 24 : Nat) : Int) by omega, pmI_n (by omega) (by omega)] at a2
    unfold pmc at hp
    rw [hp] at a2
    exact absurd a2 (by decide)
  · exact q
theorem IsMn.b {pm : Nat → Nat → Bool} {k c n : Nat} (h : IsMn pm k c n) (hk : k ≤ 9) (hc : c < 384) : n ≤ 3226 := by
  obtain ⟨⟨z, y, a1, a2, a3⟩, _⟩ := h
  have := vN_b hk hc a1
  omega
def elN (n c : Nat) : Option (Nat × Nat) → Option (Nat × Nat)
  | none => some (n - 1, c)
  | some r => if r.1 < n - 1 then some (n - 1, c) else some r
noncomputable def elB (pm : Nat → Nat → Bool) (k : Nat) : Nat → Option (Nat × Nat)
  | 0 => none
  | c + 1 => if pmc pm c = true then elN (nO pm k c) c (elB pm k c) else elB pm k c
def eS : Option (Nat × Nat) → Int32
  | none => -1
  | some r => nI r.1
def eC : Option (Nat × Nat) → Int32
  | none => -1
  | some r => nI r.2
def eB (N : Nat) : Option (Nat × Nat) → Prop
  | none => True
  | some r => r.1 ≤ 3226 ∧ r.2 < N
theorem eB_up {N K : Nat} (h : N ≤ K) : ∀ {e : Option (Nat × Nat)}, eB N e → eB K e
  | none, _ => trivial
  | some _, q => ⟨q.1, by have := q.2; omega⟩
theorem i_m1lt {w : Nat} (h : w < 2147483648) : ¬ nI w ≤ (-1 : Int32) := fun q => by
  have := (fa_le _ _).mp q
  rw [nI_toInt (by omega)] at this
  have e1 : (-1 : Int32).toInt = -1 := by decide
  omega
section
variable {x m : Nat} {A : Nat → Int32} {T : Sh} {M M2 : Me} {pm : Nat → Nat → Bool}
theorem c_findEllipse {k : Nat} (hp : PX x T M) (hg : MP (x + 20) (mr pm) M) (hk1 : 1 ≤ k) (hk9 : k ≤ 9) : Ok (fX7_findEllipse T M (x + 19) (nI k)) (fun p => gI p.2 (x + 19) 10 = eS (elB pm k 384) ∧ gI p.2 (x + 19) 11 = eC (elB pm k 384) ∧ eB 384 (elB pm k 384) ∧ FX (fun a _ => a = x + 19 ∨ a = x + 21) M p.2) := by
  unfold fX7_findEllipse
  rw [hp.k19, gdI, lte, lte]
  have f0 : FX (fun a _ => a = x + 19 ∨ a = x + 21) M (pI (pI M (x + 19) 10 (-1)) (x + 19) 11 (-1)) := (FX.rfl.pI (Or.inl rfl)).pI (Or.inl rfl)
  refine Ok.bd (ok_forF (s := ((0 : Int32), pI (pI M (x + 19) 10 (-1)) (x + 19) 11 (-1))) 0 16 (fun i s => ∃ M', s = (nI i, M') ∧ (∀ c, c / 24 < i → gI M' (x + 21) c = nI (gpc pm c)) ∧ gI M' (x + 19) 10 = -1 ∧ gI M' (x + 19) 11 = -1 ∧ FX (fun a _ => a = x + 19 ∨ a = x + 21) M M') (fun M' => (∀ c, c < 384 → gI M' (x + 21) c = nI (gpc pm c)) ∧ gI M' (x + 19) 10 = -1 ∧ gI M' (x + 19) 11 = -1 ∧ FX (fun a _ => a = x + 19 ∨ a = x + 21) M M') ⟨_, rfl, fun c hc => absurd hc (by omega), by rw [mIIk (by omega), mII1], mII1, f0⟩ (by omega) (by omega) (fun i s _ hi hI => ?_) (fun s hI => ?_)) (fun M1 h1 => ?_)
  · obtain ⟨M', rfl, hm, e10, e11, f⟩ := hI
    show Ok (bX7_findEllipse_12 T (x + 19) (nI k) (nI i) M') _
    unfold bX7_findEllipse_12
    rw [i_16, if_neg (by rw [c_le (by omega) (by omega)]; omega), hp.k19, gdI]
    refine Ok.bd (c_measureGaps (pm := pm) (hp.eq f.r) (hg.fx f (fun j => by omega)) hi) (fun p hq => ?_)
    obtain ⟨p1, M2⟩ := p
    obtain ⟨g1, g2, g3⟩ := hq
    rw [une2, lte, nI_1]
    refine ok_i ⟨M2, rfl, fun c hc => ?_, (g3.1 _ _ (by omega)).trans e10, (g3.1 _ _ (by omega)).trans e11, f.trans (g3.wide (fun _ _ => Or.inr))⟩
    by_cases q : c / 24 = i
    · exact g1 c q
    · exact (g2 c q).trans (hm c (by omega))
  · obtain ⟨M', rfl, hm, e10, e11, f⟩ := hI
    show Ok (bX7_findEllipse_12 T (x + 19) (nI k) (nI 16) M') _
    unfold bX7_findEllipse_12
    rw [i_16, if_pos (by decide)]
    exact ok_i ⟨fun c hc => hm c (by omega), e10, e11, f⟩
  obtain ⟨hm, e10, e11, f1⟩ := h1
  refine Ok.bd (ok_forF (s := ((0 : Int32), M1)) 0 384 (fun c s => ∃ M', s = (nI c, M') ∧ gI M' (x + 19) 10 = eS (elB pm k c) ∧ gI M' (x + 19) 11 = eC (elB pm k c) ∧ eB c (elB pm k c) ∧ FX (fun a _ => a = x + 19) M1 M') (fun M' => gI M' (x + 19) 10 = eS (elB pm k 384) ∧ gI M' (x + 19) 11 = eC (elB pm k 384) ∧ eB 384 (elB pm k 384) ∧ FX (fun a _ => a = x + 19) M1 M') ⟨M1, rfl, e10, e11, trivial, FX.rfl⟩ (by omega) (by omega) (fun c s _ hc hI => ?_) (fun s hI => ?_)) (fun M2 h2 => ok_i ⟨h2.1, h2.2.1, h2.2.2.1, f1.trans (h2.2.2.2.wide (fun _ _ => Or.inl))⟩)
  · obtain ⟨M', rfl, h10, h11, hB, f⟩ := hI
    have hp' : PX x T M' := (hp.eq f1.r).eq f.r
    have hg' : MP (x + 20) (mr pm) M' := (hg.fx f1 (fun j => by omega)).fx f (fun j => by omega)
    have hm' : ∀ c, c < 384 → gI M' (x + 21) c = nI (gpc pm c) := fun c hc => (f.1 _ _ (by omega)).trans (hm c hc)
    show Ok (bX7_findEllipse_31 T (x + 19) (nI k) (nI c) M') _
    unfold bX7_findEllipse_31
    rw [i_384, if_neg (by rw [c_le (by omega) (by omega)]; omega), hp'.k19, gdI, c_has hp' hg' hc, Option.bind_some]
    cases hb : pmc pm c
    · have e : elB pm k (c + 1) = elB pm k c := by rw [elB, hb, if_neg (by decide)]
      rw [if_pos (b2_ne.mpr rfl), lte, nI_1]
      refine ok_i ⟨M', rfl, ?_, ?_, ?_, f⟩
      · rw [e]; exact h10
      · rw [e]; exact h11
      · rw [e]; exact eB_up (by omega) hB
    · rw [if_neg (fun z => absurd (b2_ne.mp z) (by decide))]
      refine Ok.bd (c_nearest hp' hm' hk1 hk9 hc) (fun r hr => ?_)
      obtain ⟨n, rfl, hn⟩ := hr
      have hn1 := hn.pos hk1 hc hb
      have hnb := hn.b hk9 hc
      have e : elB pm k (c + 1) = elN n c (elB pm k c) := by rw [elB, hb, if_pos rfl, nO_of hn]
      rw [e, h10, lte, i_1, c_sub hn1]
      cases hel : elB pm k c with
      | none =>
        rw [if_neg (show ¬ nI (n - 1) ≤ eS none from i_m1lt (by omega))]
        simp only [lte, nI_1, ← i_1]
        refine ok_i ⟨_, rfl, ?_, ?_, ⟨by show n - 1 ≤ 3226; omega, by show c < c + 1; omega⟩, (f.pI rfl).pI rfl⟩
        · rw [mIIk (by omega), mII1]; rfl
        · rw [mII1]; rfl
      | some r =>
        rw [hel] at hB h10 h11
        have hB1 : r.1 ≤ 3226 := hB.1
        show Ok (if nI (n - 1) ≤ nI r.1 then _ else _) _
        rw [ite_le (by omega) (by omega)]
        have eN : elN n c (some r) = if r.1 < n - 1 then some (n - 1, c) else some r := rfl
        by_cases hle : n - 1 ≤ r.1
        · rw [if_pos hle, eN, if_neg (by omega)]
          simp only [lte, nI_1, ← i_1]
          exact ok_i ⟨M', rfl, h10, h11, eB_up (N := c) (by omega) hB, f⟩
        · rw [if_neg hle, eN, if_pos (by omega)]
          simp only [lte, nI_1, ← i_1]
          refine ok_i ⟨_, rfl, ?_, ?_, ⟨by show n - 1 ≤ 3226; omega, by show c < c + 1; omega⟩, (f.pI rfl).pI rfl⟩
          · rw [mIIk (by omega), mII1]; rfl
          · rw [mII1]; rfl
  · obtain ⟨M', rfl, h10, h11, hB, f⟩ := hI
    show Ok (bX7_findEllipse_31 T (x + 19) (nI k) (nI 384) M') _
    unfold bX7_findEllipse_31
    rw [i_384, if_pos (by decide)]
    exact ok_i ⟨h10, h11, hB, f⟩
def ef (m a k : Nat) : Prop := a = m ∧ (k = 26 ∨ k = 27)
theorem ef_qf {m a k : Nat} (h : ef m a k) : sq m a k := by unfold ef at h; unfold sq; omega
theorem r_laysEllipse {k : Nat} (h : RV m A T M) (hg : MP (m + 7) (mr pm) M) (hk : A 1 = nI k) (hk1 : 1 ≤ k) (hk9 : k ≤ 9) : Ok (fX12_laysEllipse T M m) (fun p => gI p.2 m 26 = eS (elB pm k 384) ∧ (elB pm k 384 ≠ none → gI p.2 m 27 = eC (elB pm k 384)) ∧ eB 384 (elB pm k 384) ∧ FI m (ef m) M p.2) := by
  unfold fX12_laysEllipse
  rw [h.rm.k, gdI, lte]
  refine Ok.bd (ok_forF (s := ((0 : Int32), pI M m 26 (-1))) 0 384 (fun c s => ∃ M', s = (nI c, M') ∧ gI M' m 26 = eS (elB pm k c) ∧ (elB pm k c ≠ none → gI M' m 27 = eC (elB pm k c)) ∧ eB c (elB pm k c) ∧ FI m (ef m) M M') (fun M' => gI M' m 26 = eS (elB pm k 384) ∧ (elB pm k 384 ≠ none → gI M' m 27 = eC (elB pm k 384)) ∧ eB 384 (elB pm k 384) ∧ FI m (ef m) M M') ⟨_, rfl, mII1, fun q => absurd rfl q, trivial, FI.rfl.pI ⟨rfl, Or.inl rfl⟩⟩ (by omega) (by omega) (fun c s _ hc hI => ?_) (fun s hI => ?_)) (fun M2 h2 => ok_i h2)
  · obtain ⟨M', rfl, h10, h11, hB, f⟩ := hI
    have h' : RV m A T M' := h.fi f (fun _ _ => ef_qf)
    have hM' := h'.rm
    have hg' : MP (m + 7) (mr pm) M' := hg.fi f (fun j => by unfold ef; omega)
    show Ok (bX12_laysEllipse_7 T m (nI c) M') _
    unfold bX12_laysEllipse_7
    rw [i_384, if_neg (by rw [c_le (by omega) (by omega)]; omega), hM'.k, gdI, i_24, c_div (by omega) (by omega) (by omega), c_remQ (by omega) (by omega) (by omega), r_mapped hM' hg' (by omega) (by omega), Option.bind_some]
    rw [show pm (c / 24) (c % 24) = pmc pm c from rfl]
    cases hb : pmc pm c
    · have e : elB pm k (c + 1) = elB pm k c := by rw [elB, hb, if_neg (by decide)]
      rw [if_pos (b2_ne.mpr rfl), lte, nI_1]
      refine ok_i ⟨M', rfl, ?_, ?_, ?_, f⟩
      · rw [e]; exact h10
      · rw [e]; exact h11
      · rw [e]; exact eB_up (by omega) hB
    · rw [if_neg (fun z => absurd (b2_ne.mp z) (by decide))]
      refine Ok.bd (r_apartFrom h' hg' hk hk9 hc) (fun r hr => ?_)
      obtain ⟨n, rfl, hn⟩ := hr
      have hn1 := hn.pos hk1 hc hb
      have hnb := hn.b hk9 hc
      have e : elB pm k (c + 1) = elN n c (elB pm k c) := by rw [elB, hb, if_pos rfl, nO_of hn]
      rw [e, h10, lte, i_1, c_sub hn1]
      cases hel : elB pm k c with
      | none =>
        rw [if_pos (show eS none < nI (n - 1) from fa_of_nle (i_m1lt (by omega)))]
        simp only [lte, nI_1, ← i_1]
        refine ok_i ⟨_, rfl, ?_, fun _ => ?_, ⟨by show n - 1 ≤ 3226; omega, by show c < c + 1; omega⟩, (f.pI ⟨rfl, Or.inl rfl⟩).pI ⟨rfl, Or.inr rfl⟩⟩
        · rw [mIIk (by omega), mII1]; rfl
        · rw [mII1]; rfl
      | some r =>
        rw [hel] at hB h10 h11
        have hB1 : r.1 ≤ 3226 := hB.1
        show Ok (if nI r.1 < nI (n - 1) then _ else _) _
        rw [ite_lt (by omega) (by omega)]
        have eN : elN n c (some r) = if r.1 < n - 1 then some (n - 1, c) else some r := rfl
        by_cases hlt : r.1 < n - 1
        · rw [if_pos hlt, eN, if_pos hlt]
          simp only [lte, nI_1, ← i_1]
          refine ok_i ⟨_, rfl, ?_, fun _ => ?_, ⟨by show n - 1 ≤ 3226; omega, by show c < c + 1; omega⟩, (f.pI ⟨rfl, Or.inl rfl⟩).pI ⟨rfl, Or.inr rfl⟩⟩
          · rw [mIIk (by omega), mII1]; rfl
          · rw [mII1]; rfl
        · rw [if_neg hlt, eN, if_neg hlt]
          simp only [lte, nI_1, ← i_1]
          exact ok_i ⟨M', rfl, h10, h11, eB_up (N := c) (by omega) hB, f⟩
  · obtain ⟨M', rfl, h10, h11, hB, f⟩ := hI
    show Ok (bX12_laysEllipse_7 T m (nI 384) M') _
    unfold bX12_laysEllipse_7
    rw [i_384, if_pos (by decide)]
    exact ok_i ⟨h10, h11, hB, f⟩
theorem q_ellipse (hL : LV A) (a b : Int32) : QQ x m A (fun T M => fX11_ellipse T M x a b) (fun T M => fX12_ellipse T M m a b) := by
  have h6 := hL.b3
  obtain ⟨k1, k9⟩ := hL.b1
  rcases ix_I a (nlA A) (by omega) with ⟨l, hl, rfl⟩ | hn
  · rcases ix_I b 2 (by omega) with ⟨w, hw, rfl⟩ | hn
    · refine ⟨if w = 0 then eS (elB (psd A (qA A) (eA A) l) (asA A) 384) else eC (elB (psd A (qA A) (eA A) l) (asA A) 384), fun T M h => ?_, fun T M h => ?_⟩
      · show Ok (fX11_ellipse T M x (nI l) (nI w)) _
        unfold fX11_ellipse
        rw [c_lane1 h hl, h.px.k0, gdI, Option.bind_some, if_pos rfl, i_1, rng1' (by omega) (by omega)]
        refine Ok.bd (c_look h hl) (fun p hq => ?_)
        obtain ⟨p1, M1⟩ := p
        obtain ⟨m1, f1, h1⟩ := hq
        have hp := h1.px
        obtain ⟨q, hq, hb⟩ := h1.lab
        simp only [gdI, gdT, Option.bind_some, lte, une2, une3, nI_add, gvI, cl_nI, c_le, c_lt, c_eq, Sum.elim_inl, Sum.elim_inr, hp.k0, hp.k8, hp.k15, hp.l15, hp.k16, hp.l16, hp.k17, hp.l17, hp.k18, hp.l18, hp.k19, hp.k20, hp.l20, hp.k21, hp.l21, hp.k22, hp.l22, hp.r0_0, hp.r0_2, hp.r0_3, hp.r0_4, hp.r0_5, hp.r0_6, hp.r0_7, hp.r0_9, hp.r0_10, hp.r0_13, hp.r8_1, hp.r8_2, hp.r8_4, hp.r8_5, hp.r19_0, hp.r19_1, hp.r19_2, hq, hb.k, hb.f5, hL.n1]
        refine Ok.bd (c_findEllipse hp (pm := psd A (qA A) (eA A) l) m1 k1 k9) (fun p hq => ?_)
        obtain ⟨p1, M2⟩ := p
        obtain ⟨e1, e2, _, f2⟩ := hq
        have h2 : CV x A T M2 := h1.fx f2 (fun a k q => by omega)
        have hp2 := h2.px
        have fin : GF x M M2 := f1.gf.trans (f2.hf (x := x) (fun a k q => by omega)).gf
        simp only [gdI, gdT, Option.bind_some, lte, une2, une3, nI_add, gvI, cl_nI, c_le, c_lt, c_eq, Sum.elim_inl, Sum.elim_inr, hp2.k0, hp2.k19, hp2.k20, hp2.l20, hp2.k21, hp2.l21, hp2.k22, hp2.l22, hp2.r0_0, hp2.r0_2, hp2.r0_3, hp2.r0_4, hp2.r0_5, hp2.r0_6, hp2.r0_7, hp2.r0_9, hp2.r0_10, hp2.r0_13, hp2.r19_0, hp2.r19_1, hp2.r19_2, e1, e2]
        rw [i_0, ite_eq (by omega) (by omega)]
        by_cases q : w = 0
        · rw [if_pos q, if_pos q]; exact ok_i ⟨rfl, fin, h2⟩
        · rw [if_neg q, if_neg q]; exact ok_i ⟨rfl, fin, h2⟩
      · have h0 := h.t0 (v := 0)
        show Ok (fX12_ellipse T M m (nI l) (nI w)) _
        unfold fX12_ellipse
        rw [h0.rm.k, gdI, lte, r_lane1 h0 hl, Option.bind_some, if_neg (by decide), L_0, L_1, r_in1 (by omega) (by omega) (by omega), Option.bind_some, if_neg (by decide)]
        refine Ok.bd (r_laysMapNow h0 hl) (fun p hq => ?_)
        obtain ⟨p1, M1⟩ := p
        obtain ⟨m1, f1, h1, d1⟩ := hq
        rw [une2]
        refine Ok.bd (r_laysEllipse h1 (pm := psd A (qA A) (eA A) l) m1 hL.n1 k1 k9) (fun p hq => ?_)
        obtain ⟨p1, M2⟩ := p
        obtain ⟨e1, e2, hB, f2⟩ := hq
        have fin : QF m M M2 := (((r_t0.wide (fun _ _ => nf_mf)).trans f1).qf (fun _ _ => mf_qf)).trans (f2.qf (fun _ _ => ef_qf))
        simp only [une2, e1]
        cases hel : elB (psd A (qA A) (eA A) l) (asA A) 384 with
        | none =>
          rw [if_pos (show eS none = (-1 : Int32) from rfl)]
          refine ok_i ⟨?_, fin⟩
          by_cases q : w = 0
          · rw [if_pos q]; rfl
          · rw [if_neg q]; rfl
        | some r =>
          rw [hel] at e2 hB
          have e2' := e2 (by simp)
          have hB1 : r.1 ≤ 3226 := hB.1
          rw [if_neg (show ¬ eS (some r) = (-1 : Int32) from i_ne1 _ (by omega)), e2', i_0, ite_eq (by omega) (by omega)]
          by_cases q : w = 0
          · rw [if_pos q, if_pos q]; exact ok_i ⟨rfl, fin⟩
          · rw [if_neg q, if_neg q]; exact ok_i ⟨rfl, fin⟩
    · refine ⟨-2, fun T M h => ?_, fun T M h => ?_⟩
      · show Ok (fX11_ellipse T M x (nI l) b) _
        unfold fX11_ellipse
        rw [c_lane1 h hl, h.px.k0, gdI, Option.bind_some, if_pos rfl, i_1, rng0' (by omega) hn]
        exact ok_i ⟨rfl, GF.rfl, h⟩
      · have h0 := h.t0 (v := 0)
        show Ok (fX12_ellipse T M m (nI l) b) _
        unfold fX12_ellipse
        rw [h0.rm.k, gdI, lte, r_lane1 h0 hl, Option.bind_some, if_neg (by decide), L_0, L_1, r_in0 (by omega) (by omega) (by omega), Option.bind_some, if_pos rfl]
        exact ok_i ⟨rfl, r_t0.qf (fun _ _ => nf_qf)⟩
  · refine ⟨-2, fun T M h => ?_, fun T M h => ?_⟩
    · show Ok (fX11_ellipse T M x a b) _
      unfold fX11_ellipse
      rw [c_lane0 h hn, h.px.k0, gdI, Option.bind_some, if_neg (by decide)]
      exact ok_i ⟨rfl, GF.rfl, h⟩
    · have h0 := h.t0 (v := 0)
      show Ok (fX12_ellipse T M m a b) _
      unfold fX12_ellipse
      rw [h0.rm.k, gdI, lte, r_lane0 h0 hn, Option.bind_some, if_pos rfl]
      exact ok_i ⟨rfl, r_t0.qf (fun _ _ => nf_qf)⟩
end
