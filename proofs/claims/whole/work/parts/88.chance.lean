/-! chances: the reference -/
theorem cg_at {L : Nat → Nat} {i d : Nat} : fb_sm (fun k => cgk k d * L k) i + (if d = i - 1 then L i else 0) + (if d = min (i + 1) 23 then L i else 0) = fb_sm (fun k => cgk k d * L k) (i + 1) := by
  have e : ∀ (p q : Prop) [Decidable p] [Decidable q] (y : Nat), (if p then y else 0) + (if q then y else 0) = ((if p then 1 else 0) + (if q then 1 else 0)) * y := by
    intro p q _ _ y
    by_cases hp : p
    · by_cases hq : q
      · rw [if_pos hp, if_pos hq, if_pos hp, if_pos hq]; omega
      · rw [if_pos hp, if_neg hq, if_pos hp, if_neg hq]; omega
    · by_cases hq : q
      · rw [if_neg hp, if_pos hq, if_neg hp, if_pos hq]; omega
      · rw [if_neg hp, if_neg hq, if_neg hp, if_neg hq]; omega
  rw [fb_sm_succ, Nat.add_assoc, e]
  rfl
section
variable {x m : Nat} {A : Nat → Int32} {T : Sh} {M M2 : Me}
theorem r_lotStep {l n i : Nat} {L : Nat → Nat} (hM : RM m T M) (hL : ∀ d, d < 24 → gJ M (m + 14) d = lN (L d)) (hi : i < n) (hn : n ≤ 6) : Ok (bX12_likelyOf_47 T m (nI l) (nI n) (nI i) M) (fun o => match o with
    | Sum.inl t => ∃ M', t = (nI (i + 1), M') ∧ (∀ d, d < 24 → gJ M' (m + 14) d = lN (fb_sm (fun k => cfk k d * L k) 24)) ∧ JF m 14 15 M M'
    | Sum.inr _ => False) := by
  unfold bX12_likelyOf_47
  rw [if_neg (by rw [c_le (by omega) (by omega)]; omega)]
  refine Ok.bd (ok_forF (s := ((0 : Int32), M)) 0 24 (fun k t => ∃ M', t = (nI k, M') ∧ (∀ d, d < k → gJ M' (m + 15) d = lN (8 * L d)) ∧ (∀ d, d < 24 → gJ M' (m + 14) d = lN (L d)) ∧ JF m 14 15 M M') (fun M' => (∀ d, d < 24 → gJ M' (m + 15) d = lN (8 * L d)) ∧ (∀ d, d < 24 → gJ M' (m + 14) d = lN (L d)) ∧ JF m 14 15 M M') ⟨M, rfl, fun d hd => absurd hd (by omega), hL, JF.rfl⟩ (by omega) (by omega) (fun k t _ hk hI => ?_) (fun t hI => ?_)) (fun M1 h1 => ?_)
  · obtain ⟨M', rfl, h8, hl, f⟩ := hI
    have hM' : RM m T M' := hM.fr (fun k => f.2.2 m k)
    show Ok (bX12_likelyOf_55 T m (nI l) (nI n) (nI i) (nI k) M') _
    unfold bX12_likelyOf_55
    rw [i_24, if_neg (by rw [c_le (by omega) (by omega)]; omega)]
    simp (disch := omega) only [gdI, gdT, Option.bind_some, lte, hM'.k, hM'.r14, hM'.k14, hM'.l14, hM'.r15, hM'.k15, hM'.l15, gvI, cl_nI, hl k hk, nI_1]
    rw [show (8 : Int64) = lN 8 from rfl, l_mul]
    refine ok_i ⟨_, rfl, fun d hd => ?_, fun d hd => (mJJn (by omega)).trans (hl d hd), f.pJ (by omega)⟩
    by_cases q : d = k
    · rw [q, mJJ1]
    · rw [mJJk q]; exact h8 d (by omega)
  · obtain ⟨M', rfl, h8, hl, f⟩ := hI
    show Ok (bX12_likelyOf_55 T m (nI l) (nI n) (nI i) (nI 24) M') _
    unfold bX12_likelyOf_55
    rw [i_24, if_pos (by decide)]
    exact ok_i ⟨h8, hl, f⟩
  obtain ⟨h8, hl1, f1⟩ := h1
  refine Ok.bd (ok_forF (s := ((0 : Int32), M1)) 0 24 (fun k t => ∃ M', t = (nI k, M') ∧ (∀ d, d < 24 → gJ M' (m + 15) d = lN (8 * L d + fb_sm (fun j => cgk j d * L j) k)) ∧ (∀ d, d < 24 → gJ M' (m + 14) d = lN (L d)) ∧ JF m 14 15 M M') (fun M' => (∀ d, d < 24 → gJ M' (m + 15) d = lN (fb_sm (fun j => cfk j d * L j) 24)) ∧ JF m 14 15 M M') ⟨M1, rfl, fun d hd => h8 d hd, hl1, f1⟩ (by omega) (by omega) (fun k t _ hk hI => ?_) (fun t hI => ?_)) (fun M2 h2 => ?_)
  · obtain ⟨M', rfl, hF, hl, f⟩ := hI
    have hM' : RM m T M' := hM.fr (fun k => f.2.2 m k)
    have hj : Ok (jX12_likelyOf_113 T M' m (nI l) (nI n) (nI i) (nI k) (nI (k - 1)) (m + 15)) (fun o => match o with
        | Sum.inl t => ∃ M', t = (nI (k + 1), M') ∧ (∀ d, d < 24 → gJ M' (m + 15) d = lN (8 * L d + fb_sm (fun j => cgk j d * L j) (k + 1))) ∧ (∀ d, d < 24 → gJ M' (m + 14) d = lN (L d)) ∧ JF m 14 15 M M'
        | Sum.inr _ => False) := by
      unfold jX12_likelyOf_113
      simp (disch := omega) only [gdI, gdT, Option.bind_some, lte, hM'.k, hM'.r14, hM'.k14, hM'.l14, hM'.r15, hM'.k15, hM'.l15, gvI, cl_nI, hl k hk, mRJ, mJJn, nI_1]
      have a1 := updJ (v := L k) hF (k := k - 1) (by omega)
      rw [hF (k - 1) (by omega), l_add]
      generalize hM1 : pJ M' (m + 15) (k - 1) (lN (8 * L (k - 1) + fb_sm (fun j => cgk j (k - 1) * L j) k + L k)) = M3 at *
      have g3 : JF m 14 15 M M3 := by rw [← hM1]; exact f.pJ (by omega)
      have hl3 : ∀ d, d < 24 → gJ M3 (m + 14) d = lN (L d) := fun d hd => by rw [← hM1, mJJn (by omega)]; exact hl d hd
      have fin : ∀ b, b = min (k + 1) 23 → ∃ M', ((nI (k + 1), pJ M3 (m + 15) b (gJ M3 (m + 15) b + lN (L k))) : Int32 × Me) = (nI (k + 1), M') ∧ (∀ d, d < 24 → gJ M' (m + 15) d = lN (8 * L d + fb_sm (fun j => cgk j d * L j) (k + 1))) ∧ (∀ d, d < 24 → gJ M' (m + 14) d = lN (L d)) ∧ JF m 14 15 M M' := by
        intro b hb
        have a2 := updJ (v := L k) a1 (k := b) (by omega)
        rw [a1 b (by omega), l_add]
        refine ⟨_, rfl, fun d hd => ?_, fun d hd => by rw [mJJn (by omega)]; exact hl3 d hd, g3.pJ (by omega)⟩
        rw [a2 d hd, ← cg_at, hb, Nat.add_assoc, Nat.add_assoc, Nat.add_assoc]
      rw [i_23, ite_le (by omega) (by omega)]
      by_cases q : 23 ≤ k
      · rw [if_pos q]; exact ok_i (fin k (by omega))
      · rw [if_neg q, gvI (by omega) (by omega), gvI (by omega) (by omega)]; exact ok_i (fin (k + 1) (by omega))
    have hj2 := hj.mono (Q := fun o => match o with
        | Sum.inl t => ∃ M', t = (nI (k + 1), M') ∧ (∀ d, d < 24 → gJ M' (m + 15) d = lN (8 * L d + fb_sm (fun j => cgk j d * L j) (k + 1))) ∧ (∀ d, d < 24 → gJ M' (m + 14) d = lN (L d)) ∧ JF m 14 15 M M'
        | Sum.inr _ => False) (fun o ho => ho)
    show Ok (bX12_likelyOf_89 T m (nI l) (nI n) (nI i) (nI k) M') _
    unfold bX12_likelyOf_89
    rw [i_24, if_neg (by rw [c_le (by omega) (by omega)]; omega), hM'.k, gdI, hM'.r15, Option.bind_some]
    rcases Nat.eq_zero_or_pos k with q | q
    · subst q
      rw [if_pos (by decide)]
      exact hj.mono (fun o ho => by
        cases o with
        | inl t => exact ho
        | inr t => exact ho.elim)
    · rw [if_neg (by rw [i_0, c_le (by omega) (by omega)]; omega), i_1, c_sub q]
      exact hj.mono (fun o ho => by
        cases o with
        | inl t => exact ho
        | inr t => exact ho.elim)
  · obtain ⟨M', rfl, hF, hl, f⟩ := hI
    show Ok (bX12_likelyOf_89 T m (nI l) (nI n) (nI i) (nI 24) M') _
    unfold bX12_likelyOf_89
    rw [i_24, if_pos (by decide)]
    exact ok_i ⟨fun d hd => by rw [hF d hd, cf_sum L hd], f⟩
  obtain ⟨hF2, f2⟩ := h2
  refine Ok.bd (ok_forF (s := ((0 : Int32), M2)) 0 24 (fun k t => ∃ M', t = (nI k, M') ∧ (∀ d, d < 24 → gJ M' (m + 15) d = lN (fb_sm (fun j => cfk j d * L j) 24)) ∧ (∀ d, d < k → gJ M' (m + 14) d = lN (fb_sm (fun j => cfk j d * L j) 24)) ∧ JF m 14 15 M M') (fun M' => (∀ d, d < 24 → gJ M' (m + 14) d = lN (fb_sm (fun j => cfk j d * L j) 24)) ∧ JF m 14 15 M M') ⟨M2, rfl, hF2, fun d hd => absurd hd (by omega), f2⟩ (by omega) (by omega) (fun k t _ hk hI => ?_) (fun t hI => ?_)) (fun M3 h3 => ?_)
  · obtain ⟨M', rfl, hF, hl, f⟩ := hI
    have hM' : RM m T M' := hM.fr (fun k => f.2.2 m k)
    show Ok (bX12_likelyOf_164 T m (nI l) (nI n) (nI i) (nI k) M') _
    unfold bX12_likelyOf_164
    rw [i_24, if_neg (by rw [c_le (by omega) (by omega)]; omega)]
    simp (disch := omega) only [gdI, gdT, Option.bind_some, lte, hM'.k, hM'.r14, hM'.k14, hM'.l14, hM'.r15, hM'.k15, hM'.l15, gvI, cl_nI, hF k hk, nI_1]
    refine ok_i ⟨_, rfl, fun d hd => (mJJn (by omega)).trans (hF d hd), fun d hd => ?_, f.pJ (by omega)⟩
    by_cases q : d = k
    · rw [q, mJJ1]
    · rw [mJJk q]; exact hl d (by omega)
  · obtain ⟨M', rfl, hF, hl, f⟩ := hI
    show Ok (bX12_likelyOf_164 T m (nI l) (nI n) (nI i) (nI 24) M') _
    unfold bX12_likelyOf_164
    rw [i_24, if_pos (by decide)]
    exact ok_i ⟨hl, f⟩
  · rw [lte, nI_1]
    exact ok_i ⟨M3, rfl, h3.1, h3.2⟩
theorem r_likelyOf {l n : Nat} (h : RV m A T M) (hl : l < nlA A) (hn : n ≤ 6) : Ok (fX12_likelyOf T M m (nI l) (nI n)) (fun p => p.1 = lN (lts A n l) ∧ QF m M p.2) := by
  have hM := h.rm
  have h6 := h.lv.b3
  have hS := h.sv
  have hpt := hS.ptb (l := l) (by omega)
  unfold fX12_likelyOf
  rw [hM.k, gdI]
  refine Ok.bd (r_laysNow h) (fun p hq => ?_)
  obtain ⟨p1, M1⟩ := p
  obtain ⟨d1, f1, h1⟩ := hq
  rw [une2]
  refine Ok.bd (ok_forF (s := ((0 : Int32), M1)) 0 24 (fun k t => ∃ M', t = (nI k, M') ∧ (∀ d, d < k → gJ M' (m + 14) d = lN (lk (ptA A l % 24) 0 d)) ∧ JF m 14 15 M1 M') (fun M' => (∀ d, d < 24 → gJ M' (m + 14) d = lN (lk (ptA A l % 24) 0 d)) ∧ JF m 14 15 M1 M') ⟨M1, rfl, fun d hd => absurd hd (by omega), JF.rfl⟩ (by omega) (by omega) (fun k t _ hk hI => ?_) (fun t hI => ?_)) (fun M2 h2 => ?_)
  · obtain ⟨M', rfl, hw, f⟩ := hI
    have h' : RV m A T M' := h1.qf (f.qf (by omega) (by omega))
    have hM' := h'.rm
    show Ok (bX12_likelyOf_6 T m (nI l) (nI n) (nI k) M') _
    unfold bX12_likelyOf_6
    rw [i_24, if_neg (by rw [c_le (by omega) (by omega)]; omega)]
    simp (disch := omega) only [gdI, gdT, Option.bind_some, lte, une2, une3, nI_add, gvI, cl_nI, c_le, c_lt, c_eq, Sum.elim_inl, Sum.elim_inr, hM'.k, hM'.r1, hM'.k1, hM'.l1, hM'.r14, hM'.k14, hM'.l14, i_42, h'.al, hS.pt (l := l) (by omega), c_rem, nI_1]
    have fin : ∀ v, lN (lk (ptA A l % 24) 0 k) = v → ∃ M2, ((nI (k + 1), pJ M' (m + 14) k v) : Int32 × Me) = (nI (k + 1), M2) ∧ (∀ d, d < k + 1 → gJ M2 (m + 14) d = lN (lk (ptA A l % 24) 0 d)) ∧ JF m 14 15 M1 M2 := fun v hv => ⟨_, rfl, fun d hd => by
      by_cases q : d = k
      · rw [q, mJJ1, hv]
      · rw [mJJk q]; exact hw d (by omega), f.pJ (by omega)⟩
    by_cases q : k = ptA A l % 24
    · rw [if_pos q]; exact ok_i (fin _ (by show lN (if k = ptA A l % 24 then 1 else 0) = _; rw [if_pos q]; rfl))
    · rw [if_neg q]; exact ok_i (fin _ (by show lN (if k = ptA A l % 24 then 1 else 0) = _; rw [if_neg q]; rfl))
  · obtain ⟨M', rfl, hw, f⟩ := hI
    show Ok (bX12_likelyOf_6 T m (nI l) (nI n) (nI 24) M') _
    unfold bX12_likelyOf_6
    rw [i_24, if_pos (by decide)]
    exact ok_i ⟨hw, f⟩
  obtain ⟨hw2, f2⟩ := h2
  refine Ok.bd (ok_forF (s := ((0 : Int32), M2)) 0 n (fun i t => ∃ M', t = (nI i, M') ∧ (∀ d, d < 24 → gJ M' (m + 14) d = lN (lk (ptA A l % 24) i d)) ∧ JF m 14 15 M1 M') (fun M' => (∀ d, d < 24 → gJ M' (m + 14) d = lN (lk (ptA A l % 24) n d)) ∧ JF m 14 15 M1 M') ⟨M2, rfl, hw2, f2⟩ (by omega) (by omega) (fun i t _ hi hI => ?_) (fun t hI => ?_)) (fun M3 h3 => ?_)
  · obtain ⟨M', rfl, hw, f⟩ := hI
    have hM' : RM m T M' := h1.rm.fr (fun k => f.2.2 m k)
    refine (r_lotStep hM' hw hi hn).mono (fun o ho => ?_)
    cases o with
    | inl t =>
      obtain ⟨M4, rfl, g1, g2⟩ := ho
      exact ⟨M4, rfl, g1, f.trans g2⟩
    | inr t => exact ho.elim
  · obtain ⟨M', rfl, hw, f⟩ := hI
    show Ok (bX12_likelyOf_47 T m (nI l) (nI n) (nI n) M') _
    unfold bX12_likelyOf_47
    rw [if_pos (by rw [c_le (by omega) (by omega)]; omega)]
    exact ok_i ⟨hw, f⟩
  obtain ⟨hw3, f3⟩ := h3
  have h3 : RV m A T M3 := h1.qf (f3.qf (by omega) (by omega))
  have hM3 := h3.rm
  have d3 : RD m A (qA A) (eA A) M3 := ⟨(f3.1 _ _).trans d1.1, (f3.1 _ _).trans d1.2⟩
  simp (disch := omega) only [gdI, gdT, Option.bind_some, lte, une2, une3, nI_add, gvI, cl_nI, c_le, c_lt, c_eq, Sum.elim_inl, Sum.elim_inr, hM3.k, hM3.r1, hM3.k1, hM3.l1, i_42, i_24, h3.al, hS.pt (l := l) (by omega), c_div]
  refine Ok.bd (r_rowOf h3 d3 hl (by omega)) (fun p hq => ?_)
  obtain ⟨p1, M4⟩ := p
  obtain ⟨rfl, f4⟩ := hq
  have hM4 : RM m T M4 := hM3.fr (fun k => f4.2.2 m k (by omega))
  have hw4 : ∀ d, d < 24 → gJ M4 (m + 14) d = lN (lk (ptA A l % 24) n d) := fun d hd => (f4.2.1 _ _ (by omega)).trans (hw3 d hd)
  rw [une2]
  have key : lp FU (fun s => bX12_likelyOf_221 T M4 m (rwA A (qA A) (eA A) l (ptA A l / 24)) s.1 s.2) ((0 : Int64), (0 : Int32)) = some (lN (lts A n l)) := by
    refine lp_itG (fun i => (lN (ssm (mpA A l (ptA A l / 24)) (lk (ptA A l % 24) n) i), nI i)) 24 _ rfl (by omega) (fun i hi => ?_) ?_
    · show bX12_likelyOf_221 T M4 m (mpA A l (ptA A l / 24)) (lN (ssm (mpA A l (ptA A l / 24)) (lk (ptA A l % 24) n) i)) (nI i) = _
      unfold bX12_likelyOf_221
      rw [i_24, if_neg (by rw [c_le (by omega) (by omega)]; omega), isIn_at _ (by omega)]
      simp (disch := omega) only [gdI, gdT, Option.bind_some, lte, hM4.k, hM4.r14, hM4.k14, hM4.l14, gvI, cl_nI, hw4 i hi, nI_1]
      rw [show ssm (mpA A l (ptA A l / 24)) (lk (ptA A l % 24) n) (i + 1) = ssm (mpA A l (ptA A l / 24)) (lk (ptA A l % 24) n) i + (if bt (mpA A l (ptA A l / 24)) i = true then lk (ptA A l % 24) n i else 0) from rfl]
      cases bt (mpA A l (ptA A l / 24)) i
      · rw [if_pos (b2_ne.mpr rfl), if_neg (by decide), L_0, l_add]
      · rw [if_neg (fun z => absurd (b2_ne.mp z) (by decide)), if_pos rfl, l_add]
    · show bX12_likelyOf_221 T M4 m _ _ (nI 24) = _
      unfold bX12_likelyOf_221
      rw [i_24, if_pos (by decide)]; rfl
  rw [key, Option.bind_some]
  exact ok_i ⟨rfl, ((f1.qf (fun _ _ => nf_qf)).trans (f3.qf (by omega) (by omega))).trans (f4.qf (fun _ _ => wf_qf))⟩
theorem q_chance (hL : LV A) (hS : SV A) (a b c : Int32) : QQ x m A (fun T M => fX11_chance T M x a b c) (fun T M => fX12_chance T M m a b c) := by
  have h6 := hL.b3
  rcases ix_I a (nlA A) (by omega) with ⟨l, hl, rfl⟩ | hn
  · rcases ix_I c 2 (by omega) with ⟨w, hw, rfl⟩ | hn
    · rcases ix_I b 7 (by omega) with ⟨n, hn, rfl⟩ | hn
      · have hb := lts_b (A := A) (l := l) (show n ≤ 6 by omega)
        refine ⟨nI (prt (lts A n l) n w), fun T M h => ?_, fun T M h => ?_⟩
        · show Ok (fX11_chance T M x (nI l) (nI n) (nI w)) _
          unfold fX11_chance
          rw [c_lane1 h hl, h.px.k0, gdI, Option.bind_some, if_pos rfl, i_1, rng1' (by omega) (by omega), i_6, rng1' (by omega) (by omega)]
          refine Ok.bd (c_passingLots h hl (by omega)) (fun p hq => ?_)
          obtain ⟨p1, M1⟩ := p
          obtain ⟨rfl, f1, h1⟩ := hq
          rw [une2, c_lowestTerms (by omega) (by omega) hw]
          exact ok_i ⟨rfl, f1, h1⟩
        · have h0 := h.t0 (v := 0)
          show Ok (fX12_chance T M m (nI l) (nI n) (nI w)) _
          unfold fX12_chance
          rw [h0.rm.k, gdI, lte, r_lane1 h0 hl, Option.bind_some, if_neg (by decide), L_0, L_1, r_in1 (by omega) (by omega) (by omega), Option.bind_some, if_neg (by decide), show (6 : Int64) = lN 6 from rfl, r_in1 (by omega) (by omega) (by omega), Option.bind_some, if_neg (by decide)]
          refine Ok.bd (r_likelyOf h0 hl (by omega)) (fun p hq => ?_)
          obtain ⟨p1, M1⟩ := p
          obtain ⟨rfl, f1⟩ := hq
          rw [une2, r_wholeOf (by omega), Option.bind_some, r_part (by omega) (by omega) hw]
          exact ok_i ⟨rfl, (r_t0.qf (fun _ _ => nf_qf)).trans f1⟩
      · refine ⟨-3, fun T M h => ?_, fun T M h => ?_⟩
        · show Ok (fX11_chance T M x (nI l) b (nI w)) _
          unfold fX11_chance
          rw [c_lane1 h hl, h.px.k0, gdI, Option.bind_some, if_pos rfl, i_1, rng1' (by omega) (by omega), i_6, rng0' (by omega) hn]
          exact ok_i ⟨rfl, GF.rfl, h⟩
        · have h0 := h.t0 (v := 0)
          show Ok (fX12_chance T M m (nI l) b (nI w)) _
          unfold fX12_chance
          rw [h0.rm.k, gdI, lte, r_lane1 h0 hl, Option.bind_some, if_neg (by decide), L_0, L_1, r_in1 (by omega) (by omega) (by omega), Option.bind_some, if_neg (by decide), show (6 : Int64) = lN 6 from rfl, r_in0 (by omega) (by omega) (by omega), Option.bind_some, if_pos rfl]
          exact ok_i ⟨rfl, r_t0.qf (fun _ _ => nf_qf)⟩
    · refine ⟨-2, fun T M h => ?_, fun T M h => ?_⟩
      · show Ok (fX11_chance T M x (nI l) b c) _
        unfold fX11_chance
        rw [c_lane1 h hl, h.px.k0, gdI, Option.bind_some, if_pos rfl, i_1, rng0' (by omega) hn]
        exact ok_i ⟨rfl, GF.rfl, h⟩
      · have h0 := h.t0 (v := 0)
        show Ok (fX12_chance T M m (nI l) b c) _
        unfold fX12_chance
        rw [h0.rm.k, gdI, lte, r_lane1 h0 hl, Option.bind_some, if_neg (by decide), L_0, L_1, r_in0 (by omega) (by omega) (by omega), Option.bind_some, if_pos rfl]
        exact ok_i ⟨rfl, r_t0.qf (fun _ _ => nf_qf)⟩
  · refine ⟨-2, fun T M h => ?_, fun T M h => ?_⟩
    · show Ok (fX11_chance T M x a b c) _
      unfold fX11_chance
      rw [c_lane0 h hn, h.px.k0, gdI, Option.bind_some, if_neg (by decide)]
      exact ok_i ⟨rfl, GF.rfl, h⟩
    · have h0 := h.t0 (v := 0)
      show Ok (fX12_chance T M m a b c) _
      unfold fX12_chance
      rw [h0.rm.k, gdI, lte, r_lane0 h0 hn, Option.bind_some, if_pos rfl]
      exact ok_i ⟨rfl, r_t0.qf (fun _ _ => nf_qf)⟩
def ltS (A : Nat → Int32) (n i : Nat) : Nat := fb_sm (lts A n) i
theorem ltS_b {n i : Nat} (hn : n ≤ 6) (hi : i ≤ 6) : ltS A n i ≤ 144000000 := by
  have h1 : fb_sm (lts A n) i ≤ i * 24000000 := fb_sm_bound (fun k _ => lts_b hn)
  have : i * 24000000 ≤ 6 * 24000000 := Nat.mul_le_mul_right _ hi
  unfold ltS; omega
theorem q_mean (hL : LV A) (hS : SV A) (a b : Int32) : QQ x m A (fun T M => fX11_mean T M x a b) (fun T M => fX12_mean T M m a b) := by
  have h6 := hL.b3
  rcases ix_I b 2 (by omega) with ⟨w, hw, rfl⟩ | hn
  · rcases ix_I a 7 (by omega) with ⟨n, hn, rfl⟩ | hn
    · have hb := ltS_b (A := A) (i := nlA A) (show n ≤ 6 by omega) h6
      refine ⟨nI (prt (ltS A n (nlA A)) n w), fun T M h => ?_, fun T M h => ?_⟩
      · show Ok (fX11_mean T M x (nI n) (nI w)) _
        unfold fX11_mean
        rw [i_1, rng1' (by omega) (by omega), i_6, rng1' (by omega) (by omega)]
        refine Ok.bd (ok_forF (s := ((0 : Int32), (0 : Int32), M)) 0 (nlA A) (fun i s => ∃ M', s = (nI (ltS A n i), nI i, M') ∧ GF x M M' ∧ CV x A T M') (fun r => ∃ M', r = (nI (ltS A n (nlA A)), M') ∧ GF x M M' ∧ CV x A T M') ⟨M, rfl, GF.rfl, h⟩ (by omega) (by omega) (fun i s _ hi hI => ?_) (fun s hI => ?_)) (fun r hr => ?_)
        · obtain ⟨M', rfl, f, h'⟩ := hI
          have hp' := h'.px
          obtain ⟨q, hq, hlb⟩ := h'.lab
          show Ok (bX11_mean_30 T x (nI n) (nI w) (nI (ltS A n i)) (nI i) M') _
          unfold bX11_mean_30
          simp (disch := omega) only [gdI, gdT, Option.bind_some, lte, une2, une3, nI_add, gvI, cl_nI, c_le, c_lt, c_eq, Sum.elim_inl, Sum.elim_inr, hp'.k0, hp'.k8, hp'.k15, hp'.l15, hp'.k16, hp'.l16, hp'.k17, hp'.l17, hp'.k18, hp'.l18, hp'.r0_0, hp'.r0_2, hp'.r0_3, hp'.r0_4, hp'.r0_5, hp'.r0_6, hp'.r0_7, hp'.r0_9, hp'.r0_10, hp'.r0_13, hp'.r8_1, hp'.r8_2, hp'.r8_4, hp'.r8_5, hq, hlb.k, hlb.f7, hL.n3, Nat.not_le.mpr hi, if_false]
          refine Ok.bd (c_passingLots h' hi (by omega)) (fun p hq => ?_)
          obtain ⟨p1, M2⟩ := p
          obtain ⟨rfl, f2, h2⟩ := hq
          rw [une2, nI_add, nI_1]
          exact ok_i ⟨M2, rfl, f.trans f2, h2⟩
        · obtain ⟨M', rfl, f, h'⟩ := hI
          have hp' := h'.px
          obtain ⟨q, hq, hlb⟩ := h'.lab
          show Ok (bX11_mean_30 T x (nI n) (nI w) _ (nI (nlA A)) M') _
          unfold bX11_mean_30
          simp (disch := omega) only [gdI, gdT, Option.bind_some, lte, une2, une3, nI_add, gvI, cl_nI, c_le, c_lt, c_eq, Sum.elim_inl, Sum.elim_inr, hp'.k0, hp'.k8, hp'.k15, hp'.l15, hp'.k16, hp'.l16, hp'.k17, hp'.l17, hp'.k18, hp'.l18, hp'.r0_0, hp'.r0_2, hp'.r0_3, hp'.r0_4, hp'.r0_5, hp'.r0_6, hp'.r0_7, hp'.r0_9, hp'.r0_10, hp'.r0_13, hp'.r8_1, hp'.r8_2, hp'.r8_4, hp'.r8_5, hq, hlb.k, hlb.f7, hL.n3, Nat.le_refl, if_true]
          exact ok_i ⟨M', rfl, f, h'⟩
        · obtain ⟨M', rfl, f, h'⟩ := hr
          rw [une2, c_lowestTerms (by omega) (by omega) hw]
          exact ok_i ⟨rfl, f, h'⟩
      · have h0 := h.t0 (v := 0)
        show Ok (fX12_mean T M m (nI n) (nI w)) _
        unfold fX12_mean
        rw [h0.rm.k, gdI, lte, L_0, L_1, r_in1 (by omega) (by omega) (by omega), Option.bind_some, if_neg (by decide), show (6 : Int64) = lN 6 from rfl, r_in1 (by omega) (by omega) (by omega), Option.bind_some, if_neg (by decide)]
        refine Ok.bd (ok_forF (s := (lN 0, (0 : Int32), pI M m 0 0)) 0 (nlA A) (fun i s => ∃ M', s = (lN (ltS A n i), nI i, M') ∧ QF m M M' ∧ RV m A T M') (fun r => ∃ M', r = (lN (ltS A n (nlA A)), M') ∧ QF m M M') ⟨_, rfl, r_t0.qf (fun _ _ => nf_qf), h0⟩ (by omega) (by omega) (fun i s _ hi hI => ?_) (fun s hI => ?_)) (fun r hr => ?_)
        · obtain ⟨M', rfl, f, h'⟩ := hI
          have hM' := h'.rm
          show Ok (bX12_mean_38 T m (nI n) (nI w) (lN (ltS A n i)) (nI i) M') _
          unfold bX12_mean_38
          simp (disch := omega) only [gdI, gdT, Option.bind_some, lte, une2, une3, nI_add, gvI, cl_nI, c_le, c_lt, c_eq, Sum.elim_inl, Sum.elim_inr, hM'.k, hM'.r1, hM'.k1, hM'.l1, i_3, h'.al, hL.n3, Nat.not_le.mpr hi, if_false]
          refine Ok.bd (r_likelyOf h' hi (by omega)) (fun p hq => ?_)
          obtain ⟨p1, M2⟩ := p
          obtain ⟨rfl, f2⟩ := hq
          rw [une2, l_add, nI_1]
          exact ok_i ⟨M2, rfl, f.trans f2, h'.qf f2⟩
        · obtain ⟨M', rfl, f, h'⟩ := hI
          have hM' := h'.rm
          show Ok (bX12_mean_38 T m (nI n) (nI w) _ (nI (nlA A)) M') _
          unfold bX12_mean_38
          simp (disch := omega) only [gdI, gdT, Option.bind_some, lte, une2, une3, nI_add, gvI, cl_nI, c_le, c_lt, c_eq, Sum.elim_inl, Sum.elim_inr, hM'.k, hM'.r1, hM'.k1, hM'.l1, i_3, h'.al, hL.n3, Nat.le_refl, if_true]
          exact ok_i ⟨M', rfl, f⟩
        · obtain ⟨M', rfl, f⟩ := hr
          rw [une2, r_wholeOf (by omega), Option.bind_some, r_part (by omega) (by omega) hw]
          exact ok_i ⟨rfl, f⟩
    · refine ⟨-3, fun T M h => ?_, fun T M h => ?_⟩
      · show Ok (fX11_mean T M x a (nI w)) _
        unfold fX11_mean
        rw [i_1, rng1' (by omega) (by omega), i_6, rng0' (by omega) hn]
        exact ok_i ⟨rfl, GF.rfl, h⟩
      · have h0 := h.t0 (v := 0)
        show Ok (fX12_mean T M m a (nI w)) _
        unfold fX12_mean
        rw [h0.rm.k, gdI, lte, L_0, L_1, r_in1 (by omega) (by omega) (by omega), Option.bind_some, if_neg (by decide), show (6 : Int64) = lN 6 from rfl, r_in0 (by omega) (by omega) (by omega), Option.bind_some, if_pos rfl]
        exact ok_i ⟨rfl, r_t0.qf (fun _ _ => nf_qf)⟩
  · refine ⟨-2, fun T M h => ?_, fun T M h => ?_⟩
    · show Ok (fX11_mean T M x a b) _
      unfold fX11_mean
      rw [i_1, rng0' (by omega) hn]
      exact ok_i ⟨rfl, GF.rfl, h⟩
    · have h0 := h.t0 (v := 0)
      show Ok (fX12_mean T M m a b) _
      unfold fX12_mean
      rw [h0.rm.k, gdI, lte, L_0, L_1, r_in0 (by omega) (by omega) (by omega), Option.bind_some, if_pos rfl]
      exact ok_i ⟨rfl, r_t0.qf (fun _ _ => nf_qf)⟩
end
