section
variable {x m n N lw i o q d a l : Nat} {b : Nat → Nat} {sp u : Int32} {T : Sh} {M M1 M2 : Me} {F : Nat → Int32}
theorem JEq.trm {tr tr2 : Prop} {Q : Nat} {fc fr : Sh → Me → Option (Unit × Me)} (h : JEq x m n N b lw sp tr Q d fc fr) (ht : tr2 → tr) : JEq x m n N b lw sp tr2 Q d fc fr := by
  intro i o u hi ho
  rcases h i o u hi ho with ⟨i2, cc, rc, u2, v, ⟨s1, s2, s3, s4, s5, s6, s7, s8, s9⟩, hc, hr⟩ | hF
  · exact Or.inl ⟨i2, cc, rc, u2, v, ⟨s1, s2, s3, s4, s5, s6, s7, s8, fun z => s9 (ht z)⟩, hc, hr⟩
  · exact Or.inr hF
theorem j_lawE (hN : N ≤ 900) (hT : TN n b N) (hlw : lw < 3) : JEq x m n N b lw (spO lw) (lw < 2) 22 0 (FCq x 100 (wlw lw) 0) (FRq m 100 (wlw lw) 0) := by
  have h := j_all (x := x) (m := m) (sp := spO lw) hN hT hlw rfl 6 0 rfl 100 100 (by omega) (by omega)
  by_cases z : lw = 2
  · have e : wlw lw = 3 := if_pos z
    rw [e]
    exact (h.2.1.upQ (by omega)).trm (fun y => by omega)
  · have e : wlw lw = 0 := if_neg z
    rw [e]
    exact h.1.trm (fun _ => trivial)
theorem CBq.old {T2 : Sh} (h : CBq x n N b T i M) (hT : TE T T2) (ht : x + 88 ≤ tp T) (e : ∀ c k, c < tp T → gI M2 c k = gI M c k ∧ gJ M2 c k = gJ M c k ∧ gR M2 c k = gR M c k) : CBq x n N b T2 i M2 := ⟨h.1.old hT (by omega) (fun c k hc => (e c k hc).2.2), fun j hj => ⟨(e _ _ (by omega)).1.trans (h.2.1 j hj).1, (e _ _ (by omega)).1.trans (h.2.1 j hj).2.1, fun z => (e _ _ (by omega)).1.trans ((h.2.1 j hj).2.2 z)⟩, (e _ _ (by omega)).1.trans h.2.2.1, (e _ _ (by omega)).1.trans h.2.2.2.1, h.2.2.2.2.1, h.2.2.2.2.2.1, h.2.2.2.2.2.2.1, (e _ _ (by omega)).1.trans h.2.2.2.2.2.2.2⟩
theorem CFl.old {T2 : Sh} {fk fp : Nat} (h : CFl x T fk fp M) (hT : TE T T2) (ht : x + 88 ≤ tp T) (e : ∀ c k, c < tp T → gI M2 c k = gI M c k ∧ gJ M2 c k = gJ M c k ∧ gR M2 c k = gR M c k) : CFl x T2 fk fp M2 := ⟨h.1.old hT (by omega) (fun c k hc => (e c k hc).2.2), (e _ _ (by omega)).1.trans h.2.1, (e _ _ (by omega)).1.trans h.2.2.1, h.2.2.2⟩
theorem j_law (hN : N ≤ 900) (hT : TN n b N) (hlw : lw < 3) (hi : i ≤ N) (h6 : 6 ≤ i) (hk : tK b n i = 9 + lw) : LPq x m n N b lw i := by
  have lt0 := hT.lt hi (by omega) (by omega)
  have esp : (spO lw = (32 : Int32)) = (lw = 2) := by
    rcases (by omega : lw = 0 ∨ lw = 1 ∨ lw = 2) with rfl | rfl | rfl <;> decide
  -- the class behind the colon
  have cTail : ∀ T M3, PX x T M3 → (lt (pI M3 (x + 2) 6 (spO lw)) fun M4 => lt (pI M4 (x + 2) 7 (0 : Int32)) fun M5 => lt (pI M5 (x + 2) 5 (0 : Int32)) fun M6 => if spO lw = (32 : Int32) then (Option.bind (fG6 100 3 T M6 (x + 2) (0 : Int32)) <| un2 fun _u M16 => jX6_readLaw_53 (nT T 3 0 2) (nM T M16) (x + 2) (tp T)) else (Option.bind (fG6 100 0 T M6 (x + 2) (0 : Int32)) <| un2 fun _u M8 => jX6_readLaw_53 (nT T 3 0 2) (nM T M8) (x + 2) (tp T))) = Option.bind (FCq x 100 (wlw lw) 0 T (pI (pI (pI M3 (x + 2) 6 (spO lw)) (x + 2) 7 0) (x + 2) 5 0)) (un2 fun _u M8 => jX6_readLaw_53 (nT T 3 0 2) (nM T M8) (x + 2) (tp T)) := by
    intro T M3 _
    rw [lte, lte, lte]
    by_cases z : lw = 2
    · rw [if_pos (by rw [esp]; exact z)]
      have e : wlw lw = 3 := if_pos z
      rw [e]; rfl
    · rw [if_neg (by rw [esp]; exact z)]
      have e : wlw lw = 0 := if_neg z
      rw [e]; rfl
  have c6 : ∀ (T : Sh) (M3 : Me), RG x (tp T) M3 (pI (pI (pI M3 (x + 2) 6 (spO lw)) (x + 2) 7 0) (x + 2) 5 0) := fun T M3 => ((RG.rfl.pI (Or.inr ⟨by omega, by omega⟩)).pI (Or.inr ⟨by omega, by omega⟩)).pI (Or.inr ⟨by omega, by omega⟩)
  by_cases h31 : tK b n (i + 1) = 31
  rotate_left
  · refine Or.inr ⟨fkd n b (i + 1) 2, i + 1, by omega, fun T M hM ht => ?_, fun T M q hM hq h6q hz => ?_⟩
    · obtain ⟨a1, a2⟩ := k_next hM (by omega) (by omega)
      unfold fX6_readLaw
      rw [hM.1.k2, gdI, lte]
      generalize pI M (x + 2) 1 (gI M (x + 2) 1 + 1) = M2 at a1 a2
      refine Ok.bd (k_expect0 (k := 31) (kk := 58) a1 rfl (by unfold vk; omega) h31) (fun p hp => ?_)
      obtain ⟨p1, M3⟩ := p
      obtain ⟨h3, f3, _⟩ := hp
      have h3 : CFl x T (fkd n b (i + 1) 2) (tP b n (i + 1)) M3 := h3
      have f3 : LFr x M2 M3 := f3
      rw [une2, cTail T M3 h3.1]
      have hM6 : CFl x T (fkd n b (i + 1) 2) (tP b n (i + 1)) (pI (pI (pI M3 (x + 2) 6 (spO lw)) (x + 2) 7 0) (x + 2) 5 0) := ⟨h3.1.eq rfl, by rw [mIIk (by omega), mIIk (by omega), mIIk (by omega)]; exact h3.2.1, by rw [mIIk (by omega), mIIk (by omega), mIIk (by omega)]; exact h3.2.2.1, h3.2.2.2⟩
      have g5 : gI (pI (pI (pI M3 (x + 2) 6 (spO lw)) (x + 2) 7 0) (x + 2) 5 0) (x + 2) 5 = nI 0 := mII1
      have rg : RG x (tp T) M (pI (pI (pI M3 (x + 2) 6 (spO lw)) (x + 2) 7 0) (x + 2) 5 0) := ((a2.trans f3).rg (t := tp T)).trans (c6 T M3) (Nat.le_refl _)
      generalize pI (pI (pI M3 (x + 2) 6 (spO lw)) (x + 2) 7 0) (x + 2) 5 0 = M6 at hM6 g5 rg
      have eF : FCq x 100 (wlw lw) 0 T M6 = some ((), M6) := by
        by_cases z : lw = 2
        · have e : wlw lw = 3 := if_pos z
          rw [e]; exact g6F_3 (k := 97) hM6.1 hM6.ne
        · have e : wlw lw = 0 := if_neg z
          rw [e]; exact g6F_0 (k := 94) hM6.1 hM6.ne
      rw [eF, Option.bind_some, une2]
      refine (c_lawt hM6.1 ht g5 (by omega) rfl).mono (fun p hp => ?_)
      obtain ⟨p1, T2, M7⟩ := p
      obtain ⟨q1, q2, q3, _⟩ := hp
      have q2 : T2 = nT (nT T 3 0 2) 13 0 0 := q2
      have hTE : TE T T2 := by rw [q2]; exact TE.new.trans TE.new
      exact ⟨q1, ⟨0, by omega, q2⟩, hM6.old hTE ht q3, rg.trans ⟨fun c k w1 w2 => (q3 c k w1).1, fun c k w1 => (q3 c k w1).2⟩ (Nat.le_refl _)⟩
    · unfold fX12_readLaw
      rw [hM.1.1.k, gdI]
      refine Ok.bd (r_next hM (by omega) (by omega)) (fun p hp => ?_)
      obtain ⟨p1, M2⟩ := p
      obtain ⟨h2, f2⟩ := hp
      have h2 : RBq m n N b T (i + 1) M2 := h2
      have f2 : FI m (tq m) M M2 := f2
      rw [une2, r_eats0 h2 i_31 (by omega) h31, Option.bind_some, une2, if_pos rfl, i_2]
      refine Ok.bd (r_failsh h2 (by omega) (by omega)) (fun p hp => ?_)
      obtain ⟨p1, M3⟩ := p
      obtain ⟨h3, f3⟩ := hp
      have h3 : RFl m T (fkd n b (i + 1) 2) (tP b n (i + 1)) M3 := h3
      have f3 : FI m (rh m) M2 M3 := f3
      have h4 : RFl m T (fkd n b (i + 1) 2) (tP b n (i + 1)) (pI M3 m 15 (nI lw)) := ⟨h3.1.fr (fun _ => rfl), (mIIk (by omega)).trans h3.2.1, (mIIk (by omega)).trans h3.2.2.1, h3.2.2.2⟩
      have f4 : FI m (fun c k => rl m c k ∨ c = m ∧ k = 15) M (pI M3 m 15 (nI lw)) := ((f2.wide (fun a k z => Or.inl (Or.inl (rh_tq z)))).trans (f3.wide (fun a k z => Or.inl (Or.inl z)))).pI (Or.inr ⟨rfl, rfl⟩)
      rw [une2]
      unfold jX12_readLaw_18 jX12_readLaw_50
      rw [h3.1.k, gdI, h3.1.r4, Option.bind_some, h3.1.k4, gdI, h3.1.l4, i_131, gvI (by omega) (by omega), lte, lte]
      generalize pI M3 m 15 (nI lw) = M4 at h4 f4
      by_cases z : nI lw = (2 : Int32)
      · rw [if_pos z, g12F_3 (k := 97) h4.1 h4.ne, Option.bind_some, une2, gdI, if_neg h4.ne]
        exact ok_i ⟨h4, f4⟩
      · rw [if_neg z, g12F_0 (k := 94) h4.1 h4.ne, Option.bind_some, une2, gdI, if_neg h4.ne]
        exact ok_i ⟨h4, f4⟩
  have lt1 := hT.lt (i := i + 1) (by omega) (by omega) (by omega)
  -- the class as far as the law
  have cHead : ∀ T M, CBq x n N b T i M → ∃ M6, fX6_readLaw T M (x + 2) (spO lw) = Option.bind (FCq x 100 (wlw lw) 0 T M6) (un2 fun _u M8 => jX6_readLaw_53 (nT T 3 0 2) (nM T M8) (x + 2) (tp T)) ∧ CSq x n N b (spO lw) T (i + 2) 0 0 M6 ∧ RG x (tp T) M M6 := by
    intro T M hM
    obtain ⟨a1, a2⟩ := k_next hM (by omega) (by omega)
    obtain ⟨b1, b2⟩ := k_next a1 (by omega) (by omega)
    refine ⟨pI (pI (pI (pI (pI M (x + 2) 1 (gI M (x + 2) 1 + 1)) (x + 2) 1 (gI (pI M (x + 2) 1 (gI M (x + 2) 1 + 1)) (x + 2) 1 + 1)) (x + 2) 6 (spO lw)) (x + 2) 7 0) (x + 2) 5 0, ?_, ?_, ?_⟩
    · unfold fX6_readLaw
      rw [hM.1.k2, gdI, lte, k_expect1 (k := 31) (kk := 58) a1 rfl h31 (by omega) (by omega), Option.bind_some, une2, cTail T _ b1.1]
    · generalize pI (pI M (x + 2) 1 (gI M (x + 2) 1 + 1)) (x + 2) 1 (gI (pI M (x + 2) 1 (gI M (x + 2) 1 + 1)) (x + 2) 1 + 1) = M3 at b1 b2
      obtain ⟨d1, d2, d3, d4, d5⟩ := b1
      refine ⟨⟨d1.eq rfl, fun j hj => ?_, ?_, ?_, d5.1, d5.2.1, d5.2.2.1, by rw [mIIk (by omega), mIIk (by omega), mIIk (by omega)]; exact d5.2.2.2⟩, mII1, ?_, ?_, by omega⟩
      · have dj := d2 j hj
        refine ⟨?_, ?_, fun z => ?_⟩
        · rw [mIIn (by omega), mIIn (by omega), mIIn (by omega)]; exact dj.1
        · rw [mIIn (by omega), mIIn (by omega), mIIn (by omega)]; exact dj.2.1
        · rw [mIIn (by omega), mIIn (by omega), mIIn (by omega)]; exact dj.2.2 z
      · rw [mIIk (by omega), mIIk (by omega), mIIk (by omega)]; exact d3
      · rw [mIIk (by omega), mIIk (by omega), mIIk (by omega)]; exact d4
      · rw [mIIk (by omega), mIIk (by omega), mII1]
      · rw [mIIk (by omega), mII1]
    · exact ((a2.trans b2).rg (t := tp T)).trans (c6 T _) (Nat.le_refl _)
  have rHead : ∀ T M q, RBq m n N b T i M → gI M (m + 4) 131 = nI q → q + 6 ≤ i → (∀ j, q ≤ j → j < 900 → gI M (m + 4) (132 + j) = 0) → ∀ P : Unit × Me → Prop, (∀ M11, RSq m n N b lw T (i + 2) q M11 → FI m (fun c k => rl m c k ∨ c = m ∧ k = 15) M M11 → (∀ k, gI M11 (m + 4) k = gI M (m + 4) k) → Ok (Option.bind (FRq m 100 (wlw lw) 0 T M11) <| un2 fun _u M13 => jX12_readLaw_50 T M13 m (nI lw) (nI q)) P) → Ok (fX12_readLaw T M m (nI lw)) P := by
    intro T M q hM hq h6q hz P hK
    unfold fX12_readLaw
    rw [hM.1.1.k, gdI]
    refine Ok.bd (r_next hM (by omega) (by omega)) (fun p hp => ?_)
    obtain ⟨p1, M2⟩ := p
    obtain ⟨h2, f2⟩ := hp
    have h2 : RBq m n N b T (i + 1) M2 := h2
    have f2 : FI m (tq m) M M2 := f2
    rw [une2]
    refine Ok.bd (r_eats1 h2 i_31 (by omega) h31 (by omega) (by omega)) (fun p hp => ?_)
    obtain ⟨p1, M4⟩ := p
    obtain ⟨e1, h4, f4⟩ := hp
    have e1 : p1 = 1 := e1
    have h4 : RBq m n N b T (i + 2) M4 := h4
    have f4 : FI m (tq m) M2 M4 := f4
    have e4 : ∀ k, gI M4 (m + 4) k = gI M (m + 4) k := fun k => (f4.1 _ _ (by unfold tq; omega)).trans (f2.1 _ _ (by unfold tq; omega))
    have hm4 := h4.1.1
    rw [une2, e1, if_neg (by decide)]
    unfold jX12_readLaw_18
    rw [hm4.k, gdI, hm4.r4, Option.bind_some, hm4.k4, gdI, hm4.l4, i_131, gvI (by omega) (by omega), cl_nI (by omega), e4, hq, lte, lte]
    obtain ⟨⟨t1, t2, t3, t4, t5⟩, g6, g7, g9, g10, g11, g12, g13⟩ := h4
    have hR : RSq m n N b lw T (i + 2) q (pI M4 m 15 (nI lw)) := by
      refine ⟨⟨⟨t1.fr (fun _ => rfl), (mIIk (by omega)).trans t2, t3, t4, fun k hk => (mIIn (by omega)).trans (t5 k hk)⟩, (mIIk (by omega)).trans g6, (mIIk (by omega)).trans g7, (mIIk (by omega)).trans g9, fun z => (mIIk (by omega)).trans (g10 z), (mIIk (by omega)).trans g11, g12, g13⟩, ?_, mII1, by omega, t3, fun j a1 a2 => ?_⟩
      · rw [mIIn (by omega), e4]; exact hq
      · rw [mIIn (by omega), e4]; exact hz j a1 a2
    have hF : FI m (fun c k => rl m c k ∨ c = m ∧ k = 15) M (pI M4 m 15 (nI lw)) := ((f2.wide (fun a k z => Or.inl (Or.inl (rh_tq z)))).trans (f4.wide (fun a k z => Or.inl (Or.inl (rh_tq z))))).pI (Or.inr ⟨rfl, rfl⟩)
    have h := hK _ hR hF (fun k => (mIIn (by omega)).trans (e4 k))
    by_cases z : lw = 2
    · have e : wlw lw = 3 := if_pos z
      rw [e] at h
      rw [if_pos (by rw [z]; decide)]
      exact h
    · have e : wlw lw = 0 := if_neg z
      rw [e] at h
      rw [if_neg (fun y => z (by rw [i_2, c_eq (by omega) (by omega)] at y; exact y))]
      exact h
  rcases j_lawE (x := x) (m := m) hN hT hlw (i + 2) 0 0 (by omega) (by omega) with ⟨i2, cc, rc, u2, v, hS, hc, hr⟩ | ⟨fk, iF, g1, g2, hc, hr⟩
  · refine Or.inl ⟨i2, cc, rc, u2, v, hS, fun T M hM ht => ?_, fun T M q hM hq h6q hz => ?_⟩
    · obtain ⟨M6, e6, h6c, f6⟩ := cHead T M hM
      rw [e6]
      refine Ok.bd (hc T M6 h6c) (fun p hp => ?_)
      obtain ⟨p1, M8⟩ := p
      obtain ⟨d1, d2, d3, d4⟩ := hp
      have d1 : CSq x n N b (spO lw) T i2 (0 + cc.length) u2 M8 := d1
      have d2 : LFr x M6 M8 := d2
      have d4 : SEG (gI M8 (x + 7)) 0 cc := d4
      have h9 := d1.n9
      have h8 := d1.2.2.2.2
      rw [une2]
      refine (c_lawt d1.1.1 ht (by rw [d1.2.1, Nat.zero_add]) (by omega) d1.2.2.2.1).mono (fun p hp => ?_)
      obtain ⟨p1, T2, M9⟩ := p
      obtain ⟨q1, q2, q3, q4, q5, q6⟩ := hp
      have q2 : T2 = nT (nT T 3 0 2) 13 cc.length cc.length := q2
      have hTE : TE T T2 := by rw [q2]; exact TE.new.trans TE.new
      refine ⟨q1, q2, d1.1.old hTE ht q3, (f6.trans (d2.rg (t := tp T)) (Nat.le_refl _)).trans ⟨fun c k w1 w2 => (q3 c k w1).1, fun c k w1 => (q3 c k w1).2⟩ (Nat.le_refl _), q4, q5, seg_cong d4 (fun j hj => ?_)⟩
      rw [Nat.zero_add]
      exact q6 j hj
    · refine rHead T M q hM hq h6q hz _ (fun M11 h11 f11 e11 => ?_)
      refine Ok.bd (hr T M11 q h11) (fun p hp => ?_)
      obtain ⟨p1, M13⟩ := p
      obtain ⟨d1, d2, d3, d4⟩ := hp
      have d1 : RSq m n N b lw T i2 (q + rc.length) M13 := d1
      have d2 : FI m (rq m) M11 M13 := d2
      have d3 : ∀ j, j < q → gI M13 (m + 4) (132 + j) = gI M11 (m + 4) (132 + j) := d3
      have d4 : SEG (gI M13 (m + 4)) (132 + q) rc := d4
      have h9 := d1.n9
      have h8 := d1.2.2.2.1
      have hm := d1.1.1.1
      rw [une2]
      unfold jX12_readLaw_50
      simp (disch := omega) only [hm.k, gdI, d1.1.2.2.2.2.2.1, if_true, hm.r4, Option.bind_some, hm.k4, hm.l4, i_5, i_8, i_11, i_131, nI_add, gvI, cl_nI, lte, mRI]
      have e131 : gI (pI (pI M13 (m + 4) (5 + lw) 1) (m + 4) (8 + lw) (nI q)) (m + 4) 131 = nI (q + rc.length) := by rw [mIIk (by omega), mIIk (by omega)]; exact d1.2.1
      rw [e131, c_sub (by omega), show q + rc.length - q = rc.length by omega]
      have gm : ∀ k, k ≠ 5 + lw → k ≠ 8 + lw → k ≠ 11 + lw → gI (pI (pI (pI M13 (m + 4) (5 + lw) 1) (m + 4) (8 + lw) (nI q)) (m + 4) (11 + lw) (nI rc.length)) (m + 4) k = gI M13 (m + 4) k := fun k a1 a2 a3 => by rw [mIIk a3, mIIk a2, mIIk a1]
      refine ok_i ⟨RBF.pw (fl := none) (RBF.pw (fl := none) (RBF.pw (fl := none) d1.1)), ?_, ?_, ?_, mII1, ?_, fun k hk a1 a2 a3 => ?_, fun j hj => ?_, seg_cong d4 (fun j hj => gm _ (by omega) (by omega) (by omega)), fun j a1 a2 => ?_⟩
      · have w : FI m (fun c k => rl m c k ∨ c = m ∧ k = 15) M M13 := f11.trans (d2.wide (fun c k z => Or.inl (by unfold rq at z; unfold rl rh; omega)))
        exact ((w.pI (Or.inl (Or.inr rfl))).pI (Or.inl (Or.inr rfl))).pI (Or.inl (Or.inr rfl))
      · show gI (pI (pI (pI M13 (m + 4) (5 + lw) 1) (m + 4) (8 + lw) (nI q)) (m + 4) (11 + lw) (nI rc.length)) (m + 4) (5 + lw) = 1
        rw [mIIk (by omega), mIIk (by omega), mII1]
      · show gI (pI (pI (pI M13 (m + 4) (5 + lw) 1) (m + 4) (8 + lw) (nI q)) (m + 4) (11 + lw) (nI rc.length)) (m + 4) (8 + lw) = nI q
        rw [mIIk (by omega), mII1]
      · exact (gm _ (by omega) (by omega) (by omega)).trans d1.2.1
      · rw [gm k a1 a2 a3, d2.1 _ _ (by unfold rq; omega), e11]
      · rw [gm _ (by omega) (by omega) (by omega), d3 j hj, e11]
      · rw [gm _ (by omega) (by omega) (by omega)]; exact d1.2.2.2.2.2 j a1 a2
  · refine Or.inr ⟨fk, iF, g2, fun T M hM ht => ?_, fun T M q hM hq h6q hz => ?_⟩
    · obtain ⟨M6, e6, h6c, f6⟩ := cHead T M hM
      rw [e6]
      refine Ok.bd (hc T M6 h6c) (fun p hp => ?_)
      obtain ⟨p1, M8⟩ := p
      obtain ⟨d1, d2, o2, d3, d4⟩ := hp
      have d1 : CFl x T fk (tP b n iF) M8 := d1
      have d2 : LFr x M6 M8 := d2
      have d3 : gI M8 (x + 2) 5 = nI o2 := d3
      rw [une2]
      refine (c_lawt d1.1 ht d3 (by omega) rfl).mono (fun p hp => ?_)
      obtain ⟨p1, T2, M9⟩ := p
      obtain ⟨q1, q2, q3, _⟩ := hp
      have q2 : T2 = nT (nT T 3 0 2) 13 o2 o2 := q2
      have hTE : TE T T2 := by rw [q2]; exact TE.new.trans TE.new
      exact ⟨q1, ⟨o2, by omega, q2⟩, d1.old hTE ht q3, (f6.trans (d2.rg (t := tp T)) (Nat.le_refl _)).trans ⟨fun c k w1 w2 => (q3 c k w1).1, fun c k w1 => (q3 c k w1).2⟩ (Nat.le_refl _)⟩
    · refine rHead T M q hM hq h6q hz _ (fun M11 h11 f11 e11 => ?_)
      refine Ok.bd (hr T M11 q h11) (fun p hp => ?_)
      obtain ⟨p1, M13⟩ := p
      obtain ⟨d1, d2⟩ := hp
      have d1 : RFl m T fk (tP b n iF) M13 := d1
      have d2 : FI m (rq m) M11 M13 := d2
      rw [une2]
      unfold jX12_readLaw_50
      rw [d1.1.k, gdI, if_neg d1.ne]
      exact ok_i ⟨d1, f11.trans (d2.wide (fun c k z => Or.inl (by unfold rq at z; unfold rl rh; omega)))⟩
end
