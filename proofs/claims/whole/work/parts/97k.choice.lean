section
variable {x m n N lw i o q d : Nat} {b : Nat → Nat} {sp u : Int32} {T : Sh} {M M1 M2 : Me}
/-- if .. then .. else .. end, behind the if -/
theorem j_choice {kc kr Q e : Nat} (hN : N ≤ 900) (hT : TN n b N) (he : e = d + 1) (hd : d < 6) (ht : JEq x m n N b lw sp True Q e (FCq x (kc + 6) 0 e) (FRq m (kr + 6) 0 e)) (hs : JEq x m n N b lw sp False Q e (FCq x (kc + 6) 3 e) (FRq m (kr + 6) 3 e)) (i o : Nat) (u : Int32) (hi : i ≤ N) (ho : o + 8 ≤ i) :
    (∃ i2 cc rc u2 v, SXq N Q lw False i o u i2 cc rc u2 v ∧ (∀ T M, CSq x n N b sp T i o u M → Ok (hX6_readChoice (fG6 (kc + 6)) T M (x + 2) (nI e)) (fun p => CPq x n N b sp T o i2 u2 cc M p.2)) ∧ ∀ T M q, RSq m n N b lw T i q M → Ok (Option.bind (fG12 (kr + 6) 0 T M m (nI d + 1)) <| un2 fun _u M5 => Option.bind (fX12_eats T M5 m (13 : Int32)) <| un2 fun r6 M7 => if r6 = 0 then (Option.bind (fX12_fails T M7 m (2 : Int32)) <| un2 fun _u M23 => jX12_readIf_30 (fG12 (kr + 6)) T M23 m (nI d)) else (jX12_readIf_30 (fG12 (kr + 6)) T M7 m (nI d))) (fun p => RPq m n N b lw T q i2 rc M p.2))
    ∨ ∃ fk iF, i ≤ iF ∧ iF ≤ N ∧ (∀ T M, CSq x n N b sp T i o u M → Ok (hX6_readChoice (fG6 (kc + 6)) T M (x + 2) (nI e)) (fun p => CXq x T fk (tP b n iF) (o + iF - i + (7 - d)) M p.2)) ∧ ∀ T M q, RSq m n N b lw T i q M → Ok (Option.bind (fG12 (kr + 6) 0 T M m (nI d + 1)) <| un2 fun _u M5 => Option.bind (fX12_eats T M5 m (13 : Int32)) <| un2 fun r6 M7 => if r6 = 0 then (Option.bind (fX12_fails T M7 m (2 : Int32)) <| un2 fun _u M23 => jX12_readIf_30 (fG12 (kr + 6)) T M23 m (nI d)) else (jX12_readIf_30 (fG12 (kr + 6)) T M7 m (nI d))) (fun p => RXq m T fk (tP b n iF) M p.2) := by
  have en : nI d + (1 : Int32) = nI e := by rw [nI_1, he]
  rcases ht i o u hi ho with ⟨i1, ct, rt, u1, vt, ⟨s1, s2, s3, s4, s5, s6, s7, s8, s9⟩, hc1, hr1⟩ | ⟨fk, iF, g1, g2, hc, hr⟩
  rotate_left
  · refine Or.inr ⟨fk, iF, g1, g2, fun T M hM => ?_, fun T M q hM => ?_⟩
    · unfold hX6_readChoice
      rw [hM.1.1.k2, gdI]
      refine Ok.bd (hc T M hM) (fun p hp => ?_)
      obtain ⟨p1, M2⟩ := p
      rw [une2]
      exact ctF_a (kk := kc + 3) hp (by omega) (fun M' h => h.up (by omega))
    · rw [en]
      refine Ok.bd (hr T M q hM) (fun p hp => ?_)
      obtain ⟨p1, M2⟩ := p
      have hp : RXq m T fk (tP b n iF) M M2 := hp
      rw [une2, r_eatsF hp.1.1 hp.1.ne, Option.bind_some, une2, if_pos rfl, r_failsF hp.1.1 hp.1.ne, Option.bind_some, une2, rF_b (kk := kr + 3) hp.1.1 hp.1.ne]
      exact ok_i hp
  by_cases kt : tK b n i1 = 13
  rotate_left
  · refine Or.inr ⟨fkd n b i1 2, i1, by omega, s2, fun T M hM => ?_, fun T M q hM => ?_⟩
    · unfold hX6_readChoice
      rw [hM.1.1.k2, gdI]
      refine Ok.bd (hc1 T M hM) (fun p hp => ?_)
      obtain ⟨p1, M2⟩ := p
      obtain ⟨a1, a2, _⟩ := hp
      have a1 : CSq x n N b sp T i1 (o + ct.length) u1 M2 := a1
      have a2 : LFr x M M2 := a2
      rw [une2]
      obtain ⟨⟨q1, M3⟩, e3, h3, f3, h5⟩ := k_expect0 (kk := 217) (k := 13) a1.1 rfl (by unfold vk; omega) kt
      have h3 : CFl x T (fkd n b i1 2) (tP b n i1) M3 := h3
      have f3 : LFr x M2 M3 := f3
      have h5 : gI M3 (x + 2) 5 = gI M2 (x + 2) 5 := h5
      have hX : CXq x T (fkd n b i1 2) (tP b n i1) (o + ct.length) M M3 := CXq.of h3 (a2.trans f3) (h5.trans a1.2.1) (Nat.le_refl _)
      obtain ⟨r, M4, e4, hr4, h4⟩ := k_putF (op := 11) hX (by omega)
      rw [e3, Option.bind_some, une2, i_11, e4, Option.bind_some, une2, g6F_3 (k := kc + 3) h4.1.1 h4.1.ne, Option.bind_some, une2]
      exact ctF_b (kk := kc + 3) h4 (by omega) hr4 (fun M' h => h.up (by omega))
    · rw [en]
      refine Ok.bd (hr1 T M q hM) (fun p hp => ?_)
      obtain ⟨p1, M2⟩ := p
      obtain ⟨a1, a2, _⟩ := hp
      have a1 : RSq m n N b lw T i1 (q + rt.length) M2 := a1
      have a2 : FI m (rq m) M M2 := a2
      rw [une2, r_eats0 a1.1 i_13 (by omega) kt, Option.bind_some, une2, if_pos rfl, i_2]
      refine Ok.bd (r_fails a1.1 (by omega) (by omega)) (fun p hp => ?_)
      obtain ⟨p1, M3⟩ := p
      obtain ⟨h3, f3, _⟩ := hp
      have h3 : RFl m T (fkd n b i1 2) (tP b n i1) M3 := h3
      rw [une2, rF_b (kk := kr + 3) h3.1 h3.ne]
      exact ok_i ⟨h3, a2.trans f3⟩
  have k13a : tK b n i1 ≠ 26 := by omega
  have k13b : tK b n i1 ≠ 27 := by omega
  have lt1 := hT.lt s2 k13a k13b
  -- the class as far as the first sum
  have cA : ∀ T M, CSq x n N b sp T i o u M → ∃ M5, (hX6_readChoice (fG6 (kc + 6)) T M (x + 2) (nI e) = (Option.bind (fG6 (kc + 6) 3 T M5 (x + 2) (nI e)) <| un2 fun _u M6 => Option.bind (fX6_expect T M6 (x + 2) (218 : Int32)) <| un2 fun _u M7 => Option.bind (fX6_put T M7 (x + 2) (12 : Int32) (0 : Int32)) <| un2 fun r8 M9 => Option.bind (fX6_land T M9 (x + 2) (nI (o + ct.length))) <| un2 fun _u M10 => Option.bind (fG6 (kc + 6) 3 T M10 (x + 2) (nI e)) <| un2 fun _u M11 => Option.bind (fX6_expect T M11 (x + 2) (219 : Int32)) <| un2 fun _u M12 => Option.bind (fX6_land T M12 (x + 2) r8) <| un2 fun _u M13 => some ((), M13))) ∧ CSq x n N b sp T (i1 + 1) (o + ct.length + 1) u1 M5 ∧ LFr x M M5 ∧ (∀ j, j < o → gI M5 (x + 7) j = gI M (x + 7) j) ∧ SEG (gI M5 (x + 7)) o ct ∧ gI M5 (x + 7) (o + ct.length) = enc 11 0 := by
    intro T M hM
    obtain ⟨⟨p1, M2⟩, e2, hp⟩ := hc1 T M hM
    have e2 : fG6 (kc + 6) 0 T M (x + 2) (nI e) = some (p1, M2) := e2
    have hp : CPq x n N b sp T o i1 u1 ct M M2 := hp
    have hA := hp.adv k13a k13b
    obtain ⟨M5, e5, c1, c2, c3, c4⟩ := k_putS (op := 11) (od := 0) (oo := 0) hA.1 (by have := hM.2.2.2.2; omega) rfl
    refine ⟨M5, ?_, c1, hA.2.1.trans c2, fun j hj => (c3 j (by omega)).trans (hA.2.2.1 j hj), seg_cong hA.2.2.2 (fun j hj => c3 _ (by omega)), c4⟩
    unfold hX6_readChoice
    rw [hM.1.1.k2, gdI, e2, Option.bind_some, une2, k_expect1 (k := 13) (kk := 217) hp.1.1 rfl kt (by omega) (by omega), Option.bind_some, une2, i_11, e5, Option.bind_some, une2]
  have rA : ∀ T M q, RSq m n N b lw T i q M → ∀ P : Unit × Me → Prop, (∀ M7, RPq m n N b lw T q (i1 + 1) rt M M7 → Ok (Option.bind (fG12 (kr + 6) 3 T M7 m (nI e)) <| un2 fun _u M10 => Option.bind (fX12_eats T M10 m (14 : Int32)) <| un2 fun r11 M12 => if r11 = 0 then (Option.bind (fX12_fails T M12 m (2 : Int32)) <| un2 fun _u M22 => jX12_readIf_51 (fG12 (kr + 6)) T M22 m (nI d)) else (jX12_readIf_51 (fG12 (kr + 6)) T M12 m (nI d))) P) → Ok (Option.bind (fG12 (kr + 6) 0 T M m (nI d + 1)) <| un2 fun _u M5 => Option.bind (fX12_eats T M5 m (13 : Int32)) <| un2 fun r6 M7 => if r6 = 0 then (Option.bind (fX12_fails T M7 m (2 : Int32)) <| un2 fun _u M23 => jX12_readIf_30 (fG12 (kr + 6)) T M23 m (nI d)) else (jX12_readIf_30 (fG12 (kr + 6)) T M7 m (nI d))) P := by
    intro T M q hM P hK
    rw [en]
    refine Ok.bd (hr1 T M q hM) (fun p hp => ?_)
    obtain ⟨p1, M2⟩ := p
    have hp : RPq m n N b lw T q i1 rt M M2 := hp
    rw [une2]
    refine Ok.bd (r_eats1 hp.1.1 i_13 (by omega) kt (by omega) (by omega)) (fun p hq => ?_)
    obtain ⟨p1, M3⟩ := p
    obtain ⟨e1, h1, f1⟩ := hq
    have e1 : p1 = 1 := e1
    have hB : RPq m n N b lw T q (i1 + 1) rt M M3 := hp.adv h1 f1
    rw [une2, e1, if_neg (by decide)]
    unfold jX12_readIf_30
    rw [hB.1.1.1.1.k, gdI, en]
    exact hK M3 hB
  rcases hs (i1 + 1) (o + ct.length + 1) u1 (by omega) (by omega) with ⟨i2, ca, ra, u2, va, ⟨t1, t2, t3, t4, t5, t6, t7, t8, t9⟩, hc2, hr2⟩ | ⟨fk, iF, g1, g2, hc, hr⟩
  rotate_left
  · refine Or.inr ⟨fk, iF, by omega, g2, fun T M hM => ?_, fun T M q hM => ?_⟩
    · obtain ⟨M5, e5, c1, c2, c3, c4, c5⟩ := cA T M hM
      rw [e5]
      refine Ok.bd (hc T M5 c1) (fun p hp => ?_)
      obtain ⟨p1, M6⟩ := p
      rw [une2]
      exact ctF_b (kk := kc + 3) (CXq.pre hp c2) (by omega) (by omega) (fun M' h => h.up (by omega))
    · refine rA T M q hM _ (fun M7 hB => ?_)
      refine Ok.bd (hr T M7 _ hB.1) (fun p hp => ?_)
      obtain ⟨p1, M8⟩ := p
      have hp : RXq m T fk (tP b n iF) M7 M8 := hp
      rw [une2, r_eatsF hp.1.1 hp.1.ne, Option.bind_some, une2, if_pos rfl, r_failsF hp.1.1 hp.1.ne, Option.bind_some, une2, rF_c (kk := kr + 3) hp.1.1 hp.1.ne]
      exact ok_i ⟨hp.1, hB.2.1.trans hp.2⟩
  by_cases ke : tK b n i2 = 14
  rotate_left
  · refine Or.inr ⟨fkd n b i2 2, i2, by omega, t2, fun T M hM => ?_, fun T M q hM => ?_⟩
    · obtain ⟨M5, e5, c1, c2, c3, c4, c5⟩ := cA T M hM
      rw [e5]
      refine Ok.bd (hc2 T M5 c1) (fun p hp => ?_)
      obtain ⟨p1, M6⟩ := p
      obtain ⟨a1, a2, _⟩ := hp
      have a1 : CSq x n N b sp T i2 (o + ct.length + 1 + ca.length) u2 M6 := a1
      have a2 : LFr x M5 M6 := a2
      rw [une2]
      obtain ⟨⟨q1, M7⟩, e7, h7, f7, h5⟩ := k_expect0 (kk := 218) (k := 14) a1.1 rfl (by unfold vk; omega) ke
      have h7 : CFl x T (fkd n b i2 2) (tP b n i2) M7 := h7
      have f7 : LFr x M6 M7 := f7
      have h5 : gI M7 (x + 2) 5 = gI M6 (x + 2) 5 := h5
      have hX : CXq x T (fkd n b i2 2) (tP b n i2) (o + ct.length + 1 + ca.length) M M7 := CXq.of h7 ((c2.trans a2).trans f7) (h5.trans a1.2.1) (Nat.le_refl _)
      obtain ⟨r, M8, e8, hr8, h8⟩ := k_putF (op := 12) hX (by omega)
      obtain ⟨M9, e9, h9⟩ := k_landF (k := o + ct.length) h8 (by omega)
      rw [e7, Option.bind_some, une2, i_12, e8, Option.bind_some, une2, e9, Option.bind_some, une2]
      exact ctF_c (kk := kc + 3) h9 hr8 (fun M' h => h.up (by omega))
    · refine rA T M q hM _ (fun M7 hB => ?_)
      refine Ok.bd (hr2 T M7 _ hB.1) (fun p hp => ?_)
      obtain ⟨p1, M8⟩ := p
      obtain ⟨a1, a2, _⟩ := hp
      have a1 : RSq m n N b lw T i2 (q + rt.length + ra.length) M8 := a1
      have a2 : FI m (rq m) M7 M8 := a2
      rw [une2, r_eats0 a1.1 i_14 (by omega) ke, Option.bind_some, une2, if_pos rfl, i_2]
      refine Ok.bd (r_fails a1.1 (by omega) (by omega)) (fun p hp => ?_)
      obtain ⟨p1, M9⟩ := p
      obtain ⟨h3, f3, _⟩ := hp
      have h3 : RFl m T (fkd n b i2 2) (tP b n i2) M9 := h3
      rw [une2, rF_c (kk := kr + 3) h3.1 h3.ne]
      exact ok_i ⟨h3, (hB.2.1.trans a2).trans f3⟩
  have k14a : tK b n i2 ≠ 26 := by omega
  have k14b : tK b n i2 ≠ 27 := by omega
  have lt2 := hT.lt t2 k14a k14b
  -- the class as far as the second sum
  have cB : ∀ T M, CSq x n N b sp T i o u M → ∃ M10, (hX6_readChoice (fG6 (kc + 6)) T M (x + 2) (nI e) = (Option.bind (fG6 (kc + 6) 3 T M10 (x + 2) (nI e)) <| un2 fun _u M11 => Option.bind (fX6_expect T M11 (x + 2) (219 : Int32)) <| un2 fun _u M12 => Option.bind (fX6_land T M12 (x + 2) (nI (o + ct.length + 1 + ca.length))) <| un2 fun _u M13 => some ((), M13))) ∧ CSq x n N b sp T (i2 + 1) (o + ct.length + 1 + ca.length + 1) u2 M10 ∧ LFr x M M10 ∧ (∀ j, j < o → gI M10 (x + 7) j = gI M (x + 7) j) ∧ SEG (gI M10 (x + 7)) o (ct ++ (enc 11 (o + ct.length + 1 + ca.length + 1) :: ca)) ∧ gI M10 (x + 7) (o + ct.length + 1 + ca.length) = enc 12 0 := by
    intro T M hM
    obtain ⟨M5, e5, c1, c2, c3, c4, c5⟩ := cA T M hM
    obtain ⟨⟨p1, M6⟩, e6, hp⟩ := hc2 T M5 c1
    have e6 : fG6 (kc + 6) 3 T M5 (x + 2) (nI e) = some (p1, M6) := e6
    have hp : CPq x n N b sp T (o + ct.length + 1) i2 u2 ca M5 M6 := hp
    have hA := hp.adv k14a k14b
    obtain ⟨M9, e9, d1, d2, d3, d4⟩ := k_putS (op := 12) (od := 0) (oo := 0) hA.1 (by have := hM.2.2.2.2; omega) rfl
    have ecode : gI M9 (x + 7) (o + ct.length) = enc 11 0 := (d3 _ (by omega)).trans ((hA.2.2.1 _ (by omega)).trans c5)
    obtain ⟨M10, e10, f1, f2, f3, f4⟩ := k_landS (k := o + ct.length) d1 (by omega) (by omega) ecode
    refine ⟨M10, ?_, f1, ((c2.trans hA.2.1).trans d2).trans f2, fun j hj => ?_, ?_, (f3 _ (by omega)).trans d4⟩
    · rw [e5, e6, Option.bind_some, une2, k_expect1 (k := 14) (kk := 218) hp.1.1 rfl ke (by omega) (by omega), Option.bind_some, une2, i_12, e9, Option.bind_some, une2, e10, Option.bind_some, une2]
    · rw [f3 _ (by omega), d3 _ (by omega), hA.2.2.1 _ (by omega), c3 j hj]
    · rw [seg_app]
      refine ⟨seg_cong c4 (fun j hj => ?_), f4, seg_cong hA.2.2.2 (fun j hj => ?_)⟩
      · rw [f3 _ (by omega), d3 _ (by omega), hA.2.2.1 _ (by omega)]
      · rw [f3 _ (by omega), d3 _ (by omega)]
  have rBq : ∀ T M q, RSq m n N b lw T i q M → ∀ P : Unit × Me → Prop, (∀ M12, RPq m n N b lw T q (i2 + 1) (rt ++ ra) M M12 → Ok (Option.bind (fG12 (kr + 6) 3 T M12 m (nI e)) <| un2 fun _u M15 => Option.bind (fX12_eats T M15 m (15 : Int32)) <| un2 fun r16 M17 => if r16 = 0 then (Option.bind (fX12_fails T M17 m (2 : Int32)) <| un2 fun _u M20 => Option.bind (fX12_codes T M20 m (3009 : Int32)) <| un2 fun _u M21 => some ((), M21)) else (Option.bind (fX12_codes T M17 m (3009 : Int32)) <| un2 fun _u M19 => some ((), M19))) P) → Ok (Option.bind (fG12 (kr + 6) 0 T M m (nI d + 1)) <| un2 fun _u M5 => Option.bind (fX12_eats T M5 m (13 : Int32)) <| un2 fun r6 M7 => if r6 = 0 then (Option.bind (fX12_fails T M7 m (2 : Int32)) <| un2 fun _u M23 => jX12_readIf_30 (fG12 (kr + 6)) T M23 m (nI d)) else (jX12_readIf_30 (fG12 (kr + 6)) T M7 m (nI d))) P := by
    intro T M q hM P hK
    refine rA T M q hM _ (fun M7 hB => ?_)
    refine Ok.bd (hr2 T M7 _ hB.1) (fun p hp => ?_)
    obtain ⟨p1, M8⟩ := p
    have hp : RPq m n N b lw T (q + rt.length) i2 ra M7 M8 := hp
    rw [une2]
    refine Ok.bd (r_eats1 hp.1.1 i_14 (by omega) ke (by omega) (by omega)) (fun p hq => ?_)
    obtain ⟨p1, M9⟩ := p
    obtain ⟨e1, h1, f1⟩ := hq
    have e1 : p1 = 1 := e1
    have hA : RPq m n N b lw T (q + rt.length) (i2 + 1) ra M7 M9 := hp.adv h1 f1
    have hC : RPq m n N b lw T q (i2 + 1) (rt ++ ra) M M9 := by
      refine ⟨?_, hB.2.1.trans hA.2.1, fun j hj => (hA.2.2.1 j (by omega)).trans (hB.2.2.1 j hj), ?_⟩
      · rw [List.length_append, ← Nat.add_assoc]; exact hA.1
      · rw [seg_app]
        refine ⟨seg_cong hB.2.2.2 (fun j hj => ?_), by rw [Nat.add_assoc]; exact hA.2.2.2⟩
        rw [show 132 + q + j = 132 + (q + j) by omega]
        exact hA.2.2.1 _ (by omega)
    rw [une2, e1, if_neg (by decide)]
    unfold jX12_readIf_51
    rw [hC.1.1.1.1.k, gdI, en]
    exact hK M9 hC
  rcases hs (i2 + 1) (o + ct.length + 1 + ca.length + 1) u2 (by omega) (by omega) with ⟨i3, cb2, rb, u3, vb, ⟨v1, v2, v3, v4, v5, v6, v7, v8, v9⟩, hc3, hr3⟩ | ⟨fk, iF, g1, g2, hc, hr⟩
  rotate_left
  · refine Or.inr ⟨fk, iF, by omega, g2, fun T M hM => ?_, fun T M q hM => ?_⟩
    · obtain ⟨M10, e10, c1, c2, c3, c4, c5⟩ := cB T M hM
      rw [e10]
      refine Ok.bd (hc T M10 c1) (fun p hp => ?_)
      obtain ⟨p1, M11⟩ := p
      have hp : CXq x T fk (tP b n iF) (o + ct.length + 1 + ca.length + 1 + iF - (i2 + 1) + (6 - e)) M10 M11 := hp
      obtain ⟨M12, e12, h12⟩ := k_landF (k := o + ct.length + 1 + ca.length) (hp.pre c2) (by omega)
      rw [une2, k_expectF (k := 15) (kk := 219) hp.1.1 hp.1.ne rfl (by omega), Option.bind_some, une2, e12, Option.bind_some, une2]
      exact ok_i (h12.up (by omega))
    · refine rBq T M q hM _ (fun M12 hB => ?_)
      refine Ok.bd (hr T M12 _ hB.1) (fun p hp => ?_)
      obtain ⟨p1, M13⟩ := p
      have hp : RXq m T fk (tP b n iF) M12 M13 := hp
      rw [une2, r_eatsF hp.1.1 hp.1.ne, Option.bind_some, une2, if_pos rfl, r_failsF hp.1.1 hp.1.ne, Option.bind_some, une2, r_codesF hp.1.1 hp.1.ne, Option.bind_some, une2]
      exact ok_i ⟨hp.1, hB.2.1.trans hp.2⟩
  by_cases kd2 : tK b n i3 = 15
  rotate_left
  · refine Or.inr ⟨fkd n b i3 2, i3, by omega, v2, fun T M hM => ?_, fun T M q hM => ?_⟩
    · obtain ⟨M10, e10, c1, c2, c3, c4, c5⟩ := cB T M hM
      rw [e10]
      refine Ok.bd (hc3 T M10 c1) (fun p hp => ?_)
      obtain ⟨p1, M11⟩ := p
      obtain ⟨a1, a2, _⟩ := hp
      have a1 : CSq x n N b sp T i3 (o + ct.length + 1 + ca.length + 1 + cb2.length) u3 M11 := a1
      have a2 : LFr x M10 M11 := a2
      rw [une2]
      obtain ⟨⟨q1, M12⟩, e12, h12, f12, h5⟩ := k_expect0 (kk := 219) (k := 15) a1.1 rfl (by unfold vk; omega) kd2
      have h12 : CFl x T (fkd n b i3 2) (tP b n i3) M12 := h12
      have f12 : LFr x M11 M12 := f12
      have h5 : gI M12 (x + 2) 5 = gI M11 (x + 2) 5 := h5
      have hX : CXq x T (fkd n b i3 2) (tP b n i3) (o + ct.length + 1 + ca.length + 1 + cb2.length) M M12 := CXq.of h12 ((c2.trans a2).trans f12) (h5.trans a1.2.1) (Nat.le_refl _)
      obtain ⟨M13, e13, h13⟩ := k_landF (k := o + ct.length + 1 + ca.length) hX (by omega)
      rw [e12, Option.bind_some, une2, e13, Option.bind_some, une2]
      exact ok_i (h13.up (by omega))
    · refine rBq T M q hM _ (fun M12 hB => ?_)
      refine Ok.bd (hr3 T M12 _ hB.1) (fun p hp => ?_)
      obtain ⟨p1, M13⟩ := p
      obtain ⟨a1, a2, _⟩ := hp
      have a1 : RSq m n N b lw T i3 (q + (rt ++ ra).length + rb.length) M13 := a1
      have a2 : FI m (rq m) M12 M13 := a2
      rw [une2, r_eats0 a1.1 i_15 (by omega) kd2, Option.bind_some, une2, if_pos rfl, i_2]
      refine Ok.bd (r_fails a1.1 (by omega) (by omega)) (fun p hp => ?_)
      obtain ⟨p1, M14⟩ := p
      obtain ⟨h3, f3, _⟩ := hp
      have h3 : RFl m T (fkd n b i3 2) (tP b n i3) M14 := h3
      rw [une2, r_codesF h3.1 h3.ne, Option.bind_some, une2]
      exact ok_i ⟨h3, (hB.2.1.trans a2).trans f3⟩
  have k15a : tK b n i3 ≠ 26 := by omega
  have k15b : tK b n i3 ≠ 27 := by omega
  have lt3 := hT.lt v2 k15a k15b
  refine Or.inl ⟨i3 + 1, ct ++ (enc 11 (o + ct.length + 1 + ca.length + 1) :: ca) ++ (enc 12 (o + ct.length + 1 + ca.length + 1 + cb2.length) :: cb2), rt ++ ra ++ rb ++ [(3009 : Int32)], u3, fun w => if vt w = 1 then va w else vb w, ⟨by omega, by omega, ?_, ?_, ex_if s5 (s9 trivial) t5 v5 rfl rfl (by omega), ?_, (s7.trans t7).trans v7, ?_, fun z => z.elim⟩, fun T M hM => ?_, fun T M q hM => ?_⟩
  · simp only [List.length_append, List.length_cons]; omega
  · simp only [List.length_append, List.length_cons, List.length_nil]; omega
  · intro w w2 ew
    show (if vt w = 1 then va w else vb w) = if vt w2 = 1 then va w2 else vb w2
    rw [(s6.um t7).um v7 w w2 ew, t6.um v7 w w2 ew, v6 w w2 ew]
  · intro a ha ea
    rcases v8 a ha ea with z | z
    · rcases t8 a ha z with y | y
      · exact s8 a ha y
      · exact Or.inr y
    · exact Or.inr z
  · obtain ⟨M10, e10, c1, c2, c3, c4, c5⟩ := cB T M hM
    rw [e10]
    refine Ok.bd (hc3 T M10 c1) (fun p hp => ?_)
    obtain ⟨p1, M11⟩ := p
    have hp : CPq x n N b sp T (o + ct.length + 1 + ca.length + 1) i3 u3 cb2 M10 M11 := hp
    have hA := hp.adv k15a k15b
    have ecode : gI (pI M11 (x + 2) 1 (gI M11 (x + 2) 1 + 1)) (x + 7) (o + ct.length + 1 + ca.length) = enc 12 0 := (hA.2.2.1 _ (by omega)).trans c5
    obtain ⟨M13, e13, f1, f2, f3, f4⟩ := k_landS (k := o + ct.length + 1 + ca.length) hA.1 (by omega) (by omega) ecode
    rw [une2, k_expect1 (k := 15) (kk := 219) hp.1.1 rfl kd2 (by omega) (by omega), Option.bind_some, une2, e13, Option.bind_some, une2]
    refine ok_i ⟨?_, (c2.trans hA.2.1).trans f2, fun j hj => ?_, ?_⟩
    · have el : o + (ct ++ (enc 11 (o + ct.length + 1 + ca.length + 1) :: ca) ++ (enc 12 (o + ct.length + 1 + ca.length + 1 + cb2.length) :: cb2)).length = o + ct.length + 1 + ca.length + 1 + cb2.length := by simp only [List.length_append, List.length_cons]; omega
      rw [el]; exact f1
    · rw [f3 _ (by omega), hA.2.2.1 _ (by omega), c3 j hj]
    · rw [seg_app]
      refine ⟨seg_cong c4 (fun j hj => ?_), ?_, ?_⟩
      · simp only [List.length_append, List.length_cons] at hj
        rw [f3 _ (by omega), hA.2.2.1 _ (by omega)]
      · rw [show o + (ct ++ (enc 11 (o + ct.length + 1 + ca.length + 1) :: ca)).length = o + ct.length + 1 + ca.length by simp only [List.length_append, List.length_cons]; omega]
        exact f4
      · rw [show o + (ct ++ (enc 11 (o + ct.length + 1 + ca.length + 1) :: ca)).length + 1 = o + ct.length + 1 + ca.length + 1 by simp only [List.length_append, List.length_cons]; omega]
        exact seg_cong hA.2.2.2 (fun j hj => f3 _ (by omega))
  · refine rBq T M q hM _ (fun M12 hB => ?_)
    refine Ok.bd (hr3 T M12 _ hB.1) (fun p hp => ?_)
    obtain ⟨p1, M13⟩ := p
    have hp : RPq m n N b lw T (q + (rt ++ ra).length) i3 rb M12 M13 := hp
    rw [une2]
    refine Ok.bd (r_eats1 hp.1.1 i_15 (by omega) kd2 (by omega) (by omega)) (fun p hq => ?_)
    obtain ⟨p1, M14⟩ := p
    obtain ⟨e1, h1, f1⟩ := hq
    have e1 : p1 = 1 := e1
    have hA : RPq m n N b lw T (q + (rt ++ ra).length) (i3 + 1) rb M12 M14 := hp.adv h1 f1
    obtain ⟨M15, e15, g1, g2, g3, g4⟩ := r_codesS (kk := 3009) hA.1 (by have := hM.2.2.2.1; simp only [List.length_append]; omega)
    rw [une2, e1, if_neg (by decide), e15, Option.bind_some, une2]
    refine ok_i ⟨?_, (hB.2.1.trans hA.2.1).trans g2, fun j hj => ?_, ?_⟩
    · have el : q + (rt ++ ra ++ rb ++ [(3009 : Int32)]).length = q + (rt ++ ra).length + rb.length + 1 := by simp only [List.length_append, List.length_cons, List.length_nil]; omega
      rw [el]; exact g1
    · rw [g3 _ (by omega) (by omega), hA.2.2.1 j (by omega), hB.2.2.1 j hj]
    · rw [seg_app, seg_app (rt ++ ra) rb]
      refine ⟨⟨seg_cong hB.2.2.2 (fun j hj => ?_), seg_cong (by rw [Nat.add_assoc]; exact hA.2.2.2) (fun j hj => g3 _ (by omega) (by omega))⟩, ?_, trivial⟩
      · rw [g3 _ (by omega) (by omega), show 132 + q + j = 132 + (q + j) by omega, hA.2.2.1 _ (by omega)]
      · rw [show 132 + q + (rt ++ ra ++ rb).length = 132 + (q + (rt ++ ra).length + rb.length) by rw [List.length_append (as := rt ++ ra)]; omega]
        exact g4
end
