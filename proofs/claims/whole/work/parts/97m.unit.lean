section
variable {x m n N lw i o q d : Nat} {b : Nat → Nat} {sp u : Int32} {T : Sh} {M M1 M2 : Me}
theorem j_unit {kA kB Qs Q : Nat} (hN : N ≤ 900) (hT : TN n b N) (hd : d ≤ 6) (hkA : 3 ≤ kA) (hkB : 3 ≤ kB) (hQ : Qs + 1 ≤ Q) (hs : JEq x m n N b lw sp False Qs d (FCq x kA 3 d) (FRq m kB 3 d)) (hu : d < 6 → JEq x m n N b lw sp True Q (d + 1) (FCq x kA 2 (d + 1)) (FRq m kB 2 (d + 1))) (ht : d < 6 → JEq x m n N b lw sp True Q (d + 1) (FCq x kA 0 (d + 1)) (FRq m kB 0 (d + 1))) : JEq x m n N b lw sp True Q d (FCq x (kA + 1) 2 d) (FRq m (kB + 1) 2 d) := by
  have en : nI d + (1 : Int32) = nI (d + 1) := nI_1 d
  intro i o u hi ho
  have k42 : tK b n i < 42 := (vk_42 (tK_v i)).1
  have cH : ∀ T M, CSq x n N b sp T i o u M → FCq x (kA + 1) 2 d T M = if tK b n i = 22 then (Option.bind (fX6_goDeeper T M (x + 2) (nI d)) <| un2 fun r28 M29 => if r28 = 0 then (some ((), M29)) else (Option.bind (fG6 kA 2 T M29 (x + 2) (nI d + (1 : Int32))) <| un2 fun _u M31 => Option.bind (fX6_put T M31 (x + 2) (8 : Int32) (0 : Int32)) <| un2 fun r32 M33 => some ((), M33))) else if tK b n i = 37 then (Option.bind (fX6_goDeeper T M (x + 2) (nI d)) <| un2 fun r23 M24 => if r23 = 0 then (some ((), M24)) else (Option.bind (fG6 kA 0 T M24 (x + 2) (nI d + (1 : Int32))) <| un2 fun _u M26 => Option.bind (fX6_expect T M26 (x + 2) (93 : Int32)) <| un2 fun _u M27 => some ((), M27))) else (Option.bind (fG6 kA 3 T M (x + 2) (nI d)) <| un2 fun _u M6 => Option.bind (fX6_kind T M6 (x + 2)) fun r7 => if r7 = (61 : Int32) then (jX6_readUnit_97 (fG6 kA) T M6 (x + 2) (nI d) r7) else (if r7 = (60 : Int32) then (jX6_readUnit_97 (fG6 kA) T M6 (x + 2) (nI d) r7) else (if r7 = (62 : Int32) then (jX6_readUnit_97 (fG6 kA) T M6 (x + 2) (nI d) r7) else (Option.bind (fX6_fail T M6 (x + 2) (2 : Int32)) <| un2 fun _u M22 => some ((), M22))))) := by
    intro T M hM
    show hX6_readUnit (fG6 kA) T M (x + 2) (nI d) = _
    unfold hX6_readUnit
    rw [hM.1.1.k2, gdI, k_kind hM.1, Option.bind_some, ck_lit (c := 222) (k := 22) rfl (by unfold vk; omega), Option.bind_some, ck_lit (c := 91) (k := 37) rfl (by unfold vk; omega)]
  have rH : ∀ T M q, RSq m n N b lw T i q M → FRq m (kB + 1) 2 d T M = if tK b n i = 22 then (Option.bind (fX12_goesIn T M m (nI d)) <| un2 fun r38 M39 => if r38 = 0 then (some ((), M39)) else (Option.bind (fG12 kB 2 T M39 m (nI d + (1 : Int32))) <| un2 fun _u M41 => Option.bind (fX12_codes T M41 m (3006 : Int32)) <| un2 fun _u M42 => some ((), M42))) else if tK b n i = 37 then (Option.bind (fX12_goesIn T M m (nI d)) <| un2 fun r30 M31 => if r30 = 0 then (some ((), M31)) else (Option.bind (fG12 kB 0 T M31 m (nI d + (1 : Int32))) <| un2 fun _u M33 => Option.bind (fX12_eats T M33 m (38 : Int32)) <| un2 fun r34 M35 => if r34 = 0 then (Option.bind (fX12_fails T M35 m (2 : Int32)) <| un2 fun _u M37 => some ((), M37)) else (some ((), M35)))) else (Option.bind (fG12 kB 3 T M m (nI d)) <| un2 fun _u M6 => Option.bind (fX12_is T M6 m (39 : Int32)) fun r7 => if r7 = 0 then (Option.bind (fX12_is T M6 m (40 : Int32)) fun r9 => if r9 = 0 then (jX12_readUnit_111 (fG12 kB) T M6 m (nI d) (3005 : Int32)) else (jX12_readUnit_111 (fG12 kB) T M6 m (nI d) (3004 : Int32))) else (jX12_readUnit_111 (fG12 kB) T M6 m (nI d) (3003 : Int32))) := by
    intro T M q hM
    show hX12_readUnit (fG12 kB) T M m (nI d) = _
    unfold hX12_readUnit
    rw [hM.1.1.1.k, gdI, r_is hM.1 i_22 (by omega), Option.bind_some]
    by_cases z : tK b n i = 22
    · rw [if_pos z, if_pos z, if_neg (by decide)]
    · rw [if_neg z, if_neg z, if_pos rfl, r_is hM.1 i_37 (by omega), Option.bind_some]
      by_cases y : tK b n i = 37
      · rw [if_pos y, if_pos y, if_neg (by decide)]
      · rw [if_neg y, if_neg y, if_pos rfl]
  -- a seventh
  have deepF : ∀ (z : tK b n i = 22 ∨ tK b n i = 37), d = 6 → ∃ fk iF, i ≤ iF ∧ iF ≤ N ∧ (∀ T M, CSq x n N b sp T i o u M → Ok (FCq x (kA + 1) 2 d T M) (fun p => CXq x T fk (tP b n iF) (o + iF - i + (6 - d)) M p.2)) ∧ ∀ T M q, RSq m n N b lw T i q M → Ok (FRq m (kB + 1) 2 d T M) (fun p => RXq m T fk (tP b n iF) M p.2) := by
    intro z d6
    refine ⟨fkd n b i 4, i, Nat.le_refl _, hi, fun T M hM => ?_, fun T M q hM => ?_⟩
    · rw [cH T M hM]
      have key : ∀ K : Me → Option (Unit × Me), Ok (Option.bind (fX6_goDeeper T M (x + 2) (nI d)) <| un2 fun r20 M21 => if r20 = 0 then (some ((), M21)) else K M21) (fun p => CXq x T (fkd n b i 4) (tP b n i) (o + i - i + (6 - d)) M p.2) := by
        intro K
        refine Ok.bd (k_deep0 (by rw [d6]) hM.1) (fun p hp => ?_)
        obtain ⟨p1, M1⟩ := p
        obtain ⟨e1, h1, f1, h5⟩ := hp
        have e1 : p1 = 0 := e1
        rw [une2, if_pos e1]
        exact ok_i (CXq.of h1 f1 (h5.trans hM.2.1) (by omega))
      rcases z with z | z
      · rw [if_pos z]; exact key _
      · rw [if_neg (by omega), if_pos z]; exact key _
    · rw [rH T M q hM]
      have key : ∀ K : Me → Option (Unit × Me), Ok (Option.bind (fX12_goesIn T M m (nI d)) <| un2 fun r12 M13 => if r12 = 0 then (some ((), M13)) else K M13) (fun p => RXq m T (fkd n b i 4) (tP b n i) M p.2) := by
        intro K
        refine Ok.bd (r_deep0 (by rw [d6]) hM.1) (fun p hp => ?_)
        obtain ⟨p1, M1⟩ := p
        obtain ⟨e1, h1⟩ := hp
        have e1 : p1 = 0 := e1
        rw [une2, if_pos e1]
        exact ok_i h1
      rcases z with z | z
      · rw [if_pos z]; exact key _
      · rw [if_neg (by omega), if_pos z]; exact key _
  by_cases z22 : tK b n i = 22
  · by_cases d6 : d = 6
    · exact Or.inr (deepF (Or.inl z22) d6)
    have d5 : d < 6 := by omega
    have lt1 := hT.lt hi (by omega) (by omega)
    have cA : ∀ T M, CSq x n N b sp T i o u M → FCq x (kA + 1) 2 d T M = (Option.bind (FCq x kA 2 (d + 1) T (pI M (x + 2) 1 (gI M (x + 2) 1 + 1))) <| un2 fun _u M31 => Option.bind (fX6_put T M31 (x + 2) (nI 8) (0 : Int32)) <| un2 fun r32 M33 => some ((), M33)) := by
      intro T M hM
      rw [cH T M hM, if_pos z22, k_deep1 d5 rfl hM.1.1, Option.bind_some, une2, if_neg (by decide), en]
      rfl
    have rA : ∀ T M q, RSq m n N b lw T i q M → ∀ P : Unit × Me → Prop, (∀ M1, RBq m n N b T (i + 1) M1 → FI m (tq m) M M1 → Ok (Option.bind (FRq m kB 2 (d + 1) T M1) <| un2 fun _u M41 => Option.bind (fX12_codes T M41 m (3006 : Int32)) <| un2 fun _u M42 => some ((), M42)) P) → Ok (FRq m (kB + 1) 2 d T M) P := by
      intro T M q hM P hK
      rw [rH T M q hM, if_pos z22]
      refine Ok.bd (r_deep1 d5 rfl hM.1 (by omega) (by omega)) (fun p hp => ?_)
      obtain ⟨p1, M1⟩ := p
      obtain ⟨e1, h1, f1⟩ := hp
      have e1 : p1 = 1 := e1
      rw [une2, e1, if_neg (by decide), en]
      exact hK M1 h1 f1
    rcases hu d5 (i + 1) o u (by omega) (by omega) with ⟨i2, cc, rc, u2, v, ⟨s1, s2, s3, s4, s5, s6, s7, s8, s9⟩, hc, hr⟩ | ⟨fk, iF, g1, g2, hc, hr⟩
    · obtain ⟨x1, x2⟩ := ex_not s5 (s9 trivial)
      refine Or.inl ⟨i2, cc ++ [enc 8 0], rc ++ [(3006 : Int32)], u2, fun w => 1 - v w, ⟨by omega, s2, by simp only [List.length_append, List.length_cons, List.length_nil]; omega, by simp only [List.length_append, List.length_cons, List.length_nil]; omega, x1, fun w w2 e => by show 1 - v w = 1 - v w2; rw [s6 w w2 e], s7, s8, fun _ => x2⟩, fun T M hM => ?_, fun T M q hM => ?_⟩
      · rw [cA T M hM]
        exact k_opd (cc := []) (o0 := o) hM trivial (by omega) (by omega) hc s3 (fun r M' h => ok_i h)
      · refine rA T M q hM _ (fun M1 h1 f1 => ?_)
        exact r_opd (rc := []) hM h1 f1 trivial hr s4 (fun M' h => ok_i h)
    · refine Or.inr ⟨fk, iF, by omega, g2, fun T M hM => ?_, fun T M q hM => ?_⟩
      · rw [cA T M hM]
        exact k_opdF hM (by omega) (by omega) hc (by omega) (fun r M' h => ok_i (h.up (by omega)))
      · refine rA T M q hM _ (fun M1 h1 f1 => ?_)
        exact r_opdF hM h1 f1 hr (fun M' h => ok_i h)
  by_cases z37 : tK b n i = 37
  · by_cases d6 : d = 6
    · exact Or.inr (deepF (Or.inr z37) d6)
    have d5 : d < 6 := by omega
    have lt1 := hT.lt hi (by omega) (by omega)
    have cA : ∀ T M, CSq x n N b sp T i o u M → FCq x (kA + 1) 2 d T M = (Option.bind (FCq x kA 0 (d + 1) T (pI M (x + 2) 1 (gI M (x + 2) 1 + 1))) <| un2 fun _u M23 => Option.bind (fX6_expect T M23 (x + 2) (93 : Int32)) <| un2 fun _u M24 => some ((), M24)) := by
      intro T M hM
      rw [cH T M hM, if_neg z22, if_pos z37, k_deep1 d5 rfl hM.1.1, Option.bind_some, une2, if_neg (by decide), en]
      rfl
    have rA : ∀ T M q, RSq m n N b lw T i q M → ∀ P : Unit × Me → Prop, (∀ M13, RSq m n N b lw T (i + 1) q M13 → FI m (tq m) M M13 → Ok (Option.bind (FRq m kB 0 (d + 1) T M13) <| un2 fun _u M15 => Option.bind (fX12_eats T M15 m (38 : Int32)) <| un2 fun r16 M17 => if r16 = 0 then (Option.bind (fX12_fails T M17 m (2 : Int32)) <| un2 fun _u M19 => some ((), M19)) else (some ((), M17))) P) → Ok (FRq m (kB + 1) 2 d T M) P := by
      intro T M q hM P hK
      rw [rH T M q hM, if_neg z22, if_pos z37]
      refine Ok.bd (r_deep1 d5 rfl hM.1 (by omega) (by omega)) (fun p hp => ?_)
      obtain ⟨p1, M1⟩ := p
      obtain ⟨e1, h1, f1⟩ := hp
      have e1 : p1 = 1 := e1
      rw [une2, e1, if_neg (by decide), en]
      exact hK M1 (hM.nx h1 f1) f1
    rcases ht d5 (i + 1) o u (by omega) (by omega) with ⟨i2, cc, rc, u2, v, ⟨s1, s2, s3, s4, s5, s6, s7, s8, s9⟩, hc, hr⟩ | ⟨fk, iF, g1, g2, hc, hr⟩
    · by_cases k38 : tK b n i2 = 38
      · have lt2 := hT.lt s2 (by omega) (by omega)
        refine Or.inl ⟨i2 + 1, cc, rc, u2, v, ⟨by omega, by omega, by omega, by omega, s5, s6, s7, s8, s9⟩, fun T M hM => ?_, fun T M q hM => ?_⟩
        · rw [cA T M hM]
          obtain ⟨a1, a2, a3⟩ := k_adv hM (by omega) (by omega)
          refine Ok.bd (hc T _ a1) (fun p hp => ?_)
          obtain ⟨p1, M2⟩ := p
          have hp : CPq x n N b sp T o i2 u2 cc (pI M (x + 2) 1 (gI M (x + 2) 1 + 1)) M2 := hp
          have hA := hp.adv (by omega) (by omega)
          rw [une2, k_expect1 (k := 38) (kk := 93) hp.1.1 rfl k38 (by omega) (by omega), Option.bind_some, une2]
          exact ok_i ⟨hA.1, a2.trans hA.2.1, fun j hj => (hA.2.2.1 j hj).trans (a3 j), hA.2.2.2⟩
        · refine rA T M q hM _ (fun M13 h13 f13 => ?_)
          refine Ok.bd (hr T M13 q h13) (fun p hp => ?_)
          obtain ⟨p1, M2⟩ := p
          have hp : RPq m n N b lw T q i2 rc M13 M2 := hp
          rw [une2]
          refine Ok.bd (r_eats1 hp.1.1 i_38 (by omega) k38 (by omega) (by omega)) (fun p hq => ?_)
          obtain ⟨p1, M3⟩ := p
          obtain ⟨e1, h1, f1⟩ := hq
          have e1 : p1 = 1 := e1
          have hA : RPq m n N b lw T q (i2 + 1) rc M13 M3 := hp.adv h1 f1
          have e4 : ∀ k, gI M13 (m + 4) k = gI M (m + 4) k := fun k => f13.1 _ _ (by unfold tq; omega)
          rw [une2, e1, if_neg (by decide)]
          exact ok_i ⟨hA.1, (f13.wide (fun a k z => tq_rq z)).trans hA.2.1, fun j hj => (hA.2.2.1 j hj).trans (e4 _), hA.2.2.2⟩
      · refine Or.inr ⟨fkd n b i2 2, i2, by omega, s2, fun T M hM => ?_, fun T M q hM => ?_⟩
        · rw [cA T M hM]
          obtain ⟨a1, a2, a3⟩ := k_adv hM (by omega) (by omega)
          refine Ok.bd (hc T _ a1) (fun p hp => ?_)
          obtain ⟨p1, M2⟩ := p
          have hp : CPq x n N b sp T o i2 u2 cc (pI M (x + 2) 1 (gI M (x + 2) 1 + 1)) M2 := hp
          obtain ⟨⟨q1, M3⟩, e3, h3, f3, h5⟩ := k_expect0 (kk := 93) (k := 38) hp.1.1 rfl (by unfold vk; omega) k38
          rw [une2, e3, Option.bind_some, une2]
          exact ok_i (CXq.of h3 ((a2.trans hp.2.1).trans f3) (h5.trans hp.1.2.1) (by omega))
        · refine rA T M q hM _ (fun M13 h13 f13 => ?_)
          refine Ok.bd (hr T M13 q h13) (fun p hp => ?_)
          obtain ⟨p1, M2⟩ := p
          have hp : RPq m n N b lw T q i2 rc M13 M2 := hp
          rw [une2, r_eats0 hp.1.1 i_38 (by omega) k38, Option.bind_some, une2, if_pos rfl, i_2]
          refine Ok.bd (r_fails hp.1.1 (by omega) (by omega)) (fun p hq => ?_)
          obtain ⟨p1, M3⟩ := p
          rw [une2]
          exact ok_i ⟨hq.1, ((f13.wide (fun a k z => tq_rq z)).trans hp.2.1).trans hq.2.1⟩
    · refine Or.inr ⟨fk, iF, by omega, g2, fun T M hM => ?_, fun T M q hM => ?_⟩
      · rw [cA T M hM]
        obtain ⟨a1, a2, a3⟩ := k_adv hM (by omega) (by omega)
        refine Ok.bd (hc T _ a1) (fun p hp => ?_)
        obtain ⟨p1, M2⟩ := p
        have hp : CXq x T fk (tP b n iF) (o + iF - (i + 1) + (6 - (d + 1))) (pI M (x + 2) 1 (gI M (x + 2) 1 + 1)) M2 := hp
        rw [une2, k_expectF (k := 38) (kk := 93) hp.1.1 hp.1.ne rfl (by omega), Option.bind_some, une2]
        exact ok_i ((hp.pre a2).up (by omega))
      · refine rA T M q hM _ (fun M13 h13 f13 => ?_)
        refine Ok.bd (hr T M13 q h13) (fun p hp => ?_)
        obtain ⟨p1, M2⟩ := p
        have hp : RXq m T fk (tP b n iF) M13 M2 := hp
        rw [une2, r_eatsF hp.1.1 hp.1.ne, Option.bind_some, une2, if_pos rfl, r_failsF hp.1.1 hp.1.ne, Option.bind_some, une2]
        exact ok_i ⟨hp.1, (f13.wide (fun a k z => tq_rq z)).trans hp.2⟩
  -- two sums
  have cA : ∀ T M, CSq x n N b sp T i o u M → FCq x (kA + 1) 2 d T M = (Option.bind (FCq x kA 3 d T M) <| un2 fun _u M6 => Option.bind (fX6_kind T M6 (x + 2)) fun r7 => if r7 = (61 : Int32) then (jX6_readUnit_97 (fG6 kA) T M6 (x + 2) (nI d) r7) else (if r7 = (60 : Int32) then (jX6_readUnit_97 (fG6 kA) T M6 (x + 2) (nI d) r7) else (if r7 = (62 : Int32) then (jX6_readUnit_97 (fG6 kA) T M6 (x + 2) (nI d) r7) else (Option.bind (fX6_fail T M6 (x + 2) (2 : Int32)) <| un2 fun _u M22 => some ((), M22))))) := by
    intro T M hM
    rw [cH T M hM, if_neg z22, if_neg z37]
    rfl
  have rA : ∀ T M q, RSq m n N b lw T i q M → FRq m (kB + 1) 2 d T M = (Option.bind (FRq m kB 3 d T M) <| un2 fun _u M6 => Option.bind (fX12_is T M6 m (39 : Int32)) fun r7 => if r7 = 0 then (Option.bind (fX12_is T M6 m (40 : Int32)) fun r9 => if r9 = 0 then (jX12_readUnit_111 (fG12 kB) T M6 m (nI d) (3005 : Int32)) else (jX12_readUnit_111 (fG12 kB) T M6 m (nI d) (3004 : Int32))) else (jX12_readUnit_111 (fG12 kB) T M6 m (nI d) (3003 : Int32))) := by
    intro T M q hM
    rw [rH T M q hM, if_neg z22, if_neg z37]
    rfl
  obtain ⟨kC, eC⟩ : ∃ z, kB = z + 3 := ⟨kB - 3, by omega⟩
  rcases hs i o u hi ho with ⟨i1, ca, ra, u1, va, ⟨s1, s2, s3, s4, s5, s6, s7, s8, s9⟩, hc1, hr1⟩ | ⟨fk, iF, g1, g2, hc, hr⟩
  rotate_left
  · refine Or.inr ⟨fk, iF, g1, g2, fun T M hM => ?_, fun T M q hM => ?_⟩
    · rw [cA T M hM]
      refine Ok.bd (hc T M hM) (fun p hp => ?_)
      obtain ⟨p1, M2⟩ := p
      have hp : CXq x T fk (tP b n iF) (o + iF - i + (6 - d)) M M2 := hp
      rw [une2, k_kindF hp.1.1 hp.1.ne, Option.bind_some, if_neg (by decide), if_neg (by decide), if_neg (by decide), k_failF hp.1.1 hp.1.ne, Option.bind_some, une2]
      exact ok_i hp
    · rw [rA T M q hM]
      refine Ok.bd (hr T M q hM) (fun p hp => ?_)
      obtain ⟨p1, M2⟩ := p
      have hp : RXq m T fk (tP b n iF) M M2 := hp
      unfold jX12_readUnit_111
      rw [une2, r_isF hp.1.1 hp.1.ne, Option.bind_some, if_pos rfl, r_isF hp.1.1 hp.1.ne, Option.bind_some, if_pos rfl, hp.1.1.k, gdI, Option.bind_some, if_pos rfl, Option.bind_some, if_pos rfl, r_isF hp.1.1 hp.1.ne, Option.bind_some, if_pos rfl, r_failsF hp.1.1 hp.1.ne, Option.bind_some, une2, eC, g12F_3 hp.1.1 hp.1.ne, Option.bind_some, une2, r_codesF hp.1.1 hp.1.ne, Option.bind_some, une2]
      exact ok_i hp
  by_cases hcmp : 39 ≤ tK b n i1 ∧ tK b n i1 ≤ 41
  rotate_left
  · refine Or.inr ⟨fkd n b i1 2, i1, by omega, s2, fun T M hM => ?_, fun T M q hM => ?_⟩
    · rw [cA T M hM]
      refine Ok.bd (hc1 T M hM) (fun p hp => ?_)
      obtain ⟨p1, M2⟩ := p
      have hp : CPq x n N b sp T o i1 u1 ca M M2 := hp
      rw [une2, k_kind hp.1.1, Option.bind_some, ck_lit (c := 61) (k := 39) rfl (by unfold vk; omega), if_neg (by omega), ck_lit (c := 60) (k := 40) rfl (by unfold vk; omega), if_neg (by omega), ck_lit (c := 62) (k := 41) rfl (by unfold vk; omega), if_neg (by omega), i_2]
      refine Ok.bd (k_fail hp.1.1 (by omega) (by omega)) (fun p hq => ?_)
      obtain ⟨p1, M3⟩ := p
      obtain ⟨h1, f1, h5⟩ := hq
      rw [une2]
      exact ok_i (CXq.of h1 (hp.2.1.trans f1) (h5.trans hp.1.2.1) (by omega))
    · rw [rA T M q hM]
      refine Ok.bd (hr1 T M q hM) (fun p hp => ?_)
      obtain ⟨p1, M2⟩ := p
      have hp : RPq m n N b lw T q i1 ra M M2 := hp
      have hB := hp.1.1
      have n39 : tK b n i1 ≠ 39 := by omega
      have n40 : tK b n i1 ≠ 40 := by omega
      have n41 : tK b n i1 ≠ 41 := by omega
      unfold jX12_readUnit_111
      rw [une2, r_is hB i_39 (by omega), if_neg n39, Option.bind_some, if_pos rfl, r_is hB i_40 (by omega), if_neg n40, Option.bind_some, if_pos rfl, hB.1.1.k, gdI, Option.bind_some, if_pos rfl, Option.bind_some, if_pos rfl, r_is hB i_41 (by omega), if_neg n41, Option.bind_some, if_pos rfl, i_2]
      refine Ok.bd (r_fails hB (by omega) (by omega)) (fun p hq => ?_)
      obtain ⟨p1, M3⟩ := p
      obtain ⟨h3, f3, _⟩ := hq
      have h3 : RFl m T (fkd n b i1 2) (tP b n i1) M3 := h3
      rw [une2, eC, g12F_3 h3.1 h3.ne, Option.bind_some, une2, r_codesF h3.1 h3.ne, Option.bind_some, une2]
      exact ok_i ⟨h3, hp.2.1.trans f3⟩
  obtain ⟨j, hj3, hj6, ej⟩ : ∃ j, 3 ≤ j ∧ j < 6 ∧ tK b n i1 = 36 + j := ⟨tK b n i1 - 36, by omega, by omega, by omega⟩
  have lt1 := hT.lt s2 (by omega) (by omega)
  have cB : ∀ T M, CSq x n N b sp T i o u M → ∃ M6, CPq x n N b sp T o i1 u1 ca M M6 ∧ FCq x (kA + 1) 2 d T M = (Option.bind (FCq x kA 3 d T (pI M6 (x + 2) 1 (gI M6 (x + 2) 1 + 1))) <| un2 fun _u M11 => Option.bind (fX6_put T M11 (x + 2) (nI (2 + j)) 0) <| un2 fun r18 M19 => some ((), M19)) := by
    intro T M hM
    obtain ⟨⟨p1, M6⟩, e6, hp⟩ := hc1 T M hM
    have hp : CPq x n N b sp T o i1 u1 ca M M6 := hp
    refine ⟨M6, hp, ?_⟩
    rw [cA T M hM, e6, Option.bind_some, une2, k_kind hp.1.1, Option.bind_some]
    unfold jX6_readUnit_97
    rw [hp.1.1.1.k2, gdI, lte]
    rcases (by omega : j = 3 ∨ j = 4 ∨ j = 5) with rfl | rfl | rfl
    · rw [ej, if_pos (by decide)]
      simp only [if_pos (show ck (36 + 3) = (61 : Int32) by decide)]
      rfl
    · rw [ej, if_neg (by decide), if_pos (by decide)]
      simp only [if_neg (show ¬ ck (36 + 4) = (61 : Int32) by decide), if_pos (show ck (36 + 4) = (60 : Int32) by decide)]
      rfl
    · rw [ej, if_neg (by decide), if_neg (by decide), if_pos (by decide)]
      simp only [if_neg (show ¬ ck (36 + 5) = (61 : Int32) by decide), if_neg (show ¬ ck (36 + 5) = (60 : Int32) by decide)]
      rfl
  have rB2 : ∀ T M q, RSq m n N b lw T i q M → ∀ P : Unit × Me → Prop, (∀ M6 M14, RPq m n N b lw T q i1 ra M M6 → RBq m n N b T (i1 + 1) M14 → FI m (tq m) M6 M14 → Ok (Option.bind (FRq m kB 3 d T M14) <| un2 fun _u M15 => Option.bind (fX12_codes T M15 m (nI (3000 + j))) <| un2 fun _u M16 => some ((), M16)) P) → Ok (FRq m (kB + 1) 2 d T M) P := by
    intro T M q hM P hK
    rw [rA T M q hM]
    refine Ok.bd (hr1 T M q hM) (fun p hp => ?_)
    obtain ⟨p1, M6⟩ := p
    have hp : RPq m n N b lw T q i1 ra M M6 := hp
    have hB := hp.1.1
    have nx : ∀ kk : Int32, kk = nI (3000 + j) → Ok (Option.bind (fX12_next T M6 m) <| un2 fun _u M14 => Option.bind (fG12 kB 3 T M14 m (nI d)) <| un2 fun _u M15 => Option.bind (fX12_codes T M15 m kk) <| un2 fun _u M16 => some ((), M16)) P := by
      intro kk e
      refine Ok.bd (r_next hB (by omega) (by omega)) (fun p hq => ?_)
      obtain ⟨p1, M14⟩ := p
      rw [une2, e]
      exact hK M6 M14 hp hq.1 hq.2
    unfold jX12_readUnit_111
    rcases (by omega : j = 3 ∨ j = 4 ∨ j = 5) with rfl | rfl | rfl
    · rw [une2, r_is hB i_39 (by omega), if_pos ej, Option.bind_some, if_neg (by decide), hB.1.1.k, gdI, Option.bind_some, if_neg (by decide)]
      exact nx _ rfl
    · rw [une2, r_is hB i_39 (by omega), if_neg (by omega), Option.bind_some, if_pos rfl, r_is hB i_40 (by omega), if_pos ej, Option.bind_some, if_neg (by decide), hB.1.1.k, gdI, Option.bind_some, if_pos rfl, Option.bind_some, if_neg (by decide)]
      exact nx _ rfl
    · rw [une2, r_is hB i_39 (by omega), if_neg (by omega), Option.bind_some, if_pos rfl, r_is hB i_40 (by omega), if_neg (by omega), Option.bind_some, if_pos rfl, hB.1.1.k, gdI, Option.bind_some, if_pos rfl, Option.bind_some, if_pos rfl, r_is hB i_41 (by omega), if_pos ej, Option.bind_some, if_neg (by decide)]
      exact nx _ rfl
  rcases hs (i1 + 1) (o + ca.length) u1 (by omega) (by omega) with ⟨i2, cb2, rb, u2, vb, ⟨t1, t2, t3, t4, t5, t6, t7, t8, t9⟩, hc2, hr2⟩ | ⟨fk, iF, g1, g2, hc, hr⟩
  · refine Or.inl ⟨i2, ca ++ cb2 ++ [enc (2 + j) 0], ra ++ rb ++ [nI (3000 + j)], u2, fun w => btw (nI (3000 + j)) (va w) (vb w), ⟨by omega, t2, ?_, ?_, ex_bin hj6 s5 t5 (by omega) hQ, ?_, s7.trans t7, ?_, fun _ w => btw_tv hj3 hj6 _ _⟩, fun T M hM => ?_, fun T M q hM => ?_⟩
    · simp only [List.length_append, List.length_cons, List.length_nil]; omega
    · simp only [List.length_append, List.length_cons, List.length_nil]; omega
    · intro w w2 e
      show btw (nI (3000 + j)) (va w) (vb w) = btw (nI (3000 + j)) (va w2) (vb w2)
      rw [s6.um t7 w w2 e, t6 w w2 e]
    · intro a ha e
      rcases t8 a ha e with z | z
      · exact s8 a ha z
      · exact Or.inr z
    · obtain ⟨M6, h6, e6⟩ := cB T M hM
      rw [e6]
      exact k_opd h6.1 h6.2.2.2 (by omega) (by omega) hc2 t3 (fun r M' h => ok_i (h6.trans h))
    · refine rB2 T M q hM _ (fun M6 M14 h6 h14 f14 => ?_)
      exact r_opd h6.1 h14 f14 h6.2.2.2 hr2 t4 (fun M' h => ok_i (h6.trans h))
  · refine Or.inr ⟨fk, iF, by omega, g2, fun T M hM => ?_, fun T M q hM => ?_⟩
    · obtain ⟨M6, h6, e6⟩ := cB T M hM
      rw [e6]
      exact k_opdF h6.1 (by omega) (by omega) hc (by omega) (fun r M' h => ok_i ((h.pre h6.2.1).up (by omega)))
    · refine rB2 T M q hM _ (fun M6 M14 h6 h14 f14 => ?_)
      exact r_opdF h6.1 h14 f14 hr (fun M' h => ok_i ⟨h.1, h6.2.1.trans h.2⟩)
/-- all depths -/
theorem j_all (hN : N ≤ 900) (hT : TN n b N) (hlw : lw < 3) (hsp : sp = spO lw) : ∀ (e d : Nat), d + e = 6 → ∀ kc kr, 7 * e + 7 ≤ kc → 7 * e + 7 ≤ kr → JEq x m n N b lw sp True (3 * e + 4) d (FCq x kc 0 d) (FRq m kr 0 d) ∧ JEq x m n N b lw sp False (3 * e + 3) d (FCq x kc 3 d) (FRq m kr 3 d) ∧ JEq x m n N b lw sp True (3 * e + 4) d (FCq x kc 2 d) (FRq m kr 2 d) := by
  intro e
  induction e with
  | zero =>
    intro d hd kc kr h1 h2
    have at6 : ∀ kA kB, 1 ≤ kB → JEq x m n N b lw sp False 1 d (FCq x (kA + 1) 5 d) (FRq m (kB + 1) 5 d) := fun kA kB hk => j_atom hN hT hlw hsp (by omega) hk (Nat.le_refl _) (fun z => absurd z (by omega)) (fun z => absurd z (by omega))
    have sm6 : ∀ kA kB, 1 ≤ kB → JEq x m n N b lw sp False 3 d (FCq x (kA + 3) 3 d) (FRq m (kB + 3) 3 d) := fun kA kB hk => j_sum hN hT (j_term hN hT (at6 kA kB hk))
    have un6 : ∀ kA kB, 1 ≤ kB → JEq x m n N b lw sp True 4 d (FCq x (kA + 4) 2 d) (FRq m (kB + 4) 2 d) := fun kA kB hk => j_unit hN hT (by omega) (by omega) (by omega) (by omega) (sm6 kA kB hk) (fun z => absurd z (by omega)) (fun z => absurd z (by omega))
    have tr6 : ∀ kA kB, 1 ≤ kB → JEq x m n N b lw sp True 4 d (FCq x (kA + 6) 0 d) (FRq m (kB + 6) 0 d) := fun kA kB hk => j_truth hN hT (j_both hN hT (un6 kA kB hk))
    refine ⟨?_, ?_, ?_⟩
    · obtain ⟨a, rfl⟩ : ∃ a, kc = a + 6 := ⟨kc - 6, by omega⟩
      obtain ⟨c, rfl⟩ : ∃ a, kr = a + 6 := ⟨kr - 6, by omega⟩
      exact tr6 a c (by omega)
    · obtain ⟨a, rfl⟩ : ∃ a, kc = a + 3 := ⟨kc - 3, by omega⟩
      obtain ⟨c, rfl⟩ : ∃ a, kr = a + 3 := ⟨kr - 3, by omega⟩
      exact sm6 a c (by omega)
    · obtain ⟨a, rfl⟩ : ∃ a, kc = a + 4 := ⟨kc - 4, by omega⟩
      obtain ⟨c, rfl⟩ : ∃ a, kr = a + 4 := ⟨kr - 4, by omega⟩
      exact un6 a c (by omega)
  | succ e ih =>
    intro d hd kc kr h1 h2
    have at6 : ∀ kA kB, 7 * e + 8 ≤ kA → 7 * e + 8 ≤ kB → JEq x m n N b lw sp False (3 * e + 4) d (FCq x (kA + 1) 5 d) (FRq m (kB + 1) 5 d) := fun kA kB k1 k2 => by
      refine j_atom hN hT hlw hsp (by omega) (by omega) (by omega) (fun z => (ih (d + 1) (by omega) kA kB (by omega) (by omega)).2.1.upQ (by omega)) (fun z => ⟨kA - 7, kB - 7, by omega, by omega, (ih (d + 1) (by omega) _ _ (by omega) (by omega)).1, (ih (d + 1) (by omega) _ _ (by omega) (by omega)).2.1.upQ (by omega)⟩)
    have sm6 : ∀ kA kB, 7 * e + 8 ≤ kA → 7 * e + 8 ≤ kB → JEq x m n N b lw sp False (3 * e + 6) d (FCq x (kA + 3) 3 d) (FRq m (kB + 3) 3 d) := fun kA kB k1 k2 => j_sum hN hT (j_term hN hT (at6 kA kB k1 k2))
    have un6 : ∀ kA kB, 7 * e + 8 ≤ kA → 7 * e + 8 ≤ kB → JEq x m n N b lw sp True (3 * e + 7) d (FCq x (kA + 4) 2 d) (FRq m (kB + 4) 2 d) := fun kA kB k1 k2 => j_unit hN hT (by omega) (by omega) (by omega) (by omega) (sm6 kA kB k1 k2) (fun z => (ih (d + 1) (by omega) _ _ (by omega) (by omega)).2.2.upQ (by omega)) (fun z => (ih (d + 1) (by omega) _ _ (by omega) (by omega)).1.upQ (by omega))
    have tr6 : ∀ kA kB, 7 * e + 8 ≤ kA → 7 * e + 8 ≤ kB → JEq x m n N b lw sp True (3 * e + 7) d (FCq x (kA + 6) 0 d) (FRq m (kB + 6) 0 d) := fun kA kB k1 k2 => j_truth hN hT (j_both hN hT (un6 kA kB k1 k2))
    refine ⟨?_, ?_, ?_⟩
    · obtain ⟨a, rfl⟩ : ∃ a, kc = a + 6 := ⟨kc - 6, by omega⟩
      obtain ⟨c, rfl⟩ : ∃ a, kr = a + 6 := ⟨kr - 6, by omega⟩
      exact (tr6 a c (by omega) (by omega)).upQ (by omega)
    · obtain ⟨a, rfl⟩ : ∃ a, kc = a + 3 := ⟨kc - 3, by omega⟩
      obtain ⟨c, rfl⟩ : ∃ a, kr = a + 3 := ⟨kr - 3, by omega⟩
      exact (sm6 a c (by omega) (by omega)).upQ (by omega)
    · obtain ⟨a, rfl⟩ : ∃ a, kc = a + 4 := ⟨kc - 4, by omega⟩
      obtain ⟨c, rfl⟩ : ∃ a, kr = a + 4 := ⟨kr - 4, by omega⟩
      exact (un6 a c (by omega) (by omega)).upQ (by omega)
end
