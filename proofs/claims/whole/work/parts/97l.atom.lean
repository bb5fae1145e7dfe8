section
variable {x m n N lw i o q d : Nat} {b : Nat → Nat} {sp u : Int32} {T : Sh} {M M1 M2 : Me}
def spO (lw : Nat) : Int32 := if lw = 0 then 31 else if lw = 1 then 21 else 32
def wj (k : Nat) : Nat := [9, 9, 9, 2, 9, 1, 9, 9, 9, 9, 9, 9, 9, 9, 9, 9, 0, 3, 4, 5].getD k 9
def wOk (lw k : Nat) : Prop := wj k < 6 ∧ al lw (wj k) = true
theorem wO_pure : ∀ lw, lw < 3 → ∀ k, k < 42 → (if nI lw = (2 : Int32) then (if nI lw = 0 then jX12_wordOf_26 (0, 0, (fun _ => 0), fun _ => 0) ((fun _ _ => 0), (fun _ _ => 0), fun _ _ => none) (nI k) 1 1 else jX12_wordOf_26 (0, 0, (fun _ => 0), fun _ => 0) ((fun _ _ => 0), (fun _ _ => 0), fun _ _ => none) (nI k) 1 0) else (if nI lw = 0 then jX12_wordOf_26 (0, 0, (fun _ => 0), fun _ => 0) ((fun _ _ => 0), (fun _ _ => 0), fun _ _ => none) (nI k) 0 1 else jX12_wordOf_26 (0, 0, (fun _ => 0), fun _ => 0) ((fun _ _ => 0), (fun _ _ => 0), fun _ _ => none) (nI k) 0 0)) = some (if wj k < 6 ∧ al lw (wj k) = true then nI (wj k) else -1) := by decide +kernel
theorem r_word {k : Nat} {kk : Int32} (hm : RM m T M) (h15 : gI M m 15 = nI lw) (hl : lw < 3) (hk : k < 42) (ek : kk = nI k) : fX12_wordOf T M m kk = some (if wj k < 6 ∧ al lw (wj k) = true then nI (wj k) else -1) := by
  rw [← wO_pure lw hl k hk, ek]
  unfold fX12_wordOf jX12_wordOf_13
  rw [hm.k, gdI, gdI, gdI, h15]
  rfl
theorem w_ck : ∀ k, k < 42 → (wj k < 6 ∧ ck k = nI (200 + wj k)) ∨ (¬ wj k < 6 ∧ (ck k < 200 ∨ (205 : Int32) < ck k)) := by decide +kernel
theorem sp_al : ∀ lw, lw < 3 → ∀ j, j < 6 → ((((spO lw) >>> (nI j &&& 31)) &&& (1 : Int32)) = 0 ↔ ¬ al lw j = true) := by decide +kernel
theorem bt_2 : ∀ j, j < 6 → ∀ a, a < 6 → bt (nI (2 ^ j)) a = decide (a = j) := by decide +kernel
theorem n_lt200 : ∀ j, j < 6 → ¬ nI (200 + j) < 200 ∧ ¬ (205 : Int32) < nI (200 + j) ∧ nI (200 + j) - 200 = nI j := by decide +kernel
theorem JEq.upQ {tr : Prop} {Q Q2 : Nat} {fc fr : Sh → Me → Option (Unit × Me)} (h : JEq x m n N b lw sp tr Q d fc fr) (hQ : Q ≤ Q2) : JEq x m n N b lw sp tr Q2 d fc fr := by
  intro i o u hi ho
  rcases h i o u hi ho with ⟨i2, cc, rc, u2, v, hS, hc, hr⟩ | hF
  · exact Or.inl ⟨i2, cc, rc, u2, v, ⟨hS.1, hS.2.1, hS.2.2.1, hS.2.2.2.1, hS.2.2.2.2.1.up hQ, hS.2.2.2.2.2⟩, hc, hr⟩
  · exact Or.inr hF
theorem k_piece {e u2 : Int32} (h : CSq x n N b sp T i o u M) (h1 : tK b n i ≠ 26) (h2 : tK b n i ≠ 27) (f : LFr x M M2) (g1 : gI M2 (x + 2) 1 = nI i) (g2 : gI M2 (x + 2) 2 = 0) (g3 : gI M2 (x + 2) 3 = gI M (x + 2) 3) (g5 : gI M2 (x + 2) 5 = nI (o + 1)) (g7 : gI M2 (x + 2) 7 = u2) (gc : ∀ j, j < o → gI M2 (x + 7) j = gI M (x + 7) j) (ge : gI M2 (x + 7) o = e) : CPq x n N b sp T o (i + 1) u2 [e] M (pI M2 (x + 2) 1 (gI M2 (x + 2) 1 + 1)) := by
  have f2 : LFr x M (pI M2 (x + 2) 1 (gI M2 (x + 2) 1 + 1)) := lfr_2 f (by omega)
  have hlt := h.1.2.2.2.2.2.1.lt h.1.2.2.2.2.1 h1 h2
  have h8 := h.2.2.2.2
  refine ⟨⟨⟨h.1.1.lf f2, h.1.2.1.lf f2, by rw [mII1, g1, nI_1], (mIIk (by omega)).trans g2, by omega, h.1.2.2.2.2.2.1, h.1.2.2.2.2.2.2.1, ((mIIk (by omega)).trans g3).trans h.1.2.2.2.2.2.2.2⟩, (mIIk (by omega)).trans g5, (f2.1 _ _ (by omega) (by omega)).trans h.2.2.1, (mIIk (by omega)).trans g7, ?_⟩, f2, fun j hj => (mIIn (by omega)).trans (gc j hj), (mIIn (by omega)).trans ge, trivial⟩
  simp only [List.length_cons, List.length_nil]; omega
theorem r_piece {kk : Int32} (h : RSq m n N b lw T i q M) (h1 : tK b n i ≠ 26) (h2 : tK b n i ≠ 27) : Ok (Option.bind (fX12_codes T M m kk) <| un2 fun _u M25 => Option.bind (fX12_next T M25 m) <| un2 fun _u M26 => some ((), M26)) (fun p => RPq m n N b lw T q (i + 1) [kk] M p.2) := by
  have h900 := h.n9
  obtain ⟨⟨t, e6, e7, e9, e10, e11, hi, hN⟩, hq, h15, h8, hn, hz⟩ := h
  have f : FI m (rq m) M (pI (pI M (m + 4) (132 + q) kk) (m + 4) 131 (nI (q + 1))) := (FI.rfl.pI (Or.inr ⟨rfl, by omega⟩)).pI (Or.inr ⟨rfl, by omega⟩)
  have g : ∀ k, gI (pI (pI M (m + 4) (132 + q) kk) (m + 4) 131 (nI (q + 1))) m k = gI M m k := fun k => by rw [mIIn (by omega), mIIn (by omega)]
  have g131 : gI (pI (pI M (m + 4) (132 + q) kk) (m + 4) 131 (nI (q + 1))) (m + 4) 131 = nI (q + 1) := mII1
  have gq : gI (pI (pI M (m + 4) (132 + q) kk) (m + 4) 131 (nI (q + 1))) (m + 4) (132 + q) = kk := by rw [mIIk (by omega), mII1]
  have go : ∀ j, j < q → gI (pI (pI M (m + 4) (132 + q) kk) (m + 4) 131 (nI (q + 1))) (m + 4) (132 + j) = gI M (m + 4) (132 + j) := fun j hj => by rw [mIIk (by omega), mIIk (by omega)]
  have gz : ∀ j, q + 1 ≤ j → j < 900 → gI (pI (pI M (m + 4) (132 + q) kk) (m + 4) 131 (nI (q + 1))) (m + 4) (132 + j) = 0 := fun j a1 a2 => by rw [mIIk (by omega), mIIk (by omega)]; exact hz j (by omega) a2
  rw [r_codes t.1 e11 hq (by omega), Option.bind_some, une2]
  generalize pI (pI M (m + 4) (132 + q) kk) (m + 4) 131 (nI (q + 1)) = M1 at f g g131 gq go gz
  have hB : RBq m n N b T i M1 := ⟨t.rqf f, (g _).trans e6, (g _).trans e7, (g _).trans e9, fun z => (g _).trans (e10 z), (g _).trans e11, hi, hN⟩
  refine Ok.bd (r_next hB h1 h2) (fun p hp => ?_)
  obtain ⟨p1, M2⟩ := p
  obtain ⟨h3, f3⟩ := hp
  have f3 : FI m (tq m) M1 M2 := f3
  have e4 : ∀ k, gI M2 (m + 4) k = gI M1 (m + 4) k := fun k => f3.1 _ _ (by unfold tq; omega)
  rw [une2]
  exact ok_i ⟨⟨h3, (e4 _).trans g131, (f3.1 _ _ (by unfold tq; omega)).trans ((g _).trans h15), by simp only [List.length_cons, List.length_nil]; omega, hn, fun j a1 a2 => (e4 _).trans (gz j a1 a2)⟩, f.trans (f3.wide (fun a k z => tq_rq z)), fun j hj => (e4 _).trans (go j hj), (e4 _).trans gq, trivial⟩
theorem j_atom {kA kB Q : Nat} (hN : N ≤ 900) (hT : TN n b N) (hlw : lw < 3) (hsp : sp = spO lw) (hd : d ≤ 6) (hkB : 1 ≤ kB) (hQ : 1 ≤ Q) (hp : d < 6 → JEq x m n N b lw sp False Q (d + 1) (FCq x kA 3 (d + 1)) (FRq m kB 3 (d + 1))) (hif : d < 6 → ∃ kc kr, kA = kc + 7 ∧ kB = kr + 7 ∧ JEq x m n N b lw sp True Q (d + 1) (FCq x (kc + 6) 0 (d + 1)) (FRq m (kr + 6) 0 (d + 1)) ∧ JEq x m n N b lw sp False Q (d + 1) (FCq x (kc + 6) 3 (d + 1)) (FRq m (kr + 6) 3 (d + 1))) : JEq x m n N b lw sp False Q d (FCq x (kA + 1) 5 d) (FRq m (kB + 1) 5 d) := by
  have en : nI d + (1 : Int32) = nI (d + 1) := nI_1 d
  intro i o u hi ho
  have hkv : vk (tK b n i) := tK_v i
  have k42 : tK b n i < 42 := (vk_42 hkv).1
  -- a number
  by_cases k25 : tK b n i = 25
  · have hv := tV_b k25
    have lt1 := hT.lt hi (by omega) (by omega)
    refine Or.inl ⟨i + 1, [enc 0 (tV b n i)], [nI (tV b n i)], u, fun _ => nI (tV b n i), ⟨by omega, by omega, by simp only [List.length_cons, List.length_nil]; omega, by simp only [List.length_cons, List.length_nil]; omega, (ex_num hv).up hQ, fun _ _ _ => rfl, UM.rfl, fun _ _ z => Or.inl z, fun z => z.elim⟩, fun T M hM => ?_, fun T M q hM => ?_⟩
    · show Ok (hX6_readAtom (fG6 kA) T M (x + 2) (nI d)) _
      have h9 := hM.n9
      have hpx := hM.1.1
      unfold hX6_readAtom
      rw [hpx.k2, gdI, k_kind hM.1, Option.bind_some, ck_lit (c := 1) (k := 25) rfl (by unfold vk; omega), if_pos k25, hpx.r2_0, Option.bind_some, hpx.k3, gdI, hpx.r3_2, Option.bind_some, hpx.k6, gdI, hM.1.2.2.1, hpx.l6, gvI (by omega) (by omega), cl_nI (by omega), (hM.1.2.1 i (by omega)).2.2 k25]
      show Ok (Option.bind (fX6_put T M (x + 2) (nI 0) (nI (tV b n i))) _) _
      rw [k_put hpx hM.2.1 (by omega) rfl, Option.bind_some, une2, lte]
      refine ok_i (k_piece hM (by omega) (by omega) (lfr_2 (lfr_7 LFr.rfl) (by omega)) ?_ ?_ (by rw [mIIk (by omega), mIIn (by omega)]) mII1 ?_ (fun j hj => ?_) ?_)
      · rw [mIIk (by omega), mIIn (by omega)]; exact hM.1.2.2.1
      · rw [mIIk (by omega), mIIn (by omega)]; exact hM.1.2.2.2.1
      · rw [mIIk (by omega), mIIn (by omega)]; exact hM.2.2.2.1
      · rw [mIIn (by omega), mIIk (by omega)]
      · rw [mIIn (by omega), mII1]
    · show Ok (hX12_readAtom (fG12 kB) T M m (nI d)) _
      unfold hX12_readAtom
      rw [hM.1.1.1.k, gdI, r_is hM.1 i_25 (by omega), if_pos k25, Option.bind_some, if_neg (by decide), hM.1.2.2.2.2.1 k25]
      exact r_piece hM (by omega) (by omega)
  -- what the class does with other tokens
  have cH : ∀ T M, CSq x n N b sp T i o u M → hX6_readAtom (fG6 kA) T M (x + 2) (nI d) = if tK b n i = 35 then (Option.bind (fX6_goDeeper T M (x + 2) (nI d)) <| un2 fun r20 M21 => if r20 = 0 then (some ((), M21)) else (Option.bind (fG6 kA 3 T M21 (x + 2) (nI d + (1 : Int32))) <| un2 fun _u M23 => Option.bind (fX6_expect T M23 (x + 2) (41 : Int32)) <| un2 fun _u M24 => some ((), M24))) else if tK b n i = 12 then (Option.bind (fX6_goDeeper T M (x + 2) (nI d)) <| un2 fun r16 M17 => if r16 = 0 then (some ((), M17)) else (Option.bind (fG6 kA 6 T M17 (x + 2) (nI d + (1 : Int32))) <| un2 fun _u M19 => some ((), M19))) else if wj (tK b n i) < 6 ∧ al lw (wj (tK b n i)) = true then (Option.bind (fX6_put T M (x + 2) (1 : Int32) (nI (wj (tK b n i)))) <| un2 fun r12 M13 => lt (pI M13 (x + 2) 7 ((gI M13 (x + 2) 7) ||| nI (2 ^ wj (tK b n i)))) fun M14 => lt (pI M14 (x + 2) 1 ((gI M14 (x + 2) 1) + (1 : Int32))) fun M15 => some ((), M15)) else (Option.bind (fX6_fail T M (x + 2) (2 : Int32)) <| un2 fun _u M9 => some ((), M9)) := by
    intro T M hM
    unfold hX6_readAtom
    rw [hM.1.1.k2, gdI, k_kind hM.1, Option.bind_some, ck_lit (c := 1) (k := 25) rfl (by unfold vk; omega), if_neg k25, ck_lit (c := 40) (k := 35) rfl (by unfold vk; omega), ck_lit (c := 216) (k := 12) rfl (by unfold vk; omega), hM.2.2.1]
    by_cases z35 : tK b n i = 35
    · rw [if_pos z35, if_pos z35]
    rw [if_neg z35, if_neg z35]
    by_cases z12 : tK b n i = 12
    · rw [if_pos z12, if_pos z12]
    rw [if_neg z12, if_neg z12]
    rcases w_ck _ k42 with ⟨hw, w1⟩ | ⟨hw, w2⟩
    · obtain ⟨l1, l2, l3⟩ := n_lt200 _ hw
      rw [w1, if_neg l1, if_neg l2, l3, sh_nI (by omega)]
      have ha := sp_al lw hlw _ hw
      rw [← hsp] at ha
      by_cases ya : al lw (wj (tK b n i)) = true
      · rw [if_neg (fun e => (ha.mp e) ya), if_pos ⟨hw, ya⟩]
      · rw [if_pos (ha.mpr ya), if_neg (fun e => ya e.2)]
    · have nw : ¬ (wj (tK b n i) < 6 ∧ al lw (wj (tK b n i)) = true) := fun e => hw e.1
      rw [if_neg nw]
      rcases w2 with l | l
      · rw [if_pos l]
      · by_cases l0 : ck (tK b n i) < 200
        · rw [if_pos l0]
        · rw [if_neg l0, if_pos l]
  have rH : ∀ T M q, RSq m n N b lw T i q M → hX12_readAtom (fG12 kB) T M m (nI d) = if wj (tK b n i) < 6 ∧ al lw (wj (tK b n i)) = true then (Option.bind (fX12_codes T M m (nI (1000 + wj (tK b n i)))) <| un2 fun _u M23 => Option.bind (fX12_next T M23 m) <| un2 fun _u M24 => some ((), M24)) else if tK b n i = 35 then (Option.bind (fX12_goesIn T M m (nI d)) <| un2 fun r12 M13 => if r12 = 0 then (some ((), M13)) else (Option.bind (fG12 kB 3 T M13 m (nI d + (1 : Int32))) <| un2 fun _u M15 => Option.bind (fX12_eats T M15 m (36 : Int32)) <| un2 fun r16 M17 => if r16 = 0 then (Option.bind (fX12_fails T M17 m (2 : Int32)) <| un2 fun _u M19 => some ((), M19)) else (some ((), M17)))) else if tK b n i = 12 then (Option.bind (fG12 kB 6 T M m (nI d)) <| un2 fun _u M11 => some ((), M11)) else (Option.bind (fX12_fails T M m (2 : Int32)) <| un2 fun _u M10 => some ((), M10)) := by
    intro T M q hM
    unfold hX12_readAtom jX12_readAtom_66
    rw [hM.1.1.1.k, gdI, r_is hM.1 i_25 (by omega), if_neg k25, Option.bind_some, if_pos rfl, hM.1.2.2.2.2.2.1, if_pos rfl, hM.1.2.2.2.1, r_word hM.1.1.1 hM.2.2.1 hlw k42 rfl, Option.bind_some]
    by_cases hw : wj (tK b n i) < 6 ∧ al lw (wj (tK b n i)) = true
    · rw [if_pos hw, if_pos hw, if_neg (i_ne1 _ (by omega)), Option.bind_some, i_1000, nI_add]
    · rw [if_neg hw, if_neg hw, if_pos rfl, gdI, r_is hM.1 i_35 (by omega), Option.bind_some]
      by_cases z35 : tK b n i = 35
      · rw [if_pos z35, if_pos z35, if_neg (by decide)]
      · rw [if_neg z35, if_neg z35, if_pos rfl, r_is hM.1 i_12 (by omega), Option.bind_some]
        by_cases z12 : tK b n i = 12
        · rw [if_pos z12, if_pos z12, if_neg (by decide)]
        · rw [if_neg z12, if_neg z12, if_pos rfl]
  -- a seventh
  have deepF : ∀ (z : tK b n i = 35 ∨ tK b n i = 12), d = 6 → ∃ fk iF, i ≤ iF ∧ iF ≤ N ∧ (∀ T M, CSq x n N b sp T i o u M → Ok (FCq x (kA + 1) 5 d T M) (fun p => CXq x T fk (tP b n iF) (o + iF - i + (6 - d)) M p.2)) ∧ ∀ T M q, RSq m n N b lw T i q M → Ok (FRq m (kB + 1) 5 d T M) (fun p => RXq m T fk (tP b n iF) M p.2) := by
    intro z d6
    have nw : ¬ (wj (tK b n i) < 6 ∧ al lw (wj (tK b n i)) = true) := by
      rcases z with z | z <;> rw [z] <;> exact fun e => absurd e.1 (by decide)
    refine ⟨fkd n b i 4, i, Nat.le_refl _, hi, fun T M hM => ?_, fun T M q hM => ?_⟩
    · show Ok (hX6_readAtom (fG6 kA) T M (x + 2) (nI d)) _
      rw [cH T M hM]
      have key : ∀ K : Me → Option (Unit × Me), Ok (Option.bind (fX6_goDeeper T M (x + 2) (nI d)) <| un2 fun r20 M21 => if r20 = 0 then (some ((), M21)) else K M21) (fun p => CXq x T (fkd n b i 4) (tP b n i) (o + i - i + (6 - d)) M p.2) := by
        intro K
        refine Ok.bd (k_deep0 (by rw [d6]) hM.1) (fun p hp => ?_)
        obtain ⟨p1, M1⟩ := p
        obtain ⟨e1, h1, f1, h5⟩ := hp
        have e1 : p1 = 0 := e1
        rw [une2, if_pos e1]
        exact ok_i (CXq.of h1 f1 (h5.trans hM.2.1) (by omega))
      rcases z with z | z
      · rw [if_pos z]; exact key _
      · rw [if_neg (by omega), if_pos z]; exact key _
    · show Ok (hX12_readAtom (fG12 kB) T M m (nI d)) _
      rw [rH T M q hM, if_neg nw]
      rcases z with z | z
      · rw [if_pos z]
        refine Ok.bd (r_deep0 (by rw [d6]) hM.1) (fun p hp => ?_)
        obtain ⟨p1, M1⟩ := p
        obtain ⟨e1, h1⟩ := hp
        have e1 : p1 = 0 := e1
        rw [une2, if_pos e1]
        exact ok_i h1
      · rw [if_neg (by omega), if_pos z]
        have hG : Ok (fG12 kB 6 T M m (nI d)) (fun p => RXq m T (fkd n b i 4) (tP b n i) M p.2) := by
          obtain ⟨kz, rfl⟩ : ∃ z, kB = z + 1 := ⟨kB - 1, by omega⟩
          show Ok (hX12_readIf (fG12 kz) T M m (nI d)) _
          unfold hX12_readIf
          rw [hM.1.1.1.k, gdI]
          refine Ok.bd (r_deep0 (by rw [d6]) hM.1) (fun p hp => ?_)
          obtain ⟨p1, M1⟩ := p
          obtain ⟨e1, h1⟩ := hp
          have e1 : p1 = 0 := e1
          rw [une2, if_pos e1]
          exact ok_i h1
        refine Ok.bd hG (fun p hp => ?_)
        obtain ⟨p1, M1⟩ := p
        rw [une2]
        exact ok_i hp
  by_cases z35 : tK b n i = 35
  · by_cases d6 : d = 6
    · exact Or.inr (deepF (Or.inl z35) d6)
    have d5 : d < 6 := by omega
    have nw : ¬ (wj (tK b n i) < 6 ∧ al lw (wj (tK b n i)) = true) := by rw [z35]; exact fun e => absurd e.1 (by decide)
    have lt1 := hT.lt hi (by omega) (by omega)
    have cA : ∀ T M, CSq x n N b sp T i o u M → FCq x (kA + 1) 5 d T M = (Option.bind (FCq x kA 3 (d + 1) T (pI M (x + 2) 1 (gI M (x + 2) 1 + 1))) <| un2 fun _u M23 => Option.bind (fX6_expect T M23 (x + 2) (41 : Int32)) <| un2 fun _u M24 => some ((), M24)) := by
      intro T M hM
      show hX6_readAtom (fG6 kA) T M (x + 2) (nI d) = _
      rw [cH T M hM, if_pos z35, k_deep1 d5 rfl hM.1.1, Option.bind_some, une2, if_neg (by decide), en]
      rfl
    have rA : ∀ T M q, RSq m n N b lw T i q M → ∀ P : Unit × Me → Prop, (∀ M13, RSq m n N b lw T (i + 1) q M13 → FI m (tq m) M M13 → Ok (Option.bind (FRq m kB 3 (d + 1) T M13) <| un2 fun _u M15 => Option.bind (fX12_eats T M15 m (36 : Int32)) <| un2 fun r16 M17 => if r16 = 0 then (Option.bind (fX12_fails T M17 m (2 : Int32)) <| un2 fun _u M19 => some ((), M19)) else (some ((), M17))) P) → Ok (FRq m (kB + 1) 5 d T M) P := by
      intro T M q hM P hK
      show Ok (hX12_readAtom (fG12 kB) T M m (nI d)) P
      rw [rH T M q hM, if_neg nw, if_pos z35]
      refine Ok.bd (r_deep1 d5 rfl hM.1 (by omega) (by omega)) (fun p hp => ?_)
      obtain ⟨p1, M1⟩ := p
      obtain ⟨e1, h1, f1⟩ := hp
      have e1 : p1 = 1 := e1
      rw [une2, e1, if_neg (by decide), en]
      exact hK M1 (hM.nx h1 f1) f1
    rcases hp d5 (i + 1) o u (by omega) (by omega) with ⟨i2, cc, rc, u2, v, ⟨s1, s2, s3, s4, s5, s6, s7, s8, s9⟩, hc, hr⟩ | ⟨fk, iF, g1, g2, hc, hr⟩
    · by_cases k36 : tK b n i2 = 36
      · have lt2 := hT.lt s2 (by omega) (by omega)
        refine Or.inl ⟨i2 + 1, cc, rc, u2, v, ⟨by omega, by omega, by omega, by omega, s5, s6, s7, s8, fun z => z.elim⟩, fun T M hM => ?_, fun T M q hM => ?_⟩
        · rw [cA T M hM]
          obtain ⟨a1, a2, a3⟩ := k_adv hM (by omega) (by omega)
          refine Ok.bd (hc T _ a1) (fun p hp => ?_)
          obtain ⟨p1, M2⟩ := p
          have hp : CPq x n N b sp T o i2 u2 cc (pI M (x + 2) 1 (gI M (x + 2) 1 + 1)) M2 := hp
          have hA := hp.adv (by omega) (by omega)
          rw [une2, k_expect1 (k := 36) (kk := 41) hp.1.1 rfl k36 (by omega) (by omega), Option.bind_some, une2]
          exact ok_i ⟨hA.1, a2.trans hA.2.1, fun j hj => (hA.2.2.1 j hj).trans (a3 j), hA.2.2.2⟩
        · refine rA T M q hM _ (fun M13 h13 f13 => ?_)
          refine Ok.bd (hr T M13 q h13) (fun p hp => ?_)
          obtain ⟨p1, M2⟩ := p
          have hp : RPq m n N b lw T q i2 rc M13 M2 := hp
          rw [une2]
          refine Ok.bd (r_eats1 hp.1.1 i_36 (by omega) k36 (by omega) (by omega)) (fun p hq => ?_)
          obtain ⟨p1, M3⟩ := p
          obtain ⟨e1, h1, f1⟩ := hq
          have e1 : p1 = 1 := e1
          have hA : RPq m n N b lw T q (i2 + 1) rc M13 M3 := hp.adv h1 f1
          have e4 : ∀ k, gI M13 (m + 4) k = gI M (m + 4) k := fun k => f13.1 _ _ (by unfold tq; omega)
          rw [une2, e1, if_neg (by decide)]
          exact ok_i ⟨hA.1, (f13.wide (fun a k z => tq_rq z)).trans hA.2.1, fun j hj => (hA.2.2.1 j hj).trans (e4 _), hA.2.2.2⟩
      · refine Or.inr ⟨fkd n b i2 2, i2, by omega, s2, fun T M hM => ?_, fun T M q hM => ?_⟩
        · rw [cA T M hM]
          obtain ⟨a1, a2, a3⟩ := k_adv hM (by omega) (by omega)
          refine Ok.bd (hc T _ a1) (fun p hp => ?_)
          obtain ⟨p1, M2⟩ := p
          have hp : CPq x n N b sp T o i2 u2 cc (pI M (x + 2) 1 (gI M (x + 2) 1 + 1)) M2 := hp
          obtain ⟨⟨q1, M3⟩, e3, h3, f3, h5⟩ := k_expect0 (kk := 41) (k := 36) hp.1.1 rfl (by unfold vk; omega) k36
          rw [une2, e3, Option.bind_some, une2]
          exact ok_i (CXq.of h3 ((a2.trans hp.2.1).trans f3) (h5.trans hp.1.2.1) (by omega))
        · refine rA T M q hM _ (fun M13 h13 f13 => ?_)
          refine Ok.bd (hr T M13 q h13) (fun p hp => ?_)
          obtain ⟨p1, M2⟩ := p
          have hp : RPq m n N b lw T q i2 rc M13 M2 := hp
          rw [une2, r_eats0 hp.1.1 i_36 (by omega) k36, Option.bind_some, une2, if_pos rfl, i_2]
          refine Ok.bd (r_fails hp.1.1 (by omega) (by omega)) (fun p hq => ?_)
          obtain ⟨p1, M3⟩ := p
          rw [une2]
          exact ok_i ⟨hq.1, ((f13.wide (fun a k z => tq_rq z)).trans hp.2.1).trans hq.2.1⟩
    · refine Or.inr ⟨fk, iF, by omega, g2, fun T M hM => ?_, fun T M q hM => ?_⟩
      · rw [cA T M hM]
        obtain ⟨a1, a2, a3⟩ := k_adv hM (by omega) (by omega)
        refine Ok.bd (hc T _ a1) (fun p hp => ?_)
        obtain ⟨p1, M2⟩ := p
        have hp : CXq x T fk (tP b n iF) (o + iF - (i + 1) + (6 - (d + 1))) (pI M (x + 2) 1 (gI M (x + 2) 1 + 1)) M2 := hp
        rw [une2, k_expectF (k := 36) (kk := 41) hp.1.1 hp.1.ne rfl (by omega), Option.bind_some, une2]
        exact ok_i ((hp.pre a2).up (by omega))
      · refine rA T M q hM _ (fun M13 h13 f13 => ?_)
        refine Ok.bd (hr T M13 q h13) (fun p hp => ?_)
        obtain ⟨p1, M2⟩ := p
        have hp : RXq m T fk (tP b n iF) M13 M2 := hp
        rw [une2, r_eatsF hp.1.1 hp.1.ne, Option.bind_some, une2, if_pos rfl, r_failsF hp.1.1 hp.1.ne, Option.bind_some, une2]
        exact ok_i ⟨hp.1, (f13.wide (fun a k z => tq_rq z)).trans hp.2⟩
  by_cases z12 : tK b n i = 12
  · by_cases d6 : d = 6
    · exact Or.inr (deepF (Or.inr z12) d6)
    have d5 : d < 6 := by omega
    have nw : ¬ (wj (tK b n i) < 6 ∧ al lw (wj (tK b n i)) = true) := by rw [z12]; exact fun e => absurd e.1 (by decide)
    have lt1 := hT.lt hi (by omega) (by omega)
    obtain ⟨kc, kr, eA, eB, ht, hs⟩ := hif d5
    have cA : ∀ T M, CSq x n N b sp T i o u M → FCq x (kA + 1) 5 d T M = (Option.bind (hX6_readChoice (fG6 (kc + 6)) T (pI M (x + 2) 1 (gI M (x + 2) 1 + 1)) (x + 2) (nI (d + 1))) <| un2 fun _u M19 => some ((), M19)) := by
      intro T M hM
      show hX6_readAtom (fG6 kA) T M (x + 2) (nI d) = _
      rw [cH T M hM, if_neg z35, if_pos z12, k_deep1 d5 rfl hM.1.1, Option.bind_some, une2, if_neg (by decide), en, eA]
      rfl
    have rA : ∀ T M q, RSq m n N b lw T i q M → ∀ P : Unit × Me → Prop, (∀ M13, RSq m n N b lw T (i + 1) q M13 → FI m (tq m) M M13 → Ok (Option.bind (fG12 (kr + 6) 0 T M13 m (nI d + 1)) <| un2 fun _u M5 => Option.bind (fX12_eats T M5 m (13 : Int32)) <| un2 fun r6 M7 => if r6 = 0 then (Option.bind (fX12_fails T M7 m (2 : Int32)) <| un2 fun _u M23 => jX12_readIf_30 (fG12 (kr + 6)) T M23 m (nI d)) else (jX12_readIf_30 (fG12 (kr + 6)) T M7 m (nI d))) P) → Ok (FRq m (kB + 1) 5 d T M) P := by
      intro T M q hM P hK
      show Ok (hX12_readAtom (fG12 kB) T M m (nI d)) P
      rw [rH T M q hM, if_neg nw, if_neg z35, if_pos z12, eB]
      have eG : ∀ o2 : Option (Unit × Me), (Option.bind o2 <| un2 fun _u M11 => some ((), M11)) = o2 := fun o2 => by cases o2 <;> rfl
      rw [eG]
      show Ok (hX12_readIf (fG12 (kr + 6)) T M m (nI d)) P
      unfold hX12_readIf
      rw [hM.1.1.1.k, gdI]
      refine Ok.bd (r_deep1 d5 rfl hM.1 (by omega) (by omega)) (fun p hp => ?_)
      obtain ⟨p1, M1⟩ := p
      obtain ⟨e1, h1, f1⟩ := hp
      have e1 : p1 = 1 := e1
      rw [une2, e1, if_neg (by decide)]
      exact hK M1 (hM.nx h1 f1) f1
    rcases j_choice hN hT rfl d5 ht hs (i + 1) o u (by omega) (by omega) with ⟨i2, cc, rc, u2, v, ⟨s1, s2, s3, s4, s5, s6, s7, s8, s9⟩, hc, hr⟩ | ⟨fk, iF, g1, g2, hc, hr⟩
    · refine Or.inl ⟨i2, cc, rc, u2, v, ⟨by omega, s2, by omega, by omega, s5, s6, s7, s8, fun z => z.elim⟩, fun T M hM => ?_, fun T M q hM => ?_⟩
      · rw [cA T M hM]
        obtain ⟨a1, a2, a3⟩ := k_adv hM (by omega) (by omega)
        refine Ok.bd (hc T _ a1) (fun p hp => ?_)
        obtain ⟨p1, M2⟩ := p
        have hp : CPq x n N b sp T o i2 u2 cc (pI M (x + 2) 1 (gI M (x + 2) 1 + 1)) M2 := hp
        rw [une2]
        exact ok_i ⟨hp.1, a2.trans hp.2.1, fun j hj => (hp.2.2.1 j hj).trans (a3 j), hp.2.2.2⟩
      · refine rA T M q hM _ (fun M13 h13 f13 => ?_)
        refine (hr T M13 q h13).mono (fun p hp => ?_)
        have e4 : ∀ k, gI M13 (m + 4) k = gI M (m + 4) k := fun k => f13.1 _ _ (by unfold tq; omega)
        exact ⟨hp.1, (f13.wide (fun a k z => tq_rq z)).trans hp.2.1, fun j hj => (hp.2.2.1 j hj).trans (e4 _), hp.2.2.2⟩
    · refine Or.inr ⟨fk, iF, by omega, g2, fun T M hM => ?_, fun T M q hM => ?_⟩
      · rw [cA T M hM]
        obtain ⟨a1, a2, a3⟩ := k_adv hM (by omega) (by omega)
        refine Ok.bd (hc T _ a1) (fun p hp => ?_)
        obtain ⟨p1, M2⟩ := p
        rw [une2]
        exact ok_i ((CXq.pre hp a2).up (by omega))
      · refine rA T M q hM _ (fun M13 h13 f13 => ?_)
        refine (hr T M13 q h13).mono (fun p hp => ⟨hp.1, (f13.wide (fun a k z => tq_rq z)).trans hp.2⟩)
  by_cases hw : wj (tK b n i) < 6 ∧ al lw (wj (tK b n i)) = true
  · obtain ⟨w6, wa⟩ := hw
    have k26 : tK b n i ≠ 26 := fun e => by rw [e] at w6; exact absurd w6 (by decide)
    have k27 : tK b n i ≠ 27 := fun e => by rw [e] at w6; exact absurd w6 (by decide)
    have lt1 := hT.lt hi k26 k27
    have hbt : ∀ a, a < 6 → bt (u ||| nI (2 ^ wj (tK b n i))) a = (bt u a || decide (a = wj (tK b n i))) := fun a ha => by rw [b_or, bt_2 _ w6 a ha]
    refine Or.inl ⟨i + 1, [enc 1 (wj (tK b n i))], [nI (1000 + wj (tK b n i))], u ||| nI (2 ^ wj (tK b n i)), fun w => w (wj (tK b n i)), ⟨by omega, by omega, by simp only [List.length_cons, List.length_nil]; omega, by simp only [List.length_cons, List.length_nil]; omega, (ex_word w6).up hQ, ?_, ?_, ?_, fun z => z.elim⟩, fun T M hM => ?_, fun T M q hM => ?_⟩
    · intro w w2 e
      exact e _ w6 (by rw [hbt _ w6]; simp)
    · intro a ha e
      rw [hbt a ha, e]; rfl
    · intro a ha e
      rw [hbt a ha] at e
      by_cases y : a = wj (tK b n i)
      · rw [y]; exact Or.inr wa
      · left
        simpa [y] using e
    · show Ok (hX6_readAtom (fG6 kA) T M (x + 2) (nI d)) _
      have h9 := hM.n9
      have hpx := hM.1.1
      rw [cH T M hM, if_neg z35, if_neg z12, if_pos ⟨w6, wa⟩, i_1, k_put hpx hM.2.1 (by omega) rfl, Option.bind_some, une2, lte, lte]
      have e7 : gI (pI (pI M (x + 7) o (enc 1 (wj (tK b n i)))) (x + 2) 5 (nI (o + 1))) (x + 2) 7 = u := by rw [mIIk (by omega), mIIn (by omega)]; exact hM.2.2.2.1
      rw [e7]
      refine ok_i (k_piece hM k26 k27 (lfr_2 (lfr_2 (lfr_7 LFr.rfl) (by omega)) (by omega)) ?_ ?_ (by rw [mIIk (by omega), mIIk (by omega), mIIn (by omega)]) ?_ mII1 (fun j hj => ?_) ?_)
      · rw [mIIk (by omega), mIIk (by omega), mIIn (by omega)]; exact hM.1.2.2.1
      · rw [mIIk (by omega), mIIk (by omega), mIIn (by omega)]; exact hM.1.2.2.2.1
      · rw [mIIk (by omega), mII1]
      · rw [mIIn (by omega), mIIn (by omega), mIIk (by omega)]
      · rw [mIIn (by omega), mIIn (by omega), mII1]
    · show Ok (hX12_readAtom (fG12 kB) T M m (nI d)) _
      rw [rH T M q hM, if_pos ⟨w6, wa⟩]
      exact r_piece hM k26 k27
  · refine Or.inr ⟨fkd n b i 2, i, Nat.le_refl _, hi, fun T M hM => ?_, fun T M q hM => ?_⟩
    · show Ok (hX6_readAtom (fG6 kA) T M (x + 2) (nI d)) _
      rw [cH T M hM, if_neg z35, if_neg z12, if_neg hw, i_2]
      refine Ok.bd (k_fail hM.1 (by omega) (by omega)) (fun p hp => ?_)
      obtain ⟨p1, M1⟩ := p
      obtain ⟨h1, f1, h5⟩ := hp
      rw [une2]
      exact ok_i (CXq.of h1 f1 (h5.trans hM.2.1) (by omega))
    · show Ok (hX12_readAtom (fG12 kB) T M m (nI d)) _
      rw [rH T M q hM, if_neg hw, if_neg z35, if_neg z12, i_2]
      refine Ok.bd (r_fails hM.1 (by omega) (by omega)) (fun p hp => ?_)
      obtain ⟨p1, M1⟩ := p
      rw [une2]
      exact ok_i ⟨hp.1, hp.2.1⟩
end
