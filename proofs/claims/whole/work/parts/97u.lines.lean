/-! line by line -/
section
variable {x m n N lw i o q d a l p : Nat} {b : Nat → Nat} {u : Int32} {T T2 : Sh} {M M1 M2 : Me} {F G : Nat → Int32}
/-- one line and its end -/
def LSq (x m n N : Nat) (b : Nat → Nat) (i : Nat) (F : Nat → Int32) : Prop :=
  (∃ i2 F2 q2, i < i2 ∧ i2 ≤ N ∧ q2 + 6 ≤ i2 ∧ FV F2 q2 ∧ (∀ a T M c, c < 900 → CLs x a n N b T i F M → Ok (bX6_read_81 (x + 2) a (nI c) T M) (fun r => ∃ T2 M2, r = .inl (nI (c + 1), T2, M2) ∧ CLs x a n N b T2 i2 F2 M2 ∧ TE T T2 ∧ RG x a M M2 ∧ tp T2 + i ≤ tp T + i2 ∧ sl T2 + i ≤ sl T + i2)) ∧ ∀ T M, RLs m n N b T i F M → Ok (bX12_lab_98 T m M) (fun r => ∃ M2, r = .inl M2 ∧ RLs m n N b T i2 F2 M2 ∧ FI m (rz m) M M2))
  ∨ ∃ f : Nat × Nat, (∀ a T M c, c < 900 → CLs x a n N b T i F M → Ok (bX6_read_81 (x + 2) a (nI c) T M) (fun r => ∃ T2 M2, r = .inl (nI (c + 1), T2, M2) ∧ CFl x T2 f.1 f.2 M2 ∧ TE T T2 ∧ RG x a M M2 ∧ tp T2 + i ≤ tp T + N + 2 ∧ sl T2 + i ≤ sl T + N + 902)) ∧ ∀ T M, RLs m n N b T i F M → Ok (bX12_lab_98 T m M) (fun r => ∃ M2, r = .inl M2 ∧ RFl m T f.1 f.2 M2 ∧ FI m (rz m) M M2)
theorem r_closF (hm : RM m T M) (h : gI M m 11 ≠ 0) : Ok (fX12_closes T M m) (fun p => (∀ k, gI p.2 m k = gI M m k) ∧ RM m T p.2 ∧ FI m (rz m) M p.2) := by
  unfold fX12_closes
  rw [hm.k, gdI, r_eatsF hm h, Option.bind_some, une2, if_pos rfl, r_failsF hm h, Option.bind_some, une2, hm.r4, Option.bind_some, hm.k4, gdI, hm.l4, i_0, gvI (by omega) (by omega), gvI (by omega) (by omega), cl_nI (by omega), lte]
  exact ok_i ⟨fun k => mIIn (by omega), hm.fr (fun _ => rfl), FI.rfl.pI (Or.inl (Or.inr rfl))⟩
theorem RFl.cl {fk fp : Nat} (h : RFl m T fk fp M) (e : ∀ k, gI M2 m k = gI M m k) (hm : RM m T M2) : RFl m T fk fp M2 := ⟨hm, (e _).trans h.2.1, (e _).trans h.2.2.1, h.2.2.2⟩
theorem r_clos0 (h : RBq m n N b T i M) (hk : tK b n i ≠ 30) : Ok (fX12_closes T M m) (fun p => RFl m T (fkd n b i 2) (tP b n i) p.2 ∧ FI m (rz m) M p.2) := by
  unfold fX12_closes
  rw [h.1.1.k, gdI, r_eats0 h i_30 (by omega) hk, Option.bind_some, une2, if_pos rfl, i_2]
  refine Ok.bd (r_failsh h (by omega) (by omega)) (fun p hp => ?_)
  obtain ⟨p1, M1⟩ := p
  obtain ⟨h1, f1⟩ := hp
  have h1 : RFl m T (fkd n b i 2) (tP b n i) M1 := h1
  have hm := h1.1
  rw [une2, hm.r4, Option.bind_some, hm.k4, gdI, hm.l4, i_0, gvI (by omega) (by omega), gvI (by omega) (by omega), cl_nI (by omega), lte]
  exact ok_i ⟨h1.cl (fun k => mIIn (by omega)) (hm.fr (fun _ => rfl)), (f1.wide (fun c k z => Or.inl (Or.inl z))).pI (Or.inl (Or.inr rfl))⟩
theorem r_clos1 (h : RLs m n N b T i F M) (hk : tK b n i = 30) : Ok (fX12_closes T M m) (fun p => RLs m n N b T (i + 1) (lnF F) p.2 ∧ FI m (rz m) M p.2) := by
  unfold fX12_closes
  rw [h.1.1.1.k, gdI]
  refine Ok.bd (r_eats1 h.1 i_30 (by omega) hk (by omega) (by omega)) (fun p hp => ?_)
  obtain ⟨p1, M1⟩ := p
  obtain ⟨e1, h1, f1⟩ := hp
  have e1 : p1 = 1 := e1
  have h1 : RBq m n N b T (i + 1) M1 := h1
  have f1 : FI m (tq m) M M1 := f1
  have hm := h1.1.1
  have e4 : ∀ k, gI M1 (m + 4) k = gI M (m + 4) k := fun k => f1.1 _ _ (by unfold tq; omega)
  rw [une2, e1, if_neg (by decide), hm.r4, Option.bind_some, hm.k4, gdI, hm.l4, i_0, gvI (by omega) (by omega), gvI (by omega) (by omega), cl_nI (by omega), lte, e4, h.2 0 (by omega)]
  refine ok_i ⟨⟨RBF.pw (fl := none) h1, fun k hk => ?_⟩, (f1.wide (fun c k z => Or.inl (Or.inl (rh_tq z)))).pI (Or.inl (Or.inr rfl))⟩
  rw [mII]
  unfold lnF
  by_cases z : k = 0
  · rw [if_pos ⟨rfl, z⟩, if_pos z]
  · rw [if_neg (fun y => z y.2), if_neg z, e4]; exact h.2 k hk
theorem CLs.ln (h : CLs x a n N b T i F M) (hk : tK b n i = 30) (hl6 : nlA F ≤ 6) : CLs x a n N b T (i + 1) (lnF F) (pI (pI M (x + 2) 1 (gI M (x + 2) 1 + 1)) a 9 (gI (pI M (x + 2) 1 (gI M (x + 2) 1 + 1)) a 9 + 1)) := by
  obtain ⟨a1, a2⟩ := k_next h.1 (by omega) (by omega)
  have ha := h.2.2.2
  have hc : CLab x a F T (pI M (x + 2) 1 (gI M (x + 2) 1 + 1)) := h.2.1.fr TE.rfl (fun c k q _ => mIIn (by unfold lr at q; omega)) (fun c k _ _ => rfl)
  have hw : LWn a (pI M (x + 2) 1 (gI M (x + 2) 1 + 1)) := h.2.2.1
  generalize pI M (x + 2) 1 (gI M (x + 2) 1 + 1) = M1 at a1 a2 hc hw
  obtain ⟨c1, c2⟩ := hc.line hw hl6
  exact ⟨CBF.pw (fl := none) a1 (by omega), c1, c2, ha⟩
theorem j_step (hN : N ≤ 900) (hT : TN n b N) (hi : i ≤ N) (h6 : 6 ≤ i) (hV : FV F q) (hq : q + 6 ≤ i) (h26 : tK b n i ≠ 26) : LSq x m n N b i F := by
  have cH : ∀ a T M c, c < 900 → CLs x a n N b T i F M → bX6_read_81 (x + 2) a (nI c) T M = (Option.bind (fX6_readLine T M (x + 2) a) <| un3 fun _u T27 M26 => jX6_read_108 T27 M26 (x + 2) a (nI c)) := by
    intro a T M c hc hM
    unfold bX6_read_81
    rw [i_900, ite_le (by omega) (by omega), if_neg (by omega), hM.1.1.k2, gdI, hM.1.2.2.2.1, if_pos rfl, k_kind hM.1, Option.bind_some, ck_lit (c := 0) (k := 26) rfl (by unfold vk; omega), if_neg h26]
  have rH : ∀ T M, RLs m n N b T i F M → bX12_lab_98 T m M = (Option.bind (fX12_readLine T M m) <| un2 fun _u M32 => Option.bind (fX12_closes T M32 m) <| un2 fun _u M33 => some (.inl M33)) := by
    intro T M hM
    have := hM.1.k42
    unfold bX12_lab_98
    rw [hM.1.1.1.k, gdI, hM.1.2.2.2.2.2.1, if_pos rfl, hM.1.2.2.2.1, i_26, ite_eq (by omega) (by omega), if_neg h26]
  rcases j_line (x := x) (m := m) hN hT hi h6 hV hq with ⟨i1, F1, q1, l1, l2, l3, hV1, hc, hr⟩ | ⟨f, hc, hr⟩
  · have hl6 := hV1.1.b3
    by_cases k30 : tK b n i1 = 30
    · have lt1 := hT.lt l2 (by omega) (by omega)
      refine Or.inl ⟨i1 + 1, lnF F1, q1, by omega, by omega, by omega, lnF_FV hV1, fun a T M c hc9 hM => ?_, fun T M hM => ?_⟩
      · rw [cH a T M c hc9 hM]
        refine Ok.bd (hc a T M hM) (fun p hp => ?_)
        obtain ⟨p1, T2, M2⟩ := p
        obtain ⟨g1, g2, g3, g4, g5⟩ := hp
        have g1 : CLs x a n N b T2 i1 F1 M2 := g1
        have g4 : tp T2 + i ≤ tp T + i1 := g4
        have g5 : sl T2 + i ≤ sl T + i1 := g5
        have g6 := g1.ln k30 hl6
        have ha := hM.2.2.2
        unfold jX6_read_108
        rw [une3, g1.1.1.k2, gdI, k_expect1 (k := 30) (kk := 59) g1.1 rfl k30 (by omega) (by omega), Option.bind_some, une2, g1.2.1.k, gdI, lte, lte, nI_1]
        have g3 : RG x a M M2 := g3
        exact ok_i ⟨T2, _, rfl, g6, g2, (g3.pI (Or.inr ⟨by omega, by omega⟩)).pI (Or.inl (Nat.le_refl _)), by omega, by omega⟩
      · rw [rH T M hM]
        refine Ok.bd (hr T M hM) (fun p hp => ?_)
        obtain ⟨p1, M2⟩ := p
        obtain ⟨g1, g2⟩ := hp
        rw [une2]
        refine Ok.bd (r_clos1 g1 k30) (fun p hp => ?_)
        obtain ⟨p1, M3⟩ := p
        rw [une2]
        exact ok_i ⟨M3, rfl, hp.1, FI.trans g2 hp.2⟩
    · refine Or.inr ⟨(fkd n b i1 2, tP b n i1), fun a T M c hc9 hM => ?_, fun T M hM => ?_⟩
      · rw [cH a T M c hc9 hM]
        refine Ok.bd (hc a T M hM) (fun p hp => ?_)
        obtain ⟨p1, T2, M2⟩ := p
        obtain ⟨g1, g2, g3, g4, g5⟩ := hp
        have g1 : CLs x a n N b T2 i1 F1 M2 := g1
        have g3 : RG x a M M2 := g3
        have g4 : tp T2 + i ≤ tp T + i1 := g4
        have g5 : sl T2 + i ≤ sl T + i1 := g5
        have ha := hM.2.2.2
        unfold jX6_read_108
        rw [une3, g1.1.1.k2, gdI]
        refine Ok.bd (k_expect0 (k := 30) (kk := 59) g1.1 rfl (by unfold vk; omega) k30) (fun p hp => ?_)
        obtain ⟨p1, M3⟩ := p
        obtain ⟨h1, f1, _⟩ := hp
        have h1 : CFl x T2 (fkd n b i1 2) (tP b n i1) M3 := h1
        have f1 : LFr x M2 M3 := f1
        rw [une2, g1.2.1.k, gdI, lte, lte, nI_1]
        exact ok_i ⟨T2, _, rfl, CBF.pw (fl := some (fkd n b i1 2, tP b n i1)) (n := n) (N := N) (b := b) (i := i1) h1 (by omega), g2, (g3.trans (f1.rg (t := a)) (Nat.le_refl _)).pI (Or.inl (Nat.le_refl _)), by omega, by omega⟩
      · rw [rH T M hM]
        refine Ok.bd (hr T M hM) (fun p hp => ?_)
        obtain ⟨p1, M2⟩ := p
        obtain ⟨g1, g2⟩ := hp
        rw [une2]
        refine Ok.bd (r_clos0 g1.1 k30) (fun p hp => ?_)
        obtain ⟨p1, M3⟩ := p
        rw [une2]
        exact ok_i ⟨M3, rfl, hp.1, FI.trans g2 hp.2⟩
  · refine Or.inr ⟨f, fun a T M c hc9 hM => ?_, fun T M hM => ?_⟩
    · rw [cH a T M c hc9 hM]
      refine Ok.bd (hc a T M hM) (fun p hp => ?_)
      obtain ⟨p1, T2, M2⟩ := p
      obtain ⟨g1, k2, g2, g3, g4, g5⟩ := hp
      have g1 : CFl x T2 f.1 f.2 M2 := g1
      have k2 : kd T2 a = 2 := k2
      have g3 : RG x a M M2 := g3
      have g4 : tp T2 ≤ tp T + 2 := g4
      have g5 : sl T2 ≤ sl T + 902 := g5
      have ha := hM.2.2.2
      unfold jX6_read_108
      rw [une3, g1.1.k2, gdI, k_expectF (k := 30) (kk := 59) g1.1 g1.ne rfl (by omega), Option.bind_some, une2, k2, gdI, lte, lte, nI_1]
      exact ok_i ⟨T2, _, rfl, CBF.pw (fl := some f) (n := n) (N := N) (b := b) (i := i) g1 (by omega), g2, g3.pI (Or.inl (Nat.le_refl _)), by omega, by omega⟩
    · rw [rH T M hM]
      refine Ok.bd (hr T M hM) (fun p hp => ?_)
      obtain ⟨p1, M2⟩ := p
      obtain ⟨g1, g2⟩ := hp
      have g1 : RFl m T f.1 f.2 M2 := g1
      rw [une2]
      refine Ok.bd (r_closF g1.1 g1.ne) (fun p hp => ?_)
      obtain ⟨p1, M3⟩ := p
      rw [une2]
      exact ok_i ⟨M3, rfl, g1.cl hp.1 hp.2.1, FI.trans g2 hp.2.2⟩
theorem c_stopF {c : Nat} (hp : PX x T M) (h : gI M (x + 2) 2 ≠ 0) (hc : c < 900) : bX6_read_81 (x + 2) a (nI c) T M = some (.inr (T, M)) := by
  unfold bX6_read_81
  rw [i_900, ite_le (by omega) (by omega), if_neg (by omega), hp.k2, gdI, if_neg h]
theorem r_stopF (hm : RM m T M) (h : gI M m 11 ≠ 0) : bX12_lab_98 T m M = some (.inr M) := by
  unfold bX12_lab_98
  rw [hm.k, gdI, if_neg h]
/-- all lines -/
theorem j_lines (hN : N ≤ 900) (hT : TN n b N) : ∀ (k i q : Nat) (F : Nat → Int32), N - i ≤ k → i ≤ N → 6 ≤ i → FV F q → q + 6 ≤ i →
    (∃ i2 F2 q2, i ≤ i2 ∧ i2 ≤ N ∧ FV F2 q2 ∧ (∀ a T M c f, c + 6 ≤ i → k + 2 < f → CLs x a n N b T i F M → Ok (lp f (fun s => bX6_read_81 (x + 2) a s.1 s.2.1 s.2.2) (nI c, T, M)) (fun r => CLs x a n N b r.1 i2 F2 r.2 ∧ TE T r.1 ∧ RG x a M r.2 ∧ tp r.1 + i ≤ tp T + i2 ∧ sl r.1 + i ≤ sl T + i2)) ∧ ∀ T M f, k + 2 < f → RLs m n N b T i F M → Ok (lp f (fun s => bX12_lab_98 T m s) M) (fun M2 => RLs m n N b T i2 F2 M2 ∧ FI m (rz m) M M2))
    ∨ ∃ fl : Nat × Nat, (∀ a T M c f, c + 6 ≤ i → k + 2 < f → CLs x a n N b T i F M → Ok (lp f (fun s => bX6_read_81 (x + 2) a s.1 s.2.1 s.2.2) (nI c, T, M)) (fun r => CFl x r.1 fl.1 fl.2 r.2 ∧ TE T r.1 ∧ RG x a M r.2 ∧ tp r.1 + i ≤ tp T + N + 2 ∧ sl r.1 + i ≤ sl T + N + 902)) ∧ ∀ T M f, k + 2 < f → RLs m n N b T i F M → Ok (lp f (fun s => bX12_lab_98 T m s) M) (fun M2 => RFl m T fl.1 fl.2 M2 ∧ FI m (rz m) M M2) := by
  intro k
  induction k with
  | zero =>
    intro i q F hk hi h6 hV hq
    have eN : i = N := by omega
    by_cases k26 : tK b n i = 26
    · refine Or.inl ⟨i, F, q, Nat.le_refl _, hi, hV, fun a T M c f hc hf hM => ?_, fun T M f hf hM => ?_⟩
      · obtain ⟨f, rfl⟩ : ∃ z, f = z + 1 := ⟨f - 1, by omega⟩
        refine ⟨(T, M), lp_inr ?_, hM, TE.rfl, RG.rfl, Nat.le_refl _, Nat.le_refl _⟩
        show bX6_read_81 (x + 2) a (nI c) T M = _
        unfold bX6_read_81
        rw [i_900, ite_le (by omega) (by omega), if_neg (by omega), hM.1.1.k2, gdI, hM.1.2.2.2.1, if_pos rfl, k_kind hM.1, Option.bind_some, ck_lit (c := 0) (k := 26) rfl (by unfold vk; omega), if_pos k26]
      · obtain ⟨f, rfl⟩ : ∃ z, f = z + 1 := ⟨f - 1, by omega⟩
        refine ⟨M, lp_inr ?_, hM, FI.rfl⟩
        have := hM.1.k42
        unfold bX12_lab_98
        rw [hM.1.1.1.k, gdI, hM.1.2.2.2.2.2.1, if_pos rfl, hM.1.2.2.2.1, i_26, ite_eq (by omega) (by omega), if_pos k26]
    · rcases j_step (x := x) (m := m) hN hT hi h6 hV hq k26 with ⟨i2, F2, q2, l1, l2, _⟩ | ⟨fl, hc, hr⟩
      · omega
      · refine Or.inr ⟨fl, fun a T M c f hc9 hf hM => ?_, fun T M f hf hM => ?_⟩
        · obtain ⟨f, rfl⟩ : ∃ z, f = z + 2 := ⟨f - 2, by omega⟩
          obtain ⟨r, e, T2, M2, rfl, g1, g2⟩ := hc a T M c (by omega) hM
          refine ⟨(T2, M2), ?_, g1, g2⟩
          rw [show f + 2 = (f + 1) + 1 by omega, lp_inl (s' := (nI (c + 1), T2, M2)) e]
          exact lp_inr (c_stopF g1.1 g1.ne (by omega))
        · obtain ⟨f, rfl⟩ : ∃ z, f = z + 2 := ⟨f - 2, by omega⟩
          obtain ⟨r, e, M2, rfl, g1, g2⟩ := hr T M hM
          refine ⟨M2, ?_, g1, g2⟩
          rw [show f + 2 = (f + 1) + 1 by omega, lp_inl (s' := M2) e]
          exact lp_inr (r_stopF g1.1 g1.ne)
  | succ k ih =>
    intro i q F hk hi h6 hV hq
    by_cases k26 : tK b n i = 26
    · refine Or.inl ⟨i, F, q, Nat.le_refl _, hi, hV, fun a T M c f hc hf hM => ?_, fun T M f hf hM => ?_⟩
      · obtain ⟨f, rfl⟩ : ∃ z, f = z + 1 := ⟨f - 1, by omega⟩
        refine ⟨(T, M), lp_inr ?_, hM, TE.rfl, RG.rfl, Nat.le_refl _, Nat.le_refl _⟩
        show bX6_read_81 (x + 2) a (nI c) T M = _
        unfold bX6_read_81
        rw [i_900, ite_le (by omega) (by omega), if_neg (by omega), hM.1.1.k2, gdI, hM.1.2.2.2.1, if_pos rfl, k_kind hM.1, Option.bind_some, ck_lit (c := 0) (k := 26) rfl (by unfold vk; omega), if_pos k26]
      · obtain ⟨f, rfl⟩ : ∃ z, f = z + 1 := ⟨f - 1, by omega⟩
        refine ⟨M, lp_inr ?_, hM, FI.rfl⟩
        have := hM.1.k42
        unfold bX12_lab_98
        rw [hM.1.1.1.k, gdI, hM.1.2.2.2.2.2.1, if_pos rfl, hM.1.2.2.2.1, i_26, ite_eq (by omega) (by omega), if_pos k26]
    · rcases j_step (x := x) (m := m) hN hT hi h6 hV hq k26 with ⟨i2, F2, q2, l1, l2, l3, hV2, hc, hr⟩ | ⟨fl, hc, hr⟩
      · rcases ih i2 q2 F2 (by omega) l2 (by omega) hV2 l3 with ⟨i3, F3, q3, m1, m2, hV3, hc3, hr3⟩ | ⟨fl, hc3, hr3⟩
        · refine Or.inl ⟨i3, F3, q3, by omega, m2, hV3, fun a T M c f hc9 hf hM => ?_, fun T M f hf hM => ?_⟩
          · obtain ⟨f, rfl⟩ : ∃ z, f = z + 1 := ⟨f - 1, by omega⟩
            obtain ⟨r, e, T2, M2, rfl, g1, g2, g3, g4, g5⟩ := hc a T M c (by omega) hM
            rw [lp_inl (s' := (nI (c + 1), T2, M2)) e]
            refine (hc3 a T2 M2 (c + 1) f (by omega) (by omega) g1).mono (fun r hr => ?_)
            obtain ⟨k1, k2, k3, k4, k5⟩ := hr
            exact ⟨k1, g2.trans k2, g3.trans k3 (Nat.le_refl _), by omega, by omega⟩
          · obtain ⟨f, rfl⟩ : ∃ z, f = z + 1 := ⟨f - 1, by omega⟩
            obtain ⟨r, e, M2, rfl, g1, g2⟩ := hr T M hM
            rw [lp_inl (s' := M2) e]
            exact (hr3 T M2 f (by omega) g1).mono (fun r hr => ⟨hr.1, g2.trans hr.2⟩)
        · refine Or.inr ⟨fl, fun a T M c f hc9 hf hM => ?_, fun T M f hf hM => ?_⟩
          · obtain ⟨f, rfl⟩ : ∃ z, f = z + 1 := ⟨f - 1, by omega⟩
            obtain ⟨r, e, T2, M2, rfl, g1, g2, g3, g4, g5⟩ := hc a T M c (by omega) hM
            rw [lp_inl (s' := (nI (c + 1), T2, M2)) e]
            refine (hc3 a T2 M2 (c + 1) f (by omega) (by omega) g1).mono (fun r hr => ?_)
            obtain ⟨k1, k2, k3, k4, k5⟩ := hr
            exact ⟨k1, g2.trans k2, g3.trans k3 (Nat.le_refl _), by omega, by omega⟩
          · obtain ⟨f, rfl⟩ : ∃ z, f = z + 1 := ⟨f - 1, by omega⟩
            obtain ⟨r, e, M2, rfl, g1, g2⟩ := hr T M hM
            rw [lp_inl (s' := M2) e]
            exact (hr3 T M2 f (by omega) g1).mono (fun r hr => ⟨hr.1, g2.trans hr.2⟩)
      · refine Or.inr ⟨fl, fun a T M c f hc9 hf hM => ?_, fun T M f hf hM => ?_⟩
        · obtain ⟨f, rfl⟩ : ∃ z, f = z + 2 := ⟨f - 2, by omega⟩
          obtain ⟨r, e, T2, M2, rfl, g1, g2⟩ := hc a T M c (by omega) hM
          refine ⟨(T2, M2), ?_, g1, g2⟩
          rw [show f + 2 = (f + 1) + 1 by omega, lp_inl (s' := (nI (c + 1), T2, M2)) e]
          exact lp_inr (c_stopF g1.1 g1.ne (by omega))
        · obtain ⟨f, rfl⟩ : ∃ z, f = z + 2 := ⟨f - 2, by omega⟩
          obtain ⟨r, e, M2, rfl, g1, g2⟩ := hr T M hM
          refine ⟨M2, ?_, g1, g2⟩
          rw [show f + 2 = (f + 1) + 1 by omega, lp_inl (s' := M2) e]
          exact lp_inr (r_stopF g1.1 g1.ne)
end
