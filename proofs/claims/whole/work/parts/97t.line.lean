/-! lines of a lab -/
section
variable {x m n N lw i o q d a l p : Nat} {b : Nat → Nat} {u : Int32} {T T2 : Sh} {M M1 M2 : Me} {F G : Nat → Int32}
def CLs (x a n N : Nat) (b : Nat → Nat) (T : Sh) (i : Nat) (F : Nat → Int32) (M : Me) : Prop := CBq x n N b T i M ∧ CLab x a F T M ∧ LWn a M ∧ x + 88 ≤ a
def RLs (m n N : Nat) (b : Nat → Nat) (T : Sh) (i : Nat) (F : Nat → Int32) (M : Me) : Prop := RBq m n N b T i M ∧ ∀ k, k < 1032 → gI M (m + 4) k = F k
def rz (m c k : Nat) : Prop := rl m c k ∨ c = m ∧ k = 15
theorem CLs.lbs (h : CLs x a n N b T i F M) : LBs x a T M := ⟨h.2.2.2, h.2.1.k, h.2.1.2.1⟩
theorem CLs.tpa (h : CLs x a n N b T i F M) : a + 5 < tp T := h.2.1.1.2.2
/-- one line, without its end -/
def LNq (x m n N : Nat) (b : Nat → Nat) (i : Nat) (F : Nat → Int32) : Prop :=
  (∃ i1 F1 q1, i < i1 ∧ i1 ≤ N ∧ q1 + 6 ≤ i1 ∧ FV F1 q1 ∧ (∀ a T M, CLs x a n N b T i F M → Ok (fX6_readLine T M (x + 2) a) (fun p => CLs x a n N b p.2.1 i1 F1 p.2.2 ∧ TE T p.2.1 ∧ RG x a M p.2.2 ∧ tp p.2.1 + i ≤ tp T + i1 ∧ sl p.2.1 + i ≤ sl T + i1)) ∧ ∀ T M, RLs m n N b T i F M → Ok (fX12_readLine T M m) (fun p => RLs m n N b T i1 F1 p.2 ∧ FI m (rz m) M p.2))
  ∨ ∃ f : Nat × Nat, (∀ a T M, CLs x a n N b T i F M → Ok (fX6_readLine T M (x + 2) a) (fun p => CFl x p.2.1 f.1 f.2 p.2.2 ∧ kd p.2.1 a = 2 ∧ TE T p.2.1 ∧ RG x a M p.2.2 ∧ tp p.2.1 ≤ tp T + 2 ∧ sl p.2.1 ≤ sl T + 902)) ∧ ∀ T M, RLs m n N b T i F M → Ok (fX12_readLine T M m) (fun p => RFl m T f.1 f.2 p.2 ∧ FI m (rz m) M p.2)
theorem lfl_N (hT : TN n b N) (hi : i < N) (h : lfl4 n b i = none) : i + 9 ≤ N := by
  obtain ⟨h3, a7, a8, _⟩ := wfl_0 (show wfl n b (i + 7) 7 1 16 (lfl3 n b i) = none from h)
  obtain ⟨h2, a5, a6, _⟩ := wfl_0 (show wfl n b (i + 5) 6 1 24 (lfl2 n b i) = none from h3)
  obtain ⟨h1, a3, a4, _⟩ := wfl_0 (show wfl n b (i + 3) 5 0 15 (lfl1 n b i) = none from h2)
  obtain ⟨_, a1, a2, _⟩ := wfl_0 (show wfl n b (i + 1) 4 0 23 none = none from h1)
  have c1 := hT.lt (i := i + 1) (by omega) (by omega) (by omega)
  have c2 := hT.lt (i := i + 2) (by omega) (by rw [a2]; omega) (by rw [a2]; omega)
  have c3 := hT.lt (i := i + 3) (by omega) (by omega) (by omega)
  have c4 := hT.lt (i := i + 4) (by omega) (by rw [a4]; omega) (by rw [a4]; omega)
  have c5 := hT.lt (i := i + 5) (by omega) (by omega) (by omega)
  have c6 := hT.lt (i := i + 6) (by omega) (by rw [a6]; omega) (by rw [a6]; omega)
  have c7 := hT.lt (i := i + 7) (by omega) (by omega) (by omega)
  have c8 := hT.lt (i := i + 8) (by omega) (by rw [a8]; omega) (by rw [a8]; omega)
  omega
theorem rg_of (hI : ∀ c z, ¬ (x + 2 ≤ c ∧ c ≤ x + 7) → c < a → gI M2 c z = gI M c z) (hR : M2.2 = M.2) : RG x a M M2 := ⟨fun c k a1 a2 => hI c k a2 a1, fun c k _ => ⟨by unfold gJ; rw [hR], by unfold gR; rw [hR]⟩⟩
theorem CBF.none_eq {fl : Option (Nat × Nat)} (h : CBF x n N b T i fl M) (e : fl = none) : CBq x n N b T i M := by subst e; exact h
theorem RBF.none_eq {fl : Option (Nat × Nat)} (h : RBF m n N b T i fl M) (e : fl = none) : RBq m n N b T i M := by subst e; exact h
theorem CBF.some_eq {fl : Option (Nat × Nat)} {f : Nat × Nat} (h : CBF x n N b T i fl M) (e : fl = some f) : CFl x T f.1 f.2 M := by subst e; exact h
theorem RBF.some_eq {fl : Option (Nat × Nat)} {f : Nat × Nat} (h : RBF m n N b T i fl M) (e : fl = some f) : RFl m T f.1 f.2 M := by subst e; exact h
theorem j_line (hN : N ≤ 900) (hT : TN n b N) (hi : i ≤ N) (h6 : 6 ≤ i) (hV : FV F q) (hq : q + 6 ≤ i) : LNq x m n N b i F := by
  have k42 : tK b n i < 42 := (vk_42 (tK_v i)).1
  have hl6 := hV.1.b3
  have hp4 := hV.1.b4
  have cH : ∀ a T M, CLs x a n N b T i F M → fX6_readLine T M (x + 2) a = if tK b n i = 3 then (Option.bind (fX6_readLane T M (x + 2) a) <| un2 fun _u M3 => some ((), T, M3)) else (if tK b n i = 8 then (Option.bind (fX6_readPattern T M (x + 2) a) <| un2 fun _u M4 => some ((), T, M4)) else (if tK b n i = 9 then (Option.bind (fX6_readLaw T M (x + 2) (spO 0)) <| un3 fun r5 T7 M6 => jX6_readLine_99 T7 M6 r5 a) else (if tK b n i = 10 then (Option.bind (fX6_readLaw T M (x + 2) (spO 1)) <| un3 fun r10 T12 M11 => jX6_readLine_112 T12 M11 r10 a) else (if tK b n i = 11 then (Option.bind (fX6_readLaw T M (x + 2) (spO 2)) <| un3 fun r15 T17 M16 => jX6_readLine_125 T17 M16 r15 a) else (Option.bind (fX6_fail T M (x + 2) (2 : Int32)) <| un2 fun _u M20 => some ((), T, M20)))))) := by
    intro a T M hM
    unfold fX6_readLine
    rw [hM.1.1.k2, gdI, k_kind hM.1, Option.bind_some, ck_lit (c := 202) (k := 3) rfl (by unfold vk; omega), ck_lit (c := 212) (k := 8) rfl (by unfold vk; omega), ck_lit (c := 213) (k := 9) rfl (by unfold vk; omega), ck_lit (c := 214) (k := 10) rfl (by unfold vk; omega), ck_lit (c := 215) (k := 11) rfl (by unfold vk; omega)]
    rfl
  have rH : ∀ T M, RLs m n N b T i F M → fX12_readLine T M m = if tK b n i = 3 then (Option.bind (fX12_readLane T M m) <| un2 fun _u M13 => some ((), M13)) else if tK b n i = 8 then (Option.bind (fX12_readPattern T M m) <| un2 fun _u M12 => some ((), M12)) else if tK b n i < 9 then (Option.bind (fX12_fails T M m (2 : Int32)) <| un2 fun _u M8 => some ((), M8)) else (if 11 < tK b n i then (Option.bind (fX12_fails T M m (2 : Int32)) <| un2 fun _u M10 => some ((), M10)) else (Option.bind (fX12_readLaw T M m (nI (tK b n i - 9))) <| un2 fun _u M11 => some ((), M11))) := by
    intro T M hM
    unfold fX12_readLine
    rw [hM.1.1.1.k, gdI, hM.1.2.2.2.2.2.1, if_pos rfl, r_is hM.1 i_3 (by omega), Option.bind_some, hM.1.2.2.2.1]
    by_cases z3 : tK b n i = 3
    · rw [if_pos z3, if_pos z3, if_neg (by decide)]
    rw [if_neg z3, if_neg z3, if_pos rfl, r_is hM.1 i_8 (by omega), Option.bind_some]
    by_cases z8 : tK b n i = 8
    · rw [if_pos z8, if_pos z8, if_neg (by decide)]
    rw [if_neg z8, if_neg z8, if_pos rfl, i_9, ite_lt (by omega) (by omega), i_11, ite_lt (by omega) (by omega)]
    by_cases z9 : tK b n i < 9
    · rw [if_pos z9, if_pos z9]
    rw [if_neg z9, if_neg z9, c_sub (by omega)]
  -- a fault at once
  have fat : ∀ fk, 1 ≤ fk → fk ≤ 4 → (∀ a T M, CLs x a n N b T i F M → ∀ P : Unit × Sh × Me → Prop, (∀ M', CFl x T (fkd n b i fk) (tP b n i) M' → LFr x M M' → P ((), T, M')) → Ok (fX6_readLine T M (x + 2) a) P) → (∀ T M, RLs m n N b T i F M → ∀ P : Unit × Me → Prop, (∀ M', RFl m T (fkd n b i fk) (tP b n i) M' → FI m (rh m) M M' → P ((), M')) → Ok (fX12_readLine T M m) P) → LNq x m n N b i F := by
    intro fk _ _ hc hr
    refine Or.inr ⟨(fkd n b i fk, tP b n i), fun a T M hM => ?_, fun T M hM => ?_⟩
    · exact hc a T M hM _ (fun M' h f => ⟨h, hM.2.1.k, TE.rfl, f.rg, by show tp T ≤ _; omega, by show sl T ≤ _; omega⟩)
    · exact hr T M hM _ (fun M' h f => ⟨h, f.wide (fun c k z => Or.inl (Or.inl z))⟩)
  have hfail : ∀ fk, 1 ≤ fk → fk ≤ 4 → ∀ a T M (P : Unit × Sh × Me → Prop), CLs x a n N b T i F M → (∀ M', CFl x T (fkd n b i fk) (tP b n i) M' → LFr x M M' → P ((), T, M')) → Ok (Option.bind (fX6_fail T M (x + 2) (nI fk)) <| un2 fun _u M20 => some ((), T, M20)) P := by
    intro fk h1 h2 a T M P hM hP
    refine Ok.bd (k_fail hM.1 h1 h2) (fun p hp => ?_)
    obtain ⟨p1, M'⟩ := p
    rw [une2]
    exact ok_i (hP M' hp.1 hp.2.1)
  have rfail : ∀ fk, 1 ≤ fk → fk ≤ 4 → ∀ T M (P : Unit × Me → Prop), RLs m n N b T i F M → (∀ M', RFl m T (fkd n b i fk) (tP b n i) M' → FI m (rh m) M M' → P ((), M')) → Ok (Option.bind (fX12_fails T M m (nI fk)) <| un2 fun _u M20 => some ((), M20)) P := by
    intro fk h1 h2 T M P hM hP
    refine Ok.bd (r_failsh hM.1 h1 h2) (fun p hp => ?_)
    obtain ⟨p1, M'⟩ := p
    rw [une2]
    exact ok_i (hP M' hp.1 hp.2)
  by_cases z3 : tK b n i = 3
  · have lt0 := hT.lt hi (by omega) (by omega)
    have e3 := hV.1.n3
    by_cases l6 : nlA F = 6
    · refine fat 4 (by omega) (by omega) (fun a T M hM P hP => ?_) (fun T M hM P hP => ?_)
      · rw [cH a T M hM, if_pos z3]
        unfold fX6_readLane
        have e7 : gI M a 7 = nI 6 := by rw [hM.2.1.f7, e3, l6]
        rw [hM.2.1.k, gdI, lte, e7, if_neg (by decide), hM.1.1.k2, gdI, i_4]
        refine Ok.bd (Ok.bd (k_fail hM.1 (by omega) (by omega)) (fun p hp => ?_)) (Q := fun p => P p) (P := fun p => CFl x T (fkd n b i 4) (tP b n i) p.2 ∧ LFr x M p.2) (fun p hp => ?_)
        · obtain ⟨p1, M'⟩ := p
          rw [une2]
          exact ok_i ⟨hp.1, hp.2.1⟩
        · obtain ⟨p1, M'⟩ := p
          rw [une2]
          exact ok_i (hP M' hp.1 hp.2)
      · have hm := hM.1.1.1
        rw [rH T M hM, if_pos z3]
        unfold fX12_readLane
        rw [hm.k, gdI, hm.r4, Option.bind_some, hm.k4, gdI, hm.l4, i_3, gvI (by omega) (by omega), cl_nI (by omega), lte, hM.2 3 (by omega), e3, l6, if_pos (by decide), i_4]
        refine Ok.bd (Ok.bd (r_failsh hM.1 (by omega) (by omega)) (fun p hp => ?_)) (Q := fun p => P p) (P := fun p => RFl m T (fkd n b i 4) (tP b n i) p.2 ∧ FI m (rh m) M p.2) (fun p hp => ?_)
        · obtain ⟨p1, M'⟩ := p
          have hp : RFl m T (fkd n b i 4) (tP b n i) M' ∧ FI m (rh m) M M' := hp
          unfold jX12_readLane_18
          rw [une2, hp.1.1.k, gdI, if_neg hp.1.ne]
          exact ok_i hp
        · obtain ⟨p1, M'⟩ := p
          rw [une2]
          exact ok_i (hP M' hp.1 hp.2)
    have hl : nlA F < 6 := by omega
    cases hfl : lfl4 n b i with
    | none =>
      have h9 := lfl_N hT lt0 hfl
      refine Or.inl ⟨i + 9, laneF F (nlA F) (fun j => tV b n (i + 2 + 2 * j)), q, by omega, h9, by omega, laneF_FV hV hl, fun a T M hM => ?_, fun T M hM => ?_⟩
      · rw [cH a T M hM, if_pos z3]
        refine Ok.bd (c_lane hM.lbs hM.1 (by rw [hM.2.1.f7]; exact e3) hl z3) (fun p hp => ?_)
        obtain ⟨p1, M'⟩ := p
        obtain ⟨g1, g2, g3, g4, g5, g6, g7⟩ := hp
        have ha := hM.2.2.2
        have htp := hM.tpa
        obtain ⟨c1, c2⟩ := hM.2.1.lane (v := fun j => tV b n (i + 2 + 2 * j)) hM.2.2.1 e3 hl g2 (fun c z hc => g3 c z (by omega) (by omega)) g4 g5 g6 (g7 hfl)
        rw [une2]
        exact ok_i ⟨⟨g1.none_eq hfl, c1, c2, ha⟩, TE.rfl, rg_of (fun c z a1 a2 => g3 c z a1 (by omega)) g2, by show tp T + i ≤ _; omega, by show sl T + i ≤ _; omega⟩
      · rw [rH T M hM, if_pos z3]
        refine Ok.bd (r_lane hM.1 hM.2 e3 hl z3) (fun p hp => ?_)
        obtain ⟨p1, M'⟩ := p
        obtain ⟨g1, g2, g3⟩ := hp
        rw [une2]
        exact ok_i ⟨⟨g1.none_eq hfl, g3 hfl⟩, g2.wide (fun c k z => Or.inl z)⟩
    | some f =>
      refine Or.inr ⟨f, fun a T M hM => ?_, fun T M hM => ?_⟩
      · rw [cH a T M hM, if_pos z3]
        refine Ok.bd (c_lane hM.lbs hM.1 (by rw [hM.2.1.f7]; exact e3) hl z3) (fun p hp => ?_)
        obtain ⟨p1, M'⟩ := p
        obtain ⟨g1, g2, g3, _⟩ := hp
        have ha := hM.2.2.2
        rw [une2]
        exact ok_i ⟨g1.some_eq hfl, hM.2.1.k, TE.rfl, rg_of (fun c z a1 a2 => g3 c z a1 (by omega)) g2, by show tp T ≤ _; omega, by show sl T ≤ _; omega⟩
      · rw [rH T M hM, if_pos z3]
        refine Ok.bd (r_lane hM.1 hM.2 e3 hl z3) (fun p hp => ?_)
        obtain ⟨p1, M'⟩ := p
        obtain ⟨g1, g2, g3⟩ := hp
        rw [une2]
        exact ok_i ⟨g1.some_eq hfl, g2.wide (fun c k z => Or.inl z)⟩
  by_cases z8 : tK b n i = 8
  · have lt0 := hT.lt hi (by omega) (by omega)
    have e4 := hV.1.n4
    by_cases l6 : npA F = 4
    · refine fat 4 (by omega) (by omega) (fun a T M hM P hP => ?_) (fun T M hM P hP => ?_)
      · rw [cH a T M hM, if_neg z3, if_pos z8]
        unfold fX6_readPattern
        have e7 : gI M a 8 = nI 4 := by rw [hM.2.1.f8, e4, l6]
        rw [hM.2.1.k, gdI, e7, if_neg (by decide), hM.1.1.k2, gdI, i_4]
        refine Ok.bd (Ok.bd (k_fail hM.1 (by omega) (by omega)) (fun p hp => ?_)) (Q := fun p => P p) (P := fun p => CFl x T (fkd n b i 4) (tP b n i) p.2 ∧ LFr x M p.2) (fun p hp => ?_)
        · obtain ⟨p1, M'⟩ := p
          rw [une2]
          exact ok_i ⟨hp.1, hp.2.1⟩
        · obtain ⟨p1, M'⟩ := p
          rw [une2]
          exact ok_i (hP M' hp.1 hp.2)
      · have hm := hM.1.1.1
        rw [rH T M hM, if_neg z3, if_pos z8]
        unfold fX12_readPattern
        rw [hm.k, gdI, hm.r4, Option.bind_some, hm.k4, gdI, hm.l4, i_4, gvI (by omega) (by omega), cl_nI (by omega), lte, hM.2 4 (by omega), e4, l6, if_pos rfl]
        refine Ok.bd (Ok.bd (r_failsh hM.1 (by omega) (by omega)) (fun p hp => ?_)) (Q := fun p => P p) (P := fun p => RFl m T (fkd n b i 4) (tP b n i) p.2 ∧ FI m (rh m) M p.2) (fun p hp => ?_)
        · obtain ⟨p1, M'⟩ := p
          have hp : RFl m T (fkd n b i 4) (tP b n i) M' ∧ FI m (rh m) M M' := hp
          unfold jX12_readPattern_17
          rw [une2, hp.1.1.k, gdI, if_neg hp.1.ne]
          exact ok_i hp
        · obtain ⟨p1, M'⟩ := p
          rw [une2]
          exact ok_i (hP M' hp.1 hp.2)
    have hp : npA F < 4 := by omega
    cases hfl : nfl n b (i + 1) 0 9 with
    | none =>
      obtain ⟨a25, _, av⟩ := nfl_0 hfl
      have lt1 := hT.lt (i := i + 1) (by omega) (by omega) (by omega)
      refine Or.inl ⟨i + 2, patF F (npA F) (tV b n (i + 1)), q, by omega, by omega, by omega, patF_FV hV hp av, fun a T M hM => ?_, fun T M hM => ?_⟩
      · rw [cH a T M hM, if_neg z3, if_pos z8]
        refine Ok.bd (c_pat hM.lbs hM.1 (by rw [hM.2.1.f8]; exact e4) hp z8) (fun p hp2 => ?_)
        obtain ⟨p1, M'⟩ := p
        obtain ⟨g1, g2, g3, g4, g5, g6, g7⟩ := hp2
        have ha := hM.2.2.2
        have htp := hM.tpa
        obtain ⟨c1, c2⟩ := hM.2.1.pat (v := tV b n (i + 1)) hM.2.2.1 e4 hp hl6 g2 (fun c z hc hc2 => g3 c z (by omega) (by omega) hc2) g4 g5 g6 (g7 hfl)
        rw [une2]
        exact ok_i ⟨⟨g1.none_eq hfl, c1, c2, ha⟩, TE.rfl, rg_of (fun c z a1 a2 => g3 c z a1 (by omega) (by omega)) g2, by show tp T + i ≤ _; omega, by show sl T + i ≤ _; omega⟩
      · rw [rH T M hM, if_neg z3, if_pos z8]
        refine Ok.bd (r_pat hM.1 hM.2 e4 hp z8) (fun p hp2 => ?_)
        obtain ⟨p1, M'⟩ := p
        obtain ⟨g1, g2, g3⟩ := hp2
        rw [une2]
        exact ok_i ⟨⟨g1.none_eq hfl, g3 hfl⟩, g2.wide (fun c k z => Or.inl z)⟩
    | some f =>
      refine Or.inr ⟨f, fun a T M hM => ?_, fun T M hM => ?_⟩
      · rw [cH a T M hM, if_neg z3, if_pos z8]
        refine Ok.bd (c_pat hM.lbs hM.1 (by rw [hM.2.1.f8]; exact e4) hp z8) (fun p hp2 => ?_)
        obtain ⟨p1, M'⟩ := p
        obtain ⟨g1, g2, g3, _⟩ := hp2
        have ha := hM.2.2.2
        rw [une2]
        exact ok_i ⟨g1.some_eq hfl, hM.2.1.k, TE.rfl, rg_of (fun c z a1 a2 => g3 c z a1 (by omega) (by omega)) g2, by show tp T ≤ _; omega, by show sl T ≤ _; omega⟩
      · rw [rH T M hM, if_neg z3, if_pos z8]
        refine Ok.bd (r_pat hM.1 hM.2 e4 hp z8) (fun p hp2 => ?_)
        obtain ⟨p1, M'⟩ := p
        obtain ⟨g1, g2, g3⟩ := hp2
        rw [une2]
        exact ok_i ⟨g1.some_eq hfl, g2.wide (fun c k z => Or.inl z)⟩
  by_cases zl : 9 ≤ tK b n i ∧ tK b n i ≤ 11
  · obtain ⟨lw, hlw, ek⟩ : ∃ lw, lw < 3 ∧ tK b n i = 9 + lw := ⟨tK b n i - 9, by omega, by omega⟩
    have cL : ∀ a T M, CLs x a n N b T i F M → ∀ P : Unit × Sh × Me → Prop, Ok (fX6_readLaw T M (x + 2) (spO lw)) (fun p => kd p.2.1 a = 2 ∧ P ((), p.2.1, pR p.2.2 a (10 + lw) (some p.1))) → Ok (fX6_readLine T M (x + 2) a) P := by
      intro a T M hM P hK
      rw [cH a T M hM, if_neg z3, if_neg z8]
      rcases (by omega : lw = 0 ∨ lw = 1 ∨ lw = 2) with rfl | rfl | rfl
      · rw [if_pos ek]
        refine Ok.bd hK (fun p hp => ?_)
        obtain ⟨p1, p2, p3⟩ := p
        obtain ⟨hp1, hp2⟩ := hp
        have hp1 : kd p2 a = 2 := hp1
        unfold jX6_readLine_99
        rw [une3, hp1, gdI, lte]
        exact ok_i hp2
      · rw [if_neg (by omega), if_pos ek]
        refine Ok.bd hK (fun p hp => ?_)
        obtain ⟨p1, p2, p3⟩ := p
        obtain ⟨hp1, hp2⟩ := hp
        have hp1 : kd p2 a = 2 := hp1
        unfold jX6_readLine_112
        rw [une3, hp1, gdI, lte]
        exact ok_i hp2
      · rw [if_neg (by omega), if_neg (by omega), if_pos ek]
        refine Ok.bd hK (fun p hp => ?_)
        obtain ⟨p1, p2, p3⟩ := p
        obtain ⟨hp1, hp2⟩ := hp
        have hp1 : kd p2 a = 2 := hp1
        unfold jX6_readLine_125
        rw [une3, hp1, gdI, lte]
        exact ok_i hp2
    have rL : ∀ T M, RLs m n N b T i F M → ∀ P : Unit × Me → Prop, Ok (fX12_readLaw T M m (nI lw)) (fun p => P ((), p.2)) → Ok (fX12_readLine T M m) P := by
      intro T M hM P hK
      rw [rH T M hM, if_neg z3, if_neg z8, if_neg (by omega), if_neg (by omega), show tK b n i - 9 = lw by omega]
      refine Ok.bd hK (fun p hp => ?_)
      obtain ⟨p1, p2⟩ := p
      rw [une2]
      exact ok_i hp
    rcases j_law (x := x) (m := m) hN hT hlw hi h6 ek with ⟨i2, cc, rc, u2, v, hS, hc, hr⟩ | ⟨fk, iF, _, hc, hr⟩
    · have s1 := hS.1
      have s2 := hS.2.1
      have s3 := hS.2.2.1
      have s4 := hS.2.2.2.1
      refine Or.inl ⟨i2, lawF F lw q rc, q + rc.length, by omega, s2, by omega, lawF_FV (tr := True) hV hlw (by omega) hS, fun a T M hM => ?_, fun T M hM => ?_⟩
      · have ha := hM.2.2.2
        have htp := hM.tpa
        refine cL a T M hM _ ((hc T M hM.1 (by omega)).mono (fun p hp => ?_))
        obtain ⟨p1, T2, M2⟩ := p
        obtain ⟨q1, q2, q3, q4, q5, q6, q7⟩ := hp
        have q1 : p1 = tp T := q1
        have q2 : T2 = nT (nT T 3 0 2) 13 cc.length cc.length := q2
        have q3 : CBq x n N b T2 i2 M2 := q3
        have hTE : TE T T2 := by rw [q2]; exact TE.new.trans TE.new
        obtain ⟨c1, c2⟩ := hM.2.1.law2 hM.2.2.1 hV ha hlw (by omega) (by omega) hS q2 q4 q5 q6 q7
        refine ⟨(hTE.2 a (by omega)).1.trans hM.2.1.k, ⟨⟨?_, q3.2.1, q3.2.2⟩, by rw [q1]; exact c1, by rw [q1]; exact c2, ha⟩, hTE, ?_, ?_, ?_⟩
        · refine q3.1.fr (fun j hj => ?_)
          have hx : ∀ i, i < 48 → xO i ≤ 65 := by decide
          have := hx j hj
          rw [mRR, if_neg (by omega)]
        · exact RG.pR ⟨fun c k a1 a2 => q4.1 c k (by omega) a2, fun c k a1 => q4.2 c k (by omega)⟩ (Nat.le_refl _)
        · show tp T2 + i ≤ _
          rw [q2]
          show tp T + 1 + 1 + i ≤ _
          omega
        · show sl T2 + i ≤ _
          rw [q2]
          show sl T + 2 + cc.length + i ≤ _
          omega
      · have e131 : gI M (m + 4) 131 = nI q := (hM.2 131 (by omega)).trans hV.2.1
        refine rL T M hM _ ((hr T M q hM.1 e131 hq (fun j a1 a2 => (hM.2 _ (by omega)).trans (hV.2.2.2.2 j a1 a2))).mono (fun p hp => ?_))
        obtain ⟨p1, M2⟩ := p
        obtain ⟨q1, q2, q3, q4, q5, q6, q7, q8, q9, q10⟩ := hp
        refine ⟨⟨q1, fun k hk => ?_⟩, q2⟩
        show gI M2 (m + 4) k = _
        unfold lawF
        by_cases y5 : k = 5 + lw
        · rw [if_pos y5, y5]; exact q3
        rw [if_neg y5]
        by_cases y8 : k = 8 + lw
        · rw [if_pos y8, y8]; exact q4
        rw [if_neg y8]
        by_cases y11 : k = 11 + lw
        · rw [if_pos y11, y11]; exact q5
        rw [if_neg y11]
        by_cases y131 : k = 131
        · rw [if_pos y131, y131]; exact q6
        rw [if_neg y131]
        by_cases yl : k < 131
        · rw [if_neg (by omega)]
          exact (q7 k yl y5 y8 y11).trans (hM.2 k hk)
        obtain ⟨j, rfl⟩ : ∃ j, k = 132 + j := ⟨k - 132, by omega⟩
        by_cases yq : j < q
        · rw [if_neg (by omega)]
          exact (q8 j yq).trans (hM.2 _ hk)
        by_cases yr : j < q + rc.length
        · rw [if_pos (by omega)]
          have := (seg_at rc (132 + q)).mp q9 (j - q) (by omega)
          rw [show 132 + q + (j - q) = 132 + j by omega] at this
          rw [show 132 + j - (132 + q) = j - q by omega]
          exact this
        · rw [if_neg (by omega), hV.2.2.2.2 j (by omega) (by omega)]
          exact q10 j (by omega) (by omega)
    · refine Or.inr ⟨(fk, tP b n iF), fun a T M hM => ?_, fun T M hM => ?_⟩
      · have ha := hM.2.2.2
        have htp := hM.tpa
        refine cL a T M hM _ ((hc T M hM.1 (by omega)).mono (fun p hp => ?_))
        obtain ⟨p1, T2, M2⟩ := p
        obtain ⟨q1, ⟨z, hz, q2⟩, q3, q4⟩ := hp
        have q2 : T2 = nT (nT T 3 0 2) 13 z z := q2
        have hTE : TE T T2 := by rw [q2]; exact TE.new.trans TE.new
        have k2 : kd T2 a = 2 := (hTE.2 a (by omega)).1.trans hM.2.1.k
        refine ⟨k2, ⟨?_, q3.2⟩, k2, hTE, ?_, ?_, ?_⟩
        · refine q3.1.fr (fun j hj => ?_)
          have hx : ∀ i, i < 48 → xO i ≤ 65 := by decide
          have := hx j hj
          rw [mRR, if_neg (by omega)]
        · exact RG.pR ⟨fun c k a1 a2 => q4.1 c k (by omega) a2, fun c k a1 => q4.2 c k (by omega)⟩ (Nat.le_refl _)
        · show tp T2 ≤ _
          rw [q2]
          show tp T + 1 + 1 ≤ _
          omega
        · show sl T2 ≤ _
          rw [q2]
          show sl T + 2 + z ≤ _
          omega
      · have e131 : gI M (m + 4) 131 = nI q := (hM.2 131 (by omega)).trans hV.2.1
        exact rL T M hM _ ((hr T M q hM.1 e131 hq (fun j a1 a2 => (hM.2 _ (by omega)).trans (hV.2.2.2.2 j a1 a2))).mono (fun p hp => hp))
  · refine fat 2 (by omega) (by omega) (fun a T M hM P hP => ?_) (fun T M hM P hP => ?_)
    · rw [cH a T M hM, if_neg z3, if_neg z8, if_neg (by omega), if_neg (by omega), if_neg (by omega), i_2]
      exact hfail 2 (by omega) (by omega) a T M P hM hP
    · rw [rH T M hM, if_neg z3, if_neg z8, i_2]
      by_cases z9 : tK b n i < 9
      · rw [if_pos z9]
        exact rfail 2 (by omega) (by omega) T M P hM hP
      · rw [if_neg z9, if_pos (by omega)]
        exact rfail 2 (by omega) (by omega) T M P hM hP
end
