/-! how a lab begins -/
section
variable {x m n N lw i o q d a l p : Nat} {b : Nat → Nat} {u : Int32} {T T2 : Sh} {M M1 M2 : Me} {F G : Nat → Int32}
theorem gI_nw {k : Nat} : gI (nM T M) (tp T) k = 0 := congrFun (show (va_up M.1 T.1 (fun _ => 0)) T.1 = fun _ => 0 from if_pos rfl) k
theorem gR_nw {k : Nat} : gR (nM T M) (tp T) k = none := congrFun (show (va_up M.2.2 T.1 (fun _ => none)) T.1 = fun _ => none from if_pos rfl) k
theorem kd_nw {kk n s : Nat} : kd (nT T kk n s) (tp T) = kk := if_pos rfl
theorem ln_nw {kk n s : Nat} : ln (nT T kk n s) (tp T) = n := if_pos rfl
theorem kd_od {kk n s c : Nat} (h : c < tp T) : kd (nT T kk n s) c = kd T c := (TE.new.2 c h).1
theorem ln_od {kk n s c : Nat} (h : c < tp T) : ln (nT T kk n s) c = ln T c := (TE.new.2 c h).2
def plF (k : Nat) : Int32 := if k = 1 then 1 else if k = 2 then 1 else if k = 49 then -1 else 0
def lbT (T : Sh) : Sh := nT (nT (nT (nT (nT (nT T 2 0 13) 13 6 6) 13 6 6) 13 6 6) 13 6 6) 13 5 5
theorem lbT_te : TE T (lbT T) := ((((TE.new.trans TE.new).trans TE.new).trans TE.new).trans TE.new).trans TE.new
theorem c_newLab (ht : x + 88 ≤ tp T) : Ok (fX3_init (nT T 2 0 13) (nM T M) (tp T)) (fun p => p.2.1 = lbT T ∧ CLab x (tp T) plF (lbT T) p.2.2 ∧ LWn (tp T) p.2.2 ∧ (∀ c k, c < tp T → gI p.2.2 c k = gI M c k ∧ gJ p.2.2 c k = gJ M c k ∧ gR p.2.2 c k = gR M c k)) := by
  have e1 : tp (nT T 2 0 13) = tp T + 1 := rfl
  have k1 : kd (nT T 2 0 13) (tp T) = 2 := kd_nw
  unfold fX3_init jX3_init_9 jX3_init_17 jX3_init_25 jX3_init_33 jX3_init_40
  generalize hT1 : nT T 2 0 13 = T1 at e1 k1
  generalize hM1 : nM T M = M1
  have g1I : ∀ c k, c < tp T → gI M1 c k = gI M c k := fun c k hc => by rw [← hM1]; exact gI_old (by omega)
  have g1J : ∀ c k, c < tp T → gJ M1 c k = gJ M c k := fun c k hc => by rw [← hM1]; exact gJ_old (by omega)
  have g1R : ∀ c k, c < tp T → gR M1 c k = gR M c k := fun c k hc => by rw [← hM1]; exact gR_old (by omega)
  have z1I : ∀ k, gI M1 (tp T) k = 0 := fun k => by rw [← hM1]; exact gI_nw
  have z1R : ∀ k, gR M1 (tp T) k = none := fun k => by rw [← hM1]; exact gR_nw
  have e2 : tp (nT T1 13 6 6) = tp T + 2 := by show tp T1 + 1 = _; omega
  have k2 : kd (nT T1 13 6 6) (tp T) = 2 := (kd_od (by omega)).trans k1
  have a1 : kd (nT T1 13 6 6) (tp T + 1) = 13 ∧ ln (nT T1 13 6 6) (tp T + 1) = 6 := by rw [← e1]; exact ⟨kd_nw, ln_nw⟩
  rw [k2, gdI, lte, e1]
  generalize hT2 : nT T1 13 6 6 = T2 at e2 k2 a1
  have e3 : tp (nT T2 13 6 6) = tp T + 3 := by show tp T2 + 1 = _; omega
  have k3 : kd (nT T2 13 6 6) (tp T) = 2 := (kd_od (by omega)).trans k2
  have a2 : kd (nT T2 13 6 6) (tp T + 2) = 13 ∧ ln (nT T2 13 6 6) (tp T + 2) = 6 := by rw [← e2]; exact ⟨kd_nw, ln_nw⟩
  have a1' : kd (nT T2 13 6 6) (tp T + 1) = 13 ∧ ln (nT T2 13 6 6) (tp T + 1) = 6 := ⟨(kd_od (by omega)).trans a1.1, (ln_od (by omega)).trans a1.2⟩
  rw [k3, gdI, lte, e2]
  generalize hT3 : nT T2 13 6 6 = T3 at e3 k3 a2 a1'
  have e4 : tp (nT T3 13 6 6) = tp T + 4 := by show tp T3 + 1 = _; omega
  have k4 : kd (nT T3 13 6 6) (tp T) = 2 := (kd_od (by omega)).trans k3
  have b3 : kd (nT T3 13 6 6) (tp T + 3) = 13 ∧ ln (nT T3 13 6 6) (tp T + 3) = 6 := by rw [← e3]; exact ⟨kd_nw, ln_nw⟩
  have b2 : kd (nT T3 13 6 6) (tp T + 2) = 13 ∧ ln (nT T3 13 6 6) (tp T + 2) = 6 := ⟨(kd_od (by omega)).trans a2.1, (ln_od (by omega)).trans a2.2⟩
  have b1 : kd (nT T3 13 6 6) (tp T + 1) = 13 ∧ ln (nT T3 13 6 6) (tp T + 1) = 6 := ⟨(kd_od (by omega)).trans a1'.1, (ln_od (by omega)).trans a1'.2⟩
  rw [k4, gdI, lte, e3]
  generalize hT4 : nT T3 13 6 6 = T4 at e4 k4 b3 b2 b1
  have e5 : tp (nT T4 13 6 6) = tp T + 5 := by show tp T4 + 1 = _; omega
  have k5 : kd (nT T4 13 6 6) (tp T) = 2 := (kd_od (by omega)).trans k4
  have c4 : kd (nT T4 13 6 6) (tp T + 4) = 13 ∧ ln (nT T4 13 6 6) (tp T + 4) = 6 := by rw [← e4]; exact ⟨kd_nw, ln_nw⟩
  have c3 : kd (nT T4 13 6 6) (tp T + 3) = 13 ∧ ln (nT T4 13 6 6) (tp T + 3) = 6 := ⟨(kd_od (by omega)).trans b3.1, (ln_od (by omega)).trans b3.2⟩
  have c2 : kd (nT T4 13 6 6) (tp T + 2) = 13 ∧ ln (nT T4 13 6 6) (tp T + 2) = 6 := ⟨(kd_od (by omega)).trans b2.1, (ln_od (by omega)).trans b2.2⟩
  have c1 : kd (nT T4 13 6 6) (tp T + 1) = 13 ∧ ln (nT T4 13 6 6) (tp T + 1) = 6 := ⟨(kd_od (by omega)).trans b1.1, (ln_od (by omega)).trans b1.2⟩
  rw [k5, gdI, lte, e4]
  generalize hT5 : nT T4 13 6 6 = T5 at e5 k5 c4 c3 c2 c1
  have e6 : tp (nT T5 13 5 5) = tp T + 6 := by show tp T5 + 1 = _; omega
  have k6 : kd (nT T5 13 5 5) (tp T) = 2 := (kd_od (by omega)).trans k5
  have d5 : kd (nT T5 13 5 5) (tp T + 5) = 13 ∧ ln (nT T5 13 5 5) (tp T + 5) = 5 := by rw [← e5]; exact ⟨kd_nw, ln_nw⟩
  have d4 : kd (nT T5 13 5 5) (tp T + 4) = 13 ∧ ln (nT T5 13 5 5) (tp T + 4) = 6 := ⟨(kd_od (by omega)).trans c4.1, (ln_od (by omega)).trans c4.2⟩
  have d3 : kd (nT T5 13 5 5) (tp T + 3) = 13 ∧ ln (nT T5 13 5 5) (tp T + 3) = 6 := ⟨(kd_od (by omega)).trans c3.1, (ln_od (by omega)).trans c3.2⟩
  have d2 : kd (nT T5 13 5 5) (tp T + 2) = 13 ∧ ln (nT T5 13 5 5) (tp T + 2) = 6 := ⟨(kd_od (by omega)).trans c2.1, (ln_od (by omega)).trans c2.2⟩
  have d1 : kd (nT T5 13 5 5) (tp T + 1) = 13 ∧ ln (nT T5 13 5 5) (tp T + 1) = 6 := ⟨(kd_od (by omega)).trans c1.1, (ln_od (by omega)).trans c1.2⟩
  have eLb : lbT T = nT T5 13 5 5 := by unfold lbT; rw [hT1, hT2, hT3, hT4, hT5]
  rw [k6, gdI, lte, gdI, lte, lte, e5, ← eLb]
  rw [← eLb] at e6 k6 d5 d4 d3 d2 d1
  clear hT1 hT2 hT3 hT4 hT5 hM1
  -- the memory
  generalize hA : nM T1 M1 = A1
  have A1I : ∀ c k, c ≠ tp T + 1 → gI A1 c k = gI M1 c k := fun c k hc => by rw [← hA]; exact gI_old (by omega)
  have A1J : ∀ c k, c ≠ tp T + 1 → gJ A1 c k = gJ M1 c k := fun c k hc => by rw [← hA]; exact gJ_old (by omega)
  have A1R : ∀ c k, c ≠ tp T + 1 → gR A1 c k = gR M1 c k := fun c k hc => by rw [← hA]; exact gR_old (by omega)
  have A1z : ∀ k, gI A1 (tp T + 1) k = 0 := fun k => by rw [← hA, ← e1]; exact gI_nw
  generalize hB : nM T2 (pR A1 (tp T) 0 (some (tp T + 1))) = B1
  have B1I : ∀ c k, c ≠ tp T + 2 → gI B1 c k = gI A1 c k := fun c k hc => by rw [← hB]; exact gI_old (by omega)
  have B1J : ∀ c k, c ≠ tp T + 2 → gJ B1 c k = gJ A1 c k := fun c k hc => by rw [← hB]; exact gJ_old (by omega)
  have B1R : ∀ c k, c ≠ tp T + 2 → gR B1 c k = gR (pR A1 (tp T) 0 (some (tp T + 1))) c k := fun c k hc => by rw [← hB]; exact gR_old (by omega)
  have B1z : ∀ k, gI B1 (tp T + 2) k = 0 := fun k => by rw [← hB, ← e2]; exact gI_nw
  generalize hC : nM T3 (pR B1 (tp T) 1 (some (tp T + 2))) = C1
  have C1I : ∀ c k, c ≠ tp T + 3 → gI C1 c k = gI B1 c k := fun c k hc => by rw [← hC]; exact gI_old (by omega)
  have C1J : ∀ c k, c ≠ tp T + 3 → gJ C1 c k = gJ B1 c k := fun c k hc => by rw [← hC]; exact gJ_old (by omega)
  have C1R : ∀ c k, c ≠ tp T + 3 → gR C1 c k = gR (pR B1 (tp T) 1 (some (tp T + 2))) c k := fun c k hc => by rw [← hC]; exact gR_old (by omega)
  have C1z : ∀ k, gI C1 (tp T + 3) k = 0 := fun k => by rw [← hC, ← e3]; exact gI_nw
  generalize hD : nM T4 (pR C1 (tp T) 2 (some (tp T + 3))) = D1
  have D1I : ∀ c k, c ≠ tp T + 4 → gI D1 c k = gI C1 c k := fun c k hc => by rw [← hD]; exact gI_old (by omega)
  have D1J : ∀ c k, c ≠ tp T + 4 → gJ D1 c k = gJ C1 c k := fun c k hc => by rw [← hD]; exact gJ_old (by omega)
  have D1R : ∀ c k, c ≠ tp T + 4 → gR D1 c k = gR (pR C1 (tp T) 2 (some (tp T + 3))) c k := fun c k hc => by rw [← hD]; exact gR_old (by omega)
  have D1z : ∀ k, gI D1 (tp T + 4) k = 0 := fun k => by rw [← hD, ← e4]; exact gI_nw
  generalize hE : nM T5 (pR D1 (tp T) 3 (some (tp T + 4))) = E1
  have E1I : ∀ c k, c ≠ tp T + 5 → gI E1 c k = gI D1 c k := fun c k hc => by rw [← hE]; exact gI_old (by omega)
  have E1J : ∀ c k, c ≠ tp T + 5 → gJ E1 c k = gJ D1 c k := fun c k hc => by rw [← hE]; exact gJ_old (by omega)
  have E1R : ∀ c k, c ≠ tp T + 5 → gR E1 c k = gR (pR D1 (tp T) 3 (some (tp T + 4))) c k := fun c k hc => by rw [← hE]; exact gR_old (by omega)
  have E1z : ∀ k, gI E1 (tp T + 5) k = 0 := fun k => by rw [← hE, ← e5]; exact gI_nw
  clear hA hB hC hD hE
  have XI : ∀ c k, ¬ (c = tp T ∧ (k = 5 ∨ k = 6)) → gI (pI (pI (pR E1 (tp T) 4 (some (tp T + 5))) (tp T) 5 1) (tp T) 6 1) c k = gI E1 c k := fun c k hc => by rw [mII, if_neg (by omega), mII, if_neg (by omega)]; rfl
  have XR : ∀ c k, gR (pI (pI (pR E1 (tp T) 4 (some (tp T + 5))) (tp T) 5 1) (tp T) 6 1) c k = if c = tp T ∧ k = 4 then some (tp T + 5) else gR E1 c k := fun c k => by rw [mRI, mRI, mRR]
  have RT : ∀ k, gR E1 (tp T) k = if k = 3 then some (tp T + 4) else if k = 2 then some (tp T + 3) else if k = 1 then some (tp T + 2) else if k = 0 then some (tp T + 1) else none := fun k => by
    rw [E1R _ _ (by omega), mRR]
    by_cases y3 : k = 3
    · rw [if_pos ⟨rfl, y3⟩, if_pos y3]
    rw [if_neg (fun z => y3 z.2), if_neg y3, D1R _ _ (by omega), mRR]
    by_cases y2 : k = 2
    · rw [if_pos ⟨rfl, y2⟩, if_pos y2]
    rw [if_neg (fun z => y2 z.2), if_neg y2, C1R _ _ (by omega), mRR]
    by_cases y1 : k = 1
    · rw [if_pos ⟨rfl, y1⟩, if_pos y1]
    rw [if_neg (fun z => y1 z.2), if_neg y1, B1R _ _ (by omega), mRR]
    by_cases y0 : k = 0
    · rw [if_pos ⟨rfl, y0⟩, if_pos y0]
    rw [if_neg (fun z => y0 z.2), if_neg y0, A1R _ _ (by omega), z1R]
  have IT : ∀ k, gI E1 (tp T) k = 0 := fun k => by rw [E1I _ _ (by omega), D1I _ _ (by omega), C1I _ _ (by omega), B1I _ _ (by omega), A1I _ _ (by omega), z1I]
  have ra : ∀ k, 4 ≤ k → gR (pI (pI (pR E1 (tp T) 4 (some (tp T + 5))) (tp T) 5 1) (tp T) 6 1) (tp T) k = if k = 4 then some (tp T + 5) else none := fun k hk => by
    rw [XR, RT]
    by_cases y : k = 4
    · rw [if_pos ⟨rfl, y⟩, if_pos y]
    · rw [if_neg (fun z => y z.2), if_neg y, if_neg (by omega), if_neg (by omega), if_neg (by omega), if_neg (by omega)]
  have nl0 : nlA plF = 0 := by decide
  refine ok_i ⟨rfl, ⟨⟨k6, by omega, by omega⟩, fun i hi => ?_, ⟨?_, ?_, ?_, ?_, ?_⟩, fun l hl => absurd hl (by omega), fun q hq => ?_, fun lw hl => Or.inl ⟨?_, ?_⟩⟩, fun lw e hl he => ?_, fun c k hc => ⟨?_, ?_, ?_⟩⟩
  · rcases (by omega : i = 0 ∨ i = 1 ∨ i = 2 ∨ i = 3 ∨ i = 4) with rfl | rfl | rfl | rfl | rfl
    · exact ⟨by rw [XR, if_neg (by omega), RT]; rfl, d1⟩
    · exact ⟨by rw [XR, if_neg (by omega), RT]; rfl, d2⟩
    · exact ⟨by rw [XR, if_neg (by omega), RT]; rfl, d3⟩
    · exact ⟨by rw [XR, if_neg (by omega), RT]; rfl, d4⟩
    · exact ⟨by rw [XR, if_pos ⟨rfl, rfl⟩], d5⟩
  · rw [mIIk (by omega), mII1]; rfl
  · rw [mII1]; rfl
  · rw [XI _ _ (by omega), IT]; rfl
  · rw [XI _ _ (by omega), IT]; rfl
  · rw [XI _ _ (by omega), IT]; rfl
  · have e0 : npA plF = 0 := by decide
    have q0 : q = 0 := by omega
    subst q0
    rw [XI _ _ (by omega), E1z]; rfl
  · rw [ra _ (by omega), if_neg (by omega)]
  · unfold plF; rw [if_neg (by omega), if_neg (by omega), if_neg (by omega)]
  · rw [ra _ (by omega), if_neg (by omega)] at he
    cases he
  · show gI (pI (pI (pR E1 (tp T) 4 (some (tp T + 5))) (tp T) 5 1) (tp T) 6 1) c k = _
    rw [XI _ _ (by omega), E1I _ _ (by omega), D1I _ _ (by omega), C1I _ _ (by omega), B1I _ _ (by omega), A1I _ _ (by omega), g1I _ _ hc]
  · show gJ E1 c k = _
    rw [E1J _ _ (by omega), D1J _ _ (by omega), C1J _ _ (by omega), B1J _ _ (by omega), A1J _ _ (by omega), g1J _ _ hc]
  · show gR (pI (pI (pR E1 (tp T) 4 (some (tp T + 5))) (tp T) 5 1) (tp T) 6 1) c k = _
    rw [XR, if_neg (by omega), E1R _ _ (by omega), mRR, if_neg (by omega), D1R _ _ (by omega), mRR, if_neg (by omega), C1R _ _ (by omega), mRR, if_neg (by omega), B1R _ _ (by omega), mRR, if_neg (by omega), A1R _ _ (by omega), g1R _ _ hc]
end
