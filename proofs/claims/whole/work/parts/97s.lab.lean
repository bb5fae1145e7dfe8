section
variable {x m n N lw i o q d a l p : Nat} {b : Nat → Nat} {u : Int32} {T T2 : Sh} {M M1 M2 : Me} {F G : Nat → Int32} {v : (Nat → Int32) → Int32} {cc rc : List Int32}
/-- laws lie behind their lab -/
def LWn (a : Nat) (M : Me) : Prop := ∀ lw e, lw < 3 → gR M a (10 + lw) = some e → a + 5 < e ∧ ∀ c, gR M e 0 = some c → a + 5 < c
theorem CLaw.fr2 {e : Nat} (h : CLaw x e F lw T M) (hT : TE T T2) (hR : ∀ k, gR M2 e k = gR M e k) (hI : ∀ k, gI M2 e k = gI M e k) (hC : ∀ c, gR M e 0 = some c → c < tp T → ∀ k, gI M2 c k = gI M c k) (hd : ∀ w, den G lw w = den F lw w) : CLaw x e G lw T2 M2 := by
  obtain ⟨⟨h1, h2, h3⟩, ⟨c, n, h4, h5, h6, h7, h8, h9, h10⟩, h11⟩ := h
  refine ⟨⟨(hT.2 e h3).1.trans h1, h2, by have := hT.1; omega⟩, ⟨c, n, (hR 0).trans h4, (hT.2 c h9).1.trans h5, (hT.2 c h9).2.trans h6, h7, h8, by have := hT.1; omega, fun w hw => ?_⟩, fun w w2 ew => ?_⟩
  · have e1 : gI M2 c = gI M c := funext fun k => hC c h4 h9 k
    rw [e1, hd]; exact h10 w hw
  · rw [hI 1] at ew
    rw [hd, hd]; exact h11 w w2 ew
theorem CLab.gen (h : CLab x a F T M) (hw : LWn a M) (hT : TE T T2) (hR : ∀ c k, c < tp T → gR M2 c k = gR M c k) (hI : ∀ c k, a + 5 < c → c < tp T → gI M2 c k = gI M c k) (hf : gI M2 a 5 = G 1 ∧ gI M2 a 6 = G 2 ∧ gI M2 a 7 = G 3 ∧ gI M2 a 8 = G 4 ∧ gI M2 a 9 = G 0) (hl : ∀ l, l < nlA G → gI M2 (a + 1) l = G (14 + l) ∧ gI M2 (a + 2) l = G (20 + l) ∧ gI M2 (a + 3) l = G (26 + l) ∧ gI M2 (a + 4) l = G (32 + l)) (hs : ∀ q, q ≤ npA G → gI M2 (a + 5) q = stA G q) (e5 : ∀ lw, lw < 3 → G (5 + lw) = F (5 + lw)) (hd : ∀ lw, lw < 3 → ∀ w, den G lw w = den F lw w) : CLab x a G T2 M2 ∧ LWn a M2 := by
  obtain ⟨⟨h1, h2, h3⟩, h4, h5, h10, h11, h12⟩ := h
  refine ⟨⟨⟨(hT.2 a (by omega)).1.trans h1, h2, by have := hT.1; omega⟩, fun i hi => ?_, hf, hl, hs, fun lw hlw => ?_⟩, fun lw e hlw he => ?_⟩
  · obtain ⟨k1, k2, k3⟩ := h4 i hi
    exact ⟨(hR a i (by omega)).trans k1, (hT.2 _ (by omega)).1.trans k2, (hT.2 _ (by omega)).2.trans k3⟩
  · rw [hR a _ (by omega), e5 lw hlw]
    rcases h12 lw hlw with k | ⟨e, k1, k2, k3⟩
    · exact Or.inl k
    · obtain ⟨w1, w2⟩ := hw lw e hlw k1
      refine Or.inr ⟨e, k1, k2, k3.fr2 hT (fun k => hR e k k3.1.2.2) (fun k => hI e k w1 k3.1.2.2) (fun c ec hc k => hI c k (w2 c ec) hc) (hd lw hlw)⟩
  · rw [hR a _ (by omega)] at he
    obtain ⟨w1, w2⟩ := hw lw e hlw he
    refine ⟨w1, fun c hc => ?_⟩
    rcases h12 lw hlw with k | ⟨e', k1, k2, k3⟩
    · rw [he] at k; cases k.1
    · rw [he] at k1
      cases k1
      rw [hR e 0 k3.1.2.2] at hc
      exact w2 c hc
theorem den_lane {v : Nat → Nat} (hl : l < 6) {lw : Nat} (hlw : lw < 3) (w : Nat → Int32) : den (laneF F l v) lw w = den F lw w := by
  have e : ∀ k, (5 ≤ k ∧ k < 14) ∨ 132 ≤ k → laneF F l v k = F k := fun k hk => by unfold laneF; rw [if_neg (by omega), if_neg (by omega), if_neg (by omega), if_neg (by omega), if_neg (by omega)]
  rw [den_cong hlw (fun k a1 a2 => e k (by omega)) (fun k a1 a2 => e k (by omega))]
theorem den_pat {v : Nat} (hp : p < 4) {lw : Nat} (hlw : lw < 3) (w : Nat → Int32) : den (patF F p v) lw w = den F lw w := by
  have e : ∀ k, (5 ≤ k ∧ k < 14) ∨ 132 ≤ k → patF F p v k = F k := fun k hk => by unfold patF; rw [if_neg (by omega), if_neg (by omega)]
  rw [den_cong hlw (fun k a1 a2 => e k (by omega)) (fun k a1 a2 => e k (by omega))]
theorem den_ln {lw : Nat} (hlw : lw < 3) (w : Nat → Int32) : den (lnF F) lw w = den F lw w := by
  have e : ∀ k, 5 ≤ k → lnF F k = F k := fun k hk => if_neg (by omega)
  rw [den_cong hlw (fun k a1 a2 => e k (by omega)) (fun k a1 a2 => e k (by omega))]
theorem CLab.lane {v : Nat → Nat} (h : CLab x a F T M) (hw : LWn a M) (e3 : F 3 = nI l) (hl : l < 6) (hR : M2.2 = M.2) (hI : ∀ c z, a + 4 < c → gI M2 c z = gI M c z) (g1 : ∀ z, z ≠ 7 → gI M2 a z = gI M a z) (g2 : gI M2 a 7 = nI (l + 1)) (g3 : ∀ j z, j < 4 → z ≠ l → gI M2 (a + 1 + j) z = gI M (a + 1 + j) z) (g4 : ∀ j, j < 4 → gI M2 (a + 1 + j) l = nI (v j)) : CLab x a (laneF F l v) T M2 ∧ LWn a M2 := by
  have e : ∀ k, k ≠ 3 → k ≠ 14 + l → k ≠ 20 + l → k ≠ 26 + l → k ≠ 32 + l → laneF F l v k = F k := fun k a1 a2 a3 a4 a5 => by unfold laneF; rw [if_neg a1, if_neg a2, if_neg a3, if_neg a4, if_neg a5]
  have en : nlA F = l := by unfold nlA; rw [e3, cl_nI (by omega)]
  have en2 : nlA (laneF F l v) = l + 1 := by
    unfold nlA
    have : laneF F l v 3 = nI (l + 1) := if_pos rfl
    rw [this, cl_nI (by omega)]
  have er : ∀ c k, gR M2 c k = gR M c k := fun c k => by unfold gR; rw [hR]
  refine h.gen hw TE.rfl (fun c k _ => er c k) (fun c k a1 _ => hI c k (by omega)) ⟨?_, ?_, ?_, ?_, ?_⟩ (fun j hj => ?_) (fun z hz => ?_) (fun lw hlw => e _ (by omega) (by omega) (by omega) (by omega) (by omega)) (fun lw hlw w => den_lane hl hlw w)
  · rw [g1 5 (by omega), h.f5, e 1 (by omega) (by omega) (by omega) (by omega) (by omega)]
  · rw [g1 6 (by omega), h.f6, e 2 (by omega) (by omega) (by omega) (by omega) (by omega)]
  · rw [g2]; exact (if_pos rfl).symm
  · rw [g1 8 (by omega), h.f8, e 4 (by omega) (by omega) (by omega) (by omega) (by omega)]
  · rw [g1 9 (by omega), h.f9, e 0 (by omega) (by omega) (by omega) (by omega) (by omega)]
  · rw [en2] at hj
    by_cases y : j = l
    · subst y
      have q0 := g4 0 (by omega)
      have q1 := g4 1 (by omega)
      have q2 := g4 2 (by omega)
      have q3 := g4 3 (by omega)
      refine ⟨q0.trans ?_, q1.trans ?_, q2.trans ?_, q3.trans ?_⟩
      · unfold laneF; rw [if_neg (by omega), if_pos rfl]
      · unfold laneF; rw [if_neg (by omega), if_neg (by omega), if_pos rfl]
      · unfold laneF; rw [if_neg (by omega), if_neg (by omega), if_neg (by omega), if_pos rfl]
      · unfold laneF; rw [if_neg (by omega), if_neg (by omega), if_neg (by omega), if_neg (by omega), if_pos rfl]
    · have hj2 : j < nlA F := by omega
      rw [e _ (by omega) (by omega) (by omega) (by omega) (by omega), e _ (by omega) (by omega) (by omega) (by omega) (by omega), e _ (by omega) (by omega) (by omega) (by omega) (by omega), e _ (by omega) (by omega) (by omega) (by omega) (by omega)]
      exact ⟨(g3 0 j (by omega) y).trans (h.at hj2), (g3 1 j (by omega) y).trans (h.mid hj2), (g3 2 j (by omega) y).trans (h.wide hj2), (g3 3 j (by omega) y).trans (h.high hj2)⟩
  · have ep : npA (laneF F l v) = npA F := by unfold npA; rw [e 4 (by omega) (by omega) (by omega) (by omega) (by omega)]
    have es : stA (laneF F l v) z = stA F z := by
      unfold stA
      by_cases y : z = 0
      · rw [if_pos y, if_pos y]
      · rw [if_neg y, if_neg y, e _ (by omega) (by omega) (by omega) (by omega) (by omega)]
    rw [hI _ _ (by omega), es]
    exact h.st (by rw [← ep]; exact hz)
theorem CLab.pat {v : Nat} (h : CLab x a F T M) (hw : LWn a M) (e4 : F 4 = nI p) (hp : p < 4) (hl6 : nlA F ≤ 6) (hR : M2.2 = M.2) (hI : ∀ c z, a < c → c ≠ a + 5 → gI M2 c z = gI M c z) (g1 : ∀ z, z ≠ 8 → gI M2 a z = gI M a z) (g2 : gI M2 a 8 = nI (p + 1)) (g3 : ∀ z, z ≠ p + 1 → gI M2 (a + 5) z = gI M (a + 5) z) (g4 : gI M2 (a + 5) (p + 1) = nI v) : CLab x a (patF F p v) T M2 ∧ LWn a M2 := by
  have e : ∀ k, k ≠ 4 → k ≠ 38 + p → patF F p v k = F k := fun k a1 a2 => by unfold patF; rw [if_neg a1, if_neg a2]
  have ep : npA F = p := by unfold npA; rw [e4, cl_nI (by omega)]
  have ep2 : npA (patF F p v) = p + 1 := by
    unfold npA
    have : patF F p v 4 = nI (p + 1) := if_pos rfl
    rw [this, cl_nI (by omega)]
  have en : nlA (patF F p v) = nlA F := by unfold nlA; rw [e 3 (by omega) (by omega)]
  have er : ∀ c k, gR M2 c k = gR M c k := fun c k => by unfold gR; rw [hR]
  refine h.gen hw TE.rfl (fun c k _ => er c k) (fun c k a1 _ => hI c k (by omega) (by omega)) ⟨?_, ?_, ?_, ?_, ?_⟩ (fun j hj => ?_) (fun z hz => ?_) (fun lw hlw => e _ (by omega) (by omega)) (fun lw hlw w => den_pat hp hlw w)
  · rw [g1 5 (by omega), h.f5, e 1 (by omega) (by omega)]
  · rw [g1 6 (by omega), h.f6, e 2 (by omega) (by omega)]
  · rw [g1 7 (by omega), h.f7, e 3 (by omega) (by omega)]
  · rw [g2]; exact (if_pos rfl).symm
  · rw [g1 9 (by omega), h.f9, e 0 (by omega) (by omega)]
  · rw [en] at hj
    rw [hI _ _ (by omega) (by omega), hI _ _ (by omega) (by omega), hI _ _ (by omega) (by omega), hI _ _ (by omega) (by omega), e _ (by omega) (by omega), e _ (by omega) (by omega), e _ (by omega) (by omega), e _ (by omega) (by omega)]
    exact ⟨h.at hj, h.mid hj, h.wide hj, h.high hj⟩
  · rw [ep2] at hz
    by_cases y : z = p + 1
    · rw [y, g4]
      unfold stA
      rw [if_neg (by omega)]
      unfold patF
      rw [if_neg (by omega), if_pos (by omega)]
    · have es : stA (patF F p v) z = stA F z := by
        unfold stA
        by_cases y2 : z = 0
        · rw [if_pos y2, if_pos y2]
        · rw [if_neg y2, if_neg y2, e _ (by omega) (by omega)]
      rw [g3 z y, es]
      exact h.st (by rw [ep]; omega)
theorem CLab.line (h : CLab x a F T M) (hw : LWn a M) (hl6 : nlA F ≤ 6) : CLab x a (lnF F) T (pI M a 9 (gI M a 9 + 1)) ∧ LWn a (pI M a 9 (gI M a 9 + 1)) := by
  have e : ∀ k, k ≠ 0 → lnF F k = F k := fun k hk => if_neg hk
  have en : nlA (lnF F) = nlA F := by unfold nlA; rw [e 3 (by omega)]
  have ep : npA (lnF F) = npA F := by unfold npA; rw [e 4 (by omega)]
  refine h.gen hw TE.rfl (fun c k _ => rfl) (fun c k a1 _ => mIIn (by omega)) ⟨?_, ?_, ?_, ?_, ?_⟩ (fun j hj => ?_) (fun z hz => ?_) (fun lw hlw => e _ (by omega)) (fun lw hlw w => den_ln hlw w)
  · rw [mIIk (by omega), h.f5, e 1 (by omega)]
  · rw [mIIk (by omega), h.f6, e 2 (by omega)]
  · rw [mIIk (by omega), h.f7, e 3 (by omega)]
  · rw [mIIk (by omega), h.f8, e 4 (by omega)]
  · rw [mII1, h.f9]; exact (if_pos rfl).symm
  · rw [en] at hj
    rw [mIIn (by omega), mIIn (by omega), mIIn (by omega), mIIn (by omega), e _ (by omega), e _ (by omega), e _ (by omega), e _ (by omega)]
    exact ⟨h.at hj, h.mid hj, h.wide hj, h.high hj⟩
  · rw [ep] at hz
    have es : stA (lnF F) z = stA F z := by
      unfold stA
      by_cases y2 : z = 0
      · rw [if_pos y2, if_pos y2]
      · rw [if_neg y2, if_neg y2, e _ (by omega)]
    rw [mIIn (by omega), es]
    exact h.st hz
theorem CLab.law2 {i2 i0 : Nat} (h : CLab x a F T M) (hw : LWn a M) (hV : FV F q) (ha : x + 88 ≤ a) (hlw : lw < 3) (hq : q + rc.length ≤ 900) (hc : cc.length ≤ 900) (hS : SXq N 22 lw (lw < 2) i0 0 0 i2 cc rc u v) (eT : T2 = nT (nT T 3 0 2) 13 cc.length cc.length) (hG : RG x (tp T) M M2) (g1 : gI M2 (tp T) 1 = u) (g0 : gR M2 (tp T) 0 = some (tp T + 1)) (gc : SEG (gI M2 (tp T + 1)) 0 cc) : CLab x a (lawF F lw q rc) T2 (pR M2 a (10 + lw) (some (tp T))) ∧ LWn a (pR M2 a (10 + lw) (some (tp T))) := by
  obtain ⟨s1, s2, s3, s4, s5, s6, s7, s8, s9⟩ := hS
  have hTE : TE T T2 := by rw [eT]; exact TE.new.trans TE.new
  have ht2 : tp T2 = tp T + 2 := by rw [eT]; rfl
  have k3 : kd T2 (tp T) = 3 := by
    rw [eT]
    exact ((TE.new (T := nT T 3 0 2) (kk := 13) (n := cc.length) (s := cc.length)).2 (tp T) (show tp T < tp T + 1 by omega)).1.trans (if_pos rfl)
  have k13 : kd T2 (tp T + 1) = 13 := by rw [eT]; exact if_pos rfl
  have l13 : ln T2 (tp T + 1) = cc.length := by rw [eT]; exact if_pos rfl
  have hab : a + 5 < tp T := h.1.2.2
  have e : ∀ k, k < 5 ∨ (14 ≤ k ∧ k < 131) → lawF F lw q rc k = F k := fun k hk => lawF_o (by omega) (by omega) (by omega) (by omega) (by omega)
  have en : nlA (lawF F lw q rc) = nlA F := by unfold nlA; rw [e 3 (by omega)]
  have ep : npA (lawF F lw q rc) = npA F := by unfold npA; rw [e 4 (by omega)]
  have gI2 : ∀ c k, x + 88 ≤ c → c < tp T → gI (pR M2 a (10 + lw) (some (tp T))) c k = gI M c k := fun c k a1 a2 => hG.1 c k a2 (by omega)
  have gR2 : ∀ c k, c < tp T → ¬ (c = a ∧ k = 10 + lw) → gR (pR M2 a (10 + lw) (some (tp T))) c k = gR M c k := fun c k a1 a2 => by rw [mRR, if_neg a2]; exact (hG.2 c k a1).2
  have hl6 := hV.1.b3
  have hp4 := hV.1.b4
  have hde : ∀ w, den (lawF F lw q rc) lw w = v w := lawF_den hlw hq s5.1
  refine ⟨⟨⟨(hTE.2 a (by omega)).1.trans h.k, h.ad, by omega⟩, fun i hi => ?_, ⟨?_, ?_, ?_, ?_, ?_⟩, fun j hj => ?_, fun z hz => ?_, fun lw2 hl2 => ?_⟩, fun lw2 e2 hl2 he => ?_⟩
  · obtain ⟨k1, k2, k3'⟩ := h.2.1 i hi
    exact ⟨(gR2 a i (by omega) (by omega)).trans k1, (hTE.2 _ (by omega)).1.trans k2, (hTE.2 _ (by omega)).2.trans k3'⟩
  · rw [gI2 _ _ (by omega) (by omega), h.f5, e 1 (by omega)]
  · rw [gI2 _ _ (by omega) (by omega), h.f6, e 2 (by omega)]
  · rw [gI2 _ _ (by omega) (by omega), h.f7, e 3 (by omega)]
  · rw [gI2 _ _ (by omega) (by omega), h.f8, e 4 (by omega)]
  · rw [gI2 _ _ (by omega) (by omega), h.f9, e 0 (by omega)]
  · rw [en] at hj
    rw [gI2 _ _ (by omega) (by omega), gI2 _ _ (by omega) (by omega), gI2 _ _ (by omega) (by omega), gI2 _ _ (by omega) (by omega), e _ (by omega), e _ (by omega), e _ (by omega), e _ (by omega)]
    exact ⟨h.at hj, h.mid hj, h.wide hj, h.high hj⟩
  · rw [ep] at hz
    have es : stA (lawF F lw q rc) z = stA F z := by
      unfold stA
      by_cases y2 : z = 0
      · rw [if_pos y2, if_pos y2]
      · rw [if_neg y2, if_neg y2, e _ (by omega)]
    rw [gI2 _ _ (by omega) (by omega), es]
    exact h.st hz
  · by_cases y : lw2 = lw
    · subst y
      refine Or.inr ⟨tp T, by rw [mRR, if_pos ⟨rfl, rfl⟩], lawF_5, ⟨k3, by omega, by omega⟩, ⟨tp T + 1, cc.length, ?_, k13, l13, hc, by omega, by omega, fun w hw => ?_⟩, fun w w2 ew => ?_⟩
      · rw [mRR, if_neg (by omega)]; exact g0
      · obtain ⟨f, f1, f2⟩ := s5.2.2 w hw (gI M2 (tp T + 1)) cc.length gc (by omega) 0 [] (bd_01 (Or.inl rfl)) (by simp)
        refine ⟨f, [0], by omega, ?_⟩
        rw [hde]
        rw [Nat.zero_add] at f2
        exact f2
      · rw [hde, hde]
        refine s6 w w2 (fun j hj eb => ew j hj ?_)
        show bt (gI M2 (tp T) 1) j = true
        rw [g1]; exact eb
    · have e5 : lawF F lw q rc (5 + lw2) = F (5 + lw2) := lawF_o (by omega) (by omega) (by omega) (by omega) (by omega)
      rw [gR2 a _ (by omega) (by omega), e5]
      rcases h.law hl2 with k | ⟨e2, k1, k2, k3'⟩
      · exact Or.inl k
      · have ec := lawF_cod2 hV hlw hl2 y k2 hq
        have ed : ∀ w, den (lawF F lw q rc) lw2 w = den F lw2 w := fun w => by unfold den; rw [ec]
        obtain ⟨w1, w2⟩ := hw lw2 e2 hl2 k1
        refine Or.inr ⟨e2, k1, k2, k3'.fr2 hTE (fun k => gR2 e2 k k3'.1.2.2 (by omega)) (fun k => gI2 e2 k (by omega) k3'.1.2.2) (fun c ec2 hc2 k => gI2 c k (by have := w2 c ec2; omega) hc2) ed⟩
  · by_cases y : lw2 = lw
    · subst y
      rw [mRR, if_pos ⟨rfl, rfl⟩] at he
      cases he
      refine ⟨hab, fun c hc2 => ?_⟩
      rw [mRR, if_neg (by omega), g0] at hc2
      cases hc2
      omega
    · rw [gR2 a _ (by omega) (by omega)] at he
      obtain ⟨w1, w2⟩ := hw lw2 e2 hl2 he
      refine ⟨w1, fun c hc2 => ?_⟩
      rcases h.law hl2 with k | ⟨e', k1, k2, k3'⟩
      · rw [he] at k; cases k.1
      · rw [he] at k1
        cases k1
        rw [gR2 e2 0 k3'.1.2.2 (by omega)] at hc2
        exact w2 c hc2
end
