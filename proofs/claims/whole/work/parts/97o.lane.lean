/-! lanes and patterns of a lab -/
section
variable {x m n N lw i o q d a l : Nat} {b : Nat → Nat} {sp u : Int32} {T : Sh} {M M1 M2 : Me} {F : Nat → Int32}
theorem CBF.pw {fl : Option (Nat × Nat)} {c k : Nat} {v : Int32} (h : CBF x n N b T i fl M) (hc : x + 8 ≤ c) : CBF x n N b T i fl (pI M c k v) := by
  cases fl with
  | none =>
    obtain ⟨h1, h2, h3, h4, h5⟩ := h
    exact ⟨h1.eq rfl, fun j hj => ⟨(mIIn (by omega)).trans (h2 j hj).1, (mIIn (by omega)).trans (h2 j hj).2.1, fun z => (mIIn (by omega)).trans ((h2 j hj).2.2 z)⟩, (mIIn (by omega)).trans h3, (mIIn (by omega)).trans h4, h5.1, h5.2.1, h5.2.2.1, (mIIn (by omega)).trans h5.2.2.2⟩
  | some f =>
    obtain ⟨h1, h2, h3, h4⟩ := h
    exact ⟨h1.eq rfl, (mIIn (by omega)).trans h2, (mIIn (by omega)).trans h3, h4⟩
theorem RBF.pw {fl : Option (Nat × Nat)} {k : Nat} {v : Int32} (h : RBF m n N b T i fl M) : RBF m n N b T i fl (pI M (m + 4) k v) := by
  cases fl with
  | none =>
    obtain ⟨⟨t1, t2, t3, t4, t5⟩, h2, h3, h4, h5, h6, h7⟩ := h
    exact ⟨⟨t1.fr (fun _ => rfl), (mIIn (by omega)).trans t2, t3, t4, fun k hk => (mIIn (by omega)).trans (t5 k hk)⟩, (mIIn (by omega)).trans h2, (mIIn (by omega)).trans h3, (mIIn (by omega)).trans h4, fun z => (mIIn (by omega)).trans (h5 z), (mIIn (by omega)).trans h6, h7⟩
  | some f =>
    obtain ⟨h1, h2, h3, h4⟩ := h
    exact ⟨h1.fr (fun _ => rfl), (mIIn (by omega)).trans h2, (mIIn (by omega)).trans h3, h4⟩
/-- the cells of a lab -/
def LBs (x a : Nat) (T : Sh) (M : Me) : Prop := x + 88 ≤ a ∧ kd T a = 2 ∧ ∀ i, i < 5 → gR M a i = some (a + 1 + i) ∧ kd T (a + 1 + i) = 13 ∧ ln T (a + 1 + i) = if i = 4 then 5 else 6
theorem LBs.eq (h : LBs x a T M) (e : M2.2 = M.2) : LBs x a T M2 := ⟨h.1, h.2.1, fun i hi => ⟨by have := (h.2.2 i hi).1; unfold gR at this ⊢; rw [e]; exact this, (h.2.2 i hi).2⟩⟩
theorem LBs.r (h : LBs x a T M) {j : Nat} (hj : j < 5) : gR M a j = some (a + 1 + j) := (h.2.2 j hj).1
theorem LBs.k (h : LBs x a T M) {j : Nat} (hj : j < 5) : kd T (a + 1 + j) = 13 := (h.2.2 j hj).2.1
theorem LBs.l6 (h : LBs x a T M) {j : Nat} (hj : j < 4) : ln T (a + 1 + j) = 6 := by have := (h.2.2 j (by omega)).2.2; rw [if_neg (by omega)] at this; exact this
def lfl1 (n : Nat) (b : Nat → Nat) (i : Nat) : Option (Nat × Nat) := wfl n b (i + 1) 4 0 23 none
def lfl2 (n : Nat) (b : Nat → Nat) (i : Nat) : Option (Nat × Nat) := wfl n b (i + 3) 5 0 15 (lfl1 n b i)
def lfl3 (n : Nat) (b : Nat → Nat) (i : Nat) : Option (Nat × Nat) := wfl n b (i + 5) 6 1 24 (lfl2 n b i)
def lfl4 (n : Nat) (b : Nat → Nat) (i : Nat) : Option (Nat × Nat) := wfl n b (i + 7) 7 1 16 (lfl3 n b i)
theorem lfl_0 (h : lfl4 n b i = none) : (tV b n (i + 2) ≤ 23) ∧ (tV b n (i + 4) ≤ 15) ∧ (1 ≤ tV b n (i + 6) ∧ tV b n (i + 6) ≤ 24) ∧ (1 ≤ tV b n (i + 8) ∧ tV b n (i + 8) ≤ 16) ∧ lfl1 n b i = none ∧ lfl2 n b i = none ∧ lfl3 n b i = none := by
  obtain ⟨h3, _, _, a4⟩ := wfl_0 (show wfl n b (i + 7) 7 1 16 (lfl3 n b i) = none from h)
  obtain ⟨h2, _, _, a3⟩ := wfl_0 (show wfl n b (i + 5) 6 1 24 (lfl2 n b i) = none from h3)
  obtain ⟨h1, _, _, a2⟩ := wfl_0 (show wfl n b (i + 3) 5 0 15 (lfl1 n b i) = none from h2)
  obtain ⟨h0, _, _, a1⟩ := wfl_0 (show wfl n b (i + 1) 4 0 23 none = none from h1)
  exact ⟨a1.2, a2.2, a3, a4, h1, h2, h3⟩
/-- one number of a lane, in the class -/
theorem c_lan1 {β : Type} {j k lo hi : Nat} {kk : Int32} {fl : Option (Nat × Nat)} {P : β → Prop} {K : Me → Option β} (hL : LBs x a T M) (h : CBF x n N b T i fl M) (hj : j < 4) (hl : l < 6) (ek : kk = ck k) (hk : k < 23) (h1 : lo < 1000) (h2 : hi < 1000) (hK : ∀ M', LBs x a T M' → CBF x n N b T (i + 2) (wfl n b i k lo hi fl) M' → M'.2 = M.2 → (∀ c z, ¬ (x + 2 ≤ c ∧ c ≤ x + 7) → c ≠ a + 1 + j → gI M' c z = gI M c z) → (∀ z, z ≠ l → gI M' (a + 1 + j) z = gI M (a + 1 + j) z) → (wfl n b i k lo hi fl = none → gI M' (a + 1 + j) l = nI (tV b n (i + 1))) → Ok (K M') P) : Ok (Option.bind (gR M a j) fun a6 => Option.bind (fX6_numberBehind T M (x + 2) kk (nI lo) (nI hi)) <| un2 fun r7 M8 => gd (kd T a6 = 13) <| gv (nI l) (ln T a6) <| lt (pI M8 a6 (Int32.toNatClampNeg (nI l)) r7) fun M11 => K M11) P := by
  have ha := hL.1
  rw [hL.r (by omega), Option.bind_some]
  refine Ok.bd (k_named h ek hk h1 h2) (fun p hp => ?_)
  obtain ⟨r, M8⟩ := p
  obtain ⟨v1, g1, f1⟩ := hp
  have v1 : wfl n b i k lo hi fl = none → r = nI (tV b n (i + 1)) := v1
  have g1 : CBF x n N b T (i + 2) (wfl n b i k lo hi fl) M8 := g1
  have f1 : LFr x M M8 := f1
  rw [une2, hL.k (by omega), gdI, hL.l6 hj, gvI hl (by omega), lte, cl_nI (by omega)]
  refine hK _ (hL.eq f1.2) (g1.pw (by omega)) f1.2 (fun c z c1 c2 => ?_) (fun z hz => ?_) (fun w => ?_)
  · rw [mIIn c2]; exact f1.1 c z (by omega) (by omega)
  · rw [mIIk hz]; exact f1.1 _ z (by omega) (by omega)
  · rw [mII1]; exact v1 w
theorem c_lane (hL : LBs x a T M) (h : CBq x n N b T i M) (e7 : gI M a 7 = nI l) (hl : l < 6) (h3 : tK b n i = 3) : Ok (fX6_readLane T M (x + 2) a) (fun p => CBF x n N b T (i + 9) (lfl4 n b i) p.2 ∧ p.2.2 = M.2 ∧ (∀ c z, ¬ (x + 2 ≤ c ∧ c ≤ x + 7) → ¬ (a ≤ c ∧ c ≤ a + 4) → gI p.2 c z = gI M c z) ∧ (∀ z, z ≠ 7 → gI p.2 a z = gI M a z) ∧ gI p.2 a 7 = nI (l + 1) ∧ (∀ j z, j < 4 → z ≠ l → gI p.2 (a + 1 + j) z = gI M (a + 1 + j) z) ∧ (lfl4 n b i = none → ∀ j, j < 4 → gI p.2 (a + 1 + j) l = nI (tV b n (i + 2 + 2 * j)))) := by
  have ha := hL.1
  unfold fX6_readLane
  rw [hL.2.1, gdI, lte, e7, i_6, ite_lt (by omega) (by omega), if_pos hl, h.1.k2, gdI, lte]
  obtain ⟨a1, a2⟩ := k_next h (by omega) (by omega)
  generalize pI M (x + 2) 1 (gI M (x + 2) 1 + 1) = M0 at a1 a2
  refine c_lan1 (fl := none) (j := 0) (k := 4) (lo := 0) (hi := 23) (hL.eq a2.2) a1 (by omega) hl rfl (by omega) (by omega) (by omega) (fun M1 L1 g1 r1 f1 o1 v1 => ?_)
  refine c_lan1 (j := 1) (k := 5) (lo := 0) (hi := 15) L1 g1 (by omega) hl rfl (by omega) (by omega) (by omega) (fun M2 L2 g2 r2 f2 o2 v2 => ?_)
  refine c_lan1 (j := 2) (k := 6) (lo := 1) (hi := 24) L2 g2 (by omega) hl rfl (by omega) (by omega) (by omega) (fun M3 L3 g3 r3 f3 o3 v3 => ?_)
  refine c_lan1 (j := 3) (k := 7) (lo := 1) (hi := 16) L3 g3 (by omega) hl rfl (by omega) (by omega) (by omega) (fun M4 L4 g4 r4 f4 o4 v4 => ?_)
  have e74 : gI M4 a 7 = nI l := by rw [f4 _ _ (by omega) (by omega), f3 _ _ (by omega) (by omega), f2 _ _ (by omega) (by omega), f1 _ _ (by omega) (by omega), a2.1 _ _ (by omega) (by omega)]; exact e7
  rw [lte, e74, nI_1]
  refine ok_i ⟨g4.pw (by omega), ((((show (pI M4 a 7 (nI (l + 1))).2 = M4.2 from rfl).trans r4).trans r3).trans r2).trans (r1.trans a2.2), fun c z c1 c2 => ?_, fun z hz => ?_, mII1, fun j z hj hz => ?_, fun w j hj => ?_⟩
  · rw [mIIn (by omega), f4 _ _ c1 (by omega), f3 _ _ c1 (by omega), f2 _ _ c1 (by omega), f1 _ _ c1 (by omega), a2.1 _ _ (by omega) (by omega)]
  · rw [mIIk hz, f4 _ _ (by omega) (by omega), f3 _ _ (by omega) (by omega), f2 _ _ (by omega) (by omega), f1 _ _ (by omega) (by omega), a2.1 _ _ (by omega) (by omega)]
  · rw [mIIn (by omega)]
    have s4 : gI M4 (a + 1 + j) z = gI M3 (a + 1 + j) z := by
      by_cases y : j = 3
      · rw [y]; exact o4 z hz
      · exact f4 _ _ (by omega) (by omega)
    have s3 : gI M3 (a + 1 + j) z = gI M2 (a + 1 + j) z := by
      by_cases y : j = 2
      · rw [y]; exact o3 z hz
      · exact f3 _ _ (by omega) (by omega)
    have s2 : gI M2 (a + 1 + j) z = gI M1 (a + 1 + j) z := by
      by_cases y : j = 1
      · rw [y]; exact o2 z hz
      · exact f2 _ _ (by omega) (by omega)
    have s1 : gI M1 (a + 1 + j) z = gI M0 (a + 1 + j) z := by
      by_cases y : j = 0
      · rw [y]; exact o1 z hz
      · exact f1 _ _ (by omega) (by omega)
    rw [s4, s3, s2, s1, a2.1 _ _ (by omega) (by omega)]
  · obtain ⟨_, _, _, _, n1, n2, n3⟩ := lfl_0 w
    rw [mIIn (by omega)]
    rcases (by omega : j = 0 ∨ j = 1 ∨ j = 2 ∨ j = 3) with rfl | rfl | rfl | rfl
    · rw [f4 _ _ (by omega) (by omega), f3 _ _ (by omega) (by omega), f2 _ _ (by omega) (by omega)]; exact v1 n1
    · rw [f4 _ _ (by omega) (by omega), f3 _ _ (by omega) (by omega)]; exact v2 n2
    · rw [f4 _ _ (by omega) (by omega)]; exact v3 n3
    · exact v4 w
/-- one number of a lane, in the reference -/
theorem r_lan1 {β : Type} {j k lo hi : Nat} {kk jj : Int32} {fl : Option (Nat × Nat)} {P : β → Prop} {K : Me → Option β} (h : RBF m n N b T i fl M) (hj : j + l < 1032) (ej : jj = nI j) (ek : kk = nI k) (hk : k < 23) (h1 : lo < 1000) (h2 : hi < 1000) (hK : ∀ M', RBF m n N b T (i + 2) (wfl n b i k lo hi fl) M' → FI m (fun a z => rh m a z ∨ a = m + 4 ∧ z = j + l) M M' → (wfl n b i k lo hi fl = none → gI M' (m + 4) (j + l) = nI (tV b n (i + 1))) → Ok (K M') P) : Ok (Option.bind (gR M m 4) fun a10 => Option.bind (fX12_named T M m kk (nI lo) (nI hi)) <| un2 fun r11 M12 => gd (kd T a10 = 13) <| gv (jj + nI l) (ln T a10) <| lt (pI M12 a10 (Int32.toNatClampNeg (jj + nI l)) r11) fun M15 => K M15) P := by
  have hm := h.rm
  rw [hm.r4, Option.bind_some]
  refine Ok.bd (r_named h ek hk h1 h2) (fun p hp => ?_)
  obtain ⟨r, M8⟩ := p
  obtain ⟨v1, g1, f1⟩ := hp
  have v1 : wfl n b i k lo hi fl = none → r = nI (tV b n (i + 1)) := v1
  rw [une2, hm.k4, gdI, hm.l4, ej, nI_add, gvI hj (by omega), lte, cl_nI (by omega)]
  refine hK _ (RBF.pw g1) ((FI.wide f1 (fun a z w => Or.inl w)).pI (Or.inr ⟨rfl, rfl⟩)) (fun w => ?_)
  rw [mII1]; exact v1 w
def laneF (F : Nat → Int32) (l : Nat) (v : Nat → Nat) : Nat → Int32 := fun k => if k = 3 then nI (l + 1) else if k = 14 + l then nI (v 0) else if k = 20 + l then nI (v 1) else if k = 26 + l then nI (v 2) else if k = 32 + l then nI (v 3) else F k
def rl (m a k : Nat) : Prop := rh m a k ∨ a = m + 4
theorem r_lane (h : RBq m n N b T i M) (hF : ∀ k, k < 1032 → gI M (m + 4) k = F k) (e3 : F 3 = nI l) (hl : l < 6) (h3 : tK b n i = 3) : Ok (fX12_readLane T M m) (fun p => RBF m n N b T (i + 9) (lfl4 n b i) p.2 ∧ FI m (rl m) M p.2 ∧ (lfl4 n b i = none → ∀ k, k < 1032 → gI p.2 (m + 4) k = laneF F l (fun j => tV b n (i + 2 + 2 * j)) k)) := by
  have hm := h.1.1
  unfold fX12_readLane jX12_readLane_18
  rw [hm.k, gdI, hm.r4, Option.bind_some, hm.k4, gdI, hm.l4, i_3, gvI (by omega) (by omega), cl_nI (by omega), lte, hF 3 (by omega), e3, i_6, ite_eq (by omega) (by omega), if_neg (by omega), gdI, h.2.2.2.2.2.1, if_pos rfl]
  refine Ok.bd (r_next h (by omega) (by omega)) (fun p hp => ?_)
  obtain ⟨p1, M0⟩ := p
  obtain ⟨g0, f0⟩ := hp
  have g0 : RBF m n N b T (i + 1) none M0 := g0
  have f0 : FI m (tq m) M M0 := f0
  rw [une2]
  refine r_lan1 (j := 14) (k := 4) (lo := 0) (hi := 23) g0 (by omega) rfl rfl (by omega) (by omega) (by omega) (fun M1 g1 f1 v1 => ?_)
  refine r_lan1 (j := 20) (k := 5) (lo := 0) (hi := 15) g1 (by omega) rfl rfl (by omega) (by omega) (by omega) (fun M2 g2 f2 v2 => ?_)
  refine r_lan1 (j := 26) (k := 6) (lo := 1) (hi := 24) g2 (by omega) rfl rfl (by omega) (by omega) (by omega) (fun M3 g3 f3 v3 => ?_)
  refine r_lan1 (j := 32) (k := 7) (lo := 1) (hi := 16) g3 (by omega) rfl rfl (by omega) (by omega) (by omega) (fun M4 g4 f4 v4 => ?_)
  have w : ∀ {j : Nat} {Mx My : Me}, FI m (fun a z => rh m a z ∨ a = m + 4 ∧ z = j) Mx My → FI m (rl m) Mx My := fun f => f.wide (fun a z y => y.elim Or.inl (fun y => Or.inr y.1))
  have ff : FI m (rl m) M M4 := ((((f0.wide (fun a k z => Or.inl (rh_tq z))).trans (w f1)).trans (w f2)).trans (w f3)).trans (w f4)
  have nrh : ∀ z, ¬ rh m (m + 4) z := fun z y => by unfold rh at y; omega
  show Ok (if gI M4 m 11 = 0 then _ else _) _
  have g4 : RBF m n N b T (i + 9) (lfl4 n b i) M4 := g4
  cases hfl : lfl4 n b i with
  | some f =>
    rw [hfl] at g4
    have g4 : RFl m T f.1 f.2 M4 := g4
    rw [if_neg g4.ne]
    exact ok_i ⟨g4, ff, fun q => (by cases q)⟩
  | none =>
    rw [hfl] at g4
    have g4b := g4
    have g4 : RBq m n N b T (i + 9) M4 := g4
    have hm4 := g4.1.1
    obtain ⟨_, _, _, _, n1, n2, n3⟩ := lfl_0 hfl
    have ko : ∀ k, k < 1032 → k ≠ 14 + l → k ≠ 20 + l → k ≠ 26 + l → k ≠ 32 + l → gI M4 (m + 4) k = F k := fun k hk a1 a2 a3 a4 => by
      rw [f4.1 _ _ (fun y => y.elim (nrh _) (fun y => a4 y.2)), f3.1 _ _ (fun y => y.elim (nrh _) (fun y => a3 y.2)), f2.1 _ _ (fun y => y.elim (nrh _) (fun y => a2 y.2)), f1.1 _ _ (fun y => y.elim (nrh _) (fun y => a1 y.2)), f0.1 _ _ (by unfold tq; omega)]
      exact hF k hk
    have k14 : gI M4 (m + 4) (14 + l) = nI (tV b n (i + 2)) := by
      rw [f4.1 _ _ (fun y => y.elim (nrh _) (fun y => by omega)), f3.1 _ _ (fun y => y.elim (nrh _) (fun y => by omega)), f2.1 _ _ (fun y => y.elim (nrh _) (fun y => by omega))]
      exact v1 n1
    have k20 : gI M4 (m + 4) (20 + l) = nI (tV b n (i + 4)) := by
      rw [f4.1 _ _ (fun y => y.elim (nrh _) (fun y => by omega)), f3.1 _ _ (fun y => y.elim (nrh _) (fun y => by omega))]
      exact v2 n2
    have k26 : gI M4 (m + 4) (26 + l) = nI (tV b n (i + 6)) := by
      rw [f4.1 _ _ (fun y => y.elim (nrh _) (fun y => by omega))]
      exact v3 n3
    have k32 : gI M4 (m + 4) (32 + l) = nI (tV b n (i + 8)) := v4 hfl
    rw [g4.2.2.2.2.2.1, if_pos rfl, hm4.r4, Option.bind_some, hm4.k4, gdI, hm4.l4, gvI (by omega) (by omega), gvI (by omega) (by omega), lte, ko 3 (by omega) (by omega) (by omega) (by omega) (by omega), e3, nI_1]
    refine ok_i ⟨RBF.pw g4b, ff.pI (Or.inr rfl), fun _ k hk => ?_⟩
    rw [mII]
    unfold laneF
    by_cases z3 : k = 3
    · rw [if_pos ⟨rfl, z3⟩, if_pos z3]
    rw [if_neg (fun y => z3 y.2), if_neg z3]
    by_cases z14 : k = 14 + l
    · rw [if_pos z14, z14]; exact k14
    rw [if_neg z14]
    by_cases z20 : k = 20 + l
    · rw [if_pos z20, z20]; exact k20
    rw [if_neg z20]
    by_cases z26 : k = 26 + l
    · rw [if_pos z26, z26]; exact k26
    rw [if_neg z26]
    by_cases z32 : k = 32 + l
    · rw [if_pos z32, z32]; exact k32
    rw [if_neg z32]
    exact ko k hk z14 z20 z26 z32
/-! patterns -/
def patF (F : Nat → Int32) (p v : Nat) : Nat → Int32 := fun k => if k = 4 then nI (p + 1) else if k = 38 + p then nI v else F k
theorem c_pat {p : Nat} (hL : LBs x a T M) (h : CBq x n N b T i M) (e8 : gI M a 8 = nI p) (hp4 : p < 4) (h3 : tK b n i = 8) : Ok (fX6_readPattern T M (x + 2) a) (fun r => CBF x n N b T (i + 2) (nfl n b (i + 1) 0 9) r.2 ∧ r.2.2 = M.2 ∧ (∀ c z, ¬ (x + 2 ≤ c ∧ c ≤ x + 7) → c ≠ a → c ≠ a + 5 → gI r.2 c z = gI M c z) ∧ (∀ z, z ≠ 8 → gI r.2 a z = gI M a z) ∧ gI r.2 a 8 = nI (p + 1) ∧ (∀ z, z ≠ p + 1 → gI r.2 (a + 5) z = gI M (a + 5) z) ∧ (nfl n b (i + 1) 0 9 = none → gI r.2 (a + 5) (p + 1) = nI (tV b n (i + 1)))) := by
  have ha := hL.1
  have l5 : ln T (a + 1 + 4) = 5 := (hL.2.2 4 (by omega)).2.2
  unfold fX6_readPattern
  rw [hL.2.1, gdI, e8, i_4, ite_lt (by omega) (by omega), if_pos hp4, lte, nI_1, mRI, hL.r (by omega), Option.bind_some, h.1.k2, gdI]
  have g0 : CBF x n N b T i none (pI M a 8 (nI (p + 1))) := CBF.pw (fl := none) h (by omega)
  have e9 : gI (pI M a 8 (nI (p + 1))) a 8 = nI (p + 1) := mII1
  have o9 : ∀ c z, ¬ (c = a ∧ z = 8) → gI (pI M a 8 (nI (p + 1))) c z = gI M c z := fun c z y => by rw [mII, if_neg y]
  have s9 : (pI M a 8 (nI (p + 1))).2 = M.2 := rfl
  generalize pI M a 8 (nI (p + 1)) = M0 at g0 e9 o9 s9
  refine Ok.bd (k_named (k := 8) (lo := 0) (hi := 9) g0 rfl (by omega) (by omega) (by omega)) (fun r hr => ?_)
  obtain ⟨r, M8⟩ := r
  obtain ⟨v1, g1, f1⟩ := hr
  have ew : wfl n b i 8 0 9 none = nfl n b (i + 1) 0 9 := if_pos h3
  rw [ew] at v1 g1
  have v1 : nfl n b (i + 1) 0 9 = none → r = nI (tV b n (i + 1)) := v1
  have g1 : CBF x n N b T (i + 2) (nfl n b (i + 1) 0 9) M8 := g1
  have f1 : LFr x M0 M8 := f1
  rw [une2, hL.k (by omega), gdI, l5, e9, gvI (by omega) (by omega), lte, cl_nI (by omega), show a + 1 + 4 = a + 5 by omega]
  refine ok_i ⟨g1.pw (by omega), f1.2.trans s9, fun c z c1 c2 c3 => ?_, fun z hz => ?_, ?_, fun z hz => ?_, fun w => ?_⟩
  · rw [mIIn c3, f1.1 _ _ (by omega) (by omega), o9 _ _ (by omega)]
  · rw [mIIn (by omega), f1.1 _ _ (by omega) (by omega), o9 _ _ (by omega)]
  · rw [mIIn (by omega), f1.1 _ _ (by omega) (by omega), e9]
  · rw [mIIk hz, f1.1 _ _ (by omega) (by omega), o9 _ _ (by omega)]
  · rw [mII1]; exact v1 w
theorem r_pat {p : Nat} (h : RBq m n N b T i M) (hF : ∀ k, k < 1032 → gI M (m + 4) k = F k) (e4 : F 4 = nI p) (hp4 : p < 4) (h3 : tK b n i = 8) : Ok (fX12_readPattern T M m) (fun r => RBF m n N b T (i + 2) (nfl n b (i + 1) 0 9) r.2 ∧ FI m (rl m) M r.2 ∧ (nfl n b (i + 1) 0 9 = none → ∀ k, k < 1032 → gI r.2 (m + 4) k = patF F p (tV b n (i + 1)) k)) := by
  have hm := h.1.1
  unfold fX12_readPattern jX12_readPattern_17
  rw [hm.k, gdI, hm.r4, Option.bind_some, hm.k4, gdI, hm.l4, i_4, gvI (by omega) (by omega), cl_nI (by omega), lte, hF 4 (by omega), e4, ite_eq (by omega) (by omega), if_neg (by omega), gdI, h.2.2.2.2.2.1, if_pos rfl]
  refine Ok.bd (r_next h (by omega) (by omega)) (fun r hr => ?_)
  obtain ⟨p1, M0⟩ := r
  obtain ⟨g0, f0⟩ := hr
  have g0 : RBq m n N b T (i + 1) M0 := g0
  have f0 : FI m (tq m) M M0 := f0
  have hm0 := g0.1.1
  rw [une2, hm0.r4, Option.bind_some]
  refine Ok.bd (r_num (lo := 0) (hi := 9) g0 (by omega) (by omega)) (fun r hr => ?_)
  obtain ⟨r, M1⟩ := r
  obtain ⟨v1, g1, f1⟩ := hr
  have v1 : nfl n b (i + 1) 0 9 = none → r = nI (tV b n (i + 1)) := v1
  have g1 : RBF m n N b T (i + 2) (nfl n b (i + 1) 0 9) M1 := g1
  have f1 : FI m (rh m) M0 M1 := f1
  rw [une2, hm0.k4, gdI, hm0.l4, i_38, nI_add, gvI (by omega) (by omega), lte, cl_nI (by omega)]
  have g2 : RBF m n N b T (i + 2) (nfl n b (i + 1) 0 9) (pI M1 (m + 4) (38 + p) r) := g1.pw
  have f2 : FI m (rl m) M (pI M1 (m + 4) (38 + p) r) := ((f0.wide (fun a k z => Or.inl (rh_tq z))).trans (f1.wide (fun a k z => Or.inl z))).pI (Or.inr rfl)
  have ko : ∀ k, k < 1032 → k ≠ 38 + p → gI (pI M1 (m + 4) (38 + p) r) (m + 4) k = F k := fun k hk a1 => by
    rw [mIIk a1, f1.1 _ _ (fun y => by unfold rh at y; omega), f0.1 _ _ (by unfold tq; omega)]
    exact hF k hk
  have kv : nfl n b (i + 1) 0 9 = none → gI (pI M1 (m + 4) (38 + p) r) (m + 4) (38 + p) = nI (tV b n (i + 1)) := fun w => by rw [mII1]; exact v1 w
  generalize pI M1 (m + 4) (38 + p) r = M2 at g2 f2 ko kv
  cases hfl : nfl n b (i + 1) 0 9 with
  | some f =>
    rw [hfl] at g2
    have g2 : RFl m T f.1 f.2 M2 := g2
    rw [if_neg g2.ne]
    exact ok_i ⟨g2, f2, fun q => (by cases q)⟩
  | none =>
    rw [hfl] at g2
    have g2b := g2
    have g2 : RBq m n N b T (i + 2) M2 := g2
    have hm2 := g2.1.1
    rw [g2.2.2.2.2.2.1, if_pos rfl, hm2.r4, Option.bind_some, hm2.k4, gdI, hm2.l4, gvI (by omega) (by omega), gvI (by omega) (by omega), lte, ko 4 (by omega) (by omega), e4, nI_1]
    refine ok_i ⟨RBF.pw g2b, f2.pI (Or.inr rfl), fun _ k hk => ?_⟩
    rw [mII]
    unfold patF
    by_cases z4 : k = 4
    · rw [if_pos ⟨rfl, z4⟩, if_pos z4]
    rw [if_neg (fun y => z4 y.2), if_neg z4]
    by_cases z38 : k = 38 + p
    · rw [if_pos z38, z38]; exact kv hfl
    rw [if_neg z38]
    exact ko k hk z38
end
