/-! the class as it stands for a row A -/
theorem nx_or (a b : Nat) : nI a ||| nI b = nI (a ||| b) := by
  apply Int32.toBitVec_inj.1
  show BitVec.ofNat 32 a ||| BitVec.ofNat 32 b = BitVec.ofNat 32 (a ||| b)
  apply BitVec.eq_of_getLsbD_eq
  intro i hi
  simp [hi]
theorem sh_nI {n : Nat} (hn : n < 32) : (1 : Int32) <<< (nI n &&& 31) = nI (2 ^ n) := by
  revert hn
  revert n
  decide +kernel
theorem mk_nI (p : Nat → Bool) : ∀ n, n ≤ 31 → ∃ b, b < 2 ^ n ∧ mk p n = nI b := by
  intro n
  induction n with
  | zero => intro _; exact ⟨0, by decide, rfl⟩
  | succ n ih =>
    intro hn
    obtain ⟨b, hb, e⟩ := ih (by omega)
    rw [mk, e]
    by_cases hp : p n = true
    · rw [if_pos hp, sh_nI (by omega), nx_or]
      exact ⟨_, Nat.or_lt_two_pow (by rw [Nat.pow_succ]; omega) (by rw [Nat.pow_succ]; have := Nat.two_pow_pos n; omega), rfl⟩
    · rw [if_neg hp, i_0, nx_or, Nat.or_zero]
      exact ⟨b, by rw [Nat.pow_succ]; omega, rfl⟩
def bd (v : Int32) : Prop := -1000000 ≤ v ∧ v ≤ 1000000
theorem bd_nI {n : Nat} (h : n ≤ 1000000) : bd (nI n) := by
  unfold bd
  rw [fa_le, fa_le, nI_toInt (by omega)]
  have e1 : (-1000000 : Int32).toInt = -1000000 := by decide
  have e2 : (1000000 : Int32).toInt = 1000000 := by decide
  omega
theorem bd_dft : ∀ e, e < 31 → bd (dft e) := by unfold bd dft; decide +kernel
def wb (w : Nat → Int32) : Prop := ∀ j, j < 6 → bd (w j)
def CLaw (x b : Nat) (A : Nat → Int32) (lw : Nat) (T : Sh) (M : Me) : Prop := (kd T b = 3 ∧ x + 88 ≤ b ∧ b < tp T) ∧ (∃ c n, gR M b 0 = some c ∧ kd T c = 13 ∧ ln T c = n ∧ n ≤ 900 ∧ x + 88 ≤ c ∧ c < tp T ∧ ∀ w, wb w → ∃ f st, f < 1000000 ∧ cR n (gI M c) w f (0, [], 0) (den A lw w, st, n)) ∧ ∀ w w2 : Nat → Int32, (∀ j, j < 6 → bt (gI M b 1) j = true → w j = w2 j) → den A lw w = den A lw w2
def CLab (x a : Nat) (A : Nat → Int32) (T : Sh) (M : Me) : Prop :=
  (kd T a = 2 ∧ (a = x + 9 ∨ x + 88 ≤ a) ∧ a + 5 < tp T) ∧
  (∀ i, i < 5 → gR M a i = some (a + 1 + i) ∧ kd T (a + 1 + i) = 13 ∧ ln T (a + 1 + i) = if i = 4 then 5 else 6) ∧
  (gI M a 5 = A 1 ∧ gI M a 6 = A 2 ∧ gI M a 7 = A 3 ∧ gI M a 8 = A 4 ∧ gI M a 9 = A 0) ∧
  (∀ l, l < nlA A → gI M (a + 1) l = A (14 + l) ∧ gI M (a + 2) l = A (20 + l) ∧ gI M (a + 3) l = A (26 + l) ∧ gI M (a + 4) l = A (32 + l)) ∧
  (∀ q, q ≤ npA A → gI M (a + 5) q = stA A q) ∧
  ∀ lw, lw < 3 → (gR M a (10 + lw) = none ∧ A (5 + lw) = 0) ∨ ∃ b, gR M a (10 + lw) = some b ∧ A (5 + lw) = 1 ∧ CLaw x b A lw T M
section
variable {x a : Nat} {A : Nat → Int32} {T : Sh} {M : Me}
theorem CLab.k (h : CLab x a A T M) : kd T a = 2 := h.1.1
theorem CLab.r0 (h : CLab x a A T M) : gR M a 0 = some (a + 1) := (h.2.1 0 (by omega)).1
theorem CLab.r1 (h : CLab x a A T M) : gR M a 1 = some (a + 2) := (h.2.1 1 (by omega)).1
theorem CLab.r2 (h : CLab x a A T M) : gR M a 2 = some (a + 3) := (h.2.1 2 (by omega)).1
theorem CLab.r3 (h : CLab x a A T M) : gR M a 3 = some (a + 4) := (h.2.1 3 (by omega)).1
theorem CLab.r4 (h : CLab x a A T M) : gR M a 4 = some (a + 5) := (h.2.1 4 (by omega)).1
theorem CLab.k1 (h : CLab x a A T M) : kd T (a + 1) = 13 := (h.2.1 0 (by omega)).2.1
theorem CLab.k2 (h : CLab x a A T M) : kd T (a + 2) = 13 := (h.2.1 1 (by omega)).2.1
theorem CLab.k3 (h : CLab x a A T M) : kd T (a + 3) = 13 := (h.2.1 2 (by omega)).2.1
theorem CLab.k4 (h : CLab x a A T M) : kd T (a + 4) = 13 := (h.2.1 3 (by omega)).2.1
theorem CLab.k5 (h : CLab x a A T M) : kd T (a + 5) = 13 := (h.2.1 4 (by omega)).2.1
theorem CLab.l1 (h : CLab x a A T M) : ln T (a + 1) = 6 := (h.2.1 0 (by omega)).2.2
theorem CLab.l2 (h : CLab x a A T M) : ln T (a + 2) = 6 := (h.2.1 1 (by omega)).2.2
theorem CLab.l3 (h : CLab x a A T M) : ln T (a + 3) = 6 := (h.2.1 2 (by omega)).2.2
theorem CLab.l4 (h : CLab x a A T M) : ln T (a + 4) = 6 := (h.2.1 3 (by omega)).2.2
theorem CLab.l5 (h : CLab x a A T M) : ln T (a + 5) = 5 := (h.2.1 4 (by omega)).2.2
theorem CLab.f5 (h : CLab x a A T M) : gI M a 5 = A 1 := h.2.2.1.1
theorem CLab.f6 (h : CLab x a A T M) : gI M a 6 = A 2 := h.2.2.1.2.1
theorem CLab.f7 (h : CLab x a A T M) : gI M a 7 = A 3 := h.2.2.1.2.2.1
theorem CLab.f8 (h : CLab x a A T M) : gI M a 8 = A 4 := h.2.2.1.2.2.2.1
theorem CLab.f9 (h : CLab x a A T M) : gI M a 9 = A 0 := h.2.2.1.2.2.2.2
theorem CLab.at (h : CLab x a A T M) {l : Nat} (hl : l < nlA A) : gI M (a + 1) l = A (14 + l) := (h.2.2.2.1 l hl).1
theorem CLab.mid (h : CLab x a A T M) {l : Nat} (hl : l < nlA A) : gI M (a + 2) l = A (20 + l) := (h.2.2.2.1 l hl).2.1
theorem CLab.wide (h : CLab x a A T M) {l : Nat} (hl : l < nlA A) : gI M (a + 3) l = A (26 + l) := (h.2.2.2.1 l hl).2.2.1
theorem CLab.high (h : CLab x a A T M) {l : Nat} (hl : l < nlA A) : gI M (a + 4) l = A (32 + l) := (h.2.2.2.1 l hl).2.2.2
theorem CLab.st (h : CLab x a A T M) {q : Nat} (hq : q ≤ npA A) : gI M (a + 5) q = stA A q := h.2.2.2.2.1 q hq
theorem CLab.law (h : CLab x a A T M) {lw : Nat} (hl : lw < 3) : (gR M a (10 + lw) = none ∧ A (5 + lw) = 0) ∨ ∃ b, gR M a (10 + lw) = some b ∧ A (5 + lw) = 1 ∧ CLaw x b A lw T M := h.2.2.2.2.2 lw hl
theorem CLab.ad (h : CLab x a A T M) : a = x + 9 ∨ x + 88 ≤ a := h.1.2.1
end
/-- kinds stay -/
def TE (T T2 : Sh) : Prop := tp T ≤ tp T2 ∧ ∀ a, a < tp T → kd T2 a = kd T a ∧ ln T2 a = ln T a
theorem TE.rfl {T : Sh} : TE T T := ⟨Nat.le_refl _, fun _ _ => ⟨Eq.refl _, Eq.refl _⟩⟩
def lr (x a : Nat) : Prop := (x + 9 ≤ a ∧ a ≤ x + 14) ∨ x + 88 ≤ a
theorem CLaw.fr {x b : Nat} {A : Nat → Int32} {lw : Nat} {T T2 : Sh} {M M2 : Me} (h : CLaw x b A lw T M) (hT : TE T T2) (hI : ∀ a k, x + 88 ≤ a → a < tp T → gI M2 a k = gI M a k) (hR : ∀ a k, x + 88 ≤ a → a < tp T → gR M2 a k = gR M a k) : CLaw x b A lw T2 M2 := by
  obtain ⟨⟨h1, h2, h3⟩, ⟨c, n, h4, h5, h6, h7, h8, h9, h10⟩, h11⟩ := h
  refine ⟨⟨(hT.2 b h3).1.trans h1, h2, by have := hT.1; omega⟩, ⟨c, n, (hR b 0 h2 h3).trans h4, (hT.2 c h9).1.trans h5, (hT.2 c h9).2.trans h6, h7, h8, by have := hT.1; omega, ?_⟩, ?_⟩
  · have e : gI M2 c = gI M c := funext fun k => hI c k h8 h9
    rw [e]; exact h10
  · rw [hI b 1 h2 h3]; exact h11
theorem CLab.fr {x a : Nat} {A : Nat → Int32} {T T2 : Sh} {M M2 : Me} (h : CLab x a A T M) (hT : TE T T2) (hI : ∀ a k, lr x a → a < tp T → gI M2 a k = gI M a k) (hR : ∀ a k, lr x a → a < tp T → gR M2 a k = gR M a k) : CLab x a A T2 M2 := by
  obtain ⟨⟨h1, h2, h3⟩, h4, ⟨h5, h6, h7, h8, h9⟩, h10, h11, h12⟩ := h
  have l0 : lr x a := by unfold lr; omega
  have l1 : ∀ i, i < 5 → lr x (a + 1 + i) := fun i hi => by unfold lr; omega
  refine ⟨⟨(hT.2 a (by omega)).1.trans h1, h2, by have := hT.1; omega⟩, fun i hi => ?_, ?_, fun l hl => ?_, fun q hq => ?_, fun lw hl => ?_⟩
  · obtain ⟨k1, k2, k3⟩ := h4 i hi
    exact ⟨(hR a i l0 (by omega)).trans k1, (hT.2 _ (by omega)).1.trans k2, (hT.2 _ (by omega)).2.trans k3⟩
  · exact ⟨(hI a _ l0 (by omega)).trans h5, (hI a _ l0 (by omega)).trans h6, (hI a _ l0 (by omega)).trans h7, (hI a _ l0 (by omega)).trans h8, (hI a _ l0 (by omega)).trans h9⟩
  · obtain ⟨k1, k2, k3, k4⟩ := h10 l hl
    exact ⟨(hI _ _ (l1 0 (by omega)) (by omega)).trans k1, (hI _ _ (l1 1 (by omega)) (by omega)).trans k2, (hI _ _ (l1 2 (by omega)) (by omega)).trans k3, (hI _ _ (l1 3 (by omega)) (by omega)).trans k4⟩
  · exact (hI _ _ (l1 4 (by omega)) (by omega)).trans (h11 q hq)
  · rcases h12 lw hl with k | ⟨b, k1, k2, k3⟩
    · exact Or.inl ⟨(hR a _ l0 (by omega)).trans k.1, k.2⟩
    · exact Or.inr ⟨b, (hR a _ l0 (by omega)).trans k1, k2, k3.fr hT (fun a k q r => hI a k (Or.inr q) r) (fun a k q r => hR a k (Or.inr q) r)⟩
def mU (x : Nat) (M : Me) : Int32 := match gR M (x + 8) 0 with
  | none => -1
  | some a => match gR M a 10 with
    | none => -1
    | some b => gI M b 1
/-- what the age is marked with -/
def kq (u : Int32) (q : Nat) : Nat := if bt u 3 = true then q else 0
theorem kq_le {u : Int32} {q : Nat} (hq : q < 5) : kq u q ≤ 4 := by unfold kq; split <;> omega
def ky (u : Int32) (l e v : Nat) : Nat := ((if bt u 2 = true then l else 0) * 31 + (if bt u 4 = true then e else 0)) * 16 + (if bt u 1 = true then v else 0)
theorem ky_lt {u : Int32} {l e v : Nat} (hl : l < 6) (he : e < 31) (hv : v < 16) : ky u l e v < 2976 := by
  unfold ky
  have h1 : (if bt u 2 = true then l else 0) ≤ 5 := by split <;> omega
  have h3 : (if bt u 4 = true then e else 0) ≤ 30 := by split <;> omega
  have h4 : (if bt u 1 = true then v else 0) ≤ 15 := by split <;> omega
  generalize (if bt u 2 = true then l else 0) = a at *
  generalize (if bt u 4 = true then e else 0) = c at *
  generalize (if bt u 1 = true then v else 0) = d at *
  omega
/-- rows that are kept are right -/
def CK (x : Nat) (A : Nat → Int32) (M : Me) : Prop :=
  (∀ r, r < 100 → gI M (x + 15) r = 99 ∨ gI M (x + 15) r = drI A r) ∧
  ∃ G, 1 ≤ G ∧ G ≤ 1000000 ∧ gJ M (x + 8) 3 = lN G ∧ ∀ k, k < 2976 → ∃ n b, n < G * 5 + 5 ∧ b < 16777216 ∧ gJ M (x + 16) k = lN (n * 16777216 + b) ∧ (∀ l q e v, l < 6 → q < 5 → e < 31 → v < 16 → n = G * 5 + kq (mU x M) q → ky (mU x M) l e v = k → nI b = rwA A q e l v)
def brd (k : Nat) : Prop := k < 26 ∨ 442 ≤ k ∨ k % 26 = 0 ∨ k % 26 = 25
def SW (x : Nat) (M : Me) : Prop := (∃ s, s ≤ 1 ∧ gR M x 11 = some (x + 66 + s) ∧ gR M x 12 = some (x + 67 - s)) ∧ (∃ s, s ≤ 1 ∧ gR M (x + 19) 3 = some (x + 23 + s) ∧ gR M (x + 19) 4 = some (x + 24 - s)) ∧ ∀ k, k < 468 → brd k → gJ M (x + 23) k = 0 ∧ gJ M (x + 24) k = 0
def CV (x : Nat) (A : Nat → Int32) (T : Sh) (M : Me) : Prop := PX x T M ∧ (∃ a, gR M (x + 8) 0 = some a ∧ CLab x a A T M) ∧ CK x A M ∧ (gI M (x + 25) 1 = A 48 ∧ gI M (x + 25) 2 = A 49 ∧ ∀ l, l < 6 → gI M (x + 26) l = A (42 + l)) ∧ LV A ∧ SV A ∧ SW x M ∧ wb (gI M (x + 17))
section
variable {x : Nat} {A : Nat → Int32} {T : Sh} {M : Me}
theorem CV.px (h : CV x A T M) : PX x T M := h.1
theorem CV.lab (h : CV x A T M) : ∃ a, gR M (x + 8) 0 = some a ∧ CLab x a A T M := h.2.1
theorem CV.ck (h : CV x A T M) : CK x A M := h.2.2.1
theorem CV.tm (h : CV x A T M) : gI M (x + 25) 1 = A 48 := h.2.2.2.1.1
theorem CV.pa (h : CV x A T M) : gI M (x + 25) 2 = A 49 := h.2.2.2.1.2.1
theorem CV.pt (h : CV x A T M) {l : Nat} (hl : l < 6) : gI M (x + 26) l = A (42 + l) := h.2.2.2.1.2.2 l hl
theorem CV.lv (h : CV x A T M) : LV A := h.2.2.2.2.1
theorem CV.sv (h : CV x A T M) : SV A := h.2.2.2.2.2.1
theorem CV.sw (h : CV x A T M) : SW x M := h.2.2.2.2.2.2.1
theorem CV.vb (h : CV x A T M) : wb (gI M (x + 17)) := h.2.2.2.2.2.2.2
end
theorem mU_fr {x a : Nat} {A : Nat → Int32} {T : Sh} {M M2 : Me} (ha : gR M (x + 8) 0 = some a) (h : CLab x a A T M) (e0 : gR M2 (x + 8) 0 = gR M (x + 8) 0) (hI : ∀ a k, lr x a → a < tp T → gI M2 a k = gI M a k) (hR : ∀ a k, lr x a → a < tp T → gR M2 a k = gR M a k) : mU x M2 = mU x M := by
  have l0 : lr x a := by have := h.ad; unfold lr; omega
  have l1 : a < tp T := by have := h.1.2.2; omega
  unfold mU
  rw [e0, ha]
  simp only
  rw [hR a 10 l0 l1]
  rcases h.law (lw := 0) (by omega) with k | ⟨b, k1, k2, k3⟩
  · rw [k.1]
  · rw [k1]
    simp only
    exact hI b 1 (Or.inr k3.1.2.1) k3.1.2.2
/-- what looks at the maps changes -/
def PF (x : Nat) (M M2 : Me) : Prop := (∀ a k, a ≠ x + 15 → a ≠ x + 17 → a ≠ x + 18 → gI M2 a k = gI M a k) ∧ (∀ a k, a ≠ x + 16 → gJ M2 a k = gJ M a k) ∧ M2.2.2 = M.2.2
theorem PF.rfl {x : Nat} {M : Me} : PF x M M := ⟨fun _ _ _ _ _ => Eq.refl _, fun _ _ _ => Eq.refl _, Eq.refl _⟩
theorem PF.trans {x : Nat} {M M1 M2 : Me} (h : PF x M M1) (h2 : PF x M1 M2) : PF x M M2 := ⟨fun a k p q r => (h2.1 a k p q r).trans (h.1 a k p q r), fun a k p => (h2.2.1 a k p).trans (h.2.1 a k p), h2.2.2.trans h.2.2⟩
theorem PF.r {x : Nat} {M M2 : Me} (h : PF x M M2) (a k : Nat) : gR M2 a k = gR M a k := by unfold gR; rw [h.2.2]
theorem CV.put {x : Nat} {A : Nat → Int32} {T : Sh} {M M2 : Me} (h : CV x A T M) (f : PF x M M2) (hc : CK x A M2) (hw : wb (gI M2 (x + 17))) : CV x A T M2 := by
  obtain ⟨h1, ⟨a, ha, hl⟩, h3, ⟨h4, h5, h6⟩, h7, h8, ⟨⟨s1, p1, p2, p3⟩, ⟨s2, p4, p5, p6⟩, p7⟩, h10⟩ := h
  refine ⟨h1.eq f.2.2, ⟨a, (f.r _ _).trans ha, hl.fr TE.rfl (fun b k q _ => f.1 b k (by unfold lr at q; omega) (by unfold lr at q; omega) (by unfold lr at q; omega)) (fun b k _ _ => f.r b k)⟩, hc, ⟨(f.1 _ _ (by omega) (by omega) (by omega)).trans h4, (f.1 _ _ (by omega) (by omega) (by omega)).trans h5, fun l hl => (f.1 _ _ (by omega) (by omega) (by omega)).trans (h6 l hl)⟩, h7, h8, ⟨⟨s1, p1, (f.r _ _).trans p2, (f.r _ _).trans p3⟩, ⟨s2, p4, (f.r _ _).trans p5, (f.r _ _).trans p6⟩, fun k hk hb => ⟨(f.2.1 _ _ (by omega)).trans (p7 k hk hb).1, (f.2.1 _ _ (by omega)).trans (p7 k hk hb).2⟩⟩, hw⟩
theorem PF.um {x : Nat} {A : Nat → Int32} {T : Sh} {M M2 : Me} (h : CV x A T M) (f : PF x M M2) : mU x M2 = mU x M := by
  obtain ⟨a, ha, hl⟩ := h.lab
  exact mU_fr ha hl (f.r _ _) (fun b k q _ => f.1 b k (by unfold lr at q; omega) (by unfold lr at q; omega) (by unfold lr at q; omega)) (fun b k _ _ => f.r b k)
/-- what the shapes are found in changes -/
def HF (x : Nat) (M M2 : Me) : Prop := (∀ a k, ¬ (x + 18 ≤ a ∧ a ≤ x + 22) → ¬ (x + 66 ≤ a ∧ a ≤ x + 68) → gI M2 a k = gI M a k) ∧ (∀ a k, a ≠ x + 23 → a ≠ x + 24 → gJ M2 a k = gJ M a k) ∧ ∀ a k, ¬ (a = x ∧ (k = 11 ∨ k = 12)) → ¬ (a = x + 19 ∧ (k = 3 ∨ k = 4)) → gR M2 a k = gR M a k
theorem HF.rfl {x : Nat} {M : Me} : HF x M M := ⟨fun _ _ _ _ => Eq.refl _, fun _ _ _ _ => Eq.refl _, fun _ _ _ _ => Eq.refl _⟩
theorem HF.trans {x : Nat} {M M1 M2 : Me} (h : HF x M M1) (h2 : HF x M1 M2) : HF x M M2 := ⟨fun a k p q => (h2.1 a k p q).trans (h.1 a k p q), fun a k p q => (h2.2.1 a k p q).trans (h.2.1 a k p q), fun a k p q => (h2.2.2 a k p q).trans (h.2.2 a k p q)⟩
theorem xO_x : ∀ i, i < 48 → ¬ (xO i = 0 ∧ (xF i = 11 ∨ xF i = 12)) ∧ ¬ (xO i = 19 ∧ (xF i = 3 ∨ xF i = 4)) := by decide +kernel
theorem CV.hf {x : Nat} {A : Nat → Int32} {T : Sh} {M M2 : Me} (h : CV x A T M) (f : HF x M M2) (hw : SW x M2) : CV x A T M2 := by
  obtain ⟨h1, ⟨a, ha, hl⟩, ⟨h3, G, g1, g2, g3, g4⟩, ⟨h4, h5, h6⟩, h7, h8, h9, h10⟩ := h
  have iI : ∀ b k, lr x b → b < tp T → gI M2 b k = gI M b k := fun b k q _ => f.1 b k (by unfold lr at q; omega) (by unfold lr at q; omega)
  have iR : ∀ b k, lr x b → b < tp T → gR M2 b k = gR M b k := fun b k q _ => f.2.2 b k (by unfold lr at q; omega) (by unfold lr at q; omega)
  have eU : mU x M2 = mU x M := mU_fr ha hl (f.2.2 _ _ (by omega) (by omega)) iI iR
  refine ⟨h1.fr (fun i hi => f.2.2 _ _ (by have := xO_x i hi; omega) (by have := xO_x i hi; omega)), ⟨a, (f.2.2 _ _ (by omega) (by omega)).trans ha, hl.fr TE.rfl iI iR⟩, ⟨fun r hr => by rw [f.1 _ _ (by omega) (by omega)]; exact h3 r hr, G, g1, g2, (f.2.1 _ _ (by omega) (by omega)).trans g3, fun k hk => by rw [f.2.1 _ _ (by omega) (by omega), eU]; exact g4 k hk⟩, ⟨(f.1 _ _ (by omega) (by omega)).trans h4, (f.1 _ _ (by omega) (by omega)).trans h5, fun l hl => (f.1 _ _ (by omega) (by omega)).trans (h6 l hl)⟩, h7, h8, hw, fun j hj => by rw [f.1 _ _ (by omega) (by omega)]; exact h10 j hj⟩
