/-! the largest ellipse -/
theorem sub_toI {a b : Int32} (ha : -1000 ≤ a.toInt ∧ a.toInt ≤ 1000) (hb : -1000 ≤ b.toInt ∧ b.toInt ≤ 1000) : (a - b).toInt = a.toInt - b.toInt := by
  rw [Int32.toInt_sub, Int.bmod_eq_of_le (by omega) (by omega)]
theorem sq_I (a : Int32) : a * a = nI (a.toInt.natAbs * a.toInt.natAbs) := by
  by_cases h : a < 0
  · have h1 := (fa_lt _ _).mp h
    have e0 : (0 : Int32).toInt = 0 := by decide
    have e : a = -(nI a.toInt.natAbs) := by
      have h2 : nI a.toInt.natAbs = -a := by
        apply Int32.toInt_inj.mp
        by_cases hm : a.toInt = -2147483648
        · have : a = -2147483648 := by rw [fa_eq, hm]; decide
          subst this; decide
        · have := a.le_toInt
          rw [nI_toInt (by omega), Int32.toInt_neg, Int.bmod_eq_of_le (by omega) (by omega)]
          omega
      rw [h2, Int32.neg_neg]
    have e2 : a * a = -(nI a.toInt.natAbs) * -(nI a.toInt.natAbs) := by rw [← e]
    rw [e2, Int32.neg_mul, Int32.mul_neg, Int32.neg_neg, c_mul]
  · obtain ⟨n, hn, rfl⟩ := nI_of h
    rw [nI_toInt (by omega), c_mul]; rfl
/-- how far apart, squared -/
def vN (k c : Nat) (z y : Int) : Nat := (z - (c % 24 : Nat)).natAbs * (z - (c % 24 : Nat)).natAbs + k * ((y - (c / 24 : Nat)).natAbs * (y - (c / 24 : Nat)).natAbs)
def inR (z y : Int) : Prop := -1 ≤ z ∧ z ≤ 24 ∧ -1 ≤ y ∧ y ≤ 16
def IsMn (pm : Nat → Nat → Bool) (k c n : Nat) : Prop := (∃ z y, inR z y ∧ pmI pm z y = false ∧ vN k c z y = n) ∧ ∀ z y, inR z y → pmI pm z y = false → n ≤ vN k c z y
theorem IsMn.u {pm : Nat → Nat → Bool} {k c n n2 : Nat} (h : IsMn pm k c n) (h2 : IsMn pm k c n2) : n = n2 := by
  obtain ⟨⟨z, y, a1, a2, a3⟩, b⟩ := h
  obtain ⟨⟨z', y', a1', a2', a3'⟩, b'⟩ := h2
  have := b z' y' a1' a2'
  have := b' z y a1 a2
  omega
theorem vN_b {k c : Nat} {z y : Int} (hk : k ≤ 9) (hc : c < 384) (h : inR z y) : vN k c z y ≤ 3226 := by
  unfold inR at h
  unfold vN
  have h1 : (z - (c % 24 : Nat)).natAbs ≤ 25 := by omega
  have h2 : (y - (c / 24 : Nat)).natAbs ≤ 17 := by omega
  have h3 := Nat.mul_le_mul h1 h1
  have h4 := Nat.mul_le_mul hk (Nat.mul_le_mul h2 h2)
  omega
section
variable {x m : Nat} {A : Nat → Int32} {T : Sh} {M M2 : Me} {pm : Nat → Nat → Bool}
def yI (i : Nat) : Int32 := nI i - 1
theorem yI_s (i : Nat) : yI i + 1 = yI (i + 1) := by
  unfold yI
  rw [i_back, i_dec]
theorem yI_t {i : Nat} (hi : i < 1000) : (yI i).toInt = (i : Int) - 1 := i_pm (by omega)
/-- what the reference has looked at: rows below i, in row i what is below j -/
def seen (i j : Nat) (z y : Int) : Prop := y + 1 < i ∨ y + 1 = i ∧ z + 1 < j
def RI (pm : Nat → Nat → Bool) (k c L i j : Nat) : Prop := (L = 268435456 ∨ ∃ z y, inR z y ∧ pmI pm z y = false ∧ vN k c z y = L) ∧ (∀ z y, inR z y → pmI pm z y = false → seen i j z y → L ≤ vN k c z y)
theorem RI.b {k c L i j : Nat} (hk : k ≤ 9) (hc : c < 384) (h : RI pm k c L i j) : L ≤ 268435456 := by
  rcases h.1 with q | ⟨z, y, q1, q2, q3⟩
  · omega
  · have := vN_b hk hc q1; omega
theorem r_apartIn {k c i L : Nat} (h : RV m A T M) (hg : MP (m + 7) (mr pm) M) (hk : A 1 = nI k) (hk9 : k ≤ 9) (hc : c < 384) (hi : i < 18) (hL : RI pm k c L i 0) : Ok (lp FU (fun s => bX12_apartFrom_17 T M m (nI (c % 24)) (nI (c / 24)) (yI i) s.1 s.2) (nI L, (-1 : Int32))) (fun r => ∃ L', r = nI L' ∧ RI pm k c L' (i + 1) 0) := by
  have hM := h.rm
  have ti := yI_t (i := i) (by omega)
  refine ok_forF 0 26 (fun j s => ∃ L', s = (nI L', yI j) ∧ RI pm k c L' i j) _ ⟨L, rfl, hL⟩ (by omega) (by omega) (fun j s _ hj hI => ?_) (fun s hI => ?_)
  · obtain ⟨L', rfl, hR⟩ := hI
    have tj := yI_t (i := j) (by omega)
    have hb := hR.b hk9 hc
    show Ok (bX12_apartFrom_17 T M m (nI (c % 24)) (nI (c / 24)) (yI i) (nI L') (yI j)) _
    unfold bX12_apartFrom_17
    have e24 : (nI 24).toInt = 24 := nI_toInt (by omega)
    rw [i_24, if_neg (by rw [fa_lt, e24, tj]; omega)]
    have ed : (yI j - nI (c % 24)).toInt = ((j : Int) - 1) - (c % 24 : Nat) := by rw [sub_toI (by rw [tj]; omega) (by rw [nI_toInt (by omega)]; omega), tj, nI_toInt (by omega)]
    have ev : (yI i - nI (c / 24)).toInt = ((i : Int) - 1) - (c / 24 : Nat) := by rw [sub_toI (by rw [ti]; omega) (by rw [nI_toInt (by omega)]; omega), ti, nI_toInt (by omega)]
    have rin : inR ((j : Int) - 1) ((i : Int) - 1) := by unfold inR; omega
    have hvb := vN_b hk9 hc rin
    have eval : (yI j - nI (c % 24)) * (yI j - nI (c % 24)) + A 1 * (yI i - nI (c / 24)) * (yI i - nI (c / 24)) = nI (vN k c ((j : Int) - 1) ((i : Int) - 1)) := by
      rw [sq_I, hk, Int32.mul_assoc, sq_I (yI i - nI (c / 24)), c_mul, nI_add, ed, ev]; rfl
    simp (disch := omega) only [gdI, gdT, Option.bind_some, lte, une2, une3, nI_add, gvI, cl_nI, c_le, c_lt, c_eq, Sum.elim_inl, Sum.elim_inr, hM.k, hM.r1, hM.k1, hM.l1, i_1, h.al]
    rw [eval, r_isMapped hM hg, ti, tj]
    simp only [Option.bind_some, ← i_1, yI_s]
    rw [ite_le (by omega) (by omega)]
    have ext : ∀ L2, (∀ z y, inR z y → pmI pm z y = false → seen i j z y → L2 ≤ vN k c z y) → (pmI pm ((j : Int) - 1) ((i : Int) - 1) = false → L2 ≤ vN k c ((j : Int) - 1) ((i : Int) - 1)) → ∀ z y, inR z y → pmI pm z y = false → seen i (j + 1) z y → L2 ≤ vN k c z y := by
      intro L2 q1 q2 z y a1 a2 a3
      by_cases q : z = (j : Int) - 1 ∧ y = (i : Int) - 1
      · rw [q.1, q.2] at a2 ⊢; exact q2 a2
      · exact q1 z y a1 a2 (by unfold seen at a3 ⊢; omega)
    by_cases hle : L' ≤ vN k c ((j : Int) - 1) ((i : Int) - 1)
    · rw [if_pos hle]
      exact ok_i ⟨L', rfl, hR.1, ext L' hR.2 (fun _ => hle)⟩
    · rw [if_neg hle]
      cases hb2 : pmI pm ((j : Int) - 1) ((i : Int) - 1)
      · rw [if_pos (b2_ne.mpr rfl)]
        exact ok_i ⟨_, rfl, Or.inr ⟨_, _, rin, hb2, rfl⟩, ext _ (fun z y a1 a2 a3 => by have := hR.2 z y a1 a2 a3; omega) (fun _ => Nat.le_refl _)⟩
      · rw [if_neg (fun z => absurd (b2_ne.mp z) (by decide))]
        exact ok_i ⟨L', rfl, hR.1, ext L' hR.2 (fun q => by rw [hb2] at q; exact absurd q (by decide))⟩
  · obtain ⟨L', rfl, hR⟩ := hI
    show Ok (bX12_apartFrom_17 T M m (nI (c % 24)) (nI (c / 24)) (yI i) (nI L') (yI 26)) _
    unfold bX12_apartFrom_17
    rw [if_pos (by decide)]
    refine ok_i ⟨L', rfl, hR.1, fun z y a1 a2 a3 => hR.2 z y a1 a2 ?_⟩
    unfold seen at a3 ⊢
    unfold inR at a1
    omega
theorem r_apartFrom {k c : Nat} (h : RV m A T M) (hg : MP (m + 7) (mr pm) M) (hk : A 1 = nI k) (hk9 : k ≤ 9) (hc : c < 384) : Ok (fX12_apartFrom T M m (nI (c % 24)) (nI (c / 24))) (fun r => ∃ n, r = nI n ∧ IsMn pm k c n) := by
  unfold fX12_apartFrom
  refine Ok.bd (ok_forF (s := ((268435456 : Int32), (-1 : Int32))) 0 18 (fun i s => ∃ L, s = (nI L, yI i) ∧ RI pm k c L i 0) (fun r => ∃ n, r = nI n ∧ IsMn pm k c n) ⟨268435456, rfl, Or.inl rfl, fun z y a1 a2 a3 => by unfold seen at a3; unfold inR at a1; omega⟩ (by omega) (by omega) (fun i s _ hi hI => ?_) (fun s hI => ?_)) (fun r hr => ok_i hr)
  · obtain ⟨L, rfl, hR⟩ := hI
    have ti := yI_t (i := i) (by omega)
    have e16 : (nI 16).toInt = 16 := nI_toInt (by omega)
    show Ok (bX12_apartFrom_7 T M m (nI (c % 24)) (nI (c / 24)) (nI L) (yI i)) _
    unfold bX12_apartFrom_7
    rw [i_16, if_neg (by rw [fa_lt, e16, ti]; omega)]
    refine Ok.bd (r_apartIn h hg hk hk9 hc hi hR) (fun r hr => ?_)
    obtain ⟨L', rfl, hR'⟩ := hr
    rw [lte, yI_s]
    exact ok_i ⟨L', rfl, hR'⟩
  · obtain ⟨L, rfl, hR⟩ := hI
    show Ok (bX12_apartFrom_7 T M m (nI (c % 24)) (nI (c / 24)) (nI L) (yI 18)) _
    unfold bX12_apartFrom_7
    rw [if_pos (by decide)]
    have all : ∀ z y, inR z y → pmI pm z y = false → L ≤ vN k c z y := fun z y a1 a2 => hR.2 z y a1 a2 (by unfold seen; unfold inR at a1; omega)
    refine ok_i ⟨L, rfl, ?_, all⟩
    rcases hR.1 with q | q
    · exfalso
      have h1 : inR (-1) (-1) := by unfold inR; omega
      have := all (-1) (-1) h1 (pmI_out (by omega))
      have := vN_b hk9 hc h1
      omega
    · exact q
/-! the class's gaps -/
def glp (b : Nat → Bool) : Nat → Nat
  | 0 => 0
  | d + 1 => if b d = true then glp b d + 1 else 0
def grp (b : Nat → Bool) : Nat → Nat
  | 0 => 0
  | j + 1 => if b (23 - j) = true then grp b j + 1 else 0
theorem glp_ok (b : Nat → Bool) : ∀ d, glp b d ≤ d ∧ (∀ t, t < glp b d → b (d - 1 - t) = true) ∧ (glp b d < d → b (d - 1 - glp b d) = false)
  | 0 => ⟨Nat.le_refl _, fun t ht => absurd ht (Nat.not_lt_zero _), fun h => absurd h (Nat.not_lt_zero _)⟩
  | d + 1 => by
    obtain ⟨h1, h2, h3⟩ := glp_ok b d
    rw [glp]
    by_cases hb : b d = true
    · rw [if_pos hb]
      refine ⟨by omega, fun t ht => ?_, fun h => ?_⟩
      · cases t with
        | zero => rw [show d + 1 - 1 - 0 = d by omega]; exact hb
        | succ t => rw [show d + 1 - 1 - (t + 1) = d - 1 - t by omega]; exact h2 t (by omega)
      · rw [show d + 1 - 1 - (glp b d + 1) = d - 1 - glp b d by omega]; exact h3 (by omega)
    · rw [if_neg hb]
      exact ⟨by omega, fun t ht => absurd ht (by omega), fun _ => by rw [show d + 1 - 1 - 0 = d by omega]; simpa using hb⟩
theorem grp_ok (b : Nat → Bool) : ∀ j, j ≤ 24 → grp b j ≤ j ∧ (∀ t, t < grp b j → b (24 - j + t) = true) ∧ (grp b j < j → b (24 - j + grp b j) = false)
  | 0, _ => ⟨Nat.le_refl _, fun t ht => absurd ht (Nat.not_lt_zero _), fun h => absurd h (Nat.not_lt_zero _)⟩
  | j + 1, hj => by
    obtain ⟨h1, h2, h3⟩ := grp_ok b j (by omega)
    rw [grp]
    by_cases hb : b (23 - j) = true
    · rw [if_pos hb]
      refine ⟨by omega, fun t ht => ?_, fun h => ?_⟩
      · cases t with
        | zero => rw [show 24 - (j + 1) + 0 = 23 - j by omega]; exact hb
        | succ t => rw [show 24 - (j + 1) + (t + 1) = 24 - j + t by omega]; exact h2 t (by omega)
      · rw [show 24 - (j + 1) + (grp b j + 1) = 24 - j + grp b j by omega]; exact h3 (by omega)
    · rw [if_neg hb]
      exact ⟨by omega, fun t ht => absurd ht (by omega), fun _ => by rw [show 24 - (j + 1) + 0 = 23 - j by omega]; simpa using hb⟩
def gpv (b : Nat → Bool) (d : Nat) : Nat := min (glp b (d + 1)) (grp b (24 - d))
theorem gpv_b {b : Nat → Bool} {d : Nat} (hd : d < 24) : gpv b d ≤ 24 := by
  have := (glp_ok b (d + 1)).1
  unfold gpv
  omega
def gpc (pm : Nat → Nat → Bool) (c : Nat) : Nat := gpv (pm (c / 24)) (c % 24)
theorem gap_at {v d : Nat} (hv : v < 16) (hd : d < 24) : ∃ z : Int, -1 ≤ z ∧ z ≤ 24 ∧ pmI pm z v = false ∧ (z - (d : Int)).natAbs = gpv (pm v) d := by
  obtain ⟨a1, a2, a3⟩ := glp_ok (pm v) (d + 1)
  obtain ⟨b1, b2, b3⟩ := grp_ok (pm v) (24 - d) (by omega)
  unfold gpv
  rcases Nat.le_total (glp (pm v) (d + 1)) (grp (pm v) (24 - d)) with q | q
  · rw [Nat.min_eq_left q]
    refine ⟨(d : Int) - (glp (pm v) (d + 1) : Nat), by omega, by omega, ?_, by omega⟩
    rcases Nat.lt_or_ge (glp (pm v) (d + 1)) (d + 1) with w | w
    · rw [show (d : Int) - (glp (pm v) (d + 1) : Nat) = ((d + 1 - 1 - glp (pm v) (d + 1) : Nat) : Int) by omega, pmI_n (by omega) hv]
      exact a3 w
    · exact pmI_out (by omega)
  · rw [Nat.min_eq_right q]
    refine ⟨(d : Int) + (grp (pm v) (24 - d) : Nat), by omega, by omega, ?_, by omega⟩
    rcases Nat.lt_or_ge (grp (pm v) (24 - d)) (24 - d) with w | w
    · rw [show (d : Int) + (grp (pm v) (24 - d) : Nat) = ((24 - (24 - d) + grp (pm v) (24 - d) : Nat) : Int) by omega, pmI_n (by omega) hv]
      exact b3 w
    · exact pmI_out (by omega)
theorem gap_lo {v d : Nat} {z : Int} (hv : v < 16) (hd : d < 24) (hz : pmI pm z v = false) : gpv (pm v) d ≤ (z - (d : Int)).natAbs := by
  obtain ⟨a1, a2, a3⟩ := glp_ok (pm v) (d + 1)
  obtain ⟨b1, b2, b3⟩ := grp_ok (pm v) (24 - d) (by omega)
  rcases Nat.lt_or_ge (z - (d : Int)).natAbs (gpv (pm v) d) with q | q
  · exfalso
    unfold gpv at q
    rcases Int.le_total z d with w | w
    · have := a2 (z - (d : Int)).natAbs (by omega)
      rw [show z = ((d + 1 - 1 - (z - (d : Int)).natAbs : Nat) : Int) by omega, pmI_n (by omega) hv] at hz
      rw [hz] at this
      exact absurd this (by decide)
    · have := b2 (z - (d : Int)).natAbs (by omega)
      rw [show z = ((24 - (24 - d) + (z - (d : Int)).natAbs : Nat) : Int) by omega, pmI_n (by omega) hv] at hz
      rw [hz] at this
      exact absurd this (by decide)
  · exact q
theorem c_measureGaps {v : Nat} (hp : PX x T M) (hg : MP (x + 20) (mr pm) M) (hv : v < 16) : Ok (fX7_measureGaps T M (x + 19) (nI v)) (fun p => (∀ c, c / 24 = v → gI p.2 (x + 21) c = nI (gpc pm c)) ∧ (∀ c, c / 24 ≠ v → gI p.2 (x + 21) c = gI M (x + 21) c) ∧ FX (fun a _ => a = x + 21) M p.2) := by
  unfold fX7_measureGaps
  refine Ok.bd (ok_forF (s := ((0 : Int32), (0 : Int32), M)) 0 24 (fun i s => ∃ M', s = (nI (glp (pm v) i), nI i, M') ∧ (∀ d, d < i → gI M' (x + 21) (24 * v + d) = nI (glp (pm v) (d + 1))) ∧ (∀ c, c / 24 ≠ v → gI M' (x + 21) c = gI M (x + 21) c) ∧ FX (fun a _ => a = x + 21) M M') (fun M' => (∀ d, d < 24 → gI M' (x + 21) (24 * v + d) = nI (glp (pm v) (d + 1))) ∧ (∀ c, c / 24 ≠ v → gI M' (x + 21) c = gI M (x + 21) c) ∧ FX (fun a _ => a = x + 21) M M') ⟨M, rfl, fun d hd => absurd hd (by omega), fun _ _ => rfl, FX.rfl⟩ (by omega) (by omega) (fun i s _ hi hI => ?_) (fun s hI => ?_)) (fun M1 h1 => ?_)
  · obtain ⟨M', rfl, hm, ho, f⟩ := hI
    have hp' := hp.eq f.r
    have hg' := hg.fx f (fun j => by omega)
    have gb := (glp_ok (pm v) i).1
    show Ok (bX7_measureGaps_4 T (x + 19) (nI v) (nI (glp (pm v) i)) (nI i) M') _
    unfold bX7_measureGaps_4
    rw [i_24, if_neg (by rw [c_le (by omega) (by omega)]; omega), c_mul, nI_add, lte, c_has hp' hg' (show v * 24 + i < 384 by omega)]
    simp (disch := omega) only [gdI, gdT, Option.bind_some, lte, une2, une3, nI_add, gvI, cl_nI, c_le, c_lt, c_eq, Sum.elim_inl, Sum.elim_inr, hp'.k19, hp'.k20, hp'.l20, hp'.k21, hp'.l21, hp'.k22, hp'.l22, hp'.r19_0, hp'.r19_1, hp'.r19_2, nI_1]
    have eb : pmc pm (v * 24 + i) = pm v i := by
      unfold pmc
      rw [show (v * 24 + i) / 24 = v by omega, show (v * 24 + i) % 24 = i by omega]
    rw [eb]
    have fin : ∀ w, glp (pm v) (i + 1) = w → ∃ M2, ((nI w, nI (i + 1), pI M' (x + 21) (v * 24 + i) (nI w)) : Int32 × Int32 × Me) = (nI (glp (pm v) (i + 1)), nI (i + 1), M2) ∧ (∀ d, d < i + 1 → gI M2 (x + 21) (24 * v + d) = nI (glp (pm v) (d + 1))) ∧ (∀ c, c / 24 ≠ v → gI M2 (x + 21) c = gI M (x + 21) c) ∧ FX (fun a _ => a = x + 21) M M2 := fun w hw => ⟨_, by rw [hw], fun d hd => by
      by_cases q : d = i
      · rw [q, show 24 * v + i = v * 24 + i by omega, mII1, hw]
      · rw [mIIk (by omega)]; exact hm d (by omega), fun c hc => by rw [mIIk (by omega)]; exact ho c hc, f.pI rfl⟩
    cases hb : pm v i
    · rw [if_pos (b2_ne.mpr rfl)]
      exact ok_i (fin 0 (by rw [glp, hb, if_neg (by decide)]))
    · rw [if_neg (fun z => absurd (b2_ne.mp z) (by decide))]
      exact ok_i (fin _ (by rw [glp, hb, if_pos rfl]))
  · obtain ⟨M', rfl, hm, ho, f⟩ := hI
    show Ok (bX7_measureGaps_4 T (x + 19) (nI v) _ (nI 24) M') _
    unfold bX7_measureGaps_4
    rw [i_24, if_pos (by decide)]
    exact ok_i ⟨hm, ho, f⟩
  obtain ⟨hm1, ho1, f1⟩ := h1
  refine Ok.bd (ok_forF (s := ((0 : Int32), (23 : Int32), M1)) 0 24 (fun j s => ∃ M', s = (nI (grp (pm v) j), (if j = 24 then (-1 : Int32) else nI (23 - j)), M') ∧ (∀ d, d < 24 → 24 ≤ d + j → gI M' (x + 21) (24 * v + d) = nI (gpv (pm v) d)) ∧ (∀ d, d + j < 24 → gI M' (x + 21) (24 * v + d) = nI (glp (pm v) (d + 1))) ∧ (∀ c, c / 24 ≠ v → gI M' (x + 21) c = gI M (x + 21) c) ∧ FX (fun a _ => a = x + 21) M M') (fun M' => (∀ d, d < 24 → gI M' (x + 21) (24 * v + d) = nI (gpv (pm v) d)) ∧ (∀ c, c / 24 ≠ v → gI M' (x + 21) c = gI M (x + 21) c) ∧ FX (fun a _ => a = x + 21) M M') ⟨M1, rfl, fun d hd h => absurd h (by omega), fun d hd => hm1 d (by omega), ho1, f1⟩ (by omega) (by omega) (fun j s _ hj hI => ?_) (fun s hI => ?_)) (fun M2 h2 => ?_)
  · obtain ⟨M', rfl, hh, hm, ho, f⟩ := hI
    have hp' := hp.eq f.r
    have hg' := hg.fx f (fun j => by omega)
    have gb := (grp_ok (pm v) j (by omega)).1
    have gb2 := (glp_ok (pm v) (23 - j + 1)).1
    show Ok (bX7_measureGaps_54 T (x + 19) (nI v) (nI (grp (pm v) j)) (if j = 24 then (-1 : Int32) else nI (23 - j)) M') _
    rw [if_neg (by omega)]
    unfold bX7_measureGaps_54
    have h24 := hm (23 - j) (by omega)
    rw [if_neg (i_neg _ (by omega)), i_24, c_mul, nI_add, lte, c_has hp' hg' (show v * 24 + (23 - j) < 384 by omega)]
    rw [show 24 * v + (23 - j) = v * 24 + (23 - j) by omega] at h24
    simp (disch := omega) only [gdI, gdT, Option.bind_some, lte, une2, une3, nI_add, gvI, cl_nI, c_le, c_lt, c_eq, Sum.elim_inl, Sum.elim_inr, hp'.k19, hp'.k20, hp'.l20, hp'.k21, hp'.l21, hp'.k22, hp'.l22, hp'.r19_0, hp'.r19_1, hp'.r19_2, nI_1, h24]
    have eb : pmc pm (v * 24 + (23 - j)) = pm v (23 - j) := by
      unfold pmc
      rw [show (v * 24 + (23 - j)) / 24 = v by omega, show (v * 24 + (23 - j)) % 24 = 23 - j by omega]
    rw [eb]
    have e9 : nI (23 - j) + (-1 : Int32) = if j + 1 = 24 then (-1 : Int32) else nI (23 - (j + 1)) := by
      by_cases q : j + 1 = 24
      · rw [if_pos q, show 23 - j = 0 by omega]; rfl
      · rw [if_neg q, show 23 - j = (23 - (j + 1)) + 1 by omega]
        exact i_m1 _
    have fin : ∀ w, grp (pm v) (j + 1) = w → ∃ M2, ((nI w, nI (23 - j) + (-1 : Int32), pI M' (x + 21) (v * 24 + (23 - j)) (nI (min (glp (pm v) (23 - j + 1)) w))) : Int32 × Int32 × Me) = (nI (grp (pm v) (j + 1)), (if j + 1 = 24 then (-1 : Int32) else nI (23 - (j + 1))), M2) ∧ (∀ d, d < 24 → 24 ≤ d + (j + 1) → gI M2 (x + 21) (24 * v + d) = nI (gpv (pm v) d)) ∧ (∀ d, d + (j + 1) < 24 → gI M2 (x + 21) (24 * v + d) = nI (glp (pm v) (d + 1))) ∧ (∀ c, c / 24 ≠ v → gI M2 (x + 21) c = gI M (x + 21) c) ∧ FX (fun a _ => a = x + 21) M M2 := fun w hw => ⟨_, by rw [hw, e9], fun d hd h => by
      by_cases q : d = 23 - j
      · rw [q, show 24 * v + (23 - j) = v * 24 + (23 - j) by omega, mII1, ← hw]
        unfold gpv
        rw [show 24 - (23 - j) = j + 1 by omega]
      · rw [mIIk (by omega)]; exact hh d hd (by omega), fun d hd => by rw [mIIk (by omega)]; exact hm d (by omega), fun c hc => by rw [mIIk (by omega)]; exact ho c hc, f.pI rfl⟩
    cases hb : pm v (23 - j)
    · rw [if_pos (b2_ne.mpr rfl)]
      have hm0 : fJ9_min_7cf53 (nI (glp (pm v) (23 - j + 1))) (0 : Int32) = some (nI (min (glp (pm v) (23 - j + 1)) 0)) := by rw [i_0, min_at (by omega) (by omega)]
      rw [hm0, Option.bind_some]
      exact ok_i (fin 0 (by rw [grp, hb, if_neg (by decide)]))
    · rw [if_neg (fun z => absurd (b2_ne.mp z) (by decide)), min_at (by omega) (by omega), Option.bind_some]
      exact ok_i (fin _ (by rw [grp, hb, if_pos rfl]))
  · obtain ⟨M', rfl, hh, hm, ho, f⟩ := hI
    show Ok (bX7_measureGaps_54 T (x + 19) (nI v) _ (-1 : Int32) M') _
    unfold bX7_measureGaps_54
    rw [if_pos (by decide)]
    exact ok_i ⟨fun d hd => hh d hd (by omega), ho, f⟩
  obtain ⟨hm2, ho2, f2⟩ := h2
  refine ok_i ⟨fun c hc => ?_, ho2, f2⟩
  have := hm2 (c % 24) (by omega)
  rw [show 24 * v + c % 24 = c by omega] at this
  unfold gpc
  rw [hc]; exact this
theorem c_squaredGap {c : Nat} (hp : PX x T M) (hm : ∀ c, c < 384 → gI M (x + 21) c = nI (gpc pm c)) (hc : c < 384) : fX7_squaredGap T M (x + 19) (nI c) = some (nI (gpc pm c * gpc pm c)) := by
  unfold fX7_squaredGap
  rw [if_neg (i_neg _ (by omega)), i_384, if_pos (by rw [c_lt (by omega) (by omega)]; exact hc)]
  simp (disch := omega) only [gdI, gdT, Option.bind_some, lte, une2, une3, nI_add, gvI, cl_nI, c_le, c_lt, c_eq, Sum.elim_inl, Sum.elim_inr, hp.k19, hp.k20, hp.l20, hp.k21, hp.l21, hp.k22, hp.l22, hp.r19_0, hp.r19_1, hp.r19_2, hm c hc, c_mul]
theorem c_squaredGap0 {a : Int32} (ha : a.toInt < 0 ∨ 384 ≤ a.toInt) : fX7_squaredGap T M (x + 19) a = some 0 := by
  unfold fX7_squaredGap
  rw [i_384]
  rcases ha with q | q
  · rw [if_pos (i_lt0 q)]
  · rw [if_neg (fun z => by have := (fa_lt _ _).mp z; have e : (0 : Int32).toInt = 0 := by decide
                            omega), if_neg (i_nlt (N := 384) (by omega) (by omega))]
/-- what the class has looked at: rows less than a apart -/
def CIv (pm : Nat → Nat → Bool) (k c a L : Nat) : Prop := (∃ z y, inR z y ∧ pmI pm z y = false ∧ vN k c z y = L) ∧ ∀ z y, inR z y → pmI pm z y = false → (y - (c / 24 : Nat)).natAbs < a → L ≤ vN k c z y
theorem c_nearest {k c : Nat} (hp : PX x T M) (hm : ∀ c, c < 384 → gI M (x + 21) c = nI (gpc pm c)) (hk1 : 1 ≤ k) (hk9 : k ≤ 9) (hc : c < 384) : Ok (fX7_nearestOutside T M (x + 19) (nI c) (nI k)) (fun r => ∃ n, r = nI n ∧ IsMn pm k c n) := by
  have g24 : ∀ c, gpc pm c ≤ 24 := fun c => gpv_b (Nat.mod_lt _ (by omega))
  have gg : ∀ c, gpc pm c * gpc pm c ≤ 576 := fun c => Nat.mul_le_mul (g24 c) (g24 c)
  unfold fX7_nearestOutside
  simp (disch := omega) only [gdI, gdT, Option.bind_some, lte, une2, une3, nI_add, gvI, cl_nI, c_le, c_lt, c_eq, Sum.elim_inl, Sum.elim_inr, hp.k19, hp.k20, hp.l20, hp.k21, hp.l21, hp.k22, hp.l22, hp.r19_0, hp.r19_1, hp.r19_2, hm c hc, c_mul]
  have own : ∀ v : Nat, v < 16 → ∀ z : Int, -1 ≤ z → z ≤ 24 → pmI pm z (v : Int) = false → gpc pm (24 * v + c % 24) * gpc pm (24 * v + c % 24) + k * (((v : Int) - (c / 24 : Nat)).natAbs * ((v : Int) - (c / 24 : Nat)).natAbs) ≤ vN k c z v := by
    intro v hv z _ _ hz
    have h1 := gap_lo (d := c % 24) hv (by omega) hz
    have e : gpc pm (24 * v + c % 24) = gpv (pm v) (c % 24) := by
      unfold gpc
      rw [show (24 * v + c % 24) / 24 = v by omega, show (24 * v + c % 24) % 24 = c % 24 by omega]
    rw [e]
    unfold vN
    have := Nat.mul_le_mul h1 h1
    omega
  have att : ∀ v : Nat, v < 16 → ∃ z y, inR z y ∧ pmI pm z y = false ∧ vN k c z y = gpc pm (24 * v + c % 24) * gpc pm (24 * v + c % 24) + k * (((v : Int) - (c / 24 : Nat)).natAbs * ((v : Int) - (c / 24 : Nat)).natAbs) := by
    intro v hv
    obtain ⟨z, z1, z2, z3, z4⟩ := gap_at (pm := pm) (d := c % 24) hv (by omega)
    refine ⟨z, v, by unfold inR; omega, z3, ?_⟩
    have e : gpc pm (24 * v + c % 24) = gpv (pm v) (c % 24) := by
      unfold gpc
      rw [show (24 * v + c % 24) / 24 = v by omega, show (24 * v + c % 24) % 24 = c % 24 by omega]
    unfold vN
    rw [z4, e]
  have out : ∀ y : Int, y = -1 ∨ y = 16 → inR ((c % 24 : Nat) : Int) y ∧ pmI pm ((c % 24 : Nat) : Int) y = false ∧ vN k c ((c % 24 : Nat) : Int) y = k * ((y - (c / 24 : Nat)).natAbs * (y - (c / 24 : Nat)).natAbs) := by
    intro y hy
    refine ⟨by unfold inR; omega, pmI_out (by omega), ?_⟩
    unfold vN
    rw [Int.sub_self]; simp
  have start : CIv pm k c 1 (gpc pm c * gpc pm c) := by
    have e : 24 * (c / 24) + c % 24 = c := by omega
    have e0 : (((c / 24 : Nat) : Int) - ((c / 24 : Nat) : Int)).natAbs = 0 := by omega
    refine ⟨?_, fun z y a1 a2 a3 => ?_⟩
    · obtain ⟨z, y, h1, h2, h3⟩ := att (c / 24) (by omega)
      rw [e, e0] at h3
      exact ⟨z, y, h1, h2, by rw [h3]; simp⟩
    · have hy : y = ((c / 24 : Nat) : Int) := by omega
      subst hy
      unfold inR at a1
      have := own (c / 24) (by omega) z a1.1 a1.2.1 a2
      rw [e, e0] at this
      simp at this
      exact this
  refine Ok.bd (ok_forF (s := (nI (gpc pm c * gpc pm c), (1 : Int32))) 1 17 (fun a s => ∃ L, s = (nI L, nI a) ∧ L ≤ 3226 ∧ CIv pm k c a L) (fun r => ∃ n, r = nI n ∧ IsMn pm k c n) ⟨_, rfl, by have := gg c; omega, start⟩ (by omega) (by omega) (fun a s ha1 ha hI => ?_) (fun s hI => ?_)) (fun r hr => ok_i hr)
  · obtain ⟨L, rfl, hLb, hatt, hlow⟩ := hI
    have haa : a * a ≤ 16 * 16 := Nat.mul_le_mul (by omega) (by omega)
    have hkaa : k * (a * a) ≤ 9 * (16 * 16) := Nat.mul_le_mul hk9 haa
    show Ok (bX7_nearestOutside_17 T M (x + 19) (nI c) (nI k) (nI L) (nI a)) _
    unfold bX7_nearestOutside_17
    rw [i_16, if_neg (by rw [c_lt (by omega) (by omega)]; omega), Int32.mul_assoc, c_mul, c_mul, ite_le (by omega) (by omega)]
    by_cases hle : L ≤ k * (a * a)
    · rw [if_pos hle]
      refine ok_i ⟨L, rfl, hatt, fun z y a1 a2 => ?_⟩
      rcases Nat.lt_or_ge (y - (c / 24 : Nat)).natAbs a with q | q
      · exact hlow z y a1 a2 q
      · have h1 := Nat.mul_le_mul_left k (Nat.mul_le_mul q q)
        unfold vN
        omega
    · rw [if_neg hle]
      -- the two rows that are a apart
      have hup : ∃ g, fX7_squaredGap T M (x + 19) (nI c - nI a * 24) = some (nI g) ∧ g ≤ 576 ∧ (∃ z y, inR z y ∧ pmI pm z y = false ∧ vN k c z y = g + k * (a * a)) ∧ ∀ z y, inR z y → pmI pm z y = false → y = ((c / 24 : Nat) : Int) - a → g + k * (a * a) ≤ vN k c z y := by
        rw [i_24, c_mul]
        rcases Nat.lt_or_ge (c / 24) a with q | q
        · have hy : a = c / 24 + 1 := by
            rcases Nat.lt_or_ge (c / 24 + 1) a with w | w
            · exfalso
              obtain ⟨o1, o2, o3⟩ := out (-1) (Or.inl rfl)
              have h1 := hlow _ _ o1 o2 (by omega)
              rw [o3] at h1
              have h2 : ((-1 : Int) - (c / 24 : Nat)).natAbs ≤ a := by omega
              have h3 := Nat.mul_le_mul_left k (Nat.mul_le_mul h2 h2)
              omega
            · omega
          obtain ⟨o1, o2, o3⟩ := out (-1) (Or.inl rfl)
          have en : ((-1 : Int) - (c / 24 : Nat)).natAbs = a := by omega
          rw [en] at o3
          refine ⟨0, ?_, by omega, ⟨_, _, o1, o2, by rw [o3]; omega⟩, fun z y a1 a2 a3 => ?_⟩
          · rw [c_squaredGap0 (by rw [sub_toI (by rw [nI_toInt (by omega)]; omega) (by rw [nI_toInt (by omega)]; omega), nI_toInt (by omega), nI_toInt (by omega)]; omega)]; rfl
          · have en2 : (y - (c / 24 : Nat)).natAbs = a := by omega
            unfold vN
            rw [en2]; omega
        · have ec : 24 * (c / 24 - a) + c % 24 = c - a * 24 := by omega
          have en : (((c / 24 - a : Nat) : Int) - (c / 24 : Nat)).natAbs = a := by omega
          refine ⟨gpc pm (c - a * 24) * gpc pm (c - a * 24), ?_, gg _, ?_, fun z y a1 a2 a3 => ?_⟩
          · rw [c_sub (by omega), c_squaredGap hp hm (by omega)]
          · obtain ⟨z, y, h1, h2, h3⟩ := att (c / 24 - a) (by omega)
            rw [ec, en] at h3
            exact ⟨z, y, h1, h2, h3⟩
          · have hy : y = ((c / 24 - a : Nat) : Int) := by omega
            subst hy
            unfold inR at a1
            have := own (c / 24 - a) (by omega) z a1.1 a1.2.1 a2
            rw [ec, en] at this
            exact this
      have hdn : ∃ g, fX7_squaredGap T M (x + 19) (nI c + nI a * 24) = some (nI g) ∧ g ≤ 576 ∧ (∃ z y, inR z y ∧ pmI pm z y = false ∧ vN k c z y = g + k * (a * a)) ∧ ∀ z y, inR z y → pmI pm z y = false → y = ((c / 24 : Nat) : Int) + a → g + k * (a * a) ≤ vN k c z y := by
        rw [i_24, c_mul, nI_add]
        rcases Nat.lt_or_ge (c / 24 + a) 16 with q | q
        · have ec : 24 * (c / 24 + a) + c % 24 = c + a * 24 := by omega
          have en : (((c / 24 + a : Nat) : Int) - (c / 24 : Nat)).natAbs = a := by omega
          refine ⟨gpc pm (c + a * 24) * gpc pm (c + a * 24), ?_, gg _, ?_, fun z y a1 a2 a3 => ?_⟩
          · rw [c_squaredGap hp hm (by omega)]
          · obtain ⟨z, y, h1, h2, h3⟩ := att (c / 24 + a) (by omega)
            rw [ec, en] at h3
            exact ⟨z, y, h1, h2, h3⟩
          · have hy : y = ((c / 24 + a : Nat) : Int) := by omega
            subst hy
            unfold inR at a1
            have := own (c / 24 + a) (by omega) z a1.1 a1.2.1 a2
            rw [ec, en] at this
            exact this
        · have hy : c / 24 + a = 16 := by
            rcases Nat.lt_or_ge 16 (c / 24 + a) with w | w
            · exfalso
              obtain ⟨o1, o2, o3⟩ := out 16 (Or.inr rfl)
              have h1 := hlow _ _ o1 o2 (by omega)
              rw [o3] at h1
              have h2 : ((16 : Int) - (c / 24 : Nat)).natAbs ≤ a := by omega
              have h3 := Nat.mul_le_mul_left k (Nat.mul_le_mul h2 h2)
              omega
            · omega
          obtain ⟨o1, o2, o3⟩ := out 16 (Or.inr rfl)
          have en : ((16 : Int) - (c / 24 : Nat)).natAbs = a := by omega
          rw [en] at o3
          refine ⟨0, ?_, by omega, ⟨_, _, o1, o2, by rw [o3]; omega⟩, fun z y a1 a2 a3 => ?_⟩
          · rw [c_squaredGap0 (by rw [nI_toInt (by omega)]; omega)]; rfl
          · have en2 : (y - (c / 24 : Nat)).natAbs = a := by omega
            unfold vN
            rw [en2]; omega
      obtain ⟨g1, u1, u2, u3, u4⟩ := hup
      obtain ⟨g2, d1, d2, d3, d4⟩ := hdn
      rw [lte, hp.k19, gdI, u1, Option.bind_some, nI_add, min_at (by omega) (by omega), Option.bind_some, d1, Option.bind_some, nI_add, min_at (by omega) (by omega), Option.bind_some, lte, nI_1]
      refine ok_i ⟨_, rfl, by omega, ?_, fun z y a1 a2 a3 => ?_⟩
      · rcases (by omega : min (min L (k * (a * a) + g1)) (k * (a * a) + g2) = L ∨ min (min L (k * (a * a) + g1)) (k * (a * a) + g2) = g1 + k * (a * a) ∨ min (min L (k * (a * a) + g1)) (k * (a * a) + g2) = g2 + k * (a * a)) with q | q | q <;> rw [q]
        · exact hatt
        · exact u3
        · exact d3
      · rcases (by omega : (y - (c / 24 : Nat)).natAbs < a ∨ y = ((c / 24 : Nat) : Int) - a ∨ y = ((c / 24 : Nat) : Int) + a) with q | q | q
        · have := hlow z y a1 a2 q; omega
        · have := u4 z y a1 a2 q; omega
        · have := d4 z y a1 a2 q; omega
  · obtain ⟨L, rfl, hLb, hatt, hlow⟩ := hI
    show Ok (bX7_nearestOutside_17 T M (x + 19) (nI c) (nI k) (nI L) (nI 17)) _
    unfold bX7_nearestOutside_17
    rw [i_16, if_pos (by decide)]
    exact ok_i ⟨L, rfl, hatt, fun z y a1 a2 => hlow z y a1 a2 (by unfold inR at a1; omega)⟩
end
