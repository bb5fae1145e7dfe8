/-! how many steps to the nearest cell of the map -/
def sf (G : Nat → Nat) : Option Nat → Nat
  | none => 99
  | some k => G k + 1
def RecF (pc : Nat → Bool) (G : Nat → Nat) (c : Nat) : Prop := G c = if pc c = true then 0 else min (sf G (bes c 0)) (sf G (bes c 2))
def RecB (G H : Nat → Nat) (c : Nat) : Prop := H c = min (G c) (min (sf H (bes c 1)) (sf H (bes c 3)))
theorem bes0_lt {c n : Nat} (h : bes c 0 = some n) : n < c ∧ n + 1 = c := by
  rw [bes0] at h
  split at h
  · cases h
  · cases h; omega
theorem bes2_lt {c n : Nat} (h : bes c 2 = some n) : n < c ∧ n + 24 = c := by
  rw [bes2] at h
  split at h
  · cases h
  · cases h; omega
theorem bes1_gt {c n : Nat} (h : bes c 1 = some n) : c < n ∧ n = c + 1 := by
  rw [bes1] at h
  split at h
  · cases h
  · cases h; omega
theorem bes3_gt {c n : Nat} (h : bes c 3 = some n) : c < n ∧ n = c + 24 := by
  rw [bes3] at h
  split at h
  · cases h
  · cases h; omega
theorem sf_cong {G H : Nat → Nat} {q : Option Nat} (h : ∀ n, q = some n → G n = H n) : sf G q = sf H q := by
  cases q with
  | none => rfl
  | some n => show G n + 1 = H n + 1; rw [h n rfl]
theorem ex_G (pc : Nat → Bool) : ∀ n, ∃ G, ∀ c, c < n → RecF pc G c
  | 0 => ⟨fun _ => 0, fun c hc => absurd hc (Nat.not_lt_zero _)⟩
  | n + 1 => by
    obtain ⟨G, h⟩ := ex_G pc n
    refine ⟨fun k => if k = n then (if pc n = true then 0 else min (sf G (bes n 0)) (sf G (bes n 2))) else G k, fun c hc => ?_⟩
    have e0 : ∀ c, c ≤ n → sf (fun k => if k = n then (if pc n = true then 0 else min (sf G (bes n 0)) (sf G (bes n 2))) else G k) (bes c 0) = sf G (bes c 0) := fun c hc => sf_cong (fun k hk => if_neg (by have := bes0_lt hk; omega))
    have e2 : ∀ c, c ≤ n → sf (fun k => if k = n then (if pc n = true then 0 else min (sf G (bes n 0)) (sf G (bes n 2))) else G k) (bes c 2) = sf G (bes c 2) := fun c hc => sf_cong (fun k hk => if_neg (by have := bes2_lt hk; omega))
    unfold RecF
    rw [e0 c (by omega), e2 c (by omega)]
    by_cases q : c = n
    · subst q; exact if_pos rfl
    · exact (if_neg q).trans (h c (by omega))
theorem ex_H (G : Nat → Nat) : ∀ n, ∃ H, ∀ c, c < 384 → 384 ≤ c + n → RecB G H c
  | 0 => ⟨fun _ => 0, fun c hc h => absurd h (by omega)⟩
  | n + 1 => by
    obtain ⟨H, h⟩ := ex_H G n
    refine ⟨fun k => if k = 383 - n then min (G (383 - n)) (min (sf H (bes (383 - n) 1)) (sf H (bes (383 - n) 3))) else H k, fun c hc hn => ?_⟩
    have e1 : ∀ c, 383 - n ≤ c → sf (fun k => if k = 383 - n then min (G (383 - n)) (min (sf H (bes (383 - n) 1)) (sf H (bes (383 - n) 3))) else H k) (bes c 1) = sf H (bes c 1) := fun c hc => sf_cong (fun k hk => if_neg (by have := bes1_gt hk; omega))
    have e3 : ∀ c, 383 - n ≤ c → sf (fun k => if k = 383 - n then min (G (383 - n)) (min (sf H (bes (383 - n) 1)) (sf H (bes (383 - n) 3))) else H k) (bes c 3) = sf H (bes c 3) := fun c hc => sf_cong (fun k hk => if_neg (by have := bes3_gt hk; omega))
    unfold RecB
    rw [e1 c (by omega), e3 c (by omega)]
    by_cases q : c = 383 - n
    · rw [q]; exact if_pos rfl
    · exact (if_neg q).trans (h c hc (by omega))
theorem G_b {pc : Nat → Bool} {G : Nat → Nat} {N : Nat} (h : ∀ c, c < N → RecF pc G c) : ∀ c, c < N → G c ≤ 99 + c := by
  intro c
  induction c using Nat.strongRecOn with
  | ind c ih =>
    intro hc
    have e : G c = if pc c = true then 0 else min (sf G (bes c 0)) (sf G (bes c 2)) := h c hc
    rw [e]
    split
    · omega
    · have : sf G (bes c 0) ≤ 99 + c := by
        cases hb : bes c 0 with
        | none => show 99 ≤ 99 + c; omega
        | some n =>
          have := bes0_lt hb
          have := ih n (by omega) (by omega)
          show G n + 1 ≤ 99 + c
          omega
      omega
/-- what a row of distances is -/
def IsD (pc : Nat → Bool) (D : Nat → Nat) : Prop := (∀ c, c < 384 → (D c = 0 ↔ pc c = true)) ∧ (∀ c s n, c < 384 → s < 4 → bes c s = some n → D c ≤ D n + 1) ∧ (∀ c, c < 384 → D c ≤ 38) ∧ ∀ c, c < 384 → 0 < D c → ∃ s n, s < 4 ∧ bes c s = some n ∧ D n + 1 = D c
theorem IsD.uniq {pc : Nat → Bool} {D E : Nat → Nat} (hD : IsD pc D) (hE : IsD pc E) : ∀ n c, c < 384 → E c ≤ n → D c ≤ E c := by
  intro n
  induction n with
  | zero =>
    intro c hc h
    have := (hD.1 c hc).mpr ((hE.1 c hc).mp (by omega))
    omega
  | succ n ih =>
    intro c hc h
    rcases Nat.eq_zero_or_pos (E c) with q | q
    · have := (hD.1 c hc).mpr ((hE.1 c hc).mp q)
      omega
    · obtain ⟨s, k, hs, hk, e⟩ := hE.2.2.2 c hc q
      have h1 := ih k (bes_b hc hs hk) (by omega)
      have h2 := hD.2.1 c s k hc hs hk
      omega
def Lip (D : Nat → Nat) : Prop := ∀ c s n, c < 384 → s < 4 → bes c s = some n → D c ≤ D n + 1
theorem Lip.r {D : Nat → Nat} (h : Lip D) {c : Nat} (hc : c < 384) (h0 : c % 24 ≠ 0) : D c ≤ D (c - 1) + 1 := h c 0 (c - 1) hc (by omega) (by rw [bes0, if_neg h0])
theorem Lip.l {D : Nat → Nat} (h : Lip D) {c : Nat} (hc : c < 384) (h0 : c % 24 ≠ 23) : D c ≤ D (c + 1) + 1 := h c 1 (c + 1) hc (by omega) (by rw [bes1, if_neg h0])
theorem Lip.d {D : Nat → Nat} (h : Lip D) {c : Nat} (hc : c < 384) (h0 : ¬ c < 24) : D c ≤ D (c - 24) + 1 := h c 2 (c - 24) hc (by omega) (by rw [bes2, if_neg h0])
theorem Lip.u {D : Nat → Nat} (h : Lip D) {c : Nat} (hc : c < 384) (h0 : ¬ 360 ≤ c) : D c ≤ D (c + 24) + 1 := h c 3 (c + 24) hc (by omega) (by rw [bes3, if_neg h0])
theorem Lip.row {D : Nat → Nat} (h : Lip D) {v : Nat} (hv : v < 16) : ∀ k d, d + k < 24 → D (24 * v + d + k) ≤ D (24 * v + d) + k ∧ D (24 * v + d) ≤ D (24 * v + d + k) + k := by
  intro k
  induction k with
  | zero => intro d _; exact ⟨Nat.le_refl _, Nat.le_refl _⟩
  | succ k ih =>
    intro d hd
    obtain ⟨i1, i2⟩ := ih d (by omega)
    have h1 := h.r (c := 24 * v + d + (k + 1)) (by omega) (by omega)
    have h2 := h.l (c := 24 * v + d + k) (by omega) (by omega)
    rw [show 24 * v + d + (k + 1) - 1 = 24 * v + d + k by omega] at h1
    rw [show 24 * v + d + k + 1 = 24 * v + d + (k + 1) by omega] at h2
    omega
theorem Lip.col {D : Nat → Nat} (h : Lip D) {d : Nat} (hd : d < 24) : ∀ k v, v + k < 16 → D (24 * (v + k) + d) ≤ D (24 * v + d) + k ∧ D (24 * v + d) ≤ D (24 * (v + k) + d) + k := by
  intro k
  induction k with
  | zero => intro v _; exact ⟨Nat.le_refl _, Nat.le_refl _⟩
  | succ k ih =>
    intro v hv
    obtain ⟨i1, i2⟩ := ih v (by omega)
    have h1 := h.d (c := 24 * (v + (k + 1)) + d) (by omega) (by omega)
    have h2 := h.u (c := 24 * (v + k) + d) (by omega) (by omega)
    rw [show 24 * (v + (k + 1)) + d - 24 = 24 * (v + k) + d by omega] at h1
    rw [show 24 * (v + k) + d + 24 = 24 * (v + (k + 1)) + d by omega] at h2
    omega
theorem Lip.b {D : Nat → Nat} (h : Lip D) {a c : Nat} (ha : a < 384) (hc : c < 384) : D c ≤ D a + 38 := by
  have e1 : D (24 * (c / 24) + c % 24) ≤ D (24 * (c / 24) + a % 24) + 23 := by
    rcases Nat.lt_or_ge (c % 24) (a % 24) with q | q
    · have := (h.row (v := c / 24) (by omega) (a % 24 - c % 24) (c % 24) (by omega)).2
      rw [show 24 * (c / 24) + c % 24 + (a % 24 - c % 24) = 24 * (c / 24) + a % 24 by omega] at this
      omega
    · have := (h.row (v := c / 24) (by omega) (c % 24 - a % 24) (a % 24) (by omega)).1
      rw [show 24 * (c / 24) + a % 24 + (c % 24 - a % 24) = 24 * (c / 24) + c % 24 by omega] at this
      omega
  have e2 : D (24 * (c / 24) + a % 24) ≤ D (24 * (a / 24) + a % 24) + 15 := by
    rcases Nat.lt_or_ge (c / 24) (a / 24) with q | q
    · have := (h.col (d := a % 24) (by omega) (a / 24 - c / 24) (c / 24) (by omega)).2
      rw [show c / 24 + (a / 24 - c / 24) = a / 24 by omega] at this
      omega
    · have := (h.col (d := a % 24) (by omega) (c / 24 - a / 24) (a / 24) (by omega)).1
      rw [show a / 24 + (c / 24 - a / 24) = c / 24 by omega] at this
      omega
  rw [show 24 * (c / 24) + c % 24 = c by omega] at e1
  rw [show 24 * (a / 24) + a % 24 = a by omega] at e2
  omega
section
variable {pc : Nat → Bool} {G H : Nat → Nat} (hG : ∀ c, c < 384 → RecF pc G c) (hH : ∀ c, c < 384 → RecB G H c)
theorem GH_left (hG : ∀ c, c < 384 → RecF pc G c) (hH : ∀ c, c < 384 → RecB G H c) : ∀ n c, c < 384 → 384 ≤ c + n → c % 24 ≠ 0 → H c ≤ H (c - 1) + 1 := by
  intro n
  induction n with
  | zero => intro c hc h; omega
  | succ n ih =>
    intro c hc hn h0
    have e1 : H (c - 1) = min (G (c - 1)) (min (sf H (bes (c - 1) 1)) (sf H (bes (c - 1) 3))) := hH (c - 1) (by omega)
    have e2 : H c = min (G c) (min (sf H (bes c 1)) (sf H (bes c 3))) := hH c hc
    have e3 : G c ≤ G (c - 1) + 1 := by
      have e : G c = if pc c = true then 0 else min (sf G (bes c 0)) (sf G (bes c 2)) := hG c hc
      rw [bes0, if_neg h0, show sf G (some (c - 1)) = G (c - 1) + 1 from rfl] at e
      rw [e]
      split <;> omega
    have e4 : sf H (bes (c - 1) 1) = H c + 1 := by
      rw [bes1, if_neg (by omega), show c - 1 + 1 = c by omega]; rfl
    rw [e4] at e1
    by_cases h3 : 360 ≤ c
    · rw [bes3, if_pos (by omega), show sf H none = 99 from rfl] at e1
      rw [show bes c 3 = none by rw [bes3, if_pos h3], show sf H none = 99 from rfl] at e2
      omega
    · rw [bes3, if_neg (by omega), show sf H (some (c - 1 + 24)) = H (c - 1 + 24) + 1 from rfl] at e1
      rw [show bes c 3 = some (c + 24) by rw [bes3, if_neg h3], show sf H (some (c + 24)) = H (c + 24) + 1 from rfl] at e2
      have := ih (c + 24) (by omega) (by omega) (by omega)
      rw [show c + 24 - 1 = c - 1 + 24 by omega] at this
      omega
theorem GH_up (hG : ∀ c, c < 384 → RecF pc G c) (hH : ∀ c, c < 384 → RecB G H c) : ∀ n c, c < 384 → 384 ≤ c + n → ¬ c < 24 → H c ≤ H (c - 24) + 1 := by
  intro n
  induction n with
  | zero => intro c hc h; omega
  | succ n ih =>
    intro c hc hn h0
    have e1 : H (c - 24) = min (G (c - 24)) (min (sf H (bes (c - 24) 1)) (sf H (bes (c - 24) 3))) := hH (c - 24) (by omega)
    have e2 : H c = min (G c) (min (sf H (bes c 1)) (sf H (bes c 3))) := hH c hc
    have e3 : G c ≤ G (c - 24) + 1 := by
      have e : G c = if pc c = true then 0 else min (sf G (bes c 0)) (sf G (bes c 2)) := hG c hc
      rw [bes2, if_neg h0, show sf G (some (c - 24)) = G (c - 24) + 1 from rfl] at e
      rw [e]
      split <;> omega
    have e4 : sf H (bes (c - 24) 3) = H c + 1 := by
      rw [bes3, if_neg (by omega), show c - 24 + 24 = c by omega]; rfl
    rw [e4] at e1
    by_cases h3 : c % 24 = 23
    · rw [bes1, if_pos (by omega), show sf H none = 99 from rfl] at e1
      rw [show bes c 1 = none by rw [bes1, if_pos h3], show sf H none = 99 from rfl] at e2
      omega
    · rw [bes1, if_neg (by omega), show sf H (some (c - 24 + 1)) = H (c - 24 + 1) + 1 from rfl] at e1
      rw [show bes c 1 = some (c + 1) by rw [bes1, if_neg h3], show sf H (some (c + 1)) = H (c + 1) + 1 from rfl] at e2
      have := ih (c + 1) (by omega) (by omega) (by omega)
      rw [show c + 1 - 24 = c - 24 + 1 by omega] at this
      omega
theorem GH_lip (hG : ∀ c, c < 384 → RecF pc G c) (hH : ∀ c, c < 384 → RecB G H c) : Lip H := by
  intro c s n hc hs hb
  have e2 : H c = min (G c) (min (sf H (bes c 1)) (sf H (bes c 3))) := hH c hc
  rcases s4 hs with z | z | z | z <;> subst z
  · have := bes0_lt hb
    have h0 : c % 24 ≠ 0 := fun q => by rw [bes0, if_pos q] at hb; cases hb
    have := GH_left hG hH 384 c hc (by omega) h0
    rw [show n = c - 1 by omega]; exact this
  · rw [hb, show sf H (some n) = H n + 1 from rfl] at e2
    omega
  · have := bes2_lt hb
    have := GH_up hG hH 384 c hc (by omega) (by omega)
    rw [show n = c - 24 by omega]; exact this
  · rw [hb, show sf H (some n) = H n + 1 from rfl] at e2
    omega
theorem GH_isD (hG : ∀ c, c < 384 → RecF pc G c) (hH : ∀ c, c < 384 → RecB G H c) {a : Nat} (ha : a < 384) (hpa : pc a = true) : IsD pc H := by
  have lip := GH_lip hG hH
  have sfp : ∀ (F : Nat → Nat) q, 0 < sf F q := fun F q => by
    cases q with
    | none => show 0 < 99; omega
    | some n => show 0 < F n + 1; omega
  have z : ∀ c, c < 384 → (H c = 0 ↔ pc c = true) := by
    intro c hc
    have e2 : H c = min (G c) (min (sf H (bes c 1)) (sf H (bes c 3))) := hH c hc
    have e : G c = if pc c = true then 0 else min (sf G (bes c 0)) (sf G (bes c 2)) := hG c hc
    have p1 := sfp H (bes c 1)
    have p2 := sfp H (bes c 3)
    have p3 := sfp G (bes c 0)
    have p4 := sfp G (bes c 2)
    constructor
    · intro h
      cases hb : pc c
      · rw [hb, if_neg (by decide)] at e
        omega
      · rfl
    · intro h
      rw [if_pos h] at e
      omega
  have b38 : ∀ c, c < 384 → H c ≤ 38 := fun c hc => by
    have := lip.b ha hc
    have := (z a ha).mpr hpa
    omega
  refine ⟨z, lip, b38, fun c hc hp => ?_⟩
  have e2 : H c = min (G c) (min (sf H (bes c 1)) (sf H (bes c 3))) := hH c hc
  have hb := b38 c hc
  have e : G c = if pc c = true then 0 else min (sf G (bes c 0)) (sf G (bes c 2)) := hG c hc
  rcases (by omega : H c = sf H (bes c 1) ∨ H c = sf H (bes c 3) ∨ H c = G c) with q | q | q
  · cases hs : bes c 1 with
    | none => rw [hs] at q; have : H c = 99 := q; omega
    | some n => rw [hs] at q; exact ⟨1, n, by omega, hs, q.symm⟩
  · cases hs : bes c 3 with
    | none => rw [hs] at q; have : H c = 99 := q; omega
    | some n => rw [hs] at q; exact ⟨3, n, by omega, hs, q.symm⟩
  · have hle : ∀ n, n < 384 → H n ≤ G n := fun n hn => by
      have : H n = min (G n) (min (sf H (bes n 1)) (sf H (bes n 3))) := hH n hn
      omega
    cases hpc : pc c
    · rw [hpc, if_neg (by decide)] at e
      rcases (by omega : G c = sf G (bes c 0) ∨ G c = sf G (bes c 2)) with w | w
      · cases hs : bes c 0 with
        | none => rw [hs] at w; have : G c = 99 := w; omega
        | some n =>
          rw [hs] at w
          have w' : G c = G n + 1 := w
          have := hle n (by have := bes0_lt hs; omega)
          have := lip c 0 n hc (by omega) hs
          exact ⟨0, n, by omega, hs, by omega⟩
      · cases hs : bes c 2 with
        | none => rw [hs] at w; have : G c = 99 := w; omega
        | some n =>
          rw [hs] at w
          have w' : G c = G n + 1 := w
          have := hle n (by have := bes2_lt hs; omega)
          have := lip c 2 n hc (by omega) hs
          exact ⟨2, n, by omega, hs, by omega⟩
    · have := (z c hc).mpr hpc
      omega
end
/-! the class measures -/
theorem c_stepsFrom {x c s : Nat} {F : Nat → Nat} {T : Sh} {M : Me} (hp : PX x T M) (hc : c < 384) (hs : s < 4) (hF : ∀ n, bes c s = some n → gI M (x + 21) n = nI (F n)) : fX7_stepsFrom T M (x + 19) (nI c) (nI s) = some (nI (sf F (bes c s))) := by
  unfold fX7_stepsFrom
  rw [c_beside hc hs, Option.bind_some]
  cases hb : bes c s with
  | none => rw [if_pos (show iN none = (-1 : Int32) from rfl)]; rfl
  | some n =>
    have hn := bes_b hc hs hb
    rw [if_neg (iN_m1 (by omega))]
    show gd (kd T (x + 19) = 6) ((gR M (x + 19) 1).bind fun a4 => gd (kd T a4 = 13) (gv (nI n) (ln T a4) (some (gI M a4 (Int32.toNatClampNeg (nI n)) + 1)))) = _
    simp (disch := omega) only [gdI, gdT, Option.bind_some, lte, une2, une3, nI_add, gvI, cl_nI, c_le, c_lt, c_eq, Sum.elim_inl, Sum.elim_inr, hp.k19, hp.k20, hp.l20, hp.k21, hp.l21, hp.k22, hp.l22, hp.r19_0, hp.r19_1, hp.r19_2, hF n hb, nI_1]
    rfl
theorem sf_b {F : Nat → Nat} {N : Nat} {q : Option Nat} (h : ∀ n, q = some n → F n ≤ N) : sf F q ≤ N + 100 := by
  cases q with
  | none => show 99 ≤ N + 100; omega
  | some n => have := h n rfl; show F n + 1 ≤ N + 100; omega
theorem c_measureSteps {x : Nat} {pm : Nat → Nat → Bool} {G H : Nat → Nat} {T : Sh} {M : Me} (hp : PX x T M) (hg : MP (x + 20) (mr pm) M) (hG : ∀ c, c < 384 → RecF (pmc pm) G c) (hH : ∀ c, c < 384 → RecB G H c) : Ok (fX7_measureSteps T M (x + 19)) (fun p => (∀ c, c < 384 → gI p.2 (x + 21) c = nI (H c)) ∧ FX (fun a _ => a = x + 21) M p.2) := by
  have hGb := G_b hG
  have hHb : ∀ c, c < 384 → H c ≤ 483 := fun c hc => by
    have e : H c = min (G c) (min (sf H (bes c 1)) (sf H (bes c 3))) := hH c hc
    have := hGb c hc
    omega
  unfold fX7_measureSteps
  refine Ok.bd (ok_forF (s := ((0 : Int32), M)) 0 384 (fun i s => ∃ M', s = (nI i, M') ∧ (∀ c, c < i → gI M' (x + 21) c = nI (G c)) ∧ FX (fun a _ => a = x + 21) M M') (fun M' => (∀ c, c < 384 → gI M' (x + 21) c = nI (G c)) ∧ FX (fun a _ => a = x + 21) M M') ⟨M, rfl, fun c hc => absurd hc (by omega), FX.rfl⟩ (by omega) (by omega) (fun i s _ hi hI => ?_) (fun s hI => ?_)) (fun M1 hM1 => ?_)
  · obtain ⟨M', rfl, hm, f⟩ := hI
    have hp' := hp.eq f.r
    have hg' := hg.fx f (fun j => by omega)
    have e : G i = if pmc pm i = true then 0 else min (sf G (bes i 0)) (sf G (bes i 2)) := hG i hi
    have s0 := sf_b (F := G) (N := 483) (q := bes i 0) (fun n hn => by have := bes0_lt hn; have := hGb n (by omega); omega)
    have s2 := sf_b (F := G) (N := 483) (q := bes i 2) (fun n hn => by have := bes2_lt hn; have := hGb n (by omega); omega)
    show Ok (bX7_measureSteps_2 T (x + 19) (nI i) M') _
    unfold bX7_measureSteps_2
    rw [i_384, if_neg (by rw [c_le (by omega) (by omega)]; omega), i_0, i_2, c_stepsFrom (F := G) hp' hi (by omega) (fun n hn => hm n (by have := bes0_lt hn; omega)), c_stepsFrom (F := G) hp' hi (by omega) (fun n hn => hm n (by have := bes2_lt hn; omega)), c_has hp' hg' hi]
    simp (disch := omega) only [gdI, gdT, Option.bind_some, lte, une2, une3, nI_add, gvI, cl_nI, c_le, c_lt, c_eq, Sum.elim_inl, Sum.elim_inr, hp'.k19, hp'.k20, hp'.l20, hp'.k21, hp'.l21, hp'.k22, hp'.l22, hp'.r19_0, hp'.r19_1, hp'.r19_2, min_at, nI_1]
    have fin : ∀ v, G i = v → ∃ M2, ((nI (i + 1), pI M' (x + 21) i (nI v)) : Int32 × Me) = (nI (i + 1), M2) ∧ (∀ c, c < i + 1 → gI M2 (x + 21) c = nI (G c)) ∧ FX (fun a _ => a = x + 21) M M2 := fun v hv => ⟨_, rfl, fun c hc => by
      by_cases q : c = i
      · rw [q, mII1, hv]
      · rw [mIIk q]; exact hm c (by omega), f.pI rfl⟩
    cases hb : pmc pm i
    · rw [hb, if_neg (by decide)] at e
      rw [if_pos (by decide)]
      exact ok_i (fin _ e)
    · rw [hb, if_pos rfl] at e
      rw [if_neg (by decide)]
      exact ok_i (fin _ e)
  · obtain ⟨M', rfl, hm, f⟩ := hI
    show Ok (bX7_measureSteps_2 T (x + 19) (nI 384) M') _
    unfold bX7_measureSteps_2
    rw [i_384, if_pos (by decide)]
    exact ok_i ⟨hm, f⟩
  obtain ⟨hm1, f1⟩ := hM1
  refine Ok.bd (ok_forF (s := ((383 : Int32), M1)) 0 384 (fun i s => ∃ M', s = ((if i = 384 then (-1 : Int32) else nI (383 - i)), M') ∧ (∀ c, c < 384 → 384 ≤ c + i → gI M' (x + 21) c = nI (H c)) ∧ (∀ c, c + i < 384 → gI M' (x + 21) c = nI (G c)) ∧ FX (fun a _ => a = x + 21) M M') (fun M' => (∀ c, c < 384 → gI M' (x + 21) c = nI (H c)) ∧ FX (fun a _ => a = x + 21) M M') ⟨M1, rfl, fun c hc h => absurd h (by omega), fun c hc => hm1 c (by omega), f1⟩ (by omega) (by omega) (fun i s _ hi hI => ?_) (fun s hI => ?_)) (fun M2 hM2 => ok_i hM2)
  · obtain ⟨M', rfl, hh, hm, f⟩ := hI
    have hp' := hp.eq f.r
    have hi' : 383 - i < 384 := by omega
    have e : H (383 - i) = min (G (383 - i)) (min (sf H (bes (383 - i) 1)) (sf H (bes (383 - i) 3))) := hH (383 - i) hi'
    have s1 := sf_b (F := H) (N := 483) (q := bes (383 - i) 1) (fun n hn => hHb n (bes_b hi' (by omega) hn))
    have s3 := sf_b (F := H) (N := 483) (q := bes (383 - i) 3) (fun n hn => hHb n (bes_b hi' (by omega) hn))
    have gb := hGb (383 - i) hi'
    show Ok (bX7_measureSteps_52 T (x + 19) (if i = 384 then (-1 : Int32) else nI (383 - i)) M') _
    rw [if_neg (by omega)]
    unfold bX7_measureSteps_52
    rw [if_neg (i_neg _ (by omega)), i_1, i_3, c_stepsFrom (F := H) hp' hi' (by omega) (fun n hn => hh n (bes_b hi' (by omega) hn) (by have := bes1_gt hn; omega)), c_stepsFrom (F := H) hp' hi' (by omega) (fun n hn => hh n (bes_b hi' (by omega) hn) (by have := bes3_gt hn; omega))]
    simp (disch := omega) only [gdI, gdT, Option.bind_some, lte, une2, une3, nI_add, gvI, cl_nI, c_le, c_lt, c_eq, Sum.elim_inl, Sum.elim_inr, hp'.k19, hp'.k20, hp'.l20, hp'.k21, hp'.l21, hp'.k22, hp'.l22, hp'.r19_0, hp'.r19_1, hp'.r19_2, min_at, hm (383 - i) (by omega)]
    have e9 : nI (383 - i) + -nI 1 = if i + 1 = 384 then (-1 : Int32) else nI (383 - (i + 1)) := by
      by_cases q : i + 1 = 384
      · rw [if_pos q, show 383 - i = 0 by omega]; rfl
      · rw [if_neg q, show 383 - i = (383 - (i + 1)) + 1 by omega]
        exact i_m1 _
    rw [← e, e9]
    refine ok_i ⟨_, rfl, fun c hc h => ?_, fun c hc => ?_, f.pI rfl⟩
    · by_cases q : c = 383 - i
      · rw [q, mII1]
      · rw [mIIk q]; exact hh c hc (by omega)
    · rw [mIIk (by omega)]; exact hm c (by omega)
  · obtain ⟨M', rfl, hh, hm, f⟩ := hI
    show Ok (bX7_measureSteps_52 T (x + 19) (-1 : Int32) M') _
    unfold bX7_measureSteps_52
    rw [if_pos (by decide)]
    exact ok_i ⟨fun c hc => hh c hc (by omega), f⟩
