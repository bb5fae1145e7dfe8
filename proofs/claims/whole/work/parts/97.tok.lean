/-! tokens of a text -/
def adv (P : Nat → Bool) : Nat → Nat → Nat
  | 0, p => p
  | k + 1, p => if P p = true then adv P k (p + 1) else p
/-- as far as P goes on, n at most -/
def aw (P : Nat → Bool) (n p : Nat) : Nat := adv P (n - p) p
theorem adv_sp (P : Nat → Bool) : ∀ k p, p ≤ adv P k p ∧ adv P k p ≤ p + k ∧ (∀ j, p ≤ j → j < adv P k p → P j = true) ∧ (adv P k p < p + k → P (adv P k p) = false)
  | 0, p => ⟨Nat.le_refl _, Nat.le_refl _, fun j h1 h2 => by have h2 : j < p := h2; omega, fun h => by have h : p < p + 0 := h; omega⟩
  | k + 1, p => by
    obtain ⟨h1, h2, h3, h4⟩ := adv_sp P k (p + 1)
    unfold adv
    by_cases h : P p = true
    · rw [if_pos h]
      refine ⟨by omega, by omega, fun j a b => ?_, fun a => h4 (by omega)⟩
      by_cases e : j = p
      · rw [e]; exact h
      · exact h3 j (by omega) b
    · rw [if_neg h]
      exact ⟨Nat.le_refl _, by omega, fun j a b => by omega, fun _ => by cases e : P p <;> simp_all⟩
theorem aw_sp (P : Nat → Bool) {n p : Nat} (h : p ≤ n) : p ≤ aw P n p ∧ aw P n p ≤ n ∧ (∀ j, p ≤ j → j < aw P n p → P j = true) ∧ (aw P n p < n → P (aw P n p) = false) := by
  obtain ⟨h1, h2, h3, h4⟩ := adv_sp P (n - p) p
  exact ⟨h1, by unfold aw; omega, h3, fun q => h4 (by unfold aw at q; omega)⟩
theorem aw_eq {P : Nat → Bool} {n p e : Nat} (h1 : p ≤ e) (h2 : e ≤ n) (h3 : ∀ j, p ≤ j → j < e → P j = true) (h4 : e < n → P e = false) : aw P n p = e := by
  obtain ⟨k1, k2, k3, k4⟩ := aw_sp P (n := n) (p := p) (by omega)
  rcases Nat.lt_trichotomy (aw P n p) e with q | q | q
  · have a := k4 (by omega)
    rw [h3 _ k1 q] at a; cases a
  · exact q
  · have a := h4 (by omega)
    rw [k3 _ h1 q] at a; cases a
def isS (c : Nat) : Bool := decide (97 ≤ c ∧ c ≤ 122)
def isD (c : Nat) : Bool := decide (48 ≤ c ∧ c ≤ 57)
def isB (c : Nat) : Bool := decide (c = 10 ∨ c = 32)
def kw : List (List Nat) := [[108, 97, 98], [97, 115, 112, 101, 99, 116], [104, 111, 108, 100], [108, 97, 110, 101], [97, 116], [108, 101, 118, 101, 108], [119, 105, 100, 101], [104, 105, 103, 104], [112, 97, 116, 116, 101, 114, 110], [112, 97, 115, 115, 101, 115], [101, 100, 103, 101], [100, 114, 105, 102, 116, 115], [105, 102], [116, 104, 101, 110], [101, 108, 115, 101], [101, 110, 100], [100, 101, 108, 97, 121], [115, 116, 114, 101, 115, 115], [100, 114, 105, 102, 116], [116, 105, 109, 101], [97, 110, 100], [111, 114], [110, 111, 116]]
def wkF : List (List Nat) → Nat → List Nat → Nat
  | [], _, _ => 24
  | w :: ws, k, L => if L = w then k else wkF ws (k + 1) L
def wk (L : List Nat) : Nat := wkF kw 0 L
def bs (b : Nat → Nat) (a e : Nat) : List Nat := (List.range (e - a)).map (fun j => b (a + j))
def sc (k : Nat) : Nat := [59, 58, 43, 45, 42, 40, 41, 91, 93, 61, 60, 62].getD k 0
def sgf (c : Nat) : Nat → Nat
  | 0 => 27
  | k + 1 => if c = sc k then 30 + k else sgf c k
def sg (c : Nat) : Nat := sgf c 12
def vl (b : Nat → Nat) (a : Nat) : Nat → Nat
  | 0 => 0
  | k + 1 => 10 * vl b a k + (b (a + k) - 48)
/-- the token behind p: its kind, its place, its value, where it ends -/
def tkq (b : Nat → Nat) (n p : Nat) : Nat × Nat × Nat × Nat :=
  if n ≤ aw (fun j => isB (b j)) n p then (26, aw (fun j => isB (b j)) n p, 0, aw (fun j => isB (b j)) n p)
  else if isS (b (aw (fun j => isB (b j)) n p)) = true then (wk (bs b (aw (fun j => isB (b j)) n p) (aw (fun j => isS (b j)) n (aw (fun j => isB (b j)) n p))), aw (fun j => isB (b j)) n p, 0, aw (fun j => isS (b j)) n (aw (fun j => isB (b j)) n p))
  else if isD (b (aw (fun j => isB (b j)) n p)) = true then ((if 3 < aw (fun j => isD (b j)) n (aw (fun j => isB (b j)) n p) - aw (fun j => isB (b j)) n p then 27 else 25), aw (fun j => isB (b j)) n p, vl b (aw (fun j => isB (b j)) n p) (min 3 (aw (fun j => isD (b j)) n (aw (fun j => isB (b j)) n p) - aw (fun j => isB (b j)) n p)), aw (fun j => isD (b j)) n (aw (fun j => isB (b j)) n p))
  else (sg (b (aw (fun j => isB (b j)) n p)), aw (fun j => isB (b j)) n p, 0, aw (fun j => isB (b j)) n p + 1)
def te (b : Nat → Nat) (n : Nat) : Nat → Nat
  | 0 => 0
  | i + 1 => (tkq b n (te b n i)).2.2.2
def tK (b : Nat → Nat) (n i : Nat) : Nat := (tkq b n (te b n i)).1
def tP (b : Nat → Nat) (n i : Nat) : Nat := (tkq b n (te b n i)).2.1
def tV (b : Nat → Nat) (n i : Nat) : Nat := (tkq b n (te b n i)).2.2.1
theorem tkq_end {b : Nat → Nat} {n p : Nat} (h : aw (fun j => isB (b j)) n p = n) : tkq b n p = (26, n, 0, n) := by
  unfold tkq
  rw [h, if_pos (Nat.le_refl _)]
theorem tkq_w {b : Nat → Nat} {n p a : Nat} (h : aw (fun j => isB (b j)) n p = a) (ha : a < n) (hs : isS (b a) = true) : tkq b n p = (wk (bs b a (aw (fun j => isS (b j)) n a)), a, 0, aw (fun j => isS (b j)) n a) := by
  unfold tkq
  rw [h, if_neg (by omega), if_pos hs]
theorem tkq_d {b : Nat → Nat} {n p a : Nat} (h : aw (fun j => isB (b j)) n p = a) (ha : a < n) (hs : isS (b a) = false) (hd : isD (b a) = true) : tkq b n p = ((if 3 < aw (fun j => isD (b j)) n a - a then 27 else 25), a, vl b a (min 3 (aw (fun j => isD (b j)) n a - a)), aw (fun j => isD (b j)) n a) := by
  unfold tkq
  rw [h, if_neg (by omega), if_neg (by rw [hs]; decide), if_pos hd]
theorem tkq_s {b : Nat → Nat} {n p a : Nat} (h : aw (fun j => isB (b j)) n p = a) (ha : a < n) (hs : isS (b a) = false) (hd : isD (b a) = false) : tkq b n p = (sg (b a), a, 0, a + 1) := by
  unfold tkq
  rw [h, if_neg (by omega), if_neg (by rw [hs]; decide), if_neg (by rw [hd]; decide)]
theorem wkF_b : ∀ (ws : List (List Nat)) (k : Nat) (L : List Nat), wkF ws k L = 24 ∨ (k ≤ wkF ws k L ∧ wkF ws k L < k + ws.length)
  | [], _, _ => Or.inl rfl
  | w :: ws, k, L => by
    unfold wkF
    by_cases h : L = w
    · rw [if_pos h]; right; simp only [List.length_cons]; omega
    · rw [if_neg h]
      rcases wkF_b ws (k + 1) L with q | q
      · exact Or.inl q
      · right; simp only [List.length_cons]; omega
theorem wk_b (L : List Nat) : wk L = 24 ∨ wk L < 23 := by
  rcases wkF_b kw 0 L with h | ⟨_, h⟩
  · exact Or.inl h
  · right
    have e : kw.length = 23 := by decide
    unfold wk; omega
theorem sgf_b (c : Nat) : ∀ k, k ≤ 12 → sgf c k = 27 ∨ (30 ≤ sgf c k ∧ sgf c k < 42)
  | 0, _ => Or.inl rfl
  | k + 1, h => by
    unfold sgf
    split
    · right; omega
    · exact sgf_b c k (by omega)
/-- kinds there are -/
def vk (k : Nat) : Prop := k < 23 ∨ (24 ≤ k ∧ k ≤ 27) ∨ (30 ≤ k ∧ k < 42)
theorem tkq_sp {b : Nat → Nat} {n p : Nat} (hp : p ≤ n) : vk (tkq b n p).1 ∧ p ≤ (tkq b n p).2.1 ∧ (tkq b n p).2.1 ≤ (tkq b n p).2.2.2 ∧ (tkq b n p).2.2.2 ≤ n ∧ ((tkq b n p).1 ≠ 26 → (tkq b n p).2.1 < (tkq b n p).2.2.2) := by
  obtain ⟨h1, h2, h3, h4⟩ := aw_sp (fun j => isB (b j)) hp
  rcases Nat.lt_or_ge (aw (fun j => isB (b j)) n p) n with q | q
  · cases hs : isS (b (aw (fun j => isB (b j)) n p)) with
    | true =>
      rw [tkq_w rfl q hs]
      obtain ⟨k1, k2, k3, k4⟩ := aw_sp (fun j => isS (b j)) (p := aw (fun j => isB (b j)) n p) h2
      have k5 : aw (fun j => isB (b j)) n p < aw (fun j => isS (b j)) n (aw (fun j => isB (b j)) n p) := by
        rcases Nat.lt_or_ge (aw (fun j => isB (b j)) n p) (aw (fun j => isS (b j)) n (aw (fun j => isB (b j)) n p)) with z | z
        · exact z
        · have e : aw (fun j => isS (b j)) n (aw (fun j => isB (b j)) n p) = aw (fun j => isB (b j)) n p := by omega
          have y := k4 (by omega)
          rw [e, hs] at y; cases y
      refine ⟨?_, h1, k1, k2, fun _ => k5⟩
      unfold vk
      have := wk_b (bs b (aw (fun j => isB (b j)) n p) (aw (fun j => isS (b j)) n (aw (fun j => isB (b j)) n p)))
      simp only
      omega
    | false =>
      cases hd : isD (b (aw (fun j => isB (b j)) n p)) with
      | true =>
        rw [tkq_d rfl q hs hd]
        obtain ⟨k1, k2, k3, k4⟩ := aw_sp (fun j => isD (b j)) (p := aw (fun j => isB (b j)) n p) h2
        have k5 : aw (fun j => isB (b j)) n p < aw (fun j => isD (b j)) n (aw (fun j => isB (b j)) n p) := by
          rcases Nat.lt_or_ge (aw (fun j => isB (b j)) n p) (aw (fun j => isD (b j)) n (aw (fun j => isB (b j)) n p)) with z | z
          · exact z
          · have e : aw (fun j => isD (b j)) n (aw (fun j => isB (b j)) n p) = aw (fun j => isB (b j)) n p := by omega
            have y := k4 (by omega)
            rw [e, hd] at y; cases y
        refine ⟨?_, h1, k1, k2, fun _ => k5⟩
        unfold vk
        simp only
        split <;> omega
      | false =>
        rw [tkq_s rfl q hs hd]
        refine ⟨?_, h1, Nat.le_succ _, q, fun _ => Nat.lt_succ_self _⟩
        unfold vk
        have := sgf_b (b (aw (fun j => isB (b j)) n p)) 12 (Nat.le_refl _)
        simp only
        unfold sg
        omega
  · rw [tkq_end (by omega)]
    exact ⟨by unfold vk; omega, hp, Nat.le_refl _, Nat.le_refl _, fun z => absurd rfl z⟩
section
variable {b : Nat → Nat} {n : Nat}
theorem te_le : ∀ i, te b n i ≤ n
  | 0 => Nat.zero_le _
  | i + 1 => (tkq_sp (te_le i)).2.2.2.1
theorem tK_v (i : Nat) : vk (tK b n i) := (tkq_sp (te_le i)).1
theorem tP_le (i : Nat) : tP b n i ≤ n := by
  obtain ⟨_, _, h3, h4, _⟩ := tkq_sp (b := b) (te_le (b := b) (n := n) i)
  unfold tP; omega
theorem te_lt (i : Nat) (h : tK b n i ≠ 26) : te b n i < te b n (i + 1) := by
  obtain ⟨_, h2, h3, h4, h5⟩ := tkq_sp (b := b) (te_le (b := b) (n := n) i)
  have := h5 h
  show te b n i < (tkq b n (te b n i)).2.2.2
  omega
theorem te_ge : ∀ i, (∀ j, j < i → tK b n j ≠ 26) → i ≤ te b n i
  | 0, _ => Nat.le_refl _
  | i + 1, h => by
    have h1 := te_ge i (fun j hj => h j (by omega))
    have h2 := te_lt i (h i (by omega))
    omega
/-- how many there are ahead of the end, or of what none is -/
theorem tN_ex (b : Nat → Nat) (n : Nat) : ∃ N, N ≤ n ∧ (∀ j, j < N → tK b n j ≠ 26 ∧ tK b n j ≠ 27) ∧ (tK b n N = 26 ∨ tK b n N = 27) := by
  obtain ⟨J, h1, h2, h3⟩ := exJ (fun i => tK b n i ≠ 26 ∧ tK b n i ≠ 27) (n + 1)
  by_cases q : J < n + 1
  · refine ⟨J, by omega, h2, ?_⟩
    have h4 := h3 q
    by_cases z : tK b n J = 26
    · exact Or.inl z
    · by_cases y : tK b n J = 27
      · exact Or.inr y
      · exact absurd ⟨z, y⟩ h4
  · have e := te_ge (b := b) (n := n) J (fun j hj => (h2 j hj).1)
    have := te_le (b := b) (n := n) J
    omega
end
/-- kinds of the class -/
def ckN (k : Nat) : Nat := [206, 207, 208, 202, 209, 201, 210, 211, 212, 213, 214, 215, 216, 217, 218, 219, 200, 203, 204, 205, 221, 220, 222, 0, 223, 1, 0, 0, 0, 0, 59, 58, 43, 45, 42, 40, 41, 91, 93, 61, 60, 62].getD k 0
def ck (k : Nat) : Int32 := if k = 27 then -1 else nI (ckN k)
theorem ck_inj' : ∀ k, k < 42 → ∀ j, j < 42 → (ck k ≠ ck j ∨ k = j ∨ k = 23 ∨ k = 28 ∨ k = 29 ∨ j = 23 ∨ j = 28 ∨ j = 29) := by decide +kernel
theorem ck_inj (k : Nat) (hk : k < 42) (j : Nat) (hj : j < 42) (h1 : k ≠ 23 ∧ k ≠ 28 ∧ k ≠ 29) (h2 : j ≠ 23 ∧ j ≠ 28 ∧ j ≠ 29) (e : ck k = ck j) : k = j := by
  rcases ck_inj' k hk j hj with q | q
  · exact absurd e q
  · omega
theorem vk_42 {k : Nat} (h : vk k) : k < 42 ∧ (k ≠ 23 ∧ k ≠ 28 ∧ k ≠ 29) := by unfold vk at h; omega
theorem ck_if {α : Type} {k j : Nat} {u v : α} (hk : vk k) (hj : vk j) : (if ck k = ck j then u else v) = if k = j then u else v := by
  by_cases h : k = j
  · rw [if_pos h, if_pos (by rw [h])]
  · rw [if_neg h, if_neg (fun e => h (ck_inj k (vk_42 hk).1 j (vk_42 hj).1 (vk_42 hk).2 (vk_42 hj).2 e))]
theorem ck_m2 : ∀ k, k < 42 → ck k ≠ -2 := by decide +kernel
