/-! loops step by step -/
theorem lp_inl {σ ρ : Type} {b : σ → Option (σ ⊕ ρ)} {s s' : σ} {n : Nat} (h : b s = some (.inl s')) : lp (n + 1) b s = lp n b s' := by rw [lp, h]
theorem lp_inr {σ ρ : Type} {b : σ → Option (σ ⊕ ρ)} {s : σ} {r : ρ} {n : Nat} (h : b s = some (.inr r)) : lp (n + 1) b s = some r := by rw [lp, h]
/-- a loop whose states are known -/
theorem lp_it {σ ρ : Type} {b : σ → Option (σ ⊕ ρ)} (st : Nat → σ) (e : Nat) (r : ρ) (h : ∀ i, i < e → b (st i) = some (.inl (st (i + 1)))) (hx : b (st e) = some (.inr r)) : ∀ (n i : Nat), i ≤ e → e - i < n → lp n b (st i) = some r := by
  intro n
  induction n with
  | zero => intro i _ h; omega
  | succ n ih =>
    intro i hi hm
    rcases Nat.lt_or_ge i e with q | q
    · rw [lp_inl (h i q)]
      exact ih (i + 1) (by omega) (by omega)
    · obtain rfl : i = e := by omega
      exact lp_inr hx
theorem lp_itF {σ ρ : Type} {b : σ → Option (σ ⊕ ρ)} (st : Nat → σ) (e : Nat) (r : ρ) (he : e < 1000000) (h : ∀ i, i < e → b (st i) = some (.inl (st (i + 1)))) (hx : b (st e) = some (.inr r)) : lp FU b (st 0) = some r := lp_it st e r h hx FU 0 (by omega) (by show e - 0 < 1000000; omega)
/-- for i from a to e -/
theorem ok_forF {σ ρ : Type} {b : σ → Option (σ ⊕ ρ)} {s : σ} (a e : Nat) (I : Nat → σ → Prop) (Q : ρ → Prop) (h0 : I a s) (hae : a ≤ e) (he : e < 1000000) (hs : ∀ i s, a ≤ i → i < e → I i s → Ok (b s) (fun o => match o with | .inl s' => I (i + 1) s' | .inr r => Q r)) (hx : ∀ s, I e s → Ok (b s) (fun o => match o with | .inl _ => False | .inr r => Q r)) : Ok (lp FU b s) Q :=
  ok_for e (fun i s => a ≤ i ∧ I i s) Q (fun i s hi hI => Ok.mono (hs i s hI.1 hi hI.2) (fun o ho => by
    cases o with
    | inl s' => exact ⟨by omega, ho⟩
    | inr r => exact ho)) (fun s hI => hx s hI.2) FU a s hae ⟨Nat.le_refl _, h0⟩ (by show e - a < 1000000; omega)
/-! numbers -/
theorem c_le {a b : Nat} (ha : a < 2147483648) (hb : b < 2147483648) : (nI a ≤ nI b) = (a ≤ b) := propext (nI_leI ha hb)
theorem c_lt {a b : Nat} (ha : a < 2147483648) (hb : b < 2147483648) : (nI a < nI b) = (a < b) := propext (nI_ltI ha hb)
theorem c_eq {a b : Nat} (ha : a < 2147483648) (hb : b < 2147483648) : (nI a = nI b) = (a = b) := propext (nI_eq ha hb)
theorem c_sub {a b : Nat} (h : b ≤ a) : nI a - nI b = nI (a - b) := by
  obtain ⟨c, rfl⟩ : ∃ c, a = b + c := ⟨a - b, by omega⟩
  rw [← nI_add, Nat.add_sub_cancel_left]
  apply Int32.toBitVec_inj.mp
  rw [Int32.toBitVec_sub, Int32.toBitVec_add, BitVec.add_comm, BitVec.add_sub_cancel]
theorem c_mul (a b : Nat) : nI a * nI b = nI (a * b) := (Int32.ofNat_mul a b).symm
theorem c_rem {a d : Nat} (ha : a < 2147483648) (h0 : 0 < d) (hd : d < 2147483648) : nI a - nI a / nI d * nI d = nI (a % d) := pk_rem ha h0 hd
theorem c_remQ {a d : Nat} (ha : a < 2147483648) (h0 : 0 < d) (hd : d < 2147483648) : nI a - nI (a / d) * nI d = nI (a % d) := by rw [← pk_div ha h0 hd]; exact pk_rem ha h0 hd
theorem c_div {a d : Nat} (ha : a < 2147483648) (h0 : 0 < d) (hd : d < 2147483648) : nI a / nI d = nI (a / d) := pk_div ha h0 hd
theorem i_0 : (0 : Int32) = nI 0 := Eq.trans rfl rfl
theorem i_1 : (1 : Int32) = nI 1 := Eq.trans rfl rfl
theorem i_2 : (2 : Int32) = nI 2 := Eq.trans rfl rfl
theorem i_3 : (3 : Int32) = nI 3 := Eq.trans rfl rfl
theorem i_4 : (4 : Int32) = nI 4 := Eq.trans rfl rfl
theorem i_5 : (5 : Int32) = nI 5 := Eq.trans rfl rfl
theorem i_6 : (6 : Int32) = nI 6 := Eq.trans rfl rfl
theorem i_8 : (8 : Int32) = nI 8 := Eq.trans rfl rfl
theorem i_9 : (9 : Int32) = nI 9 := Eq.trans rfl rfl
theorem i_10 : (10 : Int32) = nI 10 := Eq.trans rfl rfl
theorem i_15 : (15 : Int32) = nI 15 := Eq.trans rfl rfl
theorem i_16 : (16 : Int32) = nI 16 := Eq.trans rfl rfl
theorem i_23 : (23 : Int32) = nI 23 := Eq.trans rfl rfl
theorem i_24 : (24 : Int32) = nI 24 := Eq.trans rfl rfl
theorem i_26 : (26 : Int32) = nI 26 := Eq.trans rfl rfl
theorem i_40 : (40 : Int32) = nI 40 := Eq.trans rfl rfl
theorem i_42 : (42 : Int32) = nI 42 := Eq.trans rfl rfl
theorem i_99 : (99 : Int32) = nI 99 := Eq.trans rfl rfl
theorem i_100 : (100 : Int32) = nI 100 := Eq.trans rfl rfl
theorem i_360 : (360 : Int32) = nI 360 := Eq.trans rfl rfl
theorem i_384 : (384 : Int32) = nI 384 := Eq.trans rfl rfl
theorem i_999 : (999 : Int32) = nI 999 := Eq.trans rfl rfl
theorem i_7 : (7 : Int32) = nI 7 := Eq.trans rfl rfl
theorem i_11 : (11 : Int32) = nI 11 := Eq.trans rfl rfl
theorem i_12 : (12 : Int32) = nI 12 := Eq.trans rfl rfl
theorem i_13 : (13 : Int32) = nI 13 := Eq.trans rfl rfl
theorem i_14 : (14 : Int32) = nI 14 := Eq.trans rfl rfl
theorem i_17 : (17 : Int32) = nI 17 := Eq.trans rfl rfl
theorem i_18 : (18 : Int32) = nI 18 := Eq.trans rfl rfl
theorem i_19 : (19 : Int32) = nI 19 := Eq.trans rfl rfl
theorem i_20 : (20 : Int32) = nI 20 := Eq.trans rfl rfl
theorem i_25 : (25 : Int32) = nI 25 := Eq.trans rfl rfl
theorem i_29 : (29 : Int32) = nI 29 := Eq.trans rfl rfl
theorem i_30 : (30 : Int32) = nI 30 := Eq.trans rfl rfl
theorem i_31 : (31 : Int32) = nI 31 := Eq.trans rfl rfl
theorem i_32 : (32 : Int32) = nI 32 := Eq.trans rfl rfl
theorem i_38 : (38 : Int32) = nI 38 := Eq.trans rfl rfl
theorem i_48 : (48 : Int32) = nI 48 := Eq.trans rfl rfl
theorem i_49 : (49 : Int32) = nI 49 := Eq.trans rfl rfl
theorem i_51 : (51 : Int32) = nI 51 := Eq.trans rfl rfl
theorem i_63 : (63 : Int32) = nI 63 := Eq.trans rfl rfl
theorem i_132 : (132 : Int32) = nI 132 := Eq.trans rfl rfl
theorem i_199 : (199 : Int32) = nI 199 := Eq.trans rfl rfl
theorem i_255 : (255 : Int32) = nI 255 := Eq.trans rfl rfl
theorem i_383 : (383 : Int32) = nI 383 := Eq.trans rfl rfl
theorem i_499 : (499 : Int32) = nI 499 := Eq.trans rfl rfl
theorem i_500 : (500 : Int32) = nI 500 := Eq.trans rfl rfl
theorem i_767 : (767 : Int32) = nI 767 := Eq.trans rfl rfl
theorem i_900 : (900 : Int32) = nI 900 := Eq.trans rfl rfl
theorem i_1000 : (1000 : Int32) = nI 1000 := Eq.trans rfl rfl
theorem i_1032 : (1032 : Int32) = nI 1032 := Eq.trans rfl rfl
theorem i_3000 : (3000 : Int32) = nI 3000 := Eq.trans rfl rfl
theorem i_m1 (n : Nat) : nI (n + 1) + (-1 : Int32) = nI n := pk_m1 n
theorem i_dec (n : Nat) : nI (n + 1) - (1 : Int32) = nI n := nI_pred n
theorem i_neg (n : Nat) (h : n < 2147483648) : ¬ nI n < (0 : Int32) := nI_pos h
theorem i_ne1 (n : Nat) (h : n < 2147483648) : nI n ≠ (-1 : Int32) := by
  intro e
  have := congrArg Int32.toInt e
  rw [nI_toInt h] at this
  have h1 : (-1 : Int32).toInt = -1 := by decide
  rw [h1] at this
  omega
theorem bit0 {x : Int32} {n : Nat} (hn : n < 32) : ((x >>> (nI n &&& 31)) &&& (1 : Int32) = 0) = (bt x n = false) := by rw [bit_at hn]; exact propext b2_ne
theorem gvI {α : Type} {n N : Nat} {x : Option α} (h : n < N) (hN : N < 2147483648) : gv (nI n) N x = x := gv_pos (in_nI h hN)
theorem gdI {α β : Type} {a : β} {x : Option α} [Decidable (a = a)] : gd (a = a) x = x := gd_pos rfl
theorem gdT {α : Type} {x : Option α} [Decidable True] : gd True x = x := gd_pos trivial
theorem lte {α β : Type} (a : α) (f : α → Option β) : lt a f = f a := Eq.trans rfl rfl
theorem une2 {α0 α1 γ : Type} (f : α0 → α1 → γ) (a : α0) (b : α1) : un2 f (a, b) = f a b := Eq.trans rfl rfl
theorem une3 {α0 α1 α2 γ : Type} (f : α0 → α1 → α2 → γ) (a : α0) (b : α1) (c : α2) : un3 f (a, b, c) = f a b c := Eq.trans rfl rfl
theorem Ok.bd {α β : Type} {o : Option α} {f : α → Option β} {P : α → Prop} {Q : β → Prop} (h : Ok o P) (k : ∀ a, P a → Ok (f a) Q) : Ok (o.bind f) Q := ok_bind.mpr (h.mono k)
theorem ok_i {α : Type} {a : α} {P : α → Prop} (h : P a) : Ok (some a) P := ⟨a, rfl, h⟩
/-- what an int is, of an index -/
theorem ix_of (x : Int32) (N : Nat) (hN : N < 2147483648) : (∃ n, n < N ∧ x = nI n) ∨ (x < 0 ∨ nI N ≤ x) := by
  rcases pk_ix x hN with h | h | h
  · exact Or.inr (Or.inl h)
  · exact Or.inr (Or.inr h)
  · exact Or.inl h
/-! rows of bits -/
def mk (p : Nat → Bool) : Nat → Int32
  | 0 => 0
  | n + 1 => mk p n ||| (if p n then (1 : Int32) <<< (nI n &&& 31) else 0)
theorem bt_sh {n i : Nat} (hn : n < 32) (hi : i < 32) : bt ((1 : Int32) <<< (nI n &&& 31)) i = decide (i = n) := by
  rw [b_shl n hn 1 hi]
  by_cases h : n ≤ i
  · rw [b_1 (i - n) (by omega)]
    by_cases h2 : i = n
    · subst h2; simp
    · simp [h, h2]; omega
  · have : i ≠ n := by omega
    simp [h, this]
theorem bt_mk (p : Nat → Bool) : ∀ (n i : Nat), n ≤ 32 → i < 32 → bt (mk p n) i = (decide (i < n) && p i) := by
  intro n
  induction n with
  | zero => intro i _ _; simp [mk, b_0]
  | succ n ih =>
    intro i hn hi
    rw [mk, b_or, ih i (by omega) hi]
    by_cases hp : p n = true
    · rw [if_pos hp, bt_sh (by omega) hi]
      by_cases h : i = n
      · subst h; simp [hp]
      · have : (i < n + 1) = (i < n) := propext (by omega)
        simp [h, this]
    · rw [if_neg hp, b_0]
      have hp : p n = false := by simpa using hp
      by_cases h : i = n
      · subst h; simp [hp]
      · have : (i < n + 1) = (i < n) := propext (by omega)
        simp [this]
theorem bt_mk24 {p : Nat → Bool} {i : Nat} (hi : i < 24) : bt (mk p 24) i = p i := by rw [bt_mk p 24 i (by omega) (by omega)]; simp [hi]
theorem mk_cong {p q : Nat → Bool} : ∀ {n : Nat}, (∀ i, i < n → p i = q i) → mk p n = mk q n := by
  intro n
  induction n with
  | zero => intro _; rfl
  | succ n ih => intro h; rw [mk, mk, ih (fun i hi => h i (by omega)), h n (by omega)]
/-- a row of 24 -/
def r24 (x : Int32) : Prop := ∀ i, 24 ≤ i → i < 32 → bt x i = false
theorem r24_mk (p : Nat → Bool) : r24 (mk p 24) := fun i h hi => by rw [bt_mk p 24 i (by omega) hi]; simp; omega
theorem mk_bt {x : Int32} (h : r24 x) : mk (bt x) 24 = x := by
  apply b_ext
  intro i hi
  rw [bt_mk _ 24 i (by omega) hi]
  by_cases h2 : i < 24
  · simp [h2]
  · simp [h2, h i (by omega) hi]
theorem r24_and {x y : Int32} (h : r24 x) : r24 (x &&& y) := fun i h1 h2 => by rw [b_and, h i h1 h2]; rfl
theorem b_full : ∀ i, i < 32 → bt 16777215 i = decide (i < 24) := by decide +kernel
theorem r24_full : r24 16777215 := fun i h hi => by rw [b_full i hi]; simp; omega

/-! memory, as rewriting -/
theorem mII (M : Me) (a k b j : Nat) (v : Int32) : gI (pI M a k v) b j = if b = a ∧ j = k then v else gI M b j := Eq.trans rfl rfl
theorem mJJ (M : Me) (a k b j : Nat) (v : Int64) : gJ (pJ M a k v) b j = if b = a ∧ j = k then v else gJ M b j := Eq.trans rfl rfl
theorem mRR (M : Me) (a k b j : Nat) (v : Option Nat) : gR (pR M a k v) b j = if b = a ∧ j = k then v else gR M b j := Eq.trans rfl rfl
theorem mIJ (M : Me) (a k b j : Nat) (v : Int64) : gI (pJ M a k v) b j = gI M b j := Eq.trans rfl rfl
theorem mIR (M : Me) (a k b j : Nat) (v : Option Nat) : gI (pR M a k v) b j = gI M b j := Eq.trans rfl rfl
theorem mJI (M : Me) (a k b j : Nat) (v : Int32) : gJ (pI M a k v) b j = gJ M b j := Eq.trans rfl rfl
theorem mJR (M : Me) (a k b j : Nat) (v : Option Nat) : gJ (pR M a k v) b j = gJ M b j := Eq.trans rfl rfl
theorem mRI (M : Me) (a k b j : Nat) (v : Int32) : gR (pI M a k v) b j = gR M b j := Eq.trans rfl rfl
theorem mRJ (M : Me) (a k b j : Nat) (v : Int64) : gR (pJ M a k v) b j = gR M b j := Eq.trans rfl rfl
theorem mIIn {M : Me} {a k b j : Nat} {v : Int32} (h : b ≠ a) : gI (pI M a k v) b j = gI M b j := if_neg (fun q => h q.1)
theorem mJJn {M : Me} {a k b j : Nat} {v : Int64} (h : b ≠ a) : gJ (pJ M a k v) b j = gJ M b j := if_neg (fun q => h q.1)
theorem mIIk {M : Me} {a k b j : Nat} {v : Int32} (h : j ≠ k) : gI (pI M a k v) b j = gI M b j := if_neg (fun q => h q.2)
theorem mII1 {M : Me} {a k : Nat} {v : Int32} : gI (pI M a k v) a k = v := if_pos ⟨rfl, rfl⟩
theorem mJJ1 {M : Me} {a k : Nat} {v : Int64} : gJ (pJ M a k v) a k = v := if_pos ⟨rfl, rfl⟩
