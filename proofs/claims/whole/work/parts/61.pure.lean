/-! what a pure function comes to -/
def Ok {α : Type} (o : Option α) (P : α → Prop) : Prop := ∃ a, o = some a ∧ P a
theorem ok_some {α : Type} {a : α} {P : α → Prop} : Ok (some a) P ↔ P a := ⟨fun ⟨_, h, p⟩ => by cases h; exact p, fun p => ⟨a, rfl, p⟩⟩
theorem ok_none {α : Type} {P : α → Prop} : Ok none P ↔ False := ⟨fun ⟨_, h, _⟩ => (by cases h), fun h => h.elim⟩
theorem ok_gd {α : Type} {c : Prop} [Decidable c] {x : Option α} {P : α → Prop} : Ok (gd c x) P ↔ c ∧ Ok x P := by
  unfold gd
  by_cases h : c
  · rw [if_pos h]; exact ⟨fun k => ⟨h, k⟩, fun k => k.2⟩
  · rw [if_neg h]; exact ⟨fun k => (ok_none.mp k).elim, fun k => absurd k.1 h⟩
theorem ok_gv {α : Type} {i : Int32} {n : Nat} {x : Option α} {P : α → Prop} : Ok (gv i n x) P ↔ vp_in i n ∧ Ok x P := by
  unfold gv vp_in
  by_cases h : ¬ (i < 0 ∨ n ≤ i.toNatClampNeg)
  · rw [if_pos h]; exact ⟨fun k => ⟨h, k⟩, fun k => k.2⟩
  · rw [if_neg h]; exact ⟨fun k => (ok_none.mp k).elim, fun k => absurd k.1 h⟩
theorem ok_lt {α β : Type} {a : α} {f : α → Option β} {P : β → Prop} : Ok (lt a f) P ↔ Ok (f a) P := Iff.rfl
theorem ok_bind {α β : Type} {o : Option α} {f : α → Option β} {P : β → Prop} : Ok (o.bind f) P ↔ Ok o (fun a => Ok (f a) P) := by
  cases o with
  | none => exact ⟨fun k => (ok_none.mp k).elim, fun k => (ok_none.mp k).elim⟩
  | some a => rw [ok_some]; rfl
theorem ok_ite {α : Type} {c : Prop} [Decidable c] {x y : Option α} {P : α → Prop} : Ok (if c then x else y) P ↔ (c → Ok x P) ∧ (¬ c → Ok y P) := by
  by_cases h : c
  · rw [if_pos h]; exact ⟨fun k => ⟨fun _ => k, fun n => absurd h n⟩, fun k => k.1 h⟩
  · rw [if_neg h]; exact ⟨fun k => ⟨fun n => absurd n h, fun _ => k⟩, fun k => k.2 h⟩
theorem ok_mo {α β : Type} {o : Option α} {n : Option β} {f : α → Option β} {P : β → Prop} : Ok (mo o n f) P ↔ (o = none → Ok n P) ∧ (∀ a, o = some a → Ok (f a) P) := by
  cases o with
  | none => exact ⟨fun k => ⟨fun _ => k, fun a h => (by cases h)⟩, fun k => k.1 rfl⟩
  | some a => exact ⟨fun k => ⟨fun h => (by cases h), fun b h => (by cases h; exact k)⟩, fun k => k.2 a rfl⟩
theorem Ok.mono {α : Type} {o : Option α} {P Q : α → Prop} (h : Ok o P) (hq : ∀ a, P a → Q a) : Ok o Q := by
  obtain ⟨a, e, p⟩ := h
  exact ⟨a, e, hq a p⟩
theorem Ok.of {α : Type} {o : Option α} {a : α} {P : α → Prop} (h : o = some a) (p : P a) : Ok o P := ⟨a, h, p⟩
theorem Ok.and {α : Type} {o : Option α} {P Q : α → Prop} (h : Ok o P) (h2 : Ok o Q) : Ok o (fun a => P a ∧ Q a) := by
  obtain ⟨a, e, p⟩ := h
  obtain ⟨b, e2, q⟩ := h2
  rw [e] at e2; cases e2
  exact ⟨a, e, p, q⟩
/-- a loop: an invariant and a measure -/
theorem ok_lp {σ ρ : Type} {b : σ → Option (σ ⊕ ρ)} (I : σ → Prop) (μ : σ → Nat) (Q : ρ → Prop) (h : ∀ s, I s → Ok (b s) (fun o => match o with | .inl s' => I s' ∧ μ s' < μ s | .inr r => Q r)) : ∀ (n : Nat) (s : σ), I s → μ s < n → Ok (lp n b s) Q := by
  intro n
  induction n with
  | zero => intro s _ h; omega
  | succ n ih =>
    intro s hI hm
    obtain ⟨o, e, p⟩ := h s hI
    unfold lp
    rw [e]
    cases o with
    | inl s2 => exact ih s2 p.1 (by have := p.2; omega)
    | inr r => exact ⟨r, rfl, p⟩
/-- a loop that counts up to e -/
theorem ok_for {σ ρ : Type} {b : σ → Option (σ ⊕ ρ)} (e : Nat) (I : Nat → σ → Prop) (Q : ρ → Prop) (hs : ∀ i s, i < e → I i s → Ok (b s) (fun o => match o with | .inl s' => I (i + 1) s' | .inr r => Q r)) (hx : ∀ s, I e s → Ok (b s) (fun o => match o with | .inl _ => False | .inr r => Q r)) : ∀ (n i : Nat) (s : σ), i ≤ e → I i s → e - i < n → Ok (lp n b s) Q := by
  intro n
  induction n with
  | zero => intro i s _ _ h; omega
  | succ n ih =>
    intro i s hi hI hm
    unfold lp
    rcases Nat.lt_or_ge i e with h | h
    · obtain ⟨o, e1, p⟩ := hs i s h hI
      rw [e1]
      cases o with
      | inl s2 => exact ih (i + 1) s2 (by omega) p (by omega)
      | inr r => exact ⟨r, rfl, p⟩
    · obtain rfl : i = e := by omega
      obtain ⟨o, e1, p⟩ := hx s hI
      rw [e1]
      cases o with
      | inl s2 => exact p.elim
      | inr r => exact ⟨r, rfl, p⟩
theorem FU_lt {n : Nat} (h : n < 1000000) : n < FU := h
/-! memory -/
theorem gI_pI (M : Me) (a k b j : Nat) (v : Int32) : gI (pI M a k v) b j = if b = a ∧ j = k then v else gI M b j := rfl
theorem gJ_pJ (M : Me) (a k b j : Nat) (v : Int64) : gJ (pJ M a k v) b j = if b = a ∧ j = k then v else gJ M b j := rfl
theorem gR_pR (M : Me) (a k b j : Nat) (v : Option Nat) : gR (pR M a k v) b j = if b = a ∧ j = k then v else gR M b j := rfl
theorem gI_pJ (M : Me) (a k b j : Nat) (v : Int64) : gI (pJ M a k v) b j = gI M b j := rfl
theorem gI_pR (M : Me) (a k b j : Nat) (v : Option Nat) : gI (pR M a k v) b j = gI M b j := rfl
theorem gJ_pI (M : Me) (a k b j : Nat) (v : Int32) : gJ (pI M a k v) b j = gJ M b j := rfl
theorem gJ_pR (M : Me) (a k b j : Nat) (v : Option Nat) : gJ (pR M a k v) b j = gJ M b j := rfl
theorem gR_pI (M : Me) (a k b j : Nat) (v : Int32) : gR (pI M a k v) b j = gR M b j := rfl
theorem gR_pJ (M : Me) (a k b j : Nat) (v : Int64) : gR (pJ M a k v) b j = gR M b j := rfl
/-- the memory outside of some addresses -/
def Fr (A : Nat → Prop) (M M' : Me) : Prop := ∀ a, ¬ A a → (∀ k, gI M' a k = gI M a k) ∧ (∀ k, gJ M' a k = gJ M a k) ∧ ∀ k, gR M' a k = gR M a k
theorem Fr.rfl {A : Nat → Prop} {M : Me} : Fr A M M := fun _ _ => ⟨fun _ => Eq.refl _, fun _ => Eq.refl _, fun _ => Eq.refl _⟩
theorem Fr.trans {A : Nat → Prop} {M M' M2 : Me} (h : Fr A M M') (h2 : Fr A M' M2) : Fr A M M2 := fun a ha => ⟨fun k => ((h2 a ha).1 k).trans ((h a ha).1 k), fun k => ((h2 a ha).2.1 k).trans ((h a ha).2.1 k), fun k => ((h2 a ha).2.2 k).trans ((h a ha).2.2 k)⟩
theorem Fr.wide {A A2 : Nat → Prop} {M M' : Me} (h : Fr A M M') (hA : ∀ a, A a → A2 a) : Fr A2 M M' := fun a ha => h a (fun q => ha (hA a q))
theorem Fr.pI {A : Nat → Prop} {M M' : Me} {a k : Nat} {v : Int32} (h : Fr A M M') (ha : A a) : Fr A M (pI M' a k v) := fun b hb => by
  obtain ⟨h1, h2, h3⟩ := h b hb
  refine ⟨fun j => ?_, h2, h3⟩
  rw [gI_pI, if_neg (show ¬ (b = a ∧ j = k) from fun q => hb (q.1 ▸ ha))]
  exact h1 j
theorem Fr.pJ {A : Nat → Prop} {M M' : Me} {a k : Nat} {v : Int64} (h : Fr A M M') (ha : A a) : Fr A M (pJ M' a k v) := fun b hb => by
  obtain ⟨h1, h2, h3⟩ := h b hb
  refine ⟨h1, fun j => ?_, h3⟩
  rw [gJ_pJ, if_neg (show ¬ (b = a ∧ j = k) from fun q => hb (q.1 ▸ ha))]
  exact h2 j
theorem Fr.pR {A : Nat → Prop} {M M' : Me} {a k : Nat} {v : Option Nat} (h : Fr A M M') (ha : A a) : Fr A M (pR M' a k v) := fun b hb => by
  obtain ⟨h1, h2, h3⟩ := h b hb
  refine ⟨h1, h2, fun j => ?_⟩
  rw [gR_pR, if_neg (show ¬ (b = a ∧ j = k) from fun q => hb (q.1 ▸ ha))]
  exact h3 j
/-! numbers -/
theorem i_lit (n : Nat) : (OfNat.ofNat n : Int32) = nI n := fa_lit n
theorem cl_nI {n : Nat} (h : n < 2147483648) : Int32.toNatClampNeg (nI n) = n := nI_clamp h
theorem in_nI {n N : Nat} (h : n < N) (hN : N < 2147483648) : vp_in (nI n) N := vp_in_nI h hN
theorem nI_shr {n : Nat} {x : Int32} : x >>> (nI n &&& 31) = x >>> (nI n &&& 31) := rfl
/-- one bit of a row -/
def b2 (b : Bool) : Int32 := if b then 1 else 0
theorem b_1 : ∀ i, i < 32 → bt 1 i = decide (i = 0) := by decide +kernel
theorem bit_at {x : Int32} {n : Nat} (hn : n < 32) : (x >>> (nI n &&& 31)) &&& 1 = b2 (bt x n) := by
  apply b_ext
  intro i hi
  rw [b_and, b_sshr n hn x hi, b_1 i hi]
  unfold b2
  by_cases h0 : i = 0
  · subst h0
    simp only [Nat.add_zero, hn, if_true, decide_true, Bool.and_true]
    cases h : bt x n
    · simp [b_0]
    · simp [b_1 0 (by omega)]
  · simp only [h0, decide_false, Bool.and_false]
    cases h : bt x n
    · simp [b_0]
    · simp [b_1 i hi, h0]
theorem b2_ne {b : Bool} : b2 b = 0 ↔ b = false := by cases b <;> simp [b2]
theorem b2_one {b : Bool} : b2 b = 1 ↔ b = true := by cases b <;> simp [b2]
