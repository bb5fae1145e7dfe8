def FU : Nat := 1000000
def gd {α : Type} (c : Prop) [Decidable c] (x : Option α) : Option α := if c then x else none
def gv {α : Type} (i : Int32) (n : Nat) (x : Option α) : Option α := if ¬ (i < 0 ∨ n ≤ i.toNatClampNeg) then x else none
def lt {α β : Type} (a : α) (f : α → Option β) : Option β := f a
def lp {σ ρ : Type} : Nat → (σ → Option (σ ⊕ ρ)) → σ → Option ρ
  | 0, _, _ => none
  | n + 1, f, s => match f s with
    | none => none
    | some (.inl s') => lp n f s'
    | some (.inr r) => some r
theorem gd_some {α : Type} {c : Prop} [Decidable c] {x : Option α} {t : α} (h : gd c x = some t) : c ∧ x = some t := by
  unfold gd at h
  by_cases hc : c
  · rw [if_pos hc] at h; exact ⟨hc, h⟩
  · rw [if_neg hc] at h; cases h
theorem gv_some {α : Type} {i : Int32} {n : Nat} {x : Option α} {t : α} (h : gv i n x = some t) : vp_in i n ∧ x = some t := by
  unfold gv at h
  by_cases hc : ¬ (i < 0 ∨ n ≤ i.toNatClampNeg)
  · rw [if_pos hc] at h; exact ⟨hc, h⟩
  · rw [if_neg hc] at h; cases h
theorem gv_pos {α : Type} {i : Int32} {n : Nat} {x : Option α} (h : vp_in i n) : gv i n x = x := if_pos h
theorem gd_pos {α : Type} {c : Prop} [Decidable c] {x : Option α} (h : c) : gd c x = x := if_pos h
theorem lt_at {α β : Type} {a x : α} {f : α → Option β} {t : β} (e : x = a) (h : lt a f = some t) : f x = some t := by subst e; exact h
theorem ifp {α : Type} {c : Prop} [Decidable c] {a b : Option α} {t : α} (hc : c) (h : (if c then a else b) = some t) : a = some t := by rw [if_pos hc] at h; exact h
theorem ifn {α : Type} {c : Prop} [Decidable c] {a b : Option α} {t : α} (hc : ¬ c) (h : (if c then a else b) = some t) : b = some t := by rw [if_neg hc] at h; exact h
theorem bnd {α β : Type} {o : Option α} {f : α → Option β} {t : β} (h : o.bind f = some t) : ∃ a, o = some a ∧ f a = some t := by
  cases o with
  | none => cases h
  | some a => exact ⟨a, rfl, h⟩
theorem bndE {α β γ : Type} {o : Option (α ⊕ β)} {f : α → Option γ} {g : β → Option γ} {t : γ} (h : o.bind (Sum.elim f g) = some t) : (∃ a, o = some (.inl a) ∧ f a = some t) ∨ ∃ b, o = some (.inr b) ∧ g b = some t := by
  cases o with
  | none => cases h
  | some a => cases a with
    | inl a => exact Or.inl ⟨a, rfl, h⟩
    | inr b => exact Or.inr ⟨b, rfl, h⟩
def mo {α β : Type} (o : Option α) (n : Option β) (f : α → Option β) : Option β := match o with
  | none => n
  | some a => f a
theorem mo_none {α β : Type} {n : Option β} {f : α → Option β} {t : β} (h : mo none n f = some t) : n = some t := h
theorem mo_some {α β : Type} {a : α} {n : Option β} {f : α → Option β} {t : β} (h : mo (some a) n f = some t) : f a = some t := h
theorem lp_G {σ ρ : Type} {P : σ → Prop} {E : ρ → Prop} {b : σ → Option (σ ⊕ ρ)} (hi : ∀ s s', b s = some (.inl s') → P s' → P s) (hr : ∀ s r, b s = some (.inr r) → E r → P s) : ∀ (n : Nat) (s : σ) (r : ρ), lp n b s = some r → E r → P s := by
  intro n
  induction n with
  | zero => intro s r h; cases h
  | succ n ih =>
    intro s r h hE
    unfold lp at h
    cases hb : b s with
    | none => rw [hb] at h; cases h
    | some o =>
      rw [hb] at h
      cases o with
      | inl s' => exact hi s s' hb (ih s' r h hE)
      | inr r2 => cases h; exact hr s _ hb hE
/-- what a loop's body comes to -/
def lpE {σ ρ : Type} (P : σ → Prop) (E : ρ → Prop) : σ ⊕ ρ → Prop
  | .inl s => P s
  | .inr r => E r
theorem lp_G2 {σ ρ : Type} {P : σ → Prop} {E : ρ → Prop} {b : σ → Option (σ ⊕ ρ)} (hb : ∀ s o, b s = some o → lpE P E o → P s) {n : Nat} {s : σ} {r : ρ} (h : lp n b s = some r) (hE : E r) : P s :=
  lp_G (fun s s' h1 h2 => hb s _ h1 h2) (fun s r h1 h2 => hb s _ h1 h2) n s r h hE
def un2 {α0 α1 γ : Type} (f : α0 → α1 → γ) (p : α0 × α1) : γ := f p.1 p.2
theorem bnd2 {α0 α1 γ : Type} {o : Option (α0 × α1)} {f : α0 → α1 → Option γ} {t : γ} (h : o.bind (un2 f) = some t) : ∃ x0 x1, o = some (x0, x1) ∧ f x0 x1 = some t := by
  cases o with
  | none => cases h
  | some a => exact ⟨a.1, a.2, rfl, h⟩
theorem un2_d {α0 α1 γ : Type} {f : α0 → α1 → Option γ} {x0 : α0} {x1 : α1} {t : γ} (h : un2 f (x0, x1) = some t) : f x0 x1 = some t := h
def un3 {α0 α1 α2 γ : Type} (f : α0 → α1 → α2 → γ) (p : α0 × α1 × α2) : γ := f p.1 p.2.1 p.2.2
theorem bnd3 {α0 α1 α2 γ : Type} {o : Option (α0 × α1 × α2)} {f : α0 → α1 → α2 → Option γ} {t : γ} (h : o.bind (un3 f) = some t) : ∃ x0 x1 x2, o = some (x0, x1, x2) ∧ f x0 x1 x2 = some t := by
  cases o with
  | none => cases h
  | some a => exact ⟨a.1, a.2.1, a.2.2, rfl, h⟩
theorem un3_d {α0 α1 α2 γ : Type} {f : α0 → α1 → α2 → Option γ} {x0 : α0} {x1 : α1} {x2 : α2} {t : γ} (h : un3 f (x0, x1, x2) = some t) : f x0 x1 x2 = some t := h
def un4 {α0 α1 α2 α3 γ : Type} (f : α0 → α1 → α2 → α3 → γ) (p : α0 × α1 × α2 × α3) : γ := f p.1 p.2.1 p.2.2.1 p.2.2.2
theorem bnd4 {α0 α1 α2 α3 γ : Type} {o : Option (α0 × α1 × α2 × α3)} {f : α0 → α1 → α2 → α3 → Option γ} {t : γ} (h : o.bind (un4 f) = some t) : ∃ x0 x1 x2 x3, o = some (x0, x1, x2, x3) ∧ f x0 x1 x2 x3 = some t := by
  cases o with
  | none => cases h
  | some a => exact ⟨a.1, a.2.1, a.2.2.1, a.2.2.2, rfl, h⟩
theorem un4_d {α0 α1 α2 α3 γ : Type} {f : α0 → α1 → α2 → α3 → Option γ} {x0 : α0} {x1 : α1} {x2 : α2} {x3 : α3} {t : γ} (h : un4 f (x0, x1, x2, x3) = some t) : f x0 x1 x2 x3 = some t := h
def un5 {α0 α1 α2 α3 α4 γ : Type} (f : α0 → α1 → α2 → α3 → α4 → γ) (p : α0 × α1 × α2 × α3 × α4) : γ := f p.1 p.2.1 p.2.2.1 p.2.2.2.1 p.2.2.2.2
theorem bnd5 {α0 α1 α2 α3 α4 γ : Type} {o : Option (α0 × α1 × α2 × α3 × α4)} {f : α0 → α1 → α2 → α3 → α4 → Option γ} {t : γ} (h : o.bind (un5 f) = some t) : ∃ x0 x1 x2 x3 x4, o = some (x0, x1, x2, x3, x4) ∧ f x0 x1 x2 x3 x4 = some t := by
  cases o with
  | none => cases h
  | some a => exact ⟨a.1, a.2.1, a.2.2.1, a.2.2.2.1, a.2.2.2.2, rfl, h⟩
theorem un5_d {α0 α1 α2 α3 α4 γ : Type} {f : α0 → α1 → α2 → α3 → α4 → Option γ} {x0 : α0} {x1 : α1} {x2 : α2} {x3 : α3} {x4 : α4} {t : γ} (h : un5 f (x0, x1, x2, x3, x4) = some t) : f x0 x1 x2 x3 x4 = some t := h
def un6 {α0 α1 α2 α3 α4 α5 γ : Type} (f : α0 → α1 → α2 → α3 → α4 → α5 → γ) (p : α0 × α1 × α2 × α3 × α4 × α5) : γ := f p.1 p.2.1 p.2.2.1 p.2.2.2.1 p.2.2.2.2.1 p.2.2.2.2.2
theorem bnd6 {α0 α1 α2 α3 α4 α5 γ : Type} {o : Option (α0 × α1 × α2 × α3 × α4 × α5)} {f : α0 → α1 → α2 → α3 → α4 → α5 → Option γ} {t : γ} (h : o.bind (un6 f) = some t) : ∃ x0 x1 x2 x3 x4 x5, o = some (x0, x1, x2, x3, x4, x5) ∧ f x0 x1 x2 x3 x4 x5 = some t := by
  cases o with
  | none => cases h
  | some a => exact ⟨a.1, a.2.1, a.2.2.1, a.2.2.2.1, a.2.2.2.2.1, a.2.2.2.2.2, rfl, h⟩
theorem un6_d {α0 α1 α2 α3 α4 α5 γ : Type} {f : α0 → α1 → α2 → α3 → α4 → α5 → Option γ} {x0 : α0} {x1 : α1} {x2 : α2} {x3 : α3} {x4 : α4} {x5 : α5} {t : γ} (h : un6 f (x0, x1, x2, x3, x4, x5) = some t) : f x0 x1 x2 x3 x4 x5 = some t := h
def un7 {α0 α1 α2 α3 α4 α5 α6 γ : Type} (f : α0 → α1 → α2 → α3 → α4 → α5 → α6 → γ) (p : α0 × α1 × α2 × α3 × α4 × α5 × α6) : γ := f p.1 p.2.1 p.2.2.1 p.2.2.2.1 p.2.2.2.2.1 p.2.2.2.2.2.1 p.2.2.2.2.2.2
theorem bnd7 {α0 α1 α2 α3 α4 α5 α6 γ : Type} {o : Option (α0 × α1 × α2 × α3 × α4 × α5 × α6)} {f : α0 → α1 → α2 → α3 → α4 → α5 → α6 → Option γ} {t : γ} (h : o.bind (un7 f) = some t) : ∃ x0 x1 x2 x3 x4 x5 x6, o = some (x0, x1, x2, x3, x4, x5, x6) ∧ f x0 x1 x2 x3 x4 x5 x6 = some t := by
  cases o with
  | none => cases h
  | some a => exact ⟨a.1, a.2.1, a.2.2.1, a.2.2.2.1, a.2.2.2.2.1, a.2.2.2.2.2.1, a.2.2.2.2.2.2, rfl, h⟩
theorem un7_d {α0 α1 α2 α3 α4 α5 α6 γ : Type} {f : α0 → α1 → α2 → α3 → α4 → α5 → α6 → Option γ} {x0 : α0} {x1 : α1} {x2 : α2} {x3 : α3} {x4 : α4} {x5 : α5} {x6 : α6} {t : γ} (h : un7 f (x0, x1, x2, x3, x4, x5, x6) = some t) : f x0 x1 x2 x3 x4 x5 x6 = some t := h
def un8 {α0 α1 α2 α3 α4 α5 α6 α7 γ : Type} (f : α0 → α1 → α2 → α3 → α4 → α5 → α6 → α7 → γ) (p : α0 × α1 × α2 × α3 × α4 × α5 × α6 × α7) : γ := f p.1 p.2.1 p.2.2.1 p.2.2.2.1 p.2.2.2.2.1 p.2.2.2.2.2.1 p.2.2.2.2.2.2.1 p.2.2.2.2.2.2.2
theorem bnd8 {α0 α1 α2 α3 α4 α5 α6 α7 γ : Type} {o : Option (α0 × α1 × α2 × α3 × α4 × α5 × α6 × α7)} {f : α0 → α1 → α2 → α3 → α4 → α5 → α6 → α7 → Option γ} {t : γ} (h : o.bind (un8 f) = some t) : ∃ x0 x1 x2 x3 x4 x5 x6 x7, o = some (x0, x1, x2, x3, x4, x5, x6, x7) ∧ f x0 x1 x2 x3 x4 x5 x6 x7 = some t := by
  cases o with
  | none => cases h
  | some a => exact ⟨a.1, a.2.1, a.2.2.1, a.2.2.2.1, a.2.2.2.2.1, a.2.2.2.2.2.1, a.2.2.2.2.2.2.1, a.2.2.2.2.2.2.2, rfl, h⟩
theorem un8_d {α0 α1 α2 α3 α4 α5 α6 α7 γ : Type} {f : α0 → α1 → α2 → α3 → α4 → α5 → α6 → α7 → Option γ} {x0 : α0} {x1 : α1} {x2 : α2} {x3 : α3} {x4 : α4} {x5 : α5} {x6 : α6} {x7 : α7} {t : γ} (h : un8 f (x0, x1, x2, x3, x4, x5, x6, x7) = some t) : f x0 x1 x2 x3 x4 x5 x6 x7 = some t := h
def un9 {α0 α1 α2 α3 α4 α5 α6 α7 α8 γ : Type} (f : α0 → α1 → α2 → α3 → α4 → α5 → α6 → α7 → α8 → γ) (p : α0 × α1 × α2 × α3 × α4 × α5 × α6 × α7 × α8) : γ := f p.1 p.2.1 p.2.2.1 p.2.2.2.1 p.2.2.2.2.1 p.2.2.2.2.2.1 p.2.2.2.2.2.2.1 p.2.2.2.2.2.2.2.1 p.2.2.2.2.2.2.2.2
theorem bnd9 {α0 α1 α2 α3 α4 α5 α6 α7 α8 γ : Type} {o : Option (α0 × α1 × α2 × α3 × α4 × α5 × α6 × α7 × α8)} {f : α0 → α1 → α2 → α3 → α4 → α5 → α6 → α7 → α8 → Option γ} {t : γ} (h : o.bind (un9 f) = some t) : ∃ x0 x1 x2 x3 x4 x5 x6 x7 x8, o = some (x0, x1, x2, x3, x4, x5, x6, x7, x8) ∧ f x0 x1 x2 x3 x4 x5 x6 x7 x8 = some t := by
  cases o with
  | none => cases h
  | some a => exact ⟨a.1, a.2.1, a.2.2.1, a.2.2.2.1, a.2.2.2.2.1, a.2.2.2.2.2.1, a.2.2.2.2.2.2.1, a.2.2.2.2.2.2.2.1, a.2.2.2.2.2.2.2.2, rfl, h⟩
theorem un9_d {α0 α1 α2 α3 α4 α5 α6 α7 α8 γ : Type} {f : α0 → α1 → α2 → α3 → α4 → α5 → α6 → α7 → α8 → Option γ} {x0 : α0} {x1 : α1} {x2 : α2} {x3 : α3} {x4 : α4} {x5 : α5} {x6 : α6} {x7 : α7} {x8 : α8} {t : γ} (h : un9 f (x0, x1, x2, x3, x4, x5, x6, x7, x8) = some t) : f x0 x1 x2 x3 x4 x5 x6 x7 x8 = some t := h
def un10 {α0 α1 α2 α3 α4 α5 α6 α7 α8 α9 γ : Type} (f : α0 → α1 → α2 → α3 → α4 → α5 → α6 → α7 → α8 → α9 → γ) (p : α0 × α1 × α2 × α3 × α4 × α5 × α6 × α7 × α8 × α9) : γ := f p.1 p.2.1 p.2.2.1 p.2.2.2.1 p.2.2.2.2.1 p.2.2.2.2.2.1 p.2.2.2.2.2.2.1 p.2.2.2.2.2.2.2.1 p.2.2.2.2.2.2.2.2.1 p.2.2.2.2.2.2.2.2.2
theorem bnd10 {α0 α1 α2 α3 α4 α5 α6 α7 α8 α9 γ : Type} {o : Option (α0 × α1 × α2 × α3 × α4 × α5 × α6 × α7 × α8 × α9)} {f : α0 → α1 → α2 → α3 → α4 → α5 → α6 → α7 → α8 → α9 → Option γ} {t : γ} (h : o.bind (un10 f) = some t) : ∃ x0 x1 x2 x3 x4 x5 x6 x7 x8 x9, o = some (x0, x1, x2, x3, x4, x5, x6, x7, x8, x9) ∧ f x0 x1 x2 x3 x4 x5 x6 x7 x8 x9 = some t := by
  cases o with
  | none => cases h
  | some a => exact ⟨a.1, a.2.1, a.2.2.1, a.2.2.2.1, a.2.2.2.2.1, a.2.2.2.2.2.1, a.2.2.2.2.2.2.1, a.2.2.2.2.2.2.2.1, a.2.2.2.2.2.2.2.2.1, a.2.2.2.2.2.2.2.2.2, rfl, h⟩
theorem un10_d {α0 α1 α2 α3 α4 α5 α6 α7 α8 α9 γ : Type} {f : α0 → α1 → α2 → α3 → α4 → α5 → α6 → α7 → α8 → α9 → Option γ} {x0 : α0} {x1 : α1} {x2 : α2} {x3 : α3} {x4 : α4} {x5 : α5} {x6 : α6} {x7 : α7} {x8 : α8} {x9 : α9} {t : γ} (h : un10 f (x0, x1, x2, x3, x4, x5, x6, x7, x8, x9) = some t) : f x0 x1 x2 x3 x4 x5 x6 x7 x8 x9 = some t := h
def un11 {α0 α1 α2 α3 α4 α5 α6 α7 α8 α9 α10 γ : Type} (f : α0 → α1 → α2 → α3 → α4 → α5 → α6 → α7 → α8 → α9 → α10 → γ) (p : α0 × α1 × α2 × α3 × α4 × α5 × α6 × α7 × α8 × α9 × α10) : γ := f p.1 p.2.1 p.2.2.1 p.2.2.2.1 p.2.2.2.2.1 p.2.2.2.2.2.1 p.2.2.2.2.2.2.1 p.2.2.2.2.2.2.2.1 p.2.2.2.2.2.2.2.2.1 p.2.2.2.2.2.2.2.2.2.1 p.2.2.2.2.2.2.2.2.2.2
theorem bnd11 {α0 α1 α2 α3 α4 α5 α6 α7 α8 α9 α10 γ : Type} {o : Option (α0 × α1 × α2 × α3 × α4 × α5 × α6 × α7 × α8 × α9 × α10)} {f : α0 → α1 → α2 → α3 → α4 → α5 → α6 → α7 → α8 → α9 → α10 → Option γ} {t : γ} (h : o.bind (un11 f) = some t) : ∃ x0 x1 x2 x3 x4 x5 x6 x7 x8 x9 x10, o = some (x0, x1, x2, x3, x4, x5, x6, x7, x8, x9, x10) ∧ f x0 x1 x2 x3 x4 x5 x6 x7 x8 x9 x10 = some t := by
  cases o with
  | none => cases h
  | some a => exact ⟨a.1, a.2.1, a.2.2.1, a.2.2.2.1, a.2.2.2.2.1, a.2.2.2.2.2.1, a.2.2.2.2.2.2.1, a.2.2.2.2.2.2.2.1, a.2.2.2.2.2.2.2.2.1, a.2.2.2.2.2.2.2.2.2.1, a.2.2.2.2.2.2.2.2.2.2, rfl, h⟩
theorem un11_d {α0 α1 α2 α3 α4 α5 α6 α7 α8 α9 α10 γ : Type} {f : α0 → α1 → α2 → α3 → α4 → α5 → α6 → α7 → α8 → α9 → α10 → Option γ} {x0 : α0} {x1 : α1} {x2 : α2} {x3 : α3} {x4 : α4} {x5 : α5} {x6 : α6} {x7 : α7} {x8 : α8} {x9 : α9} {x10 : α10} {t : γ} (h : un11 f (x0, x1, x2, x3, x4, x5, x6, x7, x8, x9, x10) = some t) : f x0 x1 x2 x3 x4 x5 x6 x7 x8 x9 x10 = some t := h
def un12 {α0 α1 α2 α3 α4 α5 α6 α7 α8 α9 α10 α11 γ : Type} (f : α0 → α1 → α2 → α3 → α4 → α5 → α6 → α7 → α8 → α9 → α10 → α11 → γ) (p : α0 × α1 × α2 × α3 × α4 × α5 × α6 × α7 × α8 × α9 × α10 × α11) : γ := f p.1 p.2.1 p.2.2.1 p.2.2.2.1 p.2.2.2.2.1 p.2.2.2.2.2.1 p.2.2.2.2.2.2.1 p.2.2.2.2.2.2.2.1 p.2.2.2.2.2.2.2.2.1 p.2.2.2.2.2.2.2.2.2.1 p.2.2.2.2.2.2.2.2.2.2.1 p.2.2.2.2.2.2.2.2.2.2.2
theorem bnd12 {α0 α1 α2 α3 α4 α5 α6 α7 α8 α9 α10 α11 γ : Type} {o : Option (α0 × α1 × α2 × α3 × α4 × α5 × α6 × α7 × α8 × α9 × α10 × α11)} {f : α0 → α1 → α2 → α3 → α4 → α5 → α6 → α7 → α8 → α9 → α10 → α11 → Option γ} {t : γ} (h : o.bind (un12 f) = some t) : ∃ x0 x1 x2 x3 x4 x5 x6 x7 x8 x9 x10 x11, o = some (x0, x1, x2, x3, x4, x5, x6, x7, x8, x9, x10, x11) ∧ f x0 x1 x2 x3 x4 x5 x6 x7 x8 x9 x10 x11 = some t := by
  cases o with
  | none => cases h
  | some a => exact ⟨a.1, a.2.1, a.2.2.1, a.2.2.2.1, a.2.2.2.2.1, a.2.2.2.2.2.1, a.2.2.2.2.2.2.1, a.2.2.2.2.2.2.2.1, a.2.2.2.2.2.2.2.2.1, a.2.2.2.2.2.2.2.2.2.1, a.2.2.2.2.2.2.2.2.2.2.1, a.2.2.2.2.2.2.2.2.2.2.2, rfl, h⟩
theorem un12_d {α0 α1 α2 α3 α4 α5 α6 α7 α8 α9 α10 α11 γ : Type} {f : α0 → α1 → α2 → α3 → α4 → α5 → α6 → α7 → α8 → α9 → α10 → α11 → Option γ} {x0 : α0} {x1 : α1} {x2 : α2} {x3 : α3} {x4 : α4} {x5 : α5} {x6 : α6} {x7 : α7} {x8 : α8} {x9 : α9} {x10 : α10} {x11 : α11} {t : γ} (h : un12 f (x0, x1, x2, x3, x4, x5, x6, x7, x8, x9, x10, x11) = some t) : f x0 x1 x2 x3 x4 x5 x6 x7 x8 x9 x10 x11 = some t := h
theorem g_sub {X : Fx} {B : Bx} {nL : Nat} {Z : Nat × Nat × Nat × Nat} {Q : State → Prop} {pc : Nat} {lo : List (Nat × Value)} {st : List Value} {T : Sh} {M : Me} {lo2 : List (Nat × Value)} (ks : List Nat) (h : lv_pick lo ks = lo2) (kk : G X B nL Z Q pc lo2 st T M) : G X B nL Z Q pc lo st T M :=
  fun H locs ls hl hP hS h1 h2 h3 h4 => kk H locs ls (lv_sub hl ks h) hP hS h1 h2 h3 h4
theorem g_topi {X : Fx} {B : Bx} {nL : Nat} {Z : Nat × Nat × Nat × Nat} {Q : State → Prop} {pc : Nat} {lo : List (Nat × Value)} {st : List Value} {T : Sh} {M : Me} {x : Int32} (k : ∀ y : Int32, y = x → G X B nL Z Q pc lo (.int y :: st) T M) : G X B nL Z Q pc lo (.int x :: st) T M := k x rfl
theorem g_topl {X : Fx} {B : Bx} {nL : Nat} {Z : Nat × Nat × Nat × Nat} {Q : State → Prop} {pc : Nat} {lo : List (Nat × Value)} {st : List Value} {T : Sh} {M : Me} {x : Int64} (k : ∀ y : Int64, y = x → G X B nL Z Q pc lo (.long y :: st) T M) : G X B nL Z Q pc lo (.long x :: st) T M := k x rfl
theorem g_topq {X : Fx} {B : Bx} {nL : Nat} {Z : Nat × Nat × Nat × Nat} {Q : State → Prop} {pc : Nat} {lo : List (Nat × Value)} {st : List Value} {T : Sh} {M : Me} {x : Option Nat} (k : ∀ y : Option Nat, y = x → G X B nL Z Q pc lo (va_rf y :: st) T M) : G X B nL Z Q pc lo (va_rf x :: st) T M := k x rfl
theorem g_mem {X : Fx} {B : Bx} {nL : Nat} {Z : Nat × Nat × Nat × Nat} {Q : State → Prop} {pc : Nat} {lo : List (Nat × Value)} {st : List Value} {T : Sh} {M : Me} (k : ∀ M' : Me, M' = M → G X B nL Z Q pc lo st T M') : G X B nL Z Q pc lo st T M := k M rfl
theorem g_refq {X : Fx} {B : Bx} {nL : Nat} {Z : Nat × Nat × Nat × Nat} {Q : State → Prop} {pc : Nat} {lo : List (Nat × Value)} {st : List Value} {T : Sh} {M : Me} {x : Option Nat} {q : Nat} (e : x = some q) (k : G X B nL Z Q pc lo (.ref q :: st) T M) : G X B nL Z Q pc lo (va_rf x :: st) T M := by subst e; exact k
theorem g_nulq {X : Fx} {B : Bx} {nL : Nat} {Z : Nat × Nat × Nat × Nat} {Q : State → Prop} {pc : Nat} {lo : List (Nat × Value)} {st : List Value} {T : Sh} {M : Me} {x : Option Nat} (e : x = none) (k : G X B nL Z Q pc lo (.null :: st) T M) : G X B nL Z Q pc lo (va_rf x :: st) T M := by subst e; exact k
theorem cat_rf (x : Option Nat) : (va_rf x).category = 1 := by cases x <;> rfl
theorem sw_out {x : Int32} {a b : Int} (h : ∀ k : Nat, a + (k : Int) ≤ b → x.toInt ≠ a + (k : Int)) : x.toInt < a ∨ b < x.toInt := by
  by_cases h1 : x.toInt < a
  · exact Or.inl h1
  · by_cases h2 : b < x.toInt
    · exact Or.inr h2
    · have := h (x.toInt - a).toNat (by omega)
      omega
theorem sw_ne {x : Int32} {c : Int32} (h : ¬ x = c) {i : Int} (hc : c.toInt = i) : x.toInt ≠ i := fun e => h (Int32.toInt_inj.mp (e.trans hc.symm))
theorem bz_nar {x : Int32} (h : x = 0 ∨ x = 1) : narrow .boolean (.int x) = .int x := by rcases h with rfl | rfl <;> rfl
