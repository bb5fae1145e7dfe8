theorem lc_le (x y : Int64) : (lg_cmp x y ≤ 0) = (x ≤ y) := propext (lg_cmp_le x y)
theorem lc_lt (x y : Int64) : (lg_cmp x y < 0) = (x < y) := propext (lg_cmp_lt x y)
theorem lc_ge (x y : Int64) : (0 ≤ lg_cmp x y) = (y ≤ x) := propext (lg_cmp_ge x y)
theorem lc_gt (x y : Int64) : (0 < lg_cmp x y) = (y < x) := propext (lg_cmp_gt x y)
theorem lc_eq (x y : Int64) : (lg_cmp x y = 0) = (x = y) := propext (lg_cmp_eq x y)
/-! a row of numbers that wait, the last one first -/
def sa (r : Nat → Int32) : List Int32 → Prop
  | [] => True
  | a :: s => r s.length = a ∧ sa r s
theorem sa_cong {r r' : Nat → Int32} : ∀ {s : List Int32}, (∀ i, i < s.length → r' i = r i) → sa r s → sa r' s
  | [], _, _ => trivial
  | a :: s, h, k => ⟨(h s.length (by simp)).trans k.1, sa_cong (fun i hi => h i (by simp; omega)) k.2⟩
theorem sa_push {M : Me} {a : Nat} {s : List Int32} {x : Int32} (h : sa (gI M a) s) : sa (gI (pI M a s.length x) a) (x :: s) := by
  refine ⟨by rw [gI_pI, if_pos ⟨rfl, rfl⟩], sa_cong (fun i hi => ?_) h⟩
  rw [gI_pI, if_neg (by omega)]
theorem sa_over {M : Me} {a : Nat} {s : List Int32} {x : Int32} {k : Nat} (h : sa (gI M a) s) (hk : s.length ≤ k) : sa (gI (pI M a k x) a) s := sa_cong (fun i hi => by rw [gI_pI, if_neg (by omega)]) h
/-! the model's own refs -/
def mF (i : Nat) : Nat := [1, 2, 3, 4, 16, 17, 20, 29, 33, 34, 35, 36, 37, 38, 39, 40, 41, 42].getD i 0
def mK (i : Nat) : Nat := [13, 15, 13, 13, 13, 13, 13, 13, 15, 13, 13, 14, 14, 14, 14, 13, 13, 14].getD i 0
def mL (i : Nat) : Nat := [3096, 2, 900, 1032, 900, 6, 16, 8, 384, 64, 384, 384, 384, 24, 24, 4, 4, 160].getD i 0
def RM (m : Nat) (T : Sh) (M : Me) : Prop := kd T m = 11 ∧ ∀ i, i < 18 → gR M m (mF i) = some (m + 1 + i) ∧ kd T (m + 1 + i) = mK i ∧ ln T (m + 1 + i) = mL i
section
variable {m : Nat} {T : Sh} {M : Me} (h : RM m T M)
theorem RM.k (h : RM m T M) : kd T m = 11 := h.1
theorem RM.r1 (h : RM m T M) : gR M m 1 = some (m + 1) := by have := (h.2 0 (by omega)).1; rw [show m + 1 + 0 = m + 1 by omega] at this; exact this
theorem RM.k1 (h : RM m T M) : kd T (m + 1) = 13 := by have := (h.2 0 (by omega)).2.1; rw [show m + 1 + 0 = m + 1 by omega] at this; exact this
theorem RM.l1 (h : RM m T M) : ln T (m + 1) = 3096 := by have := (h.2 0 (by omega)).2.2; rw [show m + 1 + 0 = m + 1 by omega] at this; exact this
theorem RM.r2 (h : RM m T M) : gR M m 2 = some (m + 2) := by have := (h.2 1 (by omega)).1; rw [show m + 1 + 1 = m + 2 by omega] at this; exact this
theorem RM.k2 (h : RM m T M) : kd T (m + 2) = 15 := by have := (h.2 1 (by omega)).2.1; rw [show m + 1 + 1 = m + 2 by omega] at this; exact this
theorem RM.l2 (h : RM m T M) : ln T (m + 2) = 2 := by have := (h.2 1 (by omega)).2.2; rw [show m + 1 + 1 = m + 2 by omega] at this; exact this
theorem RM.r3 (h : RM m T M) : gR M m 3 = some (m + 3) := by have := (h.2 2 (by omega)).1; rw [show m + 1 + 2 = m + 3 by omega] at this; exact this
theorem RM.k3 (h : RM m T M) : kd T (m + 3) = 13 := by have := (h.2 2 (by omega)).2.1; rw [show m + 1 + 2 = m + 3 by omega] at this; exact this
theorem RM.l3 (h : RM m T M) : ln T (m + 3) = 900 := by have := (h.2 2 (by omega)).2.2; rw [show m + 1 + 2 = m + 3 by omega] at this; exact this
theorem RM.r4 (h : RM m T M) : gR M m 4 = some (m + 4) := by have := (h.2 3 (by omega)).1; rw [show m + 1 + 3 = m + 4 by omega] at this; exact this
theorem RM.k4 (h : RM m T M) : kd T (m + 4) = 13 := by have := (h.2 3 (by omega)).2.1; rw [show m + 1 + 3 = m + 4 by omega] at this; exact this
theorem RM.l4 (h : RM m T M) : ln T (m + 4) = 1032 := by have := (h.2 3 (by omega)).2.2; rw [show m + 1 + 3 = m + 4 by omega] at this; exact this
theorem RM.r5 (h : RM m T M) : gR M m 16 = some (m + 5) := by have := (h.2 4 (by omega)).1; rw [show m + 1 + 4 = m + 5 by omega] at this; exact this
theorem RM.k5 (h : RM m T M) : kd T (m + 5) = 13 := by have := (h.2 4 (by omega)).2.1; rw [show m + 1 + 4 = m + 5 by omega] at this; exact this
theorem RM.l5 (h : RM m T M) : ln T (m + 5) = 900 := by have := (h.2 4 (by omega)).2.2; rw [show m + 1 + 4 = m + 5 by omega] at this; exact this
theorem RM.r6 (h : RM m T M) : gR M m 17 = some (m + 6) := by have := (h.2 5 (by omega)).1; rw [show m + 1 + 5 = m + 6 by omega] at this; exact this
theorem RM.k6 (h : RM m T M) : kd T (m + 6) = 13 := by have := (h.2 5 (by omega)).2.1; rw [show m + 1 + 5 = m + 6 by omega] at this; exact this
theorem RM.l6 (h : RM m T M) : ln T (m + 6) = 6 := by have := (h.2 5 (by omega)).2.2; rw [show m + 1 + 5 = m + 6 by omega] at this; exact this
theorem RM.r7 (h : RM m T M) : gR M m 20 = some (m + 7) := by have := (h.2 6 (by omega)).1; rw [show m + 1 + 6 = m + 7 by omega] at this; exact this
theorem RM.k7 (h : RM m T M) : kd T (m + 7) = 13 := by have := (h.2 6 (by omega)).2.1; rw [show m + 1 + 6 = m + 7 by omega] at this; exact this
theorem RM.l7 (h : RM m T M) : ln T (m + 7) = 16 := by have := (h.2 6 (by omega)).2.2; rw [show m + 1 + 6 = m + 7 by omega] at this; exact this
theorem RM.r8 (h : RM m T M) : gR M m 29 = some (m + 8) := by have := (h.2 7 (by omega)).1; rw [show m + 1 + 7 = m + 8 by omega] at this; exact this
theorem RM.k8 (h : RM m T M) : kd T (m + 8) = 13 := by have := (h.2 7 (by omega)).2.1; rw [show m + 1 + 7 = m + 8 by omega] at this; exact this
theorem RM.l8 (h : RM m T M) : ln T (m + 8) = 8 := by have := (h.2 7 (by omega)).2.2; rw [show m + 1 + 7 = m + 8 by omega] at this; exact this
theorem RM.r9 (h : RM m T M) : gR M m 33 = some (m + 9) := by have := (h.2 8 (by omega)).1; rw [show m + 1 + 8 = m + 9 by omega] at this; exact this
theorem RM.k9 (h : RM m T M) : kd T (m + 9) = 15 := by have := (h.2 8 (by omega)).2.1; rw [show m + 1 + 8 = m + 9 by omega] at this; exact this
theorem RM.l9 (h : RM m T M) : ln T (m + 9) = 384 := by have := (h.2 8 (by omega)).2.2; rw [show m + 1 + 8 = m + 9 by omega] at this; exact this
theorem RM.r10 (h : RM m T M) : gR M m 34 = some (m + 10) := by have := (h.2 9 (by omega)).1; rw [show m + 1 + 9 = m + 10 by omega] at this; exact this
theorem RM.k10 (h : RM m T M) : kd T (m + 10) = 13 := by have := (h.2 9 (by omega)).2.1; rw [show m + 1 + 9 = m + 10 by omega] at this; exact this
theorem RM.l10 (h : RM m T M) : ln T (m + 10) = 64 := by have := (h.2 9 (by omega)).2.2; rw [show m + 1 + 9 = m + 10 by omega] at this; exact this
theorem RM.r11 (h : RM m T M) : gR M m 35 = some (m + 11) := by have := (h.2 10 (by omega)).1; rw [show m + 1 + 10 = m + 11 by omega] at this; exact this
theorem RM.k11 (h : RM m T M) : kd T (m + 11) = 13 := by have := (h.2 10 (by omega)).2.1; rw [show m + 1 + 10 = m + 11 by omega] at this; exact this
theorem RM.l11 (h : RM m T M) : ln T (m + 11) = 384 := by have := (h.2 10 (by omega)).2.2; rw [show m + 1 + 10 = m + 11 by omega] at this; exact this
theorem RM.r12 (h : RM m T M) : gR M m 36 = some (m + 12) := by have := (h.2 11 (by omega)).1; rw [show m + 1 + 11 = m + 12 by omega] at this; exact this
theorem RM.k12 (h : RM m T M) : kd T (m + 12) = 14 := by have := (h.2 11 (by omega)).2.1; rw [show m + 1 + 11 = m + 12 by omega] at this; exact this
theorem RM.l12 (h : RM m T M) : ln T (m + 12) = 384 := by have := (h.2 11 (by omega)).2.2; rw [show m + 1 + 11 = m + 12 by omega] at this; exact this
theorem RM.r13 (h : RM m T M) : gR M m 37 = some (m + 13) := by have := (h.2 12 (by omega)).1; rw [show m + 1 + 12 = m + 13 by omega] at this; exact this
theorem RM.k13 (h : RM m T M) : kd T (m + 13) = 14 := by have := (h.2 12 (by omega)).2.1; rw [show m + 1 + 12 = m + 13 by omega] at this; exact this
theorem RM.l13 (h : RM m T M) : ln T (m + 13) = 384 := by have := (h.2 12 (by omega)).2.2; rw [show m + 1 + 12 = m + 13 by omega] at this; exact this
theorem RM.r14 (h : RM m T M) : gR M m 38 = some (m + 14) := by have := (h.2 13 (by omega)).1; rw [show m + 1 + 13 = m + 14 by omega] at this; exact this
theorem RM.k14 (h : RM m T M) : kd T (m + 14) = 14 := by have := (h.2 13 (by omega)).2.1; rw [show m + 1 + 13 = m + 14 by omega] at this; exact this
theorem RM.l14 (h : RM m T M) : ln T (m + 14) = 24 := by have := (h.2 13 (by omega)).2.2; rw [show m + 1 + 13 = m + 14 by omega] at this; exact this
theorem RM.r15 (h : RM m T M) : gR M m 39 = some (m + 15) := by have := (h.2 14 (by omega)).1; rw [show m + 1 + 14 = m + 15 by omega] at this; exact this
theorem RM.k15 (h : RM m T M) : kd T (m + 15) = 14 := by have := (h.2 14 (by omega)).2.1; rw [show m + 1 + 14 = m + 15 by omega] at this; exact this
theorem RM.l15 (h : RM m T M) : ln T (m + 15) = 24 := by have := (h.2 14 (by omega)).2.2; rw [show m + 1 + 14 = m + 15 by omega] at this; exact this
theorem RM.r16 (h : RM m T M) : gR M m 40 = some (m + 16) := by have := (h.2 15 (by omega)).1; rw [show m + 1 + 15 = m + 16 by omega] at this; exact this
theorem RM.k16 (h : RM m T M) : kd T (m + 16) = 13 := by have := (h.2 15 (by omega)).2.1; rw [show m + 1 + 15 = m + 16 by omega] at this; exact this
theorem RM.l16 (h : RM m T M) : ln T (m + 16) = 4 := by have := (h.2 15 (by omega)).2.2; rw [show m + 1 + 15 = m + 16 by omega] at this; exact this
theorem RM.r17 (h : RM m T M) : gR M m 41 = some (m + 17) := by have := (h.2 16 (by omega)).1; rw [show m + 1 + 16 = m + 17 by omega] at this; exact this
theorem RM.k17 (h : RM m T M) : kd T (m + 17) = 13 := by have := (h.2 16 (by omega)).2.1; rw [show m + 1 + 16 = m + 17 by omega] at this; exact this
theorem RM.l17 (h : RM m T M) : ln T (m + 17) = 4 := by have := (h.2 16 (by omega)).2.2; rw [show m + 1 + 16 = m + 17 by omega] at this; exact this
theorem RM.r18 (h : RM m T M) : gR M m 42 = some (m + 18) := by have := (h.2 17 (by omega)).1; rw [show m + 1 + 17 = m + 18 by omega] at this; exact this
theorem RM.k18 (h : RM m T M) : kd T (m + 18) = 14 := by have := (h.2 17 (by omega)).2.1; rw [show m + 1 + 17 = m + 18 by omega] at this; exact this
theorem RM.l18 (h : RM m T M) : ln T (m + 18) = 160 := by have := (h.2 17 (by omega)).2.2; rw [show m + 1 + 17 = m + 18 by omega] at this; exact this
end
theorem RM.fr {m : Nat} {T : Sh} {M M' : Me} (h : RM m T M) (e : ∀ k, gR M' m k = gR M m k) : RM m T M' := ⟨h.1, fun i hi => ⟨(e _).trans (h.2 i hi).1, (h.2 i hi).2⟩⟩
/-! the reference's code -/
def btw (c a b : Int32) : Int32 := (fX12_between c a b).getD 0
theorem btw_at (c a b : Int32) : fX12_between c a b = some (btw c a b) := by
  have h : ∃ r, fX12_between c a b = some r := by
    have h3 : ∀ x, ∃ r, jX12_between_116 x = some r := by
      intro x; unfold jX12_between_116; split
      · split <;> exact ⟨_, rfl⟩
      · exact ⟨_, rfl⟩
    unfold fX12_between jX12_between_81
    repeat' split
    all_goals first | exact ⟨_, rfl⟩ | exact h3 _
  obtain ⟨r, e⟩ := h
  unfold btw
  rw [e]; rfl
def rst (w : Nat → Int32) (c : Int32) (s : List Int32) : Option (List Int32) :=
  if (3000 : Int32) ≤ c then
    (if c = 3006 then (match s with | a :: s => some (((1 : Int32) - a) :: s) | _ => none)
    else if c = 3009 then (match s with | e :: t :: q :: s => some ((if q = (1 : Int32) then t else e) :: s) | _ => none)
    else (match s with | b :: a :: s => some (btw c a b :: s) | _ => none))
  else if (1000 : Int32) ≤ c then gv (c - 1000) 6 (some (w (Int32.toNatClampNeg (c - 1000)) :: s))
  else some (c :: s)
def rr (w : Nat → Int32) : List Int32 → List Int32 → Option (List Int32)
  | [], s => some s
  | c :: cs, s => (rst w c s).bind (rr w cs)
theorem rr_app (w : Nat → Int32) : ∀ (a b s : List Int32), rr w (a ++ b) s = (rr w a s).bind (rr w b)
  | [], b, s => rfl
  | c :: a, b, s => by
    show (rst w c s).bind (rr w (a ++ b)) = ((rst w c s).bind (rr w a)).bind (rr w b)
    cases rst w c s with
    | none => rfl
    | some s' => exact rr_app w a b s'
theorem i_sub1 {n : Nat} : nI (n + 1) - (1 : Int32) = nI n := i_dec n
theorem i_m2 (n : Nat) : nI (n + 2) + (-2 : Int32) = nI n := by
  rw [← nI_add, Int32.add_assoc]
  have : nI 2 + (-2 : Int32) = 0 := by decide
  rw [this, Int32.add_zero]
theorem rst_inv {w : Nat → Int32} {c : Int32} {s s2 : List Int32} (h : rst w c s = some s2) :
    (∃ a s1, (3000 : Int32) ≤ c ∧ c = 3006 ∧ s = a :: s1 ∧ s2 = ((1 : Int32) - a) :: s1) ∨
    (∃ e t q s1, (3000 : Int32) ≤ c ∧ ¬ c = 3006 ∧ c = 3009 ∧ s = e :: t :: q :: s1 ∧ s2 = (if q = (1 : Int32) then t else e) :: s1) ∨
    (∃ b a s1, (3000 : Int32) ≤ c ∧ ¬ c = 3006 ∧ ¬ c = 3009 ∧ s = b :: a :: s1 ∧ s2 = btw c a b :: s1) ∨
    (∃ j, ¬ (3000 : Int32) ≤ c ∧ (1000 : Int32) ≤ c ∧ j < 6 ∧ c - 1000 = nI j ∧ s2 = w j :: s) ∨
    (¬ (3000 : Int32) ≤ c ∧ ¬ (1000 : Int32) ≤ c ∧ s2 = c :: s) := by
  unfold rst at h
  by_cases h3 : (3000 : Int32) ≤ c
  · rw [if_pos h3] at h
    by_cases h6 : c = 3006
    · rw [if_pos h6] at h
      cases s with
      | nil => cases h
      | cons a s => simp only [Option.some.injEq] at h; exact Or.inl ⟨a, s, h3, h6, rfl, h.symm⟩
    · rw [if_neg h6] at h
      by_cases h9 : c = 3009
      · rw [if_pos h9] at h
        cases s with
        | nil => cases h
        | cons e s => cases s with
          | nil => cases h
          | cons t s => cases s with
            | nil => cases h
            | cons q s => simp only [Option.some.injEq] at h; exact Or.inr (Or.inl ⟨e, t, q, s, h3, h6, h9, rfl, h.symm⟩)
      · rw [if_neg h9] at h
        cases s with
        | nil => cases h
        | cons b s => cases s with
          | nil => cases h
          | cons a s => simp only [Option.some.injEq] at h; exact Or.inr (Or.inr (Or.inl ⟨b, a, s, h3, h6, h9, rfl, h.symm⟩))
  · rw [if_neg h3] at h
    by_cases h1 : (1000 : Int32) ≤ c
    · rw [if_pos h1] at h
      obtain ⟨hv, h⟩ := gv_some h
      simp only [Option.some.injEq] at h
      obtain ⟨j, hj, ej⟩ : ∃ j, j < 6 ∧ c - 1000 = nI j := by
        rcases pk_ix (c - 1000) (show 6 < 2 ^ 31 by omega) with q | q | q
        · exact absurd (Or.inl q) hv
        · exfalso
          apply hv
          right
          rcases nI_of (x := c - 1000) (fun q2 => hv (Or.inl q2)) with ⟨j, hj, e⟩
          rw [e] at q ⊢
          rw [nI_leI (by omega) (by omega)] at q
          rw [nI_clamp hj]; exact q
        · exact q
      refine Or.inr (Or.inr (Or.inr (Or.inl ⟨j, h3, h1, hj, ej, ?_⟩)))
      rw [← h, ej, cl_nI (by omega)]
    · rw [if_neg h1] at h
      simp only [Option.some.injEq] at h
      exact Or.inr (Or.inr (Or.inr (Or.inr ⟨h3, h1, h.symm⟩)))
section
variable {m : Nat} {T : Sh} {M : Me} {lw many fr k : Nat} {w : Nat → Int32} {c : Int32}
theorem s_rstep (hM : RM m T M) (hlw : lw < 3) (e1 : gI M (m + 1) (11 + lw) = nI many) (e2 : gI M (m + 1) (8 + lw) = nI fr) (hb : fr + many ≤ 900) (hk : k < many) (e3 : gI M (m + 1) (132 + fr + k) = c) (e4 : ∀ k, k < 6 → gI M (m + 6) k = w k) {s s2 : List Int32} (hsl : s.length < 900) (hsa : sa (gI M (m + 5)) s) (h : rst w c s = some s2) : ∃ M2, bX12_reckons_4 T m (nI lw) (nI s.length) (nI k) M = some (.inl (nI s2.length, nI (k + 1), M2)) ∧ s2.length ≤ s.length + 1 ∧ Fr (fun a => a = m + 5) M M2 ∧ sa (gI M2 (m + 5)) s2 := by
  have hk2 : ¬ many ≤ k := by omega
  rcases rst_inv h with ⟨a, s1, h3, h6, rfl, rfl⟩ | ⟨e, t, q, s1, h3, h6, h9, rfl, rfl⟩ | ⟨b, a, s1, h3, h6, h9, rfl, rfl⟩ | ⟨j, h3, h1, hj, ej, rfl⟩ | ⟨h3, h1, rfl⟩
  · obtain ⟨a1, a2⟩ := hsa
    simp only [List.length_cons] at hsl
    refine ⟨pI M (m + 5) s1.length ((1 : Int32) - a), ?_, by simp, Fr.rfl.pI rfl, sa_push a2⟩
    unfold bX12_reckons_4
    simp (disch := omega) only [hM.k, hM.r1, hM.k1, hM.l1, hM.r5, hM.k5, hM.l5, gdI, gdT, Option.bind_some, i_11, i_8, i_132, nI_add, gvI, cl_nI, e1, e2, c_le, hk2, if_false, lte, e3, List.length_cons, i_sub1, nI_1, a1]
    rw [if_pos h3, if_pos h6]
  · obtain ⟨a1, a2, a3, a4⟩ := hsa
    simp only [List.length_cons] at a1 a2 a3 hsl
    refine ⟨pI M (m + 5) s1.length (if q = (1 : Int32) then t else e), ?_, by simp only [List.length_cons]; omega, Fr.rfl.pI rfl, sa_push a4⟩
    unfold bX12_reckons_4
    simp (disch := omega) only [hM.k, hM.r1, hM.k1, hM.l1, hM.r5, hM.k5, hM.l5, gdI, gdT, Option.bind_some, i_11, i_8, i_132, nI_add, gvI, cl_nI, e1, e2, c_le, hk2, if_false, lte, e3, List.length_cons, nI_1, i_m2, i_sub1, a1, a2, a3]
    rw [if_pos h3, if_neg h6, if_pos h9]
    by_cases hq : q = 1
    · rw [if_pos hq, if_pos hq]
    · rw [if_neg hq, if_neg hq]
  · obtain ⟨a1, a2, a3⟩ := hsa
    simp only [List.length_cons] at a1 a2 hsl
    refine ⟨pI M (m + 5) s1.length (btw c a b), ?_, by simp only [List.length_cons]; omega, Fr.rfl.pI rfl, sa_push a3⟩
    unfold bX12_reckons_4
    simp (disch := omega) only [hM.k, hM.r1, hM.k1, hM.l1, hM.r5, hM.k5, hM.l5, gdI, gdT, Option.bind_some, i_11, i_8, i_132, nI_add, gvI, cl_nI, e1, e2, c_le, hk2, if_false, lte, e3, List.length_cons, nI_1, i_m1, i_sub1, a1, a2, btw_at]
    rw [if_pos h3, if_neg h6, if_neg h9]
  · refine ⟨pI M (m + 5) s.length (w j), ?_, by simp, Fr.rfl.pI rfl, sa_push hsa⟩
    unfold bX12_reckons_4
    simp (disch := omega) only [hM.k, hM.r1, hM.k1, hM.l1, hM.r5, hM.k5, hM.l5, hM.r6, hM.k6, hM.l6, gdI, gdT, Option.bind_some, i_11, i_8, i_132, nI_add, gvI, cl_nI, e1, e2, c_le, hk2, if_false, lte, e3, List.length_cons, nI_1, ej, e4 j hj]
    rw [if_neg h3, if_pos h1]
  · refine ⟨pI M (m + 5) s.length c, ?_, by simp, Fr.rfl.pI rfl, sa_push hsa⟩
    unfold bX12_reckons_4
    simp (disch := omega) only [hM.k, hM.r1, hM.k1, hM.l1, hM.r5, hM.k5, hM.l5, gdI, gdT, Option.bind_some, i_11, i_8, i_132, nI_add, gvI, cl_nI, e1, e2, c_le, hk2, if_false, lte, e3, List.length_cons, nI_1]
    rw [if_neg h3, if_neg h1]
end
theorem s_reck {m : Nat} {T : Sh} {M0 : Me} {lw many fr : Nat} {w : Nat → Int32} (hm : RM m T M0) (hlw : lw < 3) (hmany : gI M0 (m + 1) (11 + lw) = nI many) (hfr : gI M0 (m + 1) (8 + lw) = nI fr) (hb : fr + many ≤ 900) (hw : ∀ k, k < 6 → gI M0 (m + 6) k = w k) : ∀ (cs s s' : List Int32) (k n : Nat) (M : Me), Fr (fun a => a = m + 5) M0 M → k + cs.length = many → s.length ≤ k → (∀ i (hi : i < cs.length), gI M0 (m + 1) (132 + fr + (k + i)) = cs[i]) → rr w cs s = some s' → sa (gI M (m + 5)) s → cs.length < n → Ok (lp n (fun s => bX12_reckons_4 T m (nI lw) s.1 s.2.1 s.2.2) (nI s.length, nI k, M)) (fun M' => sa (gI M' (m + 5)) s' ∧ Fr (fun a => a = m + 5) M0 M') := by
  intro cs
  induction cs with
  | nil =>
    intro s s' k n M hF hk hs hc hr hsa hn
    obtain ⟨n, rfl⟩ : ∃ q, n = q + 1 := ⟨n - 1, by omega⟩
    have hM : RM m T M := hm.fr (fun k => (hF m (by omega)).2.2 k)
    have e1 : gI M (m + 1) (11 + lw) = nI many := ((hF (m + 1) (by omega)).1 _).trans hmany
    simp only [List.length_nil, Nat.add_zero] at hk
    subst hk
    have : rr w [] s = some s := rfl
    rw [this] at hr; cases hr
    refine ⟨M, lp_inr ?_, hsa, hF⟩
    show bX12_reckons_4 T m (nI lw) (nI s.length) (nI k) M = _
    unfold bX12_reckons_4
    simp (disch := omega) only [hM.k, hM.r1, hM.k1, hM.l1, gdI, gdT, Option.bind_some, i_11, nI_add, gvI, cl_nI, e1, Int32.le_refl, if_true]
  | cons c cs ih =>
    intro s s' k n M hF hk hs hc hr hsa hn
    simp only [List.length_cons] at hk hn
    obtain ⟨n, rfl⟩ : ∃ q, n = q + 1 := ⟨n - 1, by omega⟩
    have hM : RM m T M := hm.fr (fun k => (hF m (by omega)).2.2 k)
    have e1 : gI M (m + 1) (11 + lw) = nI many := ((hF (m + 1) (by omega)).1 _).trans hmany
    have e2 : gI M (m + 1) (8 + lw) = nI fr := ((hF (m + 1) (by omega)).1 _).trans hfr
    have e3 : gI M (m + 1) (132 + fr + k) = c := ((hF (m + 1) (by omega)).1 _).trans (hc 0 (by simp))
    have e4 : ∀ k, k < 6 → gI M (m + 6) k = w k := fun k hk => ((hF (m + 6) (by omega)).1 _).trans (hw k hk)
    have hr0 : (rst w c s).bind (rr w cs) = some s' := hr
    cases hst : rst w c s with
    | none => rw [hst] at hr0; cases hr0
    | some s2 =>
      rw [hst] at hr0
      obtain ⟨M2, h2, h3, h4, h5⟩ := s_rstep hM hlw e1 e2 hb (by omega) e3 e4 (by omega) hsa hst
      rw [lp_inl (s' := (nI s2.length, nI (k + 1), M2)) h2]
      refine ih s2 s' (k + 1) n M2 (hF.trans h4) (by omega) (by omega) (fun i hi => ?_) hr0 h5 (by omega)
      have := hc (i + 1) (by simp only [List.length_cons]; omega)
      rw [show k + 1 + i = k + (i + 1) by omega]
      exact this
/-- the reference reckons what its code tells -/
theorem s_reckons {m : Nat} {T : Sh} {M : Me} {lw fr : Nat} {w : Nat → Int32} {cs : List Int32} {r : Int32} (hm : RM m T M) (hlw : lw < 3) (hmany : gI M (m + 1) (11 + lw) = nI cs.length) (hfr : gI M (m + 1) (8 + lw) = nI fr) (hb : fr + cs.length ≤ 900) (hw : ∀ k, k < 6 → gI M (m + 6) k = w k) (hc : ∀ i (hi : i < cs.length), gI M (m + 1) (132 + fr + i) = cs[i]) (hr : rr w cs [] = some [r]) : Ok (fX12_reckons T M m (nI lw)) (fun p => p.1 = r ∧ Fr (fun a => a = m + 5) M p.2) := by
  unfold fX12_reckons
  refine Ok.bd (s_reck hm hlw hmany hfr hb hw cs [] [r] 0 FU M Fr.rfl (by omega) (by simp) (fun i hi => by rw [Nat.zero_add]; exact hc i hi) hr trivial (by show cs.length < 1000000; omega)) (fun M' hM' => ?_)
  obtain ⟨h1, h2⟩ := hM'
  have hM2 : RM m T M' := hm.fr (fun k => (h2 m (by omega)).2.2 k)
  simp (disch := omega) only [hM2.k, hM2.r5, hM2.k5, hM2.l5, gdI, gdT, Option.bind_some, i_0, gvI, cl_nI]
  refine ok_i ⟨h1.1, h2⟩
