/-! what a row A of the reference's numbers tells: a lab, where its lanes pass -/
def stA (A : Nat → Int32) (q : Nat) : Int32 := if q = 0 then 0 else A (37 + q)
def dft (e : Nat) : Int32 := nI e - nI 15
def cod (A : Nat → Int32) (lw : Nat) : List Int32 := if (A (8 + lw)).toNatClampNeg + (A (11 + lw)).toNatClampNeg ≤ 900 then (List.range (A (11 + lw)).toNatClampNeg).map (fun i => A (132 + (A (8 + lw)).toNatClampNeg + i)) else []
def den (A : Nat → Int32) (lw : Nat) (w : Nat → Int32) : Int32 := ((rr w (cod A lw) []).getD []).headD 0
def wds (a b c d e f : Int32) (k : Nat) : Int32 := if k = 0 then a else if k = 1 then b else if k = 2 then c else if k = 3 then d else if k = 4 then e else f
def cl15 (v : Int32) : Int32 := if v < -15 then -15 else if 15 < v then 15 else v
def drI (A : Nat → Int32) (r : Nat) : Int32 := if A 7 = 1 then cl15 (den A 2 (fun _ => nI r)) else 0
def drE (A : Nat → Int32) (r : Nat) : Nat := (drI A r + nI 15).toNatClampNeg
def ab (v : Int32) : Int32 := if v < 0 then -v else v
def psd (A : Nat → Int32) (q e l v d : Nat) : Bool :=
  if A 5 = 1 then decide (den A 0 (wds (nI d) (nI v) (nI l) (stA A q) (dft e) 0) = 1)
  else decide (0 < A (26 + l) - stA A q ∧ ab (nI d - A (14 + l) - dft e) * A (32 + l) + ab (nI v - A (20 + l)) * (A (26 + l) - stA A q) < (A (26 + l) - stA A q) * A (32 + l))
def rwA (A : Nat → Int32) (q e l v : Nat) : Int32 := mk (psd A q e l v) 24
def rsd (A : Nat → Int32) (e l d : Nat) : Bool :=
  if A 6 = 1 then decide (den A 1 (wds (nI d) 0 (nI l) 0 (dft e) 0) = 1) else decide (A (14 + l) + dft e ≤ nI d)
def rsA (A : Nat → Int32) (e l : Nat) : Int32 := mk (rsd A e l) 24
def nlA (A : Nat → Int32) : Nat := (A 3).toNatClampNeg
def npA (A : Nat → Int32) : Nat := (A 4).toNatClampNeg
def asA (A : Nat → Int32) : Nat := (A 1).toNatClampNeg
def hoA (A : Nat → Int32) : Nat := (A 2).toNatClampNeg
def tmA (A : Nat → Int32) : Nat := (A 48).toNatClampNeg
def qA (A : Nat → Int32) : Nat := (A 49 + 1).toNatClampNeg
def ptA (A : Nat → Int32) (l : Nat) : Nat := (A (42 + l)).toNatClampNeg
def nuA (A : Nat → Int32) : Nat := (A 50).toNatClampNeg
/-- the drift at a time, by its place -/
def eT (A : Nat → Int32) (t : Nat) : Nat := drE A (t % 100)
def eA (A : Nat → Int32) : Nat := eT A (tmA A)
def mpA (A : Nat → Int32) (l v : Nat) : Int32 := rwA A (qA A) (eA A) l v
def al (lw j : Nat) : Bool := if lw = 0 then decide (j < 5) else if lw = 1 then decide (j = 0 ∨ j = 2 ∨ j = 4) else decide (j = 5)
def LW (A : Nat → Int32) (lw : Nat) : Prop := A (5 + lw) = 0 ∨ (A (5 + lw) = 1 ∧ (∃ fr n, A (8 + lw) = nI fr ∧ A (11 + lw) = nI n ∧ fr + n ≤ 900) ∧ (∀ w, ∃ r, rr w (cod A lw) [] = some [r] ∧ (lw < 2 → r = 0 ∨ r = 1)) ∧ (∀ w w2 : Nat → Int32, (∀ j, al lw j = true → w j = w2 j) → den A lw w = den A lw w2))
def LV (A : Nat → Int32) : Prop := (A 3 = nI (nlA A) ∧ nlA A ≤ 6) ∧ (A 4 = nI (npA A) ∧ npA A ≤ 4) ∧ (A 1 = nI (asA A) ∧ 1 ≤ asA A ∧ asA A ≤ 9) ∧ (A 2 = nI (hoA A) ∧ 1 ≤ hoA A ∧ hoA A ≤ 9) ∧ (∀ q, q ≤ 4 → ∃ s, s ≤ 9 ∧ stA A q = nI s) ∧ ∀ lw, lw < 3 → LW A lw
def SV (A : Nat → Int32) : Prop := (A 48 = nI (tmA A) ∧ tmA A ≤ 1000000) ∧ (A 49 + 1 = nI (qA A) ∧ qA A ≤ npA A) ∧ ∀ l, l < 6 → A (42 + l) = nI (ptA A l) ∧ ptA A l < 384
section
variable {A : Nat → Int32}
theorem LV.n3 (h : LV A) : A 3 = nI (nlA A) := h.1.1
theorem LV.b3 (h : LV A) : nlA A ≤ 6 := h.1.2
theorem LV.n4 (h : LV A) : A 4 = nI (npA A) := h.2.1.1
theorem LV.b4 (h : LV A) : npA A ≤ 4 := h.2.1.2
theorem LV.n1 (h : LV A) : A 1 = nI (asA A) := h.2.2.1.1
theorem LV.b1 (h : LV A) : 1 ≤ asA A ∧ asA A ≤ 9 := h.2.2.1.2
theorem LV.n2 (h : LV A) : A 2 = nI (hoA A) := h.2.2.2.1.1
theorem LV.b2 (h : LV A) : 1 ≤ hoA A ∧ hoA A ≤ 9 := h.2.2.2.1.2
theorem LV.st (h : LV A) {q : Nat} (hq : q ≤ 4) : ∃ s, s ≤ 9 ∧ stA A q = nI s := h.2.2.2.2.1 q hq
theorem LV.lw (h : LV A) {lw : Nat} (hl : lw < 3) : LW A lw := h.2.2.2.2.2 lw hl
theorem SV.n48 (h : SV A) : A 48 = nI (tmA A) := h.1.1
theorem SV.b48 (h : SV A) : tmA A ≤ 1000000 := h.1.2
theorem SV.n49 (h : SV A) : A 49 + 1 = nI (qA A) := h.2.1.1
theorem SV.b49 (h : SV A) : qA A ≤ npA A := h.2.1.2
theorem SV.pt (h : SV A) {l : Nat} (hl : l < 6) : A (42 + l) = nI (ptA A l) := (h.2.2 l hl).1
theorem SV.ptb (h : SV A) {l : Nat} (hl : l < 6) : ptA A l < 384 := (h.2.2 l hl).2
end
/-! a law's own code -/
theorem cod_eq {A : Nat → Int32} {lw fr n : Nat} (h1 : A (8 + lw) = nI fr) (h2 : A (11 + lw) = nI n) (h : fr + n ≤ 900) : cod A lw = (List.range n).map (fun i => A (132 + fr + i)) := by
  unfold cod
  rw [h1, h2, cl_nI (by omega), cl_nI (by omega), if_pos h]
theorem den_of {A : Nat → Int32} {lw : Nat} {w : Nat → Int32} {r : Int32} (h : rr w (cod A lw) [] = some [r]) : den A lw w = r := by unfold den; rw [h]; rfl
theorem cod_cong {A B : Nat → Int32} {lw : Nat} (hl : lw < 3) (h : ∀ k, 5 ≤ k → k < 14 → A k = B k) (h2 : ∀ k, 132 ≤ k → k < 1032 → A k = B k) : cod A lw = cod B lw := by
  unfold cod
  rw [h (8 + lw) (by omega) (by omega), h (11 + lw) (by omega) (by omega)]
  by_cases hc : (B (8 + lw)).toNatClampNeg + (B (11 + lw)).toNatClampNeg ≤ 900
  · rw [if_pos hc, if_pos hc]
    apply List.map_congr_left
    intro i hi
    rw [List.mem_range] at hi
    exact h2 _ (by omega) (by omega)
  · rw [if_neg hc, if_neg hc]
theorem den_cong {A B : Nat → Int32} {lw : Nat} (hl : lw < 3) (h : ∀ k, 5 ≤ k → k < 14 → A k = B k) (h2 : ∀ k, 132 ≤ k → k < 1032 → A k = B k) : den A lw = den B lw := by
  funext w
  unfold den
  rw [cod_cong hl h h2]
/-- all that a lab tells is the same -/
def LE (A B : Nat → Int32) : Prop := (∀ k, k < 42 → A k = B k) ∧ ∀ k, 132 ≤ k → k < 1032 → A k = B k
theorem LE.symm {A B : Nat → Int32} (h : LE A B) : LE B A := ⟨fun k hk => (h.1 k hk).symm, fun k h1 h2 => (h.2 k h1 h2).symm⟩
theorem LE.trans {A B C : Nat → Int32} (h : LE A B) (h2 : LE B C) : LE A C := ⟨fun k hk => (h.1 k hk).trans (h2.1 k hk), fun k h1 h3 => (h.2 k h1 h3).trans (h2.2 k h1 h3)⟩
theorem LE.rfl {A : Nat → Int32} : LE A A := ⟨fun _ _ => Eq.refl _, fun _ _ _ => Eq.refl _⟩
section
variable {A B : Nat → Int32} (h : LE A B)
theorem LE.hden (h : LE A B) {lw : Nat} (hl : lw < 3) : den A lw = den B lw := den_cong hl (fun k _ h2 => h.1 k (by omega)) h.2
theorem LE.hst (h : LE A B) {q : Nat} (hq : q ≤ 4) : stA A q = stA B q := by
  unfold stA
  rw [h.1 (37 + q) (by omega)]
theorem LE.hps (h : LE A B) {q e l v d : Nat} (hq : q ≤ 4) (hl : l < 6) : psd A q e l v d = psd B q e l v d := by
  unfold psd
  rw [h.hst hq, h.hden (lw := 0) (by omega), h.1 5 (by omega), h.1 (26 + l) (by omega), h.1 (14 + l) (by omega), h.1 (32 + l) (by omega), h.1 (20 + l) (by omega)]
theorem LE.hrw (h : LE A B) {q e l v : Nat} (hq : q ≤ 4) (hl : l < 6) : rwA A q e l v = rwA B q e l v := mk_cong (fun i _ => h.hps hq hl)
theorem LE.hrd (h : LE A B) {e l d : Nat} (hl : l < 6) : rsd A e l d = rsd B e l d := by
  unfold rsd
  rw [h.hden (lw := 1) (by omega), h.1 6 (by omega), h.1 (14 + l) (by omega)]
theorem LE.hrs (h : LE A B) {e l : Nat} (hl : l < 6) : rsA A e l = rsA B e l := mk_cong (fun i _ => h.hrd hl)
theorem LE.hdr (h : LE A B) {r : Nat} : drI A r = drI B r := by
  unfold drI
  rw [h.hden (lw := 2) (by omega), h.1 7 (by omega)]
theorem LE.hde (h : LE A B) {r : Nat} : drE A r = drE B r := by
  unfold drE
  rw [h.hdr]
theorem LE.hLW (h : LE A B) {lw : Nat} (hl : lw < 3) (k : LW A lw) : LW B lw := by
  unfold LW at k ⊢
  rw [← h.1 (5 + lw) (by omega), ← h.1 (8 + lw) (by omega), ← h.1 (11 + lw) (by omega), ← h.hden hl, ← cod_cong hl (fun k _ h2 => h.1 k (by omega)) h.2]
  exact k
theorem LE.hLV (h : LE A B) (k : LV A) : LV B := by
  unfold LV nlA npA asA hoA at k ⊢
  rw [← h.1 3 (by omega), ← h.1 4 (by omega), ← h.1 1 (by omega), ← h.1 2 (by omega)]
  obtain ⟨k1, k2, k3, k4, k5, k6⟩ := k
  exact ⟨k1, k2, k3, k4, fun q hq => by rw [← h.hst hq]; exact k5 q hq, fun lw hl => h.hLW hl (k6 lw hl)⟩
end
/-! the drift is small -/
theorem cl15_b (v : Int32) : ∃ e, e ≤ 30 ∧ cl15 v + nI 15 = nI e := by
  have key : -15 ≤ (cl15 v).toInt ∧ (cl15 v).toInt ≤ 15 := by
    unfold cl15
    by_cases h1 : v < -15
    · rw [if_pos h1]; decide
    · rw [if_neg h1]
      by_cases h2 : 15 < v
      · rw [if_pos h2]; decide
      · rw [if_neg h2]
        rw [fa_lt] at h1 h2
        have e1 : (-15 : Int32).toInt = -15 := by decide
        have e2 : (15 : Int32).toInt = 15 := by decide
        omega
  generalize cl15 v = u at key
  refine ⟨(u.toInt + 15).toNat, by omega, ?_⟩
  rw [fa_eq, nI_toInt (by omega), Int32.toInt_add, nI_toInt (by omega)]
  rw [Int.bmod_eq_of_le (by omega) (by omega)]
  omega
theorem drE_b (A : Nat → Int32) (r : Nat) : drE A r ≤ 30 ∧ drI A r = dft (drE A r) := by
  have h : ∃ e, e ≤ 30 ∧ drI A r + nI 15 = nI e := by
    unfold drI
    by_cases h : A 7 = 1
    · rw [if_pos h]; exact cl15_b _
    · rw [if_neg h]; exact ⟨15, by omega, by decide⟩
  obtain ⟨e, he, h2⟩ := h
  have h3 : drE A r = e := by unfold drE; rw [h2, cl_nI (by omega)]
  refine ⟨by omega, ?_⟩
  rw [h3]
  unfold dft
  rw [← h2]
  apply Int32.toBitVec_inj.mp
  simp
theorem eT_b (A : Nat → Int32) (t : Nat) : eT A t ≤ 30 := (drE_b A _).1
theorem dft_15 {e : Nat} (h : e ≤ 30) : dft e + nI 15 = nI e := by
  unfold dft
  apply Int32.toBitVec_inj.mp
  simp
