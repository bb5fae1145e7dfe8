/-! the class cuts a text into tokens -/
def cb (c : Nat) : Int32 := (nI c).toInt8.toInt32
theorem cb_S : ∀ c, c < 256 → fX9_isLetter (cb c) = some (if isS c = true then 1 else 0) := by decide +kernel
theorem cb_D : ∀ c, c < 256 → fX9_isDigit (cb c) = some (if isD c = true then 1 else 0) := by decide +kernel
theorem cb_10 : ∀ c, c < 256 → (cb c = 10 ↔ c = 10) := by decide +kernel
theorem cb_32 : ∀ c, c < 256 → (cb c = 32 ↔ c = 32) := by decide +kernel
theorem cb_n : ∀ c, c < 128 → cb c = nI c := by decide +kernel
theorem cb_pos : ∀ c, c < 256 → ¬ cb c ≤ 0 → c < 128 := by decide +kernel
theorem cb_neg : ∀ c, c < 256 → cb c ≤ 0 → sg c = 27 := by decide +kernel
theorem cb_ix : ∀ c, c < 128 → fJ0_indexOf_0f7a4 23 (UInt32.toInt32 (Int32.toUInt32 (nI c) % 65536)) = some (if sg c = 27 then -1 else nI (sg c - 30)) := by decide +kernel
theorem cb_ck : ∀ c, c < 128 → sg c ≠ 27 → ck (sg c) = nI c := by decide +kernel
theorem sg_b (c : Nat) : sg c = 27 ∨ (30 ≤ sg c ∧ sg c < 42) := sgf_b c 12 (Nat.le_refl _)
section
variable {x n N : Nat} {b : Nat → Nat} {T : Sh} {M M1 M2 : Me}
/-- what the class's tokens change -/
def KF (x : Nat) (M M2 : Me) : Prop := (∀ a k, ¬ (a = x + 3 ∧ k = 3) → a ≠ x + 4 → a ≠ x + 5 → a ≠ x + 6 → gI M2 a k = gI M a k) ∧ M2.2 = M.2
theorem KF.rfl : KF x M M := ⟨fun _ _ _ _ _ _ => Eq.refl _, Eq.refl _⟩
theorem KF.trans (h : KF x M M1) (h2 : KF x M1 M2) : KF x M M2 := ⟨fun a k p q r s => (h2.1 a k p q r s).trans (h.1 a k p q r s), h2.2.trans h.2⟩
/-- the text -/
def TX (x n : Nat) (b : Nat → Nat) (M : Me) : Prop := n ≤ 900 ∧ (∀ i, b i < 256) ∧ ∀ i, i < n → gI M (x + 1) i = cb (b i)
theorem TX.kf (h : TX x n b M) (f : KF x M M2) : TX x n b M2 := ⟨h.1, h.2.1, fun i hi => (f.1 _ _ (by omega) (by omega) (by omega) (by omega)).trans (h.2.2 i hi)⟩
theorem PX.kf (h : PX x T M) (f : KF x M M2) : PX x T M2 := h.eq (by rw [f.2])
theorem c_add {i : Nat} {k p v : Int32} (hp : PX x T M) (hs : gI M (x + 3) 3 = nI i) (hi : i < 901) : Ok (fX9_add T M (x + 3) k p v) (fun q => KF x M q.2 ∧ gI q.2 (x + 3) 3 = nI (i + 1) ∧ (gI q.2 (x + 4) i = k ∧ gI q.2 (x + 5) i = p ∧ gI q.2 (x + 6) i = v) ∧ ∀ a j, j < i → a = x + 4 ∨ a = x + 5 ∨ a = x + 6 → gI q.2 a j = gI M a j) := by
  unfold fX9_add
  have n1 : ¬ x + 3 = x + 4 := by omega
  have n2 : ¬ x + 3 = x + 5 := by omega
  have n3 : ¬ x + 3 = x + 6 := by omega
  simp (disch := omega) only [gdI, gdT, Option.bind_some, lte, hp.k3, hp.r3_0, hp.k4, hp.l4, hs, c_le, Nat.not_le.mpr hi, if_false, gvI, cl_nI, mRI, hp.r3_1, hp.r3_2, hp.k5, hp.l5, hp.k6, hp.l6, mII, n1, n2, n3, false_and, nI_1]
  refine ok_i ⟨⟨fun a q z1 z2 z3 z4 => ?_, rfl⟩, ?_, ⟨?_, ?_, ?_⟩, fun a j hj ha => ?_⟩
  · show gI (pI (pI (pI (pI M (x + 4) i k) (x + 5) i p) (x + 6) i v) (x + 3) 3 (nI (i + 1))) a q = gI M a q
    rw [mII, if_neg z1, mIIn z4, mIIn z3, mIIn z2]
  · exact mII1
  · show gI (pI (pI (pI (pI M (x + 4) i k) (x + 5) i p) (x + 6) i v) (x + 3) 3 (nI (i + 1))) (x + 4) i = k
    rw [mIIn (by omega), mIIn (by omega), mIIn (by omega), mII1]
  · show gI (pI (pI (pI (pI M (x + 4) i k) (x + 5) i p) (x + 6) i v) (x + 3) 3 (nI (i + 1))) (x + 5) i = p
    rw [mIIn (by omega), mIIn (by omega), mII1]
  · show gI (pI (pI (pI (pI M (x + 4) i k) (x + 5) i p) (x + 6) i v) (x + 3) 3 (nI (i + 1))) (x + 6) i = v
    rw [mIIn (by omega), mII1]
  · show gI (pI (pI (pI (pI M (x + 4) i k) (x + 5) i p) (x + 6) i v) (x + 3) 3 (nI (i + 1))) a j = gI M a j
    rw [mIIn (by omega), mIIk (by omega), mIIk (by omega), mIIk (by omega)]
theorem c_endW {p : Nat} (hp : PX x T M) (ht : TX x n b M) (h : p ≤ n) : fX9_endOfWord T M (x + 1) (nI p) (nI n) = some (nI (aw (fun j => isS (b j)) n p)) := by
  obtain ⟨k1, k2, k3, k4⟩ := aw_sp (fun j => isS (b j)) h
  obtain ⟨t1, t2, t3⟩ := ht
  unfold fX9_endOfWord
  rw [lp_itG (s0 := nI p) (fun i => nI (p + i)) (aw (fun j => isS (b j)) n p - p) (nI (aw (fun j => isS (b j)) n p)) rfl (by omega)]
  · rfl
  · intro i hi
    show bX9_endOfWord_2 T M (x + 1) (nI n) (nI (p + i)) = some (.inl (nI (p + i + 1)))
    have hs : isS (b (p + i)) = true := k3 (p + i) (by omega) (by omega)
    have hl : fX9_isLetter (cb (b (p + i))) = some 1 := by rw [cb_S _ (t2 _), if_pos hs]
    unfold bX9_endOfWord_2
    rw [ite_le (by omega) (by omega), if_neg (by omega), hp.k1, gdI, hp.l1, gvI (by omega) (by omega), cl_nI (by omega), t3 _ (by omega), hl, Option.bind_some, if_neg (by decide), lte, nI_1]
  · show bX9_endOfWord_2 T M (x + 1) (nI n) (nI (p + (aw (fun j => isS (b j)) n p - p))) = some (.inr (nI (aw (fun j => isS (b j)) n p)))
    rw [show p + (aw (fun j => isS (b j)) n p - p) = aw (fun j => isS (b j)) n p by omega]
    unfold bX9_endOfWord_2
    rw [ite_le (by omega) (by omega)]
    by_cases z : n ≤ aw (fun j => isS (b j)) n p
    · rw [if_pos z]
    · have hs : isS (b (aw (fun j => isS (b j)) n p)) = false := k4 (by omega)
      have hl : fX9_isLetter (cb (b (aw (fun j => isS (b j)) n p))) = some 0 := by rw [cb_S _ (t2 _), if_neg (by rw [hs]; decide)]
      rw [if_neg z, hp.k1, gdI, hp.l1, gvI (by omega) (by omega), cl_nI (by omega), t3 _ (by omega), hl, Option.bind_some, if_pos rfl]
theorem c_endD {p : Nat} (hp : PX x T M) (ht : TX x n b M) (h : p ≤ n) : fX9_endOfDigits T M (x + 1) (nI p) (nI n) = some (nI (aw (fun j => isD (b j)) n p)) := by
  obtain ⟨k1, k2, k3, k4⟩ := aw_sp (fun j => isD (b j)) h
  obtain ⟨t1, t2, t3⟩ := ht
  unfold fX9_endOfDigits
  rw [lp_itG (s0 := nI p) (fun i => nI (p + i)) (aw (fun j => isD (b j)) n p - p) (nI (aw (fun j => isD (b j)) n p)) rfl (by omega)]
  · rfl
  · intro i hi
    show bX9_endOfDigits_2 T M (x + 1) (nI n) (nI (p + i)) = some (.inl (nI (p + i + 1)))
    have hs : isD (b (p + i)) = true := k3 (p + i) (by omega) (by omega)
    have hl : fX9_isDigit (cb (b (p + i))) = some 1 := by rw [cb_D _ (t2 _), if_pos hs]
    unfold bX9_endOfDigits_2
    rw [ite_le (by omega) (by omega), if_neg (by omega), hp.k1, gdI, hp.l1, gvI (by omega) (by omega), cl_nI (by omega), t3 _ (by omega), hl, Option.bind_some, if_neg (by decide), lte, nI_1]
  · show bX9_endOfDigits_2 T M (x + 1) (nI n) (nI (p + (aw (fun j => isD (b j)) n p - p))) = some (.inr (nI (aw (fun j => isD (b j)) n p)))
    rw [show p + (aw (fun j => isD (b j)) n p - p) = aw (fun j => isD (b j)) n p by omega]
    unfold bX9_endOfDigits_2
    rw [ite_le (by omega) (by omega)]
    by_cases z : n ≤ aw (fun j => isD (b j)) n p
    · rw [if_pos z]
    · have hs : isD (b (aw (fun j => isD (b j)) n p)) = false := k4 (by omega)
      have hl : fX9_isDigit (cb (b (aw (fun j => isD (b j)) n p))) = some 0 := by rw [cb_D _ (t2 _), if_neg (by rw [hs]; decide)]
      rw [if_neg z, hp.k1, gdI, hp.l1, gvI (by omega) (by omega), cl_nI (by omega), t3 _ (by omega), hl, Option.bind_some, if_pos rfl]
theorem isD_b {c : Nat} (h : isD c = true) : 48 ≤ c ∧ c ≤ 57 := of_decide_eq_true h
theorem vl_b {b : Nat → Nat} {a : Nat} : ∀ k, k ≤ 3 → (∀ j, j < k → isD (b (a + j)) = true) → vl b a k < 10 ^ k
  | 0, _, _ => by show 0 < 1; omega
  | k + 1, hk, h => by
    have h1 := vl_b k (by omega) (fun j hj => h j (by omega))
    have h2 := isD_b (h k (by omega))
    unfold vl
    rw [Nat.pow_succ]
    omega
theorem c_val {a k : Nat} (hp : PX x T M) (ht : TX x n b M) (hk : k ≤ 3) (ha : a + k ≤ n) (hd : ∀ j, j < k → isD (b (a + j)) = true) : fX9_valueOf T M (x + 1) (nI a) (nI (a + k)) = some (nI (vl b a k)) := by
  obtain ⟨t1, t2, t3⟩ := ht
  unfold fX9_valueOf
  rw [lp_itG (s0 := ((0 : Int32), nI a)) (fun i => (nI (vl b a i), nI (a + i))) k (nI (vl b a k)) rfl (by omega)]
  · rfl
  · intro i hi
    show bX9_valueOf_5 T M (x + 1) (nI (a + k)) (nI (vl b a i)) (nI (a + i)) = some (.inl (nI (vl b a (i + 1)), nI (a + i + 1)))
    have h2 := isD_b (hd i hi)
    unfold bX9_valueOf_5
    rw [ite_le (by omega) (by omega), if_neg (by omega), hp.k1, gdI, hp.l1, gvI (by omega) (by omega), cl_nI (by omega), t3 _ (by omega), cb_n _ (by omega), lte, lte, nI_1, i_10, i_48, c_mul, nI_add, c_sub (by omega)]
    show some (Sum.inl (nI (10 * vl b a i + b (a + i) - 48), nI (a + i + 1))) = some (Sum.inl (nI (10 * vl b a i + (b (a + i) - 48)), nI (a + i + 1)))
    rw [show 10 * vl b a i + b (a + i) - 48 = 10 * vl b a i + (b (a + i) - 48) by omega]
  · show bX9_valueOf_5 T M (x + 1) (nI (a + k)) (nI (vl b a k)) (nI (a + k)) = some (.inr (nI (vl b a k)))
    unfold bX9_valueOf_5
    rw [ite_le (by omega) (by omega), if_pos (Nat.le_refl _)]
end
