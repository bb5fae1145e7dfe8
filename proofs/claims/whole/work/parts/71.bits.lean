theorem ite_le {α : Type} {a b : Nat} {u v : α} (ha : a < 2147483648) (hb : b < 2147483648) : (if nI a ≤ nI b then u else v) = if a ≤ b then u else v := by simp only [c_le ha hb]
theorem ite_lt {α : Type} {a b : Nat} {u v : α} (ha : a < 2147483648) (hb : b < 2147483648) : (if nI a < nI b then u else v) = if a < b then u else v := by simp only [c_lt ha hb]
theorem ite_eq {α : Type} {a b : Nat} {u v : α} (ha : a < 2147483648) (hb : b < 2147483648) : (if nI a = nI b then u else v) = if a = b then u else v := by simp only [c_eq ha hb]
/-! bits: one of a row, how many, the most next to one another -/
theorem bt_nI (n : Nat) {i : Nat} (hi : i < 32) : bt (nI n) i = n.testBit i := by
  unfold bt
  show (BitVec.ofNat 32 n).getLsbD i = _
  rw [BitVec.getLsbD_ofNat]; simp [hi]
theorem s_l64 : ∀ n, n < 32 → (((nI n).toInt64 &&& 63).toBitVec.smod 64).toNat = n := by decide +kernel
theorem one64 (b : Bool) : (BitVec.setWidth 64 (BitVec.ofBool b) = 1#64) = (b = true) := by cases b <;> decide
theorem isIn_at (x : Int32) {d : Nat} (hd : d < 32) : fX12_isIn x.toInt64 (nI d) = some (b2 (bt x d)) := by
  have e : x.toInt64.toBitVec.getLsbD d = bt x d := by
    show (x.toBitVec.signExtend 64).getLsbD d = x.toBitVec.getLsbD d
    rw [BitVec.getLsbD_signExtend]
    simp [hd]; omega
  have key : ((x.toInt64 >>> ((nI d).toInt64 &&& 63)) &&& (1 : Int64) = 1) = (bt x d = true) := by
    rw [← Int64.toBitVec_inj, Int64.toBitVec_and, Int64.toBitVec_shiftRight]
    show (x.toInt64.toBitVec.sshiftRight (((nI d).toInt64 &&& 63).toBitVec.smod 64).toNat &&& 1#64 = 1#64) = _
    rw [s_l64 d hd, BitVec.and_one_eq_setWidth_ofBool_getLsbD, one64, BitVec.getLsbD_sshiftRight, Nat.add_zero, if_pos (by omega), e]
    simp
  unfold fX12_isIn
  simp only [lc_eq, key]
  cases bt x d <;> rfl
theorem nx_ushG {k j : Nat} (hk : k < 4294967296) (hj : j < 32) : ((nI k).toUInt32 >>> ((nI j).toUInt32 &&& Int32.toUInt32 31)).toInt32 = nI (k >>> j) := by
  apply b_ext
  intro i hi
  rw [b_ushr j hj, bt_nI _ hi, Nat.testBit_shiftRight]
  rcases Nat.lt_or_ge (j + i) 32 with h | h
  · rw [bt_nI _ h]
  · rw [b_big h]
    exact (Nat.testBit_lt_two_pow (Nat.lt_of_lt_of_le hk (Nat.pow_le_pow_right (n := 2) (by omega) h))).symm
theorem and16 {a b c d : Nat} (hb : b < 16) (hd : d < 16) : (16 * a + b) &&& (16 * c + d) = 16 * (a &&& c) + (b &&& d) := by
  have h1 : ((16 * a + b) &&& (16 * c + d)) / 2 ^ 4 = a &&& c := by
    rw [Nat.and_div_two_pow, show (16 * a + b) / 2 ^ 4 = a by omega, show (16 * c + d) / 2 ^ 4 = c by omega]
  have h2 : ((16 * a + b) &&& (16 * c + d)) % 2 ^ 4 = b &&& d := by
    rw [Nat.and_mod_two_pow, show (16 * a + b) % 2 ^ 4 = b by omega, show (16 * c + d) % 2 ^ 4 = d by omega]
  omega
def pm5 : Nat → Nat
  | 0 => 0
  | k + 1 => 16 * pm5 k + 5
def pm3 : Nat → Nat
  | 0 => 0
  | k + 1 => 16 * pm3 k + 3
def pv1 (k X : Nat) : Nat := X - ((X / 2) &&& pm5 k)
def pv2 (k X : Nat) : Nat := (pv1 k X &&& pm3 k) + ((pv1 k X / 4) &&& pm3 k)
def pnb : Nat → Nat → Nat
  | 0, _ => 0
  | k + 1, X => 16 * pnb k (X / 16) + fb_ct (Nat.testBit (X % 16)) 4
theorem pt1 : ∀ a, a < 2 → ∀ b, b < 8 → (8 * a + b) &&& 5 = b &&& 5 := by decide +kernel
theorem pt2 : ∀ a, a < 4 → ∀ b, b < 4 → (4 * a + b) &&& 3 = b &&& 3 := by decide +kernel
theorem pt3 : ∀ n, n < 16 → ((n - (n / 2 &&& 5)) &&& 3) + ((n - (n / 2 &&& 5)) / 4 &&& 3) = fb_ct (Nat.testBit n) 4 := by decide +kernel
theorem pt4 : ∀ n, n < 16 → n &&& 15 = n := by decide +kernel
theorem pv1_succ (k X : Nat) : pv1 (k + 1) X = 16 * pv1 k (X / 16) + (X % 16 - ((X % 16 / 2) &&& 5)) := by
  unfold pv1
  rw [pm5]
  have e : X / 2 = 16 * (X / 16 / 2) + (8 * (X / 16 % 2) + X % 16 / 2) := by omega
  rw [e, and16 (by omega) (by omega), pt1 _ (by omega) _ (by omega)]
  have h1 : (X / 16 / 2 &&& pm5 k) ≤ X / 16 := Nat.le_trans Nat.and_le_left (by omega)
  have h2 : (X % 16 / 2 &&& 5) ≤ X % 16 := Nat.le_trans Nat.and_le_left (by omega)
  omega
theorem pv2_eq : ∀ k X, pv2 k X = pnb k X
  | 0, X => by unfold pv2 pm3 pnb; rw [Nat.and_zero, Nat.and_zero]
  | k + 1, X => by
    have ih := pv2_eq k (X / 16)
    unfold pv2 at ih ⊢
    rw [pnb, ← ih, pv1_succ, pm3, ← pt3 _ (Nat.mod_lt _ (by omega))]
    have hlo : X % 16 - ((X % 16 / 2) &&& 5) < 16 := by omega
    generalize X % 16 - ((X % 16 / 2) &&& 5) = lo at *
    generalize pv1 k (X / 16) = Y
    rw [show (16 * Y + lo) / 4 = 16 * (Y / 4) + (4 * (Y % 4) + lo / 4) by omega, and16 hlo (by omega), and16 (by omega) (by omega), pt2 _ (by omega) _ (by omega)]
    omega
theorem bitc_sum (X : Nat) : fb_ct X.testBit 32 = fb_ct (Nat.testBit (X % 16)) 4 + fb_ct (Nat.testBit (X / 16 % 16)) 4 + fb_ct (Nat.testBit (X / 16 / 16 % 16)) 4 + fb_ct (Nat.testBit (X / 16 / 16 / 16 % 16)) 4 + fb_ct (Nat.testBit (X / 16 / 16 / 16 / 16 % 16)) 4 + fb_ct (Nat.testBit (X / 16 / 16 / 16 / 16 / 16 % 16)) 4 + fb_ct (Nat.testBit (X / 16 / 16 / 16 / 16 / 16 / 16 % 16)) 4 + fb_ct (Nat.testBit (X / 16 / 16 / 16 / 16 / 16 / 16 / 16 % 16)) 4 := by
  have st : ∀ (X k : Nat), fb_ct X.testBit (4 + k) = fb_ct (Nat.testBit (X % 16)) 4 + fb_ct (Nat.testBit (X / 16)) k := by
    intro X k
    rw [fb_ct_split]
    congr 1
    · apply fb_ct_cong
      intro i hi
      rw [show X % 16 = X % 2 ^ 4 from rfl, Nat.testBit_mod_two_pow]
      simp [hi]
    · apply fb_ct_cong
      intro i _
      rw [show X / 16 = X / 2 ^ 4 from rfl, Nat.testBit_div_two_pow, Nat.add_comm]
  rw [show 32 = 4 + (4 + (4 + (4 + (4 + (4 + (4 + (4 + 0))))))) from rfl, st, st, st, st, st, st, st, st]
  have z : ∀ p, fb_ct p 0 = 0 := fun p => rfl
  rw [z]
  omega
set_option maxRecDepth 4000 in
theorem bitCount_at {X : Nat} (h : X < 2147483648) : fJ6_bitCount_0f7a4 (nI X) = some (nI (fb_ct X.testBit 32)) := by
  have m5 : (1431655765 : Int32) = nI (pm5 8) := Eq.trans rfl rfl
  have m3 : (858993459 : Int32) = nI (pm3 8) := Eq.trans rfl rfl
  have mf : (252645135 : Int32) = nI 252645135 := Eq.trans rfl rfl
  have hle : (X / 2 &&& pm5 8) ≤ X := Nat.le_trans Nat.and_le_left (by omega)
  have e1 : nI X - ((nI X).toUInt32 >>> ((1 : Int32).toUInt32 &&& Int32.toUInt32 31)).toInt32 &&& 1431655765 = nI X - ((nI X).toUInt32 >>> ((1 : Int32).toUInt32 &&& Int32.toUInt32 31)).toInt32 &&& 1431655765 := rfl
  unfold fJ6_bitCount_0f7a4
  simp only [lte]
  rw [m5, m3, mf, i_1, i_2, i_4, i_8, i_16, i_63, nx_ushG (by omega) (by omega), fa_and, show X >>> 1 = X / 2 from Nat.shiftRight_eq_div_pow X 1, c_sub hle]
  have hv1 : X - (X / 2 &&& pm5 8) = pv1 8 X := rfl
  rw [hv1]
  have hb1 : pv1 8 X ≤ X := Nat.sub_le _ _
  rw [nx_ushG (by omega) (by omega), fa_and, fa_and, show pv1 8 X >>> 2 = pv1 8 X / 4 from Nat.shiftRight_eq_div_pow _ 2, nI_add, show (pv1 8 X &&& pm3 8) + (pv1 8 X / 4 &&& pm3 8) = pnb 8 X from pv2_eq 8 X, bitc_sum]
  have e2 : pnb 8 X = 16 * (16 * (16 * (16 * (16 * (16 * (16 * (16 * 0 + fb_ct (Nat.testBit (X / 16 / 16 / 16 / 16 / 16 / 16 / 16 % 16)) 4) + fb_ct (Nat.testBit (X / 16 / 16 / 16 / 16 / 16 / 16 % 16)) 4) + fb_ct (Nat.testBit (X / 16 / 16 / 16 / 16 / 16 % 16)) 4) + fb_ct (Nat.testBit (X / 16 / 16 / 16 / 16 % 16)) 4) + fb_ct (Nat.testBit (X / 16 / 16 / 16 % 16)) 4) + fb_ct (Nat.testBit (X / 16 / 16 % 16)) 4) + fb_ct (Nat.testBit (X / 16 % 16)) 4) + fb_ct (Nat.testBit (X % 16)) 4 := Eq.trans rfl rfl
  rw [e2]
  have b0 := fb_ct_le (Nat.testBit (X % 16)) 4
  have b1 := fb_ct_le (Nat.testBit (X / 16 % 16)) 4
  have b2 := fb_ct_le (Nat.testBit (X / 16 / 16 % 16)) 4
  have b3 := fb_ct_le (Nat.testBit (X / 16 / 16 / 16 % 16)) 4
  have b4 := fb_ct_le (Nat.testBit (X / 16 / 16 / 16 / 16 % 16)) 4
  have b5 := fb_ct_le (Nat.testBit (X / 16 / 16 / 16 / 16 / 16 % 16)) 4
  have b6 := fb_ct_le (Nat.testBit (X / 16 / 16 / 16 / 16 / 16 / 16 % 16)) 4
  have b7 := fb_ct_le (Nat.testBit (X / 16 / 16 / 16 / 16 / 16 / 16 / 16 % 16)) 4
  generalize fb_ct (Nat.testBit (X % 16)) 4 = c0 at *
  generalize fb_ct (Nat.testBit (X / 16 % 16)) 4 = c1 at *
  generalize fb_ct (Nat.testBit (X / 16 / 16 % 16)) 4 = c2 at *
  generalize fb_ct (Nat.testBit (X / 16 / 16 / 16 % 16)) 4 = c3 at *
  generalize fb_ct (Nat.testBit (X / 16 / 16 / 16 / 16 % 16)) 4 = c4 at *
  generalize fb_ct (Nat.testBit (X / 16 / 16 / 16 / 16 / 16 % 16)) 4 = c5 at *
  generalize fb_ct (Nat.testBit (X / 16 / 16 / 16 / 16 / 16 / 16 % 16)) 4 = c6 at *
  generalize fb_ct (Nat.testBit (X / 16 / 16 / 16 / 16 / 16 / 16 / 16 % 16)) 4 = c7 at *
  clear hle e1 hv1 hb1 e2 m5 m3 mf
  generalize hY : 16 * (16 * (16 * (16 * (16 * (16 * (16 * (16 * 0 + c7) + c6) + c5) + c4) + c3) + c2) + c1) + c0 = Y
  rw [nx_ushG (by omega) (by omega), nI_add, fa_and, show Y >>> 4 = Y / 16 from Nat.shiftRight_eq_div_pow _ 4]
  have e3 : Y + Y / 16 = 16 * (16 * (16 * (16 * (16 * (16 * (16 * c7 + (c6 + c7)) + (c5 + c6)) + (c4 + c5)) + (c3 + c4)) + (c2 + c3)) + (c1 + c2)) + (c0 + c1) := by omega
  have e4 : 252645135 = 16 * (16 * (16 * (16 * (16 * (16 * (16 * 0 + 15) + 0) + 15) + 0) + 15) + 0) + 15 := by decide
  have e5 : (Y + Y / 16) &&& 252645135 = (c0 + c1) + 256 * (c2 + c3) + 65536 * (c4 + c5) + 16777216 * (c6 + c7) := by
    rw [e3, e4, and16 (by omega) (by omega), and16 (by omega) (by omega), and16 (by omega) (by omega), and16 (by omega) (by omega), and16 (by omega) (by omega), and16 (by omega) (by omega), and16 (by omega) (by omega), pt4 _ (by omega), pt4 _ (by omega), pt4 _ (by omega), pt4 _ (by omega), Nat.and_zero, Nat.and_zero, Nat.and_zero, Nat.and_zero]
    omega
  rw [e5]
  generalize hZ : (c0 + c1) + 256 * (c2 + c3) + 65536 * (c4 + c5) + 16777216 * (c6 + c7) = Z
  rw [nx_ushG (by omega) (by omega), nI_add, show Z >>> 8 = Z / 256 from Nat.shiftRight_eq_div_pow _ 8]
  have e6 : Z + Z / 256 = (c0 + c1 + (c2 + c3)) + 256 * (c2 + c3 + (c4 + c5)) + 65536 * (c4 + c5 + (c6 + c7)) + 16777216 * (c6 + c7) := by omega
  rw [e6]
  generalize hV : (c0 + c1 + (c2 + c3)) + 256 * (c2 + c3 + (c4 + c5)) + 65536 * (c4 + c5 + (c6 + c7)) + 16777216 * (c6 + c7) = V
  rw [nx_ushG (by omega) (by omega), nI_add, fa_and, show V >>> 16 = V / 65536 from Nat.shiftRight_eq_div_pow _ 16]
  rw [show (63 : Nat) = 2 ^ 6 - 1 from rfl, Nat.and_two_pow_sub_one_eq_mod]
  refine congrArg (fun z => some (nI z)) ?_
  clear e3 e4 e5 e6 hZ hY h
  have hd : V / 65536 = (c4 + c5 + (c6 + c7)) + 256 * (c6 + c7) := by omega
  rw [hd]
  have e7 : V + ((c4 + c5 + (c6 + c7)) + 256 * (c6 + c7)) = (c0 + c1 + c2 + c3 + c4 + c5 + c6 + c7) + 64 * (4 * (c2 + c3 + (c4 + c5)) + 1024 * (c4 + c5 + (c6 + c7)) + 262144 * (c6 + c7) + 4 * (c6 + c7)) := by omega
  rw [e7, show (2 : Nat) ^ 6 = 64 from rfl, Nat.add_mul_mod_self_left, Nat.mod_eq_of_lt (by omega)]
theorem bitCount_mk {p : Nat → Bool} {n : Nat} (hn : n ≤ 31) : fJ6_bitCount_0f7a4 (mk p n) = some (nI (fb_ct p n)) := by
  obtain ⟨b, hb, e⟩ := mk_nI p n hn
  have h31 : b < 2147483648 := Nat.lt_of_lt_of_le hb (show 2 ^ n ≤ 2 ^ 31 from Nat.pow_le_pow_right (by omega) hn)
  rw [e, bitCount_at h31]
  refine congrArg (fun z => some (nI z)) ?_
  have hb : ∀ i, i < 32 → b.testBit i = (decide (i < n) && p i) := fun i hi => by rw [← bt_nI b hi, ← e, bt_mk p n i (by omega) hi]
  have z : fb_ct (fun k => b.testBit (n + k)) (32 - n) = 0 := fb_ct_zero.mpr (fun k hk => by rw [hb _ (by omega)]; simp [show ¬ (n + k < n) by omega])
  rw [show 32 = n + (32 - n) by omega, fb_ct_split, z, Nat.add_zero]
  exact fb_ct_cong (fun k hk => by rw [hb _ (by omega)]; simp [hk])
theorem bitsOf_at (x : Int32) : fX12_bitsOf x = some (nI (fb_ct (bt x) 24)) := by
  suffices key : lp FU (fun s => bX12_bitsOf_4 x s.1 s.2) ((0 : Int32), (0 : Int32)) = some (nI (fb_ct (bt x) 24)) by
    unfold fX12_bitsOf
    rw [key]; rfl
  refine lp_itG (fun i => (nI (fb_ct (bt x) i), nI i)) 24 _ rfl (by omega) (fun i hi => ?_) ?_
  · show bX12_bitsOf_4 x (nI (fb_ct (bt x) i)) (nI i) = _
    unfold bX12_bitsOf_4
    simp (disch := omega) only [gdI, gdT, Option.bind_some, lte, une2, une3, nI_add, gvI, cl_nI, c_le, c_lt, c_eq, Sum.elim_inl, Sum.elim_inr, i_24, Nat.not_le.mpr hi, if_false, nI_1]
    rw [bit_at (by omega), fb_ct_succ]
    cases bt x i
    · show some (Sum.inl (nI _ + 0, _)) = _
      rw [Int32.add_zero]; rfl
    · show some (Sum.inl (nI _ + 1, _)) = _
      rw [nI_1]; rfl
  · show bX12_bitsOf_4 x (nI (fb_ct (bt x) 24)) (nI 24) = _
    unfold bX12_bitsOf_4
    rw [i_24, if_pos (by decide)]
theorem bitsOf_mk {p : Nat → Bool} {n : Nat} (hn : n ≤ 24) : fX12_bitsOf (mk p n) = some (nI (fb_ct p n)) := by
  rw [bitsOf_at]
  refine congrArg (fun z => some (nI z)) ?_
  have hb : ∀ i, i < 32 → bt (mk p n) i = (decide (i < n) && p i) := fun i hi => bt_mk p n i (by omega) hi
  have z : fb_ct (fun k => bt (mk p n) (n + k)) (24 - n) = 0 := fb_ct_zero.mpr (fun k hk => by rw [hb _ (by omega)]; simp [show ¬ (n + k < n) by omega])
  rw [show 24 = n + (24 - n) by omega, fb_ct_split, z, Nat.add_zero]
  exact fb_ct_cong (fun k hk => by rw [hb _ (by omega)]; simp [hk])
/-! the most next to one another, the first of them: most, so many till here, where the first begins -/
def rn (b : Nat → Bool) (s k : Nat) : Prop := ∀ i, i < k → b (s + i) = true
def lgst (b : Nat → Bool) : Nat → Nat × Nat × Nat
  | 0 => (0, 0, 0)
  | d + 1 => if (lgst b d).1 < (if b d = true then (lgst b d).2.1 + 1 else 0) then ((if b d = true then (lgst b d).2.1 + 1 else 0), (if b d = true then (lgst b d).2.1 + 1 else 0), d + 1 - (if b d = true then (lgst b d).2.1 + 1 else 0)) else ((lgst b d).1, (if b d = true then (lgst b d).2.1 + 1 else 0), (lgst b d).2.2)
def LI (b : Nat → Bool) (d m n f : Nat) : Prop := (n ≤ d ∧ rn b (d - n) n ∧ (n < d → b (d - n - 1) = false)) ∧ (∀ s k, s + k ≤ d → rn b s k → k ≤ m) ∧ (n ≤ m ∧ m ≤ d) ∧ (m = 0 ∨ f + m ≤ d ∧ rn b f m ∧ ∀ s, s < f → ¬ rn b s m)
theorem lgst_spec (b : Nat → Bool) : ∀ d, LI b d (lgst b d).1 (lgst b d).2.1 (lgst b d).2.2
  | 0 => ⟨⟨Nat.le_refl _, fun i hi => absurd hi (Nat.not_lt_zero _), fun h => absurd h (Nat.not_lt_zero _)⟩, fun s k h _ => by show k ≤ 0; omega, ⟨Nat.le_refl _, Nat.le_refl _⟩, Or.inl rfl⟩
  | d + 1 => by
    obtain ⟨⟨h1, h2, h3⟩, h4, ⟨h5, h5'⟩, h6⟩ := lgst_spec b d
    rw [lgst]
    generalize (lgst b d).1 = m at *
    generalize (lgst b d).2.1 = n at *
    generalize (lgst b d).2.2 = f at *
    have hn' : ∃ n', (if b d = true then n + 1 else 0) = n' ∧ (n' ≤ d + 1 ∧ rn b (d + 1 - n') n' ∧ (n' < d + 1 → b (d + 1 - n' - 1) = false)) ∧ ∀ s k, s + k = d + 1 → rn b s k → k ≤ n' := by
      by_cases hb : b d = true
      · refine ⟨n + 1, if_pos hb, ⟨by omega, fun i hi => ?_, fun h => ?_⟩, fun s k hk hr => ?_⟩
        · rcases Nat.lt_or_ge i n with q | q
          · have := h2 i q
            rw [show d + 1 - (n + 1) + i = d - n + i by omega]; exact this
          · rw [show d + 1 - (n + 1) + i = d by omega]; exact hb
        · rw [show d + 1 - (n + 1) - 1 = d - n - 1 by omega]; exact h3 (by omega)
        · rcases Nat.lt_or_ge n d with q | q
          · by_cases hkn : k ≤ n + 1
            · exact hkn
            · exfalso
              have := hr (d - n - 1 - s) (by omega)
              rw [show s + (d - n - 1 - s) = d - n - 1 by omega, h3 q] at this
              exact absurd this (by decide)
          · omega
      · refine ⟨0, if_neg hb, ⟨by omega, fun i hi => absurd hi (Nat.not_lt_zero _), fun _ => ?_⟩, fun s k hk hr => ?_⟩
        · rw [show d + 1 - 0 - 1 = d by omega]; simpa using hb
        · cases k with
          | zero => exact Nat.le_refl _
          | succ k =>
            have := hr k (by omega)
            rw [show s + k = d by omega] at this
            exact absurd this hb
    obtain ⟨n', e, hn1, hn2⟩ := hn'
    rw [e]
    have h4' : ∀ s k, s + k ≤ d + 1 → rn b s k → k ≤ m ∨ k ≤ n' := fun s k hk hr => by
      rcases Nat.lt_or_ge (s + k) (d + 1) with q | q
      · left; exact h4 s k (by omega) hr
      · right; exact hn2 s k (by omega) hr
    by_cases hlt : m < n'
    · rw [if_pos hlt]
      refine ⟨hn1, fun s k hk hr => ?_, ⟨Nat.le_refl _, hn1.1⟩, Or.inr ⟨?_, hn1.2.1, fun s hs hr => ?_⟩⟩
      · show k ≤ n'
        rcases h4' s k hk hr with q | q <;> omega
      · show d + 1 - n' + n' ≤ d + 1
        omega
      · have hs' : s < d + 1 - n' := hs
        have := h4 s n' (by omega) hr
        omega
    · rw [if_neg hlt]
      refine ⟨hn1, fun s k hk hr => ?_, ⟨by show n' ≤ m; omega, by show m ≤ d + 1; omega⟩, ?_⟩
      · show k ≤ m
        rcases h4' s k hk hr with q | q <;> omega
      · rcases h6 with q | ⟨q1, q2, q3⟩
        · exact Or.inl q
        · exact Or.inr ⟨by show f + m ≤ d + 1; omega, q2, q3⟩
def lgn (b : Nat → Bool) : Nat := (lgst b 24).1
def lgf (b : Nat → Bool) : Nat := (lgst b 24).2.2
theorem lgn_le (b : Nat → Bool) : lgn b ≤ 24 := (lgst_spec b 24).2.2.1.2
theorem lgn_of {b : Nat → Bool} {n : Nat} (h1 : ∀ s, s + (n + 1) ≤ 24 → ¬ rn b s (n + 1)) (h2 : n = 0 ∨ ∃ s, s + n ≤ 24 ∧ rn b s n) : lgn b = n := by
  obtain ⟨_, h4, _, h6⟩ := lgst_spec b 24
  show (lgst b 24).1 = n
  have a : n ≤ (lgst b 24).1 := by
    rcases h2 with q | ⟨s, q1, q2⟩
    · omega
    · exact h4 s n q1 q2
  rcases Nat.lt_or_ge n (lgst b 24).1 with q | q
  · exfalso
    rcases h6 with z | ⟨z1, z2, z3⟩
    · omega
    · exact h1 (lgst b 24).2.2 (by omega) (fun i hi => z2 i (by omega))
  · omega
theorem lgf_of {b : Nat → Bool} {f : Nat} (hp : 0 < lgn b) (h1 : f + lgn b ≤ 24) (h2 : rn b f (lgn b)) (h3 : ∀ s, s < f → ¬ rn b s (lgn b)) : lgf b = f := by
  obtain ⟨_, h4, _, h6⟩ := lgst_spec b 24
  have hp' : 0 < (lgst b 24).1 := hp
  rcases h6 with z | ⟨z1, z2, z3⟩
  · omega
  · show (lgst b 24).2.2 = f
    rcases Nat.lt_trichotomy (lgst b 24).2.2 f with q | q | q
    · exact absurd z2 (h3 _ q)
    · exact q
    · exact absurd h2 (z3 _ q)
theorem b_u1 (x : Int32) {i : Nat} : bt ((x.toUInt32 >>> ((1 : Int32).toUInt32 &&& Int32.toUInt32 31)).toInt32) i = bt x (1 + i) := b_ushr 1 (by omega) x i
theorem longest_at {x : Int32} (hx : r24 x) : fX0_longest x = some (nI (lgn (bt x))) := by
  have hz : ∀ i, 24 ≤ i → bt x i = false := fun i hi => by
    rcases Nat.lt_or_ge i 32 with q | q
    · exact hx i hi q
    · exact b_big q
  have key : Ok (lp FU (fun s => bX0_longest_4 s.1 s.2) ((0 : Int32), x)) (fun r => r = nI (lgn (bt x))) := by
    refine ok_lp (fun s => ∃ k y, s = (nI k, y) ∧ k ≤ 24 ∧ (∀ d, bt y d = true ↔ ∀ i, i ≤ k → bt x (d + i) = true) ∧ (k = 0 ∨ ∃ d, d + k ≤ 24 ∧ rn (bt x) d k)) (fun s => 24 - Int32.toNatClampNeg s.1) _ (fun s hI => ?_) FU _ ⟨0, x, rfl, by omega, fun d => ⟨fun h i hi => by rw [show i = 0 by omega]; exact h, fun h => h 0 (by omega)⟩, Or.inl rfl⟩ (by show 24 - _ < 1000000; omega)
    obtain ⟨k, y, rfl, hk, hy, hr⟩ := hI
    show Ok (bX0_longest_4 (nI k) y) _
    unfold bX0_longest_4
    by_cases y0 : y = 0
    · rw [if_pos y0]
      refine ok_i ?_
      show nI k = _
      rw [lgn_of (n := k) (fun s hs hrn => ?_) hr]
      have := (hy s).mpr (fun i hi => hrn i (by omega))
      rw [y0, b_0] at this
      exact absurd this (by decide)
    · rw [if_neg y0]
      obtain ⟨d, hd⟩ : ∃ d, bt y d = true := by
        apply Classical.byContradiction
        intro hn
        apply y0
        apply b_ext
        intro i _
        rw [b_0]
        cases h : bt y i
        · rfl
        · exact absurd ⟨i, h⟩ hn
      have hd' := (hy d).mp hd
      have hdk : d + k < 24 := by
        rcases Nat.lt_or_ge (d + k) 24 with q | q
        · exact q
        · have := hd' k (by omega)
          rw [hz _ q] at this
          exact absurd this (by decide)
      rw [i_24, if_neg (by rw [c_le (by omega) (by omega)]; omega)]
      simp only [lte, nI_1]
      refine ok_i ⟨⟨k + 1, _, rfl, by omega, fun e => ?_, Or.inr ⟨d, by omega, fun i hi => hd' i (by omega)⟩⟩, ?_⟩
      · rw [b_and, Bool.and_eq_true, b_u1, hy, hy]
        constructor
        · intro h i hi
          rcases Nat.lt_or_ge k i with q | q
          · have := h.2 k (by omega)
            rw [show e + i = 1 + e + k by omega]; exact this
          · exact h.1 i q
        · intro h
          exact ⟨fun i hi => h i (by omega), fun i hi => by rw [show 1 + e + i = e + (i + 1) by omega]; exact h (i + 1) (by omega)⟩
      · show 24 - Int32.toNatClampNeg (nI (k + 1)) < 24 - Int32.toNatClampNeg (nI k)
        rw [cl_nI (by omega), cl_nI (by omega)]
        omega
  obtain ⟨r, e, rfl⟩ := key
  unfold fX0_longest
  rw [e]; rfl
theorem mask_bt : ∀ n, n < 32 → ∀ i, i < 32 → bt ((1 : Int32) <<< (nI n &&& 31) - 1) i = decide (i < n) := by decide +kernel
theorem mask_run {x : Int32} {d n : Nat} (h : d + n ≤ 31) : (((x >>> (nI d &&& 31)) &&& ((1 : Int32) <<< (nI n &&& 31) - 1)) = ((1 : Int32) <<< (nI n &&& 31) - 1)) = rn (bt x) d n := by
  apply propext
  constructor
  · intro e i hi
    have := congrArg (fun z => bt z i) e
    simp only [b_and, mask_bt n (by omega) i (by omega), b_sshr d (by omega) x (show i < 32 by omega)] at this
    rw [if_pos (by omega)] at this
    simpa [hi] using this
  · intro hr
    apply b_ext
    intro i hi
    rw [b_and, mask_bt n (by omega) i hi]
    by_cases hin : i < n
    · rw [b_sshr d (by omega) x hi, if_pos (by omega), hr i hin]; simp [hin]
    · simp [hin]
theorem firstRun_at {x : Int32} (hp : 0 < lgn (bt x)) : fX0_firstRun x (nI (lgn (bt x))) = some (nI (lgf (bt x))) := by
  have hle := lgn_le (bt x)
  have key : Ok (lp FU (fun s => bX0_firstRun_8 x (nI (lgn (bt x))) ((1 : Int32) <<< (nI (lgn (bt x)) &&& 31) - 1) s) (0 : Int32)) (fun r => r = Sum.inl (nI (lgf (bt x)))) := by
    refine ok_forF 0 24 (fun i s => s = nI i ∧ ∀ k, k < i → ¬ rn (bt x) k (lgn (bt x))) _ ⟨rfl, fun k hk => absurd hk (by omega)⟩ (by omega) (by omega) (fun i s _ hi hI => ?_) (fun s hI => ?_)
    · obtain ⟨rfl, hn⟩ := hI
      show Ok (bX0_firstRun_8 x (nI (lgn (bt x))) _ (nI i)) _
      unfold bX0_firstRun_8
      by_cases h24 : 24 < i + lgn (bt x)
      · exfalso
        obtain ⟨_, _, _, h6⟩ := lgst_spec (bt x) 24
        rcases h6 with z | ⟨z1, z2, z3⟩
        · have : lgn (bt x) = 0 := z
          omega
        · have z1' : (lgst (bt x) 24).2.2 + lgn (bt x) ≤ 24 := z1
          exact hn (lgst (bt x) 24).2.2 (by omega) z2
      · rw [nI_add, i_24, if_neg (by rw [c_lt (by omega) (by omega)]; exact h24)]
        by_cases hr : rn (bt x) i (lgn (bt x))
        · have hr' : (x >>> (nI i &&& 31) &&& (1 : Int32) <<< (nI (lgn (bt x)) &&& 31) - 1) = (1 : Int32) <<< (nI (lgn (bt x)) &&& 31) - 1 := (mask_run (by omega)).mpr hr
          first | rw [if_pos hr] | rw [if_pos hr']
          refine ok_i ?_
          show Sum.inl (nI i) = _
          rw [lgf_of hp (by omega) hr hn]
        · have hr' : ¬ (x >>> (nI i &&& 31) &&& (1 : Int32) <<< (nI (lgn (bt x)) &&& 31) - 1) = (1 : Int32) <<< (nI (lgn (bt x)) &&& 31) - 1 := fun z => hr ((mask_run (by omega)).mp z)
          first | rw [if_neg hr] | rw [if_neg hr']
          simp only [lte, nI_1]
          refine ok_i ⟨rfl, fun k hk hq => ?_⟩
          rcases Nat.lt_or_ge k i with q | q
          · exact hn k q hq
          · rw [show k = i by omega] at hq; exact hr hq
    · obtain ⟨rfl, hn⟩ := hI
      exfalso
      obtain ⟨_, _, _, h6⟩ := lgst_spec (bt x) 24
      rcases h6 with z | ⟨z1, z2, z3⟩
      · have : lgn (bt x) = 0 := z
        omega
      · have z1' : (lgst (bt x) 24).2.2 + lgn (bt x) ≤ 24 := z1
        exact hn (lgst (bt x) 24).2.2 (by omega) z2
  obtain ⟨r, e, rfl⟩ := key
  unfold fX0_firstRun
  simp only [lte]
  rw [e]; rfl
/-! what is followed -/
def lft (b : Nat → Bool) : Nat → Nat
  | 0 => 0
  | d + 1 => if b d = true then lft b d else d + 1
def rgt (b : Nat → Bool) : Nat → Nat → Nat
  | 0, d => d
  | f + 1, d => if b (d + 1) = true then rgt b f (d + 1) else d
theorem lft_le (b : Nat → Bool) : ∀ d, lft b d ≤ d
  | 0 => Nat.le_refl _
  | d + 1 => by
    rw [lft]
    have := lft_le b d
    split <;> omega
theorem rgt_ge (b : Nat → Bool) : ∀ f d, d ≤ rgt b f d ∧ rgt b f d ≤ d + f
  | 0, d => ⟨Nat.le_refl _, Nat.le_refl _⟩
  | f + 1, d => by
    rw [rgt]
    have := rgt_ge b f (d + 1)
    split <;> omega
theorem lft_in (b : Nat → Bool) : ∀ d i, lft b d ≤ i → i < d → b i = true
  | 0, i, _, h => absurd h (Nat.not_lt_zero _)
  | d + 1, i, h1, h2 => by
    rw [lft] at h1
    by_cases hb : b d = true
    · rw [if_pos hb] at h1
      rcases Nat.lt_or_ge i d with q | q
      · exact lft_in b d i h1 q
      · rw [show i = d by omega]; exact hb
    · rw [if_neg hb] at h1; omega
theorem rgt_in (b : Nat → Bool) : ∀ f d i, d < i → i ≤ rgt b f d → b i = true
  | 0, d, i, h1, h2 => by rw [rgt] at h2; omega
  | f + 1, d, i, h1, h2 => by
    rw [rgt] at h2
    by_cases hb : b (d + 1) = true
    · rw [if_pos hb] at h2
      rcases Nat.lt_or_ge (d + 1) i with q | q
      · exact rgt_in b f (d + 1) i q h2
      · rw [show i = d + 1 by omega]; exact hb
    · rw [if_neg hb] at h2; omega
def aim (b : Nat → Bool) (d : Nat) : Nat := (lft b d + rgt b (23 - d) d) / 2
def flw (b : Nat → Bool) (d : Nat) : Nat := if b d = true then (if aim b d = d then d else if d ≤ aim b d then d + 1 else d - 1) else d
theorem flw_b {b : Nat → Bool} {d : Nat} (hd : d < 24) : flw b d < 24 := by
  have h1 := lft_le b d
  have h2 := rgt_ge b (23 - d) d
  unfold flw aim
  split
  · split
    · exact hd
    · split <;> omega
  · exact hd
theorem flw_in {b : Nat → Bool} {d : Nat} (h : b d = true) : b (flw b d) = true := by
  have h1 := lft_le b d
  have h2 := rgt_ge b (23 - d) d
  unfold flw aim
  rw [if_pos h]
  split
  · exact h
  · split
    · exact rgt_in b (23 - d) d _ (by omega) (by omega)
    · exact lft_in b d _ (by omega) (by omega)
theorem c_left {x y : Int32} : ∀ (d n : Nat), d < 24 → d < n → lp n (fun s => bX0_followed_12 x y s) (nI d) = some (nI (lft (bt x) d))
  | 0, n, _, hn => by
    obtain ⟨n, rfl⟩ : ∃ k, n = k + 1 := ⟨n - 1, by omega⟩
    refine lp_inr ?_
    show bX0_followed_12 x y (nI 0) = _
    unfold bX0_followed_12
    rw [if_pos (by decide)]; rfl
  | d + 1, n, hd, hn => by
    obtain ⟨n, rfl⟩ : ∃ k, n = k + 1 := ⟨n - 1, by omega⟩
    have e : bX0_followed_12 x y (nI (d + 1)) = if bt x d = true then some (.inl (nI d)) else some (.inr (nI (d + 1))) := by
      unfold bX0_followed_12
      rw [if_neg (by rw [i_0, c_le (by omega) (by omega)]; omega), i_dec]
      simp only [bit0 (x := x) (n := d) (by omega), lte, i_m1]
      cases bt x d <;> simp
    rw [lft]
    by_cases hb : bt x d = true
    · rw [if_pos hb]
      rw [if_pos hb] at e
      rw [lp_inl (s' := nI d) e]
      exact c_left d n (by omega) (by omega)
    · rw [if_neg hb]
      rw [if_neg hb] at e
      exact lp_inr e
theorem c_right {x y z : Int32} : ∀ (f d n : Nat), d + f = 23 → f < n → lp n (fun s => bX0_followed_34 x y z s) (nI d) = some (nI (rgt (bt x) f d))
  | 0, d, n, hd, hn => by
    obtain ⟨n, rfl⟩ : ∃ k, n = k + 1 := ⟨n - 1, by omega⟩
    refine lp_inr ?_
    show bX0_followed_34 x y z (nI d) = _
    unfold bX0_followed_34
    rw [i_23, if_pos (by rw [c_le (by omega) (by omega)]; omega)]; rfl
  | f + 1, d, n, hd, hn => by
    obtain ⟨n, rfl⟩ : ∃ k, n = k + 1 := ⟨n - 1, by omega⟩
    have e : bX0_followed_34 x y z (nI d) = if bt x (d + 1) = true then some (.inl (nI (d + 1))) else some (.inr (nI d)) := by
      unfold bX0_followed_34
      rw [i_23, if_neg (by rw [c_le (by omega) (by omega)]; omega), nI_1]
      simp only [bit0 (x := x) (n := d + 1) (by omega), lte]
      cases bt x (d + 1) <;> simp
    rw [rgt]
    by_cases hb : bt x (d + 1) = true
    · rw [if_pos hb]
      rw [if_pos hb] at e
      rw [lp_inl (s' := nI (d + 1)) e]
      exact c_right f (d + 1) n (by omega) (by omega)
    · rw [if_neg hb]
      rw [if_neg hb] at e
      exact lp_inr e
theorem followed_at {x : Int32} {d : Nat} (hd : d < 24) : fX0_followed x (nI d) = some (nI (flw (bt x) d)) := by
  have h1 := lft_le (bt x) d
  have h2 := rgt_ge (bt x) (23 - d) d
  unfold fX0_followed flw
  simp only [bit0 (x := x) (n := d) (by omega)]
  cases hb : bt x d
  · simp
  · rw [if_neg (by decide), if_pos rfl, c_left d FU hd (by show d < 1000000; omega), Option.bind_some, c_right (23 - d) d FU (by omega) (by show 23 - d < 1000000; omega), Option.bind_some]
    rw [lte, nI_add, i_2, c_div (by omega) (by omega) (by omega)]
    show (if nI (aim (bt x) d) = nI d then _ else _) = _
    have ha : aim (bt x) d < 24 := by unfold aim; omega
    rw [show (lft (bt x) d + rgt (bt x) (23 - d) d) / 2 = aim (bt x) d from rfl, ite_eq (by omega) (by omega), ite_le (by omega) (by omega)]
    by_cases e1 : aim (bt x) d = d
    · rw [if_pos e1, if_pos e1]
    · rw [if_neg e1, if_neg e1]
      by_cases e2 : d ≤ aim (bt x) d
      · rw [if_pos e2, if_pos e2, nI_1]
      · rw [if_neg e2, if_neg e2, i_1, c_sub (by unfold aim at *; omega)]
