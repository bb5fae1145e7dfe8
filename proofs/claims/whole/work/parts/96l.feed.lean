/-! bytes are fed -/
def lo8 (v : Int32) : Nat := v.toBitVec.toNat % 256
theorem lo8_b (v : Int32) : lo8 v < 256 := Nat.mod_lt _ (by omega)
theorem by_and (v : Int32) : v &&& 255 = nI (lo8 v) := by
  apply Int32.toBitVec_inj.1
  show v.toBitVec &&& 255#32 = BitVec.ofNat 32 (v.toBitVec.toNat % 256)
  apply BitVec.eq_of_toNat_eq
  rw [BitVec.toNat_and, BitVec.toNat_ofNat, BitVec.toNat_ofNat]
  have h := Nat.and_two_pow_sub_one_eq_mod v.toBitVec.toNat 8
  have e : (255 : Nat) % 2 ^ 32 = 2 ^ 8 - 1 := by decide
  rw [e, h]
  have := Nat.mod_lt v.toBitVec.toNat (show 0 < 2 ^ 8 by decide)
  omega
theorem by_8 (v : Int32) : v.toInt8 = (nI (lo8 v)).toInt8 := by
  apply Int8.toBitVec_inj.1
  rw [Int32.toBitVec_toInt8, Int32.toBitVec_toInt8]
  apply BitVec.eq_of_toNat_eq
  rw [BitVec.signExtend_eq_setWidth_of_le _ (by omega), BitVec.signExtend_eq_setWidth_of_le _ (by omega), BitVec.toNat_setWidth, BitVec.toNat_setWidth]
  show v.toBitVec.toNat % 2 ^ 8 = (BitVec.ofNat 32 (v.toBitVec.toNat % 256)).toNat % 2 ^ 8
  rw [BitVec.toNat_ofNat]
  omega
theorem nar8 (v : Int8) : vp_nar .byte v.toInt32 = v.toInt32 := by
  show (v.toInt32.toInt8).toInt32 = v.toInt32
  rw [Int8.toInt8_toInt32]
def fS (i : Nat) : Int32 := if i < 4 then nI (24 - 8 * i) else -8
section
variable {x m : Nat} {A B : Nat → Int32} {T T2 : Sh} {M M1 M2 : Me} {S : Wd}
theorem c_putBytes {n : Nat} {w : Int32} (hp : PX x T M) (hn : gI M x 1 = nI n) (h9 : n + 4 ≤ 900) : Ok (fX11_putBytes T M x w) (fun p => gI p.2 x 1 = nI (n + 4) ∧ (∀ i, i < 4 → gI p.2 (x + 1) (n + i) = (nI (lo8 (w >>> (nI (24 - 8 * i) &&& 31)))).toInt8.toInt32) ∧ (∀ a k, ¬ (a = x ∧ k = 1) → ¬ (a = x + 1 ∧ n ≤ k) → gI p.2 a k = gI M a k) ∧ p.2.2 = M.2) := by
  unfold fX11_putBytes
  refine Ok.bd (ok_forF (s := ((24 : Int32), M)) 0 4 (fun i s => ∃ M', s = (fS i, M') ∧ gI M' x 1 = nI (n + i) ∧ (∀ q, q < i → gI M' (x + 1) (n + q) = (nI (lo8 (w >>> (nI (24 - 8 * q) &&& 31)))).toInt8.toInt32) ∧ (∀ a k, ¬ (a = x ∧ k = 1) → ¬ (a = x + 1 ∧ n ≤ k) → gI M' a k = gI M a k) ∧ M'.2 = M.2) (fun M' => gI M' x 1 = nI (n + 4) ∧ (∀ i, i < 4 → gI M' (x + 1) (n + i) = (nI (lo8 (w >>> (nI (24 - 8 * i) &&& 31)))).toInt8.toInt32) ∧ (∀ a k, ¬ (a = x ∧ k = 1) → ¬ (a = x + 1 ∧ n ≤ k) → gI M' a k = gI M a k) ∧ M'.2 = M.2) ⟨M, rfl, hn, fun q hq => absurd hq (by omega), fun _ _ _ _ => rfl, rfl⟩ (by omega) (by omega) (fun i s _ hi hI => ?_) (fun s hI => ?_)) (fun p hq => ok_i hq)
  · obtain ⟨M', rfl, e1, e2, e3, e4⟩ := hI
    have hp' : PX x T M' := hp.eq (by rw [e4])
    show Ok (bX11_putBytes_3 T x w (fS i) M') _
    have ef : fS i = nI (24 - 8 * i) := if_pos hi
    have en : fS i + -8 = fS (i + 1) := by
      rcases (by omega : i = 0 ∨ i = 1 ∨ i = 2 ∨ i = 3) with rfl | rfl | rfl | rfl <;> decide
    unfold bX11_putBytes_3
    rw [en, ef, if_neg (by rw [fa_lt, nI_toInt (by omega)]; show ¬ (((24 - 8 * i : Nat) : Int) < 0); omega), hp'.k0, gdI, e1, i_900, if_neg (by rw [c_le (by omega) (by omega)]; omega)]
    simp (disch := omega) only [gdI, gdT, Option.bind_some, lte, hp'.r0_0, hp'.k1, hp'.l1, gvI, cl_nI]
    rw [nar8, mIIn (by omega), e1, nI_1]
    refine ok_i ⟨_, rfl, mII1, fun q hq => ?_, fun a k z1 z2 => ?_, e4⟩
    · rw [mIIn (by omega), mII]
      by_cases z : q = i
      · rw [if_pos ⟨rfl, by omega⟩, z, ← by_8]
      · rw [if_neg (by omega)]; exact e2 q (by omega)
    · rw [mII, if_neg z1, mII, if_neg (by omega)]; exact e3 a k z1 z2
  · obtain ⟨M', rfl, e1, e2, e3, e4⟩ := hI
    show Ok (bX11_putBytes_3 T x w (fS 4) M') _
    unfold bX11_putBytes_3
    rw [if_pos (by decide)]
    exact ok_i ⟨e1, e2, e3, e4⟩
end
