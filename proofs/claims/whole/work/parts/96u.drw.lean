/-! drawing -/
def dzz (z : Int32) : Int32 := (1103515245 : Int32) * z + (12345 : Int32)
def hzz (z : Int32) : Int32 := (Int32.toUInt32 z >>> (Int32.toUInt32 (16 : Int32) &&& Int32.toUInt32 31)).toInt32
theorem hzz_b (z : Int32) : ∃ h, h < 65536 ∧ hzz z = nI h := by
  have e16 : (Int32.toUInt32 (16 : Int32) &&& Int32.toUInt32 31) = (16 : UInt32) := by decide
  refine ⟨(z.toUInt32 >>> (16 : UInt32)).toNat, ?_, ?_⟩
  · rw [UInt32.toNat_shiftRight, Nat.shiftRight_eq_div_pow]
    have h1 := z.toUInt32.toNat_lt
    have h2 : (16 : UInt32).toNat % 32 = 16 := by decide
    rw [h2]
    omega
  · unfold hzz
    rw [e16]
    apply Int32.toBitVec_inj.1
    show (z.toUInt32 >>> (16 : UInt32)).toBitVec = BitVec.ofNat 32 (z.toUInt32 >>> (16 : UInt32)).toBitVec.toNat
    rw [BitVec.ofNat_toNat, BitVec.setWidth_eq]
/-- the deed that is drawn, and what is drawn from then -/
def drw (z : Int32) : Int32 × Int32 :=
  let v := hzz (dzz z) - hzz (dzz z) / (6 : Int32) * (6 : Int32)
  let w := dzz (dzz z)
  let y := dzz w
  if v = 0 then (0, dzz z) else if v = 1 then (1, dzz z) else if v = 2 then (1, dzz z)
  else if v = 3 then ((10 : Int32) + (hzz w - hzz w / (5 : Int32) * (5 : Int32)), w)
  else if v = 4 then ((100 : Int32) + ((10 : Int32) * (hzz w - hzz w / (6 : Int32) * (6 : Int32))) + (hzz y - hzz y / (3 : Int32) * (3 : Int32)), y)
  else ((10000 : Int32) + ((1000 : Int32) * (hzz w - hzz w / (6 : Int32) * (6 : Int32))) + (hzz y - hzz y / (384 : Int32) * (384 : Int32)), y)
section
variable {x z m : Nat} {T : Sh} {M : Me}
theorem c_draw {w : Int32} (hz : kd T z = 0) (hw : gI M z 0 = w) : fX1_draw T M z = some (hzz (dzz w), pI M z 0 (dzz w)) := by
  unfold fX1_draw
  rw [hz, gdI, lte, hw, mII1]
  rfl
theorem r_draw {w n : Int32} (hm : kd T m = 11) (hw : gI M m 32 = w) (hn : ¬ n = 0) : fX12_draw T M m n = some (hzz (dzz w) - hzz (dzz w) / n * n, pI M m 32 (dzz w)) := by
  unfold fX12_draw
  rw [hm, gdI, lte, hw, mII1, gd_pos hn]
  rfl
end
