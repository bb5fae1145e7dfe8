/-! how both stand at first -/
def S00 : Wd := mkW plF 0 0 (fun _ => 0) 0 (-1) (fun _ => 0) (fun _ => -1) (fun _ _ => 0) (fun _ => none) 0
section
variable {t : Nat} {T : Sh} {M M2 : Me}
theorem plF_0 {k : Nat} (h1 : k ≠ 1) (h2 : k ≠ 2) (h3 : k ≠ 49) : plF k = 0 := by unfold plF; rw [if_neg h1, if_neg h2, if_neg h3]
theorem plF_OK : OK plF 0 := by
  refine ⟨⟨?_, ?_, ?_, ?_, fun q hq => ⟨0, by omega, ?_⟩, fun lw hl => Or.inl (plF_0 (by omega) (by omega) (by omega))⟩, ⟨?_, ?_, fun l hl => ?_⟩, ?_⟩
  · decide
  · decide
  · decide
  · decide
  · unfold stA
    by_cases z : q = 0
    · rw [if_pos z]; rfl
    · rw [if_neg z, plF_0 (by omega) (by omega) (by omega)]; rfl
  · decide
  · decide
  · unfold ptA
    rw [plF_0 (by omega) (by omega) (by omega)]
    decide
  · decide
theorem S00_ok : S00.ok := by
  refine ⟨⟨plF_OK, by show 0 ≤ 600; omega⟩, ⟨by show 0 ≤ 10; omega, rfl, fun i hi => absurd (show i < 0 from hi) (by omega)⟩, ⟨by show 0 ≤ 900; omega, fun i => by show 0 < 256; omega⟩, fun q hq => Or.inl rfl, fun i B hi e => ?_⟩
  cases e
theorem kBS_l : kBS.length = 88 := by decide
theorem kBS_x : ∀ i, i < 69 → (kBS.getD (kBS.length - 1 - i) (0, 0)).1 = xK i ∧ (kBS.getD (kBS.length - 1 - i) (0, 0)).2 = xL i := by decide +kernel
theorem rBS_x : ∀ i, i < 48 → rBS (xO i) (xF i) = some (xT i) := by decide +kernel
theorem kBS_m : ∀ i, i < 18 → (kBS.getD (kBS.length - 1 - (70 + i)) (0, 0)).1 = mK i ∧ (kBS.getD (kBS.length - 1 - (70 + i)) (0, 0)).2 = mL i ∧ rBS 69 (mF i) = some (70 + i) := by decide +kernel
theorem bs_plain (h : BS t kBS zBS rBS iBS jBS T M) : Ok (fX12_plain T M (t + 70)) (fun p => (∀ k, k < 1032 → gI p.2 (t + 70) k = plF k) ∧ (∀ a k, a ≠ t + 70 ∨ 1032 ≤ k → gI p.2 a k = gI M a k) ∧ p.2.2 = M.2) := by
  have k13 : kd T (t + 70) = 13 := h.kk ⟨by decide, by decide⟩
  have l3 : ln T (t + 70) = 3096 := h.ll ⟨by decide, by decide⟩
  unfold fX12_plain
  refine Ok.bd (ok_forE (s := ((0 : Int32), M)) 0 1032 (fun k s => ∃ M', s = (nI k, M') ∧ (∀ a q, a ≠ t + 70 ∨ 1032 ≤ q → gI M' a q = gI M a q) ∧ M'.2 = M.2 ∧ ∀ j, j < k → gI M' (t + 70) j = 0) (fun M' => (∀ a q, a ≠ t + 70 ∨ 1032 ≤ q → gI M' a q = gI M a q) ∧ M'.2 = M.2 ∧ ∀ j, j < 1032 → gI M' (t + 70) j = 0) ⟨M, rfl, fun _ _ _ => rfl, rfl, fun j hj => absurd hj (by omega)⟩ (by omega) (by omega) (fun k s _ hk hI => ?_) (fun s hI => ?_)) (fun M' hq => ?_)
  · obtain ⟨M', rfl, f, f2, g⟩ := hI
    show Ok (bX12_plain_2 T (t + 70) (nI k) M') _
    unfold bX12_plain_2
    rw [i_1032, ite_le (by omega) (by omega), if_neg (by omega), k13, gdI, l3, gvI (by omega) (by omega), cl_nI (by omega), lte, lte, nI_1]
    refine ok_i ⟨_, rfl, fun a q hq => ?_, f2, fun j hj => ?_⟩
    · rw [mII, if_neg (by omega)]; exact f a q hq
    · rw [mII]
      by_cases z : j = k
      · rw [if_pos ⟨rfl, z⟩]
      · rw [if_neg (fun y => z y.2)]; exact g j (by omega)
  · obtain ⟨M', rfl, f, f2, g⟩ := hI
    show Ok (bX12_plain_2 T (t + 70) (nI 1032) M') _
    unfold bX12_plain_2
    rw [if_pos (by decide)]
    exact ok_i ⟨f, f2, g⟩
  · obtain ⟨f, f2, g⟩ := hq
    rw [k13, gdI, l3, i_1, gvI (by omega) (by omega), lte, i_2, gvI (by omega) (by omega), lte, i_49, gvI (by omega) (by omega), lte, cl_nI (by omega), cl_nI (by omega), cl_nI (by omega)]
    refine ok_i ⟨fun k hk => ?_, fun a q hq => ?_, f2⟩
    · unfold plF
      by_cases y49 : k = 49
      · rw [if_neg (by omega), if_neg (by omega), if_pos y49, y49, mII1]; rfl
      by_cases y2 : k = 2
      · rw [if_neg (by omega), if_pos y2, y2, mIIk (by omega), mII1]; rfl
      by_cases y1 : k = 1
      · rw [if_pos y1, y1, mIIk (by omega), mIIk (by omega), mII1]; rfl
      rw [if_neg y1, if_neg y2, if_neg y49, mIIk y49, mIIk y2, mIIk y1]
      exact g k hk
    · rw [mII, if_neg (by omega), mII, if_neg (by omega), mII, if_neg (by omega)]; exact f a q hq
theorem bs_start (h : BS t kBS zBS rBS iBS jBS T M) (hp : ∀ k, k < 1032 → gI M2 (t + 70) k = plF k) (ho : ∀ a k, a ≠ t + 70 ∨ 1032 ≤ k → gI M2 a k = gI M a k) (hr : M2.2 = M.2) : WC t S00 T M2 ∧ WR (t + 69) S00 T M2 ∧ tp T = t + 88 ∧ sl T = zBS := by
  have gI0 : ∀ i k, i ≠ 70 ∨ 1032 ≤ k → gI M2 (t + i) k = iBS i k := fun i k hi => (ho _ _ (by omega)).trans (h.2.2.2.2.1 i k)
  have gR0 : ∀ i k, gR M2 (t + i) k = (rBS i k).map (fun s => t + s) := fun i k => by
    rw [← h.2.2.2.1 i k]; unfold gR; rw [hr]
  have gJ0 : ∀ i k, gJ M2 (t + i) k = jBS i k := fun i k => by
    rw [← h.2.2.2.2.2.1 i k]; unfold gJ; rw [hr]
  have gx : ∀ k, gI M2 t k = iBS 0 k := fun k => gI0 0 k (Or.inl (by omega))
  have gr0 : ∀ k, gR M2 t k = (rBS 0 k).map (fun s => t + s) := fun k => gR0 0 k
  have htp : tp T = t + 88 := h.tpn kBS_l
  have hkx : ∀ i, i < 69 → kd T (t + i) = xK i ∧ ln T (t + i) = xL i := fun i hi => ⟨(h.2.2.1 i (by rw [kBS_l]; omega)).1.trans (kBS_x i hi).1, (h.2.2.1 i (by rw [kBS_l]; omega)).2.trans (kBS_x i hi).2⟩
  have hPX : PX t T M2 := ⟨hkx, fun i hi => by rw [gR0, rBS_x i hi]; rfl⟩
  have z25 : iBS 25 1 = 0 ∧ iBS 25 2 = -1 := by decide
  have i26 : ∀ k, iBS 26 k = 0 := fun k => by simp [iBS, up2, flF]
  have i17 : ∀ k, iBS 17 k = 0 := fun k => by simp [iBS, up2, flF]
  have i15 : ∀ k, k < 100 → iBS 15 k = 99 := fun k hk => by simp [iBS, up2, flF, hk]
  have j16 : ∀ k, jBS 16 k = 0 := fun k => by simp [jBS, up2]
  have j23 : ∀ k, jBS 23 k = 0 ∧ jBS 24 k = 0 := fun k => ⟨by simp [jBS, up2], by simp [jBS, up2]⟩
  have j83 : jBS 8 3 = 1 := by decide
  have lN0 : (0 : Int64) = lN 0 := rfl
  have lN1 : (1 : Int64) = lN 1 := rfl
  have hCL : CLab t (t + 9) plF T M2 := by
    have nl0 : nlA plF = 0 := by decide
    refine ⟨⟨(hkx 9 (by omega)).1, Or.inl rfl, by omega⟩, fun i hi => ?_, ⟨?_, ?_, ?_, ?_, ?_⟩, fun l hl => absurd hl (by omega), fun q hq => ?_, fun lw hl => Or.inl ⟨?_, plF_0 (by omega) (by omega) (by omega)⟩⟩
    · have e : ∀ i, i < 5 → rBS 9 i = some (10 + i) ∧ xK (10 + i) = 13 ∧ xL (10 + i) = if i = 4 then 5 else 6 := by decide +kernel
      obtain ⟨e1, e2, e3⟩ := e i hi
      have ea : t + 9 + 1 + i = t + (10 + i) := by omega
      refine ⟨?_, ?_, ?_⟩
      · rw [gR0, e1, ea]; rfl
      · rw [ea, (hkx (10 + i) (by omega)).1, e2]
      · rw [ea, (hkx (10 + i) (by omega)).2, e3]
    · rw [gI0 9 5 (Or.inl (by omega))]; decide
    · rw [gI0 9 6 (Or.inl (by omega))]; decide
    · rw [gI0 9 7 (Or.inl (by omega))]; decide
    · rw [gI0 9 8 (Or.inl (by omega))]; decide
    · rw [gI0 9 9 (Or.inl (by omega))]; decide
    · have np0 : npA plF = 0 := by decide
      have q0 : q = 0 := by omega
      subst q0
      rw [show t + 9 + 5 = t + 14 by omega, gI0 14 0 (Or.inl (by omega))]; decide
    · have e : ∀ lw, lw < 3 → rBS 9 (10 + lw) = none := by decide +kernel
      rw [gR0, e lw hl]; rfl
  have hCV : CV t plF T M2 := by
    refine ⟨hPX, ⟨t + 9, by rw [gR0]; rfl, hCL⟩, ⟨fun r hr => Or.inl ?_, 1, by omega, by omega, ?_, fun k hk => ⟨0, 0, by omega, by omega, ?_, fun _ _ _ _ _ _ _ _ z _ => by omega⟩⟩, ⟨?_, ?_, fun l hl => ?_⟩, plF_OK.1, plF_OK.2.1, ⟨⟨0, by omega, ?_, ?_⟩, ⟨0, by omega, ?_, ?_⟩, fun k hk hb => ⟨?_, ?_⟩⟩, fun j hj => ?_⟩
    · rw [gI0 15 r (Or.inl (by omega))]; exact i15 r hr
    · rw [gJ0 8 3, j83]; rfl
    · rw [gJ0 16 k, j16]; rfl
    · rw [gI0 25 1 (Or.inl (by omega)), z25.1]; decide
    · rw [gI0 25 2 (Or.inl (by omega)), z25.2]; decide
    · rw [gI0 26 l (Or.inl (by omega)), i26, plF_0 (by omega) (by omega) (by omega)]
    · rw [gr0]; rfl
    · rw [gr0]; rfl
    · rw [gR0]; rfl
    · rw [gR0]; rfl
    · rw [gJ0 23 k]; exact (j23 k).1
    · rw [gJ0 24 k]; exact (j23 k).2
    · show bd (gI M2 (t + 17) j)
      rw [gI0 17 j (Or.inl (by omega)), i17]; exact bd_01 (Or.inl rfl)
  have hUN : UN t plF 0 M2 := by
    have e : ∀ i, i < 10 → rBS 29 i = some (30 + 2 * i) := by decide +kernel
    refine ⟨by omega, by decide, by rw [gx]; decide, fun i => i, fun i hi => hi, fun i j _ _ z => z, fun i hi => ?_, fun i hi => absurd hi (by omega)⟩
    rw [gR0, e i hi]
    show some (t + (30 + 2 * i)) = some (t + 30 + 2 * i)
    rw [Nat.add_assoc]
  have hWX : WX t S00 T M2 := by
    refine ⟨by omega, ⟨by rw [gx]; decide, fun i hi => absurd (show i < 0 from hi) (by omega)⟩, ⟨by rw [gI0 2 2 (Or.inl (by omega))]; decide, by rw [gI0 2 3 (Or.inl (by omega))]; decide⟩, fun q hq => ⟨?_, fun z => absurd rfl z, fun i hi => absurd (show i < 0 from hi) (by omega)⟩, fun i hi => ?_, 1, by rw [gJ0 8 3, j83]; rfl, by show 1 ≤ 0 + 1; omega⟩
    · have e : ∀ q, q < 4 → iBS (51 + 2 * q) 2 = -1 := by decide +kernel
      rw [show t + 51 + 2 * q = t + (51 + 2 * q) by omega, gI0 _ 2 (Or.inl (by omega)), e q hq]; rfl
    · have e : ∀ i, i < 2 → rBS (60 + 3 * i) 1 = none := by decide +kernel
      show gR M2 (t + 60 + 3 * i) 1 = none
      rw [show t + 60 + 3 * i = t + (60 + 3 * i) by omega, gR0, e i hi]; rfl
  refine ⟨⟨hCV, hUN, hWX⟩, ⟨⟨⟨h.kk ⟨by decide, by decide⟩, fun i hi => ?_⟩, fun k hk => ?_⟩, ⟨?_, fun i hi => absurd (show i < 0 from hi) (by omega)⟩, ⟨?_, ?_⟩, fun q hq => ⟨fun _ => ?_, fun z => absurd rfl z, fun i hi => absurd (show i < 0 from hi) (by omega)⟩, fun i hi => ?_⟩, htp, h.2.1⟩
  · obtain ⟨e1, e2, e3⟩ := kBS_m i hi
    have ea : t + 69 + 1 + i = t + (70 + i) := by omega
    refine ⟨?_, ?_, ?_⟩
    · rw [gR0, e3, ea]; rfl
    · rw [ea]; exact (h.2.2.1 _ (by rw [kBS_l]; omega)).1.trans e1
    · rw [ea]; exact (h.2.2.1 _ (by rw [kBS_l]; omega)).2.trans e2
  · rw [show t + 69 + 1 = t + 70 by omega]; exact hp k hk
  · rw [gI0 69 5 (Or.inl (by omega))]; decide
  · rw [gI0 69 13 (Or.inl (by omega))]; decide
  · rw [gI0 69 14 (Or.inl (by omega))]; decide
  · have e : ∀ q, q < 4 → iBS 85 q = -1 := by decide +kernel
    rw [show t + 69 + 16 = t + 85 by omega, gI0 85 q (Or.inl (by omega)), e q hq]
  · have e : ∀ i, i < 2 → iBS 71 i = 0 := by decide +kernel
    show gI M2 (t + 69 + 2) i = 0
    rw [show t + 69 + 2 = t + 71 by omega, gI0 71 i (Or.inl (by omega)), e i hi]
end
