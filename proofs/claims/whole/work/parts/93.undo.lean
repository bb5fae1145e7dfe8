/-! what is kept for undoing -/
/-- the stand at a holds w -/
def SD (a : Nat) (w : Nat → Int32) (M : Me) : Prop := (∀ k, k < 6 → gI M (a + 1) k = w k) ∧ gI M a 1 = w 6 ∧ gI M a 2 = w 7
def KS (a : Nat) (T : Sh) (M : Me) : Prop := kd T a = 7 ∧ gR M a 0 = some (a + 1) ∧ kd T (a + 1) = 13 ∧ ln T (a + 1) = 6
theorem SD.fr {a : Nat} {w : Nat → Int32} {M M2 : Me} (h : SD a w M) (f : ∀ k, gI M2 a k = gI M a k) (g : ∀ k, gI M2 (a + 1) k = gI M (a + 1) k) : SD a w M2 := ⟨fun k hk => (g k).trans (h.1 k hk), (f 1).trans h.2.1, (f 2).trans h.2.2⟩
theorem SD.cong {a : Nat} {w w2 : Nat → Int32} {M : Me} (h : SD a w M) (e : ∀ k, k < 8 → w2 k = w k) : SD a w2 M := ⟨fun k hk => (h.1 k hk).trans (e k (by omega)).symm, h.2.1.trans (e 6 (by omega)).symm, h.2.2.trans (e 7 (by omega)).symm⟩
theorem c_copy {a b : Nat} {w : Nat → Int32} {T : Sh} {M : Me} (ha : KS a T M) (hb : KS b T M) (n1 : b ≠ a) (n2 : b ≠ a + 1) (n3 : b + 1 ≠ a) (hw : SD b w M) : Ok (fX8_copy T M a b) (fun p => SD a w p.2 ∧ (∀ c k, c ≠ a → c ≠ a + 1 → gI p.2 c k = gI M c k) ∧ p.2.2 = M.2) := by
  obtain ⟨a1, a2, a3, a4⟩ := ha
  obtain ⟨b1, b2, b3, b4⟩ := hb
  rw [copy_eq a1 b1 a2 a3 a4 b2 b3 b4 (by omega)]
  refine ok_i ⟨⟨fun k hk => ?_, ?_, ?_⟩, fun c k h1 h2 => ?_, rfl⟩
  · rw [mIIn (by omega), mIIn (by omega), mIA1, if_pos hk]; exact hw.1 k hk
  · rw [mIIk (by omega), mII1, mIAn (by omega)]; exact hw.2.1
  · rw [mII1, mIIn (by omega), mIAn (by omega)]; exact hw.2.2
  · rw [mIIn h1, mIIn h1, mIAn h2]
theorem xS : ∀ i, i < 10 → xK (30 + 2 * i) = 7 ∧ xK (31 + 2 * i) = 13 ∧ xL (31 + 2 * i) = 6 ∧ xO (24 + i) = 30 + 2 * i ∧ xF (24 + i) = 0 ∧ xT (24 + i) = 31 + 2 * i := by decide
section
variable {x u : Nat} {A B w : Nat → Int32} {T : Sh} {M M2 : Me}
theorem PX.ks (h : PX x T M) {i : Nat} (hi : i < 10) : KS (x + 30 + 2 * i) T M := by
  obtain ⟨e1, e2, e3, e4, e5, e6⟩ := xS i hi
  have h1 := h.1 (30 + 2 * i) (by omega)
  have h2 := h.1 (31 + 2 * i) (by omega)
  have h3 := h.2 (24 + i) (by omega)
  rw [e1] at h1
  rw [e2, e3] at h2
  rw [e4, e5, e6] at h3
  refine ⟨?_, ?_, ?_, ?_⟩
  · rw [show x + 30 + 2 * i = x + (30 + 2 * i) by omega]; exact h1.1
  · rw [show x + 30 + 2 * i = x + (30 + 2 * i) by omega, show x + (30 + 2 * i) + 1 = x + (31 + 2 * i) by omega]; exact h3
  · rw [show x + 30 + 2 * i + 1 = x + (31 + 2 * i) by omega]; exact h2.1
  · rw [show x + 30 + 2 * i + 1 = x + (31 + 2 * i) by omega]; exact h2.2
theorem PX.ks25 (h : PX x T M) : KS (x + 25) T M := ⟨h.k25, h.r25_0, h.k26, h.l26⟩
theorem PX.ks27 (h : PX x T M) : KS (x + 27) T M := ⟨h.k27, h.r27_0, h.k28, h.l28⟩
theorem PX.ks61 (h : PX x T M) : KS (x + 61) T M := ⟨h.k61, h.r61_0, h.k62, h.l62⟩
theorem PX.ks64 (h : PX x T M) : KS (x + 64) T M := ⟨h.k64, h.r64_0, h.k65, h.l65⟩
def UN (x : Nat) (A : Nat → Int32) (u : Nat) (M : Me) : Prop := u ≤ 10 ∧ A 50 = nI u ∧ gI M x 8 = nI u ∧ ∃ p : Nat → Nat, (∀ i, i < 10 → p i < 10) ∧ (∀ i j, i < 10 → j < 10 → p i = p j → i = j) ∧ (∀ i, i < 10 → gR M (x + 29) i = some (x + 30 + 2 * p i)) ∧ ∀ i, i < u → SD (x + 30 + 2 * p i) (fun k => A (51 + 8 * i + k)) M
def ntA (A : Nat → Int32) (u : Nat) (w : Nat → Int32) : Nat → Int32 := fun j => if u = 10 then (if j = 50 then nI 10 else if 51 ≤ j ∧ j < 123 then A (j + 8) else if 123 ≤ j ∧ j < 131 then w (j - 123) else A j) else (if j = 50 then nI (u + 1) else if 51 + 8 * u ≤ j ∧ j < 59 + 8 * u then w (j - (51 + 8 * u)) else A j)
def ntu (u : Nat) : Nat := if u = 10 then 10 else u + 1
def UF (x : Nat) (M M2 : Me) : Prop := (∀ a k, ¬ (a = x ∧ k = 8) → ¬ (x + 30 ≤ a ∧ a ≤ x + 49) → gI M2 a k = gI M a k) ∧ M2.2.1 = M.2.1 ∧ ∀ a k, a ≠ x + 29 → gR M2 a k = gR M a k
theorem UF.trans {M1 : Me} (h : UF x M M1) (h2 : UF x M1 M2) : UF x M M2 := ⟨fun a k p q => (h2.1 a k p q).trans (h.1 a k p q), h2.2.1.trans h.2.1, fun a k p => (h2.2.2 a k p).trans (h.2.2 a k p)⟩
theorem ntA_o {j : Nat} (h : j < 50 ∨ 131 ≤ j) (hu : u ≤ 10) : ntA A u w j = A j := by
  unfold ntA
  by_cases z : u = 10
  · rw [if_pos z, if_neg (by omega), if_neg (by omega), if_neg (by omega)]
  · rw [if_neg z, if_neg (by omega), if_neg (by omega)]
theorem UN.cong (h : UN x A u M) (e : ∀ j, 50 ≤ j → j < 131 → B j = A j) : UN x B u M := by
  obtain ⟨h1, h2, h3, p, p1, p2, p3, p4⟩ := h
  exact ⟨h1, (e 50 (by omega) (by omega)).trans h2, h3, p, p1, p2, p3, fun i hi => (p4 i hi).cong (fun k hk => e _ (by omega) (by omega))⟩
theorem UN.fr (h : UN x A u M) (e8 : gI M2 x 8 = gI M x 8) (f : ∀ a k, x + 30 ≤ a → a ≤ x + 49 → gI M2 a k = gI M a k) (g : ∀ k, gR M2 (x + 29) k = gR M (x + 29) k) : UN x A u M2 := by
  obtain ⟨h1, h2, h3, p, p1, p2, p3, p4⟩ := h
  exact ⟨h1, h2, e8.trans h3, p, p1, p2, fun i hi => (g i).trans (p3 i hi), fun i hi => (p4 i hi).fr (fun k => f _ _ (by omega) (by have := p1 i (by omega); omega)) (fun k => f _ _ (by omega) (by have := p1 i (by omega); omega))⟩
theorem xO_u : ∀ i, i < 48 → xO i ≠ 29 := by decide
theorem PX.uf (h : PX x T M) (f : UF x M M2) : PX x T M2 := h.fr (fun i hi => f.2.2 _ _ (by have := xO_u i hi; omega))
theorem c_remember {s : Nat} (hp : PX x T M) (h : UN x A u M) (hs : s = x + 25 ∨ s = x + 27) (hw : SD s w M) : Ok (fX11_remember T M x s) (fun p => UN x (ntA A u w) (ntu u) p.2 ∧ UF x M p.2) := by
  obtain ⟨h1, h2, h3, q, p1, p2, p3, p4⟩ := h
  have hks : KS s T M := hs.elim (fun e => by rw [e]; exact hp.ks25) (fun e => by rw [e]; exact hp.ks27)
  unfold fX11_remember
  simp (disch := omega) only [gdI, gdT, Option.bind_some, lte, hp.k0, hp.k29, hp.l29, hp.k30, hp.k31, hp.l31, hp.k32, hp.k33, hp.l33, hp.k34, hp.k35, hp.l35, hp.k36, hp.k37, hp.l37, hp.k38, hp.k39, hp.l39, hp.k40, hp.k41, hp.l41, hp.k42, hp.k43, hp.l43, hp.k44, hp.k45, hp.l45, hp.k46, hp.k47, hp.l47, hp.k48, hp.k49, hp.l49, hp.r0_0, hp.r0_2, hp.r0_3, hp.r0_4, hp.r0_5, hp.r0_6, hp.r0_7, hp.r0_9, hp.r0_10, hp.r0_13, hp.r30_0, hp.r32_0, hp.r34_0, hp.r36_0, hp.r38_0, hp.r40_0, hp.r42_0, hp.r44_0, hp.r46_0, hp.r48_0, h3, i_10, c_eq]
  by_cases z : u = 10
  · rw [if_pos z]
    simp (disch := omega) only [gdI, gdT, Option.bind_some, lte, i_0, gvI, cl_nI, p3]
    refine Ok.bd (ok_forF (s := ((1 : Int32), M)) 1 10 (fun i s => ∃ M', s = (nI i, M') ∧ M'.1 = M.1 ∧ M'.2.1 = M.2.1 ∧ (∀ a k, a ≠ x + 29 → gR M' a k = gR M a k) ∧ ∀ j, j < 10 → gR M' (x + 29) j = some (x + 30 + 2 * (if j + 1 < i then q (j + 1) else q j))) (fun M' => M'.1 = M.1 ∧ M'.2.1 = M.2.1 ∧ (∀ a k, a ≠ x + 29 → gR M' a k = gR M a k) ∧ ∀ j, j < 10 → gR M' (x + 29) j = some (x + 30 + 2 * (if j + 1 < 10 then q (j + 1) else q j))) ⟨M, rfl, rfl, rfl, fun _ _ _ => rfl, fun j hj => by rw [if_neg (by omega)]; exact p3 j hj⟩ (by omega) (by omega) (fun i s h1i hi hI => ?_) (fun s hI => ?_)) (fun M1 hq => ?_)
    · obtain ⟨M', rfl, e1, e2, e3, e4⟩ := hI
      have hp' : PX x T M' := hp.fr (fun i hi => e3 _ _ (by have := xO_u i hi; omega))
      show Ok (bX11_remember_18 T x s (x + 30 + 2 * q 0) (nI i) M') _
      have e4i := e4 i hi
      rw [if_neg (by omega)] at e4i
      unfold bX11_remember_18
      simp (disch := omega) only [gdI, gdT, Option.bind_some, lte, hp'.k0, hp'.k29, hp'.l29, hp'.k30, hp'.k31, hp'.l31, hp'.k32, hp'.k33, hp'.l33, hp'.k34, hp'.k35, hp'.l35, hp'.k36, hp'.k37, hp'.l37, hp'.k38, hp'.k39, hp'.l39, hp'.k40, hp'.k41, hp'.l41, hp'.k42, hp'.k43, hp'.l43, hp'.k44, hp'.k45, hp'.l45, hp'.k46, hp'.k47, hp'.l47, hp'.k48, hp'.k49, hp'.l49, hp'.r0_0, hp'.r0_2, hp'.r0_3, hp'.r0_4, hp'.r0_5, hp'.r0_6, hp'.r0_7, hp'.r0_9, hp'.r0_10, hp'.r0_13, hp'.r30_0, hp'.r32_0, hp'.r34_0, hp'.r36_0, hp'.r38_0, hp'.r40_0, hp'.r42_0, hp'.r44_0, hp'.r46_0, hp'.r48_0, i_10, i_1, c_le, Nat.not_le.mpr hi, if_false, gvI, cl_nI, e4i, (hp'.ks (p1 i hi)).1, c_sub, nI_add]
      refine ok_i ⟨_, rfl, e1, e2, fun a k ha => ?_, fun j hj => ?_⟩
      · rw [mRR, if_neg (by omega)]; exact e3 a k ha
      · rw [mRR]
        by_cases zj : j = i - 1
        · rw [if_pos ⟨rfl, zj⟩, if_pos (by omega), zj, show i - 1 + 1 = i by omega]
        · rw [if_neg (by omega), e4 j hj]
          by_cases zz : j + 1 < i
          · rw [if_pos zz, if_pos (by omega)]
          · rw [if_neg zz, if_neg (by omega)]
    · obtain ⟨M', rfl, e1, e2, e3, e4⟩ := hI
      show Ok (bX11_remember_18 T x s (x + 30 + 2 * q 0) (nI 10) M') _
      unfold bX11_remember_18
      simp (disch := omega) only [i_10, c_le, Nat.le_refl, if_true]
      exact ok_i ⟨e1, e2, e3, e4⟩
    · obtain ⟨e1, e2, e3, e4⟩ := hq
      have hp1 : PX x T M1 := hp.fr (fun i hi => e3 _ _ (by have := xO_u i hi; omega))
      have eI : ∀ a k, gI M1 a k = gI M a k := fun a k => by unfold gI; rw [e1]
      have q0 := p1 0 (by omega)
      have u8 : gI M1 x 8 = nI 10 := by rw [eI, h3, z]
      simp (disch := omega) only [gdI, gdT, Option.bind_some, lte, hp1.k0, hp1.k29, hp1.l29, hp1.k30, hp1.k31, hp1.l31, hp1.k32, hp1.k33, hp1.l33, hp1.k34, hp1.k35, hp1.l35, hp1.k36, hp1.k37, hp1.l37, hp1.k38, hp1.k39, hp1.l39, hp1.k40, hp1.k41, hp1.l41, hp1.k42, hp1.k43, hp1.l43, hp1.k44, hp1.k45, hp1.l45, hp1.k46, hp1.k47, hp1.l47, hp1.k48, hp1.k49, hp1.l49, hp1.r0_0, hp1.r0_2, hp1.r0_3, hp1.r0_4, hp1.r0_5, hp1.r0_6, hp1.r0_7, hp1.r0_9, hp1.r0_10, hp1.r0_13, hp1.r30_0, hp1.r32_0, hp1.r34_0, hp1.r36_0, hp1.r38_0, hp1.r40_0, hp1.r42_0, hp1.r44_0, hp1.r46_0, hp1.r48_0, (hp1.ks q0).1, i_9, i_1, gvI, cl_nI, mIR, mII1, u8, c_sub, mRI]
      have ek : gR (pR M1 (x + 29) 9 (some (x + 30 + 2 * q 0))) (x + 29) (10 - 1) = some (x + 30 + 2 * q 0) := by rw [mRR, if_pos ⟨rfl, rfl⟩]
      have ek7 : gR (pR M1 (x + 29) 9 (some (x + 30 + 2 * q 0))) x 7 = some (x + 29) := by rw [mRR, if_neg (by omega)]; exact hp1.r0_7
      rw [ek7, Option.bind_some, ek]
      simp (disch := omega) only [gdI, gdT, Option.bind_some, lte, (hp1.ks q0).1, hp1.k29, hp1.l29, gvI]
      generalize hM2 : pI (pR M1 (x + 29) 9 (some (x + 30 + 2 * q 0))) x 8 (nI (10 - 1)) = M2
      have g1 : ∀ a k, ¬ (a = x ∧ k = 8) → gI M2 a k = gI M a k := fun a k n => by rw [← hM2, mII, if_neg n, mIR]; exact eI a k
      have g2 : M2.2.1 = M.2.1 := by rw [← hM2]; exact e2
      have g3 : ∀ a k, a ≠ x + 29 → gR M2 a k = gR M a k := fun a k n => by rw [← hM2, mRI, mRR, if_neg (by omega)]; exact e3 a k n
      have g4 : ∀ j, j < 10 → gR M2 (x + 29) j = some (x + 30 + 2 * (if j = 9 then q 0 else q (j + 1))) := fun j hj => by
        rw [← hM2, mRI, mRR]
        by_cases zj : j = 9
        · rw [if_pos ⟨rfl, zj⟩, if_pos zj]
        · rw [if_neg (by omega), e4 j hj, if_pos (by omega), if_neg zj]
      have g5 : gI M2 x 8 = nI 9 := by rw [← hM2, mII1]
      have hp2 : PX x T M2 := hp.fr (fun i hi => g3 _ _ (by have := xO_u i hi; omega))
      have hks2 : KS s T M2 := hs.elim (fun e => by rw [e]; exact hp2.ks25) (fun e => by rw [e]; exact hp2.ks27)
      have hw2 : SD s w M2 := hw.fr (fun k => g1 _ _ (by omega)) (fun k => g1 _ _ (by omega))
      refine Ok.bd (c_copy (hp2.ks q0) hks2 (by omega) (by omega) (by omega) hw2) (fun p hq => ?_)
      obtain ⟨u1, M3⟩ := p
      obtain ⟨k1, k2, k3⟩ := hq
      have k2 : ∀ c k, c ≠ x + 30 + 2 * q 0 → c ≠ x + 30 + 2 * q 0 + 1 → gI M3 c k = gI M2 c k := k2
      have k3 : M3.2 = M2.2 := k3
      have k1 : SD (x + 30 + 2 * q 0) w M3 := k1
      rw [une2]
      refine ok_i ⟨⟨by have : ntu u = 10 := if_pos z; omega, ?_, ?_, fun j => if j = 9 then q 0 else q (j + 1), fun i hi => ?_, fun i j hi hj e => ?_, fun i hi => ?_, fun i hi => ?_⟩, fun a k n1 n2 => ?_, ?_, fun a k n => ?_⟩
      · unfold ntA ntu; rw [if_pos z, if_pos rfl, if_pos z]
      · show gI (pI M3 x 8 _) x 8 = _
        rw [mII1, k2 _ _ (by omega) (by omega), g5, nI_add]; unfold ntu; rw [if_pos z]
      · show (if i = 9 then q 0 else q (i + 1)) < 10
        split
        · exact q0
        · exact p1 _ (by omega)
      · have e : (if i = 9 then q 0 else q (i + 1)) = (if j = 9 then q 0 else q (j + 1)) := e
        by_cases i9 : i = 9
        · by_cases j9 : j = 9
          · omega
          · rw [if_pos i9, if_neg j9] at e
            have := p2 0 (j + 1) (by omega) (by omega) e
            omega
        · by_cases j9 : j = 9
          · rw [if_neg i9, if_pos j9] at e
            have := p2 (i + 1) 0 (by omega) (by omega) e
            omega
          · rw [if_neg i9, if_neg j9] at e
            have := p2 (i + 1) (j + 1) (by omega) (by omega) e
            omega
      · show gR (pI M3 x 8 _) (x + 29) i = _
        rw [mRI]; unfold gR; rw [k3]; exact g4 i hi
      · have hi : i < 10 := by unfold ntu at hi; rw [if_pos z] at hi; exact hi
        show SD (x + 30 + 2 * (if i = 9 then q 0 else q (i + 1))) _ (pI M3 x 8 _)
        by_cases i9 : i = 9
        · rw [if_pos i9]
          refine (k1.fr (fun k => mIIn (by omega)) (fun k => mIIn (by omega))).cong (fun k hk => ?_)
          show ntA A u w (51 + 8 * i + k) = w k
          unfold ntA
          rw [if_pos z, if_neg (by omega), if_neg (by omega), if_pos (by omega), i9, show 51 + 8 * 9 + k - 123 = k by omega]
        · rw [if_neg i9]
          have hne : q (i + 1) ≠ q 0 := fun e => by have := p2 _ _ (by omega) (by omega) e; omega
          have hq1 := p1 (i + 1) (by omega)
          refine ((p4 (i + 1) (by omega)).fr (fun k => ?_) (fun k => ?_)).cong (fun k hk => ?_)
          · rw [mIIn (by omega), k2 _ _ (by omega) (by omega), g1 _ _ (by omega)]
          · rw [mIIn (by omega), k2 _ _ (by omega) (by omega), g1 _ _ (by omega)]
          · show ntA A u w (51 + 8 * i + k) = A (51 + 8 * (i + 1) + k)
            unfold ntA
            rw [if_pos z, if_neg (by omega), if_pos (by omega), show 51 + 8 * i + k + 8 = 51 + 8 * (i + 1) + k by omega]
      · show gI (pI M3 x 8 _) a k = _
        rw [mII, if_neg n1, k2 _ _ (by omega) (by omega), g1 _ _ n1]
      · show M3.2.1 = M.2.1
        rw [k3]; exact g2
      · show gR (pI M3 x 8 _) a k = _
        rw [mRI]; unfold gR; rw [k3]; exact g3 a k n
  · rw [if_neg z]
    have hu : u < 10 := by omega
    have qu := p1 u hu
    simp (disch := omega) only [gdI, gdT, Option.bind_some, lte, gvI, cl_nI, p3, (hp.ks qu).1]
    refine Ok.bd (c_copy (hp.ks qu) hks (by omega) (by omega) (by omega) hw) (fun p hq => ?_)
    obtain ⟨u1, M3⟩ := p
    obtain ⟨k1, k2, k3⟩ := hq
    have k2 : ∀ c k, c ≠ x + 30 + 2 * q u → c ≠ x + 30 + 2 * q u + 1 → gI M3 c k = gI M c k := k2
    have k3 : M3.2 = M.2 := k3
    have k1 : SD (x + 30 + 2 * q u) w M3 := k1
    rw [une2]
    refine ok_i ⟨⟨by unfold ntu; rw [if_neg z]; omega, ?_, ?_, q, p1, p2, fun i hi => ?_, fun i hi => ?_⟩, fun a k n1 n2 => ?_, ?_, fun a k n => ?_⟩
    · unfold ntA ntu; rw [if_neg z, if_pos rfl, if_neg z]
    · show gI (pI M3 x 8 _) x 8 = _
      rw [mII1, k2 _ _ (by omega) (by omega), h3, nI_1]; unfold ntu; rw [if_neg z]
    · show gR (pI M3 x 8 _) (x + 29) i = _
      rw [mRI]; unfold gR; rw [k3]; exact p3 i hi
    · have hi : i < u + 1 := by unfold ntu at hi; rw [if_neg z] at hi; exact hi
      show SD (x + 30 + 2 * q i) _ (pI M3 x 8 _)
      by_cases iu : i = u
      · rw [iu]
        refine (k1.fr (fun k => mIIn (by omega)) (fun k => mIIn (by omega))).cong (fun k hk => ?_)
        show ntA A u w (51 + 8 * u + k) = w k
        unfold ntA
        rw [if_neg z, if_neg (by omega), if_pos (by omega), show 51 + 8 * u + k - (51 + 8 * u) = k by omega]
      · have hne : q i ≠ q u := fun e => by have := p2 _ _ (by omega) (by omega) e; omega
        have hq1 := p1 i (by omega)
        refine ((p4 i (by omega)).fr (fun k => ?_) (fun k => ?_)).cong (fun k hk => ?_)
        · rw [mIIn (by omega), k2 _ _ (by omega) (by omega)]
        · rw [mIIn (by omega), k2 _ _ (by omega) (by omega)]
        · show ntA A u w (51 + 8 * i + k) = A (51 + 8 * i + k)
          unfold ntA
          rw [if_neg z, if_neg (by omega), if_neg (by omega)]
    · show gI (pI M3 x 8 _) a k = _
      rw [mII, if_neg n1, k2 _ _ (by omega) (by omega)]
    · show M3.2.1 = M.2.1
      rw [k3]
    · show gR (pI M3 x 8 _) a k = _
      rw [mRI]; unfold gR; rw [k3]
end
