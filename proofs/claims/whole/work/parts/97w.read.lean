/-! a lab is read -/
section
variable {x m n N lw i o q d a l p : Nat} {b : Nat → Nat} {u : Int32} {T T2 : Sh} {M M1 M2 : Me} {F G : Nat → Int32}
def xfl (n : Nat) (b : Nat → Nat) (i k : Nat) (fl : Option (Nat × Nat)) : Option (Nat × Nat) := match fl with
  | some f => some f
  | none => if tK b n i = k then none else some (fkd n b i 2, tP b n i)
theorem xfl_0 {k : Nat} {fl : Option (Nat × Nat)} (h : xfl n b i k fl = none) : fl = none ∧ tK b n i = k := by
  cases fl with
  | some f => cases h
  | none =>
    unfold xfl at h
    simp only at h
    by_cases z : tK b n i = k
    · exact ⟨rfl, z⟩
    · rw [if_neg z] at h; cases h
theorem k_expA {k : Nat} {kk : Int32} {fl : Option (Nat × Nat)} (h : CBF x n N b T i fl M) (ek : kk = ck k) (hk : vk k) (h26 : k ≠ 26) (h27 : k ≠ 27) : Ok (fX6_expect T M (x + 2) kk) (fun p => CBF x n N b T (i + 1) (xfl n b i k fl) p.2 ∧ LFr x M p.2) := by
  cases fl with
  | some f =>
    have h : CFl x T f.1 f.2 M := h
    rw [k_expectF h.1 h.ne ek (vk_42 hk).1]
    exact ok_i ⟨h, LFr.rfl⟩
  | none =>
    have h : CBq x n N b T i M := h
    by_cases z : tK b n i = k
    · obtain ⟨a1, a2⟩ := k_next h (by omega) (by omega)
      have e : xfl n b i k none = none := if_pos z
      rw [k_expect1 h ek z h26 h27, e]
      exact ok_i ⟨a1, a2⟩
    · have e : xfl n b i k none = some (fkd n b i 2, tP b n i) := if_neg z
      rw [e]
      exact (k_expect0 h ek hk z).mono (fun p hp => ⟨hp.1, hp.2.1⟩)
theorem r_expA {β : Type} {k : Nat} {kk : Int32} {fl : Option (Nat × Nat)} {K : Me → Option β} {P : β → Prop} (h : RBF m n N b T i fl M) (ek : kk = nI k) (hk : k < 42) (h26 : k ≠ 26) (h27 : k ≠ 27) (hK : ∀ M', RBF m n N b T (i + 1) (xfl n b i k fl) M' → FI m (rh m) M M' → Ok (K M') P) : Ok (Option.bind (fX12_eats T M m kk) <| un2 fun r12 M13 => if r12 = 0 then (Option.bind (fX12_fails T M13 m (2 : Int32)) <| un2 fun _u M55 => K M55) else (K M13)) P := by
  cases fl with
  | some f =>
    have h : RFl m T f.1 f.2 M := h
    rw [r_eatsF h.1 h.ne, Option.bind_some, une2, if_pos rfl, r_failsF h.1 h.ne, Option.bind_some, une2]
    exact hK M h FI.rfl
  | none =>
    have h : RBq m n N b T i M := h
    by_cases z : tK b n i = k
    · have e : xfl n b i k none = none := if_pos z
      rw [e] at hK
      refine Ok.bd (r_eats1 h ek (by omega) z h26 h27) (fun p hp => ?_)
      obtain ⟨p1, M1⟩ := p
      obtain ⟨e1, h1, f1⟩ := hp
      have e1 : p1 = 1 := e1
      rw [une2, e1, if_neg (by decide)]
      exact hK M1 h1 (f1.wide (fun a k z => rh_tq z))
    · have e : xfl n b i k none = some (fkd n b i 2, tP b n i) := if_neg z
      rw [e] at hK
      rw [r_eats0 h ek (by omega) z, Option.bind_some, une2, if_pos rfl, i_2]
      refine Ok.bd (r_failsh h (by omega) (by omega)) (fun p hp => ?_)
      obtain ⟨p1, M1⟩ := p
      rw [une2]
      exact hK M1 hp.1 hp.2
def hdF (v1 v2 : Nat) (k : Nat) : Int32 := if k = 0 then 1 else if k = 1 then nI v1 else if k = 2 then nI v2 else if k = 49 then -1 else 0
theorem hdF_FV {v1 v2 : Nat} (h1 : 1 ≤ v1 ∧ v1 ≤ 9) (h2 : 1 ≤ v2 ∧ v2 ≤ 9) : FV (hdF v1 v2) 0 := by
  have e : ∀ k, 3 ≤ k → k ≠ 49 → hdF v1 v2 k = 0 := fun k a1 a2 => by unfold hdF; rw [if_neg (by omega), if_neg (by omega), if_neg (by omega), if_neg a2]
  refine ⟨⟨?_, ?_, ?_, ?_, fun q hq => ⟨0, by omega, ?_⟩, fun lw hl => Or.inl (e _ (by omega) (by omega))⟩, e 131 (by omega) (by omega), fun lw hl h => ?_, fun k a1 a2 => ?_, fun j _ _ => e _ (by omega) (by omega)⟩
  · unfold nlA; rw [e 3 (by omega) (by omega)]; decide
  · unfold npA; rw [e 4 (by omega) (by omega)]; decide
  · have : hdF v1 v2 1 = nI v1 := rfl
    unfold asA; rw [this, cl_nI (by omega)]; exact ⟨rfl, h1⟩
  · have : hdF v1 v2 2 = nI v2 := rfl
    unfold hoA; rw [this, cl_nI (by omega)]; exact ⟨rfl, h2⟩
  · unfold stA
    by_cases z : q = 0
    · rw [if_pos z]; rfl
    · rw [if_neg z, e _ (by omega) (by omega)]; rfl
  · rw [e _ (by omega) (by omega)] at h
    exact absurd h (by decide)
  · unfold plA
    by_cases z : k = 49
    · rw [if_pos z, z]; rfl
    · rw [if_neg z]; exact e k (by omega) z
/-- the fault, or none, of what a lab begins with -/
def hf1 (n : Nat) (b : Nat → Nat) : Option (Nat × Nat) := xfl n b 0 0 none
def hf2 (n : Nat) (b : Nat → Nat) : Option (Nat × Nat) := wfl n b 1 1 1 9 (hf1 n b)
def hf3 (n : Nat) (b : Nat → Nat) : Option (Nat × Nat) := wfl n b 3 2 1 9 (hf2 n b)
def hf4 (n : Nat) (b : Nat → Nat) : Option (Nat × Nat) := xfl n b 5 30 (hf3 n b)
theorem hf_0 (hT : TN n b N) (h : hf4 n b = none) : 6 ≤ N ∧ (1 ≤ tV b n 2 ∧ tV b n 2 ≤ 9) ∧ (1 ≤ tV b n 4 ∧ tV b n 4 ≤ 9) ∧ hf2 n b = none ∧ hf3 n b = none := by
  obtain ⟨h3, a5⟩ := xfl_0 (show xfl n b 5 30 (hf3 n b) = none from h)
  obtain ⟨h2, a3, a4, v2⟩ := wfl_0 (show wfl n b 3 2 1 9 (hf2 n b) = none from h3)
  obtain ⟨h1, a1, a2, v1⟩ := wfl_0 (show wfl n b 1 1 1 9 (hf1 n b) = none from h2)
  obtain ⟨_, a0⟩ := xfl_0 (show xfl n b 0 0 none = none from h1)
  have c0 := hT.lt (i := 0) (by omega) (by omega) (by omega)
  have c1 := hT.lt (i := 1) (by omega) (by omega) (by omega)
  have c2 := hT.lt (i := 2) (by omega) (by rw [show (2 : Nat) = 1 + 1 from rfl, a2]; omega) (by rw [show (2 : Nat) = 1 + 1 from rfl, a2]; omega)
  have c3 := hT.lt (i := 3) (by omega) (by omega) (by omega)
  have c4 := hT.lt (i := 4) (by omega) (by rw [show (4 : Nat) = 3 + 1 from rfl, a4]; omega) (by rw [show (4 : Nat) = 3 + 1 from rfl, a4]; omega)
  have c5 := hT.lt (i := 5) (by omega) (by omega) (by omega)
  exact ⟨by omega, v1, v2, h2, h3⟩
theorem c_head (hL : LBs x a T M) (hC : CLab x a plF T M) (hw : LWn a M) (h : CBq x n N b T 0 M) : Ok (Option.bind (fX6_expect T M (x + 2) (206 : Int32)) <| un2 fun _u M11 => Option.bind (fX6_numberBehind T M11 (x + 2) (207 : Int32) (1 : Int32) (9 : Int32)) <| un2 fun r12 M13 => gd (kd T a = 2) <| lt (pI M13 a 5 r12) fun M15 => Option.bind (fX6_numberBehind T M15 (x + 2) (208 : Int32) (1 : Int32) (9 : Int32)) <| un2 fun r16 M17 => lt (pI M17 a 6 r16) fun M18 => Option.bind (fX6_expect T M18 (x + 2) (59 : Int32)) <| un2 fun _u M19 => lt (pI M19 a 9 (1 : Int32)) fun M20 => (some M20 : Option Me)) (fun M' => CBF x n N b T 6 (hf4 n b) M' ∧ RG x a M M' ∧ (hf4 n b = none → TN n b N → CLab x a (hdF (tV b n 2) (tV b n 4)) T M' ∧ LWn a M')) := by
  have ha := hL.1
  have htp := hC.1.2.2
  refine Ok.bd (k_expA (fl := none) (k := 0) h rfl (by unfold vk; omega) (by omega) (by omega)) (fun p hp => ?_)
  obtain ⟨p1, M1⟩ := p
  obtain ⟨g1, f1⟩ := hp
  have g1 : CBF x n N b T 1 (hf1 n b) M1 := g1
  have f1 : LFr x M M1 := f1
  rw [une2]
  refine Ok.bd (k_named (k := 1) (lo := 1) (hi := 9) g1 rfl (by omega) (by omega) (by omega)) (fun p hp => ?_)
  obtain ⟨r, M2⟩ := p
  obtain ⟨v2, g2, f2⟩ := hp
  have v2 : hf2 n b = none → r = nI (tV b n 2) := v2
  have g2 : CBF x n N b T 3 (hf2 n b) M2 := g2
  have f2 : LFr x M1 M2 := f2
  rw [une2, hL.2.1, gdI, lte]
  refine Ok.bd (k_named (k := 2) (lo := 1) (hi := 9) (CBF.pw g2 (show x + 8 ≤ a by omega)) rfl (by omega) (by omega) (by omega)) (fun p hp => ?_)
  obtain ⟨r3, M3⟩ := p
  obtain ⟨v3, g3, f3⟩ := hp
  have v3 : hf3 n b = none → r3 = nI (tV b n 4) := v3
  have g3 : CBF x n N b T 5 (hf3 n b) M3 := g3
  have f3 : LFr x (pI M2 a 5 r) M3 := f3
  rw [une2, lte]
  refine Ok.bd (k_expA (k := 30) (CBF.pw g3 (show x + 8 ≤ a by omega)) rfl (by unfold vk; omega) (by omega) (by omega)) (fun p hp => ?_)
  obtain ⟨p1, M4⟩ := p
  obtain ⟨g4, f4⟩ := hp
  have g4 : CBF x n N b T 6 (hf4 n b) M4 := g4
  have f4 : LFr x (pI M3 a 6 r3) M4 := f4
  rw [une2, lte]
  have rg : RG x a M (pI M4 a 9 1) := ((((((f1.trans f2).rg (t := a)).pI (Or.inl (Nat.le_refl _))).trans (f3.rg (t := a)) (Nat.le_refl _)).pI (Or.inl (Nat.le_refl _))).trans (f4.rg (t := a)) (Nat.le_refl _)).pI (Or.inl (Nat.le_refl _))
  refine ok_i ⟨CBF.pw g4 (by omega), rg, fun hn hT => ?_⟩
  obtain ⟨_, w1, w2, n2, n3⟩ := hf_0 hT hn
  have er : ∀ c k, gR (pI M4 a 9 1) c k = gR M c k := fun c k => by
    have e4 : M4.2 = M.2 := f4.2.trans (f3.2.trans (f2.2.trans f1.2))
    show M4.2.2 c k = M.2.2 c k
    rw [e4]
  have ei : ∀ c k, x + 88 ≤ c → c ≠ a → gI (pI M4 a 9 1) c k = gI M c k := fun c k a1 a2 => by
    rw [mIIn a2, f4.1 _ _ (by omega) (by omega), mIIn a2, f3.1 _ _ (by omega) (by omega), mIIn a2, f2.1 _ _ (by omega) (by omega), f1.1 _ _ (by omega) (by omega)]
  have ea : ∀ k, k ≠ 5 → k ≠ 6 → k ≠ 9 → gI (pI M4 a 9 1) a k = gI M a k := fun k a1 a2 a3 => by
    rw [mIIk a3, f4.1 _ _ (by omega) (by omega), mIIk a2, f3.1 _ _ (by omega) (by omega), mIIk a1, f2.1 _ _ (by omega) (by omega), f1.1 _ _ (by omega) (by omega)]
  have nl0 : nlA (hdF (tV b n 2) (tV b n 4)) = 0 := by
    unfold nlA
    have : hdF (tV b n 2) (tV b n 4) 3 = 0 := rfl
    rw [this]; decide
  have np0 : npA (hdF (tV b n 2) (tV b n 4)) = 0 := by
    unfold npA
    have : hdF (tV b n 2) (tV b n 4) 4 = 0 := rfl
    rw [this]; decide
  refine hC.gen hw TE.rfl (fun c k _ => er c k) (fun c k a1 _ => ei c k (by omega) (by omega)) ⟨?_, ?_, ?_, ?_, ?_⟩ (fun l hl => absurd hl (by omega)) (fun q hq => ?_) (fun lw hl => ?_) (fun lw hl w => ?_)
  · rw [mIIk (by omega), f4.1 _ _ (by omega) (by omega), mIIk (by omega), f3.1 _ _ (by omega) (by omega), mII1, v2 n2]; rfl
  · rw [mIIk (by omega), f4.1 _ _ (by omega) (by omega), mII1, v3 n3]; rfl
  · rw [ea 7 (by omega) (by omega) (by omega), hC.f7]; rfl
  · rw [ea 8 (by omega) (by omega) (by omega), hC.f8]; rfl
  · rw [mII1]; rfl
  · have q0 : q = 0 := by omega
    subst q0
    rw [ei _ _ (by omega) (by omega), hC.st (Nat.zero_le _)]; rfl
  · unfold hdF plF
    rw [if_neg (by omega), if_neg (by omega), if_neg (by omega), if_neg (by omega), if_neg (by omega), if_neg (by omega)]
  · have e : ∀ k, (5 ≤ k ∧ k < 14) ∨ 132 ≤ k → hdF (tV b n 2) (tV b n 4) k = plF k := fun k hk => by
      unfold hdF plF
      rw [if_neg (by omega), if_neg (by omega), if_neg (by omega), if_neg (by omega), if_neg (by omega), if_neg (by omega)]
    rw [den_cong hl (fun k a1 a2 => e k (by omega)) (fun k a1 a2 => e k (by omega))]
/-- what reading a text comes to -/
def RDq (x m n : Nat) (b : Nat → Nat) : Prop :=
  (∃ F q, FV F q ∧ (∀ T M, PX x T M → TX x n b M → x + 88 ≤ tp T → Ok (fX6_read T M (x + 2) (x + 1) (nI n)) (fun p => p.1 = some (tp T) ∧ CLab x (tp T) F p.2.1 p.2.2 ∧ PX x p.2.1 p.2.2 ∧ gI p.2.2 (x + 2) 2 = 0 ∧ gI p.2.2 (x + 2) 3 = -1 ∧ TE T p.2.1 ∧ RG x (tp T) M p.2.2 ∧ tp p.2.1 ≤ tp T + 1100 ∧ sl p.2.1 ≤ sl T + 14000)) ∧ ∀ T M, TR m n b T M → gI M m 7 = 0 → gI M m 11 = 0 → (∀ k, k < 1032 → gI M (m + 4) k = plF k) → ∀ P : Int32 × Me → Prop, (∀ M', RM m T M' → gI M' m 11 = 0 → (∀ k, k < 1032 → gI M' (m + 4) k = F k) → FI m (rz m) M M' → Ok (lt (pI M' m 13 (gI M' m 11)) fun M35 => if (gI M35 m 11) = 0 then (jX12_lab_149 T M35 m (-1 : Int32) m) else (jX12_lab_149 T M35 m (gI M35 m 12) m)) P) → Ok (Option.bind (fX12_next T M m) <| un2 fun _u M11 => Option.bind (fX12_eats T M11 m (0 : Int32)) <| un2 fun r12 M13 => if r12 = 0 then (Option.bind (fX12_fails T M13 m (2 : Int32)) <| un2 fun _u M55 => jX12_lab_66 T M55 m) else (jX12_lab_66 T M13 m)) P)
  ∨ ∃ f : Nat × Nat, (∀ T M, PX x T M → TX x n b M → x + 88 ≤ tp T → Ok (fX6_read T M (x + 2) (x + 1) (nI n)) (fun p => p.1 = none ∧ CFl x p.2.1 f.1 f.2 p.2.2 ∧ TE T p.2.1 ∧ RG x (tp T) M p.2.2 ∧ tp p.2.1 ≤ tp T + 1100 ∧ sl p.2.1 ≤ sl T + 14000)) ∧ ∀ T M, TR m n b T M → gI M m 7 = 0 → gI M m 11 = 0 → (∀ k, k < 1032 → gI M (m + 4) k = plF k) → ∀ P : Int32 × Me → Prop, (∀ M', RFl m T f.1 f.2 M' → FI m (rz m) M M' → Ok (lt (pI M' m 13 (gI M' m 11)) fun M35 => if (gI M35 m 11) = 0 then (jX12_lab_149 T M35 m (-1 : Int32) m) else (jX12_lab_149 T M35 m (gI M35 m 12) m)) P) → Ok (Option.bind (fX12_next T M m) <| un2 fun _u M11 => Option.bind (fX12_eats T M11 m (0 : Int32)) <| un2 fun r12 M13 => if r12 = 0 then (Option.bind (fX12_fails T M13 m (2 : Int32)) <| un2 fun _u M55 => jX12_lab_66 T M55 m) else (jX12_lab_66 T M13 m)) P
end
