/-! the reference as it stands for a row A -/
theorem w_nI {n : Nat} (h : n < 2147483648) : (nI n).toInt64 = lN n := by
  rw [fa_eq64, Int32.toInt_toInt64, nI_toInt (by omega), pf_lI (by omega)]
theorem within_I (v lo hi : Int64) : fX12_within v lo hi = some (b2 (decide (lo.toInt ≤ v.toInt ∧ v.toInt ≤ hi.toInt))) := by
  unfold fX12_within
  simp only [lc_lt, lc_gt, fa_lt64]
  by_cases h1 : v.toInt < lo.toInt
  · rw [if_pos h1, decide_eq_false (by omega)]; rfl
  · rw [if_neg h1]
    by_cases h2 : hi.toInt < v.toInt
    · rw [if_pos h2, decide_eq_false (by omega)]; rfl
    · rw [if_neg h2, decide_eq_true (by omega)]; rfl
theorem ix_I (x : Int32) (N : Nat) (hN : N < 2147483648) : (∃ n, n < N ∧ x = nI n) ∨ (x.toInt < 0 ∨ (N : Int) ≤ x.toInt) := by
  rcases ix_of x N hN with h | h | h
  · exact Or.inl h
  · right; left; exact (fa_lt _ _).mp h
  · right; right
    have := (fa_le _ _).mp h
    rw [nI_toInt (by omega)] at this
    exact this
theorem gd_b {α : Type} {b : Bool} {x : Option α} : gd (b2 b = 0 ∨ b2 b = 1) x = x := gd_pos (by cases b <;> decide)
theorem i_pm {n : Nat} (h : n < 2147483648) : (nI n - 1).toInt = (n : Int) - 1 := by
  cases n with
  | zero => decide
  | succ n => rw [i_dec, nI_toInt (by omega)]; omega
theorem i_fwd (a : Int32) : a + 1 - 1 = a := by
  apply Int32.toBitVec_inj.mp
  simp
/-- what changes: ints at P -/
def FI (m : Nat) (P : Nat → Nat → Prop) (M M2 : Me) : Prop := (∀ a k, ¬ P a k → gI M2 a k = gI M a k) ∧ (∀ a k, a ≠ m + 5 → gJ M2 a k = gJ M a k) ∧ ∀ a k, a ≠ m + 5 → gR M2 a k = gR M a k
section
variable {m : Nat} {P Q : Nat → Nat → Prop} {M M1 M2 : Me}
theorem FI.rfl : FI m P M M := ⟨fun _ _ _ => Eq.refl _, fun _ _ _ => Eq.refl _, fun _ _ _ => Eq.refl _⟩
theorem FI.trans (h : FI m P M M1) (h2 : FI m P M1 M2) : FI m P M M2 := ⟨fun a k p => (h2.1 a k p).trans (h.1 a k p), fun a k p => (h2.2.1 a k p).trans (h.2.1 a k p), fun a k p => (h2.2.2 a k p).trans (h.2.2 a k p)⟩
theorem FI.wide (h : FI m P M M1) (k : ∀ a k, P a k → Q a k) : FI m Q M M1 := ⟨fun a j p => h.1 a j (fun q => p (k a j q)), h.2.1, h.2.2⟩
theorem FI.pI {a k : Nat} {v : Int32} (h : FI m P M M1) (hp : P a k) : FI m P M (pI M1 a k v) := ⟨fun b j q => by
  rw [gI_pI, if_neg (show ¬ (b = a ∧ j = k) from fun z => q (by rw [z.1, z.2]; exact hp))]
  exact h.1 b j q, h.2.1, h.2.2⟩
end
def wf (m a k : Nat) : Prop := a = m + 5 ∨ a = m + 6
def nf (m a k : Nat) : Prop := a = m + 5 ∨ a = m + 6 ∨ a = m ∧ (k = 0 ∨ k = 18 ∨ k = 19)
def mf (m a k : Nat) : Prop := a = m + 5 ∨ a = m + 6 ∨ a = m + 7 ∨ a = m ∧ (k = 0 ∨ k = 18 ∨ k = 19)
def sq (m a k : Nat) : Prop := m + 4 ≤ a ∧ a ≤ m + 11 ∨ a = m ∧ k ≠ 5 ∧ k ≠ 13 ∧ k ≠ 14
theorem wf_nf {m a k : Nat} (h : wf m a k) : nf m a k := by unfold wf at h; unfold nf; omega
theorem nf_mf {m a k : Nat} (h : nf m a k) : mf m a k := by unfold nf at h; unfold mf; omega
theorem wf_mf {m a k : Nat} (h : wf m a k) : mf m a k := nf_mf (wf_nf h)
theorem mf_qf {m a k : Nat} (h : mf m a k) : sq m a k := by unfold mf at h; unfold sq; omega
theorem nf_qf {m a k : Nat} (h : nf m a k) : sq m a k := mf_qf (nf_mf h)
theorem wf_qf {m a k : Nat} (h : wf m a k) : sq m a k := nf_qf (wf_nf h)
/-- all that a call of the reference may change that does nothing -/
def QF (m : Nat) (M M2 : Me) : Prop := (∀ a k, ¬ sq m a k → gI M2 a k = gI M a k) ∧ (∀ a k, ¬ (m + 5 ≤ a ∧ a ≤ m + 15) → gJ M2 a k = gJ M a k) ∧ ∀ a k, a ≠ m + 5 → gR M2 a k = gR M a k
theorem FI.qf {m : Nat} {P : Nat → Nat → Prop} {M M1 : Me} (h : FI m P M M1) (k : ∀ a k, P a k → sq m a k) : QF m M M1 := ⟨(h.wide k).1, fun a k q => h.2.1 a k (by omega), h.2.2⟩
theorem QF.trans {m : Nat} {M M1 M2 : Me} (h : QF m M M1) (h2 : QF m M1 M2) : QF m M M2 := ⟨fun a k p => (h2.1 a k p).trans (h.1 a k p), fun a k p => (h2.2.1 a k p).trans (h.2.1 a k p), fun a k p => (h2.2.2 a k p).trans (h.2.2 a k p)⟩
def RV (m : Nat) (A : Nat → Int32) (T : Sh) (M : Me) : Prop := RM m T M ∧ (∀ k, k < 1032 → gI M (m + 1) k = A k) ∧ LV A ∧ SV A
section
variable {m : Nat} {A : Nat → Int32} {T : Sh} {M M2 : Me}
theorem RV.rm (h : RV m A T M) : RM m T M := h.1
theorem RV.al (h : RV m A T M) {k : Nat} (hk : k < 1032) : gI M (m + 1) k = A k := h.2.1 k hk
theorem RV.lv (h : RV m A T M) : LV A := h.2.2.1
theorem RV.sv (h : RV m A T M) : SV A := h.2.2.2
theorem RV.qf (h : RV m A T M) (f : QF m M M2) : RV m A T M2 := ⟨h.1.fr (fun k => f.2.2 m k (by omega)), fun k hk => (f.1 _ _ (by unfold sq; omega)).trans (h.2.1 k hk), h.2.2⟩
theorem RV.fi {P : Nat → Nat → Prop} (h : RV m A T M) (f : FI m P M M2) (k : ∀ a k, P a k → sq m a k) : RV m A T M2 := h.qf (f.qf k)
theorem RV.t0 (h : RV m A T M) {v : Int32} : RV m A T (pI M m 0 v) := h.fi (P := nf m) (FI.rfl.pI (Or.inr (Or.inr ⟨rfl, Or.inl rfl⟩))) (fun _ _ => nf_qf)
theorem r_t0 {v : Int32} : FI m (nf m) M (pI M m 0 v) := FI.rfl.pI (Or.inr (Or.inr ⟨rfl, Or.inl rfl⟩))
theorem r_isLane (h : RV m A T M) (v : Int64) : fX12_isLane T M m v = some (b2 (decide (0 ≤ v.toInt ∧ v.toInt < nlA A))) := by
  have hM := h.rm
  unfold fX12_isLane
  simp (disch := omega) only [gdI, gdT, Option.bind_some, lte, une2, une3, nI_add, gvI, cl_nI, c_le, c_lt, c_eq, Sum.elim_inl, Sum.elim_inr, hM.k, hM.r1, hM.k1, hM.l1, i_3, h.al, h.lv.n3, within_I, gd_b]
  rw [Int32.toInt_toInt64, i_pm (by have := h.lv.b3; omega)]
  refine congrArg (fun z => some (b2 z)) (decide_eq_decide.mpr ?_)
  show 0 ≤ v.toInt ∧ _ ↔ _
  omega
theorem r_isPattern (h : RV m A T M) (v : Int64) : fX12_isPattern T M m v = some (b2 (decide (0 ≤ v.toInt ∧ v.toInt < npA A))) := by
  have hM := h.rm
  unfold fX12_isPattern
  simp (disch := omega) only [gdI, gdT, Option.bind_some, lte, une2, une3, nI_add, gvI, cl_nI, c_le, c_lt, c_eq, Sum.elim_inl, Sum.elim_inr, hM.k, hM.r1, hM.k1, hM.l1, i_4, h.al, h.lv.n4, within_I, gd_b]
  rw [Int32.toInt_toInt64, i_pm (by have := h.lv.b4; omega)]
  refine congrArg (fun z => some (b2 z)) (decide_eq_decide.mpr ?_)
  show 0 ≤ v.toInt ∧ _ ↔ _
  omega
theorem r_lane1 (h : RV m A T M) {l : Nat} (hl : l < nlA A) : fX12_isLane T M m (nI l).toInt64 = some 1 := by
  have := h.lv.b3
  rw [r_isLane h, Int32.toInt_toInt64, nI_toInt (by omega), decide_eq_true (by omega)]; rfl
theorem r_lane0 (h : RV m A T M) {x : Int32} (hx : x.toInt < 0 ∨ (nlA A : Int) ≤ x.toInt) : fX12_isLane T M m x.toInt64 = some 0 := by
  rw [r_isLane h, Int32.toInt_toInt64, decide_eq_false (by omega)]; rfl
theorem r_pat1 (h : RV m A T M) {l : Nat} (hl : l < npA A) : fX12_isPattern T M m (nI l).toInt64 = some 1 := by
  have := h.lv.b4
  rw [r_isPattern h, Int32.toInt_toInt64, nI_toInt (by omega), decide_eq_true (by omega)]; rfl
theorem r_pat0 (h : RV m A T M) {x : Int32} (hx : x.toInt < 0 ∨ (npA A : Int) ≤ x.toInt) : fX12_isPattern T M m x.toInt64 = some 0 := by
  rw [r_isPattern h, Int32.toInt_toInt64, decide_eq_false (by omega)]; rfl
theorem r_in1 {n a b : Nat} (h1 : a ≤ n) (h2 : n ≤ b) (hb : b < 2147483648) : fX12_within (nI n).toInt64 (lN a) (lN b) = some 1 := by
  rw [within_I, Int32.toInt_toInt64, nI_toInt (by omega), pf_lI (by omega), pf_lI (by omega), decide_eq_true (by omega)]; rfl
theorem r_in0 {x : Int32} {a b : Nat} (h : x.toInt < (a : Int) ∨ (b : Int) < x.toInt) (ha : a < 2147483648) (hb : b < 2147483648) : fX12_within x.toInt64 (lN a) (lN b) = some 0 := by
  rw [within_I, Int32.toInt_toInt64, pf_lI (by omega), pf_lI (by omega), decide_eq_false (by omega)]; rfl
theorem r_law {lw : Nat} {w : Nat → Int32} (h : RV m A T M) (hlw : lw < 3) (h1 : A (5 + lw) = 1) (hw : ∀ k, k < 6 → gI M (m + 6) k = w k) : Ok (fX12_reckons T M m (nI lw)) (fun p => p.1 = den A lw w ∧ FI m (wf m) M p.2) := by
  rcases h.lv.lw hlw with z | ⟨_, ⟨fr, n, z1, z2, z3⟩, z4, _⟩
  · exact absurd (z.symm.trans h1) (by decide)
  · obtain ⟨r, hr, _⟩ := z4 w
    have hc := cod_eq z1 z2 z3
    have hlen : (cod A lw).length = n := by rw [hc]; simp
    refine (s_reckons h.rm hlw (by rw [h.al (by omega), z2, hlen]) (by rw [h.al (by omega), z1]) (by rw [hlen]; exact z3) hw (fun i hi => ?_) hr).mono (fun p hp => ⟨?_, ?_⟩)
    · rw [hlen] at hi
      rw [h.al (by omega)]
      simp only [hc, List.getElem_map, List.getElem_range]
    · rw [hp.1]; exact (den_of hr).symm
    · exact ⟨fun a k q => (hp.2 a (fun z => q (Or.inl z))).1 k, fun a k q => (hp.2 a q).2.1 k, fun a k q => (hp.2 a q).2.2 k⟩
theorem cl15_ite (v : Int32) (M : Me) : (if (-15 : Int32) ≤ v then (if v ≤ (15 : Int32) then some (v, M) else some ((15 : Int32), M)) else some ((-15 : Int32), M)) = some (cl15 v, M) := by
  unfold cl15
  by_cases h1 : (-15 : Int32) ≤ v
  · have h1' : ¬ v < -15 := fun q => (fa_of_lt q).2.1 h1
    rw [if_pos h1, if_neg h1']
    by_cases h2 : v ≤ 15
    · have h2' : ¬ (15 : Int32) < v := fun q => (fa_of_lt q).2.1 h2
      rw [if_pos h2, if_neg h2']
    · rw [if_neg h2, if_pos (fa_of_nle h2)]
  · rw [if_neg h1, if_pos (fa_of_nle h1)]
theorem r_driftAt {t : Nat} (h : RV m A T M) (ht : t < 2147483648) : Ok (fX12_driftAt T M m (nI t)) (fun p => p.1 = dft (eT A t) ∧ FI m (wf m) M p.2) := by
  have hM := h.rm
  have hr : t % 100 < 100 := Nat.mod_lt _ (by omega)
  unfold fX12_driftAt eT
  rw [← (drE_b A (t % 100)).2]
  simp (disch := omega) only [gdI, gdT, Option.bind_some, lte, une2, une3, nI_add, gvI, cl_nI, c_le, c_lt, c_eq, Sum.elim_inl, Sum.elim_inr, hM.k, hM.r1, hM.k1, hM.l1, hM.r6, hM.k6, hM.l6, i_5, i_7, i_100, c_rem, mRI, mIIn, h.al]
  generalize t % 100 = r at *
  have f1 : FI m (wf m) M (pI M (m + 6) 5 (nI r)) := FI.rfl.pI (Or.inr rfl)
  unfold drI
  by_cases h7 : A 7 = 1
  · rw [if_pos h7, if_pos h7]
    refine Ok.bd (r_law (lw := 2) (h.fi f1 (fun _ _ => wf_qf)) (by omega) h7 (fun _ _ => rfl)) (fun p hq => ?_)
    obtain ⟨p1, M1⟩ := p
    obtain ⟨rfl, f2⟩ := hq
    rw [une2, cl15_ite]
    refine ok_i ⟨?_, f1.trans f2⟩
    rcases h.lv.lw (lw := 2) (by omega) with z | z
    · exact absurd (z.symm.trans h7) (by decide)
    · refine congrArg cl15 (z.2.2.2 _ _ (fun j hj => ?_))
      have : j = 5 := by simpa [al] using hj
      rw [this, mII1]
  · rw [if_neg h7, if_neg h7, if_pos (by decide), if_pos (by decide)]
    exact ok_i ⟨rfl, f1⟩
/-- the drift and the stress that are asked for -/
def RD (m : Nat) (A : Nat → Int32) (q e : Nat) (M : Me) : Prop := gI M m 18 = dft e ∧ gI M m 19 = stA A q
theorem RD.fi {q e : Nat} {P : Nat → Nat → Prop} (h : RD m A q e M) (f : FI m P M M2) (k : ∀ k, k = 18 ∨ k = 19 → ¬ P m k) : RD m A q e M2 := ⟨(f.1 _ _ (k 18 (by omega))).trans h.1, (f.1 _ _ (k 19 (by omega))).trans h.2⟩
theorem RD.w {q e : Nat} (h : RD m A q e M) (f : FI m (wf m) M M2) : RD m A q e M2 := h.fi f (fun k _ => by unfold wf; omega)
theorem pat_cases (h : SV A) : (A 49 = -1 ∧ qA A = 0) ∨ ∃ p, A 49 = nI p ∧ qA A = p + 1 := by
  have e : A 49 = nI (qA A) - 1 := by rw [← h.n49, i_fwd]
  cases hq : qA A with
  | zero => left; rw [hq] at e; exact ⟨e.trans (by decide), rfl⟩
  | succ p => right; rw [hq, i_dec] at e; exact ⟨p, e, rfl⟩
theorem r_laysNow (h : RV m A T M) : Ok (fX12_laysNow T M m) (fun p => RD m A (qA A) (eA A) p.2 ∧ FI m (nf m) M p.2 ∧ RV m A T p.2) := by
  have hM := h.rm
  have hb := h.sv.b48
  have hq4 := h.sv.b49
  have hp4 := h.lv.b4
  unfold fX12_laysNow
  simp (disch := omega) only [gdI, gdT, Option.bind_some, lte, une2, une3, nI_add, gvI, cl_nI, c_le, c_lt, c_eq, Sum.elim_inl, Sum.elim_inr, hM.k, hM.r1, hM.k1, hM.l1, i_48, i_49, i_38, h.al, h.sv.n48]
  refine Ok.bd (r_driftAt h (by omega)) (fun p hq => ?_)
  obtain ⟨p1, M1⟩ := p
  obtain ⟨rfl, f1⟩ := hq
  have h1 : RV m A T M1 := h.fi f1 (fun _ _ => wf_qf)
  have hM1 := h1.rm
  simp (disch := omega) only [gdI, gdT, Option.bind_some, lte, une2, une3, nI_add, gvI, cl_nI, c_le, c_lt, c_eq, Sum.elim_inl, Sum.elim_inr, hM1.k, hM1.r1, hM1.k1, hM1.l1, mRI, mIIn, h1.al]
  have g1 : FI m (nf m) M (pI M1 m 18 (dft (eT A (tmA A)))) := (f1.wide (fun _ _ => wf_nf)).pI (Or.inr (Or.inr ⟨rfl, by omega⟩))
  rcases pat_cases h.sv with ⟨e1, e2⟩ | ⟨p, e1, e2⟩
  · rw [if_pos e1]
    have g2 := g1.pI (a := m) (k := 19) (v := 0) (Or.inr (Or.inr ⟨rfl, by omega⟩))
    refine ok_i ⟨⟨?_, ?_⟩, g2, h.fi g2 (fun _ _ => nf_qf)⟩
    · rw [mIIk (by omega), mII1]; rfl
    · rw [mII1, e2]; rfl
  · rw [e1, if_neg (i_ne1 p (by omega))]
    simp (disch := omega) only [gdI, gdT, Option.bind_some, lte, une2, une3, nI_add, gvI, cl_nI, c_le, c_lt, c_eq, Sum.elim_inl, Sum.elim_inr, hM1.k, hM1.r1, hM1.k1, hM1.l1, h1.al]
    have g2 := g1.pI (a := m) (k := 19) (v := A (38 + p)) (Or.inr (Or.inr ⟨rfl, by omega⟩))
    refine ok_i ⟨⟨?_, ?_⟩, g2, h.fi g2 (fun _ _ => nf_qf)⟩
    · rw [mIIk (by omega), mII1]; rfl
    · rw [mII1, e2]
      unfold stA
      rw [if_neg (by omega), show 37 + (p + 1) = 38 + p by omega]
theorem r_plainOf (v : Int32) : fX12_plainOf v = some (ab v) := by
  unfold fX12_plainOf ab
  by_cases h : (0 : Int32) ≤ v
  · rw [if_pos h, if_neg]
    intro q; exact (fa_of_lt q).2.1 h
  · rw [if_neg h, if_pos (fa_of_nle h)]
theorem r_isPassed {q e l c : Nat} (h : RV m A T M) (hd : RD m A q e M) (hl : l < nlA A) (hc : c < 384) : Ok (fX12_isPassed T M m (nI l) (nI c)) (fun p => p.1 = b2 (psd A q e l (c / 24) (c % 24)) ∧ FI m (wf m) M p.2) := by
  have hM := h.rm
  have hn6 := h.lv.b3
  unfold fX12_isPassed
  simp (disch := omega) only [gdI, gdT, Option.bind_some, lte, une2, une3, nI_add, gvI, cl_nI, c_le, c_lt, c_eq, Sum.elim_inl, Sum.elim_inr, hM.k, hM.r1, hM.k1, hM.l1, i_5, i_24, i_26, i_14, i_20, i_32, c_div, c_remQ, h.al, hd.1, hd.2]
  generalize hv : c / 24 = v
  generalize hdd : c % 24 = d
  by_cases h5 : A 5 = 1
  · rw [if_pos h5]
    simp (disch := omega) only [gdI, gdT, Option.bind_some, lte, une2, une3, nI_add, gvI, cl_nI, c_le, c_lt, c_eq, Sum.elim_inl, Sum.elim_inr, hM.k, hM.r6, hM.k6, hM.l6, i_0, i_1, i_2, i_3, i_4, mRI, mIIn, hd.1, hd.2]
    have f1 : FI m (wf m) M (pI (pI (pI (pI (pI M (m + 6) 0 (nI d)) (m + 6) 1 (nI v)) (m + 6) 2 (nI l)) (m + 6) 3 (stA A q)) (m + 6) 4 (dft e)) := ((((FI.rfl.pI (Or.inr rfl)).pI (Or.inr rfl)).pI (Or.inr rfl)).pI (Or.inr rfl)).pI (Or.inr rfl)
    have hlw := r_law (lw := 0) (h.fi f1 (fun _ _ => wf_qf)) (by omega) h5 (fun _ _ => rfl)
    refine Ok.bd hlw (fun p hq => ?_)
    obtain ⟨p1, M1⟩ := p
    obtain ⟨rfl, f2⟩ := hq
    rw [une2]
    have ep : psd A q e l v d = decide (den A 0 (gI (pI (pI (pI (pI (pI M (m + 6) 0 (nI d)) (m + 6) 1 (nI v)) (m + 6) 2 (nI l)) (m + 6) 3 (stA A q)) (m + 6) 4 (dft e)) (m + 6)) = 1) := by
      unfold psd
      rw [if_pos h5]
      rcases h.lv.lw (lw := 0) (by omega) with z | z
      · exact absurd (z.symm.trans h5) (by decide)
      · have := z.2.2.2 (wds (nI d) (nI v) (nI l) (stA A q) (dft e) 0) (gI (pI (pI (pI (pI (pI M (m + 6) 0 (nI d)) (m + 6) 1 (nI v)) (m + 6) 2 (nI l)) (m + 6) 3 (stA A q)) (m + 6) 4 (dft e)) (m + 6)) (fun j hj => by
          have hj5 : j < 5 := by simpa [al] using hj
          rcases (by omega : j = 0 ∨ j = 1 ∨ j = 2 ∨ j = 3 ∨ j = 4) with z | z | z | z | z <;> subst z <;> simp (disch := omega) only [mIIk, mII1] <;> rfl)
        rw [this]
    by_cases h1 : den A 0 (gI (pI (pI (pI (pI (pI M (m + 6) 0 (nI d)) (m + 6) 1 (nI v)) (m + 6) 2 (nI l)) (m + 6) 3 (stA A q)) (m + 6) 4 (dft e)) (m + 6)) = 1
    · have e1 : psd A q e l v d = true := by rw [ep]; exact decide_eq_true h1
      rw [if_pos (show _ = nI 1 from h1)]
      exact ok_i ⟨by rw [e1]; rfl, f1.trans f2⟩
    · have e1 : psd A q e l v d = false := by rw [ep]; exact decide_eq_false h1
      rw [if_neg (show ¬ _ = nI 1 from h1)]
      exact ok_i ⟨by rw [e1]; rfl, f1.trans f2⟩
  · rw [if_neg h5]
    simp (disch := omega) only [r_plainOf, gdI, gdT, Option.bind_some, lte, une2, une3, nI_add, gvI, cl_nI, c_le, c_lt, c_eq, Sum.elim_inl, Sum.elim_inr, hM.k, hM.r1, hM.k1, hM.l1, h.al]
    have ep : psd A q e l v d = decide (0 < A (26 + l) - stA A q ∧ ab (nI d - A (14 + l) - dft e) * A (32 + l) + ab (nI v - A (20 + l)) * (A (26 + l) - stA A q) < (A (26 + l) - stA A q) * A (32 + l)) := by unfold psd; rw [if_neg h5]
    generalize A (26 + l) - stA A q = w at *
    by_cases g1 : w ≤ 0
    · rw [if_pos g1]
      refine ok_i ⟨?_, FI.rfl⟩
      rw [ep, decide_eq_false (fun z => (fa_of_lt z.1).2.1 g1)]; rfl
    · rw [if_neg g1]
      by_cases g3 : w * A (32 + l) ≤ ab (nI d - A (14 + l) - dft e) * A (32 + l) + ab (nI v - A (20 + l)) * w
      · rw [if_pos g3]
        refine ok_i ⟨?_, FI.rfl⟩
        rw [ep, decide_eq_false (fun z => (fa_of_lt z.2).2.1 g3)]; rfl
      · rw [if_neg g3]
        refine ok_i ⟨?_, FI.rfl⟩
        rw [ep, decide_eq_true ⟨fa_of_nle g1, fa_of_nle g3⟩]; rfl
theorem r_rowOf {q e l v : Nat} (h : RV m A T M) (hd : RD m A q e M) (hl : l < nlA A) (hv : v < 16) : Ok (fX12_rowOf T M m (nI l) (nI v)) (fun p => p.1 = rwA A q e l v ∧ FI m (wf m) M p.2) := by
  unfold fX12_rowOf
  refine Ok.bd (ok_forF (s := ((0 : Int32), (0 : Int32), M)) 0 24 (fun i s => ∃ M', s = (mk (psd A q e l v) i, nI i, M') ∧ FI m (wf m) M M') (fun p => p.1 = rwA A q e l v ∧ FI m (wf m) M p.2) ⟨M, rfl, FI.rfl⟩ (by omega) (by omega) (fun i s _ hi hI => ?_) (fun s hI => ?_)) (fun p hq => ok_i hq)
  · obtain ⟨M', rfl, f⟩ := hI
    have h' : RV m A T M' := h.fi f (fun _ _ => wf_qf)
    have hM := h'.rm
    show Ok (bX12_rowOf_5 T m (nI l) (nI v) (mk (psd A q e l v) i) (nI i) M') _
    unfold bX12_rowOf_5
    simp (disch := omega) only [gdI, gdT, Option.bind_some, lte, une2, une3, nI_add, gvI, cl_nI, c_le, c_lt, c_eq, Sum.elim_inl, Sum.elim_inr, hM.k, i_24, c_mul, Nat.not_le.mpr hi, if_false]
    refine Ok.bd (r_isPassed (c := 24 * v + i) h' (hd.w f) hl (by omega)) (fun p hq => ?_)
    obtain ⟨p1, M1⟩ := p
    obtain ⟨rfl, f1⟩ := hq
    rw [show (24 * v + i) / 24 = v by omega, show (24 * v + i) % 24 = i by omega]
    simp only [une2, lte, nI_1]
    cases hb : psd A q e l v i
    · rw [if_pos (b2_ne.mpr rfl)]
      exact ok_i ⟨M1, by rw [mk, if_neg (by rw [hb]; decide)], f.trans f1⟩
    · rw [if_neg (fun z => absurd (b2_ne.mp z) (by decide))]
      exact ok_i ⟨M1, by rw [mk, if_pos hb], f.trans f1⟩
  · obtain ⟨M', rfl, f⟩ := hI
    show Ok (bX12_rowOf_5 T m (nI l) (nI v) (mk (psd A q e l v) 24) (nI 24) M') _
    unfold bX12_rowOf_5
    rw [i_24, if_pos (by decide)]
    exact ok_i ⟨rfl, f⟩
theorem RD.mp {q e : Nat} (h : RD m A q e M) (f : FI m (fun a _ => a = m + 5 ∨ a = m + 6 ∨ a = m + 7) M M2) : RD m A q e M2 := h.fi f (fun k _ => by omega)
theorem r_laysMap {q e l : Nat} (h : RV m A T M) (hd : RD m A q e M) (hl : l < nlA A) : Ok (fX12_laysMap T M m (nI l)) (fun p => (∀ v, v < 16 → gI p.2 (m + 7) v = rwA A q e l v) ∧ FI m (fun a _ => a = m + 5 ∨ a = m + 6 ∨ a = m + 7) M p.2) := by
  unfold fX12_laysMap
  refine Ok.bd (ok_forF (s := ((0 : Int32), M)) 0 16 (fun i s => ∃ M', s = (nI i, M') ∧ (∀ v, v < i → gI M' (m + 7) v = rwA A q e l v) ∧ FI m (fun a _ => a = m + 5 ∨ a = m + 6 ∨ a = m + 7) M M') (fun p => (∀ v, v < 16 → gI p (m + 7) v = rwA A q e l v) ∧ FI m (fun a _ => a = m + 5 ∨ a = m + 6 ∨ a = m + 7) M p) ⟨M, rfl, fun v hv => absurd hv (by omega), FI.rfl⟩ (by omega) (by omega) (fun i s _ hi hI => ?_) (fun s hI => ?_)) (fun p hq => ok_i hq)
  · obtain ⟨M', rfl, hm, f⟩ := hI
    have h' : RV m A T M' := h.fi f (fun a k q => by unfold sq; omega)
    have hM := h'.rm
    show Ok (bX12_laysMap_2 T m (nI l) (nI i) M') _
    unfold bX12_laysMap_2
    simp (disch := omega) only [gdI, gdT, Option.bind_some, lte, une2, une3, nI_add, gvI, cl_nI, c_le, c_lt, c_eq, Sum.elim_inl, Sum.elim_inr, hM.k, hM.r7, hM.k7, hM.l7, i_16, Nat.not_le.mpr hi, if_false]
    refine Ok.bd (r_rowOf h' (hd.mp f) hl hi) (fun p hq => ?_)
    obtain ⟨p1, M1⟩ := p
    obtain ⟨rfl, f1⟩ := hq
    simp (disch := omega) only [gdI, gdT, Option.bind_some, lte, une2, une3, nI_add, gvI, cl_nI, c_le, c_lt, c_eq, Sum.elim_inl, Sum.elim_inr, hM.k, hM.r7, hM.k7, hM.l7, nI_1]
    have f2 : FI m (fun a _ => a = m + 5 ∨ a = m + 6 ∨ a = m + 7) M' M1 := f1.wide (fun a k q => by unfold wf at q; omega)
    refine ok_i ⟨_, rfl, fun v hv => ?_, (f.trans f2).pI (by omega)⟩
    by_cases e : v = i
    · rw [e, mII1]
    · rw [mIIk e, f1.1 _ _ (by unfold wf; omega)]; exact hm v (by omega)
  · obtain ⟨M', rfl, hm, f⟩ := hI
    show Ok (bX12_laysMap_2 T m (nI l) (nI 16) M') _
    unfold bX12_laysMap_2
    rw [i_16, if_pos (by decide)]
    exact ok_i ⟨hm, f⟩
/-- the map as the reference has it -/
def MP (a : Nat) (g : Nat → Int32) (M : Me) : Prop := ∀ v, v < 16 → gI M a v = g v
theorem r_laysMapNow {l : Nat} (h : RV m A T M) (hl : l < nlA A) : Ok (fX12_laysMapNow T M m (nI l)) (fun p => MP (m + 7) (mpA A l) p.2 ∧ FI m (mf m) M p.2 ∧ RV m A T p.2 ∧ RD m A (qA A) (eA A) p.2) := by
  have hM := h.rm
  unfold fX12_laysMapNow
  simp only [gdI, gdT, Option.bind_some, lte, une2, une3, nI_add, gvI, cl_nI, c_le, c_lt, c_eq, Sum.elim_inl, Sum.elim_inr, hM.k]
  refine Ok.bd (r_laysNow h) (fun p hq => ?_)
  obtain ⟨p1, M1⟩ := p
  obtain ⟨d1, f1, h1⟩ := hq
  simp only [une2]
  refine Ok.bd (r_laysMap h1 d1 hl) (fun p hq => ?_)
  obtain ⟨p1, M2⟩ := p
  obtain ⟨m2, f2⟩ := hq
  have f3 : FI m (mf m) M M2 := (f1.wide (fun _ _ => nf_mf)).trans (f2.wide (fun a k q => by unfold mf; omega))
  exact ok_i ⟨m2, f3, h.fi f3 (fun _ _ => mf_qf), d1.mp f2⟩
end
