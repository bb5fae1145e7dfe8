/-! the reference takes a token -/
def ks (k : Nat) : Nat := [1, 5, 12, 17, 22, 25, 31, 36, 41, 49, 56, 61, 68, 71, 76, 81, 85, 91, 98, 104, 109, 113, 116, 120].getD k 0
theorem ks_ch : ∀ k, k < 23 → ∀ j, j < (kw.getD k []).length → fJ0_charAt_5068e 24 (nI (ks k + j)) = some (nI ((kw.getD k []).getD j 0)) ∧ (kw.getD k []).getD j 0 ≠ 32 ∧ (kw.getD k []).getD j 0 < 128 := by decide +kernel
theorem ks_sp : ∀ k, k < 23 → fJ0_charAt_5068e 24 (nI (ks k + (kw.getD k []).length)) = some (nI 32) ∧ ks (k + 1) = ks k + (kw.getD k []).length + 1 ∧ ks k < 120 := by decide +kernel
theorem ks_ln : fJ0_length_8abf5 24 = some (nI 120) := by decide +kernel
theorem sc_ch : ∀ k, k < 12 → fJ0_charAt_5068e 23 (nI k) = some (nI (sc k)) ∧ sc k < 128 := by decide +kernel
theorem sc_ln : fJ0_length_8abf5 23 = some (nI 12) := by decide +kernel
section
variable {m n : Nat} {b : Nat → Nat} {T : Sh} {M M1 M2 : Me}
def tq (m a k : Nat) : Prop := a = m ∧ (k = 6 ∨ k = 7 ∨ k = 9 ∨ k = 10)
def TR (m n : Nat) (b : Nat → Nat) (T : Sh) (M : Me) : Prop := RM m T M ∧ gI M m 8 = nI n ∧ n ≤ 900 ∧ (∀ i, b i < 256) ∧ ∀ k, k < n → gI M (m + 3) k = nI (b k)
theorem TR.fi {P : Nat → Nat → Prop} (h : TR m n b T M) (f : FI m P M M2) (h8 : ¬ P m 8) (h3 : ∀ k, ¬ P (m + 3) k) : TR m n b T M2 := ⟨h.1.fr (fun k => f.2.2 _ _ (by omega)), (f.1 _ _ h8).trans h.2.1, h.2.2.1, h.2.2.2.1, fun k hk => (f.1 _ _ (h3 k)).trans (h.2.2.2.2 k hk)⟩
theorem TR.tqf (h : TR m n b T M) (f : FI m (tq m) M M2) : TR m n b T M2 := h.fi f (by unfold tq; omega) (fun k => by unfold tq; omega)
def sv (b : Nat → Nat) (n k : Nat) : Int32 := if n ≤ k then -1 else nI (b k)
theorem r_see {k : Nat} (h : TR m n b T M) (hk : k < 2000) : fX12_see T M m (nI k) = some (sv b n k) := by
  obtain ⟨h1, h2, h3, h4, h5⟩ := h
  unfold fX12_see sv
  rw [h1.k, gdI, h2, ite_le (by omega) (by omega)]
  by_cases z : n ≤ k
  · rw [if_pos z, if_pos z]
  · rw [if_neg z, if_neg z, h1.r3, Option.bind_some, h1.k3, gdI, h1.l3, gvI (by omega) (by omega), cl_nI (by omega), h5 k (by omega)]
theorem sv_S' : ∀ c, c < 256 → fX12_isSmall (nI c) = some (if isS c = true then 1 else 0) := by decide +kernel
theorem sv_D' : ∀ c, c < 256 → fX12_isDigit (nI c) = some (if isD c = true then 1 else 0) := by decide +kernel
theorem sv_S {k : Nat} (hb : ∀ i, b i < 256) : fX12_isSmall (sv b n k) = some (if k < n ∧ isS (b k) = true then 1 else 0) := by
  unfold sv
  by_cases z : n ≤ k
  · rw [if_pos z, if_neg (by omega)]; decide
  · rw [if_neg z, sv_S' _ (hb k)]
    by_cases y : isS (b k) = true
    · rw [if_pos y, if_pos ⟨by omega, y⟩]
    · rw [if_neg y, if_neg (fun q => y q.2)]
theorem sv_D {k : Nat} (hb : ∀ i, b i < 256) : fX12_isDigit (sv b n k) = some (if k < n ∧ isD (b k) = true then 1 else 0) := by
  unfold sv
  by_cases z : n ≤ k
  · rw [if_pos z, if_neg (by omega)]; decide
  · rw [if_neg z, sv_D' _ (hb k)]
    by_cases y : isD (b k) = true
    · rw [if_pos y, if_pos ⟨by omega, y⟩]
    · rw [if_neg y, if_neg (fun q => y q.2)]
theorem sv_S1 {k : Nat} (hb : ∀ i, b i < 256) (h1 : k < n) (h2 : isS (b k) = true) : fX12_isSmall (sv b n k) = some 1 := by rw [sv_S hb, if_pos ⟨h1, h2⟩]
theorem sv_S0 {k : Nat} (hb : ∀ i, b i < 256) (h : ¬ (k < n ∧ isS (b k) = true)) : fX12_isSmall (sv b n k) = some 0 := by rw [sv_S hb, if_neg h]
theorem sv_D1 {k : Nat} (hb : ∀ i, b i < 256) (h1 : k < n) (h2 : isD (b k) = true) : fX12_isDigit (sv b n k) = some 1 := by rw [sv_D hb, if_pos ⟨h1, h2⟩]
theorem sv_D0 {k : Nat} (hb : ∀ i, b i < 256) (h : ¬ (k < n ∧ isD (b k) = true)) : fX12_isDigit (sv b n k) = some 0 := by rw [sv_D hb, if_neg h]
theorem sv_eq {k c : Nat} (hb : ∀ i, b i < 256) (hc : c < 256) : (sv b n k = nI c) = (k < n ∧ b k = c) := by
  unfold sv
  by_cases z : n ≤ k
  · rw [if_pos z]
    exact propext ⟨fun q => absurd q.symm (i_ne1 _ (by omega)), fun q => by omega⟩
  · have := hb k
    rw [if_neg z, c_eq (by omega) (by omega)]
    exact propext ⟨fun q => ⟨by omega, q⟩, fun q => q.2⟩
theorem r_keyAt {a e : Nat} (h : TR m n b T M) (h6 : gI M m 6 = nI a) (h7 : gI M m 7 = nI e) (hae : a ≤ e) (hen : e ≤ n) : fX12_keyAt T M m = some (nI (wk (bs b a e))) := by
  obtain ⟨t1, t2, t3, t4, t5⟩ := h
  unfold fX12_keyAt
  have main : Ok (lp FU (fun s => bX12_keyAt_4 T M m s.1 s.2) ((0 : Int32), (1 : Int32))) (fun r => (∃ k, k < 23 ∧ r = .inl (nI k) ∧ bs b a e = kw.getD k []) ∨ (r = .inr () ∧ ∀ k, k < 23 → bs b a e ≠ kw.getD k [])) := by
    refine ok_forE (s := ((0 : Int32), (1 : Int32))) 0 23 (fun k s => s = (nI k, nI (ks k)) ∧ ∀ j, j < k → bs b a e ≠ kw.getD j []) _ ⟨rfl, fun j hj => absurd hj (by omega)⟩ (by omega) (by omega) (fun k s _ hk hI => ?_) (fun s hI => ?_)
    · obtain ⟨rfl, hno⟩ := hI
      show Ok (bX12_keyAt_4 T M m (nI k) (nI (ks k))) _
      obtain ⟨s1, s2, s3⟩ := ks_sp k hk
      obtain ⟨l1, l2⟩ := kw_len k hk
      have hch := ks_ch k hk
      generalize hw : kw.getD k [] = w at *
      obtain ⟨J, j1, j2, j3⟩ := exJ (fun j => a + j < e ∧ b (a + j) = w.getD j 0) w.length
      have L1 : lp FU (fun s => bX12_keyAt_15 T M m (nI k) (nI (ks k)) s) (0 : Int32) = some (nI J) := by
        refine lp_itG (fun j => nI j) J (nI J) rfl (by omega) (fun j hj => ?_) ?_
        · show bX12_keyAt_15 T M m (nI k) (nI (ks k)) (nI j) = some (.inl (nI (j + 1)))
          obtain ⟨d1, d2, d3⟩ := hch j (by omega)
          obtain ⟨g1, g2⟩ := j2 j hj
          unfold bX12_keyAt_15
          rw [gd_pos (by omega), nI_add, d1, Option.bind_some, i_32, ite_eq (by omega) (by omega), if_neg d2, t1.k, gdI, h6, h7, nI_add, ite_le (by omega) (by omega), if_neg (by omega), t1.r3, Option.bind_some, t1.k3, gdI, t1.l3, gvI (by omega) (by omega), Option.bind_some, cl_nI (by omega), t5 _ (by omega), ite_eq (by have := t4 (a + j); omega) (by omega), if_pos g2, lte, nI_1]
        · show bX12_keyAt_15 T M m (nI k) (nI (ks k)) (nI J) = some (.inr (nI J))
          unfold bX12_keyAt_15
          by_cases z : J = w.length
          · rw [gd_pos (by omega), nI_add, z, s1, Option.bind_some, if_pos (by decide)]
          · obtain ⟨d1, d2, d3⟩ := hch J (by omega)
            have g := j3 (by omega)
            rw [gd_pos (by omega), nI_add, d1, Option.bind_some, i_32, ite_eq (by omega) (by omega), if_neg d2, t1.k, gdI, h6, h7, nI_add, ite_le (by omega) (by omega)]
            by_cases y : e ≤ a + J
            · rw [if_pos y]
            · rw [if_neg y, t1.r3, Option.bind_some, t1.k3, gdI, t1.l3, gvI (by omega) (by omega), Option.bind_some, cl_nI (by omega), t5 _ (by omega), ite_eq (by have := t4 (a + J); omega) (by omega), if_neg (fun q => g ⟨by omega, q⟩)]
      have L2 : lp FU (fun s => bX12_keyAt_97 T M m (nI k) s) (nI (ks k)) = some (nI (ks k + w.length)) := by
        refine lp_itG (fun j => nI (ks k + j)) w.length (nI (ks k + w.length)) rfl (by omega) (fun j hj => ?_) ?_
        · show bX12_keyAt_97 T M m (nI k) (nI (ks k + j)) = some (.inl (nI (ks k + j + 1)))
          obtain ⟨d1, d2, d3⟩ := hch j hj
          unfold bX12_keyAt_97
          rw [gd_pos (by omega), d1, Option.bind_some, i_32, ite_eq (by omega) (by omega), if_neg d2, lte, nI_1]
        · show bX12_keyAt_97 T M m (nI k) (nI (ks k + w.length)) = some (.inr (nI (ks k + w.length)))
          unfold bX12_keyAt_97
          rw [gd_pos (by omega), s1, Option.bind_some, if_pos (by decide)]
      have nxt : ∀ hne : bs b a e ≠ w, Ok ((lp FU (fun s => bX12_keyAt_97 T M m (nI k) s) (nI (ks k))).bind (fun x2_27 => lt (x2_27 + (1 : Int32)) fun v28 => lt (nI k + (1 : Int32)) fun v29 => (some (.inl (v29, v28)) : Option ((Int32 × Int32) ⊕ (Int32 ⊕ Unit))))) (lqE (fun s' => s' = (nI (k + 1), nI (ks (k + 1))) ∧ ∀ j, j < k + 1 → bs b a e ≠ kw.getD j []) (fun r => (∃ k, k < 23 ∧ r = .inl (nI k) ∧ bs b a e = kw.getD k []) ∨ (r = .inr () ∧ ∀ k, k < 23 → bs b a e ≠ kw.getD k []))) := by
        intro hne
        rw [L2, Option.bind_some, lte, lte, nI_1, nI_1]
        refine ok_i ⟨by rw [s2], fun j hj => ?_⟩
        by_cases y : j = k
        · rw [y, hw]; exact hne
        · exact hno j (by omega)
      unfold bX12_keyAt_4
      rw [gd_pos (by omega), ks_ln, Option.bind_some, ite_le (by omega) (by omega), if_neg (by omega), L1, Option.bind_some, nI_add]
      by_cases z : J = w.length
      · rw [z, s1, Option.bind_some, if_pos (by decide), t1.k, gdI, h6, h7, nI_add, ite_eq (by omega) (by omega)]
        by_cases y : a + w.length = e
        · rw [if_pos y]
          refine ok_i (Or.inl ⟨k, hk, rfl, ?_⟩)
          rw [hw, ← y]
          exact bs_eq.mpr (fun j hj => (j2 j (by omega)).2)
        · rw [if_neg y]
          refine nxt (fun q => ?_)
          have := congrArg List.length q
          obtain ⟨l, rfl⟩ : ∃ l, e = a + l := ⟨e - a, by omega⟩
          rw [bs_len] at this
          omega
      · obtain ⟨d1, d2, d3⟩ := hch J (by omega)
        rw [d1, Option.bind_some, i_32, ite_eq (by omega) (by omega), if_neg d2]
        refine nxt (fun q => ?_)
        have q1 := congrArg List.length q
        obtain ⟨l, rfl⟩ : ∃ l, e = a + l := ⟨e - a, by omega⟩
        rw [bs_len] at q1
        rw [q1] at q
        exact j3 (by omega) ⟨by omega, bs_eq.mp q J (by omega)⟩
    · obtain ⟨rfl, hno⟩ := hI
      show Ok (bX12_keyAt_4 T M m (nI 23) (nI 120)) _
      unfold bX12_keyAt_4
      rw [gd_pos (by omega), ks_ln, Option.bind_some, if_pos (by decide)]
      exact ok_i (Or.inr ⟨rfl, hno⟩)
  obtain ⟨r, e1, hr⟩ := main
  rw [e1, Option.bind_some]
  rcases hr with ⟨k, hk, rfl, e2⟩ | ⟨rfl, e2⟩
  · rw [Sum.elim_inl, e2, wk_kw k hk]
  · rw [Sum.elim_inr, wk_no e2]; rfl
/-- what a token comes to -/
def NQ (m n : Nat) (b : Nat → Nat) (p : Nat) (M M2 : Me) : Prop := FI m (tq m) M M2 ∧ gI M2 m 6 = nI (tkq b n p).2.1 ∧ gI M2 m 7 = nI (tkq b n p).2.2.2 ∧ gI M2 m 9 = nI (tkq b n p).1 ∧ ((tkq b n p).1 = 25 → gI M2 m 10 = nI (tkq b n p).2.2.1)
theorem r_nextp {p : Nat} (h : TR m n b T M) (hb : gI M m 7 = nI p) (hpn : p ≤ n) : Ok (fX12_next T M m) (fun q => NQ m n b p M q.2) := by
  have hn := h.2.2.1
  have hbb := h.2.2.2.1
  unfold fX12_next
  rw [h.1.k, gdI, lte, hb]
  have f0 : FI m (tq m) M (pI M m 6 (nI p)) := FI.rfl.pI ⟨rfl, by omega⟩
  have e0 : gI (pI M m 6 (nI p)) m 6 = nI p := mII1
  generalize pI M m 6 (nI p) = M0 at f0 e0
  obtain ⟨a1, a2, a3, a4⟩ := aw_sp (fun j => isB (b j)) hpn
  generalize ha : aw (fun j => isB (b j)) n p = a at a1 a2 a3 a4
  refine Ok.bd (ok_lpE (fun M' => ∃ q, FI m (tq m) M M' ∧ gI M' m 6 = nI q ∧ p ≤ q ∧ q ≤ a) (fun M' => n - (gI M' m 6).toNatClampNeg) (fun M' => FI m (tq m) M M' ∧ gI M' m 6 = nI a) (fun M' hI => ?_) FU M0 ⟨p, f0, e0, Nat.le_refl _, a1⟩ (by show n - _ < 1000000; omega)) (fun M1 hq => ?_)
  · obtain ⟨q, f, e, q1, q2⟩ := hI
    have h' := h.tqf f
    unfold bX12_next_8
    rw [h'.1.k, gdI, e, r_see h' (by omega), Option.bind_some, i_10, i_32]
    simp only [Option.bind_some, sv_eq hbb (show 10 < 256 by omega), sv_eq hbb (show 32 < 256 by omega)]
    have go : ∀ (z : q < a), Ok (lt (pI M' m 6 (nI q + 1)) fun M6 => (some (.inl M6) : Option (Me ⊕ Me))) (lqE (fun s' => (∃ q, FI m (tq m) M s' ∧ gI s' m 6 = nI q ∧ p ≤ q ∧ q ≤ a) ∧ n - (gI s' m 6).toNatClampNeg < n - (Int32.toNatClampNeg (nI q))) (fun r => FI m (tq m) M r ∧ gI r m 6 = nI a)) := fun z => by
      rw [lte, nI_1]
      refine ok_i ⟨⟨q + 1, f.pI ⟨rfl, by omega⟩, mII1, by omega, by omega⟩, ?_⟩
      rw [mII1, cl_nI (by omega), cl_nI (by omega)]
      omega
    by_cases z : q < a
    · have hB : b q = 10 ∨ b q = 32 := of_decide_eq_true (a3 q q1 z)
      by_cases y : q < n ∧ b q = 10
      · rw [if_pos y]; exact go z
      · rw [if_neg y, if_pos ⟨by omega, by omega⟩]; exact go z
    · have eq : q = a := by omega
      subst eq
      have nB : ∀ c, c = 10 ∨ c = 32 → ¬ (q < n ∧ b q = c) := fun c hc y => by
        have := of_decide_eq_false (a4 y.1)
        omega
      rw [if_neg (nB 10 (Or.inl rfl)), if_neg (nB 32 (Or.inr rfl))]
      exact ok_i ⟨f, e⟩
  · obtain ⟨f1, e1⟩ := hq
    rw [lte, e1]
    have f2 : FI m (tq m) M (pI M1 m 7 (nI a)) := f1.pI ⟨rfl, by omega⟩
    have e26 : gI (pI M1 m 7 (nI a)) m 6 = nI a := (mIIk (by omega)).trans e1
    have e27 : gI (pI M1 m 7 (nI a)) m 7 = nI a := mII1
    generalize pI M1 m 7 (nI a) = M2 at f2 e26 e27
    have h2 := h.tqf f2
    rw [e26, e27, h2.2.1, ite_lt (by omega) (by omega)]
    by_cases z : a < n
    rotate_left
    · rw [if_neg z, lte]
      have ek := tkq_end (b := b) (n := n) (p := p) (by omega)
      have ean : a = n := by omega
      refine ok_i ⟨f2.pI ⟨rfl, by omega⟩, ?_, ?_, ?_, ?_⟩
      · rw [ek, mIIk (by omega), e26, ean]
      · rw [ek, mIIk (by omega), e27, ean]
      · rw [ek]; exact mII1
      · rw [ek]; intro q; exact absurd (show (26 : Nat) = 25 from q) (by decide)
    rw [if_pos z, r_see h2 (by omega), Option.bind_some]
    by_cases hS : isS (b a) = true
    · rw [sv_S1 hbb z hS, Option.bind_some, if_neg (by decide)]
      have ek := tkq_w ha z hS
      obtain ⟨k1, k2, k3, k4⟩ := aw_sp (fun j => isS (b j)) (n := n) (p := a) (by omega)
      generalize aw (fun j => isS (b j)) n a = e at ek k1 k2 k3 k4
      refine Ok.bd (ok_lpE (fun M' => ∃ q, FI m (tq m) M M' ∧ gI M' m 6 = nI a ∧ gI M' m 7 = nI q ∧ a ≤ q ∧ q ≤ e) (fun M' => n - (gI M' m 7).toNatClampNeg) (fun M' => FI m (tq m) M M' ∧ gI M' m 6 = nI a ∧ gI M' m 7 = nI e) (fun M' hI => ?_) FU M2 ⟨a, f2, e26, e27, Nat.le_refl _, k1⟩ (by show n - _ < 1000000; omega)) (fun M3 hq => ?_)
      · obtain ⟨q, f, g6, g7, q1, q2⟩ := hI
        have h' := h.tqf f
        unfold bX12_next_89
        rw [h'.1.k, gdI, g7, r_see h' (by omega), Option.bind_some]
        by_cases y : q < e
        · rw [sv_S1 hbb (by omega) (k3 q q1 y), Option.bind_some, if_neg (by decide), lte, nI_1]
          refine ok_i ⟨⟨q + 1, f.pI ⟨rfl, by omega⟩, (mIIk (by omega)).trans g6, mII1, by omega, by omega⟩, ?_⟩
          rw [mII1, cl_nI (by omega), cl_nI (by omega)]
          omega
        · have eq : q = e := by omega
          subst eq
          rw [sv_S0 hbb (fun w => by have := k4 w.1; rw [w.2] at this; cases this), Option.bind_some, if_pos rfl]
          exact ok_i ⟨f, g6, g7⟩
      · obtain ⟨f3, g6, g7⟩ := hq
        rw [r_keyAt (h.tqf f3) g6 g7 k1 k2, Option.bind_some, lte]
        refine ok_i ⟨f3.pI ⟨rfl, by omega⟩, ?_, ?_, ?_, ?_⟩
        · rw [ek, mIIk (by omega), g6]
        · rw [ek, mIIk (by omega), g7]
        · rw [ek]; exact mII1
        · rw [ek]
          intro q
          have q : wk (bs b a e) = 25 := q
          have := wk_b (bs b a e)
          omega
    have hS' : isS (b a) = false := by cases q : isS (b a) <;> simp_all
    rw [sv_S0 hbb (fun q => hS q.2), Option.bind_some, if_pos rfl, Option.bind_some]
    by_cases hD : isD (b a) = true
    · rw [sv_D1 hbb z hD, Option.bind_some, if_neg (by decide), lte]
      have ek := tkq_d ha z hS' hD
      obtain ⟨k1, k2, k3, k4⟩ := aw_sp (fun j => isD (b j)) (n := n) (p := a) (by omega)
      generalize aw (fun j => isD (b j)) n a = e at ek k1 k2 k3 k4
      have f3 : FI m (tq m) M (pI M2 m 10 0) := f2.pI ⟨rfl, by omega⟩
      refine Ok.bd (ok_lpE (fun M' => ∃ q, FI m (tq m) M M' ∧ gI M' m 6 = nI a ∧ gI M' m 7 = nI q ∧ a ≤ q ∧ q ≤ e ∧ gI M' m 10 = nI (vl b a (min 3 (q - a)))) (fun M' => n - (gI M' m 7).toNatClampNeg) (fun M' => FI m (tq m) M M' ∧ gI M' m 6 = nI a ∧ gI M' m 7 = nI e ∧ gI M' m 10 = nI (vl b a (min 3 (e - a)))) (fun M' hI => ?_) FU (pI M2 m 10 0) ⟨a, f3, (mIIk (by omega)).trans e26, (mIIk (by omega)).trans e27, Nat.le_refl _, k1, by rw [mII1, Nat.sub_self]; rfl⟩ (by show n - _ < 1000000; omega)) (fun M3 hq => ?_)
      · obtain ⟨q, f, g6, g7, q1, q2, g10⟩ := hI
        have h' := h.tqf f
        unfold bX12_next_146
        rw [h'.1.k, gdI, g7, r_see h' (by omega), Option.bind_some]
        by_cases y : q < e
        · have hd := k3 q q1 y
          have hd2 := isD_b hd
          rw [sv_D1 hbb (by omega) hd, Option.bind_some, if_neg (by decide), g6, c_sub q1, i_3, ite_le (by omega) (by omega)]
          by_cases w : 3 ≤ q - a
          · rw [if_pos w, lte, nI_1]
            refine ok_i ⟨⟨q + 1, f.pI ⟨rfl, by omega⟩, (mIIk (by omega)).trans g6, mII1, by omega, by omega, ?_⟩, ?_⟩
            · rw [mIIk (by omega), g10, Nat.min_eq_left w, Nat.min_eq_left (by omega)]
            · rw [mII1, cl_nI (by omega), cl_nI (by omega)]
              omega
          · rw [if_neg w, Option.bind_some, lte, lte, mIIk (by omega), g7, nI_1]
            have evl : (10 : Int32) * gI M' m 10 + sv b n q - 48 = nI (vl b a (q + 1 - a)) := by
              have e2 : sv b n q = nI (b q) := if_neg (by omega)
              rw [g10, e2, Nat.min_eq_right (by omega), i_10, i_48, c_mul, nI_add, c_sub (by omega), show q + 1 - a = (q - a) + 1 by omega]
              show nI (10 * vl b a (q - a) + b q - 48) = nI (10 * vl b a (q - a) + (b (a + (q - a)) - 48))
              rw [show a + (q - a) = q by omega, show 10 * vl b a (q - a) + b q - 48 = 10 * vl b a (q - a) + (b q - 48) by omega]
            refine ok_i ⟨⟨q + 1, (f.pI ⟨rfl, by omega⟩).pI ⟨rfl, by omega⟩, ?_, mII1, by omega, by omega, ?_⟩, ?_⟩
            · rw [mIIk (by omega), mIIk (by omega), g6]
            · rw [mIIk (by omega), mII1, evl, Nat.min_eq_right (by omega)]
            · rw [mII1, cl_nI (by omega), cl_nI (by omega)]
              omega
        · have eq : q = e := by omega
          subst eq
          rw [sv_D0 hbb (fun w => by have := k4 w.1; rw [w.2] at this; cases this), Option.bind_some, if_pos rfl]
          exact ok_i ⟨f, g6, g7, g10⟩
      · obtain ⟨f4, g6, g7, g10⟩ := hq
        rw [g6, g7, c_sub k1, i_3, ite_le (by omega) (by omega)]
        have fin : ∀ kk : Nat, (tkq b n p).1 = kk → Ok (lt (pI M3 m 9 (nI kk)) fun M44 => (some ((), M44) : Option (Unit × Me))) (fun q => NQ m n b p M q.2) := fun kk hk => by
          rw [lte]
          refine ok_i ⟨f4.pI ⟨rfl, by omega⟩, ?_, ?_, ?_, ?_⟩
          · rw [ek, mIIk (by omega), g6]
          · rw [ek, mIIk (by omega), g7]
          · rw [hk]; exact mII1
          · intro _
            rw [ek, mIIk (by omega), g10]
        by_cases y : e - a ≤ 3
        · rw [if_pos y]
          exact fin 25 (by rw [ek]; exact if_neg (by omega))
        · rw [if_neg y]
          exact fin 27 (by rw [ek]; exact if_pos (by omega))
    · have hD' : isD (b a) = false := by cases q : isD (b a) <;> simp_all
      rw [sv_D0 hbb (fun q => hD q.2), Option.bind_some, if_pos rfl, lte, lte, nI_1]
      have ek := tkq_s ha z hS' hD'
      have f3 : FI m (tq m) M (pI (pI M2 m 7 (nI (a + 1))) m 9 27) := (f2.pI ⟨rfl, by omega⟩).pI ⟨rfl, by omega⟩
      have g6 : gI (pI (pI M2 m 7 (nI (a + 1))) m 9 27) m 6 = nI a := by rw [mIIk (by omega), mIIk (by omega), e26]
      have g7 : gI (pI (pI M2 m 7 (nI (a + 1))) m 9 27) m 7 = nI (a + 1) := by rw [mIIk (by omega), mII1]
      have g9 : gI (pI (pI M2 m 7 (nI (a + 1))) m 9 27) m 9 = nI 27 := mII1
      generalize pI (pI M2 m 7 (nI (a + 1))) m 9 27 = M3 at f3 g6 g7 g9
      refine Ok.bd (ok_forE (s := ((0 : Int32), M3)) 0 12 (fun k s => ∃ M', s = (nI k, M') ∧ FI m (tq m) M M' ∧ gI M' m 6 = nI a ∧ gI M' m 7 = nI (a + 1) ∧ gI M' m 9 = nI (sgf (b a) k)) (fun M' => FI m (tq m) M M' ∧ gI M' m 6 = nI a ∧ gI M' m 7 = nI (a + 1) ∧ gI M' m 9 = nI (sg (b a))) ⟨M3, rfl, f3, g6, g7, g9⟩ (by omega) (by omega) (fun k s _ hk hI => ?_) (fun s hI => ?_)) (fun M4 hq => ?_)
      · obtain ⟨M', rfl, f, u6, u7, u9⟩ := hI
        have h' := h.tqf f
        obtain ⟨d1, d2⟩ := sc_ch k hk
        show Ok (bX12_next_254 T m (nI k) M') _
        unfold bX12_next_254
        rw [gd_pos (by omega), sc_ln, Option.bind_some, ite_le (by omega) (by omega), if_neg (by omega), h'.1.k, gdI, u6, r_see h' (by omega), Option.bind_some, d1, Option.bind_some]
        simp only [sv_eq hbb (show sc k < 256 by omega)]
        by_cases y : b a = sc k
        · rw [if_pos ⟨z, y⟩, lte, lte, i_30, nI_add, nI_1]
          refine ok_i ⟨_, rfl, f.pI ⟨rfl, by omega⟩, ?_, ?_, ?_⟩
          · rw [mIIk (by omega), u6]
          · rw [mIIk (by omega), u7]
          · rw [mII1, sgf, if_pos y]
        · rw [if_neg (fun w => y w.2), lte, nI_1]
          refine ok_i ⟨_, rfl, f, u6, u7, ?_⟩
          rw [u9, sgf, if_neg y]
      · obtain ⟨M', rfl, f, u6, u7, u9⟩ := hI
        show Ok (bX12_next_254 T m (nI 12) M') _
        unfold bX12_next_254
        rw [gd_pos (by omega), sc_ln, Option.bind_some, if_pos (by decide)]
        exact ok_i ⟨f, u6, u7, u9⟩
      · obtain ⟨f4, u6, u7, u9⟩ := hq
        refine ok_i ⟨f4, ?_, ?_, ?_, ?_⟩
        · rw [ek, u6]
        · rw [ek, u7]
        · rw [ek, u9]
        · rw [ek]
          intro q
          have q : sg (b a) = 25 := q
          have := sg_b (b a)
          omega
end
