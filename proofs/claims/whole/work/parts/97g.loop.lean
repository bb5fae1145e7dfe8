/-! laws are read by both -/
section
variable {x m n N lw i o q d : Nat} {b : Nat → Nat} {sp u : Int32} {T : Sh} {M M1 M2 : Me}
theorem lpF_inr {σ ρ : Type} {b : σ → Option (σ ⊕ ρ)} {s : σ} {r : ρ} (h : b s = some (.inr r)) : lp FU b s = some r := lp_inr (n := 999999) h
theorem g6F_5 {k : Nat} {dd : Int32} (hp : PX x T M) (h : gI M (x + 2) 2 ≠ 0) : fG6 (k + 1) 5 T M (x + 2) dd = some ((), M) := by
  show hX6_readAtom (fG6 k) T M (x + 2) dd = _
  unfold hX6_readAtom
  rw [hp.k2, gdI, k_kindF hp h, Option.bind_some, if_neg (by decide), if_neg (by decide), if_neg (by decide), if_pos (by decide), k_failF hp h, Option.bind_some, une2]
theorem b6F_4 {rec : Nat → Sh → Me → Nat → Int32 → Option (Unit × Me)} {c : Nat} {dd : Int32} (hp : PX x T M) (h : gI M (x + 2) 2 ≠ 0) (hc : c < 900) : bX6_readTerm_7 rec T (x + 2) dd (nI c) M = some (.inr M) := by
  unfold bX6_readTerm_7
  rw [i_900, ite_le (by omega) (by omega), if_neg (by omega), hp.k2, gdI, k_kindF hp h, Option.bind_some, if_neg (by decide)]
theorem g6F_4 {k : Nat} {dd : Int32} (hp : PX x T M) (h : gI M (x + 2) 2 ≠ 0) : fG6 (k + 2) 4 T M (x + 2) dd = some ((), M) := by
  show hX6_readTerm (fG6 (k + 1)) T M (x + 2) dd = _
  unfold hX6_readTerm
  rw [hp.k2, gdI, g6F_5 hp h, Option.bind_some, une2, lpF_inr (show bX6_readTerm_7 (fG6 (k + 1)) T (x + 2) dd (nI 0) M = some (.inr M) from b6F_4 hp h (by omega)), Option.bind_some]
theorem b6F_3 {rec : Nat → Sh → Me → Nat → Int32 → Option (Unit × Me)} {c : Nat} {dd : Int32} (hp : PX x T M) (h : gI M (x + 2) 2 ≠ 0) (hc : c < 900) : bX6_readSum_7 rec T (x + 2) dd (nI c) M = some (.inr M) := by
  unfold bX6_readSum_7
  rw [i_900, ite_le (by omega) (by omega), if_neg (by omega), hp.k2, gdI, k_kindF hp h, Option.bind_some, if_neg (by decide), Option.bind_some, if_neg (by decide)]
theorem g6F_3 {k : Nat} {dd : Int32} (hp : PX x T M) (h : gI M (x + 2) 2 ≠ 0) : fG6 (k + 3) 3 T M (x + 2) dd = some ((), M) := by
  show hX6_readSum (fG6 (k + 2)) T M (x + 2) dd = _
  unfold hX6_readSum
  rw [hp.k2, gdI, g6F_4 hp h, Option.bind_some, une2, lpF_inr (show bX6_readSum_7 (fG6 (k + 2)) T (x + 2) dd (nI 0) M = some (.inr M) from b6F_3 hp h (by omega)), Option.bind_some]
theorem g6F_2 {k : Nat} {dd : Int32} (hp : PX x T M) (h : gI M (x + 2) 2 ≠ 0) : fG6 (k + 4) 2 T M (x + 2) dd = some ((), M) := by
  show hX6_readUnit (fG6 (k + 3)) T M (x + 2) dd = _
  unfold hX6_readUnit
  rw [hp.k2, gdI, k_kindF hp h, Option.bind_some, if_neg (by decide), Option.bind_some, if_neg (by decide), g6F_3 hp h, Option.bind_some, une2, k_kindF hp h, Option.bind_some, if_neg (by decide), if_neg (by decide), if_neg (by decide), k_failF hp h, Option.bind_some, une2]
theorem b6F_1 {rec : Nat → Sh → Me → Nat → Int32 → Option (Unit × Me)} {c : Nat} {dd : Int32} (hp : PX x T M) (h : gI M (x + 2) 2 ≠ 0) (hc : c < 900) : bX6_readBoth_7 rec T (x + 2) dd (nI c) M = some (.inr M) := by
  unfold bX6_readBoth_7
  rw [i_900, ite_le (by omega) (by omega), if_neg (by omega), hp.k2, gdI, k_kindF hp h, Option.bind_some, if_neg (by decide)]
theorem g6F_1 {k : Nat} {dd : Int32} (hp : PX x T M) (h : gI M (x + 2) 2 ≠ 0) : fG6 (k + 5) 1 T M (x + 2) dd = some ((), M) := by
  show hX6_readBoth (fG6 (k + 4)) T M (x + 2) dd = _
  unfold hX6_readBoth
  rw [hp.k2, gdI, g6F_2 hp h, Option.bind_some, une2, lpF_inr (show bX6_readBoth_7 (fG6 (k + 4)) T (x + 2) dd (nI 0) M = some (.inr M) from b6F_1 hp h (by omega)), Option.bind_some]
theorem b6F_0 {rec : Nat → Sh → Me → Nat → Int32 → Option (Unit × Me)} {c : Nat} {dd : Int32} (hp : PX x T M) (h : gI M (x + 2) 2 ≠ 0) (hc : c < 900) : bX6_readTruth_7 rec T (x + 2) dd (nI c) M = some (.inr M) := by
  unfold bX6_readTruth_7
  rw [i_900, ite_le (by omega) (by omega), if_neg (by omega), hp.k2, gdI, k_kindF hp h, Option.bind_some, if_neg (by decide)]
theorem g6F_0 {k : Nat} {dd : Int32} (hp : PX x T M) (h : gI M (x + 2) 2 ≠ 0) : fG6 (k + 6) 0 T M (x + 2) dd = some ((), M) := by
  show hX6_readTruth (fG6 (k + 5)) T M (x + 2) dd = _
  unfold hX6_readTruth
  rw [hp.k2, gdI, g6F_1 hp h, Option.bind_some, une2, lpF_inr (show bX6_readTruth_7 (fG6 (k + 5)) T (x + 2) dd (nI 0) M = some (.inr M) from b6F_0 hp h (by omega)), Option.bind_some]
theorem g12F_5 {k : Nat} {dd : Int32} (hm : RM m T M) (h : gI M m 11 ≠ 0) : fG12 (k + 1) 5 T M m dd = some ((), M) := by
  show hX12_readAtom (fG12 k) T M m dd = _
  unfold hX12_readAtom jX12_readAtom_66
  rw [hm.k, gdI, r_isF hm h, Option.bind_some, if_pos rfl, if_neg h, gdI, r_isF hm h, Option.bind_some, if_pos rfl, r_isF hm h, Option.bind_some, if_pos rfl, r_failsF hm h, Option.bind_some, une2]
theorem b12F_4 {rec : Nat → Sh → Me → Nat → Int32 → Option (Unit × Me)} {dd : Int32} (hm : RM m T M) (h : gI M m 11 ≠ 0) : bX12_readTerm_5 rec T m dd M = some (.inr M) := by
  unfold bX12_readTerm_5
  rw [hm.k, gdI, r_eatsF hm h, Option.bind_some, une2, if_pos rfl]
theorem g12F_4 {k : Nat} {dd : Int32} (hm : RM m T M) (h : gI M m 11 ≠ 0) : fG12 (k + 2) 4 T M m dd = some ((), M) := by
  show hX12_readTerm (fG12 (k + 1)) T M m dd = _
  unfold hX12_readTerm
  rw [hm.k, gdI, g12F_5 hm h, Option.bind_some, une2, lpF_inr (b12F_4 hm h), Option.bind_some]
theorem b12F_3 {rec : Nat → Sh → Me → Nat → Int32 → Option (Unit × Me)} {dd : Int32} (hm : RM m T M) (h : gI M m 11 ≠ 0) : bX12_readSum_5 rec T m dd M = some (.inr M) := by
  unfold bX12_readSum_5
  rw [hm.k, gdI, r_isF hm h, Option.bind_some, if_pos rfl, r_isF hm h, Option.bind_some, if_pos rfl]
theorem g12F_3 {k : Nat} {dd : Int32} (hm : RM m T M) (h : gI M m 11 ≠ 0) : fG12 (k + 3) 3 T M m dd = some ((), M) := by
  show hX12_readSum (fG12 (k + 2)) T M m dd = _
  unfold hX12_readSum
  rw [hm.k, gdI, g12F_4 hm h, Option.bind_some, une2, lpF_inr (b12F_3 hm h), Option.bind_some]
theorem g12F_2 {k : Nat} {dd : Int32} (hm : RM m T M) (h : gI M m 11 ≠ 0) : fG12 (k + 4) 2 T M m dd = some ((), M) := by
  show hX12_readUnit (fG12 (k + 3)) T M m dd = _
  unfold hX12_readUnit jX12_readUnit_111
  rw [hm.k, gdI, r_isF hm h, Option.bind_some, if_pos rfl, r_isF hm h, Option.bind_some, if_pos rfl, g12F_3 hm h, Option.bind_some, une2, r_isF hm h, Option.bind_some, if_pos rfl, r_isF hm h, Option.bind_some, if_pos rfl, gdI, Option.bind_some, if_pos rfl, Option.bind_some, if_pos rfl, r_isF hm h, Option.bind_some, if_pos rfl, r_failsF hm h, Option.bind_some, une2, g12F_3 hm h, Option.bind_some, une2, r_codesF hm h, Option.bind_some, une2]
theorem b12F_1 {rec : Nat → Sh → Me → Nat → Int32 → Option (Unit × Me)} {dd : Int32} (hm : RM m T M) (h : gI M m 11 ≠ 0) : bX12_readBoth_5 rec T m dd M = some (.inr M) := by
  unfold bX12_readBoth_5
  rw [hm.k, gdI, r_eatsF hm h, Option.bind_some, une2, if_pos rfl]
theorem g12F_1 {k : Nat} {dd : Int32} (hm : RM m T M) (h : gI M m 11 ≠ 0) : fG12 (k + 5) 1 T M m dd = some ((), M) := by
  show hX12_readBoth (fG12 (k + 4)) T M m dd = _
  unfold hX12_readBoth
  rw [hm.k, gdI, g12F_2 hm h, Option.bind_some, une2, lpF_inr (b12F_1 hm h), Option.bind_some]
theorem b12F_0 {rec : Nat → Sh → Me → Nat → Int32 → Option (Unit × Me)} {dd : Int32} (hm : RM m T M) (h : gI M m 11 ≠ 0) : bX12_readTruth_5 rec T m dd M = some (.inr M) := by
  unfold bX12_readTruth_5
  rw [hm.k, gdI, r_eatsF hm h, Option.bind_some, une2, if_pos rfl]
theorem g12F_0 {k : Nat} {dd : Int32} (hm : RM m T M) (h : gI M m 11 ≠ 0) : fG12 (k + 6) 0 T M m dd = some ((), M) := by
  show hX12_readTruth (fG12 (k + 5)) T M m dd = _
  unfold hX12_readTruth
  rw [hm.k, gdI, g12F_1 hm h, Option.bind_some, une2, lpF_inr (b12F_0 hm h), Option.bind_some]
/-! what reading comes to -/
def CSq (x n N : Nat) (b : Nat → Nat) (sp : Int32) (T : Sh) (i o : Nat) (u : Int32) (M : Me) : Prop := CBq x n N b T i M ∧ gI M (x + 2) 5 = nI o ∧ gI M (x + 2) 6 = sp ∧ gI M (x + 2) 7 = u ∧ o + 8 ≤ i
def RSq (m n N : Nat) (b : Nat → Nat) (lw : Nat) (T : Sh) (i q : Nat) (M : Me) : Prop := RBq m n N b T i M ∧ gI M (m + 4) 131 = nI q ∧ gI M m 15 = nI lw ∧ q + 8 ≤ i ∧ n ≤ 900 ∧ ∀ j, q ≤ j → j < 900 → gI M (m + 4) (132 + j) = 0
def CPq (x n N : Nat) (b : Nat → Nat) (sp : Int32) (T : Sh) (o i2 : Nat) (u2 : Int32) (cc : List Int32) (M M' : Me) : Prop := CSq x n N b sp T i2 (o + cc.length) u2 M' ∧ LFr x M M' ∧ (∀ j, j < o → gI M' (x + 7) j = gI M (x + 7) j) ∧ SEG (gI M' (x + 7)) o cc
def RPq (m n N : Nat) (b : Nat → Nat) (lw : Nat) (T : Sh) (q i2 : Nat) (rc : List Int32) (M M' : Me) : Prop := RSq m n N b lw T i2 (q + rc.length) M' ∧ FI m (rq m) M M' ∧ (∀ j, j < q → gI M' (m + 4) (132 + j) = gI M (m + 4) (132 + j)) ∧ SEG (gI M' (m + 4)) (132 + q) rc
def CXq (x : Nat) (T : Sh) (fk fp z : Nat) (M M' : Me) : Prop := CFl x T fk fp M' ∧ LFr x M M' ∧ ∃ o2, gI M' (x + 2) 5 = nI o2 ∧ o2 ≤ z
def RXq (m : Nat) (T : Sh) (fk fp : Nat) (M M' : Me) : Prop := RFl m T fk fp M' ∧ FI m (rq m) M M'
def SXq (N Q lw : Nat) (tr : Prop) (i0 o0 : Nat) (u0 : Int32) (i : Nat) (cc rc : List Int32) (u : Int32) (v : (Nat → Int32) → Int32) : Prop := i0 < i ∧ i ≤ N ∧ cc.length + i0 ≤ i ∧ rc.length + i0 ≤ i ∧ EX Q o0 cc rc v ∧ DP u v ∧ UM u0 u ∧ (∀ j, j < 6 → bt u j = true → bt u0 j = true ∨ al lw j = true) ∧ (tr → TVl v)
/-- both read a law's piece alike -/
def JEq (x m n N : Nat) (b : Nat → Nat) (lw : Nat) (sp : Int32) (tr : Prop) (Q d : Nat) (fc fr : Sh → Me → Option (Unit × Me)) : Prop := ∀ i o u, i ≤ N → o + 8 ≤ i →
  (∃ i2 cc rc u2 v, SXq N Q lw tr i o u i2 cc rc u2 v ∧ (∀ T M, CSq x n N b sp T i o u M → Ok (fc T M) (fun p => CPq x n N b sp T o i2 u2 cc M p.2)) ∧ ∀ T M q, RSq m n N b lw T i q M → Ok (fr T M) (fun p => RPq m n N b lw T q i2 rc M p.2))
  ∨ ∃ fk iF, i ≤ iF ∧ iF ≤ N ∧ (∀ T M, CSq x n N b sp T i o u M → Ok (fc T M) (fun p => CXq x T fk (tP b n iF) (o + iF - i + (6 - d)) M p.2)) ∧ ∀ T M q, RSq m n N b lw T i q M → Ok (fr T M) (fun p => RXq m T fk (tP b n iF) M p.2)
def JLq (x m n N : Nat) (b : Nat → Nat) (lw : Nat) (sp : Int32) (tr : Prop) (Q d : Nat) (bc : Sh → Int32 → Me → Option ((Int32 × Me) ⊕ Me)) (br : Sh → Me → Option (Me ⊕ Me)) (i0 o0 : Nat) (u0 : Int32) : Prop := ∀ i cc rc u v, SXq N Q lw tr i0 o0 u0 i cc rc u v → o0 + 8 ≤ i0 →
  ((∀ T M c, c < 900 → CSq x n N b sp T i (o0 + cc.length) u M → bc T (nI c) M = some (.inr M)) ∧ ∀ T M q, RSq m n N b lw T i q M → br T M = some (.inr M))
  ∨ (∃ i2 cc2 rc2 u2 v2, i < i2 ∧ SXq N Q lw tr i0 o0 u0 i2 cc2 rc2 u2 v2 ∧ (∀ T M c, c < 900 → CSq x n N b sp T i (o0 + cc.length) u M → SEG (gI M (x + 7)) o0 cc → Ok (bc T (nI c) M) (fun r => ∃ M', r = .inl (nI (c + 1), M') ∧ CPq x n N b sp T o0 i2 u2 cc2 M M')) ∧ ∀ T M q, RSq m n N b lw T i (q + rc.length) M → SEG (gI M (m + 4)) (132 + q) rc → Ok (br T M) (fun r => ∃ M', r = .inl M' ∧ RPq m n N b lw T q i2 rc2 M M'))
  ∨ ∃ fk iF, i ≤ iF ∧ iF ≤ N ∧ (∀ T M c, c < 900 → CSq x n N b sp T i (o0 + cc.length) u M → Ok (bc T (nI c) M) (fun r => ∃ M', r = .inl (nI (c + 1), M') ∧ CXq x T fk (tP b n iF) (o0 + iF - i0 + (6 - d)) M M')) ∧ ∀ T M q, RSq m n N b lw T i q M → Ok (br T M) (fun r => ∃ M', r = .inl M' ∧ RXq m T fk (tP b n iF) M M')
theorem CPq.trans {o i1 i2 : Nat} {u1 u2 : Int32} {c1 c2 : List Int32} (h : CPq x n N b sp T o i1 u1 c1 M M1) (h2 : CPq x n N b sp T o i2 u2 c2 M1 M2) : CPq x n N b sp T o i2 u2 c2 M M2 := ⟨h2.1, h.2.1.trans h2.2.1, fun j hj => (h2.2.2.1 j hj).trans (h.2.2.1 j hj), h2.2.2.2⟩
theorem RPq.trans {q i1 i2 : Nat} {c1 c2 : List Int32} (h : RPq m n N b lw T q i1 c1 M M1) (h2 : RPq m n N b lw T q i2 c2 M1 M2) : RPq m n N b lw T q i2 c2 M M2 := ⟨h2.1, h.2.1.trans h2.2.1, fun j hj => (h2.2.2.1 j hj).trans (h.2.2.1 j hj), h2.2.2.2⟩
theorem j_loop {tr : Prop} {Q i0 o0 : Nat} {u0 : Int32} {bc : Sh → Int32 → Me → Option ((Int32 × Me) ⊕ Me)} {br : Sh → Me → Option (Me ⊕ Me)} (hJ : JLq x m n N b lw sp tr Q d bc br i0 o0 u0) (ho : o0 + 8 ≤ i0) (hN : N ≤ 900) (bF : ∀ T M c, c < 900 → PX x T M → gI M (x + 2) 2 ≠ 0 → bc T (nI c) M = some (.inr M)) (rF : ∀ T M, RM m T M → gI M m 11 ≠ 0 → br T M = some (.inr M)) : ∀ (k i : Nat) (cc rc : List Int32) (u : Int32) (v : (Nat → Int32) → Int32), N - i ≤ k → SXq N Q lw tr i0 o0 u0 i cc rc u v →
    (∃ i2 cc2 rc2 u2 v2, SXq N Q lw tr i0 o0 u0 i2 cc2 rc2 u2 v2 ∧ (∀ T M c f, c + 8 ≤ i → k + 2 < f → CSq x n N b sp T i (o0 + cc.length) u M → SEG (gI M (x + 7)) o0 cc → Ok (lp f (fun s => bc T s.1 s.2) (nI c, M)) (fun M' => CPq x n N b sp T o0 i2 u2 cc2 M M')) ∧ ∀ T M q f, k + 2 < f → RSq m n N b lw T i (q + rc.length) M → SEG (gI M (m + 4)) (132 + q) rc → Ok (lp f (fun s => br T s) M) (fun M' => RPq m n N b lw T q i2 rc2 M M'))
    ∨ ∃ fk iF, i0 ≤ iF ∧ iF ≤ N ∧ (∀ T M c f, c + 8 ≤ i → k + 2 < f → CSq x n N b sp T i (o0 + cc.length) u M → SEG (gI M (x + 7)) o0 cc → Ok (lp f (fun s => bc T s.1 s.2) (nI c, M)) (fun M' => CXq x T fk (tP b n iF) (o0 + iF - i0 + (6 - d)) M M')) ∧ ∀ T M q f, k + 2 < f → RSq m n N b lw T i (q + rc.length) M → SEG (gI M (m + 4)) (132 + q) rc → Ok (lp f (fun s => br T s) M) (fun M' => RXq m T fk (tP b n iF) M M') := by
  intro k
  induction k with
  | zero =>
    intro i cc rc u v hk hS
    have hiN := hS.2.1
    have hi0 := hS.1
    rcases hJ i cc rc u v hS ho with ⟨s1, s2⟩ | ⟨i2, cc2, rc2, u2, v2, h1, h2, _, _⟩ | ⟨fk, iF, h1, h2, h3, h4⟩
    · refine Or.inl ⟨i, cc, rc, u, v, hS, fun T M c f hc hf hM hs => ?_, fun T M q f hf hM hs => ?_⟩
      · obtain ⟨f, rfl⟩ : ∃ z, f = z + 1 := ⟨f - 1, by omega⟩
        exact ⟨M, lp_inr (s1 T M c (by omega) hM), hM, LFr.rfl, fun _ _ => rfl, hs⟩
      · obtain ⟨f, rfl⟩ : ∃ z, f = z + 1 := ⟨f - 1, by omega⟩
        exact ⟨M, lp_inr (s2 T M _ hM), hM, FI.rfl, fun _ _ => rfl, hs⟩
    · have := h2.2.1
      omega
    · refine Or.inr ⟨fk, iF, by omega, h2, fun T M c f hc hf hM hs => ?_, fun T M q f hf hM hs => ?_⟩
      · obtain ⟨f, rfl⟩ : ∃ z, f = z + 2 := ⟨f - 2, by omega⟩
        obtain ⟨r, e, M', rfl, hX⟩ := h3 T M c (by omega) hM
        refine ⟨M', ?_, hX⟩
        rw [show f + 2 = (f + 1) + 1 by omega, lp_inl (s' := (nI (c + 1), M')) e]
        exact lp_inr (bF T M' (c + 1) (by omega) hX.1.1 hX.1.ne)
      · obtain ⟨f, rfl⟩ : ∃ z, f = z + 2 := ⟨f - 2, by omega⟩
        obtain ⟨r, e, M', rfl, hX⟩ := h4 T M _ hM
        refine ⟨M', ?_, hX⟩
        rw [show f + 2 = (f + 1) + 1 by omega, lp_inl (s' := M') e]
        exact lp_inr (rF T M' hX.1.1 hX.1.ne)
  | succ k ih =>
    intro i cc rc u v hk hS
    have hiN := hS.2.1
    have hi0 := hS.1
    rcases hJ i cc rc u v hS ho with ⟨s1, s2⟩ | ⟨i2, cc2, rc2, u2, v2, h1, h2, h3, h4⟩ | ⟨fk, iF, h1, h2, h3, h4⟩
    · refine Or.inl ⟨i, cc, rc, u, v, hS, fun T M c f hc hf hM hs => ?_, fun T M q f hf hM hs => ?_⟩
      · obtain ⟨f, rfl⟩ : ∃ z, f = z + 1 := ⟨f - 1, by omega⟩
        exact ⟨M, lp_inr (s1 T M c (by omega) hM), hM, LFr.rfl, fun _ _ => rfl, hs⟩
      · obtain ⟨f, rfl⟩ : ∃ z, f = z + 1 := ⟨f - 1, by omega⟩
        exact ⟨M, lp_inr (s2 T M _ hM), hM, FI.rfl, fun _ _ => rfl, hs⟩
    · rcases ih i2 cc2 rc2 u2 v2 (by omega) h2 with ⟨i3, cc3, rc3, u3, v3, g1, g2, g3⟩ | ⟨fk, iF, g1, g2, g3, g4⟩
      · refine Or.inl ⟨i3, cc3, rc3, u3, v3, g1, fun T M c f hc hf hM hs => ?_, fun T M q f hf hM hs => ?_⟩
        · obtain ⟨f, rfl⟩ : ∃ z, f = z + 1 := ⟨f - 1, by omega⟩
          obtain ⟨r, e, M', rfl, hX⟩ := h3 T M c (by omega) hM hs
          rw [lp_inl (s' := (nI (c + 1), M')) e]
          exact (g2 T M' (c + 1) f (by omega) (by omega) hX.1 hX.2.2.2).mono (fun p hp => hX.trans hp)
        · obtain ⟨f, rfl⟩ : ∃ z, f = z + 1 := ⟨f - 1, by omega⟩
          obtain ⟨r, e, M', rfl, hX⟩ := h4 T M q hM hs
          rw [lp_inl (s' := M') e]
          exact (g3 T M' q f (by omega) hX.1 hX.2.2.2).mono (fun p hp => hX.trans hp)
      · refine Or.inr ⟨fk, iF, g1, g2, fun T M c f hc hf hM hs => ?_, fun T M q f hf hM hs => ?_⟩
        · obtain ⟨f, rfl⟩ : ∃ z, f = z + 1 := ⟨f - 1, by omega⟩
          obtain ⟨r, e, M', rfl, hX⟩ := h3 T M c (by omega) hM hs
          rw [lp_inl (s' := (nI (c + 1), M')) e]
          exact (g3 T M' (c + 1) f (by omega) (by omega) hX.1 hX.2.2.2).mono (fun p hp => ⟨hp.1, hX.2.1.trans hp.2.1, hp.2.2⟩)
        · obtain ⟨f, rfl⟩ : ∃ z, f = z + 1 := ⟨f - 1, by omega⟩
          obtain ⟨r, e, M', rfl, hX⟩ := h4 T M q hM hs
          rw [lp_inl (s' := M') e]
          exact (g4 T M' q f (by omega) hX.1 hX.2.2.2).mono (fun p hp => ⟨hp.1, hX.2.1.trans hp.2⟩)
    · refine Or.inr ⟨fk, iF, by omega, h2, fun T M c f hc hf hM hs => ?_, fun T M q f hf hM hs => ?_⟩
      · obtain ⟨f, rfl⟩ : ∃ z, f = z + 2 := ⟨f - 2, by omega⟩
        obtain ⟨r, e, M', rfl, hX⟩ := h3 T M c (by omega) hM
        refine ⟨M', ?_, hX⟩
        rw [show f + 2 = (f + 1) + 1 by omega, lp_inl (s' := (nI (c + 1), M')) e]
        exact lp_inr (bF T M' (c + 1) (by omega) hX.1.1 hX.1.ne)
      · obtain ⟨f, rfl⟩ : ∃ z, f = z + 2 := ⟨f - 2, by omega⟩
        obtain ⟨r, e, M', rfl, hX⟩ := h4 T M _ hM
        refine ⟨M', ?_, hX⟩
        rw [show f + 2 = (f + 1) + 1 by omega, lp_inl (s' := M') e]
        exact lp_inr (rF T M' hX.1.1 hX.1.ne)
end
