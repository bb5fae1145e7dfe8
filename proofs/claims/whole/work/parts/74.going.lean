/-! risen, edges; what is followed; later -/
theorem first_of {p : Nat → Bool} {i n : Nat} (h1 : ∀ j, j < i → p j = false) (h2 : p i = true) (hi : i < n) : fa_first p n = i := by
  rcases Nat.lt_trichotomy (fa_first p n) i with q | q | q
  · have := fa_first_yes p n (by omega)
    rw [h1 _ q] at this
    exact absurd this (by decide)
  · exact q
  · have := fa_first_no p n i q
    rw [h2] at this
    exact absurd this (by decide)
theorem first_none {p : Nat → Bool} {n : Nat} (h : ∀ j, j < n → p j = false) : fa_first p n = n := by
  have h1 := fa_first_le p n
  rcases Nat.lt_or_ge (fa_first p n) n with q | q
  · have := fa_first_yes p n q
    rw [h _ q] at this
    exact absurd this (by decide)
  · omega
def rnb (b : Nat → Bool) (s : Nat) : Nat → Bool
  | 0 => true
  | k + 1 => rnb b s k && b (s + k)
theorem rnb_iff {b : Nat → Bool} {s : Nat} : ∀ k, rnb b s k = true ↔ rn b s k
  | 0 => ⟨fun _ i hi => absurd hi (Nat.not_lt_zero _), fun _ => rfl⟩
  | k + 1 => by
    rw [rnb, Bool.and_eq_true, rnb_iff k]
    constructor
    · intro h i hi
      rcases Nat.lt_or_ge i k with q | q
      · exact h.1 i q
      · rw [show i = k by omega]; exact h.2
    · intro h
      exact ⟨fun i hi => h i (by omega), h k (by omega)⟩
def edP (b : Nat → Bool) (h i : Nat) : Bool := !b i && rnb b (i + 1) h
def edI (b : Nat → Bool) (h : Nat) : Int32 := if fa_first (edP b h) (24 - h) < 24 - h then nI (fa_first (edP b h) (24 - h) + 1) else -1
section
variable {x m : Nat} {A : Nat → Int32} {T : Sh} {M M2 : Me}
theorem r_hasRisen {e l d : Nat} (h : RV m A T M) (hd : gI M m 18 = dft e) (hl : l < nlA A) (hdd : d < 24) : Ok (fX12_hasRisen T M m (nI l) (nI d)) (fun p => p.1 = b2 (rsd A e l d) ∧ FI m (wf m) M p.2) := by
  have hM := h.rm
  have hn6 := h.lv.b3
  unfold fX12_hasRisen
  simp (disch := omega) only [gdI, gdT, Option.bind_some, lte, une2, une3, nI_add, gvI, cl_nI, c_le, c_lt, c_eq, Sum.elim_inl, Sum.elim_inr, hM.k, hM.r1, hM.k1, hM.l1, i_6, i_14, h.al, hd]
  rcases h.lv.lw (lw := 1) (by omega) with z | z
  · have z0 : A 6 = 0 := z
    rw [if_pos z0]
    have ep : rsd A e l d = decide (A (14 + l) + dft e ≤ nI d) := by
      unfold rsd
      rw [if_neg (by rw [z0]; decide)]
    by_cases g : nI d < A (14 + l) + dft e
    · rw [if_pos g]
      exact ok_i ⟨by rw [ep, decide_eq_false (fa_of_lt g).2.1]; rfl, FI.rfl⟩
    · rw [if_neg g]
      exact ok_i ⟨by rw [ep, decide_eq_true (fa_of_nlt g)]; rfl, FI.rfl⟩
  · have z1 : A 6 = 1 := z.1
    rw [if_neg (by rw [z1]; decide)]
    simp (disch := omega) only [gdI, gdT, Option.bind_some, lte, une2, une3, nI_add, gvI, cl_nI, c_le, c_lt, c_eq, Sum.elim_inl, Sum.elim_inr, hM.k, hM.r6, hM.k6, hM.l6, i_0, i_2, i_4, mRI, mIIn, hd]
    have f1 : FI m (wf m) M (pI (pI (pI M (m + 6) 0 (nI d)) (m + 6) 2 (nI l)) (m + 6) 4 (dft e)) := ((FI.rfl.pI (Or.inr rfl)).pI (Or.inr rfl)).pI (Or.inr rfl)
    refine Ok.bd (r_law (lw := 1) (h.fi f1 (fun _ _ => wf_qf)) (by omega) z1 (fun _ _ => rfl)) (fun p hq => ?_)
    obtain ⟨p1, M1⟩ := p
    obtain ⟨rfl, f2⟩ := hq
    rw [une2]
    have ep : rsd A e l d = decide (den A 1 (gI (pI (pI (pI M (m + 6) 0 (nI d)) (m + 6) 2 (nI l)) (m + 6) 4 (dft e)) (m + 6)) = 1) := by
      unfold rsd
      rw [if_pos z1]
      have := z.2.2.2 (wds (nI d) 0 (nI l) 0 (dft e) 0) (gI (pI (pI (pI M (m + 6) 0 (nI d)) (m + 6) 2 (nI l)) (m + 6) 4 (dft e)) (m + 6)) (fun j hj => by
        have hj5 : j = 0 ∨ j = 2 ∨ j = 4 := by simpa [al] using hj
        rcases hj5 with z | z | z <;> subst z <;> simp (disch := omega) only [mIIk, mII1] <;> rfl)
      rw [this]
    by_cases h1 : den A 1 (gI (pI (pI (pI M (m + 6) 0 (nI d)) (m + 6) 2 (nI l)) (m + 6) 4 (dft e)) (m + 6)) = 1
    · rw [if_pos h1]
      exact ok_i ⟨by rw [ep, decide_eq_true h1]; rfl, f1.trans f2⟩
    · rw [if_neg h1]
      exact ok_i ⟨by rw [ep, decide_eq_false h1]; rfl, f1.trans f2⟩
theorem r_risenOf {e l : Nat} (h : RV m A T M) (hd : gI M m 18 = dft e) (hl : l < nlA A) : Ok (fX12_risenOf T M m (nI l)) (fun p => p.1 = rsA A e l ∧ FI m (wf m) M p.2) := by
  unfold fX12_risenOf
  refine Ok.bd (ok_forF (s := ((0 : Int32), (0 : Int32), M)) 0 24 (fun i s => ∃ M', s = (mk (rsd A e l) i, nI i, M') ∧ FI m (wf m) M M') (fun p => p.1 = rsA A e l ∧ FI m (wf m) M p.2) ⟨M, rfl, FI.rfl⟩ (by omega) (by omega) (fun i s _ hi hI => ?_) (fun s hI => ?_)) (fun p hq => ok_i hq)
  · obtain ⟨M', rfl, f⟩ := hI
    have h' : RV m A T M' := h.fi f (fun _ _ => wf_qf)
    have hM := h'.rm
    show Ok (bX12_risenOf_4 T m (nI l) (mk (rsd A e l) i) (nI i) M') _
    unfold bX12_risenOf_4
    simp (disch := omega) only [gdI, gdT, Option.bind_some, lte, une2, une3, nI_add, gvI, cl_nI, c_le, c_lt, c_eq, Sum.elim_inl, Sum.elim_inr, hM.k, i_24, Nat.not_le.mpr hi, if_false]
    refine Ok.bd (r_hasRisen h' ((f.1 _ _ (by unfold wf; omega)).trans hd) hl hi) (fun p hq => ?_)
    obtain ⟨p1, M1⟩ := p
    obtain ⟨rfl, f1⟩ := hq
    simp only [une2, lte, nI_1]
    cases hb : rsd A e l i
    · rw [if_pos (b2_ne.mpr rfl)]
      exact ok_i ⟨M1, by rw [mk, if_neg (by rw [hb]; decide)], f.trans f1⟩
    · rw [if_neg (fun z => absurd (b2_ne.mp z) (by decide))]
      exact ok_i ⟨M1, by rw [mk, if_pos hb], f.trans f1⟩
  · obtain ⟨M', rfl, f⟩ := hI
    show Ok (bX12_risenOf_4 T m (nI l) (mk (rsd A e l) 24) (nI 24) M') _
    unfold bX12_risenOf_4
    rw [i_24, if_pos (by decide)]
    exact ok_i ⟨rfl, f⟩
theorem q_risen (hL : LV A) (a : Int32) : QQ x m A (fun T M => fX11_risen T M x a) (fun T M => fX12_risen T M m a) := by
  have h6 := hL.b3
  rcases ix_I a (nlA A) (by omega) with ⟨l, hl, rfl⟩ | hn
  · refine ⟨rsA A (eA A) l, fun T M h => ?_, fun T M h => ?_⟩
    · have hp := h.px
      have hb := h.sv.b48
      show Ok (fX11_risen T M x (nI l)) _
      unfold fX11_risen
      rw [c_lane1 h hl, hp.k0, gdI, Option.bind_some, if_pos rfl]
      simp only [gdI, gdT, Option.bind_some, lte, une2, une3, nI_add, gvI, cl_nI, c_le, c_lt, c_eq, Sum.elim_inl, Sum.elim_inr, hp.k0, hp.k8, hp.k15, hp.l15, hp.k16, hp.l16, hp.k17, hp.l17, hp.k18, hp.l18, hp.k25, hp.k26, hp.l26, hp.r0_0, hp.r0_2, hp.r0_3, hp.r0_4, hp.r0_5, hp.r0_6, hp.r0_7, hp.r0_9, hp.r0_10, hp.r0_13, hp.r8_1, hp.r8_2, hp.r8_4, hp.r8_5, hp.r25_0, h.tm, h.sv.n48]
      refine Ok.bd (c_driftAt h (by omega)) (fun p hq => ?_)
      obtain ⟨p1, M1⟩ := p
      obtain ⟨rfl, f1, h1⟩ := hq
      simp only [une2]
      refine Ok.bd (c_risenAt h1 hl (eT_b A _)) (fun p hq => ?_)
      obtain ⟨p1, M2⟩ := p
      obtain ⟨rfl, f2, h2⟩ := hq
      exact ok_i ⟨rfl, (f1.trans f2).gf, h2⟩
    · have h0 := h.t0 (v := 0)
      show Ok (fX12_risen T M m (nI l)) _
      unfold fX12_risen
      rw [h0.rm.k, gdI, lte, r_lane1 h0 hl, Option.bind_some, if_neg (by decide)]
      refine Ok.bd (r_laysNow h0) (fun p hq => ?_)
      obtain ⟨p1, M1⟩ := p
      obtain ⟨d1, f1, h1⟩ := hq
      rw [une2]
      refine Ok.bd (r_risenOf h1 d1.1 hl) (fun p hq => ?_)
      obtain ⟨p1, M2⟩ := p
      obtain ⟨rfl, f2⟩ := hq
      exact ok_i ⟨rfl, ((r_t0.trans f1).trans (f2.wide (fun _ _ => wf_nf))).qf (fun _ _ => nf_qf)⟩
  · refine ⟨-2, fun T M h => ?_, fun T M h => ?_⟩
    · show Ok (fX11_risen T M x a) _
      unfold fX11_risen
      rw [c_lane0 h hn, h.px.k0, gdI, Option.bind_some, if_neg (by decide)]
      exact ok_i ⟨rfl, GF.rfl, h⟩
    · have h0 := h.t0 (v := 0)
      show Ok (fX12_risen T M m a) _
      unfold fX12_risen
      rw [h0.rm.k, gdI, lte, r_lane0 h0 hn, Option.bind_some, if_pos rfl]
      exact ok_i ⟨rfl, r_t0.qf (fun _ _ => nf_qf)⟩
theorem b2_and {a b : Bool} : b2 a &&& b2 b = b2 (a && b) := by cases a <;> cases b <;> decide
theorem c_edgeOf {l : Nat} (h : CV x A T M) (hl : l < nlA A) : Ok (fX11_edgeOf T M x (nI l)) (fun p => p.1 = edI (bt (rsA A (eA A) l)) (hoA A) ∧ PF x M p.2 ∧ CV x A T p.2) := by
  have hp := h.px
  have hb := h.sv.b48
  obtain ⟨ho1, ho9⟩ := h.lv.b2
  unfold fX11_edgeOf
  simp only [gdI, gdT, Option.bind_some, lte, une2, une3, nI_add, gvI, cl_nI, c_le, c_lt, c_eq, Sum.elim_inl, Sum.elim_inr, hp.k0, hp.k8, hp.k15, hp.l15, hp.k16, hp.l16, hp.k17, hp.l17, hp.k18, hp.l18, hp.k25, hp.k26, hp.l26, hp.r0_0, hp.r0_2, hp.r0_3, hp.r0_4, hp.r0_5, hp.r0_6, hp.r0_7, hp.r0_9, hp.r0_10, hp.r0_13, hp.r8_1, hp.r8_2, hp.r8_4, hp.r8_5, hp.r25_0, h.tm, h.sv.n48]
  refine Ok.bd (c_driftAt h (by omega)) (fun p hq => ?_)
  obtain ⟨p1, M1⟩ := p
  obtain ⟨rfl, f1, h1⟩ := hq
  simp only [une2]
  refine Ok.bd (c_risenAt h1 hl (eT_b A _)) (fun p hq => ?_)
  obtain ⟨p1, M2⟩ := p
  obtain ⟨rfl, f2, h2⟩ := hq
  have hp2 := h2.px
  obtain ⟨a, ha, hlb⟩ := h2.lab
  simp only [gdI, gdT, Option.bind_some, lte, une2, une3, nI_add, gvI, cl_nI, c_le, c_lt, c_eq, Sum.elim_inl, Sum.elim_inr, hp2.k0, hp2.k8, hp2.k15, hp2.l15, hp2.k16, hp2.l16, hp2.k17, hp2.l17, hp2.k18, hp2.l18, hp2.r0_0, hp2.r0_2, hp2.r0_3, hp2.r0_4, hp2.r0_5, hp2.r0_6, hp2.r0_7, hp2.r0_9, hp2.r0_10, hp2.r0_13, hp2.r8_1, hp2.r8_2, hp2.r8_4, hp2.r8_5, ha, hlb.k, hlb.f6, h.lv.n2]
  show Ok (Option.bind (lp FU (fun s => bX11_edgeOf_44 T M2 (rsA A (eA A) l) (nI (hoA A)) ((1 : Int32) <<< (nI (hoA A) &&& 31) - 1) s) (1 : Int32)) _) _
  generalize rsA A (eA A) l = row
  generalize hoA A = ho at *
  have key : Ok (lp FU (fun s => bX11_edgeOf_44 T M2 row (nI ho) ((1 : Int32) <<< (nI ho &&& 31) - 1) s) (1 : Int32)) (fun r => (if fa_first (edP (bt row) ho) (24 - ho) < 24 - ho then r = Sum.inl (nI (fa_first (edP (bt row) ho) (24 - ho) + 1)) else r = Sum.inr ())) := by
    refine ok_forF 0 (24 - ho) (fun i s => s = nI (i + 1) ∧ ∀ j, j < i → edP (bt row) ho j = false) _ ⟨rfl, fun j hj => absurd hj (by omega)⟩ (by omega) (by omega) (fun i s _ hi hI => ?_) (fun s hI => ?_)
    · obtain ⟨rfl, hn⟩ := hI
      show Ok (bX11_edgeOf_44 T M2 row (nI ho) _ (nI (i + 1))) _
      unfold bX11_edgeOf_44
      rw [nI_add, i_24, if_neg (by rw [c_lt (by omega) (by omega)]; omega), i_dec]
      simp only [bit0 (x := row) (n := i) (by omega)]
      have hr := mask_run (x := row) (d := i + 1) (n := ho) (by omega)
      have hrb := rnb_iff (b := bt row) (s := i + 1) ho
      cases hbi : bt row i
      · rw [if_pos rfl]
        by_cases hq : rn (bt row) (i + 1) ho
        · have e : edP (bt row) ho i = true := by unfold edP; rw [hbi, hrb.mpr hq]; rfl
          rw [if_pos (by rw [hr]; exact hq)]
          refine ok_i ?_
          show if _ then _ else _
          rw [first_of hn e hi, if_pos hi]
        · have e : edP (bt row) ho i = false := by
            unfold edP
            rw [hbi]
            cases hz : rnb (bt row) (i + 1) ho
            · rfl
            · exact absurd (hrb.mp hz) hq
          rw [if_neg (by rw [hr]; exact hq)]
          simp only [lte, nI_1]
          refine ok_i ⟨rfl, fun j hj => ?_⟩
          rcases Nat.lt_or_ge j i with q | q
          · exact hn j q
          · rw [show j = i by omega]; exact e
      · rw [if_neg (by decide)]
        have e : edP (bt row) ho i = false := by unfold edP; rw [hbi]; rfl
        simp only [lte, nI_1]
        refine ok_i ⟨rfl, fun j hj => ?_⟩
        rcases Nat.lt_or_ge j i with q | q
        · exact hn j q
        · rw [show j = i by omega]; exact e
    · obtain ⟨rfl, hn⟩ := hI
      show Ok (bX11_edgeOf_44 T M2 row (nI ho) _ (nI (24 - ho + 1))) _
      unfold bX11_edgeOf_44
      rw [nI_add, i_24, if_pos (by rw [c_lt (by omega) (by omega)]; omega)]
      refine ok_i ?_
      show if _ then _ else _
      rw [first_none hn, if_neg (by omega)]
  refine Ok.bd key (fun r hr => ?_)
  unfold edI
  by_cases hq : fa_first (edP (bt row) ho) (24 - ho) < 24 - ho
  · rw [if_pos hq] at hr ⊢
    subst hr
    exact ok_i ⟨rfl, f1.trans f2, h2⟩
  · rw [if_neg hq] at hr ⊢
    subst hr
    exact ok_i ⟨rfl, f1.trans f2, h2⟩
theorem r_edgeIn {ho d : Nat} {row : Int32} {c : Bool} (h : RV m A T M) (hho : A 2 = nI ho) (h9 : ho ≤ 9) (hd : d + ho ≤ 24) : lp FU (fun s => bX12_edgeOf_42 T M m row (nI d) s.1 s.2) (b2 c, (0 : Int32)) = some (b2 (c && rnb (bt row) d ho)) := by
  have hM := h.rm
  refine lp_itG (fun i => (b2 (c && rnb (bt row) d i), nI i)) ho _ (by rw [rnb, Bool.and_true]; rfl) (by omega) (fun i hi => ?_) ?_
  · show bX12_edgeOf_42 T M m row (nI d) (b2 (c && rnb (bt row) d i)) (nI i) = _
    unfold bX12_edgeOf_42
    simp (disch := omega) only [gdI, gdT, Option.bind_some, lte, une2, une3, nI_add, gvI, cl_nI, c_le, c_lt, c_eq, Sum.elim_inl, Sum.elim_inr, hM.k, hM.r1, hM.k1, hM.l1, i_2, h.al, hho, Nat.not_le.mpr hi, if_false, isIn_at, b2_and, nI_1]
    rw [rnb, Bool.and_assoc]
  · show bX12_edgeOf_42 T M m row (nI d) (b2 (c && rnb (bt row) d ho)) (nI ho) = _
    unfold bX12_edgeOf_42
    simp (disch := omega) only [gdI, gdT, Option.bind_some, lte, une2, une3, nI_add, gvI, cl_nI, c_le, c_lt, c_eq, Sum.elim_inl, Sum.elim_inr, hM.k, hM.r1, hM.k1, hM.l1, i_2, h.al, hho, Nat.le_refl, if_true]
theorem r_edgeOf {l : Nat} (h : RV m A T M) (hd : RD m A (qA A) (eA A) M) (hl : l < nlA A) : Ok (fX12_edgeOf T M m (nI l)) (fun p => p.1 = edI (bt (rsA A (eA A) l)) (hoA A) ∧ FI m (wf m) M p.2) := by
  have hM := h.rm
  obtain ⟨ho1, ho9⟩ := h.lv.b2
  have hn2 := h.lv.n2
  unfold fX12_edgeOf
  simp only [gdI, gdT, Option.bind_some, lte, une2, une3, nI_add, gvI, cl_nI, c_le, c_lt, c_eq, Sum.elim_inl, Sum.elim_inr, hM.k]
  refine Ok.bd (r_risenOf h hd.1 hl) (fun p hq => ?_)
  obtain ⟨p1, M1⟩ := p
  obtain ⟨rfl, f1⟩ := hq
  have h1 : RV m A T M1 := h.fi f1 (fun _ _ => wf_qf)
  have hM1 := h1.rm
  simp only [une2]
  generalize rsA A (eA A) l = row
  generalize hoA A = ho at *
  have key : Ok (lp FU (fun s => bX12_edgeOf_8 T M1 m row s) (1 : Int32)) (fun r => (if fa_first (edP (bt row) ho) (24 - ho) < 24 - ho then r = Sum.inl (nI (fa_first (edP (bt row) ho) (24 - ho) + 1)) else r = Sum.inr ())) := by
    refine ok_forF 0 (24 - ho) (fun i s => s = nI (i + 1) ∧ ∀ j, j < i → edP (bt row) ho j = false) _ ⟨rfl, fun j hj => absurd hj (by omega)⟩ (by omega) (by omega) (fun i s _ hi hI => ?_) (fun s hI => ?_)
    · obtain ⟨rfl, hn⟩ := hI
      have fin : Ok (jX12_edgeOf_37 T M1 m row (nI (i + 1)) (b2 (!bt row i))) (fun o => match o with
          | Sum.inl s' => s' = nI (i + 1 + 1) ∧ ∀ j, j < i + 1 → edP (bt row) ho j = false
          | Sum.inr r => (if fa_first (edP (bt row) ho) (24 - ho) < 24 - ho then r = Sum.inl (nI (fa_first (edP (bt row) ho) (24 - ho) + 1)) else r = Sum.inr ())) := by
        unfold jX12_edgeOf_37
        rw [r_edgeIn h1 hn2 ho9 (by omega), Option.bind_some]
        rw [show (!bt row i && rnb (bt row) (i + 1) ho) = edP (bt row) ho i from rfl]
        cases e : edP (bt row) ho i
        · rw [if_pos (b2_ne.mpr rfl)]
          simp only [lte, nI_1]
          refine ok_i ⟨rfl, fun j hj => ?_⟩
          rcases Nat.lt_or_ge j i with q | q
          · exact hn j q
          · rw [show j = i by omega]; exact e
        · rw [if_neg (fun z => absurd (b2_ne.mp z) (by decide))]
          refine ok_i ?_
          show if _ then _ else _
          rw [first_of hn e hi, if_pos hi]
      show Ok (bX12_edgeOf_8 T M1 m row (nI (i + 1))) _
      unfold bX12_edgeOf_8
      simp (disch := omega) only [gdI, gdT, Option.bind_some, lte, une2, une3, nI_add, gvI, cl_nI, c_le, c_lt, c_eq, Sum.elim_inl, Sum.elim_inr, hM1.k, hM1.r1, hM1.k1, hM1.l1, i_2, i_24, h1.al, hn2]
      rw [if_neg (by omega), i_dec, isIn_at row (by omega)]
      simp only [Option.bind_some]
      cases hbi : bt row i
      · rw [hbi] at fin
        rw [if_pos (b2_ne.mpr rfl)]
        exact fin.mono (fun o ho => by cases o <;> exact ho)
      · rw [hbi] at fin
        rw [if_neg (fun z => absurd (b2_ne.mp z) (by decide))]
        exact fin.mono (fun o ho => by cases o <;> exact ho)
    · obtain ⟨rfl, hn⟩ := hI
      show Ok (bX12_edgeOf_8 T M1 m row (nI (24 - ho + 1))) _
      unfold bX12_edgeOf_8
      simp (disch := omega) only [gdI, gdT, Option.bind_some, lte, une2, une3, nI_add, gvI, cl_nI, c_le, c_lt, c_eq, Sum.elim_inl, Sum.elim_inr, hM1.k, hM1.r1, hM1.k1, hM1.l1, i_2, i_24, h1.al, hn2]
      rw [if_pos (by omega)]
      refine ok_i ?_
      show if _ then _ else _
      rw [first_none hn, if_neg (by omega)]
  refine Ok.bd key (fun r hr => ?_)
  unfold edI
  by_cases hq : fa_first (edP (bt row) ho) (24 - ho) < 24 - ho
  · rw [if_pos hq] at hr ⊢
    subst hr
    exact ok_i ⟨rfl, f1⟩
  · rw [if_neg hq] at hr ⊢
    subst hr
    exact ok_i ⟨rfl, f1⟩
theorem q_edge (hL : LV A) (a : Int32) : QQ x m A (fun T M => fX11_edge T M x a) (fun T M => fX12_edge T M m a) := by
  have h6 := hL.b3
  rcases ix_I a (nlA A) (by omega) with ⟨l, hl, rfl⟩ | hn
  · refine ⟨edI (bt (rsA A (eA A) l)) (hoA A), fun T M h => ?_, fun T M h => ?_⟩
    · show Ok (fX11_edge T M x (nI l)) _
      unfold fX11_edge
      rw [c_lane1 h hl, h.px.k0, gdI, Option.bind_some, if_pos rfl]
      refine Ok.bd (c_edgeOf h hl) (fun p hq => ?_)
      obtain ⟨p1, M1⟩ := p
      obtain ⟨rfl, f1, h1⟩ := hq
      exact ok_i ⟨rfl, f1.gf, h1⟩
    · have h0 := h.t0 (v := 0)
      show Ok (fX12_edge T M m (nI l)) _
      unfold fX12_edge
      rw [h0.rm.k, gdI, lte, r_lane1 h0 hl, Option.bind_some, if_neg (by decide)]
      refine Ok.bd (r_laysNow h0) (fun p hq => ?_)
      obtain ⟨p1, M1⟩ := p
      obtain ⟨d1, f1, h1⟩ := hq
      rw [une2]
      refine Ok.bd (r_edgeOf h1 d1 hl) (fun p hq => ?_)
      obtain ⟨p1, M2⟩ := p
      obtain ⟨rfl, f2⟩ := hq
      exact ok_i ⟨rfl, ((r_t0.trans f1).trans (f2.wide (fun _ _ => wf_nf))).qf (fun _ _ => nf_qf)⟩
  · refine ⟨-2, fun T M h => ?_, fun T M h => ?_⟩
    · show Ok (fX11_edge T M x a) _
      unfold fX11_edge
      rw [c_lane0 h hn, h.px.k0, gdI, Option.bind_some, if_neg (by decide)]
      exact ok_i ⟨rfl, GF.rfl, h⟩
    · have h0 := h.t0 (v := 0)
      show Ok (fX12_edge T M m a) _
      unfold fX12_edge
      rw [h0.rm.k, gdI, lte, r_lane0 h0 hn, Option.bind_some, if_pos rfl]
      exact ok_i ⟨rfl, r_t0.qf (fun _ _ => nf_qf)⟩
/-! what is followed, by the reference -/
theorem r_left {y z row : Int32} : ∀ (d n : Nat), d < 24 → d < n → lp n (fun s => bX12_followedFrom_31 T M y row z s) (nI d) = some (nI (lft (bt row) d))
  | 0, n, _, hn => by
    obtain ⟨n, rfl⟩ : ∃ k, n = k + 1 := ⟨n - 1, by omega⟩
    refine lp_inr ?_
    show bX12_followedFrom_31 T M y row z (nI 0) = _
    unfold bX12_followedFrom_31
    rw [if_pos (by decide)]; rfl
  | d + 1, n, hd, hn => by
    obtain ⟨n, rfl⟩ : ∃ k, n = k + 1 := ⟨n - 1, by omega⟩
    have e : bX12_followedFrom_31 T M y row z (nI (d + 1)) = if bt row d = true then some (.inl (nI d)) else some (.inr (nI (d + 1))) := by
      unfold bX12_followedFrom_31
      rw [if_neg (by rw [i_0, c_le (by omega) (by omega)]; omega), i_dec, isIn_at row (by omega)]
      simp only [Option.bind_some, lte, i_m1]
      cases bt row d <;> rfl
    rw [lft]
    by_cases hb : bt row d = true
    · rw [if_pos hb]
      rw [if_pos hb] at e
      rw [lp_inl (s' := nI d) e]
      exact r_left d n (by omega) (by omega)
    · rw [if_neg hb]
      rw [if_neg hb] at e
      exact lp_inr e
theorem r_right {y z row : Int32} : ∀ (f d n : Nat), d + f = 23 → f < n → lp n (fun s => bX12_followedFrom_54 T M y row z s) (nI d) = some (nI (rgt (bt row) f d))
  | 0, d, n, hd, hn => by
    obtain ⟨n, rfl⟩ : ∃ k, n = k + 1 := ⟨n - 1, by omega⟩
    refine lp_inr ?_
    show bX12_followedFrom_54 T M y row z (nI d) = _
    unfold bX12_followedFrom_54
    rw [i_23, if_pos (by rw [c_le (by omega) (by omega)]; omega)]; rfl
  | f + 1, d, n, hd, hn => by
    obtain ⟨n, rfl⟩ : ∃ k, n = k + 1 := ⟨n - 1, by omega⟩
    have e : bX12_followedFrom_54 T M y row z (nI d) = if bt row (d + 1) = true then some (.inl (nI (d + 1))) else some (.inr (nI d)) := by
      unfold bX12_followedFrom_54
      rw [i_23, if_neg (by rw [c_le (by omega) (by omega)]; omega), nI_1, isIn_at row (by omega)]
      simp only [Option.bind_some, lte]
      cases bt row (d + 1) <;> rfl
    rw [rgt]
    by_cases hb : bt row (d + 1) = true
    · rw [if_pos hb]
      rw [if_pos hb] at e
      rw [lp_inl (s' := nI (d + 1)) e]
      exact r_right f (d + 1) n (by omega) (by omega)
    · rw [if_neg hb]
      rw [if_neg hb] at e
      exact lp_inr e
def fpt (A : Nat → Int32) (q e l c : Nat) : Nat := c / 24 * 24 + flw (bt (rwA A q e l (c / 24))) (c % 24)
theorem fpt_b {q e l c : Nat} (hc : c < 384) : fpt A q e l c < 384 ∧ fpt A q e l c / 24 = c / 24 ∧ fpt A q e l c % 24 = flw (bt (rwA A q e l (c / 24))) (c % 24) := by
  have := flw_b (b := bt (rwA A q e l (c / 24))) (d := c % 24) (by omega)
  unfold fpt
  omega
theorem r_followedFrom {q e l c : Nat} (h : RV m A T M) (hd : RD m A q e M) (hl : l < nlA A) (hc : c < 384) : Ok (fX12_followedFrom T M m (nI l) (nI c)) (fun p => p.1 = nI (fpt A q e l c) ∧ FI m (wf m) M p.2) := by
  have hM := h.rm
  unfold fX12_followedFrom
  simp (disch := omega) only [gdI, gdT, Option.bind_some, lte, une2, une3, nI_add, gvI, cl_nI, c_le, c_lt, c_eq, Sum.elim_inl, Sum.elim_inr, hM.k, i_24, c_div, c_remQ]
  refine Ok.bd (r_isPassed h hd hl hc) (fun p hq => ?_)
  obtain ⟨p1, M1⟩ := p
  obtain ⟨rfl, f1⟩ := hq
  rw [une2, ← bt_rw (A := A) (q := q) (e := e) (l := l) (v := c / 24) (d := c % 24) (by omega)]
  have h1 : RV m A T M1 := h.fi f1 (fun _ _ => wf_qf)
  unfold fpt
  cases hb : bt (rwA A q e l (c / 24)) (c % 24)
  · rw [if_pos (b2_ne.mpr rfl)]
    refine ok_i ⟨?_, f1⟩
    show nI c = _
    unfold flw
    rw [hb, if_neg (by decide), show c / 24 * 24 + c % 24 = c by omega]
  · rw [if_neg (fun z => absurd (b2_ne.mp z) (by decide))]
    refine Ok.bd (r_rowOf (v := c / 24) h1 (hd.w f1) hl (by omega)) (fun p hq => ?_)
    obtain ⟨p1, M2⟩ := p
    obtain ⟨rfl, f2⟩ := hq
    generalize rwA A q e l (c / 24) = row at *
    have g1 := lft_le (bt row) (c % 24)
    have g2 := rgt_ge (bt row) (23 - c % 24) (c % 24)
    rw [une2, r_left (c % 24) FU (by omega) (by show c % 24 < 1000000; omega), Option.bind_some, r_right (23 - c % 24) (c % 24) FU (by omega) (by show 23 - c % 24 < 1000000; omega), Option.bind_some]
    rw [nI_add, i_2, c_div (by omega) (by omega) (by omega)]
    show Ok (if nI (c % 24) ≤ nI (aim (bt row) (c % 24)) then (if nI (aim (bt row) (c % 24)) ≤ nI (c % 24) then _ else _) else _) _
    have ha : aim (bt row) (c % 24) < 24 := by unfold aim; omega
    rw [ite_le (by omega) (by omega), ite_le (by omega) (by omega)]
    unfold flw
    rw [hb, if_pos rfl]
    by_cases e1 : c % 24 ≤ aim (bt row) (c % 24)
    · rw [if_pos e1]
      by_cases e2 : aim (bt row) (c % 24) ≤ c % 24
      · rw [if_pos e2, if_pos (by omega)]
        exact ok_i ⟨by show nI c = _; rw [show c / 24 * 24 + c % 24 = c by omega], f1.trans f2⟩
      · rw [if_neg e2, if_neg (by omega), if_pos e1, nI_1]
        exact ok_i ⟨by show nI (c + 1) = _; rw [show c / 24 * 24 + (c % 24 + 1) = c + 1 by omega], f1.trans f2⟩
    · rw [if_neg e1, if_neg (by omega), if_neg e1, i_1, c_sub (by omega)]
      exact ok_i ⟨by show nI (c - 1) = _; rw [show c / 24 * 24 + (c % 24 - 1) = c - 1 by omega], f1.trans f2⟩
theorem r_laysAhead {n : Nat} (h : RV m A T M) (hn : n ≤ 1000) : Ok (fX12_laysAhead T M m (nI n)) (fun p => RD m A (qA A) (eT A (tmA A + n)) p.2 ∧ FI m (nf m) M p.2 ∧ RV m A T p.2) := by
  have hM := h.rm
  have hb := h.sv.b48
  unfold fX12_laysAhead
  simp only [gdI, gdT, Option.bind_some, lte, une2, une3, nI_add, gvI, cl_nI, c_le, c_lt, c_eq, Sum.elim_inl, Sum.elim_inr, hM.k]
  refine Ok.bd (r_laysNow h) (fun p hq => ?_)
  obtain ⟨p1, M1⟩ := p
  obtain ⟨d1, f1, h1⟩ := hq
  have hM1 := h1.rm
  simp (disch := omega) only [gdI, gdT, Option.bind_some, lte, une2, une3, nI_add, gvI, cl_nI, c_le, c_lt, c_eq, Sum.elim_inl, Sum.elim_inr, hM1.k, hM1.r1, hM1.k1, hM1.l1, i_48, h1.al, h.sv.n48]
  refine Ok.bd (r_driftAt h1 (by omega)) (fun p hq => ?_)
  obtain ⟨p1, M2⟩ := p
  obtain ⟨rfl, f2⟩ := hq
  simp only [une2, lte]
  have g := (f1.trans (f2.wide (fun _ _ => wf_nf))).pI (a := m) (k := 18) (v := dft (eT A (tmA A + n))) (Or.inr (Or.inr ⟨rfl, by omega⟩))
  refine ok_i ⟨⟨mII1, ?_⟩, g, h.fi g (fun _ _ => nf_qf)⟩
  rw [mIIk (by omega)]
  exact (d1.w f2).2
theorem r_pipT {l n : Nat} (h : RV m A T M) (hl : l < nlA A) (hd : RD m A (qA A) (eT A (tmA A + n)) M) : Ok (fX12_isAtPoint T M m (nI l)) (fun p => p.1 = b2 (pipT A (tmA A + n) l) ∧ FI m (wf m) M p.2) := r_isAtPoint h hd hl
theorem q_later (hL : LV A) (a b : Int32) : QQ x m A (fun T M => fX11_later T M x a b) (fun T M => fX12_later T M m a b) := by
  have h6 := hL.b3
  rcases ix_I a (nlA A) (by omega) with ⟨l, hl, rfl⟩ | hn
  · rcases ix_I b 1000 (by omega) with ⟨n, hw, rfl⟩ | hn
    · refine ⟨b2 (pipT A (tmA A + n) l), fun T M h => ?_, fun T M h => ?_⟩
      · show Ok (fX11_later T M x (nI l) (nI n)) _
        unfold fX11_later
        rw [c_lane1 h hl, h.px.k0, gdI, Option.bind_some, if_pos rfl, i_999, rng1' (by omega) (by omega)]
        refine Ok.bd (c_passesLater h hl (by omega)) (fun p hq => ?_)
        obtain ⟨p1, M1⟩ := p
        obtain ⟨rfl, f1, h1⟩ := hq
        rw [une2, b2_if]
        exact ok_i ⟨rfl, f1.gf, h1⟩
      · have h0 := h.t0 (v := 0)
        show Ok (fX12_later T M m (nI l) (nI n)) _
        unfold fX12_later
        rw [h0.rm.k, gdI, lte, r_lane1 h0 hl, Option.bind_some, if_neg (by decide), L_0, L_999, r_in1 (by omega) (by omega) (by omega), Option.bind_some, if_neg (by decide)]
        refine Ok.bd (r_laysAhead h0 (by omega)) (fun p hq => ?_)
        obtain ⟨p1, M1⟩ := p
        obtain ⟨d1, f1, h1⟩ := hq
        rw [une2]
        refine Ok.bd (r_pipT h1 hl d1) (fun p hq => ?_)
        obtain ⟨p1, M2⟩ := p
        obtain ⟨rfl, f2⟩ := hq
        rw [une2, b2_if]
        exact ok_i ⟨rfl, ((r_t0.trans f1).trans (f2.wide (fun _ _ => wf_nf))).qf (fun _ _ => nf_qf)⟩
    · refine ⟨-3, fun T M h => ?_, fun T M h => ?_⟩
      · show Ok (fX11_later T M x (nI l) b) _
        unfold fX11_later
        rw [c_lane1 h hl, h.px.k0, gdI, Option.bind_some, if_pos rfl, i_999, rng0' (by omega) hn]
        exact ok_i ⟨rfl, GF.rfl, h⟩
      · have h0 := h.t0 (v := 0)
        show Ok (fX12_later T M m (nI l) b) _
        unfold fX12_later
        rw [h0.rm.k, gdI, lte, r_lane1 h0 hl, Option.bind_some, if_neg (by decide), L_0, L_999, r_in0 (by omega) (by omega) (by omega), Option.bind_some, if_pos rfl]
        exact ok_i ⟨rfl, r_t0.qf (fun _ _ => nf_qf)⟩
  · refine ⟨-2, fun T M h => ?_, fun T M h => ?_⟩
    · show Ok (fX11_later T M x a b) _
      unfold fX11_later
      rw [c_lane0 h hn, h.px.k0, gdI, Option.bind_some, if_neg (by decide)]
      exact ok_i ⟨rfl, GF.rfl, h⟩
    · have h0 := h.t0 (v := 0)
      show Ok (fX12_later T M m a b) _
      unfold fX12_later
      rw [h0.rm.k, gdI, lte, r_lane0 h0 hn, Option.bind_some, if_pos rfl]
      exact ok_i ⟨rfl, r_t0.qf (fun _ _ => nf_qf)⟩
theorem pipT_mod {t l : Nat} : pipT A (t % 100) l = pipT A t l := by unfold pipT eT; rw [Nat.mod_mod]
def hoP (A : Nat → Int32) (l n : Nat) : Bool := !pipT A (tmA A + n) l
theorem hoP_per {l n : Nat} : hoP A l (n % 100) = hoP A l n := by
  unfold hoP
  rw [← pipT_mod, ← pipT_mod (t := tmA A + n), show (tmA A + n % 100) % 100 = (tmA A + n) % 100 by omega]
theorem q_holds (hL : LV A) (a : Int32) : QQ x m A (fun T M => fX11_holds T M x a) (fun T M => fX12_holds T M m a) := by
  have h6 := hL.b3
  rcases ix_I a (nlA A) (by omega) with ⟨l, hl, rfl⟩ | hn
  · refine ⟨if fa_first (hoP A l) 100 < 100 then nI (fa_first (hoP A l) 100) else -1, fun T M h => ?_, fun T M h => ?_⟩
    · show Ok (fX11_holds T M x (nI l)) _
      unfold fX11_holds
      rw [c_lane1 h hl, h.px.k0, gdI, Option.bind_some, if_pos rfl]
      refine Ok.bd (ok_forF (s := ((0 : Int32), M)) 0 100 (fun i s => ∃ M', s = (nI i, M') ∧ (∀ j, j < i → hoP A l j = false) ∧ PF x M M' ∧ CV x A T M') (fun r => ∃ M', ((fa_first (hoP A l) 100 < 100 ∧ r = Sum.inl (nI (fa_first (hoP A l) 100), M')) ∨ (¬ fa_first (hoP A l) 100 < 100 ∧ r = Sum.inr M')) ∧ PF x M M' ∧ CV x A T M') ⟨M, rfl, fun j hj => absurd hj (by omega), PF.rfl, h⟩ (by omega) (by omega) (fun i s _ hi hI => ?_) (fun s hI => ?_)) (fun r hr => ?_)
      · obtain ⟨M', rfl, hn, f, h'⟩ := hI
        show Ok (bX11_holds_13 T x (nI l) (nI i) M') _
        unfold bX11_holds_13
        rw [i_100, if_neg (by rw [c_le (by omega) (by omega)]; omega), h'.px.k0, gdI]
        refine Ok.bd (c_passesLater h' hl (by omega)) (fun p hq => ?_)
        obtain ⟨p1, M1⟩ := p
        obtain ⟨rfl, f1, h1⟩ := hq
        simp only [une2, lte, nI_1]
        cases hb : pipT A (tmA A + i) l
        · rw [if_pos (b2_ne.mpr rfl)]
          have e : hoP A l i = true := by unfold hoP; rw [hb]; rfl
          refine ok_i ⟨M1, Or.inl ?_, f.trans f1, h1⟩
          rw [first_of hn e hi]
          exact ⟨hi, rfl⟩
        · rw [if_neg (fun z => absurd (b2_ne.mp z) (by decide))]
          have e : hoP A l i = false := by unfold hoP; rw [hb]; rfl
          refine ok_i ⟨M1, rfl, fun j hj => ?_, f.trans f1, h1⟩
          rcases Nat.lt_or_ge j i with q | q
          · exact hn j q
          · rw [show j = i by omega]; exact e
      · obtain ⟨M', rfl, hn, f, h'⟩ := hI
        show Ok (bX11_holds_13 T x (nI l) (nI 100) M') _
        unfold bX11_holds_13
        rw [i_100, if_pos (by decide)]
        refine ok_i ⟨M', Or.inr ⟨?_, rfl⟩, f, h'⟩
        rw [first_none hn]; omega
      · obtain ⟨M', hr, f, h'⟩ := hr
        rcases hr with ⟨q, rfl⟩ | ⟨q, rfl⟩
        · rw [if_pos q]; exact ok_i ⟨rfl, f.gf, h'⟩
        · rw [if_neg q]; exact ok_i ⟨rfl, f.gf, h'⟩
    · have h0 := h.t0 (v := 0)
      show Ok (fX12_holds T M m (nI l)) _
      unfold fX12_holds
      rw [h0.rm.k, gdI, lte, r_lane1 h0 hl, Option.bind_some, if_neg (by decide)]
      refine Ok.bd (ok_forF (s := ((0 : Int32), pI M m 0 0)) 0 1000 (fun i s => ∃ M', s = (nI i, M') ∧ (∀ j, j < i → hoP A l j = false) ∧ FI m (nf m) M M' ∧ RV m A T M') (fun r => ∃ M', ((fa_first (hoP A l) 100 < 100 ∧ r = Sum.inl (nI (fa_first (hoP A l) 100), M')) ∨ (¬ fa_first (hoP A l) 100 < 100 ∧ r = Sum.inr M')) ∧ FI m (nf m) M M') ⟨_, rfl, fun j hj => absurd hj (by omega), r_t0, h0⟩ (by omega) (by omega) (fun i s _ hi hI => ?_) (fun s hI => ?_)) (fun r hr => ?_)
      · obtain ⟨M', rfl, hn, f, h'⟩ := hI
        show Ok (bX12_holds_19 T m (nI l) (nI i) M') _
        unfold bX12_holds_19
        rw [i_999, if_neg (by rw [c_lt (by omega) (by omega)]; omega), h'.rm.k, gdI]
        refine Ok.bd (r_laysAhead h' (by omega)) (fun p hq => ?_)
        obtain ⟨p1, M1⟩ := p
        obtain ⟨d1, f1, h1⟩ := hq
        rw [une2]
        refine Ok.bd (r_pipT h1 hl d1) (fun p hq => ?_)
        obtain ⟨p1, M2⟩ := p
        obtain ⟨rfl, f2⟩ := hq
        have g2 := f2.wide (fun _ _ => wf_nf)
        simp only [une2, lte, nI_1]
        cases hb : pipT A (tmA A + i) l
        · rw [if_pos (b2_ne.mpr rfl)]
          have e : hoP A l i = true := by unfold hoP; rw [hb]; rfl
          have hi100 : i < 100 := by
            rcases Nat.lt_or_ge i 100 with q | q
            · exact q
            · have := hn (i % 100) (by omega)
              rw [hoP_per, e] at this
              exact absurd this (by decide)
          refine ok_i ⟨M2, Or.inl ?_, (f.trans f1).trans g2⟩
          rw [first_of hn e hi100]
          exact ⟨hi100, rfl⟩
        · rw [if_neg (fun z => absurd (b2_ne.mp z) (by decide))]
          have e : hoP A l i = false := by unfold hoP; rw [hb]; rfl
          refine ok_i ⟨M2, rfl, fun j hj => ?_, (f.trans f1).trans g2, h1.fi g2 (fun _ _ => nf_qf)⟩
          rcases Nat.lt_or_ge j i with q | q
          · exact hn j q
          · rw [show j = i by omega]; exact e
      · obtain ⟨M', rfl, hn, f, h'⟩ := hI
        show Ok (bX12_holds_19 T m (nI l) (nI 1000) M') _
        unfold bX12_holds_19
        rw [i_999, if_pos (by rw [c_lt (by omega) (by omega)]; omega)]
        refine ok_i ⟨M', Or.inr ⟨?_, rfl⟩, f⟩
        rw [first_none (fun j hj => hn j (by omega))]; omega
      · obtain ⟨M', hr, f⟩ := hr
        rcases hr with ⟨q, rfl⟩ | ⟨q, rfl⟩
        · rw [if_pos q]; exact ok_i ⟨rfl, f.qf (fun _ _ => nf_qf)⟩
        · rw [if_neg q]; exact ok_i ⟨rfl, f.qf (fun _ _ => nf_qf)⟩
  · refine ⟨-2, fun T M h => ?_, fun T M h => ?_⟩
    · show Ok (fX11_holds T M x a) _
      unfold fX11_holds
      rw [c_lane0 h hn, h.px.k0, gdI, Option.bind_some, if_neg (by decide)]
      exact ok_i ⟨rfl, GF.rfl, h⟩
    · have h0 := h.t0 (v := 0)
      show Ok (fX12_holds T M m a) _
      unfold fX12_holds
      rw [h0.rm.k, gdI, lte, r_lane0 h0 hn, Option.bind_some, if_pos rfl]
      exact ok_i ⟨rfl, r_t0.qf (fun _ _ => nf_qf)⟩
end
