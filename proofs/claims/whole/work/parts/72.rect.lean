/-! a map, how many cells, its largest rectangle -/
def mr (pm : Nat → Nat → Bool) (v : Nat) : Int32 := mk (pm v) 24
theorem mr_24 (pm : Nat → Nat → Bool) (v : Nat) : r24 (mr pm v) := r24_mk _
theorem bt_mr {pm : Nat → Nat → Bool} {v d : Nat} (hd : d < 24) : bt (mr pm v) d = pm v d := bt_mk24 hd
/-- what changes of the class: ints at P -/
def FX (P : Nat → Nat → Prop) (M M2 : Me) : Prop := (∀ a k, ¬ P a k → gI M2 a k = gI M a k) ∧ M2.2 = M.2
section
variable {P Q : Nat → Nat → Prop} {M M1 M2 : Me}
theorem FX.rfl : FX P M M := ⟨fun _ _ _ => Eq.refl _, Eq.refl _⟩
theorem FX.trans (h : FX P M M1) (h2 : FX P M1 M2) : FX P M M2 := ⟨fun a k p => (h2.1 a k p).trans (h.1 a k p), h2.2.trans h.2⟩
theorem FX.wide (h : FX P M M1) (k : ∀ a k, P a k → Q a k) : FX Q M M1 := ⟨fun a j p => h.1 a j (fun q => p (k a j q)), h.2⟩
theorem FX.pI {a k : Nat} {v : Int32} (h : FX P M M1) (hp : P a k) : FX P M (pI M1 a k v) := ⟨fun b j q => by
  rw [gI_pI, if_neg (show ¬ (b = a ∧ j = k) from fun z => q (by rw [z.1, z.2]; exact hp))]
  exact h.1 b j q, h.2⟩
theorem FX.r (h : FX P M M1) : M1.2.2 = M.2.2 := by rw [h.2]
theorem FX.hf {x : Nat} (h : FX P M M1) (k : ∀ a k, P a k → x + 18 ≤ a ∧ a ≤ x + 22 ∨ x + 66 ≤ a ∧ a ≤ x + 68) : HF x M M1 := ⟨fun a j q r => h.1 a j (fun z => by have := k a j z; omega), fun a j _ _ => by unfold gJ; rw [h.2], fun a j _ _ => by unfold gR; rw [h.2]⟩
end
theorem SW.eq {x : Nat} {M M2 : Me} (h : SW x M) (e : M2.2 = M.2) : SW x M2 := by
  unfold SW gJ gR at *
  rw [e]; exact h
theorem CV.fx {x : Nat} {A : Nat → Int32} {T : Sh} {M M2 : Me} {P : Nat → Nat → Prop} (h : CV x A T M) (f : FX P M M2) (k : ∀ a k, P a k → x + 18 ≤ a ∧ a ≤ x + 22 ∨ x + 66 ≤ a ∧ a ≤ x + 68) : CV x A T M2 := h.hf (f.hf k) (h.sw.eq f.2)
theorem MP.fx {a : Nat} {g : Nat → Int32} {P : Nat → Nat → Prop} {M M2 : Me} (h : MP a g M) (f : FX P M M2) (k : ∀ j, ¬ P a j) : MP a g M2 := fun v hv => (f.1 _ _ (k v)).trans (h v hv)
theorem MP.fi {a m : Nat} {g : Nat → Int32} {P : Nat → Nat → Prop} {M M2 : Me} (h : MP a g M) (f : FI m P M M2) (k : ∀ j, ¬ P a j) : MP a g M2 := fun v hv => (f.1 _ _ (k v)).trans (h v hv)
/-! how many -/
def ctm (pm : Nat → Nat → Bool) (n : Nat) : Nat := fb_sm (fun v => fb_ct (pm v) 24) n
theorem ctm_b (pm : Nat → Nat → Bool) : ctm pm 16 ≤ 384 := by
  have := fb_sm_bound (f := fun v => fb_ct (pm v) 24) (c := 24) (n := 16) (fun k _ => fb_ct_le _ _)
  unfold ctm; omega
theorem c_cells {x : Nat} {pm : Nat → Nat → Bool} {T : Sh} {M : Me} (hp : PX x T M) (hg : MP (x + 20) (mr pm) M) : fX7_cells T M (x + 19) = some (nI (ctm pm 16)) := by
  suffices key : lp FU (fun s => bX7_cells_4 T M (x + 19) s.1 s.2) ((0 : Int32), (0 : Int32)) = some (nI (ctm pm 16)) by
    unfold fX7_cells
    rw [key]; rfl
  refine lp_itG (fun i => (nI (ctm pm i), nI i)) 16 _ rfl (by omega) (fun i hi => ?_) ?_
  · show bX7_cells_4 T M (x + 19) (nI (ctm pm i)) (nI i) = _
    unfold bX7_cells_4
    simp (disch := omega) only [gdI, gdT, Option.bind_some, lte, une2, une3, nI_add, gvI, cl_nI, c_le, c_lt, c_eq, Sum.elim_inl, Sum.elim_inr, hp.k19, hp.k20, hp.l20, hp.k21, hp.l21, hp.k22, hp.l22, hp.r19_0, hp.r19_1, hp.r19_2, i_16, Nat.not_le.mpr hi, if_false, nI_1, hg i hi]
    rw [show mr pm i = mk (pm i) 24 from rfl, bitCount_mk (by omega)]
    simp only [Option.bind_some, nI_add]
    rfl
  · show bX7_cells_4 T M (x + 19) (nI (ctm pm 16)) (nI 16) = _
    unfold bX7_cells_4
    rw [i_16, if_pos (by decide)]
theorem r_areaNow {m : Nat} {pm : Nat → Nat → Bool} {T : Sh} {M : Me} (hM : RM m T M) (hg : MP (m + 7) (mr pm) M) : fX12_areaNow T M m = some (nI (ctm pm 16)) := by
  suffices key : lp FU (fun s => bX12_areaNow_4 T M m s.1 s.2) ((0 : Int32), (0 : Int32)) = some (nI (ctm pm 16)) by
    unfold fX12_areaNow
    rw [key]; rfl
  refine lp_itG (fun i => (nI (ctm pm i), nI i)) 16 _ rfl (by omega) (fun i hi => ?_) ?_
  · show bX12_areaNow_4 T M m (nI (ctm pm i)) (nI i) = _
    unfold bX12_areaNow_4
    simp (disch := omega) only [gdI, gdT, Option.bind_some, lte, une2, une3, nI_add, gvI, cl_nI, c_le, c_lt, c_eq, Sum.elim_inl, Sum.elim_inr, hM.k, hM.r7, hM.k7, hM.l7, i_16, Nat.not_le.mpr hi, if_false, nI_1, hg i hi]
    rw [show mr pm i = mk (pm i) 24 from rfl, bitsOf_mk (by omega)]
    simp only [Option.bind_some, nI_add]
    rfl
  · show bX12_areaNow_4 T M m (nI (ctm pm 16)) (nI 16) = _
    unfold bX12_areaNow_4
    rw [i_16, if_pos (by decide)]
/-! the largest rectangle: how many, left, right, low, high -/
def rset (g : Nat → Int32) (fr : Nat) : Nat → Int32
  | 0 => 16777215
  | k + 1 => rset g fr k &&& g (fr + k)
def rbest (g : Nat → Int32) (fr : Nat) : Nat → Nat × Nat × Nat × Nat × Nat → Nat × Nat × Nat × Nat × Nat
  | 0, r => r
  | k + 1, r => if (rbest g fr k r).1 < lgn (bt (rset g fr (k + 1))) * (k + 1) then (lgn (bt (rset g fr (k + 1))) * (k + 1), lgf (bt (rset g fr (k + 1))), lgf (bt (rset g fr (k + 1))) + lgn (bt (rset g fr (k + 1))) - 1, fr, fr + k) else rbest g fr k r
def rall (g : Nat → Int32) : Nat → Nat × Nat × Nat × Nat × Nat
  | 0 => (0, 0, 0, 0, 0)
  | f + 1 => rbest g f (16 - f) (rall g f)
def RB (r : Nat × Nat × Nat × Nat × Nat) : Prop := r.1 ≤ 384 ∧ (0 < r.1 → r.2.1 ≤ r.2.2.1 ∧ r.2.2.1 < 24 ∧ r.2.2.2.1 ≤ r.2.2.2.2 ∧ r.2.2.2.2 < 16)
theorem rset_24 {g : Nat → Int32} {fr : Nat} : ∀ k, r24 (rset g fr k)
  | 0 => r24_full
  | k + 1 => r24_and (rset_24 k)
theorem lgf_b {b : Nat → Bool} (h : 0 < lgn b) : lgf b + lgn b ≤ 24 := by
  obtain ⟨_, _, _, h6⟩ := lgst_spec b 24
  rcases h6 with z | ⟨z1, _, _⟩
  · have : lgn b = 0 := z
    omega
  · exact z1
theorem rbest_b {g : Nat → Int32} {fr : Nat} {r : Nat × Nat × Nat × Nat × Nat} (hr : RB r) : ∀ k, fr + k ≤ 16 → RB (rbest g fr k r)
  | 0, _ => hr
  | k + 1, hk => by
    have ih := rbest_b (g := g) (fr := fr) hr k (by omega)
    rw [rbest]
    have hw := lgn_le (bt (rset g fr (k + 1)))
    by_cases h : (rbest g fr k r).1 < lgn (bt (rset g fr (k + 1))) * (k + 1)
    · rw [if_pos h]
      have h1 : lgn (bt (rset g fr (k + 1))) * (k + 1) ≤ 24 * 16 := Nat.mul_le_mul hw (by omega)
      refine ⟨h1, fun h0 => ?_⟩
      have hp : 0 < lgn (bt (rset g fr (k + 1))) := Nat.pos_of_mul_pos_right h0
      have hf := lgf_b hp
      exact ⟨by show lgf _ ≤ lgf _ + lgn _ - 1; omega, by show lgf _ + lgn _ - 1 < 24; omega, by show fr ≤ fr + k; omega, by show fr + k < 16; omega⟩
    · rw [if_neg h]; exact ih
theorem rall_b (g : Nat → Int32) : ∀ f, f ≤ 16 → RB (rall g f)
  | 0, _ => ⟨Nat.zero_le _, fun h => absurd h (Nat.lt_irrefl 0)⟩
  | f + 1, hf => rbest_b (rall_b g f (by omega)) (16 - f) (by omega)
theorem lgn_0 : lgn (bt 0) = 0 := lgn_of (fun s _ h => by have := h 0 (by omega); rw [b_0] at this; exact absurd this (by decide)) (Or.inl rfl)
theorem rset_0 {g : Nat → Int32} {fr k : Nat} (h : rset g fr k = 0) : ∀ j, rset g fr (k + j) = 0
  | 0 => h
  | j + 1 => by
    show rset g fr (k + j) &&& g (fr + (k + j)) = 0
    rw [rset_0 h j]
    apply b_ext
    intro i _
    rw [b_and, b_0]; rfl
theorem rbest_0 {g : Nat → Int32} {fr k : Nat} {r : Nat × Nat × Nat × Nat × Nat} (h : rset g fr k = 0) : ∀ j, rbest g fr (k + j) r = rbest g fr k r
  | 0 => rfl
  | j + 1 => by
    show rbest g fr (k + j + 1) r = _
    have e := rset_0 h (j + 1)
    rw [rbest, show k + j + 1 = k + (j + 1) by omega, e, lgn_0, Nat.zero_mul, if_neg (by omega)]
    exact rbest_0 h j
/-- the cells that hold a rectangle -/
def RC (a o : Nat) (r : Nat × Nat × Nat × Nat × Nat) (M : Me) : Prop := gI M a o = nI r.1 ∧ (0 < r.1 → gI M a (o + 1) = nI r.2.1 ∧ gI M a (o + 2) = nI r.2.2.1 ∧ gI M a (o + 3) = nI r.2.2.2.1 ∧ gI M a (o + 4) = nI r.2.2.2.2)
theorem c_rectIn {x fr : Nat} {g : Nat → Int32} {T : Sh} {M : Me} {r0 : Nat × Nat × Nat × Nat × Nat} (hp : PX x T M) (hg : MP (x + 20) g M) (hfr : fr < 16) (hr : RC (x + 19) 5 r0 M) (hb : RB r0) : Ok (lp FU (fun s => bX7_findRectangle_18 T (x + 19) (nI fr) s.1 s.2.1 s.2.2) ((16777215 : Int32), nI fr, M)) (fun M' => RC (x + 19) 5 (rbest g fr (16 - fr) r0) M' ∧ FX (fun a _ => a = x + 19) M M') := by
  refine ok_forF 0 (16 - fr) (fun k s => ∃ M', s = (rset g fr k, nI (fr + k), M') ∧ RC (x + 19) 5 (rbest g fr k r0) M' ∧ FX (fun a _ => a = x + 19) M M') _ ⟨M, rfl, hr, FX.rfl⟩ (by omega) (by omega) (fun k s _ hk hI => ?_) (fun s hI => ?_)
  · obtain ⟨M', rfl, hc, f⟩ := hI
    have hp' : PX x T M' := hp.eq f.r
    have hg' : MP (x + 20) g M' := hg.fx f (fun j => by omega)
    show Ok (bX7_findRectangle_18 T (x + 19) (nI fr) (rset g fr k) (nI (fr + k)) M') _
    unfold bX7_findRectangle_18
    rw [i_16, if_neg (by rw [c_le (by omega) (by omega)]; omega)]
    by_cases hz : rset g fr k = 0
    · rw [if_pos hz]
      refine ok_i ⟨?_, f⟩
      rw [show 16 - fr = k + (16 - fr - k) by omega, rbest_0 hz]
      exact hc
    · rw [if_neg hz]
      have hw := lgn_le (bt (rset g fr (k + 1)))
      have hbk := rbest_b (g := g) (fr := fr) hb k (by omega)
      have hmul : lgn (bt (rset g fr (k + 1))) * (k + 1) ≤ 24 * 16 := Nat.mul_le_mul hw (by omega)
      simp (disch := omega) only [gdI, gdT, Option.bind_some, lte, une2, une3, nI_add, gvI, cl_nI, c_le, c_lt, c_eq, Sum.elim_inl, Sum.elim_inr, hp'.k19, hp'.k20, hp'.l20, hp'.k21, hp'.l21, hp'.k22, hp'.l22, hp'.r19_0, hp'.r19_1, hp'.r19_2, hg' (fr + k) (by omega)]
      rw [show rset g fr k &&& g (fr + k) = rset g fr (k + 1) from rfl, longest_at (rset_24 _)]
      simp only [Option.bind_some]
      rw [c_sub (by omega), show fr + k - fr = k by omega, nI_1, c_mul, hc.1, ite_le (by omega) (by have := hbk.1; omega)]
      have e1 : rbest g fr (k + 1) r0 = if (rbest g fr k r0).1 < lgn (bt (rset g fr (k + 1))) * (k + 1) then (lgn (bt (rset g fr (k + 1))) * (k + 1), lgf (bt (rset g fr (k + 1))), lgf (bt (rset g fr (k + 1))) + lgn (bt (rset g fr (k + 1))) - 1, fr, fr + k) else rbest g fr k r0 := rfl
      by_cases hle : lgn (bt (rset g fr (k + 1))) * (k + 1) ≤ (rbest g fr k r0).1
      · rw [if_pos hle]
        rw [if_neg (by omega)] at e1
        simp only [nI_1]
        refine ok_i ⟨M', rfl, ?_, f⟩
        rw [e1]; exact hc
      · rw [if_neg hle]
        rw [if_pos (by omega)] at e1
        have hpos : 0 < lgn (bt (rset g fr (k + 1))) := Nat.pos_of_mul_pos_right (show 0 < lgn (bt (rset g fr (k + 1))) * (k + 1) by omega)
        have hf := lgf_b hpos
        rw [firstRun_at hpos]
        simp (disch := omega) only [Option.bind_some, mII1, mIIk, nI_add, nI_1]
        rw [i_1, c_sub (by omega)]
        refine ok_i ⟨_, rfl, ?_, ((((f.pI rfl).pI rfl).pI rfl).pI rfl).pI rfl⟩
        rw [e1]
        refine ⟨?_, fun _ => ⟨?_, ?_, ?_, ?_⟩⟩ <;> simp (disch := omega) only [mII1, mIIk]
  · obtain ⟨M', rfl, hc, f⟩ := hI
    show Ok (bX7_findRectangle_18 T (x + 19) (nI fr) _ (nI (fr + (16 - fr))) M') _
    unfold bX7_findRectangle_18
    rw [i_16, if_pos (by rw [c_le (by omega) (by omega)]; omega)]
    exact ok_i ⟨hc, f⟩
theorem c_findRect {x : Nat} {g : Nat → Int32} {T : Sh} {M : Me} (hp : PX x T M) (hg : MP (x + 20) g M) : Ok (fX7_findRectangle T M (x + 19)) (fun p => RC (x + 19) 5 (rall g 16) p.2 ∧ FX (fun a _ => a = x + 19) M p.2) := by
  unfold fX7_findRectangle
  simp only [gdI, gdT, Option.bind_some, lte, une2, une3, nI_add, gvI, cl_nI, c_le, c_lt, c_eq, Sum.elim_inl, Sum.elim_inr, hp.k19]
  refine Ok.bd (ok_forF (s := ((0 : Int32), pI M (x + 19) 5 0)) 0 16 (fun i s => ∃ M', s = (nI i, M') ∧ RC (x + 19) 5 (rall g i) M' ∧ FX (fun a _ => a = x + 19) M M') (fun M' => RC (x + 19) 5 (rall g 16) M' ∧ FX (fun a _ => a = x + 19) M M') ⟨_, rfl, ⟨by rw [mII1]; rfl, fun h => absurd h (Nat.lt_irrefl 0)⟩, FX.rfl.pI rfl⟩ (by omega) (by omega) (fun i s _ hi hI => ?_) (fun s hI => ?_)) (fun p hq => ok_i hq)
  · obtain ⟨M', rfl, hc, f⟩ := hI
    show Ok (bX7_findRectangle_7 T (x + 19) (nI i) M') _
    unfold bX7_findRectangle_7
    rw [i_16, if_neg (by rw [c_le (by omega) (by omega)]; omega)]
    refine Ok.bd (c_rectIn (hp.eq f.r) (hg.fx f (fun j => by omega)) hi hc (rall_b g i (by omega))) (fun M2 hq => ?_)
    simp only [lte, nI_1]
    exact ok_i ⟨M2, rfl, hq.1, f.trans hq.2⟩
  · obtain ⟨M', rfl, hc, f⟩ := hI
    show Ok (bX7_findRectangle_7 T (x + 19) (nI 16) M') _
    unfold bX7_findRectangle_7
    rw [i_16, if_pos (by decide)]
    exact ok_i ⟨hc, f⟩
theorem i_sub1a (a b : Int32) : a - b + 1 = a + 1 - b := by
  rw [Int32.sub_eq_add_neg, Int32.sub_eq_add_neg, Int32.add_assoc, Int32.add_comm (-b) 1, ← Int32.add_assoc]
theorem r_longestIn {m : Nat} {x : Int32} {T : Sh} {M : Me} (hM : RM m T M) : Ok (fX12_longestIn T M m x) (fun p => p.1 = nI (lgn (bt x)) ∧ (gI p.2 m 28 = if lgn (bt x) = 0 then (-1 : Int32) else nI (lgf (bt x))) ∧ FI m (fun a k => a = m ∧ k = 28) M p.2) := by
  unfold fX12_longestIn
  simp only [gdI, gdT, Option.bind_some, lte, une2, une3, nI_add, gvI, cl_nI, c_le, c_lt, c_eq, Sum.elim_inl, Sum.elim_inr, hM.k]
  refine Ok.bd (ok_forF (s := ((0 : Int32), (0 : Int32), (0 : Int32), pI M m 28 (-1))) 0 24 (fun i s => ∃ M', s = (nI (lgst (bt x) i).1, nI (lgst (bt x) i).2.1, nI i, M') ∧ (gI M' m 28 = if (lgst (bt x) i).1 = 0 then (-1 : Int32) else nI (lgst (bt x) i).2.2) ∧ FI m (fun a k => a = m ∧ k = 28) M M') (fun p => p.1 = nI (lgn (bt x)) ∧ (gI p.2 m 28 = if lgn (bt x) = 0 then (-1 : Int32) else nI (lgf (bt x))) ∧ FI m (fun a k => a = m ∧ k = 28) M p.2) ⟨_, rfl, by rw [mII1]; rfl, FI.rfl.pI ⟨rfl, rfl⟩⟩ (by omega) (by omega) (fun i s _ hi hI => ?_) (fun s hI => ?_)) (fun p hq => ok_i hq)
  · obtain ⟨M', rfl, hc, f⟩ := hI
    obtain ⟨⟨s1, _, _⟩, _, ⟨s2, s3⟩, _⟩ := lgst_spec (bt x) i
    show Ok (bX12_longestIn_12 T m x (nI (lgst (bt x) i).1) (nI (lgst (bt x) i).2.1) (nI i) M') _
    unfold bX12_longestIn_12
    rw [i_24, if_neg (by rw [c_le (by omega) (by omega)]; omega), isIn_at x (by omega)]
    simp only [Option.bind_some]
    have hj : ∀ n', (if bt x i = true then (lgst (bt x) i).2.1 + 1 else 0) = n' → n' ≤ i + 1 → Ok (jX12_longestIn_36 T M' m x (nI (lgst (bt x) i).1) (nI i) (nI n')) (fun o => match o with
        | Sum.inl s' => ∃ M', s' = (nI (lgst (bt x) (i + 1)).1, nI (lgst (bt x) (i + 1)).2.1, nI (i + 1), M') ∧ (gI M' m 28 = if (lgst (bt x) (i + 1)).1 = 0 then (-1 : Int32) else nI (lgst (bt x) (i + 1)).2.2) ∧ FI m (fun a k => a = m ∧ k = 28) M M'
        | Sum.inr p => p.1 = nI (lgn (bt x)) ∧ (gI p.2 m 28 = if lgn (bt x) = 0 then (-1 : Int32) else nI (lgf (bt x))) ∧ FI m (fun a k => a = m ∧ k = 28) M p.2) := by
      intro n' en hn'
      unfold jX12_longestIn_36
      rw [ite_lt (by omega) (by omega)]
      by_cases hlt : (lgst (bt x) i).1 < n'
      · have e1 : lgst (bt x) (i + 1) = (n', n', i + 1 - n') := by rw [lgst, en, if_pos hlt]
        rw [if_pos hlt, e1]
        simp only [gdI, gdT, Option.bind_some, lte, une2, une3, nI_add, gvI, cl_nI, c_le, c_lt, c_eq, Sum.elim_inl, Sum.elim_inr, hM.k, nI_1, i_sub1a]
        rw [c_sub hn']
        refine ok_i ⟨_, rfl, ?_, f.pI ⟨rfl, rfl⟩⟩
        rw [mII1, if_neg (by omega)]
      · have e1 : lgst (bt x) (i + 1) = ((lgst (bt x) i).1, n', (lgst (bt x) i).2.2) := by rw [lgst, en, if_neg hlt]
        rw [if_neg hlt, e1]
        simp only [lte, nI_1]
        exact ok_i ⟨M', rfl, hc, f⟩
    cases hb : bt x i
    · rw [if_pos (b2_ne.mpr rfl)]
      rw [← nI_0]
      exact (hj 0 (by simp [hb]) (by omega)).mono (fun o ho => by cases o <;> exact ho)
    · rw [if_neg (fun z => absurd (b2_ne.mp z) (by decide)), nI_1]
      exact (hj ((lgst (bt x) i).2.1 + 1) (by simp [hb]) (by omega)).mono (fun o ho => by cases o <;> exact ho)
  · obtain ⟨M', rfl, hc, f⟩ := hI
    show Ok (bX12_longestIn_12 T m x _ _ (nI 24) M') _
    unfold bX12_longestIn_12
    rw [i_24, if_pos (by decide)]
    exact ok_i ⟨rfl, hc, f⟩
def rf (m a k : Nat) : Prop := a = m ∧ (k = 21 ∨ k = 22 ∨ k = 23 ∨ k = 24 ∨ k = 25 ∨ k = 28)
theorem rf_qf {m a k : Nat} (h : rf m a k) : sq m a k := by unfold rf at h; unfold sq; omega
theorem r_rectIn {m fr : Nat} {g : Nat → Int32} {T : Sh} {M : Me} {r0 : Nat × Nat × Nat × Nat × Nat} (hM : RM m T M) (hg : MP (m + 7) g M) (hfr : fr < 16) (hr : RC m 21 r0 M) (hb : RB r0) : Ok (lp FU (fun s => bX12_laysRectangle_19 T m (nI fr) s.1 s.2.1 s.2.2) ((16777215 : Int32), nI fr, M)) (fun M' => RC m 21 (rbest g fr (16 - fr) r0) M' ∧ FI m (rf m) M M') := by
  refine ok_forF 0 (16 - fr) (fun k s => ∃ M', s = (rset g fr k, nI (fr + k), M') ∧ RC m 21 (rbest g fr k r0) M' ∧ FI m (rf m) M M') _ ⟨M, rfl, hr, FI.rfl⟩ (by omega) (by omega) (fun k s _ hk hI => ?_) (fun s hI => ?_)
  · obtain ⟨M', rfl, hc, f⟩ := hI
    have hM' : RM m T M' := hM.fr (fun k => f.2.2 m k (by omega))
    have hg' : MP (m + 7) g M' := hg.fi f (fun j => by unfold rf; omega)
    show Ok (bX12_laysRectangle_19 T m (nI fr) (rset g fr k) (nI (fr + k)) M') _
    unfold bX12_laysRectangle_19
    rw [i_16, if_neg (by rw [c_le (by omega) (by omega)]; omega)]
    have hw := lgn_le (bt (rset g fr (k + 1)))
    have hbk := rbest_b (g := g) (fr := fr) hb k (by omega)
    have hmul : lgn (bt (rset g fr (k + 1))) * (k + 1) ≤ 24 * 16 := Nat.mul_le_mul hw (by omega)
    simp (disch := omega) only [gdI, gdT, Option.bind_some, lte, une2, une3, nI_add, gvI, cl_nI, c_le, c_lt, c_eq, Sum.elim_inl, Sum.elim_inr, hM'.k, hM'.r7, hM'.k7, hM'.l7, hg' (fr + k) (by omega)]
    rw [show rset g fr k &&& g (fr + k) = rset g fr (k + 1) from rfl]
    refine Ok.bd (r_longestIn hM') (fun p hq => ?_)
    obtain ⟨p1, M2⟩ := p
    obtain ⟨rfl, h28, f2⟩ := hq
    simp only [une2]
    have hc1 : gI M2 m 21 = nI (rbest g fr k r0).1 := (f2.1 _ _ (by omega)).trans hc.1
    have f3 : FI m (rf m) M M2 := f.trans (f2.wide (fun a k q => by unfold rf; omega))
    rw [c_sub (by omega), show fr + k - fr = k by omega, nI_1, c_mul, hc1, ite_lt (by have := hbk.1; omega) (by omega)]
    have e1 : rbest g fr (k + 1) r0 = if (rbest g fr k r0).1 < lgn (bt (rset g fr (k + 1))) * (k + 1) then (lgn (bt (rset g fr (k + 1))) * (k + 1), lgf (bt (rset g fr (k + 1))), lgf (bt (rset g fr (k + 1))) + lgn (bt (rset g fr (k + 1))) - 1, fr, fr + k) else rbest g fr k r0 := rfl
    by_cases hlt : (rbest g fr k r0).1 < lgn (bt (rset g fr (k + 1))) * (k + 1)
    · rw [if_pos hlt]
      rw [if_pos hlt] at e1
      have hpos : 0 < lgn (bt (rset g fr (k + 1))) := Nat.pos_of_mul_pos_right (show 0 < lgn (bt (rset g fr (k + 1))) * (k + 1) by omega)
      have hf := lgf_b hpos
      rw [if_neg (by omega)] at h28
      simp (disch := omega) only [lte, mII1, mIIk, h28, nI_add, nI_1]
      rw [i_1, c_sub (by omega)]
      refine ok_i ⟨_, rfl, ?_, ((((f3.pI ⟨rfl, by omega⟩).pI ⟨rfl, by omega⟩).pI ⟨rfl, by omega⟩).pI ⟨rfl, by omega⟩).pI ⟨rfl, by omega⟩⟩
      rw [e1]
      refine ⟨?_, fun _ => ⟨?_, ?_, ?_, ?_⟩⟩ <;> simp (disch := omega) only [mII1, mIIk]
    · rw [if_neg hlt]
      rw [if_neg hlt] at e1
      simp only [lte, nI_1]
      refine ok_i ⟨M2, rfl, ?_, f3⟩
      rw [e1]
      refine ⟨hc1, fun h0 => ?_⟩
      obtain ⟨q1, q2, q3, q4⟩ := hc.2 h0
      exact ⟨(f2.1 _ _ (by omega)).trans q1, (f2.1 _ _ (by omega)).trans q2, (f2.1 _ _ (by omega)).trans q3, (f2.1 _ _ (by omega)).trans q4⟩
  · obtain ⟨M', rfl, hc, f⟩ := hI
    show Ok (bX12_laysRectangle_19 T m (nI fr) _ (nI (fr + (16 - fr))) M') _
    unfold bX12_laysRectangle_19
    rw [i_16, if_pos (by rw [c_le (by omega) (by omega)]; omega)]
    exact ok_i ⟨hc, f⟩
theorem r_laysRect {m : Nat} {g : Nat → Int32} {T : Sh} {M : Me} (hM : RM m T M) (hg : MP (m + 7) g M) : Ok (fX12_laysRectangle T M m) (fun p => RC m 21 (rall g 16) p.2 ∧ FI m (rf m) M p.2) := by
  unfold fX12_laysRectangle
  simp only [gdI, gdT, Option.bind_some, lte, une2, une3, nI_add, gvI, cl_nI, c_le, c_lt, c_eq, Sum.elim_inl, Sum.elim_inr, hM.k]
  refine Ok.bd (ok_forF (s := ((0 : Int32), pI M m 21 0)) 0 16 (fun i s => ∃ M', s = (nI i, M') ∧ RC m 21 (rall g i) M' ∧ FI m (rf m) M M') (fun M' => RC m 21 (rall g 16) M' ∧ FI m (rf m) M M') ⟨_, rfl, ⟨by rw [mII1]; rfl, fun h => absurd h (Nat.lt_irrefl 0)⟩, FI.rfl.pI ⟨rfl, by omega⟩⟩ (by omega) (by omega) (fun i s _ hi hI => ?_) (fun s hI => ?_)) (fun p hq => ok_i hq)
  · obtain ⟨M', rfl, hc, f⟩ := hI
    show Ok (bX12_laysRectangle_7 T m (nI i) M') _
    unfold bX12_laysRectangle_7
    rw [i_16, if_neg (by rw [c_le (by omega) (by omega)]; omega)]
    refine Ok.bd (r_rectIn (hM.fr (fun k => f.2.2 m k (by omega))) (hg.fi f (fun j => by unfold rf; omega)) hi hc (rall_b g i (by omega))) (fun M2 hq => ?_)
    simp only [lte, nI_1]
    exact ok_i ⟨M2, rfl, hq.1, f.trans hq.2⟩
  · obtain ⟨M', rfl, hc, f⟩ := hI
    show Ok (bX12_laysRectangle_7 T m (nI 16) M') _
    unfold bX12_laysRectangle_7
    rw [i_16, if_pos (by decide)]
    exact ok_i ⟨hc, f⟩
def mid (r : Nat × Nat × Nat × Nat × Nat) : Nat := (r.2.2.2.1 + r.2.2.2.2) / 2 * 24 + (r.2.1 + r.2.2.1) / 2
theorem mid_b {r : Nat × Nat × Nat × Nat × Nat} (h : RB r) (h0 : 0 < r.1) : mid r < 384 := by
  obtain ⟨_, h2⟩ := h
  have := h2 h0
  unfold mid
  omega
theorem c_middle {x : Nat} {r : Nat × Nat × Nat × Nat × Nat} {T : Sh} {M : Me} (hp : PX x T M) (hc : RC (x + 19) 5 r M) (hb : RB r) (h0 : 0 < r.1) : fX7_middle T M (x + 19) = some (nI (mid r)) := by
  obtain ⟨q1, q2, q3, q4⟩ := hc.2 h0
  have hb := hb.2 h0
  unfold fX7_middle mid
  simp (disch := omega) only [gdI, gdT, Option.bind_some, lte, une2, une3, nI_add, gvI, cl_nI, c_le, c_lt, c_eq, Sum.elim_inl, Sum.elim_inr, hp.k19, q1, q2, q3, q4, i_2, i_24, c_div, c_mul]
theorem r_middle {m : Nat} {r : Nat × Nat × Nat × Nat × Nat} {T : Sh} {M : Me} (hM : RM m T M) (hc : RC m 21 r M) (hb : RB r) (h0 : 0 < r.1) : fX12_middleNow T M m = some (nI (mid r)) := by
  obtain ⟨q1, q2, q3, q4⟩ := hc.2 h0
  have hb := hb.2 h0
  unfold fX12_middleNow mid
  simp (disch := omega) only [gdI, gdT, Option.bind_some, lte, une2, une3, nI_add, gvI, cl_nI, c_le, c_lt, c_eq, Sum.elim_inl, Sum.elim_inr, hM.k, q1, q2, q3, q4, i_2, i_24, c_div, c_mul]
  rw [Nat.mul_comm]
theorem rbest_mono {g : Nat → Int32} {fr : Nat} {r : Nat × Nat × Nat × Nat × Nat} : ∀ k, r.1 ≤ (rbest g fr k r).1
  | 0 => Nat.le_refl _
  | k + 1 => by
    have ih := rbest_mono (g := g) (fr := fr) (r := r) k
    rw [rbest]
    by_cases h : (rbest g fr k r).1 < lgn (bt (rset g fr (k + 1))) * (k + 1)
    · rw [if_pos h]
      show r.1 ≤ lgn (bt (rset g fr (k + 1))) * (k + 1)
      omega
    · rw [if_neg h]; exact ih
theorem rbest_one {g : Nat → Int32} {fr : Nat} {r : Nat × Nat × Nat × Nat × Nat} : ∀ k, lgn (bt (rset g fr 1)) ≤ (rbest g fr (k + 1) r).1
  | 0 => by
    rw [rbest]
    show lgn (bt (rset g fr 1)) ≤ (if r.1 < lgn (bt (rset g fr 1)) * 1 then _ else r).1
    by_cases h : r.1 < lgn (bt (rset g fr 1)) * 1
    · rw [if_pos h]
      show lgn (bt (rset g fr 1)) ≤ lgn (bt (rset g fr 1)) * 1
      omega
    · rw [if_neg h]; omega
  | k + 1 => by
    have ih := rbest_one (g := g) (fr := fr) (r := r) k
    rw [rbest]
    by_cases h : (rbest g fr (k + 1) r).1 < lgn (bt (rset g fr (k + 1 + 1))) * (k + 1 + 1)
    · rw [if_pos h]
      show lgn (bt (rset g fr 1)) ≤ lgn (bt (rset g fr (k + 1 + 1))) * (k + 1 + 1)
      omega
    · rw [if_neg h]; exact ih
theorem rall_mono {g : Nat → Int32} {f : Nat} : ∀ j, (rall g f).1 ≤ (rall g (f + j)).1
  | 0 => Nat.le_refl _
  | j + 1 => Nat.le_trans (rall_mono j) (rbest_mono _)
theorem ctm_pos {pm : Nat → Nat → Bool} (h : ctm pm 16 ≠ 0) : ∃ v d, v < 16 ∧ d < 24 ∧ pm v d = true := by
  apply Classical.byContradiction
  intro hn
  apply h
  unfold ctm
  rw [fb_sm_cong (g := fun _ => 0) (fun v hv => ?_), fb_sm_const]
  · refine fb_ct_zero.mpr (fun d hd => ?_)
    cases e : pm v d
    · rfl
    · exact absurd ⟨v, d, hv, hd, e⟩ hn
theorem rall_pos {pm : Nat → Nat → Bool} (h : ctm pm 16 ≠ 0) : 0 < (rall (mr pm) 16).1 := by
  obtain ⟨v, d, hv, hd, e⟩ := ctm_pos h
  have h1 : 1 ≤ lgn (bt (rset (mr pm) v 1)) := by
    refine (lgst_spec (bt (rset (mr pm) v 1)) 24).2.1 d 1 (by omega) (fun i hi => ?_)
    rw [show d + i = d by omega]
    show bt ((16777215 : Int32) &&& mr pm (v + 0)) d = true
    rw [b_and, b_full d (by omega), Nat.add_zero, bt_mr hd, e]
    simp [hd]
  have h2 : lgn (bt (rset (mr pm) v 1)) ≤ (rall (mr pm) (v + 1)).1 := by
    show _ ≤ (rbest (mr pm) v (16 - v) (rall (mr pm) v)).1
    rw [show 16 - v = (15 - v) + 1 by omega]
    exact rbest_one _
  have h3 := rall_mono (g := mr pm) (f := v + 1) (15 - v)
  rw [show v + 1 + (15 - v) = 16 by omega] at h3
  omega
