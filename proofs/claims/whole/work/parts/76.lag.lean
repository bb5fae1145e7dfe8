/-! lag, harshest -/
section
variable {x m : Nat} {A : Nat → Int32} {T : Sh} {M M2 : Me}
theorem max_at {a b : Nat} (ha : a < 2147483648) (hb : b < 2147483648) : fJ9_max_7cf53 (nI a) (nI b) = some (nI (max a b)) := by
  unfold fJ9_max_7cf53
  rw [ite_lt ha hb]
  by_cases h : a < b
  · rw [if_pos h, Nat.max_eq_right (by omega)]
  · rw [if_neg h, Nat.max_eq_left (by omega)]
theorem min_at {a b : Nat} (ha : a < 2147483648) (hb : b < 2147483648) : fJ9_min_7cf53 (nI a) (nI b) = some (nI (min a b)) := by
  unfold fJ9_min_7cf53
  rw [ite_lt hb ha]
  by_cases h : b < a
  · rw [if_pos h, Nat.min_eq_right (by omega)]
  · rw [if_neg h, Nat.min_eq_left (by omega)]
def lgR (A : Nat → Int32) (k : Nat) : Nat × Nat × Nat × Nat × Nat := rall (mr (psd A (qA A) (eA A) k)) 16
def lgC (A : Nat → Int32) (k : Nat) : Nat := ((lgR A k).2.1 + (lgR A k).2.2.1) / 2
def mxC (A : Nat → Int32) : Nat → Nat
  | 0 => 0
  | i + 1 => max (mxC A i) (lgC A i)
def lgZ (A : Nat → Int32) (k : Nat) : Bool := decide ((lgR A k).1 = 0)
theorem lgR_b (A : Nat → Int32) (k : Nat) : RB (lgR A k) := rall_b _ 16 (Nat.le_refl _)
theorem lgC_b {k : Nat} (h : (lgR A k).1 ≠ 0) : lgC A k < 24 := by
  have := (lgR_b A k).2 (by omega)
  unfold lgC
  omega
theorem mxC_b : ∀ i, (∀ j, j < i → (lgR A j).1 ≠ 0) → mxC A i < 24
  | 0, _ => by show 0 < 24; omega
  | i + 1, h => by
    have h1 := mxC_b i (fun j hj => h j (by omega))
    have h2 := lgC_b (h i (by omega))
    show max (mxC A i) (lgC A i) < 24
    omega
theorem lgZ_not {i : Nat} : (∀ j, j < i → lgZ A j = false) → ∀ j, j < i → (lgR A j).1 ≠ 0 := fun h j hj e => by
  have := h j hj
  unfold lgZ at this
  rw [decide_eq_true e] at this
  exact absurd this (by decide)
theorem q_lag (hL : LV A) (a : Int32) : QQ x m A (fun T M => fX11_lag T M x a) (fun T M => fX12_lag T M m a) := by
  have h6 := hL.b3
  rcases ix_I a (nlA A) (by omega) with ⟨l, hl, rfl⟩ | hn
  · refine ⟨if fa_first (lgZ A) (nlA A) < nlA A then -1 else nI (mxC A (nlA A)) - nI (lgC A l), fun T M h => ?_, fun T M h => ?_⟩
    · show Ok (fX11_lag T M x (nI l)) _
      unfold fX11_lag
      rw [c_lane1 h hl, h.px.k0, gdI, Option.bind_some, if_pos rfl]
      refine Ok.bd (ok_forF (s := ((0 : Int32), (0 : Int32), (0 : Int32), M)) 0 (nlA A) (fun i s => ∃ M', s = (nI (if l < i then lgC A l else 0), nI (mxC A i), nI i, M') ∧ (∀ j, j < i → lgZ A j = false) ∧ GF x M M' ∧ CV x A T M') (fun r => ∃ M', ((fa_first (lgZ A) (nlA A) < nlA A ∧ r = Sum.inl M') ∨ (¬ fa_first (lgZ A) (nlA A) < nlA A ∧ r = Sum.inr (nI (lgC A l), nI (mxC A (nlA A)), M'))) ∧ GF x M M' ∧ CV x A T M') ⟨M, rfl, fun j hj => absurd hj (by omega), GF.rfl, h⟩ (by omega) (by omega) (fun i s _ hi hI => ?_) (fun s hI => ?_)) (fun r hr => ?_)
      · obtain ⟨M', rfl, hz, f, h'⟩ := hI
        have hp := h'.px
        obtain ⟨q, hq, hb⟩ := h'.lab
        show Ok (bX11_lag_18 T x (nI l) (nI (if l < i then lgC A l else 0)) (nI (mxC A i)) (nI i) M') _
        unfold bX11_lag_18
        simp (disch := omega) only [gdI, gdT, Option.bind_some, lte, une2, une3, nI_add, gvI, cl_nI, c_le, c_lt, c_eq, Sum.elim_inl, Sum.elim_inr, hp.k0, hp.k8, hp.k15, hp.l15, hp.k16, hp.l16, hp.k17, hp.l17, hp.k18, hp.l18, hp.r0_0, hp.r0_2, hp.r0_3, hp.r0_4, hp.r0_5, hp.r0_6, hp.r0_7, hp.r0_9, hp.r0_10, hp.r0_13, hp.r8_1, hp.r8_2, hp.r8_4, hp.r8_5, hq, hb.k, hb.f7, hL.n3, Nat.not_le.mpr hi, if_false]
        refine Ok.bd (c_look h' hi) (fun p hq => ?_)
        obtain ⟨p1, M1⟩ := p
        obtain ⟨m1, f1, h1⟩ := hq
        have hp1 := h1.px
        simp only [gdI, gdT, Option.bind_some, lte, une2, une3, nI_add, gvI, cl_nI, c_le, c_lt, c_eq, Sum.elim_inl, Sum.elim_inr, hp1.k0, hp1.k19, hp1.k20, hp1.l20, hp1.k21, hp1.l21, hp1.k22, hp1.l22, hp1.r0_0, hp1.r0_2, hp1.r0_3, hp1.r0_4, hp1.r0_5, hp1.r0_6, hp1.r0_7, hp1.r0_9, hp1.r0_10, hp1.r0_13, hp1.r19_0, hp1.r19_1, hp1.r19_2]
        refine Ok.bd (c_findRect hp1 (g := mr (psd A (qA A) (eA A) i)) m1) (fun p hq => ?_)
        obtain ⟨p1, M2⟩ := p
        obtain ⟨hc, f2⟩ := hq
        rw [show rall (mr (psd A (qA A) (eA A) i)) 16 = lgR A i from rfl] at hc
        have hp2 := hp1.eq f2.r
        have h2 : CV x A T M2 := h1.fx f2 (fun a k q => by omega)
        have fin : GF x M M2 := (f.trans f1.gf).trans (f2.hf (x := x) (fun a k q => by omega)).gf
        have hbd := lgR_b A i
        simp only [gdI, gdT, Option.bind_some, lte, une2, une3, nI_add, gvI, cl_nI, c_le, c_lt, c_eq, Sum.elim_inl, Sum.elim_inr, hp2.k0, hp2.k19, hp2.k20, hp2.l20, hp2.k21, hp2.l21, hp2.k22, hp2.l22, hp2.r0_0, hp2.r0_2, hp2.r0_3, hp2.r0_4, hp2.r0_5, hp2.r0_6, hp2.r0_7, hp2.r0_9, hp2.r0_10, hp2.r0_13, hp2.r19_0, hp2.r19_1, hp2.r19_2, hc.1]
        rw [i_0, ite_eq (by have := hbd.1; omega) (by omega)]
        by_cases e0 : (lgR A i).1 = 0
        · rw [if_pos e0]
          have e : lgZ A i = true := decide_eq_true e0
          refine ok_i ⟨M2, Or.inl ?_, fin, h2⟩
          rw [first_of hz e hi]; exact ⟨hi, rfl⟩
        · rw [if_neg e0, c_middle hp2 hc hbd (by omega)]
          have hmb := mid_b hbd (by omega)
          have hmm : mid (lgR A i) % 24 = lgC A i := by
            have := hbd.2 (by omega)
            unfold mid lgC
            omega
          have hcb := lgC_b e0
          have hxb := mxC_b i (lgZ_not hz)
          have e : lgZ A i = false := decide_eq_false e0
          have hz' : ∀ j, j < i + 1 → lgZ A j = false := fun j hj => by
            rcases Nat.lt_or_ge j i with q | q
            · exact hz j q
            · rw [show j = i by omega]; exact e
          simp (disch := omega) only [gdI, gdT, Option.bind_some, lte, une2, une3, nI_add, gvI, cl_nI, c_le, c_lt, c_eq, Sum.elim_inl, Sum.elim_inr, i_24, c_rem, hmm, max_at, nI_1]
          by_cases el : i = l
          · rw [if_pos el]
            refine ok_i ⟨M2, ?_, hz', fin, h2⟩
            rw [if_pos (by omega), el]; rfl
          · rw [if_neg el]
            refine ok_i ⟨M2, ?_, hz', fin, h2⟩
            have e9 : (if l < i + 1 then lgC A l else 0) = if l < i then lgC A l else 0 := by simp only [show (l < i + 1) = (l < i) from propext (by omega)]
            rw [e9]; rfl
      · obtain ⟨M', rfl, hz, f, h'⟩ := hI
        have hp := h'.px
        obtain ⟨q, hq, hb⟩ := h'.lab
        show Ok (bX11_lag_18 T x (nI l) _ _ (nI (nlA A)) M') _
        unfold bX11_lag_18
        simp (disch := omega) only [gdI, gdT, Option.bind_some, lte, une2, une3, nI_add, gvI, cl_nI, c_le, c_lt, c_eq, Sum.elim_inl, Sum.elim_inr, hp.k0, hp.k8, hp.k15, hp.l15, hp.k16, hp.l16, hp.k17, hp.l17, hp.k18, hp.l18, hp.r0_0, hp.r0_2, hp.r0_3, hp.r0_4, hp.r0_5, hp.r0_6, hp.r0_7, hp.r0_9, hp.r0_10, hp.r0_13, hp.r8_1, hp.r8_2, hp.r8_4, hp.r8_5, hq, hb.k, hb.f7, hL.n3, Nat.le_refl, if_true]
        refine ok_i ⟨M', Or.inr ⟨?_, ?_⟩, f, h'⟩
        · rw [first_none hz]; omega
        · rw [if_pos hl]
      · obtain ⟨M', hr, f, h'⟩ := hr
        rcases hr with ⟨q, rfl⟩ | ⟨q, rfl⟩
        · rw [if_pos q]; exact ok_i ⟨rfl, f, h'⟩
        · rw [if_neg q]; exact ok_i ⟨rfl, f, h'⟩
    · have h0 := h.t0 (v := 0)
      show Ok (fX12_lag T M m (nI l)) _
      unfold fX12_lag
      rw [h0.rm.k, gdI, lte, r_lane1 h0 hl, Option.bind_some, if_neg (by decide)]
      refine Ok.bd (ok_forF (s := ((-1 : Int32), (-1 : Int32), (0 : Int32), pI M m 0 0)) 0 (nlA A) (fun i s => ∃ M', s = ((if i = 0 then (-1 : Int32) else nI (mxC A i)), (if l < i then nI (lgC A l) else (-1 : Int32)), nI i, M') ∧ (∀ j, j < i → lgZ A j = false) ∧ QF m M M' ∧ RV m A T M') (fun r => ∃ M', ((fa_first (lgZ A) (nlA A) < nlA A ∧ r = Sum.inl M') ∨ (¬ fa_first (lgZ A) (nlA A) < nlA A ∧ r = Sum.inr (nI (mxC A (nlA A)), nI (lgC A l), M'))) ∧ QF m M M') ⟨_, rfl, fun j hj => absurd hj (by omega), r_t0.qf (fun _ _ => nf_qf), h0⟩ (by omega) (by omega) (fun i s _ hi hI => ?_) (fun s hI => ?_)) (fun r hr => ?_)
      · obtain ⟨M', rfl, hz, f, h'⟩ := hI
        have hM := h'.rm
        show Ok (bX12_lag_24 T m (nI l) (if i = 0 then (-1 : Int32) else nI (mxC A i)) (if l < i then nI (lgC A l) else (-1 : Int32)) (nI i) M') _
        unfold bX12_lag_24
        simp (disch := omega) only [gdI, gdT, Option.bind_some, lte, une2, une3, nI_add, gvI, cl_nI, c_le, c_lt, c_eq, Sum.elim_inl, Sum.elim_inr, hM.k, hM.r1, hM.k1, hM.l1, i_3, h'.al, hL.n3, Nat.not_le.mpr hi, if_false]
        refine Ok.bd (r_laysMapNow h' hi) (fun p hq => ?_)
        obtain ⟨p1, M1⟩ := p
        obtain ⟨m1, f1, h1, d1⟩ := hq
        rw [une2]
        refine Ok.bd (r_laysRect h1.rm (g := mr (psd A (qA A) (eA A) i)) m1) (fun p hq => ?_)
        obtain ⟨p1, M2⟩ := p
        obtain ⟨hc, f2⟩ := hq
        rw [show rall (mr (psd A (qA A) (eA A) i)) 16 = lgR A i from rfl] at hc
        have h2 : RV m A T M2 := h1.fi f2 (fun _ _ => rf_qf)
        have fin : QF m M M2 := (f.trans (f1.qf (fun _ _ => mf_qf))).trans (f2.qf (fun _ _ => rf_qf))
        have hbd := lgR_b A i
        simp only [une2, hc.1]
        rw [i_0, ite_eq (by have := hbd.1; omega) (by omega)]
        by_cases e0 : (lgR A i).1 = 0
        · rw [if_pos e0]
          have e : lgZ A i = true := decide_eq_true e0
          refine ok_i ⟨M2, Or.inl ?_, fin⟩
          rw [first_of hz e hi]; exact ⟨hi, rfl⟩
        · rw [if_neg e0]
          obtain ⟨q1, q2, _, _⟩ := hc.2 (by omega)
          have hrb := hbd.2 (by omega)
          have hcb := lgC_b e0
          have hxb := mxC_b i (lgZ_not hz)
          have e : lgZ A i = false := decide_eq_false e0
          have hz' : ∀ j, j < i + 1 → lgZ A j = false := fun j hj => by
            rcases Nat.lt_or_ge j i with q | q
            · exact hz j q
            · rw [show j = i by omega]; exact e
          simp (disch := omega) only [q1, q2, nI_add, i_2, c_div, lte, nI_1]
          rw [show ((lgR A i).2.1 + (lgR A i).2.2.1) / 2 = lgC A i from rfl]
          have hown : ∀ (own : Int32), (if i = l then nI (lgC A i) else if l < i then nI (lgC A l) else (-1 : Int32)) = own → own = if l < i + 1 then nI (lgC A l) else (-1 : Int32) := by
            intro own ho
            rw [← ho]
            by_cases el : i = l
            · rw [if_pos el, if_pos (by omega), el]
            · rw [if_neg el]
              simp only [show (l < i + 1) = (l < i) from propext (by omega)]
          have hmx : mxC A (i + 1) = max (mxC A i) (lgC A i) := rfl
          by_cases hle : nI (lgC A i) ≤ (if i = 0 then (-1 : Int32) else nI (mxC A i))
          · rw [if_pos hle]
            have hi0 : ¬ i = 0 := by
              intro z
              rw [if_pos z] at hle
              have := (fa_le _ _).mp hle
              rw [nI_toInt (by omega)] at this
              have e1 : (-1 : Int32).toInt = -1 := by decide
              omega
            rw [if_neg hi0] at hle ⊢
            rw [c_le (by omega) (by omega)] at hle
            have hm : mxC A i = mxC A (i + 1) := by rw [hmx]; omega
            by_cases el : i = l
            · rw [if_pos el]
              refine ok_i ⟨M2, ?_, hz', fin, h2⟩
              rw [← hown _ (if_pos el), ← hm, if_neg (show ¬ i + 1 = 0 by omega)]
            · rw [if_neg el]
              refine ok_i ⟨M2, ?_, hz', fin, h2⟩
              rw [← hown _ (if_neg el), ← hm, if_neg (show ¬ i + 1 = 0 by omega)]
          · rw [if_neg hle]
            have hm : lgC A i = mxC A (i + 1) := by
              rw [hmx]
              by_cases hi0 : i = 0
              · subst hi0
                show lgC A 0 = max 0 (lgC A 0)
                omega
              · rw [if_neg hi0, c_le (by omega) (by omega)] at hle
                omega
            by_cases el : i = l
            · rw [if_pos el]
              refine ok_i ⟨M2, ?_, hz', fin, h2⟩
              rw [← hown _ (if_pos el), ← hm, if_neg (show ¬ i + 1 = 0 by omega)]
            · rw [if_neg el]
              refine ok_i ⟨M2, ?_, hz', fin, h2⟩
              rw [← hown _ (if_neg el), ← hm, if_neg (show ¬ i + 1 = 0 by omega)]
      · obtain ⟨M', rfl, hz, f, h'⟩ := hI
        have hM := h'.rm
        show Ok (bX12_lag_24 T m (nI l) _ _ (nI (nlA A)) M') _
        unfold bX12_lag_24
        simp (disch := omega) only [gdI, gdT, Option.bind_some, lte, une2, une3, nI_add, gvI, cl_nI, c_le, c_lt, c_eq, Sum.elim_inl, Sum.elim_inr, hM.k, hM.r1, hM.k1, hM.l1, i_3, h'.al, hL.n3, Nat.le_refl, if_true]
        refine ok_i ⟨M', Or.inr ⟨?_, ?_⟩, f⟩
        · rw [first_none hz]; omega
        · rw [if_pos hl, if_neg (by omega)]
      · obtain ⟨M', hr, f⟩ := hr
        rcases hr with ⟨q, rfl⟩ | ⟨q, rfl⟩
        · rw [if_pos q]; exact ok_i ⟨rfl, f⟩
        · rw [if_neg q]; exact ok_i ⟨rfl, f⟩
  · refine ⟨-2, fun T M h => ?_, fun T M h => ?_⟩
    · show Ok (fX11_lag T M x a) _
      unfold fX11_lag
      rw [c_lane0 h hn, h.px.k0, gdI, Option.bind_some, if_neg (by decide)]
      exact ok_i ⟨rfl, GF.rfl, h⟩
    · have h0 := h.t0 (v := 0)
      show Ok (fX12_lag T M m a) _
      unfold fX12_lag
      rw [h0.rm.k, gdI, lte, r_lane0 h0 hn, Option.bind_some, if_pos rfl]
      exact ok_i ⟨rfl, r_t0.qf (fun _ _ => nf_qf)⟩
/-! harshest -/
def haC (A : Nat → Int32) (l p : Nat) : Nat := ctm (psd A (p + 1) (eA A) l) 16
def haB (A : Nat → Int32) (l : Nat) : Nat → Nat × Int32
  | 0 => (385, -1)
  | i + 1 => if haC A l i < (haB A l i).1 then (haC A l i, nI i) else haB A l i
theorem haB_b {l : Nat} : ∀ i, (haB A l i).1 ≤ 385
  | 0 => Nat.le_refl _
  | i + 1 => by
    have h1 := haB_b (l := l) i
    have h2 := ctm_b (psd A (i + 1) (eA A) l)
    rw [haB]
    by_cases h : haC A l i < (haB A l i).1
    · rw [if_pos h]; show haC A l i ≤ 385; unfold haC; omega
    · rw [if_neg h]; exact h1
def hf10 (m a k : Nat) : Prop := a = m + 5 ∨ a = m + 6 ∨ a = m + 10 ∨ a = m ∧ (k = 0 ∨ k = 18 ∨ k = 19)
theorem hf10_qf {m a k : Nat} (h : hf10 m a k) : sq m a k := by unfold hf10 at h; unfold sq; omega
theorem r_laysMaps {l : Nat} (h : RV m A T M) (hl : l < nlA A) : Ok (fX12_laysMaps T M m (nI l)) (fun p => (∀ p' v, p' < npA A → v < 16 → gI p.2 (m + 10) (16 * p' + v) = rwA A (p' + 1) (eA A) l v) ∧ FI m (hf10 m) M p.2 ∧ RV m A T p.2) := by
  have hM := h.rm
  have h4 := h.lv.b4
  unfold fX12_laysMaps
  simp only [gdI, gdT, Option.bind_some, lte, une2, une3, nI_add, gvI, cl_nI, c_le, c_lt, c_eq, Sum.elim_inl, Sum.elim_inr, hM.k]
  refine Ok.bd (r_laysNow h) (fun p hq => ?_)
  obtain ⟨p1, M1⟩ := p
  obtain ⟨d1, f1, h1⟩ := hq
  rw [une2]
  refine Ok.bd (ok_forF (s := ((0 : Int32), M1)) 0 (npA A) (fun i s => ∃ M', s = (nI i, M') ∧ gI M' m 18 = dft (eA A) ∧ (∀ p' v, p' < i → v < 16 → gI M' (m + 10) (16 * p' + v) = rwA A (p' + 1) (eA A) l v) ∧ FI m (hf10 m) M M') (fun M' => (∀ p' v, p' < npA A → v < 16 → gI M' (m + 10) (16 * p' + v) = rwA A (p' + 1) (eA A) l v) ∧ FI m (hf10 m) M M') ⟨M1, rfl, d1.1, fun p' v hp => absurd hp (by omega), f1.wide (fun a k q => by unfold nf at q; unfold hf10; omega)⟩ (by omega) (by omega) (fun i s _ hi hI => ?_) (fun s hI => ?_)) (fun M' hr => ok_i ⟨hr.1, hr.2, h.fi hr.2 (fun _ _ => hf10_qf)⟩)
  · obtain ⟨M', rfl, hd, hm, f⟩ := hI
    have h' : RV m A T M' := h.fi f (fun _ _ => hf10_qf)
    have hM' := h'.rm
    show Ok (bX12_laysMaps_6 T m (nI l) (nI i) M') _
    unfold bX12_laysMaps_6
    simp (disch := omega) only [gdI, gdT, Option.bind_some, lte, une2, une3, nI_add, gvI, cl_nI, c_le, c_lt, c_eq, Sum.elim_inl, Sum.elim_inr, hM'.k, hM'.r1, hM'.k1, hM'.l1, i_4, i_38, h'.al, h.lv.n4, Nat.not_le.mpr hi, if_false]
    have g0 := f.pI (a := m) (k := 19) (v := A (38 + i)) (Or.inr (Or.inr (Or.inr ⟨rfl, by omega⟩)))
    have hd0 : RD m A (i + 1) (eA A) (pI M' m 19 (A (38 + i))) := by
      refine ⟨by rw [mIIk (by omega)]; exact hd, ?_⟩
      rw [mII1]
      unfold stA
      rw [if_neg (by omega), show 37 + (i + 1) = 38 + i by omega]
    refine Ok.bd (ok_forF (s := ((0 : Int32), pI M' m 19 (A (38 + i)))) 0 16 (fun v s => ∃ M2, s = (nI v, M2) ∧ RD m A (i + 1) (eA A) M2 ∧ (∀ p' w, (p' < i ∧ w < 16) ∨ (p' = i ∧ w < v) → gI M2 (m + 10) (16 * p' + w) = rwA A (p' + 1) (eA A) l w) ∧ FI m (hf10 m) M M2) (fun M2 => RD m A (i + 1) (eA A) M2 ∧ (∀ p' w, p' < i + 1 → w < 16 → gI M2 (m + 10) (16 * p' + w) = rwA A (p' + 1) (eA A) l w) ∧ FI m (hf10 m) M M2) ⟨_, rfl, hd0, fun p' w q => ?_, g0⟩ (by omega) (by omega) (fun v s _ hv hI => ?_) (fun s hI => ?_)) (fun M2 hr => ?_)
    · rw [mIIn (by omega)]
      exact hm p' w (by omega) (by omega)
    · obtain ⟨M2, rfl, hd2, hm2, f2⟩ := hI
      have h2 : RV m A T M2 := h.fi f2 (fun _ _ => hf10_qf)
      have hM2 := h2.rm
      show Ok (bX12_laysMaps_31 T m (nI l) (nI i) (nI v) M2) _
      unfold bX12_laysMaps_31
      simp (disch := omega) only [gdI, gdT, Option.bind_some, lte, une2, une3, nI_add, gvI, cl_nI, c_le, c_lt, c_eq, Sum.elim_inl, Sum.elim_inr, hM2.k, hM2.r10, hM2.k10, hM2.l10, i_16, Nat.not_le.mpr hv, if_false]
      refine Ok.bd (r_rowOf h2 hd2 hl hv) (fun p hq => ?_)
      obtain ⟨p1, M3⟩ := p
      obtain ⟨rfl, f3⟩ := hq
      simp (disch := omega) only [gdI, gdT, Option.bind_some, lte, une2, une3, nI_add, gvI, cl_nI, c_le, c_lt, c_eq, Sum.elim_inl, Sum.elim_inr, hM2.k, hM2.r10, hM2.k10, hM2.l10, c_mul, nI_1]
      have g3 := f2.trans (f3.wide (fun a k q => by unfold wf at q; unfold hf10; omega))
      have hd3 := hd2.w f3
      refine ok_i ⟨_, rfl, ⟨by rw [mIIn (by omega)]; exact hd3.1, by rw [mIIn (by omega)]; exact hd3.2⟩, fun p' w q => ?_, g3.pI (Or.inr (Or.inr (Or.inl rfl)))⟩
      by_cases e : p' = i ∧ w = v
      · obtain ⟨rfl, rfl⟩ := e
        rw [mII1]
      · rw [mIIk (by omega), f3.1 _ _ (by unfold wf; omega)]
        exact hm2 p' w (by omega)
    · obtain ⟨M2, rfl, hd2, hm2, f2⟩ := hI
      show Ok (bX12_laysMaps_31 T m (nI l) (nI i) (nI 16) M2) _
      unfold bX12_laysMaps_31
      rw [i_16, if_pos (by decide)]
      exact ok_i ⟨hd2, fun p' w h1 h2 => hm2 p' w (by omega), f2⟩
    · obtain ⟨hd2, hm2, f2⟩ := hr
      simp only [lte, nI_1]
      exact ok_i ⟨M2, rfl, hd2.1, hm2, f2⟩
  · obtain ⟨M', rfl, hd, hm, f⟩ := hI
    have h' : RV m A T M' := h.fi f (fun _ _ => hf10_qf)
    have hM' := h'.rm
    show Ok (bX12_laysMaps_6 T m (nI l) (nI (npA A)) M') _
    unfold bX12_laysMaps_6
    simp (disch := omega) only [gdI, gdT, Option.bind_some, lte, une2, une3, nI_add, gvI, cl_nI, c_le, c_lt, c_eq, Sum.elim_inl, Sum.elim_inr, hM'.k, hM'.r1, hM'.k1, hM'.l1, i_4, h'.al, h.lv.n4, Nat.le_refl, if_true]
    exact ok_i ⟨hm, f⟩
theorem q_harshest (hL : LV A) (hS : SV A) (a : Int32) : QQ x m A (fun T M => fX11_harshest T M x a) (fun T M => fX12_harshest T M m a) := by
  have h6 := hL.b3
  have h4 := hL.b4
  rcases ix_I a (nlA A) (by omega) with ⟨l, hl, rfl⟩ | hn
  · refine ⟨(haB A l (npA A)).2, fun T M h => ?_, fun T M h => ?_⟩
    · have hp := h.px
      have hb48 := hS.b48
      show Ok (fX11_harshest T M x (nI l)) _
      unfold fX11_harshest
      rw [c_lane1 h hl, hp.k0, gdI, Option.bind_some, if_pos rfl]
      simp only [gdI, gdT, Option.bind_some, lte, une2, une3, nI_add, gvI, cl_nI, c_le, c_lt, c_eq, Sum.elim_inl, Sum.elim_inr, hp.k0, hp.k8, hp.k15, hp.l15, hp.k16, hp.l16, hp.k17, hp.l17, hp.k18, hp.l18, hp.k25, hp.k26, hp.l26, hp.r0_0, hp.r0_2, hp.r0_3, hp.r0_4, hp.r0_5, hp.r0_6, hp.r0_7, hp.r0_9, hp.r0_10, hp.r0_13, hp.r8_1, hp.r8_2, hp.r8_4, hp.r8_5, hp.r25_0, h.tm, hS.n48]
      refine Ok.bd (c_driftAt h (by omega)) (fun p hq => ?_)
      obtain ⟨p1, M1⟩ := p
      obtain ⟨rfl, f1, h1⟩ := hq
      rw [une2]
      refine Ok.bd (ok_forF (s := ((385 : Int32), (-1 : Int32), (0 : Int32), M1)) 0 (npA A) (fun i s => ∃ M', s = (nI (haB A l i).1, (haB A l i).2, nI i, M') ∧ PF x M M' ∧ CV x A T M') (fun r => ∃ M', r = ((haB A l (npA A)).2, M') ∧ PF x M M' ∧ CV x A T M') ⟨M1, rfl, f1, h1⟩ (by omega) (by omega) (fun i s _ hi hI => ?_) (fun s hI => ?_)) (fun r hr => ?_)
      · obtain ⟨M', rfl, f, h'⟩ := hI
        have hp' := h'.px
        obtain ⟨q, hq, hb⟩ := h'.lab
        show Ok (bX11_harshest_36 T x (nI l) (dft (eT A (tmA A))) (nI (haB A l i).1) (haB A l i).2 (nI i) M') _
        unfold bX11_harshest_36
        simp (disch := omega) only [gdI, gdT, Option.bind_some, lte, une2, une3, nI_add, gvI, cl_nI, c_le, c_lt, c_eq, Sum.elim_inl, Sum.elim_inr, hp'.k0, hp'.k8, hp'.k15, hp'.l15, hp'.k16, hp'.l16, hp'.k17, hp'.l17, hp'.k18, hp'.l18, hp'.r0_0, hp'.r0_2, hp'.r0_3, hp'.r0_4, hp'.r0_5, hp'.r0_6, hp'.r0_7, hp'.r0_9, hp'.r0_10, hp'.r0_13, hp'.r8_1, hp'.r8_2, hp'.r8_4, hp'.r8_5, hq, hb.k, hb.f8, hL.n4, Nat.not_le.mpr hi, if_false]
        refine Ok.bd (ok_forF (s := ((0 : Int32), (0 : Int32), M')) 0 16 (fun v s => ∃ M2, s = (nI (ctm (psd A (i + 1) (eA A) l) v), nI v, M2) ∧ PF x M M2 ∧ CV x A T M2) (fun r => ∃ M2, r = (nI (haC A l i), M2) ∧ PF x M M2 ∧ CV x A T M2) ⟨M', rfl, f, h'⟩ (by omega) (by omega) (fun v s _ hv hI => ?_) (fun s hI => ?_)) (fun r hr => ?_)
        · obtain ⟨M2, rfl, f2, h2⟩ := hI
          have hp2 := h2.px
          show Ok (bX11_harshest_57 T x (nI l) (dft (eT A (tmA A))) (nI (haB A l i).1) (haB A l i).2 (nI i) (nI (ctm (psd A (i + 1) (eA A) l) v)) (nI v) M2) _
          unfold bX11_harshest_57
          simp (disch := omega) only [gdI, gdT, Option.bind_some, lte, une2, une3, nI_add, gvI, cl_nI, c_le, c_lt, c_eq, Sum.elim_inl, Sum.elim_inr, hp2.k0, hp2.k8, hp2.k15, hp2.l15, hp2.k16, hp2.l16, hp2.k17, hp2.l17, hp2.k18, hp2.l18, hp2.r0_0, hp2.r0_2, hp2.r0_3, hp2.r0_4, hp2.r0_5, hp2.r0_6, hp2.r0_7, hp2.r0_9, hp2.r0_10, hp2.r0_13, hp2.r8_1, hp2.r8_2, hp2.r8_4, hp2.r8_5, i_16, Nat.not_le.mpr hv, if_false]
          refine Ok.bd (c_passing (q := i + 1) h2 hl (by omega) (eT_b A _) hv (nI_1 i)) (fun p hq => ?_)
          obtain ⟨p1, M3⟩ := p
          obtain ⟨rfl, f3, h3⟩ := hq
          rw [une2, show rwA A (i + 1) (eT A (tmA A)) l v = mk (psd A (i + 1) (eA A) l v) 24 from rfl, bitCount_mk (by omega)]
          simp only [Option.bind_some, lte, nI_add, nI_1]
          exact ok_i ⟨M3, rfl, f2.trans f3, h3⟩
        · obtain ⟨M2, rfl, f2, h2⟩ := hI
          show Ok (bX11_harshest_57 T x (nI l) _ _ _ (nI i) _ (nI 16) M2) _
          unfold bX11_harshest_57
          rw [i_16, if_pos (by decide)]
          exact ok_i ⟨M2, rfl, f2, h2⟩
        · obtain ⟨M2, rfl, f2, h2⟩ := hr
          have hb1 := haB_b (A := A) (l := l) i
          have hb2 := ctm_b (psd A (i + 1) (eA A) l)
          have e : haB A l (i + 1) = if haC A l i < (haB A l i).1 then (haC A l i, nI i) else haB A l i := rfl
          rw [une2, ite_le (by omega) (by unfold haC; omega)]
          by_cases hle : (haB A l i).1 ≤ haC A l i
          · rw [if_pos hle]
            rw [if_neg (by omega)] at e
            simp only [lte, nI_1]
            exact ok_i ⟨M2, by rw [e], f2, h2⟩
          · rw [if_neg hle]
            rw [if_pos (by omega)] at e
            simp only [lte, nI_1]
            exact ok_i ⟨M2, by rw [e], f2, h2⟩
      · obtain ⟨M', rfl, f, h'⟩ := hI
        have hp' := h'.px
        obtain ⟨q, hq, hb⟩ := h'.lab
        show Ok (bX11_harshest_36 T x (nI l) _ _ _ (nI (npA A)) M') _
        unfold bX11_harshest_36
        simp (disch := omega) only [gdI, gdT, Option.bind_some, lte, une2, une3, nI_add, gvI, cl_nI, c_le, c_lt, c_eq, Sum.elim_inl, Sum.elim_inr, hp'.k0, hp'.k8, hp'.k15, hp'.l15, hp'.k16, hp'.l16, hp'.k17, hp'.l17, hp'.k18, hp'.l18, hp'.r0_0, hp'.r0_2, hp'.r0_3, hp'.r0_4, hp'.r0_5, hp'.r0_6, hp'.r0_7, hp'.r0_9, hp'.r0_10, hp'.r0_13, hp'.r8_1, hp'.r8_2, hp'.r8_4, hp'.r8_5, hq, hb.k, hb.f8, hL.n4, Nat.le_refl, if_true]
        exact ok_i ⟨M', rfl, f, h'⟩
      · obtain ⟨M', rfl, f, h'⟩ := hr
        exact ok_i ⟨rfl, f.gf, h'⟩
    · have h0 := h.t0 (v := 0)
      show Ok (fX12_harshest T M m (nI l)) _
      unfold fX12_harshest
      rw [h0.rm.k, gdI, lte, r_lane1 h0 hl, Option.bind_some, if_neg (by decide)]
      refine Ok.bd (r_laysMaps h0 hl) (fun p hq => ?_)
      obtain ⟨p1, M1⟩ := p
      obtain ⟨m1, f1, h1⟩ := hq
      have hM1 := h1.rm
      rw [une2]
      have fin : QF m M M1 := (r_t0.qf (fun _ _ => nf_qf)).trans (f1.qf (fun _ _ => hf10_qf))
      refine Ok.bd (ok_forF (s := ((-1 : Int32), (268435456 : Int32), (0 : Int32))) 0 (npA A) (fun i s => s = ((haB A l i).2, (if i = 0 then (268435456 : Int32) else nI (haB A l i).1), nI i)) (fun r => r = (haB A l (npA A)).2) rfl (by omega) (by omega) (fun i s _ hi hI => ?_) (fun s hI => ?_)) (fun r hr => by subst hr; exact ok_i ⟨rfl, fin⟩)
      · subst hI
        show Ok (bX12_harshest_31 T M1 m (haB A l i).2 (if i = 0 then (268435456 : Int32) else nI (haB A l i).1) (nI i)) _
        unfold bX12_harshest_31
        simp (disch := omega) only [gdI, gdT, Option.bind_some, lte, une2, une3, nI_add, gvI, cl_nI, c_le, c_lt, c_eq, Sum.elim_inl, Sum.elim_inr, hM1.k, hM1.r1, hM1.k1, hM1.l1, i_4, h1.al, hL.n4, Nat.not_le.mpr hi, if_false]
        have hin : lp FU (fun s => bX12_harshest_48 T M1 m (haB A l i).2 (if i = 0 then (268435456 : Int32) else nI (haB A l i).1) (nI i) s.1 s.2) ((0 : Int32), (0 : Int32)) = some (nI (haC A l i)) := by
          refine lp_itG (fun v => (nI (ctm (psd A (i + 1) (eA A) l) v), nI v)) 16 _ rfl (by omega) (fun v hv => ?_) ?_
          · show bX12_harshest_48 T M1 m _ _ (nI i) (nI (ctm (psd A (i + 1) (eA A) l) v)) (nI v) = _
            unfold bX12_harshest_48
            simp (disch := omega) only [gdI, gdT, Option.bind_some, lte, une2, une3, nI_add, gvI, cl_nI, c_le, c_lt, c_eq, Sum.elim_inl, Sum.elim_inr, hM1.k, hM1.r10, hM1.k10, hM1.l10, i_16, c_mul, Nat.not_le.mpr hv, if_false, m1 i v hi hv]
            rw [show rwA A (i + 1) (eA A) l v = mk (psd A (i + 1) (eA A) l v) 24 from rfl, bitsOf_mk (by omega)]
            simp only [Option.bind_some, nI_add, nI_1]
            rfl
          · show bX12_harshest_48 T M1 m _ _ (nI i) _ (nI 16) = _
            unfold bX12_harshest_48
            rw [i_16, if_pos (by decide)]; rfl
        rw [hin, Option.bind_some]
        have hb1 := haB_b (A := A) (l := l) i
        have hb2 := ctm_b (psd A (i + 1) (eA A) l)
        have hb3 : haC A l i ≤ 384 := hb2
        have e : haB A l (i + 1) = if haC A l i < (haB A l i).1 then (haC A l i, nI i) else haB A l i := rfl
        by_cases i0 : i = 0
        · subst i0
          rw [if_pos rfl, show (268435456 : Int32) = nI 268435456 from rfl, ite_lt (by omega) (by omega), if_pos (by omega)]
          rw [if_pos (by show haC A l 0 < 385; omega)] at e
          simp only [lte, nI_1]
          refine ok_i ?_
          show _ = _
          rw [e]; rfl
        · rw [if_neg i0, ite_lt (by omega) (by omega)]
          by_cases hlt : haC A l i < (haB A l i).1
          · rw [if_pos hlt]
            rw [if_pos hlt] at e
            simp only [lte, nI_1]
            refine ok_i ?_
            show _ = _
            rw [e, if_neg (by omega)]
          · rw [if_neg hlt]
            rw [if_neg hlt] at e
            simp only [lte, nI_1]
            refine ok_i ?_
            show _ = _
            rw [e, if_neg (by omega)]
      · subst hI
        show Ok (bX12_harshest_31 T M1 m _ _ (nI (npA A))) _
        unfold bX12_harshest_31
        simp (disch := omega) only [gdI, gdT, Option.bind_some, lte, une2, une3, nI_add, gvI, cl_nI, c_le, c_lt, c_eq, Sum.elim_inl, Sum.elim_inr, hM1.k, hM1.r1, hM1.k1, hM1.l1, i_4, h1.al, hL.n4, Nat.le_refl, if_true]
        exact ok_i rfl
  · refine ⟨-2, fun T M h => ?_, fun T M h => ?_⟩
    · show Ok (fX11_harshest T M x a) _
      unfold fX11_harshest
      rw [c_lane0 h hn, h.px.k0, gdI, Option.bind_some, if_neg (by decide)]
      exact ok_i ⟨rfl, GF.rfl, h⟩
    · have h0 := h.t0 (v := 0)
      show Ok (fX12_harshest T M m a) _
      unfold fX12_harshest
      rw [h0.rm.k, gdI, lte, r_lane0 h0 hn, Option.bind_some, if_pos rfl]
      exact ok_i ⟨rfl, r_t0.qf (fun _ _ => nf_qf)⟩
end
