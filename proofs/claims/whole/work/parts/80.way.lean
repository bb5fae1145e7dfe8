/-! the first way -/
def nsP (D : Nat → Nat) (c s : Nat) : Bool := match bes c s with
  | none => false
  | some n => decide (D n < D c)
theorem nsP_n {D : Nat → Nat} {c s : Nat} (h : bes c s = none) : nsP D c s = false := by unfold nsP; rw [h]
theorem nsP_s {D : Nat → Nat} {c s n : Nat} (h : bes c s = some n) : nsP D c s = decide (D n < D c) := by unfold nsP; rw [h]
def nst (D : Nat → Nat) (c : Nat) : Nat := fa_first (nsP D c) 4
theorem nst_lt {pc : Nat → Bool} {D : Nat → Nat} {c : Nat} (hD : IsD pc D) (hc : c < 384) (h0 : 0 < D c) : nst D c < 4 ∧ ∃ n, bes c (nst D c) = some n ∧ n < 384 ∧ D n + 1 = D c := by
  obtain ⟨s, n, hs, hb, e⟩ := hD.2.2.2 c hc h0
  have h1 : nst D c < 4 := by
    rcases Nat.lt_or_ge (nst D c) 4 with q | q
    · exact q
    · have := fa_first_no (nsP D c) 4 s (Nat.lt_of_lt_of_le hs q)
      rw [nsP_s hb, decide_eq_true (by omega)] at this
      exact absurd this (by decide)
  refine ⟨h1, ?_⟩
  have h2 : nsP D c (nst D c) = true := fa_first_yes (nsP D c) 4 h1
  cases hb2 : bes c (nst D c) with
  | none => rw [nsP_n hb2] at h2; exact absurd h2 (by decide)
  | some k =>
    rw [nsP_s hb2] at h2
    have h3 := of_decide_eq_true h2
    have h4 := hD.2.1 c (nst D c) k hc h1 hb2
    exact ⟨k, rfl, bes_b hc h1 hb2, by omega⟩
def wcs (D : Nat → Nat) (c : Nat) : Nat → Nat
  | 0 => c
  | k + 1 => (bes (wcs D c k) (nst D (wcs D c k))).getD 0
theorem wcs_b {pc : Nat → Bool} {D : Nat → Nat} {c : Nat} (hD : IsD pc D) (hc : c < 384) : ∀ k, k ≤ D c → wcs D c k < 384 ∧ D (wcs D c k) + k = D c
  | 0, _ => ⟨hc, rfl⟩
  | k + 1, hk => by
    obtain ⟨h1, h2⟩ := wcs_b hD hc k (by omega)
    obtain ⟨_, n, h3, h4, h5⟩ := nst_lt hD h1 (by omega)
    rw [wcs, h3]
    exact ⟨h4, by show D n + (k + 1) = D c; omega⟩
theorem wcs_s {pc : Nat → Bool} {D : Nat → Nat} {c k : Nat} (hD : IsD pc D) (hc : c < 384) (hk : k < D c) : bes (wcs D c k) (nst D (wcs D c k)) = some (wcs D c (k + 1)) := by
  obtain ⟨h1, h2⟩ := wcs_b hD hc k (by omega)
  obtain ⟨_, n, h3, h4, h5⟩ := nst_lt hD h1 (by omega)
  rw [wcs, h3]; rfl
theorem c_nearing {x c : Nat} {pc : Nat → Bool} {D : Nat → Nat} {T : Sh} {M : Me} (hp : PX x T M) (hm : ∀ c, c < 384 → gI M (x + 21) c = nI (D c)) (hD : IsD pc D) (hc : c < 384) (h0 : 0 < D c) : fX7_nearingStep T M (x + 19) (nI c) = some (nI (nst D c)) := by
  have h4 := (nst_lt hD hc h0).1
  have key : Ok (lp FU (fun s => bX7_nearingStep_2 T M (x + 19) (nI c) s) (0 : Int32)) (fun r => r = Sum.inl (nI (nst D c))) := by
    refine ok_forF 0 4 (fun i s => s = nI i ∧ ∀ j, j < i → nsP D c j = false) _ ⟨rfl, fun j hj => absurd hj (by omega)⟩ (by omega) (by omega) (fun i s _ hi hI => ?_) (fun s hI => ?_)
    · obtain ⟨rfl, hn⟩ := hI
      show Ok (bX7_nearingStep_2 T M (x + 19) (nI c) (nI i)) _
      unfold bX7_nearingStep_2
      rw [i_4, if_neg (by rw [c_le (by omega) (by omega)]; omega), c_beside hc hi, Option.bind_some]
      have go : nsP D c i = false → ∀ j, j < i + 1 → nsP D c j = false := fun e j hj => by
        rcases Nat.lt_or_ge j i with q | q
        · exact hn j q
        · rw [show j = i by omega]; exact e
      cases hb : bes c i with
      | none =>
        rw [if_pos (show iN none = (-1 : Int32) from rfl), lte, nI_1]
        exact ok_i ⟨rfl, go (nsP_n hb)⟩
      | some n =>
        have hn3 := bes_b hc hi hb
        have b1 := hD.2.2.1 n hn3
        have b2 := hD.2.2.1 c hc
        rw [if_neg (iN_m1 (by omega)), show iN (some n) = nI n from rfl]
        simp (disch := omega) only [gdI, gdT, Option.bind_some, lte, une2, une3, nI_add, gvI, cl_nI, c_le, c_lt, c_eq, Sum.elim_inl, Sum.elim_inr, hp.k19, hp.k20, hp.l20, hp.k21, hp.l21, hp.k22, hp.l22, hp.r19_0, hp.r19_1, hp.r19_2, hm n hn3, hm c hc, nI_1]
        by_cases q : D c ≤ D n
        · rw [if_pos q]
          exact ok_i ⟨rfl, go (by rw [nsP_s hb, decide_eq_false (by omega)])⟩
        · rw [if_neg q]
          refine ok_i ?_
          show Sum.inl (nI i) = _
          unfold nst
          rw [first_of hn (by rw [nsP_s hb, decide_eq_true (by omega)]) hi]
    · obtain ⟨rfl, hn⟩ := hI
      exfalso
      unfold nst at h4
      rw [first_none hn] at h4
      omega
  obtain ⟨r, e, rfl⟩ := key
  unfold fX7_nearingStep
  rw [e]; rfl
theorem c_stepOfWay {x c i : Nat} {pc : Nat → Bool} {D : Nat → Nat} {T : Sh} {M : Me} (hp : PX x T M) (hm : ∀ c, c < 384 → gI M (x + 21) c = nI (D c)) (hD : IsD pc D) (hc : c < 384) (hi : i < D c) : fX7_stepOfWay T M (x + 19) (nI c) (nI i) = some (nI (nst D (wcs D c i))) := by
  have b38 := hD.2.2.1 c hc
  have key : lp FU (fun s => bX7_stepOfWay_5 T M (x + 19) (nI i) s.1 s.2) (nI c, (0 : Int32)) = some (nI (wcs D c i)) := by
    refine lp_itG (fun k => (nI (wcs D c k), nI k)) i _ rfl (by omega) (fun k hk => ?_) ?_
    · obtain ⟨w1, w2⟩ := wcs_b hD hc k (by omega)
      have hs := (nst_lt hD w1 (by omega)).1
      show bX7_stepOfWay_5 T M (x + 19) (nI i) (nI (wcs D c k)) (nI k) = _
      unfold bX7_stepOfWay_5
      rw [if_neg (by rw [c_le (by omega) (by omega)]; omega), if_neg (i_ne1 _ (by omega)), hp.k19, gdI, c_nearing hp hm hD w1 (by omega), Option.bind_some, c_beside w1 hs, Option.bind_some, wcs_s hD hc (by omega), lte, nI_1]
      rfl
    · show bX7_stepOfWay_5 T M (x + 19) (nI i) (nI (wcs D c i)) (nI i) = _
      unfold bX7_stepOfWay_5
      rw [if_pos (by rw [c_le (by omega) (by omega)]; omega)]
  obtain ⟨w1, w2⟩ := wcs_b hD hc i (by omega)
  unfold fX7_stepOfWay
  rw [key, Option.bind_some, if_neg (i_ne1 _ (by omega)), hp.k19, gdI, c_nearing hp hm hD w1 (by omega)]
  rfl
theorem r_wayIn {m c : Nat} {a b : Int32} {pc : Nat → Bool} {D : Nat → Nat} {T : Sh} {M : Me} (hM : RM m T M) (hm : ∀ c, c < 384 → gI M (m + 11) c = nI (D c)) (hD : IsD pc D) (hc : c < 384) (h0 : 0 < D c) : lp FU (fun s => bX12_way_67 T M m a (nI c) b s) (0 : Int32) = some (nI (nst D c)) := by
  have h4 := (nst_lt hD hc h0).1
  have key : Ok (lp FU (fun s => bX12_way_67 T M m a (nI c) b s) (0 : Int32)) (fun r => r = nI (nst D c)) := by
    refine ok_forF 0 4 (fun i s => s = nI i ∧ ∀ j, j < i → nsP D c j = false) _ ⟨rfl, fun j hj => absurd hj (by omega)⟩ (by omega) (by omega) (fun i s _ hi hI => ?_) (fun s hI => ?_)
    · obtain ⟨rfl, hn⟩ := hI
      show Ok (bX12_way_67 T M m a (nI c) b (nI i)) _
      unfold bX12_way_67
      rw [r_stepTo hc hi, Option.bind_some]
      have go : nsP D c i = false → ∀ j, j < i + 1 → nsP D c j = false := fun e j hj => by
        rcases Nat.lt_or_ge j i with q | q
        · exact hn j q
        · rw [show j = i by omega]; exact e
      cases hb : bes c i with
      | none =>
        rw [if_pos (show iN none = (-1 : Int32) from rfl), lte, nI_1]
        exact ok_i ⟨rfl, go (nsP_n hb)⟩
      | some n =>
        have hn3 := bes_b hc hi hb
        have b1 := hD.2.2.1 n hn3
        have b2 := hD.2.2.1 c hc
        have b3 := hD.2.1 c i n hc hi hb
        rw [if_neg (iN_m1 (by omega)), show iN (some n) = nI n from rfl]
        simp (disch := omega) only [gdI, gdT, Option.bind_some, lte, une2, une3, nI_add, gvI, cl_nI, c_le, c_lt, c_eq, Sum.elim_inl, Sum.elim_inr, hM.k, hM.r11, hM.k11, hM.l11, hm n hn3, hm c hc, nI_1]
        have e1 : nI (D c) - 1 = nI (D c - 1) := by rw [i_1, c_sub (by omega)]
        rw [e1, ite_eq (by omega) (by omega)]
        by_cases q : D n = D c - 1
        · rw [if_pos q]
          refine ok_i ?_
          show nI i = _
          unfold nst
          rw [first_of hn (by rw [nsP_s hb, decide_eq_true (by omega)]) hi]
        · rw [if_neg q]
          exact ok_i ⟨rfl, go (by rw [nsP_s hb, decide_eq_false (by omega)])⟩
    · obtain ⟨rfl, hn⟩ := hI
      exfalso
      unfold nst at h4
      rw [first_none hn] at h4
      omega
  obtain ⟨r, e, rfl⟩ := key
  exact e
section
variable {x m : Nat} {A : Nat → Int32} {T : Sh} {M M2 : Me}
theorem q_way (hL : LV A) (hS : SV A) (a b : Int32) : QQ x m A (fun T M => fX11_way T M x a b) (fun T M => fX12_way T M m a b) := by
  have h6 := hL.b3
  rcases ix_I a (nlA A) (by omega) with ⟨l, hl, rfl⟩ | hn
  · by_cases hb : b < 0
    · have hb' : ¬ (0 : Int32) ≤ b := (fa_of_lt hb).2.1
      refine ⟨-3, fun T M h => ?_, fun T M h => ?_⟩
      · show Ok (fX11_way T M x (nI l) b) _
        unfold fX11_way
        rw [c_lane1 h hl, h.px.k0, gdI, Option.bind_some, if_pos rfl, if_neg hb']
        exact ok_i ⟨rfl, GF.rfl, h⟩
      · have h0 := h.t0 (v := 0)
        show Ok (fX12_way T M m (nI l) b) _
        unfold fX12_way
        rw [h0.rm.k, gdI, lte, r_lane1 h0 hl, Option.bind_some, if_neg (by decide), if_neg hb']
        exact ok_i ⟨rfl, r_t0.qf (fun _ _ => nf_qf)⟩
    obtain ⟨i, hi, rfl⟩ := nI_of hb
    have hb' : (0 : Int32) ≤ nI i := fa_of_nlt hb
    have hpt := hS.ptb (l := l) (by omega)
    obtain ⟨G, E, hGE, hE⟩ := ex_E (psd A (qA A) (eA A) l)
    have hcb := ctm_b (psd A (qA A) (eA A) l)
    refine ⟨if ctm (psd A (qA A) (eA A) l) 16 = 0 then -1 else if i < E (ptA A l) then nI (nst E (wcs E (ptA A l) i)) else -1, fun T M h => ?_, fun T M h => ?_⟩
    · show Ok (fX11_way T M x (nI l) (nI i)) _
      unfold fX11_way
      rw [c_lane1 h hl, h.px.k0, gdI, Option.bind_some, if_pos rfl, if_pos hb']
      refine Ok.bd (c_look h hl) (fun p hq => ?_)
      obtain ⟨p1, M1⟩ := p
      obtain ⟨m1, f1, h1⟩ := hq
      have hp := h1.px
      simp only [gdI, gdT, Option.bind_some, lte, une2, une3, nI_add, gvI, cl_nI, c_le, c_lt, c_eq, Sum.elim_inl, Sum.elim_inr, hp.k0, hp.k19, hp.k20, hp.l20, hp.k21, hp.l21, hp.k22, hp.l22, hp.r0_0, hp.r0_2, hp.r0_3, hp.r0_4, hp.r0_5, hp.r0_6, hp.r0_7, hp.r0_9, hp.r0_10, hp.r0_13, hp.r19_0, hp.r19_1, hp.r19_2]
      rw [c_cells hp m1, Option.bind_some, i_0, ite_eq (by omega) (by omega)]
      by_cases q : ctm (psd A (qA A) (eA A) l) 16 = 0
      · rw [if_pos q, if_pos q]
        exact ok_i ⟨rfl, f1.gf, h1⟩
      · rw [if_neg q, if_neg q]
        obtain ⟨g1, g2, g3⟩ := hGE q
        have b38 := g3.2.2.1 (ptA A l) hpt
        refine Ok.bd (c_measureSteps hp (pm := psd A (qA A) (eA A) l) m1 g1 g2) (fun p hq => ?_)
        obtain ⟨p1, M2⟩ := p
        obtain ⟨m2, f2⟩ := hq
        have h2 : CV x A T M2 := h1.fx f2 (fun a k q => by omega)
        have hp2 := h2.px
        have fin : GF x M M2 := f1.gf.trans (f2.hf (x := x) (fun a k q => by omega)).gf
        simp (disch := omega) only [gdI, gdT, Option.bind_some, lte, une2, une3, nI_add, gvI, cl_nI, c_le, c_lt, c_eq, Sum.elim_inl, Sum.elim_inr, hp2.k0, hp2.k19, hp2.k20, hp2.l20, hp2.k21, hp2.l21, hp2.k22, hp2.l22, hp2.k25, hp2.k26, hp2.l26, hp2.r0_0, hp2.r0_2, hp2.r0_3, hp2.r0_4, hp2.r0_5, hp2.r0_6, hp2.r0_7, hp2.r0_9, hp2.r0_10, hp2.r0_13, hp2.r19_0, hp2.r19_1, hp2.r19_2, hp2.r25_0, h2.pt (l := l) (by omega), hS.pt (l := l) (by omega), m2 (ptA A l) hpt]
        by_cases q2 : i < E (ptA A l)
        · rw [if_pos q2, if_pos q2, c_stepOfWay hp2 m2 g3 hpt q2]
          exact ok_i ⟨rfl, fin, h2⟩
        · rw [if_neg q2, if_neg q2]
          exact ok_i ⟨rfl, fin, h2⟩
    · have h0 := h.t0 (v := 0)
      show Ok (fX12_way T M m (nI l) (nI i)) _
      unfold fX12_way
      rw [h0.rm.k, gdI, lte, r_lane1 h0 hl, Option.bind_some, if_neg (by decide), if_pos hb']
      refine Ok.bd (r_laysFar h0 hl hE) (fun p hq => ?_)
      obtain ⟨p1, M1⟩ := p
      obtain ⟨rfl, m1, f1⟩ := hq
      have fin : QF m M M1 := (r_t0.qf (fun _ _ => nf_qf)).trans (f1.qf (fun _ _ => ff_qf))
      have h1 : RV m A T M1 := h0.fi f1 (fun _ _ => ff_qf)
      have hM1 := h1.rm
      simp (disch := omega) only [gdI, gdT, Option.bind_some, lte, une2, une3, nI_add, gvI, cl_nI, c_le, c_lt, c_eq, Sum.elim_inl, Sum.elim_inr, hM1.k, hM1.r1, hM1.k1, hM1.l1, i_42, h1.al, hS.pt (l := l) (by omega)]
      by_cases q : ctm (psd A (qA A) (eA A) l) 16 = 0
      · rw [if_pos q]
        have e : E (ptA A l) = 268435456 := by
          rcases hE with z | z
          · exfalso
            have hz : ∀ i c, c < 384 → E c ≤ i → False := by
              intro i
              induction i with
              | zero => intro c hc h; have := (z.1 c hc).mp (by omega); rw [ctm_0 q c hc] at this; exact absurd this (by decide)
              | succ i ih =>
                intro c hc h
                rcases Nat.eq_zero_or_pos (E c) with w | w
                · have := (z.1 c hc).mp w; rw [ctm_0 q c hc] at this; exact absurd this (by decide)
                · obtain ⟨s, n, hs, hb, e⟩ := z.2.2.2 c hc w
                  exact ih n (bes_b hc hs hb) (by omega)
            exact hz _ _ hpt (Nat.le_refl _)
          · exact z.2 _
        have hx : lp FU (fun s => bX12_way_43 T M1 m (nI i) s.1 s.2) (nI (ptA A l), (0 : Int32)) = some (Sum.inr ()) := by
          refine lp_inr ?_
          show bX12_way_43 T M1 m (nI i) (nI (ptA A l)) 0 = _
          unfold bX12_way_43
          simp (disch := omega) only [gdI, gdT, Option.bind_some, lte, une2, une3, nI_add, gvI, cl_nI, c_le, c_lt, c_eq, Sum.elim_inl, Sum.elim_inr, hM1.k, hM1.r11, hM1.k11, hM1.l11, m1 (ptA A l) hpt, e]
          rw [if_neg (by decide), if_pos (by decide)]
        rw [hx]
        exact ok_i ⟨rfl, fin⟩
      · rw [if_neg q]
        obtain ⟨g1, g2, g3⟩ := hGE q
        have b38 := g3.2.2.1 (ptA A l) hpt
        refine Ok.bd (ok_forF (s := (nI (ptA A l), (0 : Int32))) 0 (min i (E (ptA A l))) (fun k s => s = (nI (wcs E (ptA A l) k), nI k)) (fun r => (if i < E (ptA A l) then r = Sum.inl (nI (nst E (wcs E (ptA A l) i))) else r = Sum.inr ())) rfl (by omega) (by omega) (fun k s _ hk hI => ?_) (fun s hI => ?_)) (fun r hr => ?_)
        · subst hI
          obtain ⟨w1, w2⟩ := wcs_b g3 hpt k (by omega)
          have hs := (nst_lt g3 w1 (by omega)).1
          show Ok (bX12_way_43 T M1 m (nI i) (nI (wcs E (ptA A l) k)) (nI k)) _
          unfold bX12_way_43
          rw [r_wayIn hM1 m1 g3 w1 (by omega)]
          simp (disch := omega) only [gdI, gdT, Option.bind_some, lte, une2, une3, nI_add, gvI, cl_nI, c_le, c_lt, c_eq, Sum.elim_inl, Sum.elim_inr, hM1.k, hM1.r11, hM1.k11, hM1.l11, m1 _ w1, r_stepTo w1 hs, wcs_s g3 hpt (show k < E (ptA A l) by omega), nI_1]
          rw [if_neg (by rw [i_0, c_le (by omega) (by omega)]; omega), FAR_n, if_neg (by rw [c_le (by omega) (by omega)]; omega), if_neg (by omega)]
          exact ok_i rfl
        · subst hI
          show Ok (bX12_way_43 T M1 m (nI i) (nI (wcs E (ptA A l) (min i (E (ptA A l))))) (nI (min i (E (ptA A l))))) _
          obtain ⟨w1, w2⟩ := wcs_b g3 hpt (min i (E (ptA A l))) (by omega)
          unfold bX12_way_43
          by_cases q2 : i < E (ptA A l)
          · rw [show min i (E (ptA A l)) = i by omega] at w1 w2 ⊢
            have hs := (nst_lt g3 w1 (by omega)).1
            rw [r_wayIn hM1 m1 g3 w1 (by omega)]
            simp (disch := omega) only [gdI, gdT, Option.bind_some, lte, une2, une3, nI_add, gvI, cl_nI, c_le, c_lt, c_eq, Sum.elim_inl, Sum.elim_inr, hM1.k, hM1.r11, hM1.k11, hM1.l11, m1 _ w1]
            rw [if_neg (by rw [i_0, c_le (by omega) (by omega)]; omega), FAR_n, if_neg (by rw [c_le (by omega) (by omega)]; omega), if_pos trivial]
            refine ok_i ?_
            show if _ then _ else _
            rw [if_pos q2]
          · rw [show min i (E (ptA A l)) = E (ptA A l) by omega] at w1 w2 ⊢
            simp (disch := omega) only [gdI, gdT, Option.bind_some, lte, une2, une3, nI_add, gvI, cl_nI, c_le, c_lt, c_eq, Sum.elim_inl, Sum.elim_inr, hM1.k, hM1.r11, hM1.k11, hM1.l11, m1 _ w1]
            rw [if_pos (by rw [i_0, c_le (by omega) (by omega)]; omega)]
            refine ok_i ?_
            show if _ then _ else _
            rw [if_neg q2]
        · by_cases q2 : i < E (ptA A l)
          · rw [if_pos q2] at hr ⊢
            subst hr
            exact ok_i ⟨rfl, fin⟩
          · rw [if_neg q2] at hr ⊢
            subst hr
            exact ok_i ⟨rfl, fin⟩
  · refine ⟨-2, fun T M h => ?_, fun T M h => ?_⟩
    · show Ok (fX11_way T M x a b) _
      unfold fX11_way
      rw [c_lane0 h hn, h.px.k0, gdI, Option.bind_some, if_neg (by decide)]
      exact ok_i ⟨rfl, GF.rfl, h⟩
    · have h0 := h.t0 (v := 0)
      show Ok (fX12_way T M m a b) _
      unfold fX12_way
      rw [h0.rm.k, gdI, lte, r_lane0 h0 hn, Option.bind_some, if_pos rfl]
      exact ok_i ⟨rfl, r_t0.qf (fun _ _ => nf_qf)⟩
end
