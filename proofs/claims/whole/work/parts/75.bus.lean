/-! follows, at, lag, bus, harshest -/
section
variable {x m : Nat} {A : Nat → Int32} {T : Sh} {M M2 : Me}
def rwT (A : Nat → Int32) (l n : Nat) : Int32 := rwA A (qA A) (eT A (tmA A + n)) l (ptA A l / 24)
def dsq (A : Nat → Int32) (l : Nat) : Nat → Nat
  | 0 => ptA A l % 24
  | n + 1 => flw (bt (rwT A l (n + 1))) (dsq A l n)
theorem dsq_b {l : Nat} : ∀ n, dsq A l n < 24
  | 0 => Nat.mod_lt _ (by omega)
  | n + 1 => flw_b (dsq_b n)
def cpt (A : Nat → Int32) (l n : Nat) : Nat := ptA A l / 24 * 24 + dsq A l n
theorem cpt_b {l n : Nat} (h : ptA A l < 384) : cpt A l n < 384 ∧ cpt A l n / 24 = ptA A l / 24 ∧ cpt A l n % 24 = dsq A l n := by
  have := dsq_b (A := A) (l := l) n
  unfold cpt
  omega
theorem cpt_0 {l : Nat} : cpt A l 0 = ptA A l := by
  unfold cpt dsq
  omega
theorem cpt_s {l n : Nat} (h : ptA A l < 384) : fpt A (qA A) (eT A (tmA A + (n + 1))) l (cpt A l n) = cpt A l (n + 1) := by
  obtain ⟨_, h2, h3⟩ := cpt_b (n := n) h
  unfold fpt
  rw [h2, h3]
  rfl
def foP (A : Nat → Int32) (l i : Nat) : Bool := !bt (rwT A l (i + 1)) (dsq A l i)
theorem foP_s {l i : Nat} : bt (rwT A l (i + 1)) (dsq A l (i + 1)) = !foP A l i := by
  unfold foP
  rw [Bool.not_not]
  show bt (rwT A l (i + 1)) (flw (bt (rwT A l (i + 1))) (dsq A l i)) = _
  cases h : bt (rwT A l (i + 1)) (dsq A l i)
  · unfold flw
    rw [h, if_neg (by decide), h]
  · exact flw_in h
theorem q_follows (hL : LV A) (hS : SV A) (a : Int32) : QQ x m A (fun T M => fX11_follows T M x a) (fun T M => fX12_follows T M m a) := by
  have h6 := hL.b3
  rcases ix_I a (nlA A) (by omega) with ⟨l, hl, rfl⟩ | hn
  · have hpt := hS.ptb (l := l) (by omega)
    have hb48 := hS.b48
    refine ⟨if pip A l = true then (if fa_first (foP A l) 999 < 999 then nI (fa_first (foP A l) 999 + 1) else -1) else 0, fun T M h => ?_, fun T M h => ?_⟩
    · show Ok (fX11_follows T M x (nI l)) _
      unfold fX11_follows
      rw [c_lane1 h hl, h.px.k0, gdI, Option.bind_some, if_pos rfl]
      refine Ok.bd (c_passesInPoint h hl) (fun p hq => ?_)
      obtain ⟨p1, M1⟩ := p
      obtain ⟨rfl, f1, h1⟩ := hq
      rw [une2]
      cases hpip : pip A l
      · rw [if_pos (b2_ne.mpr rfl), if_neg (by decide)]
        exact ok_i ⟨rfl, f1.gf, h1⟩
      rw [if_neg (fun z => absurd (b2_ne.mp z) (by decide)), if_pos rfl]
      have hp := h1.px
      simp (disch := omega) only [gdI, gdT, Option.bind_some, lte, une2, une3, nI_add, gvI, cl_nI, c_le, c_lt, c_eq, Sum.elim_inl, Sum.elim_inr, hp.k0, hp.k25, hp.k26, hp.l26, hp.r0_0, hp.r0_2, hp.r0_3, hp.r0_4, hp.r0_5, hp.r0_6, hp.r0_7, hp.r0_9, hp.r0_10, hp.r0_13, hp.r25_0, h1.pt (l := l) (by omega), hS.pt (l := l) (by omega), i_24, c_div, c_remQ]
      refine Ok.bd (ok_forF (s := (nI (ptA A l % 24), (1 : Int32), M1)) 0 999 (fun i s => ∃ M', s = (nI (dsq A l i), nI (i + 1), M') ∧ (∀ j, j < i → foP A l j = false) ∧ PF x M M' ∧ CV x A T M') (fun r => ∃ M', ((fa_first (foP A l) 999 < 999 ∧ r = Sum.inl (nI (fa_first (foP A l) 999 + 1), M')) ∨ (¬ fa_first (foP A l) 999 < 999 ∧ r = Sum.inr M')) ∧ PF x M M' ∧ CV x A T M') ⟨M1, rfl, fun j hj => absurd hj (by omega), f1, h1⟩ (by omega) (by omega) (fun i s _ hi hI => ?_) (fun s hI => ?_)) (fun r hr => ?_)
      · obtain ⟨M', rfl, hn, f, h'⟩ := hI
        have hp' := h'.px
        have hdb := dsq_b (A := A) (l := l) i
        show Ok (bX11_follows_50 T x (nI l) (nI (ptA A l / 24)) (nI (dsq A l i)) (nI (i + 1)) M') _
        unfold bX11_follows_50
        rw [i_999, if_neg (by rw [c_lt (by omega) (by omega)]; omega)]
        simp (disch := omega) only [gdI, gdT, Option.bind_some, lte, une2, une3, nI_add, gvI, cl_nI, c_le, c_lt, c_eq, Sum.elim_inl, Sum.elim_inr, hp'.k0, hp'.k8, hp'.k15, hp'.l15, hp'.k16, hp'.l16, hp'.k17, hp'.l17, hp'.k18, hp'.l18, hp'.k25, hp'.k26, hp'.l26, hp'.r0_0, hp'.r0_2, hp'.r0_3, hp'.r0_4, hp'.r0_5, hp'.r0_6, hp'.r0_7, hp'.r0_9, hp'.r0_10, hp'.r0_13, hp'.r8_1, hp'.r8_2, hp'.r8_4, hp'.r8_5, hp'.r25_0, h'.tm, h'.pa, hS.n48]
        refine Ok.bd (c_driftAt h' (by omega)) (fun p hq => ?_)
        obtain ⟨p1, M2⟩ := p
        obtain ⟨rfl, f2, h2⟩ := hq
        simp only [une2]
        refine Ok.bd (c_passing h2 hl hS.b49 (eT_b A _) (by omega) hS.n49) (fun p hq => ?_)
        obtain ⟨p1, M3⟩ := p
        obtain ⟨rfl, f3, h3⟩ := hq
        simp only [une2]
        rw [show rwA A (qA A) (eT A (tmA A + (i + 1))) l (ptA A l / 24) = rwT A l (i + 1) from rfl, bit_at (by omega), followed_at hdb]
        cases hb : bt (rwT A l (i + 1)) (dsq A l i)
        · rw [if_pos (b2_ne.mpr rfl)]
          have e : foP A l i = true := by unfold foP; rw [hb]; rfl
          refine ok_i ⟨M3, Or.inl ?_, (f.trans f2).trans f3, h3⟩
          rw [first_of hn e hi]
          exact ⟨hi, rfl⟩
        · rw [if_neg (fun z => absurd (b2_ne.mp z) (by decide))]
          have e : foP A l i = false := by unfold foP; rw [hb]; rfl
          simp only [Option.bind_some, lte, nI_1]
          refine ok_i ⟨M3, rfl, fun j hj => ?_, (f.trans f2).trans f3, h3⟩
          rcases Nat.lt_or_ge j i with q | q
          · exact hn j q
          · rw [show j = i by omega]; exact e
      · obtain ⟨M', rfl, hn, f, h'⟩ := hI
        show Ok (bX11_follows_50 T x (nI l) (nI (ptA A l / 24)) _ (nI (999 + 1)) M') _
        unfold bX11_follows_50
        rw [i_999, if_pos (by rw [c_lt (by omega) (by omega)]; omega)]
        refine ok_i ⟨M', Or.inr ⟨?_, rfl⟩, f, h'⟩
        rw [first_none hn]; omega
      · obtain ⟨M', hr, f, h'⟩ := hr
        rcases hr with ⟨q, rfl⟩ | ⟨q, rfl⟩
        · rw [if_pos q]; exact ok_i ⟨rfl, f.gf, h'⟩
        · rw [if_neg q]; exact ok_i ⟨rfl, f.gf, h'⟩
    · have h0 := h.t0 (v := 0)
      have hM := h0.rm
      show Ok (fX12_follows T M m (nI l)) _
      unfold fX12_follows
      rw [hM.k, gdI, lte, r_lane1 h0 hl, Option.bind_some, if_neg (by decide)]
      simp (disch := omega) only [gdI, gdT, Option.bind_some, lte, une2, une3, nI_add, gvI, cl_nI, c_le, c_lt, c_eq, Sum.elim_inl, Sum.elim_inr, hM.k, hM.r1, hM.k1, hM.l1, i_42, h0.al, hS.pt (l := l) (by omega)]
      refine Ok.bd (ok_forF (s := (nI (ptA A l), (0 : Int32), pI M m 0 0)) 0 1000 (fun i s => ∃ M', s = (nI (cpt A l (i - 1)), nI i, M') ∧ (0 < i → pip A l = true) ∧ (∀ j, j < i - 1 → foP A l j = false) ∧ FI m (nf m) M M' ∧ RV m A T M') (fun r => ∃ M', FI m (nf m) M M' ∧ ((pip A l = false ∧ r = Sum.inl ((0 : Int32), M')) ∨ (pip A l = true ∧ fa_first (foP A l) 999 < 999 ∧ r = Sum.inl (nI (fa_first (foP A l) 999 + 1), M')) ∨ (pip A l = true ∧ ¬ fa_first (foP A l) 999 < 999 ∧ r = Sum.inr M'))) ⟨_, by rw [cpt_0]; rfl, fun z => absurd z (by omega), fun j hj => absurd hj (by omega), r_t0, h0⟩ (by omega) (by omega) (fun i s _ hi hI => ?_) (fun s hI => ?_)) (fun r hr => ?_)
      · obtain ⟨M', rfl, hpi, hn, f, h'⟩ := hI
        show Ok (bX12_follows_29 T m (nI l) (nI (cpt A l (i - 1))) (nI i) M') _
        unfold bX12_follows_29
        rw [i_999, if_neg (by rw [c_lt (by omega) (by omega)]; omega), h'.rm.k, gdI]
        refine Ok.bd (r_laysAhead h' (by omega)) (fun p hq => ?_)
        obtain ⟨p1, M1⟩ := p
        obtain ⟨d1, f1, h1⟩ := hq
        rw [une2]
        cases i with
        | zero =>
          rw [if_pos (by decide)]
          refine Ok.bd (r_isPassed h1 d1 hl (cpt_b hpt).1) (fun p hq => ?_)
          obtain ⟨p1, M3⟩ := p
          obtain ⟨rfl, f3⟩ := hq
          have g3 := f3.wide (fun _ _ => wf_nf)
          have ep : psd A (qA A) (eT A (tmA A + 0)) l (cpt A l (0 - 1) / 24) (cpt A l (0 - 1) % 24) = pip A l := by
            rw [show (0 - 1 : Nat) = 0 from rfl, cpt_0]; rfl
          rw [une2, ep]
          simp only [lte, nI_1]
          cases hb : pip A l
          · rw [if_pos (b2_ne.mpr rfl)]
            exact ok_i ⟨M3, (f.trans f1).trans g3, Or.inl ⟨rfl, rfl⟩⟩
          · rw [if_neg (fun z => absurd (b2_ne.mp z) (by decide))]
            exact ok_i ⟨M3, rfl, fun _ => rfl, fun j hj => absurd hj (by omega), (f.trans f1).trans g3, h1.fi g3 (fun _ _ => nf_qf)⟩
        | succ k =>
          have hpip := hpi (by omega)
          rw [if_neg (by rw [i_0, c_le (by omega) (by omega)]; omega)]
          rw [show k + 1 - 1 = k by omega] at hn ⊢
          refine Ok.bd (r_followedFrom h1 d1 hl (cpt_b hpt).1) (fun p hq => ?_)
          obtain ⟨p1, M3⟩ := p
          obtain ⟨rfl, f3⟩ := hq
          have g3 := f3.wide (fun _ _ => wf_nf)
          rw [une2, cpt_s hpt]
          have h3 := h1.fi g3 (fun _ _ => nf_qf)
          refine Ok.bd (r_isPassed h3 (d1.w f3) hl (cpt_b hpt).1) (fun p hq => ?_)
          obtain ⟨p1, M4⟩ := p
          obtain ⟨rfl, f4⟩ := hq
          have g4 := f4.wide (fun _ _ => wf_nf)
          have ep : psd A (qA A) (eT A (tmA A + (k + 1))) l (cpt A l (k + 1) / 24) (cpt A l (k + 1) % 24) = !foP A l k := by
            obtain ⟨_, e2, e3⟩ := cpt_b (n := k + 1) hpt
            rw [e2, e3, ← foP_s]
            exact (bt_rw (dsq_b _)).symm
          rw [une2, ep]
          simp only [lte, nI_1]
          cases hb : foP A l k
          · rw [if_neg (fun z => absurd (b2_ne.mp z) (by decide))]
            refine ok_i ⟨M4, rfl, fun _ => hpip, fun j hj => ?_, ((f.trans f1).trans g3).trans g4, h3.fi g4 (fun _ _ => nf_qf)⟩
            rcases Nat.lt_or_ge j k with q | q
            · exact hn j q
            · rw [show j = k by omega]; exact hb
          · rw [if_pos (by decide)]
            refine ok_i ⟨M4, ((f.trans f1).trans g3).trans g4, Or.inr (Or.inl ?_)⟩
            rw [first_of hn hb (by omega)]
            exact ⟨hpip, by omega, rfl⟩
      · obtain ⟨M', rfl, hpi, hn, f, h'⟩ := hI
        show Ok (bX12_follows_29 T m (nI l) _ (nI 1000) M') _
        unfold bX12_follows_29
        rw [i_999, if_pos (by rw [c_lt (by omega) (by omega)]; omega)]
        refine ok_i ⟨M', f, Or.inr (Or.inr ⟨hpi (by omega), ?_, rfl⟩)⟩
        rw [first_none (fun j hj => hn j (by omega))]; omega
      · obtain ⟨M', f, hr⟩ := hr
        rcases hr with ⟨q, rfl⟩ | ⟨q, q2, rfl⟩ | ⟨q, q2, rfl⟩
        · rw [q, if_neg (by decide)]; exact ok_i ⟨rfl, f.qf (fun _ _ => nf_qf)⟩
        · rw [q, if_pos rfl, if_pos q2]; exact ok_i ⟨rfl, f.qf (fun _ _ => nf_qf)⟩
        · rw [q, if_pos rfl, if_neg q2]; exact ok_i ⟨rfl, f.qf (fun _ _ => nf_qf)⟩
  · refine ⟨-2, fun T M h => ?_, fun T M h => ?_⟩
    · show Ok (fX11_follows T M x a) _
      unfold fX11_follows
      rw [c_lane0 h hn, h.px.k0, gdI, Option.bind_some, if_neg (by decide)]
      exact ok_i ⟨rfl, GF.rfl, h⟩
    · have h0 := h.t0 (v := 0)
      show Ok (fX12_follows T M m a) _
      unfold fX12_follows
      rw [h0.rm.k, gdI, lte, r_lane0 h0 hn, Option.bind_some, if_pos rfl]
      exact ok_i ⟨rfl, r_t0.qf (fun _ _ => nf_qf)⟩
theorem q_at (hL : LV A) (hS : SV A) (a b : Int32) : QQ x m A (fun T M => fX11_at T M x a b) (fun T M => fX12_at T M m a b) := by
  have h6 := hL.b3
  rcases ix_I a (nlA A) (by omega) with ⟨l, hl, rfl⟩ | hn
  · rcases ix_I b 1000 (by omega) with ⟨n, hn, rfl⟩ | hn
    · have hpt := hS.ptb (l := l) (by omega)
      have hb48 := hS.b48
      refine ⟨nI (cpt A l n), fun T M h => ?_, fun T M h => ?_⟩
      · have hp := h.px
        show Ok (fX11_at T M x (nI l) (nI n)) _
        unfold fX11_at
        rw [c_lane1 h hl, hp.k0, gdI, Option.bind_some, if_pos rfl, i_999, rng1' (by omega) (by omega)]
        simp (disch := omega) only [gdI, gdT, Option.bind_some, lte, une2, une3, nI_add, gvI, cl_nI, c_le, c_lt, c_eq, Sum.elim_inl, Sum.elim_inr, hp.k0, hp.k25, hp.k26, hp.l26, hp.r0_0, hp.r0_2, hp.r0_3, hp.r0_4, hp.r0_5, hp.r0_6, hp.r0_7, hp.r0_9, hp.r0_10, hp.r0_13, hp.r25_0, h.pt (l := l) (by omega), hS.pt (l := l) (by omega), i_24, c_div, c_remQ]
        refine Ok.bd (ok_forF (s := (nI (ptA A l % 24), (1 : Int32), M)) 0 n (fun i s => ∃ M', s = (nI (dsq A l i), nI (i + 1), M') ∧ PF x M M' ∧ CV x A T M') (fun r => ∃ M', r = (nI (dsq A l n), M') ∧ PF x M M' ∧ CV x A T M') ⟨M, rfl, PF.rfl, h⟩ (by omega) (by omega) (fun i s _ hi hI => ?_) (fun s hI => ?_)) (fun r hr => ?_)
        · obtain ⟨M', rfl, f, h'⟩ := hI
          have hp' := h'.px
          have hdb := dsq_b (A := A) (l := l) i
          show Ok (bX11_at_55 T x (nI l) (nI n) (nI (ptA A l / 24)) (nI (dsq A l i)) (nI (i + 1)) M') _
          unfold bX11_at_55
          rw [if_neg (by rw [c_lt (by omega) (by omega)]; omega)]
          simp (disch := omega) only [gdI, gdT, Option.bind_some, lte, une2, une3, nI_add, gvI, cl_nI, c_le, c_lt, c_eq, Sum.elim_inl, Sum.elim_inr, hp'.k0, hp'.k8, hp'.k15, hp'.l15, hp'.k16, hp'.l16, hp'.k17, hp'.l17, hp'.k18, hp'.l18, hp'.k25, hp'.k26, hp'.l26, hp'.r0_0, hp'.r0_2, hp'.r0_3, hp'.r0_4, hp'.r0_5, hp'.r0_6, hp'.r0_7, hp'.r0_9, hp'.r0_10, hp'.r0_13, hp'.r8_1, hp'.r8_2, hp'.r8_4, hp'.r8_5, hp'.r25_0, h'.tm, h'.pa, hS.n48]
          refine Ok.bd (c_driftAt h' (by omega)) (fun p hq => ?_)
          obtain ⟨p1, M2⟩ := p
          obtain ⟨rfl, f2, h2⟩ := hq
          simp only [une2]
          refine Ok.bd (c_passing h2 hl hS.b49 (eT_b A _) (by omega) hS.n49) (fun p hq => ?_)
          obtain ⟨p1, M3⟩ := p
          obtain ⟨rfl, f3, h3⟩ := hq
          simp only [une2]
          rw [show rwA A (qA A) (eT A (tmA A + (i + 1))) l (ptA A l / 24) = rwT A l (i + 1) from rfl, followed_at hdb]
          simp only [Option.bind_some, lte, nI_1]
          exact ok_i ⟨M3, rfl, (f.trans f2).trans f3, h3⟩
        · obtain ⟨M', rfl, f, h'⟩ := hI
          show Ok (bX11_at_55 T x (nI l) (nI n) (nI (ptA A l / 24)) _ (nI (n + 1)) M') _
          unfold bX11_at_55
          rw [if_pos (by rw [c_lt (by omega) (by omega)]; omega)]
          exact ok_i ⟨M', rfl, f, h'⟩
        · obtain ⟨M', rfl, f, h'⟩ := hr
          rw [une2, c_mul, nI_add]
          exact ok_i ⟨rfl, f.gf, h'⟩
      · have h0 := h.t0 (v := 0)
        have hM := h0.rm
        show Ok (fX12_at T M m (nI l) (nI n)) _
        unfold fX12_at
        rw [hM.k, gdI, lte, r_lane1 h0 hl, Option.bind_some, if_neg (by decide), L_0, L_999, r_in1 (by omega) (by omega) (by omega), Option.bind_some, if_neg (by decide)]
        simp (disch := omega) only [gdI, gdT, Option.bind_some, lte, une2, une3, nI_add, gvI, cl_nI, c_le, c_lt, c_eq, Sum.elim_inl, Sum.elim_inr, hM.k, hM.r1, hM.k1, hM.l1, i_42, h0.al, hS.pt (l := l) (by omega)]
        refine Ok.bd (ok_forF (s := (nI (ptA A l), (1 : Int32), pI M m 0 0)) 0 n (fun i s => ∃ M', s = (nI (cpt A l i), nI (i + 1), M') ∧ FI m (nf m) M M' ∧ RV m A T M') (fun r => ∃ M', r = (nI (cpt A l n), M') ∧ FI m (nf m) M M') ⟨_, by rw [cpt_0]; rfl, r_t0, h0⟩ (by omega) (by omega) (fun i s _ hi hI => ?_) (fun s hI => ?_)) (fun r hr => ?_)
        · obtain ⟨M', rfl, f, h'⟩ := hI
          show Ok (bX12_at_45 T m (nI l) (nI n) (nI (cpt A l i)) (nI (i + 1)) M') _
          unfold bX12_at_45
          rw [if_neg (by rw [c_lt (by omega) (by omega)]; omega), h'.rm.k, gdI]
          refine Ok.bd (r_laysAhead h' (by omega)) (fun p hq => ?_)
          obtain ⟨p1, M1⟩ := p
          obtain ⟨d1, f1, h1⟩ := hq
          rw [une2]
          refine Ok.bd (r_followedFrom h1 d1 hl (cpt_b hpt).1) (fun p hq => ?_)
          obtain ⟨p1, M3⟩ := p
          obtain ⟨rfl, f3⟩ := hq
          have g3 := f3.wide (fun _ _ => wf_nf)
          rw [une2, cpt_s hpt, lte, nI_1]
          exact ok_i ⟨M3, rfl, (f.trans f1).trans g3, h1.fi g3 (fun _ _ => nf_qf)⟩
        · obtain ⟨M', rfl, f, h'⟩ := hI
          show Ok (bX12_at_45 T m (nI l) (nI n) _ (nI (n + 1)) M') _
          unfold bX12_at_45
          rw [if_pos (by rw [c_lt (by omega) (by omega)]; omega)]
          exact ok_i ⟨M', rfl, f⟩
        · obtain ⟨M', rfl, f⟩ := hr
          exact ok_i ⟨rfl, f.qf (fun _ _ => nf_qf)⟩
    · refine ⟨-3, fun T M h => ?_, fun T M h => ?_⟩
      · show Ok (fX11_at T M x (nI l) b) _
        unfold fX11_at
        rw [c_lane1 h hl, h.px.k0, gdI, Option.bind_some, if_pos rfl, i_999, rng0' (by omega) hn]
        exact ok_i ⟨rfl, GF.rfl, h⟩
      · have h0 := h.t0 (v := 0)
        show Ok (fX12_at T M m (nI l) b) _
        unfold fX12_at
        rw [h0.rm.k, gdI, lte, r_lane1 h0 hl, Option.bind_some, if_neg (by decide), L_0, L_999, r_in0 (by omega) (by omega) (by omega), Option.bind_some, if_pos rfl]
        exact ok_i ⟨rfl, r_t0.qf (fun _ _ => nf_qf)⟩
  · refine ⟨-2, fun T M h => ?_, fun T M h => ?_⟩
    · show Ok (fX11_at T M x a b) _
      unfold fX11_at
      rw [c_lane0 h hn, h.px.k0, gdI, Option.bind_some, if_neg (by decide)]
      exact ok_i ⟨rfl, GF.rfl, h⟩
    · have h0 := h.t0 (v := 0)
      show Ok (fX12_at T M m a b) _
      unfold fX12_at
      rw [h0.rm.k, gdI, lte, r_lane0 h0 hn, Option.bind_some, if_pos rfl]
      exact ok_i ⟨rfl, r_t0.qf (fun _ _ => nf_qf)⟩
/-! the bus -/
def bsA (A : Nat → Int32) : Nat → Int32
  | 0 => 16777215
  | i + 1 => bsA A i &&& mpA A i (ptA A i / 24)
theorem bsA_24 : ∀ i, r24 (bsA A i)
  | 0 => r24_full
  | i + 1 => r24_and (bsA_24 i)
theorem q_bus (hL : LV A) (hS : SV A) (a : Int32) : QQ x m A (fun T M => fX11_bus T M x a) (fun T M => fX12_bus T M m a) := by
  have h6 := hL.b3
  rcases ix_I a 3 (by omega) with ⟨w, hw, rfl⟩ | hn
  · have hg := lgn_le (bt (bsA A (nlA A)))
    refine ⟨if nlA A = 0 then -1 else if w = 0 then bsA A (nlA A) else if w = 1 then nI (lgn (bt (bsA A (nlA A)))) else if lgn (bt (bsA A (nlA A))) = 0 then -1 else nI (lgf (bt (bsA A (nlA A)))), fun T M h => ?_, fun T M h => ?_⟩
    · have hp := h.px
      obtain ⟨q, hq, hb⟩ := h.lab
      show Ok (fX11_bus T M x (nI w)) _
      unfold fX11_bus
      rw [i_2, rng1' (by omega) (by omega)]
      simp only [gdI, gdT, Option.bind_some, lte, une2, une3, nI_add, gvI, cl_nI, c_le, c_lt, c_eq, Sum.elim_inl, Sum.elim_inr, hp.k0, hp.k8, hp.k15, hp.l15, hp.k16, hp.l16, hp.k17, hp.l17, hp.k18, hp.l18, hp.r0_0, hp.r0_2, hp.r0_3, hp.r0_4, hp.r0_5, hp.r0_6, hp.r0_7, hp.r0_9, hp.r0_10, hp.r0_13, hp.r8_1, hp.r8_2, hp.r8_4, hp.r8_5, hq, hb.k, hb.f7, hL.n3]
      rw [i_0, ite_eq (by omega) (by omega)]
      by_cases e0 : nlA A = 0
      · rw [if_pos e0, if_pos e0]
        exact ok_i ⟨rfl, GF.rfl, h⟩
      rw [if_neg e0, if_neg e0]
      refine Ok.bd (ok_forF (s := ((16777215 : Int32), nI 0, M)) 0 (nlA A) (fun i s => ∃ M', s = (bsA A i, nI i, M') ∧ PF x M M' ∧ CV x A T M') (fun r => ∃ M', r = (bsA A (nlA A), M') ∧ PF x M M' ∧ CV x A T M') ⟨M, rfl, PF.rfl, h⟩ (by omega) (by omega) (fun i s _ hi hI => ?_) (fun s hI => ?_)) (fun r hr => ?_)
      · obtain ⟨M', rfl, f, h'⟩ := hI
        have hp' := h'.px
        obtain ⟨q', hq', hb'⟩ := h'.lab
        have hpt := hS.ptb (l := i) (by omega)
        show Ok (bX11_bus_33 T x (nI w) (bsA A i) (nI i) M') _
        unfold bX11_bus_33
        simp (disch := omega) only [gdI, gdT, Option.bind_some, lte, une2, une3, nI_add, gvI, cl_nI, c_le, c_lt, c_eq, Sum.elim_inl, Sum.elim_inr, hp'.k0, hp'.k8, hp'.k15, hp'.l15, hp'.k16, hp'.l16, hp'.k17, hp'.l17, hp'.k18, hp'.l18, hp'.k25, hp'.k26, hp'.l26, hp'.r0_0, hp'.r0_2, hp'.r0_3, hp'.r0_4, hp'.r0_5, hp'.r0_6, hp'.r0_7, hp'.r0_9, hp'.r0_10, hp'.r0_13, hp'.r8_1, hp'.r8_2, hp'.r8_4, hp'.r8_5, hp'.r25_0, hq', hb'.k, hb'.f7, hL.n3, Nat.not_le.mpr hi, if_false, h'.pt (l := i) (by omega), hS.pt (l := i) (by omega), i_24, c_div]
        refine Ok.bd (c_rowNow h' hi (by omega)) (fun p hq => ?_)
        obtain ⟨p1, M2⟩ := p
        obtain ⟨rfl, f2, h2⟩ := hq
        simp only [une2, lte, nI_1]
        exact ok_i ⟨M2, rfl, f.trans f2, h2⟩
      · obtain ⟨M', rfl, f, h'⟩ := hI
        have hp' := h'.px
        obtain ⟨q', hq', hb'⟩ := h'.lab
        show Ok (bX11_bus_33 T x (nI w) _ (nI (nlA A)) M') _
        unfold bX11_bus_33
        simp (disch := omega) only [gdI, gdT, Option.bind_some, lte, une2, une3, nI_add, gvI, cl_nI, c_le, c_lt, c_eq, Sum.elim_inl, Sum.elim_inr, hp'.k0, hp'.k8, hp'.k15, hp'.l15, hp'.k16, hp'.l16, hp'.k17, hp'.l17, hp'.k18, hp'.l18, hp'.r0_0, hp'.r0_2, hp'.r0_3, hp'.r0_4, hp'.r0_5, hp'.r0_6, hp'.r0_7, hp'.r0_9, hp'.r0_10, hp'.r0_13, hp'.r8_1, hp'.r8_2, hp'.r8_4, hp'.r8_5, hq', hb'.k, hb'.f7, hL.n3, Nat.le_refl, if_true]
        exact ok_i ⟨M', rfl, f, h'⟩
      · obtain ⟨M', rfl, f, h'⟩ := hr
        rw [une2, longest_at (bsA_24 _)]
        simp only [Option.bind_some]
        rw [i_1]
        simp (disch := omega) only [c_eq]
        by_cases w0 : w = 0
        · rw [if_pos w0, if_pos w0]; exact ok_i ⟨rfl, f.gf, h'⟩
        · rw [if_neg w0, if_neg w0]
          by_cases w1 : w = 1
          · rw [if_pos w1, if_pos w1]; exact ok_i ⟨rfl, f.gf, h'⟩
          · rw [if_neg w1, if_neg w1]
            by_cases g0 : lgn (bt (bsA A (nlA A))) = 0
            · rw [if_pos g0, if_pos g0]; exact ok_i ⟨rfl, f.gf, h'⟩
            · rw [if_neg g0, if_neg g0, firstRun_at (by omega)]
              exact ok_i ⟨rfl, f.gf, h'⟩
    · have h0 := h.t0 (v := 0)
      have hM := h0.rm
      show Ok (fX12_bus T M m (nI w)) _
      unfold fX12_bus
      rw [hM.k, gdI, lte, L_0, L_2, r_in1 (by omega) (by omega) (by omega), Option.bind_some, if_neg (by decide)]
      simp (disch := omega) only [gdI, gdT, Option.bind_some, lte, une2, une3, nI_add, gvI, cl_nI, c_le, c_lt, c_eq, Sum.elim_inl, Sum.elim_inr, hM.k, hM.r1, hM.k1, hM.l1, i_3, h0.al, hL.n3]
      rw [i_0, ite_eq (by omega) (by omega)]
      by_cases e0 : nlA A = 0
      · rw [if_pos e0, if_pos e0]
        exact ok_i ⟨rfl, r_t0.qf (fun _ _ => nf_qf)⟩
      rw [if_neg e0, if_neg e0]
      refine Ok.bd (r_laysNow h0) (fun p hq => ?_)
      obtain ⟨p1, M1⟩ := p
      obtain ⟨d1, f1, h1⟩ := hq
      rw [une2]
      refine Ok.bd (ok_forF (s := ((16777215 : Int32), nI 0, M1)) 0 (nlA A) (fun i s => ∃ M', s = (bsA A i, nI i, M') ∧ FI m (wf m) M1 M') (fun r => ∃ M', r = (bsA A (nlA A), M') ∧ FI m (wf m) M1 M') ⟨M1, rfl, FI.rfl⟩ (by omega) (by omega) (fun i s _ hi hI => ?_) (fun s hI => ?_)) (fun r hr => ?_)
      · obtain ⟨M', rfl, f⟩ := hI
        have h' : RV m A T M' := h1.fi f (fun _ _ => wf_qf)
        have hM' := h'.rm
        have hpt := hS.ptb (l := i) (by omega)
        show Ok (bX12_bus_41 T m (nI w) (bsA A i) (nI i) M') _
        unfold bX12_bus_41
        simp (disch := omega) only [gdI, gdT, Option.bind_some, lte, une2, une3, nI_add, gvI, cl_nI, c_le, c_lt, c_eq, Sum.elim_inl, Sum.elim_inr, hM'.k, hM'.r1, hM'.k1, hM'.l1, i_3, i_42, i_24, h'.al, hL.n3, Nat.not_le.mpr hi, if_false, hS.pt (l := i) (by omega), c_div]
        refine Ok.bd (r_rowOf h' (d1.w f) hi (by omega)) (fun p hq => ?_)
        obtain ⟨p1, M2⟩ := p
        obtain ⟨rfl, f2⟩ := hq
        simp only [une2, lte, nI_1]
        exact ok_i ⟨M2, rfl, f.trans f2⟩
      · obtain ⟨M', rfl, f⟩ := hI
        have h' : RV m A T M' := h1.fi f (fun _ _ => wf_qf)
        have hM' := h'.rm
        show Ok (bX12_bus_41 T m (nI w) _ (nI (nlA A)) M') _
        unfold bX12_bus_41
        simp (disch := omega) only [gdI, gdT, Option.bind_some, lte, une2, une3, nI_add, gvI, cl_nI, c_le, c_lt, c_eq, Sum.elim_inl, Sum.elim_inr, hM'.k, hM'.r1, hM'.k1, hM'.l1, i_3, h'.al, hL.n3, Nat.le_refl, if_true]
        exact ok_i ⟨M', rfl, f⟩
      · obtain ⟨M', rfl, f⟩ := hr
        have h' : RV m A T M' := h1.fi f (fun _ _ => wf_qf)
        rw [une2]
        refine Ok.bd (r_longestIn h'.rm) (fun p hq => ?_)
        obtain ⟨p1, M2⟩ := p
        obtain ⟨rfl, g2, f2⟩ := hq
        have fin : QF m M M2 := (((r_t0.trans f1).trans (f.wide (fun _ _ => wf_nf))).qf (fun _ _ => nf_qf)).trans (f2.qf (fun a k q => by unfold sq; omega))
        simp only [une2, g2]
        rw [i_1]
        simp (disch := omega) only [c_eq]
        repeat' split
        all_goals exact ok_i ⟨rfl, fin⟩
  · refine ⟨-2, fun T M h => ?_, fun T M h => ?_⟩
    · show Ok (fX11_bus T M x a) _
      unfold fX11_bus
      rw [i_2, rng0' (by omega) hn]
      exact ok_i ⟨rfl, GF.rfl, h⟩
    · have h0 := h.t0 (v := 0)
      show Ok (fX12_bus T M m a) _
      unfold fX12_bus
      rw [h0.rm.k, gdI, lte, L_0, L_2, r_in0 (by omega) (by omega) (by omega), Option.bind_some, if_pos rfl]
      exact ok_i ⟨rfl, r_t0.qf (fun _ _ => nf_qf)⟩
end
