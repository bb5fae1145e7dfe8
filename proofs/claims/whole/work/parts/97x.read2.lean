section
variable {x m n N lw i o q d a l p : Nat} {b : Nat → Nat} {u : Int32} {T T2 : Sh} {M M1 M2 : Me} {F G : Nat → Int32}
def hd0 (v1 v2 : Nat) (k : Nat) : Int32 := if k = 1 then nI v1 else if k = 2 then nI v2 else plF k
theorem r_head {P : Int32 × Me → Prop} (hN : TN n b N) (h : TR m n b T M) (h7 : gI M m 7 = 0) (h11 : gI M m 11 = 0) (hF : ∀ k, k < 1032 → gI M (m + 4) k = plF k) (hK : ∀ M', RBF m n N b T 6 (hf4 n b) M' → FI m (rz m) M M' → (hf4 n b = none → ∀ k, k < 1032 → gI M' (m + 4) k = hdF (tV b n 2) (tV b n 4) k) → Ok ((lp FU (fun s => bX12_lab_98 T m s) M').bind (fun M34 => lt (pI M34 m 13 (gI M34 m 11)) fun M35 => if (gI M35 m 11) = 0 then (jX12_lab_149 T M35 m (-1 : Int32) m) else (jX12_lab_149 T M35 m (gI M35 m 12) m))) P) : Ok (Option.bind (fX12_next T M m) <| un2 fun _u M11 => Option.bind (fX12_eats T M11 m (0 : Int32)) <| un2 fun r12 M13 => if r12 = 0 then (Option.bind (fX12_fails T M13 m (2 : Int32)) <| un2 fun _u M55 => jX12_lab_66 T M55 m) else (jX12_lab_66 T M13 m)) P := by
  refine Ok.bd (r_nextp (p := 0) h h7 (Nat.zero_le _)) (fun p hp => ?_)
  obtain ⟨p1, M0⟩ := p
  obtain ⟨f0, a6, a7, a9, a10⟩ := hp
  have f0 : FI m (tq m) M M0 := f0
  have g0 : RBF m n N b T 0 none M0 := ⟨h.tqf f0, a6, a7, a9, a10, (f0.1 _ _ (by unfold tq; omega)).trans h11, Nat.zero_le _, hN⟩
  rw [une2]
  refine r_expA (k := 0) g0 rfl (by omega) (by omega) (by omega) (fun M1 g1 f1 => ?_)
  have g1 : RBF m n N b T 1 (hf1 n b) M1 := g1
  have hm1 := g1.rm
  unfold jX12_lab_66
  rw [hm1.k, gdI, hm1.r4, Option.bind_some]
  refine Ok.bd (r_named (k := 1) (lo := 1) (hi := 9) g1 rfl (by omega) (by omega) (by omega)) (fun p hp => ?_)
  obtain ⟨r2, M2⟩ := p
  obtain ⟨v2, g2, f2⟩ := hp
  have v2 : hf2 n b = none → r2 = nI (tV b n 2) := v2
  have g2 : RBF m n N b T 3 (hf2 n b) M2 := g2
  have f2 : FI m (rh m) M1 M2 := f2
  have g2' : RBF m n N b T 3 (hf2 n b) (pI M2 (m + 4) 1 r2) := g2.pw
  have hm2 := g2'.rm
  rw [une2, hm1.k4, gdI, hm1.l4, i_1, gvI (by omega) (by omega), lte, cl_nI (by omega), hm2.r4, Option.bind_some]
  refine Ok.bd (r_named (k := 2) (lo := 1) (hi := 9) g2' rfl (by omega) (by omega) (by omega)) (fun p hp => ?_)
  obtain ⟨r3, M3⟩ := p
  obtain ⟨v3, g3, f3⟩ := hp
  have v3 : hf3 n b = none → r3 = nI (tV b n 4) := v3
  have g3 : RBF m n N b T 5 (hf3 n b) M3 := g3
  have f3 : FI m (rh m) (pI M2 (m + 4) 1 r2) M3 := f3
  have g3' : RBF m n N b T 5 (hf3 n b) (pI M3 (m + 4) 2 r3) := g3.pw
  rw [une2, hm1.k4, gdI, hm1.l4, i_2, gvI (by omega) (by omega), lte, cl_nI (by omega)]
  have w0 : FI m (rz m) M M0 := f0.wide (fun a k z => Or.inl (Or.inl (rh_tq z)))
  have w1 : FI m (rz m) M0 M1 := f1.wide (fun a k z => Or.inl (Or.inl z))
  have w2 : FI m (rz m) M1 M2 := f2.wide (fun a k z => Or.inl (Or.inl z))
  have w3 : FI m (rz m) (pI M2 (m + 4) 1 r2) M3 := f3.wide (fun a k z => Or.inl (Or.inl z))
  have w4 : FI m (rz m) M (pI M2 (m + 4) 1 r2) := ((w0.trans w1).trans w2).pI (Or.inl (Or.inr rfl))
  have fz : FI m (rz m) M (pI M3 (m + 4) 2 r3) := (w4.trans w3).pI (Or.inl (Or.inr rfl))
  have nrh : ∀ k, ¬ rh m (m + 4) k := fun k z => by unfold rh at z; omega
  have ek : ∀ k, k ≠ 1 → k ≠ 2 → k < 1032 → gI (pI M3 (m + 4) 2 r3) (m + 4) k = plF k := fun k w1 w2 w3 => by
    rw [mIIk w2, f3.1 _ _ (nrh k), mIIk w1, f2.1 _ _ (nrh k), f1.1 _ _ (nrh k), f0.1 _ _ (by unfold tq; omega)]
    exact hF k w3
  have e1 : hf2 n b = none → gI (pI M3 (m + 4) 2 r3) (m + 4) 1 = nI (tV b n 2) := fun w => by
    rw [mIIk (by omega), f3.1 _ _ (nrh 1), mII1]; exact v2 w
  have e2 : hf3 n b = none → gI (pI M3 (m + 4) 2 r3) (m + 4) 2 = nI (tV b n 4) := fun w => by rw [mII1]; exact v3 w
  generalize pI M3 (m + 4) 2 r3 = M4 at g3' fz ek e1 e2
  -- the first end of a line
  have close : Ok (fX12_closes T M4 m) (fun p => RBF m n N b T 6 (hf4 n b) p.2 ∧ FI m (rz m) M4 p.2 ∧ (hf4 n b = none → ∀ k, k < 1032 → gI p.2 (m + 4) k = hdF (tV b n 2) (tV b n 4) k)) := by
    cases h3 : hf3 n b with
    | some f =>
      rw [h3] at g3'
      have e4 : hf4 n b = some f := by unfold hf4; rw [h3]; rfl
      have g3' : RFl m T f.1 f.2 M4 := g3'
      rw [e4]
      exact (r_closF g3'.1 g3'.ne).mono (fun p hp => ⟨g3'.cl hp.1 hp.2.1, hp.2.2, fun q => (by cases q)⟩)
    | none =>
      rw [h3] at g3'
      have g3' : RBq m n N b T 5 M4 := g3'
      by_cases k30 : tK b n 5 = 30
      · have e4 : hf4 n b = none := by unfold hf4; rw [h3]; exact if_pos k30
        obtain ⟨_, _, _, n2, n3⟩ := hf_0 hN e4
        rw [e4]
        have hL : RLs m n N b T 5 (hd0 (tV b n 2) (tV b n 4)) M4 := ⟨g3', fun k hk => by
          unfold hd0
          by_cases y1 : k = 1
          · rw [if_pos y1, y1]; exact e1 n2
          rw [if_neg y1]
          by_cases y2 : k = 2
          · rw [if_pos y2, y2]; exact e2 n3
          rw [if_neg y2]
          exact ek k y1 y2 hk⟩
        refine (r_clos1 hL k30).mono (fun p hp => ⟨hp.1.1, hp.2, fun _ k hk => (hp.1.2 k hk).trans ?_⟩)
        unfold lnF hdF hd0
        by_cases y0 : k = 0
        · rw [if_pos y0, if_pos y0]; rfl
        rw [if_neg y0, if_neg y0]
        by_cases y1 : k = 1
        · rw [if_pos y1, if_pos y1]
        rw [if_neg y1, if_neg y1]
        by_cases y2 : k = 2
        · rw [if_pos y2, if_pos y2]
        rw [if_neg y2, if_neg y2]
        unfold plF
        rw [if_neg y1, if_neg y2]
      · have e4 : hf4 n b = some (fkd n b 5 2, tP b n 5) := by unfold hf4; rw [h3]; exact if_neg k30
        rw [e4]
        exact (r_clos0 g3' k30).mono (fun p hp => ⟨hp.1, hp.2, fun q => (by cases q)⟩)
  refine Ok.bd close (fun p hp => ?_)
  obtain ⟨p1, M5⟩ := p
  rw [une2]
  exact hK M5 hp.1 (fz.trans hp.2.1) hp.2.2
theorem j_read (hn : n ≤ 900) (hb : ∀ i, b i < 256) : RDq x m n b := by
  obtain ⟨N, n1, n2, n3⟩ := tN_ex b n
  have hT : TN n b N := ⟨n1, n2, n3⟩
  have hN : N ≤ 900 := by omega
  -- the class as far as the lines
  have cH : ∀ T M, PX x T M → TX x n b M → x + 88 ≤ tp T → ∃ M20, fX6_read T M (x + 2) (x + 1) (nI n) = (lp FU (fun s => bX6_read_81 (x + 2) (tp T) s.1 s.2.1 s.2.2) ((0 : Int32), lbT T, M20)).bind (un2 fun T33 M34 => jX6_read_130 T33 M34 (x + 2) (tp T)) ∧ CBF x n N b (lbT T) 6 (hf4 n b) M20 ∧ RG x (tp T) M M20 ∧ (hf4 n b = none → CLab x (tp T) (hdF (tV b n 2) (tV b n 4)) (lbT T) M20 ∧ LWn (tp T) M20) := by
    intro T M hp ht htp
    obtain ⟨⟨c1, M4⟩, e4, f4, t4⟩ := c_cut hp ht hT
    have f4 : KF x M M4 := f4
    have t4 : TCp x n b (N + 1) M4 := t4
    have hp4 := hp.kf f4
    have rg4 : RG x (tp T) M M4 := ⟨fun c k a1 a2 => f4.1 c k (by omega) (by omega) (by omega) (by omega), fun c k _ => ⟨by unfold gJ; rw [f4.2], by unfold gR; rw [f4.2]⟩⟩
    have rg7 : RG x (tp T) M (pI (pI (pI M4 (x + 2) 1 0) (x + 2) 2 0) (x + 2) 3 (-1)) := ((rg4.pI (Or.inr ⟨by omega, by omega⟩)).pI (Or.inr ⟨by omega, by omega⟩)).pI (Or.inr ⟨by omega, by omega⟩)
    have h7 : CBq x n N b T 0 (pI (pI (pI M4 (x + 2) 1 0) (x + 2) 2 0) (x + 2) 3 (-1)) := by
      refine ⟨hp4.eq rfl, fun j hj => ⟨?_, ?_, fun z => ?_⟩, ?_, ?_, Nat.zero_le _, hT, hn, mII1⟩
      · rw [mIIn (by omega), mIIn (by omega), mIIn (by omega)]; exact (t4 j hj).1
      · rw [mIIn (by omega), mIIn (by omega), mIIn (by omega)]; exact (t4 j hj).2.1
      · rw [mIIn (by omega), mIIn (by omega), mIIn (by omega)]; exact (t4 j hj).2.2 z
      · rw [mIIk (by omega), mIIk (by omega), mII1]; rfl
      · rw [mIIk (by omega), mII1]
    have eR : fX6_read T M (x + 2) (x + 1) (nI n) = jX6_read_27 (nT T 2 0 13) (nM T (pI (pI (pI M4 (x + 2) 1 0) (x + 2) 2 0) (x + 2) 3 (-1))) (x + 2) (tp T) := by
      unfold fX6_read
      rw [hp.k2, gdI, hp.r2_0, Option.bind_some, hp.k3, gdI, e4, Option.bind_some, une2, lte, lte, lte]
    generalize pI (pI (pI M4 (x + 2) 1 0) (x + 2) 2 0) (x + 2) 3 (-1) = M7 at rg7 h7 eR
    obtain ⟨⟨d1, T9, M8⟩, e8, q1, q2, q3, q4⟩ := c_newLab (M := M7) htp
    have q1 : T9 = lbT T := q1
    have q2 : CLab x (tp T) plF (lbT T) M8 := q2
    have q3 : LWn (tp T) M8 := q3
    subst q1
    have h8 : CBq x n N b (lbT T) 0 M8 := h7.old lbT_te htp q4
    have hL : LBs x (tp T) (lbT T) M8 := ⟨htp, q2.k, q2.2.1⟩
    have rg8 : RG x (tp T) M M8 := rg7.trans ⟨fun c k w1 w2 => (q4 c k w1).1, fun c k w1 => (q4 c k w1).2⟩ (Nat.le_refl _)
    obtain ⟨M20, e20, g1, g2, g3⟩ := c_head hL q2 q3 h8
    refine ⟨M20, ?_, g1, rg8.trans g2 (Nat.le_refl _), fun w => g3 w hT⟩
    rw [eR]
    unfold jX6_read_27
    rw [e8, Option.bind_some, une3]
    unfold jX6_read_31
    rw [h8.1.k2, gdI]
    -- the head was told as a whole
    have split : ∀ K : Me → Option (Option Nat × Sh × Me), (Option.bind (fX6_expect (lbT T) M8 (x + 2) (206 : Int32)) <| un2 fun _u M11 => Option.bind (fX6_numberBehind (lbT T) M11 (x + 2) (207 : Int32) (1 : Int32) (9 : Int32)) <| un2 fun r12 M13 => gd (kd (lbT T) (tp T) = 2) <| lt (pI M13 (tp T) 5 r12) fun M15 => Option.bind (fX6_numberBehind (lbT T) M15 (x + 2) (208 : Int32) (1 : Int32) (9 : Int32)) <| un2 fun r16 M17 => lt (pI M17 (tp T) 6 r16) fun M18 => Option.bind (fX6_expect (lbT T) M18 (x + 2) (59 : Int32)) <| un2 fun _u M19 => lt (pI M19 (tp T) 9 (1 : Int32)) fun M20 => K M20) = Option.bind (Option.bind (fX6_expect (lbT T) M8 (x + 2) (206 : Int32)) <| un2 fun _u M11 => Option.bind (fX6_numberBehind (lbT T) M11 (x + 2) (207 : Int32) (1 : Int32) (9 : Int32)) <| un2 fun r12 M13 => gd (kd (lbT T) (tp T) = 2) <| lt (pI M13 (tp T) 5 r12) fun M15 => Option.bind (fX6_numberBehind (lbT T) M15 (x + 2) (208 : Int32) (1 : Int32) (9 : Int32)) <| un2 fun r16 M17 => lt (pI M17 (tp T) 6 r16) fun M18 => Option.bind (fX6_expect (lbT T) M18 (x + 2) (59 : Int32)) <| un2 fun _u M19 => lt (pI M19 (tp T) 9 (1 : Int32)) fun M20 => (some M20 : Option Me)) K := by
      intro K
      rw [q2.k]
      simp only [gdI, gdT, lte]
      rcases fX6_expect (lbT T) M8 (x + 2) 206 with _ | ⟨u1, m1⟩
      · rfl
      rw [Option.bind_some, Option.bind_some, une2, une2]
      rcases fX6_numberBehind (lbT T) m1 (x + 2) 207 1 9 with _ | ⟨u2, m2⟩
      · rfl
      rw [Option.bind_some, Option.bind_some, une2, une2]
      rcases fX6_numberBehind (lbT T) (pI m2 (tp T) 5 u2) (x + 2) 208 1 9 with _ | ⟨u3, m3⟩
      · rfl
      rw [Option.bind_some, Option.bind_some, une2, une2]
      rcases fX6_expect (lbT T) (pI m3 (tp T) 6 u3) (x + 2) 59 with _ | ⟨u4, m4⟩
      · rfl
      rfl
    rw [split, e20, Option.bind_some]
  have tpl : ∀ T, tp (lbT T) = tp T + 6 ∧ sl (lbT T) = sl T + 42 := fun T => ⟨rfl, rfl⟩
  cases h4 : hf4 n b with
  | some f =>
    refine Or.inr ⟨f, fun T M hp ht htp => ?_, fun T M hR h7 h11 hF P hK => ?_⟩
    · obtain ⟨M20, e, g1, g2, _⟩ := cH T M hp ht htp
      rw [h4] at g1
      have g1 : CFl x (lbT T) f.1 f.2 M20 := g1
      rw [e, lpF_inr (show bX6_read_81 (x + 2) (tp T) (nI 0) (lbT T) M20 = some (.inr (lbT T, M20)) from c_stopF g1.1 g1.ne (by omega)), Option.bind_some, une2]
      unfold jX6_read_130
      rw [g1.1.k2, gdI, if_neg g1.ne]
      exact ok_i ⟨rfl, g1, lbT_te, g2, by show tp (lbT T) ≤ _; rw [(tpl T).1]; omega, by show sl (lbT T) ≤ _; rw [(tpl T).2]; omega⟩
    · refine r_head hT hR h7 h11 hF (fun M' g1 g2 _ => ?_)
      rw [h4] at g1
      have g1 : RFl m T f.1 f.2 M' := g1
      rw [lpF_inr (r_stopF g1.1 g1.ne), Option.bind_some]
      exact hK M' g1 g2
  | none =>
    obtain ⟨N6, v1, v2, _, _⟩ := hf_0 hT h4
    have hV := hdF_FV v1 v2
    have fu : N - 6 + 2 < FU := by show N - 6 + 2 < 1000000; omega
    rcases j_lines (x := x) (m := m) hN hT (N - 6) 6 0 _ (Nat.le_refl _) N6 (Nat.le_refl _) hV (by omega) with ⟨i2, F2, q2, l1, l2, hV2, hc, hr⟩ | ⟨fl, hc, hr⟩
    · refine Or.inl ⟨F2, q2, hV2, fun T M hp ht htp => ?_, fun T M hR h7 h11 hF P hK => ?_⟩
      · obtain ⟨M20, e, g1, g2, g3⟩ := cH T M hp ht htp
        rw [h4] at g1
        have g1 : CBq x n N b (lbT T) 6 M20 := g1
        obtain ⟨g4, g5⟩ := g3 h4
        rw [e]
        refine Ok.bd (hc (tp T) (lbT T) M20 0 FU (by omega) fu ⟨g1, g4, g5, htp⟩) (fun r hr => ?_)
        obtain ⟨T3, M3⟩ := r
        obtain ⟨k1, k2, k3, k4, k5⟩ := hr
        have k1 : CLs x (tp T) n N b T3 i2 F2 M3 := k1
        have k4 : tp T3 + 6 ≤ tp (lbT T) + i2 := k4
        have k5 : sl T3 + 6 ≤ sl (lbT T) + i2 := k5
        rw [(tpl T).1] at k4
        rw [(tpl T).2] at k5
        rw [une2]
        unfold jX6_read_130
        rw [k1.1.1.k2, gdI, k1.1.2.2.2.1, if_pos rfl]
        exact ok_i ⟨rfl, k1.2.1, k1.1.1, k1.1.2.2.2.1, k1.1.2.2.2.2.2.2.2, lbT_te.trans k2, g2.trans k3 (Nat.le_refl _), by show tp T3 ≤ _; omega, by show sl T3 ≤ _; omega⟩
      · refine r_head hT hR h7 h11 hF (fun M' g1 g2 g3 => ?_)
        rw [h4] at g1
        have g1 : RBq m n N b T 6 M' := g1
        refine Ok.bd (hr T M' FU fu ⟨g1, g3 h4⟩) (fun M3 hq => ?_)
        exact hK M3 hq.1.1.1.1 hq.1.1.2.2.2.2.2.1 hq.1.2 (g2.trans hq.2)
    · refine Or.inr ⟨fl, fun T M hp ht htp => ?_, fun T M hR h7 h11 hF P hK => ?_⟩
      · obtain ⟨M20, e, g1, g2, g3⟩ := cH T M hp ht htp
        rw [h4] at g1
        have g1 : CBq x n N b (lbT T) 6 M20 := g1
        obtain ⟨g4, g5⟩ := g3 h4
        rw [e]
        refine Ok.bd (hc (tp T) (lbT T) M20 0 FU (by omega) fu ⟨g1, g4, g5, htp⟩) (fun r hr => ?_)
        obtain ⟨T3, M3⟩ := r
        obtain ⟨k1, k2, k3, k4, k5⟩ := hr
        have k1 : CFl x T3 fl.1 fl.2 M3 := k1
        have k4 : tp T3 + 6 ≤ tp (lbT T) + N + 2 := k4
        have k5 : sl T3 + 6 ≤ sl (lbT T) + N + 902 := k5
        rw [(tpl T).1] at k4
        rw [(tpl T).2] at k5
        rw [une2]
        unfold jX6_read_130
        rw [k1.1.k2, gdI, if_neg k1.ne]
        exact ok_i ⟨rfl, k1, lbT_te.trans k2, g2.trans k3 (Nat.le_refl _), by show tp T3 ≤ _; omega, by show sl T3 ≤ _; omega⟩
      · refine r_head hT hR h7 h11 hF (fun M' g1 g2 g3 => ?_)
        rw [h4] at g1
        have g1 : RBq m n N b T 6 M' := g1
        refine Ok.bd (hr T M' FU fu ⟨g1, g3 h4⟩) (fun M3 hq => ?_)
        exact hK M3 hq.1 (g2.trans hq.2)
end
