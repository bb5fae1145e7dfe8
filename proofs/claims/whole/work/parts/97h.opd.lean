section
variable {x m n N lw i o q d : Nat} {b : Nat → Nat} {sp u : Int32} {T : Sh} {M M1 M2 : Me}
theorem JEq.congr {tr : Prop} {Q : Nat} {fc fr fc2 fr2 : Sh → Me → Option (Unit × Me)} (h : JEq x m n N b lw sp tr Q d fc fr) (e1 : ∀ T M, fc2 T M = fc T M) (e2 : ∀ T M, fr2 T M = fr T M) : JEq x m n N b lw sp tr Q d fc2 fr2 := by
  have e1 : fc2 = fc := funext fun T => funext fun M => e1 T M
  have e2 : fr2 = fr := funext fun T => funext fun M => e2 T M
  rw [e1, e2]; exact h
theorem seg_cong {cd cd2 : Nat → Int32} {o : Nat} {cc : List Int32} (h : SEG cd o cc) (e : ∀ j, j < cc.length → cd2 (o + j) = cd (o + j)) : SEG cd2 o cc := (seg_at cc o).mpr (fun j hj => (e j hj).trans ((seg_at cc o).mp h j hj))
theorem CSq.n9 (h : CSq x n N b sp T i o u M) : i ≤ 900 := h.1.n9
theorem k_adv (h : CSq x n N b sp T i o u M) (h1 : tK b n i ≠ 26) (h2 : tK b n i ≠ 27) : CSq x n N b sp T (i + 1) o u (pI M (x + 2) 1 (gI M (x + 2) 1 + 1)) ∧ LFr x M (pI M (x + 2) 1 (gI M (x + 2) 1 + 1)) ∧ ∀ j, gI (pI M (x + 2) 1 (gI M (x + 2) 1 + 1)) (x + 7) j = gI M (x + 7) j := by
  obtain ⟨g1, g2⟩ := k_next h.1 h1 h2
  exact ⟨⟨g1, (mIIk (by omega)).trans h.2.1, (mIIk (by omega)).trans h.2.2.1, (mIIk (by omega)).trans h.2.2.2.1, by have := h.2.2.2.2; omega⟩, g2, fun j => mIIn (by omega)⟩
theorem k_putS {op od : Nat} {oo : Int32} (h : CSq x n N b sp T i o u M) (h9 : o + 9 ≤ i) (eo : oo = nI od) : ∃ M', fX6_put T M (x + 2) (nI op) oo = some (nI o, M') ∧ CSq x n N b sp T i (o + 1) u M' ∧ LFr x M M' ∧ (∀ j, j ≠ o → gI M' (x + 7) j = gI M (x + 7) j) ∧ gI M' (x + 7) o = enc op od := by
  have h900 := h.n9
  have f : LFr x M (pI (pI M (x + 7) o (enc op od)) (x + 2) 5 (nI (o + 1))) := lfr_2 (lfr_7 LFr.rfl) (by omega)
  obtain ⟨⟨c1, c2, c3, c4, c5⟩, h5, h6, h7, h8⟩ := h
  refine ⟨_, k_put c1 h5 (by omega) eo, ⟨⟨c1.lf f, c2.lf f, ?_, ?_, c5.1, c5.2.1, c5.2.2.1, by rw [mIIk (by omega), mIIn (by omega)]; exact c5.2.2.2⟩, mII1, ?_, ?_, by omega⟩, f, fun j hj => ?_, ?_⟩
  · rw [mIIk (by omega), mIIn (by omega)]; exact c3
  · rw [mIIk (by omega), mIIn (by omega)]; exact c4
  · rw [mIIk (by omega), mIIn (by omega)]; exact h6
  · rw [mIIk (by omega), mIIn (by omega)]; exact h7
  · rw [mIIn (by omega), mIIk hj]
  · rw [mIIn (by omega), mII1]
theorem k_opd {β : Type} {K : Int32 → Me → Option β} {P : β → Prop} {fc : Sh → Me → Option (Unit × Me)} {op i2 o0 : Nat} {cc cb2 : List Int32} {u2 : Int32} (h : CSq x n N b sp T i (o0 + cc.length) u M) (hs : SEG (gI M (x + 7)) o0 cc) (h26 : tK b n i ≠ 26) (h27 : tK b n i ≠ 27) (hc : ∀ T M, CSq x n N b sp T (i + 1) (o0 + cc.length) u M → Ok (fc T M) (fun p => CPq x n N b sp T (o0 + cc.length) i2 u2 cb2 M p.2)) (hl : cb2.length + (i + 1) ≤ i2) (hK : ∀ r M', CPq x n N b sp T o0 i2 u2 (cc ++ cb2 ++ [enc op 0]) M M' → Ok (K r M') P) : Ok (Option.bind (fc T (pI M (x + 2) 1 (gI M (x + 2) 1 + 1))) (un2 fun _u M2 => Option.bind (fX6_put T M2 (x + 2) (nI op) 0) (un2 K))) P := by
  obtain ⟨a1, a2, a3⟩ := k_adv h h26 h27
  refine Ok.bd (hc T _ a1) (fun p hp => ?_)
  obtain ⟨p1, M2⟩ := p
  obtain ⟨b1, b2, b3, b4⟩ := hp
  have h8 := h.2.2.2.2
  obtain ⟨M3, e3, c1, c2, c3, c4⟩ := k_putS (op := op) (od := 0) (oo := 0) (M := M2) b1 (by omega) rfl
  rw [une2]
  show Ok (Option.bind (fX6_put T M2 (x + 2) (nI op) 0) (un2 K)) P
  rw [e3, Option.bind_some, une2]
  refine hK _ M3 ⟨?_, (a2.trans b2).trans c2, fun j hj => ?_, ?_⟩
  · have e : o0 + (cc ++ cb2 ++ [enc op 0]).length = o0 + cc.length + cb2.length + 1 := by simp only [List.length_append, List.length_cons, List.length_nil]; omega
    rw [e]; exact c1
  · rw [c3 j (by omega), b3 j (by omega), a3 j]
  · rw [seg_app, seg_app]
    refine ⟨⟨seg_cong hs (fun j hj => by rw [c3 _ (by omega), b3 _ (by omega), a3]), seg_cong b4 (fun j hj => c3 _ (by omega))⟩, ?_, trivial⟩
    rw [show o0 + (cc ++ cb2).length = o0 + cc.length + cb2.length by simp only [List.length_append]; omega]
    exact c4
theorem k_putF {op z fk fp : Nat} (h : CXq x T fk fp z M M1) (hz : z < 900) : ∃ r M', fX6_put T M1 (x + 2) (nI op) 0 = some (nI r, M') ∧ r < 900 ∧ CXq x T fk fp (z + 1) M M' := by
  obtain ⟨⟨c1, c2, c3, c4⟩, f, o2, h5, h6⟩ := h
  have f2 : LFr x M1 (pI (pI M1 (x + 7) o2 (enc op 0)) (x + 2) 5 (nI (o2 + 1))) := lfr_2 (lfr_7 LFr.rfl) (by omega)
  refine ⟨o2, _, k_put c1 h5 (by omega) rfl, by omega, ⟨c1.lf f2, ?_, ?_, c4⟩, f.trans f2, o2 + 1, mII1, by omega⟩
  · rw [mIIk (by omega), mIIn (by omega)]; exact c2
  · rw [mIIk (by omega), mIIn (by omega)]; exact c3
theorem k_landF {z fk fp k : Nat} (h : CXq x T fk fp z M M1) (hk : k < 900) : ∃ M', fX6_land T M1 (x + 2) (nI k) = some ((), M') ∧ CXq x T fk fp z M M' := by
  obtain ⟨⟨c1, c2, c3, c4⟩, f, o2, h5, h6⟩ := h
  have f2 : LFr x M1 (pI M1 (x + 7) k ((gI M1 (x + 7) k &&& 15) ||| (nI o2 <<< ((4 : Int32) &&& 31)))) := lfr_7 LFr.rfl
  exact ⟨_, k_land c1 hk h5, ⟨c1.lf f2, (mIIn (by omega)).trans c2, (mIIn (by omega)).trans c3, c4⟩, f.trans f2, o2, (mIIn (by omega)).trans h5, h6⟩
theorem CXq.up {fk fp z z2 : Nat} (h : CXq x T fk fp z M M1) (hz : z ≤ z2) : CXq x T fk fp z2 M M1 := ⟨h.1, h.2.1, h.2.2.choose, h.2.2.choose_spec.1, by have := h.2.2.choose_spec.2; omega⟩
theorem CXq.pre {fk fp z : Nat} (h : CXq x T fk fp z M1 M2) (f : LFr x M M1) : CXq x T fk fp z M M2 := ⟨h.1, f.trans h.2.1, h.2.2⟩
theorem k_opdF {β : Type} {K : Int32 → Me → Option β} {P : β → Prop} {fc : Sh → Me → Option (Unit × Me)} {op fk fp z : Nat} (h : CSq x n N b sp T i o u M) (h26 : tK b n i ≠ 26) (h27 : tK b n i ≠ 27) (hc : ∀ T M, CSq x n N b sp T (i + 1) o u M → Ok (fc T M) (fun p => CXq x T fk fp z M p.2)) (hz : z < 900) (hK : ∀ r M', CXq x T fk fp (z + 1) M M' → Ok (K r M') P) : Ok (Option.bind (fc T (pI M (x + 2) 1 (gI M (x + 2) 1 + 1))) (un2 fun _u M2 => Option.bind (fX6_put T M2 (x + 2) (nI op) 0) (un2 K))) P := by
  obtain ⟨a1, a2, a3⟩ := k_adv h h26 h27
  refine Ok.bd (hc T _ a1) (fun p hp => ?_)
  obtain ⟨p1, M2⟩ := p
  obtain ⟨r, M3, e3, _, c1⟩ := k_putF (op := op) (CXq.pre hp a2) hz
  rw [une2]
  show Ok (Option.bind (fX6_put T M2 (x + 2) (nI op) 0) (un2 K)) P
  rw [e3, Option.bind_some, une2]
  exact hK _ M3 c1
theorem k_pre {β : Type} {K : Me → Option β} {P : β → Prop} {fc : Sh → Me → Option (Unit × Me)} {op i2 o0 : Nat} {cc cb2 : List Int32} {u2 : Int32} (hop : op < 13) (h : CSq x n N b sp T i (o0 + cc.length) u M) (hs : SEG (gI M (x + 7)) o0 cc) (h26 : tK b n i ≠ 26) (h27 : tK b n i ≠ 27) (hc : ∀ T M, CSq x n N b sp T (i + 1) (o0 + cc.length + 1) u M → Ok (fc T M) (fun p => CPq x n N b sp T (o0 + cc.length + 1) i2 u2 cb2 M p.2)) (hK : ∀ M', CPq x n N b sp T o0 i2 u2 (cc ++ (enc op (o0 + cc.length + 1 + cb2.length) :: cb2)) M M' → Ok (K M') P) : Ok (Option.bind (fX6_put T (pI M (x + 2) 1 (gI M (x + 2) 1 + 1)) (x + 2) (nI op) 0) (un2 fun r8 M9 => Option.bind (fc T M9) (un2 fun _u M10 => Option.bind (fX6_land T M10 (x + 2) r8) (un2 fun _u2 M11 => K M11)))) P := by
  obtain ⟨a1, a2, a3⟩ := k_adv h h26 h27
  have h8 := h.2.2.2.2
  have h9 := h.n9
  obtain ⟨M3, e3, c1, c2, c3, c4⟩ := k_putS (op := op) (od := 0) (oo := 0) a1 (by omega) rfl
  show Ok (Option.bind (fX6_put T (pI M (x + 2) 1 (gI M (x + 2) 1 + 1)) (x + 2) (nI op) 0) _) P
  rw [e3, Option.bind_some, une2]
  refine Ok.bd (hc T _ c1) (fun p hp => ?_)
  obtain ⟨p1, M4⟩ := p
  obtain ⟨b1, b2, b3, b4⟩ := hp
  have b1 : CSq x n N b sp T i2 (o0 + cc.length + 1 + cb2.length) u2 M4 := b1
  have b3 : ∀ j, j < o0 + cc.length + 1 → gI M4 (x + 7) j = gI M3 (x + 7) j := b3
  have b4 : SEG (gI M4 (x + 7)) (o0 + cc.length + 1) cb2 := b4
  have i2b := b1.n9
  have ob := b1.2.2.2.2
  have ecode : gI M4 (x + 7) (o0 + cc.length) = enc op 0 := (b3 _ (by omega)).trans c4
  rw [une2, k_land b1.1.1 (by omega) b1.2.1, Option.bind_some, une2, ecode, enc_land hop (by omega)]
  have f2 : LFr x M4 (pI M4 (x + 7) (o0 + cc.length) (enc op (o0 + cc.length + 1 + cb2.length))) := lfr_7 LFr.rfl
  refine hK _ ⟨⟨⟨b1.1.1.lf f2, b1.1.2.1.lf f2, (mIIn (by omega)).trans b1.1.2.2.1, (mIIn (by omega)).trans b1.1.2.2.2.1, b1.1.2.2.2.2.1, b1.1.2.2.2.2.2.1, b1.1.2.2.2.2.2.2.1, (mIIn (by omega)).trans b1.1.2.2.2.2.2.2.2⟩, ?_, (mIIn (by omega)).trans b1.2.2.1, (mIIn (by omega)).trans b1.2.2.2.1, ?_⟩, ((a2.trans c2).trans b2).trans f2, fun j hj => ?_, ?_⟩
  · rw [mIIn (by omega), b1.2.1]
    simp only [List.length_append, List.length_cons]
    rw [show o0 + (cc.length + (cb2.length + 1)) = o0 + cc.length + 1 + cb2.length by omega]
  · simp only [List.length_append, List.length_cons]; omega
  · rw [mIIk (by omega), b3 j (by omega), c3 j (by omega), a3 j]
  · rw [seg_app]
    refine ⟨seg_cong hs (fun j hj => by rw [mIIk (by omega), b3 _ (by omega), c3 _ (by omega), a3]), mII1, seg_cong b4 (fun j hj => mIIk (by omega))⟩
theorem k_preF {β : Type} {K : Me → Option β} {P : β → Prop} {fc : Sh → Me → Option (Unit × Me)} {op fk fp z : Nat} (h : CSq x n N b sp T i o u M) (h26 : tK b n i ≠ 26) (h27 : tK b n i ≠ 27) (hc : ∀ T M, CSq x n N b sp T (i + 1) (o + 1) u M → Ok (fc T M) (fun p => CXq x T fk fp z M p.2)) (hK : ∀ M', CXq x T fk fp z M M' → Ok (K M') P) : Ok (Option.bind (fX6_put T (pI M (x + 2) 1 (gI M (x + 2) 1 + 1)) (x + 2) (nI op) 0) (un2 fun r8 M9 => Option.bind (fc T M9) (un2 fun _u M10 => Option.bind (fX6_land T M10 (x + 2) r8) (un2 fun _u2 M11 => K M11)))) P := by
  obtain ⟨a1, a2, a3⟩ := k_adv h h26 h27
  have h8 := h.2.2.2.2
  have h9 := h.n9
  obtain ⟨M3, e3, c1, c2, c3, c4⟩ := k_putS (op := op) (od := 0) (oo := 0) a1 (by omega) rfl
  show Ok (Option.bind (fX6_put T (pI M (x + 2) 1 (gI M (x + 2) 1 + 1)) (x + 2) (nI op) 0) _) P
  rw [e3, Option.bind_some, une2]
  refine Ok.bd (hc T _ c1) (fun p hp => ?_)
  obtain ⟨p1, M4⟩ := p
  obtain ⟨M5, e5, g5⟩ := k_landF (k := o) (CXq.pre hp (a2.trans c2)) (by omega)
  have e5 : fX6_land T M4 (x + 2) (nI o) = some ((), M5) := e5
  rw [une2, e5, Option.bind_some, une2]
  exact hK _ g5
/-! the reference -/
theorem RSq.nx (h : RSq m n N b lw T i q M) (h2 : RBq m n N b T (i + 1) M1) (f : FI m (tq m) M M1) : RSq m n N b lw T (i + 1) q M1 := ⟨h2, (f.1 _ _ (by unfold tq; omega)).trans h.2.1, (f.1 _ _ (by unfold tq; omega)).trans h.2.2.1, by have := h.2.2.2.1; omega, h.2.2.2.2.1, fun j h3 h4 => (f.1 _ _ (by unfold tq; omega)).trans (h.2.2.2.2.2 j h3 h4)⟩
theorem RSq.n9 (h : RSq m n N b lw T i q M) : i ≤ 900 := by have := h.1.2.2.2.2.2.2.1; have := h.1.2.2.2.2.2.2.2.1; have := h.2.2.2.2.1; omega
theorem r_codesS {kk : Int32} (h : RSq m n N b lw T i q M) (h9 : q + 9 ≤ i) : ∃ M', fX12_codes T M m kk = some ((), M') ∧ RSq m n N b lw T i (q + 1) M' ∧ FI m (rq m) M M' ∧ (∀ j, j ≠ 132 + q → j ≠ 131 → gI M' (m + 4) j = gI M (m + 4) j) ∧ gI M' (m + 4) (132 + q) = kk := by
  have h900 := h.n9
  obtain ⟨⟨t, e6, e7, e9, e10, e11, hi, hN⟩, h1, h2, h3, h4, hz⟩ := h
  have f : FI m (rq m) M (pI (pI M (m + 4) (132 + q) kk) (m + 4) 131 (nI (q + 1))) := (FI.rfl.pI (Or.inr ⟨rfl, by omega⟩)).pI (Or.inr ⟨rfl, by omega⟩)
  have g : ∀ k, gI (pI (pI M (m + 4) (132 + q) kk) (m + 4) 131 (nI (q + 1))) m k = gI M m k := fun k => by rw [mIIn (by omega), mIIn (by omega)]
  refine ⟨_, r_codes t.1 e11 h1 (by omega), ⟨⟨t.rqf f, (g _).trans e6, (g _).trans e7, (g _).trans e9, fun z => (g _).trans (e10 z), (g _).trans e11, hi, hN⟩, mII1, (g _).trans h2, by omega, h4, fun j a1 a2 => ?_⟩, f, fun j a1 a2 => ?_, ?_⟩
  · rw [mIIk (by omega), mIIk (by omega)]; exact hz j (by omega) a2
  · rw [mIIk a2, mIIk a1]
  · rw [mIIk (by omega), mII1]
theorem r_opd {β : Type} {K : Me → Option β} {P : β → Prop} {fr : Sh → Me → Option (Unit × Me)} {kk : Int32} {i2 : Nat} {rc rb : List Int32} (h : RSq m n N b lw T i (q + rc.length) M) (h2 : RBq m n N b T (i + 1) M1) (f : FI m (tq m) M M1) (hs : SEG (gI M (m + 4)) (132 + q) rc) (hr : ∀ T M q, RSq m n N b lw T (i + 1) q M → Ok (fr T M) (fun p => RPq m n N b lw T q i2 rb M p.2)) (hl : rb.length + (i + 1) ≤ i2) (hK : ∀ M', RPq m n N b lw T q i2 (rc ++ rb ++ [kk]) M M' → Ok (K M') P) : Ok (Option.bind (fr T M1) (un2 fun _u M2 => Option.bind (fX12_codes T M2 m kk) (un2 fun _u2 M3 => K M3))) P := by
  have h1 := h.nx h2 f
  have h8 := h.2.2.2.1
  have e4 : ∀ k, gI M1 (m + 4) k = gI M (m + 4) k := fun k => f.1 _ _ (by unfold tq; omega)
  refine Ok.bd (hr T M1 _ h1) (fun p hp => ?_)
  obtain ⟨p1, M2⟩ := p
  obtain ⟨b1, b2, b3, b4⟩ := hp
  have b1 : RSq m n N b lw T i2 (q + rc.length + rb.length) M2 := b1
  have b3 : ∀ j, j < q + rc.length → gI M2 (m + 4) (132 + j) = gI M1 (m + 4) (132 + j) := b3
  have b4 : SEG (gI M2 (m + 4)) (132 + (q + rc.length)) rb := b4
  obtain ⟨M3, e3, c1, c2, c3, c4⟩ := r_codesS (kk := kk) b1 (by omega)
  rw [une2, e3, Option.bind_some, une2]
  refine hK M3 ⟨?_, ((f.wide (fun a k z => tq_rq z)).trans b2).trans c2, fun j hj => ?_, ?_⟩
  · have e : q + (rc ++ rb ++ [kk]).length = q + rc.length + rb.length + 1 := by simp only [List.length_append, List.length_cons, List.length_nil]; omega
    rw [e]; exact c1
  · rw [c3 _ (by omega) (by omega), b3 j (by omega), e4]
  · rw [seg_app, seg_app]
    refine ⟨⟨seg_cong hs (fun j hj => ?_), seg_cong (by rw [Nat.add_assoc]; exact b4) (fun j hj => c3 _ (by omega) (by omega))⟩, ?_, trivial⟩
    · rw [c3 _ (by omega) (by omega), show 132 + q + j = 132 + (q + j) by omega, b3 _ (by omega), e4]
    · rw [show 132 + q + (rc ++ rb).length = 132 + (q + rc.length + rb.length) by simp only [List.length_append]; omega]
      exact c4
theorem r_opdF {β : Type} {K : Me → Option β} {P : β → Prop} {fr : Sh → Me → Option (Unit × Me)} {kk : Int32} {fk fp : Nat} (h : RSq m n N b lw T i q M) (h2 : RBq m n N b T (i + 1) M1) (f : FI m (tq m) M M1) (hr : ∀ T M q, RSq m n N b lw T (i + 1) q M → Ok (fr T M) (fun p => RXq m T fk fp M p.2)) (hK : ∀ M', RXq m T fk fp M M' → Ok (K M') P) : Ok (Option.bind (fr T M1) (un2 fun _u M2 => Option.bind (fX12_codes T M2 m kk) (un2 fun _u2 M3 => K M3))) P := by
  refine Ok.bd (hr T M1 _ (h.nx h2 f)) (fun p hp => ?_)
  obtain ⟨p1, M2⟩ := p
  obtain ⟨b1, b2⟩ := hp
  have b1 : RFl m T fk fp M2 := b1
  rw [une2, r_codesF b1.1 b1.ne, Option.bind_some, une2]
  exact hK M2 ⟨b1, (f.wide (fun a k z => tq_rq z)).trans b2⟩
/-! a piece, then more of its kind -/
theorem j_chain {tr : Prop} {Q0 Q : Nat} {fc fr : Sh → Me → Option (Unit × Me)} {bc : Sh → Int32 → Me → Option ((Int32 × Me) ⊕ Me)} {br : Sh → Me → Option (Me ⊕ Me)} (hN : N ≤ 900) (h0 : JEq x m n N b lw sp tr Q0 d fc fr) (hQ : Q0 ≤ Q) (hJ : ∀ i o u, i ≤ N → o + 8 ≤ i → JLq x m n N b lw sp tr Q d bc br i o u) (bF : ∀ T M c, c < 900 → PX x T M → gI M (x + 2) 2 ≠ 0 → bc T (nI c) M = some (.inr M)) (rF : ∀ T M, RM m T M → gI M m 11 ≠ 0 → br T M = some (.inr M)) : JEq x m n N b lw sp tr Q d (fun T M => gd (kd T (x + 2) = 5) <| Option.bind (fc T M) <| un2 fun _u M2 => (lp FU (fun s => bc T s.1 s.2) ((0 : Int32), M2)).bind (fun M13 => some ((), M13))) (fun T M => gd (kd T m = 11) <| Option.bind (fr T M) <| un2 fun _u M2 => (lp FU (fun s => br T s) M2).bind (fun M9 => some ((), M9))) := by
  intro i o u hi ho
  rcases h0 i o u hi ho with ⟨i1, cc, rc, u1, v, hS, hc, hr⟩ | ⟨fk, iF, g1, g2, hc, hr⟩
  · have hS2 : SXq N Q lw tr i o u i1 cc rc u1 v := ⟨hS.1, hS.2.1, hS.2.2.1, hS.2.2.2.1, hS.2.2.2.2.1.up hQ, hS.2.2.2.2.2⟩
    have h8 : 0 + 8 ≤ i1 := by have := hS.1; omega
    have hf : N - i1 + 2 < FU := by show N - i1 + 2 < 1000000; omega
    rcases j_loop (hJ i o u hi ho) ho hN bF rF (N - i1) i1 cc rc u1 v (Nat.le_refl _) hS2 with ⟨i2, cc2, rc2, u2, v2, k1, k2, k3⟩ | ⟨fk, iF, k1, k2, k3, k4⟩
    · refine Or.inl ⟨i2, cc2, rc2, u2, v2, k1, fun T M hM => ?_, fun T M q hM => ?_⟩
      · show Ok (gd (kd T (x + 2) = 5) _) _
        rw [hM.1.1.k2, gdI]
        refine Ok.bd (hc T M hM) (fun p hp => ?_)
        obtain ⟨p1, M1⟩ := p
        rw [une2]
        refine Ok.bd (k2 T M1 0 FU h8 hf hp.1 hp.2.2.2) (fun M2 hq => ?_)
        exact ok_i (CPq.trans hp hq)
      · show Ok (gd (kd T m = 11) _) _
        rw [hM.1.1.1.k, gdI]
        refine Ok.bd (hr T M q hM) (fun p hp => ?_)
        obtain ⟨p1, M1⟩ := p
        rw [une2]
        refine Ok.bd (k3 T M1 q FU hf hp.1 hp.2.2.2) (fun M2 hq => ?_)
        exact ok_i (RPq.trans hp hq)
    · refine Or.inr ⟨fk, iF, k1, k2, fun T M hM => ?_, fun T M q hM => ?_⟩
      · show Ok (gd (kd T (x + 2) = 5) _) _
        rw [hM.1.1.k2, gdI]
        refine Ok.bd (hc T M hM) (fun p hp => ?_)
        obtain ⟨p1, M1⟩ := p
        rw [une2]
        refine Ok.bd (k3 T M1 0 FU h8 hf hp.1 hp.2.2.2) (fun M2 hq => ?_)
        exact ok_i (CXq.pre hq hp.2.1)
      · show Ok (gd (kd T m = 11) _) _
        rw [hM.1.1.1.k, gdI]
        refine Ok.bd (hr T M q hM) (fun p hp => ?_)
        obtain ⟨p1, M1⟩ := p
        rw [une2]
        refine Ok.bd (k4 T M1 q FU hf hp.1 hp.2.2.2) (fun M2 hq => ?_)
        exact ok_i ⟨hq.1, FI.trans hp.2.1 hq.2⟩
  · refine Or.inr ⟨fk, iF, g1, g2, fun T M hM => ?_, fun T M q hM => ?_⟩
    · show Ok (gd (kd T (x + 2) = 5) _) _
      rw [hM.1.1.k2, gdI]
      refine Ok.bd (hc T M hM) (fun p hp => ?_)
      obtain ⟨p1, M1⟩ := p
      have hp : CXq x T fk (tP b n iF) (o + iF - i + (6 - d)) M M1 := hp
      rw [une2, lpF_inr (show bc T (nI 0) M1 = some (.inr M1) from bF T M1 0 (by omega) hp.1.1 hp.1.ne), Option.bind_some]
      exact ok_i hp
    · show Ok (gd (kd T m = 11) _) _
      rw [hM.1.1.1.k, gdI]
      refine Ok.bd (hr T M q hM) (fun p hp => ?_)
      obtain ⟨p1, M1⟩ := p
      have hp : RXq m T fk (tP b n iF) M M1 := hp
      rw [une2, lpF_inr (rF T M1 hp.1.1 hp.1.ne), Option.bind_some]
      exact ok_i hp
end
