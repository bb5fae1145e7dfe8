/-! lab -/
section
variable {x m : Nat} {A B : Nat → Int32} {T T2 : Sh} {M M1 M2 : Me} {S : Wd}
theorem c_clearN (hp : PX x T M) (hcl : ∀ k, k < 8 → B (42 + k) = plA (42 + k)) : Ok (fX8_clear T M (x + 25)) (fun p => SD (x + 25) (fun k => B (42 + k)) p.2 ∧ NF x M p.2) := by
  rw [clear_eq hp.k25 hp.r25_0 hp.k26 hp.l26]
  refine ok_i ⟨⟨fun k hk => ?_, ?_, ?_⟩, fun c k a1 a2 => ?_, rfl⟩
  · show gI (pI (pI (pA M (x + 26) _) (x + 25) 1 0) (x + 25) 2 (-1)) (x + 26) k = B (42 + k)
    rw [mIIn (by omega), mIIn (by omega), mIA1, if_pos hk, hcl k (by omega)]
    unfold plA
    rw [if_neg (by omega)]
  · show gI (pI (pI (pA M (x + 26) _) (x + 25) 1 0) (x + 25) 2 (-1)) (x + 25) 1 = B (42 + 6)
    rw [mIIk (by omega), mII1, hcl 6 (by omega)]; rfl
  · show gI (pI (pI (pA M (x + 26) _) (x + 25) 1 0) (x + 25) 2 (-1)) (x + 25) 2 = B (42 + 7)
    rw [mII1, hcl 7 (by omega)]; rfl
  · show gI (pI (pI (pA M (x + 26) _) (x + 25) 1 0) (x + 25) 2 (-1)) c k = _
    rw [mII, if_neg (by omega), mII, if_neg (by omega), mIAn a2]
/-- the class takes up lab a and stands at its beginning -/
theorem c_useC {a : Nat} (h : WC x S T M) (hc : S.c < 600) (hB : OK B (100 * (S.c + 1))) (ha : CLab x a B T M) (hcl : ∀ k, k < 8 → B (42 + k) = plA (42 + k)) : Ok (fX5_useLab T M (x + 8) a) (fun p => PX x T p.2 ∧ Ok (fX8_clear T p.2 (x + 25)) (fun q => WC x (rsW S B) T (pI q.2 x 8 0) ∧ PX x T q.2 ∧ CF x M (pI q.2 x 8 0) ∧ gI (pI q.2 x 8 0) a 9 = B 0)) := by
  have hp := h.1.px
  unfold fX5_useLab
  simp (disch := omega) only [gdI, gdT, Option.bind_some, lte, hp.k8]
  have r81 : gR (pJ (pR M (x + 8) 0 (some a)) (x + 8) 3 (gJ (pR M (x + 8) 0 (some a)) (x + 8) 3 + 1)) (x + 8) 1 = some (x + 15) := by rw [mRJ, mRR, if_neg (by omega)]; exact hp.r8_1
  rw [r81, Option.bind_some, fill_eq hp.k15 hp.l15 (by omega), Option.bind_some, une2]
  refine ok_i ?_
  obtain ⟨h1, ⟨u1, u2, u3, q, q1, q2, q3, q4⟩, h0, ⟨h3, h4⟩, ⟨h5, h6⟩, h7, h8, G, h9, h10⟩ := h
  have eG : gJ (pR M (x + 8) 0 (some a)) (x + 8) 3 + 1 = lN (G + 1) := by
    rw [mJR, h9]
    exact l_add G 1
  generalize hM1 : pA (pJ (pR M (x + 8) 0 (some a)) (x + 8) 3 (gJ (pR M (x + 8) 0 (some a)) (x + 8) 3 + 1)) (x + 15) (fun k => if k < 100 then 99 else gI (pJ (pR M (x + 8) 0 (some a)) (x + 8) 3 (gJ (pR M (x + 8) 0 (some a)) (x + 8) 3 + 1)) (x + 15) k) = M1
  have gI1 : ∀ b k, b ≠ x + 15 → gI M1 b k = gI M b k := fun b k z => by rw [← hM1, mIAn z]; rfl
  have g15 : ∀ k, k < 100 → gI M1 (x + 15) k = 99 := fun k hk => by rw [← hM1, mIA1, if_pos hk]
  have gJ1 : ∀ b k, ¬ (b = x + 8 ∧ k = 3) → gJ M1 b k = gJ M b k := fun b k z => by rw [← hM1, mJA, mJJ, if_neg z]; rfl
  have g83 : gJ M1 (x + 8) 3 = lN (G + 1) := by rw [← hM1, mJA, mJJ1]; exact eG
  have gR1 : ∀ b k, ¬ (b = x + 8 ∧ k = 0) → gR M1 b k = gR M b k := fun b k z => by rw [← hM1, mRA, mRJ, mRR, if_neg z]
  have g80 : gR M1 (x + 8) 0 = some a := by rw [← hM1, mRA, mRJ, mRR, if_pos ⟨rfl, rfl⟩]
  clear hM1 eG r81
  have hx : ∀ i, i < 48 → ¬ (xO i = 8 ∧ xF i = 0) := by decide
  have hp1 : PX x T M1 := hp.fr (fun i hi => gR1 _ _ (by have := hx i hi; omega))
  refine ⟨hp1, ?_⟩
  refine (c_clearN hp1 hcl).mono (fun p hq => ?_)
  obtain ⟨⟨s1, s2, s3⟩, n1, n2⟩ := hq
  have eJ : ∀ b k, gJ p.2 b k = gJ M1 b k := fun b k => by unfold gJ; rw [n2]
  have eR : ∀ b k, gR p.2 b k = gR M1 b k := fun b k => by unfold gR; rw [n2]
  have hp2 : PX x T p.2 := hp1.fr (fun i hi => eR _ _)
  have fI : ∀ b k, b ≠ x + 15 → b ≠ x + 25 → b ≠ x + 26 → ¬ (b = x ∧ k = 8) → gI (pI p.2 x 8 0) b k = gI M b k := fun b k z1 z2 z3 z4 => by rw [mII, if_neg z4, n1 b k (by omega) z3, gI1 b k z1]
  have fJ : ∀ b k, ¬ (b = x + 8 ∧ k = 3) → gJ (pI p.2 x 8 0) b k = gJ M b k := fun b k z => by rw [mJI, eJ, gJ1 b k z]
  have fR : ∀ b k, ¬ (b = x + 8 ∧ k = 0) → gR (pI p.2 x 8 0) b k = gR M b k := fun b k z => by rw [mRI, eR, gR1 b k z]
  have le : LE B (upA B 50 0) := LE.up (by omega) (by omega)
  have hO : OK (upA B 50 0) (100 * (S.c + 1)) := hB.eq8 le (fun k _ _ => upA_n (by omega))
  have hl2 : CLab x a (upA B 50 0) T (pI p.2 x 8 0) := (ha.le le hB.1.b3 hB.1.b4).fr TE.rfl (fun b k q _ => fI b k (by unfold lr at q; omega) (by unfold lr at q; omega) (by unfold lr at q; omega) (by unfold lr at q; omega)) (fun b k q _ => fR b k (by unfold lr at q; omega))
  obtain ⟨c1, c2, ⟨c3, G2, g1, g2, g3, g4⟩, c5, c6, c7, ⟨⟨w1, p1, p2, p3⟩, ⟨w2, p4, p5, p6⟩, p7⟩, c9⟩ := h1
  have eGG : G2 = G := lN_in (by omega) (by omega) (g3.symm.trans h9)
  refine ⟨⟨⟨hp2.eq rfl, ⟨a, ((mRI _ _ _ _ _ _).trans (eR _ _)).trans g80, hl2⟩, ⟨fun r hr => Or.inl ?_, G + 1, by omega, by omega, ?_, fun k hk => ?_⟩, ⟨?_, ?_, fun l hl => ?_⟩, hO.1, hO.2.1, ⟨⟨w1, p1, (fR _ _ (by omega)).trans p2, (fR _ _ (by omega)).trans p3⟩, ⟨w2, p4, (fR _ _ (by omega)).trans p5, (fR _ _ (by omega)).trans p6⟩, fun k hk hb => ⟨(fJ _ _ (by omega)).trans (p7 k hk hb).1, (fJ _ _ (by omega)).trans (p7 k hk hb).2⟩⟩, fun j hj => ?_⟩, ⟨by show 0 ≤ 10; omega, by show upA B 50 0 50 = nI 0; rw [upA_1]; exact i_0, ?_, q, q1, q2, fun i hi => (fR _ _ (by omega)).trans (q3 i hi), fun i hi => absurd (show i < 0 from hi) (by omega)⟩, h0, ⟨(fI _ _ (by omega) (by omega) (by omega) (by omega)).trans h3, fun i hi => (fI _ _ (by omega) (by omega) (by omega) (by omega)).trans (h4 i hi)⟩, ⟨(fI _ _ (by omega) (by omega) (by omega) (by omega)).trans h5, (fI _ _ (by omega) (by omega) (by omega) (by omega)).trans h6⟩, fun t ht => ?_, fun i hi => (h8 i hi).fr hi TE.rfl (fun b k q _ => fI b k (by unfold lr at q; omega) (by unfold lr at q; omega) (by unfold lr at q; omega) (by unfold lr at q; omega)) (fun b k q _ => fR b k (by unfold lr at q; omega)) h0, G + 1, ?_, by show G + 1 ≤ S.c + 1 + 1; omega⟩, hp2, fun b k _ _ => ⟨fI _ _ (by omega) (by omega) (by omega) (by omega), fJ _ _ (by omega), fR _ _ (by omega)⟩, hl2.f9.trans (upA_n (by omega))⟩
  · rw [mIIn (by omega), n1 _ _ (by omega) (by omega)]; exact g15 r hr
  · rw [mJI, eJ]; exact g83
  · obtain ⟨n, b, n1', n2', n3', _⟩ := g4 k hk
    exact ⟨n, b, by omega, n2', (fJ _ _ (by omega)).trans n3', fun _ _ _ _ _ _ _ _ z _ => by omega⟩
  · show gI (pI p.2 x 8 0) (x + 25) 1 = upA B 50 0 48
    rw [mIIn (by omega), s2, upA_n (by omega)]
  · show gI (pI p.2 x 8 0) (x + 25) 2 = upA B 50 0 49
    rw [mIIn (by omega), s3, upA_n (by omega)]
  · show gI (pI p.2 x 8 0) (x + 26) l = upA B 50 0 (42 + l)
    rw [mIIn (by omega), upA_n (by omega)]; exact s1 l hl
  · rw [fI _ _ (by omega) (by omega) (by omega) (by omega)]; exact c9 j hj
  · rw [mII1]; exact i_0
  · obtain ⟨q1, q2, q3⟩ := h7 t ht
    exact ⟨(fI _ _ (by omega) (by omega) (by omega) (by omega)).trans q1, fun z => (fI _ _ (by omega) (by omega) (by omega) (by omega)).trans (q2 z), fun i hi => (fJ _ _ (by omega)).trans (q3 i hi)⟩
  · rw [mJI, eJ]; exact g83
def flW (S : Wd) (f1 f2 : Int32) : Wd := mkW S.A S.u 0 S.b f1 f2 S.so S.sz S.nu S.im S.c
theorem fl_ok {f1 f2 : Int32} (hS : S.ok) : (flW S f1 f2).ok := by
  obtain ⟨h1, h2, h3, h4, h5⟩ := hS
  exact ⟨h1, h2, ⟨Nat.zero_le _, h3.2⟩, h4, h5⟩
theorem WC.rd {f1 f2 : Int32} (h : WC x S T M) (hT : TE T T2) (hG : RG x (tp T) (pI M x 1 0) M2) (e2 : gI M2 (x + 2) 2 = f1) (e3 : gI M2 (x + 2) 3 = f2) : WC x (flW S f1 f2) T2 M2 ∧ CF x M M2 := by
  obtain ⟨h1, h2, h0, ⟨h3, h4⟩, ⟨h5, h6⟩, h7, h8, G, h9, h10⟩ := h
  have gi : ∀ c k, c < tp T → ¬ (x + 2 ≤ c ∧ c ≤ x + 7) → ¬ (c = x ∧ k = 1) → gI M2 c k = gI M c k := fun c k a1 a2 a3 => (hG.1 c k a1 a2).trans (by rw [mII, if_neg a3])
  have gj : ∀ c k, c < tp T → gJ M2 c k = gJ M c k := fun c k a1 => (hG.2 c k a1).1
  have gr : ∀ c k, c < tp T → gR M2 c k = gR M c k := fun c k a1 => (hG.2 c k a1).2
  refine ⟨⟨h1.fr hT (by omega) (fun a k q ha => gi a k ha (by unfold lr at q; omega) (by unfold lr at q; omega)) (fun a k q => gj a k (by omega)) (fun a k q ha => gr a k ha), h2.fr (gi _ _ (by omega) (by omega) (by omega)) (fun a k a1 a2 => gi _ _ (by omega) (by omega) (by omega)) (fun k => gr _ _ (by omega)), Nat.le_trans h0 hT.1, ⟨?_, fun i hi => absurd (show i < 0 from hi) (by omega)⟩, ⟨e2, e3⟩, fun t ht => ?_, fun i hi => (h8 i hi).fr hi hT (fun a k q ha => gi a k ha (by unfold lr at q; omega) (by unfold lr at q; omega)) (fun a k q ha => gr a k ha) h0, G, (gj _ _ (by omega)).trans h9, h10⟩, fun a k a1 a2 => ⟨gi _ _ (by omega) (by omega) (by omega), gj _ _ (by omega), gr _ _ (by omega)⟩⟩
  · exact (hG.1 x 1 (by omega) (by omega)).trans mII1
  · obtain ⟨q1, q2, q3⟩ := h7 t ht
    exact ⟨(gi _ _ (by omega) (by omega) (by omega)).trans q1, fun z => (gi _ _ (by omega) (by omega) (by omega)).trans (q2 z), fun i hi => (gj _ _ (by omega)).trans (q3 i hi)⟩
theorem FV.ok {F : Nat → Int32} {q t : Nat} (h : FV F q) : OK F t := by
  have e : ∀ k, 42 ≤ k → k < 131 → F k = plA k := h.2.2.2.1
  have e48 : F 48 = 0 := e 48 (by omega) (by omega)
  have e49 : F 49 = -1 := e 49 (by omega) (by omega)
  have t0 : tmA F = 0 := by unfold tmA; rw [e48]; rfl
  have q0 : qA F = 0 := by unfold qA; rw [e49]; decide
  refine ⟨h.1, ⟨⟨by rw [t0, e48]; rfl, by omega⟩, ⟨by rw [q0, e49]; decide, by omega⟩, fun l hl => ?_⟩, by omega⟩
  have el : F (42 + l) = 0 := by
    rw [e _ (by omega) (by omega)]
    unfold plA
    rw [if_neg (by omega)]
  have p0 : ptA F l = 0 := by unfold ptA; rw [el]; rfl
  exact ⟨by rw [p0, el]; rfl, by omega⟩
theorem r_plain (hm : RM m T M) : Ok (fX12_plain T M (m + 4)) (fun p => (∀ k, k < 1032 → gI p.2 (m + 4) k = plF k) ∧ FI m (fun a _ => a = m + 4) M p.2) := by
  unfold fX12_plain
  refine Ok.bd (ok_forE (s := ((0 : Int32), M)) 0 1032 (fun k s => ∃ M', s = (nI k, M') ∧ FI m (fun a _ => a = m + 4) M M' ∧ ∀ j, j < k → gI M' (m + 4) j = 0) (fun M' => FI m (fun a _ => a = m + 4) M M' ∧ ∀ j, j < 1032 → gI M' (m + 4) j = 0) ⟨M, rfl, FI.rfl, fun j hj => absurd hj (by omega)⟩ (by omega) (by omega) (fun k s _ hk hI => ?_) (fun s hI => ?_)) (fun M' hq => ?_)
  · obtain ⟨M', rfl, f, g⟩ := hI
    show Ok (bX12_plain_2 T (m + 4) (nI k) M') _
    unfold bX12_plain_2
    rw [i_1032, ite_le (by omega) (by omega), if_neg (by omega), hm.k4, gdI, hm.l4, gvI (by omega) (by omega), cl_nI (by omega), lte, lte, nI_1]
    refine ok_i ⟨_, rfl, f.pI rfl, fun j hj => ?_⟩
    rw [mII]
    by_cases z : j = k
    · rw [if_pos ⟨rfl, z⟩]
    · rw [if_neg (fun y => z y.2)]; exact g j (by omega)
  · obtain ⟨M', rfl, f, g⟩ := hI
    show Ok (bX12_plain_2 T (m + 4) (nI 1032) M') _
    unfold bX12_plain_2
    rw [if_pos (by decide)]
    exact ok_i ⟨f, g⟩
  · obtain ⟨f, g⟩ := hq
    rw [hm.k4, gdI, hm.l4, i_1, gvI (by omega) (by omega), lte, i_2, gvI (by omega) (by omega), lte, i_49, gvI (by omega) (by omega), lte, cl_nI (by omega), cl_nI (by omega), cl_nI (by omega)]
    refine ok_i ⟨fun k hk => ?_, ((f.pI rfl).pI rfl).pI rfl⟩
    unfold plF
    by_cases y49 : k = 49
    · rw [if_neg (by omega), if_neg (by omega), if_pos y49, y49, mII1]; rfl
    by_cases y2 : k = 2
    · rw [if_neg (by omega), if_pos y2, y2, mIIk (by omega), mII1]; rfl
    by_cases y1 : k = 1
    · rw [if_pos y1, y1, mIIk (by omega), mIIk (by omega), mII1]; rfl
    rw [if_neg y1, if_neg y2, if_neg y49, mIIk y49, mIIk y2, mIIk y1]
    exact g k hk
end
