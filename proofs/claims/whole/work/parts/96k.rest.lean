/-! an image is restored -/
def rsW (S : Wd) (B : Nat → Int32) : Wd := mkW (upA B 50 0) 0 S.n S.b S.f1 S.f2 S.so S.sz S.nu S.im (S.c + 1)
section
variable {x m : Nat} {A B : Nat → Int32} {T T2 : Sh} {M M1 M2 : Me} {S : Wd}
theorem rs_ok (hS : S.ok) (hc : S.c < 600) (hB : OK B (100 * (S.c + 1))) : (rsW S B).ok := by
  obtain ⟨⟨h1, h2⟩, ⟨h3, h4, h5⟩, h6, h7, h8⟩ := hS
  exact ⟨⟨hB.eq8 (LE.up (by omega) (by omega)) (fun k _ _ => upA_n (by omega)), by show S.c + 1 ≤ 600; omega⟩, ⟨by show 0 ≤ 10; omega, by show upA B 50 0 50 = nI 0; rw [upA_1]; exact i_0, fun i hi => absurd (show i < 0 from hi) (by omega)⟩, h6, h7, fun i B hi e => (h8 i B hi e).up (by show 100 * S.c ≤ 100 * (S.c + 1); omega)⟩
theorem lN_in {a b : Nat} (ha : a < 2 ^ 63) (hb : b < 2 ^ 63) (h : lN a = lN b) : a = b := by
  have := congrArg Int64.toInt h
  rw [pf_lI ha, pf_lI hb] at this
  omega
/-- the class takes up lab a and stands as the stand at s -/
theorem c_use {a s : Nat} (h : WC x S T M) (hc : S.c < 600) (hB : OK B (100 * (S.c + 1))) (ha : CLab x a B T M) (hs : s = x + 61 ∨ s = x + 64 ∨ s = x + 27) (sd : SD s (fun k => B (42 + k)) M) : Ok (fX5_useLab T M (x + 8) a) (fun p => PX x T p.2 ∧ Ok (fX8_copy T p.2 (x + 25) s) (fun q => WC x (rsW S B) T (pI q.2 x 8 0) ∧ PX x T q.2 ∧ CF x M (pI q.2 x 8 0))) := by
  have hp := h.1.px
  unfold fX5_useLab
  simp (disch := omega) only [gdI, gdT, Option.bind_some, lte, hp.k8]
  have r81 : gR (pJ (pR M (x + 8) 0 (some a)) (x + 8) 3 (gJ (pR M (x + 8) 0 (some a)) (x + 8) 3 + 1)) (x + 8) 1 = some (x + 15) := by rw [mRJ, mRR, if_neg (by omega)]; exact hp.r8_1
  rw [r81, Option.bind_some, fill_eq hp.k15 hp.l15 (by omega), Option.bind_some, une2]
  refine ok_i ?_
  obtain ⟨h1, ⟨u1, u2, u3, q, q1, q2, q3, q4⟩, h0, ⟨h3, h4⟩, ⟨h5, h6⟩, h7, h8, G, h9, h10⟩ := h
  have eG : gJ (pR M (x + 8) 0 (some a)) (x + 8) 3 + 1 = lN (G + 1) := by
    rw [mJR, h9]
    exact l_add G 1
  generalize hM1 : pA (pJ (pR M (x + 8) 0 (some a)) (x + 8) 3 (gJ (pR M (x + 8) 0 (some a)) (x + 8) 3 + 1)) (x + 15) (fun k => if k < 100 then 99 else gI (pJ (pR M (x + 8) 0 (some a)) (x + 8) 3 (gJ (pR M (x + 8) 0 (some a)) (x + 8) 3 + 1)) (x + 15) k) = M1
  have gI1 : ∀ b k, b ≠ x + 15 → gI M1 b k = gI M b k := fun b k z => by rw [← hM1, mIAn z]; rfl
  have g15 : ∀ k, k < 100 → gI M1 (x + 15) k = 99 := fun k hk => by rw [← hM1, mIA1, if_pos hk]
  have gJ1 : ∀ b k, ¬ (b = x + 8 ∧ k = 3) → gJ M1 b k = gJ M b k := fun b k z => by rw [← hM1, mJA, mJJ, if_neg z]; rfl
  have g83 : gJ M1 (x + 8) 3 = lN (G + 1) := by rw [← hM1, mJA, mJJ1]; exact eG
  have gR1 : ∀ b k, ¬ (b = x + 8 ∧ k = 0) → gR M1 b k = gR M b k := fun b k z => by rw [← hM1, mRA, mRJ, mRR, if_neg z]
  have g80 : gR M1 (x + 8) 0 = some a := by rw [← hM1, mRA, mRJ, mRR, if_pos ⟨rfl, rfl⟩]
  clear hM1 eG r81
  have hx : ∀ i, i < 48 → ¬ (xO i = 8 ∧ xF i = 0) := by decide
  have hp1 : PX x T M1 := hp.fr (fun i hi => gR1 _ _ (by have := hx i hi; omega))
  have ks : KS s T M1 := by
    rcases hs with e | e | e
    · rw [e]; exact hp1.ks61
    · rw [e]; exact hp1.ks64
    · rw [e]; exact hp1.ks27
  refine ⟨hp1, ?_⟩
  refine (c_copyN hp1 ks (by omega) (by omega) (by omega) (sd.fr (fun k => gI1 _ _ (by omega)) (fun k => gI1 _ _ (by omega)))).mono (fun p hq => ?_)
  obtain ⟨⟨s1, s2, s3⟩, n1, n2⟩ := hq
  have eJ : ∀ b k, gJ p.2 b k = gJ M1 b k := fun b k => by unfold gJ; rw [n2]
  have eR : ∀ b k, gR p.2 b k = gR M1 b k := fun b k => by unfold gR; rw [n2]
  have hp2 : PX x T p.2 := hp1.fr (fun i hi => eR _ _)
  have fI : ∀ b k, b ≠ x + 15 → b ≠ x + 25 → b ≠ x + 26 → ¬ (b = x ∧ k = 8) → gI (pI p.2 x 8 0) b k = gI M b k := fun b k z1 z2 z3 z4 => by rw [mII, if_neg z4, n1 b k (by omega) z3, gI1 b k z1]
  have fJ : ∀ b k, ¬ (b = x + 8 ∧ k = 3) → gJ (pI p.2 x 8 0) b k = gJ M b k := fun b k z => by rw [mJI, eJ, gJ1 b k z]
  have fR : ∀ b k, ¬ (b = x + 8 ∧ k = 0) → gR (pI p.2 x 8 0) b k = gR M b k := fun b k z => by rw [mRI, eR, gR1 b k z]
  have le : LE B (upA B 50 0) := LE.up (by omega) (by omega)
  have hO : OK (upA B 50 0) (100 * (S.c + 1)) := hB.eq8 le (fun k _ _ => upA_n (by omega))
  have hl2 : CLab x a (upA B 50 0) T (pI p.2 x 8 0) := (ha.le le hB.1.b3 hB.1.b4).fr TE.rfl (fun b k q _ => fI b k (by unfold lr at q; omega) (by unfold lr at q; omega) (by unfold lr at q; omega) (by unfold lr at q; omega)) (fun b k q _ => fR b k (by unfold lr at q; omega))
  obtain ⟨c1, c2, ⟨c3, G2, g1, g2, g3, g4⟩, c5, c6, c7, ⟨⟨w1, p1, p2, p3⟩, ⟨w2, p4, p5, p6⟩, p7⟩, c9⟩ := h1
  have eGG : G2 = G := lN_in (by omega) (by omega) (g3.symm.trans h9)
  refine ⟨⟨⟨hp2.eq rfl, ⟨a, ((mRI _ _ _ _ _ _).trans (eR _ _)).trans g80, hl2⟩, ⟨fun r hr => Or.inl ?_, G + 1, by omega, by omega, ?_, fun k hk => ?_⟩, ⟨?_, ?_, fun l hl => ?_⟩, hO.1, hO.2.1, ⟨⟨w1, p1, (fR _ _ (by omega)).trans p2, (fR _ _ (by omega)).trans p3⟩, ⟨w2, p4, (fR _ _ (by omega)).trans p5, (fR _ _ (by omega)).trans p6⟩, fun k hk hb => ⟨(fJ _ _ (by omega)).trans (p7 k hk hb).1, (fJ _ _ (by omega)).trans (p7 k hk hb).2⟩⟩, fun j hj => ?_⟩, ⟨by show 0 ≤ 10; omega, by show upA B 50 0 50 = nI 0; rw [upA_1]; exact i_0, ?_, q, q1, q2, fun i hi => (fR _ _ (by omega)).trans (q3 i hi), fun i hi => absurd (show i < 0 from hi) (by omega)⟩, h0, ⟨(fI _ _ (by omega) (by omega) (by omega) (by omega)).trans h3, fun i hi => (fI _ _ (by omega) (by omega) (by omega) (by omega)).trans (h4 i hi)⟩, ⟨(fI _ _ (by omega) (by omega) (by omega) (by omega)).trans h5, (fI _ _ (by omega) (by omega) (by omega) (by omega)).trans h6⟩, fun t ht => ?_, fun i hi => (h8 i hi).fr hi TE.rfl (fun b k q _ => fI b k (by unfold lr at q; omega) (by unfold lr at q; omega) (by unfold lr at q; omega) (by unfold lr at q; omega)) (fun b k q _ => fR b k (by unfold lr at q; omega)) h0, G + 1, ?_, by show G + 1 ≤ S.c + 1 + 1; omega⟩, hp2, fun b k _ _ => ⟨fI _ _ (by omega) (by omega) (by omega) (by omega), fJ _ _ (by omega), fR _ _ (by omega)⟩⟩
  · rw [mIIn (by omega), n1 _ _ (by omega) (by omega)]; exact g15 r hr
  · rw [mJI, eJ]; exact g83
  · obtain ⟨n, b, n1', n2', n3', _⟩ := g4 k hk
    exact ⟨n, b, by omega, n2', (fJ _ _ (by omega)).trans n3', fun _ _ _ _ _ _ _ _ z _ => by omega⟩
  · show gI (pI p.2 x 8 0) (x + 25) 1 = upA B 50 0 48
    rw [mIIn (by omega), s2, upA_n (by omega)]
  · show gI (pI p.2 x 8 0) (x + 25) 2 = upA B 50 0 49
    rw [mIIn (by omega), s3, upA_n (by omega)]
  · show gI (pI p.2 x 8 0) (x + 26) l = upA B 50 0 (42 + l)
    rw [mIIn (by omega), upA_n (by omega)]; exact s1 l hl
  · rw [fI _ _ (by omega) (by omega) (by omega) (by omega)]; exact c9 j hj
  · rw [mII1]; exact i_0
  · obtain ⟨q1, q2, q3⟩ := h7 t ht
    exact ⟨(fI _ _ (by omega) (by omega) (by omega) (by omega)).trans q1, fun z => (fI _ _ (by omega) (by omega) (by omega) (by omega)).trans (q2 z), fun i hi => (fJ _ _ (by omega)).trans (q3 i hi)⟩
  · rw [mJI, eJ]; exact g83
theorem s_restore (hS : S.ok) (hc : S.c < 600) (a : Int32) : QS x S (fun T M => fX11_restore T M x a) (fun T M => fX12_restore T M (x + 69) a) := by
  have k0 : (0 : Int64).toInt = 0 := by decide
  have k1 : (1 : Int64).toInt = 1 := by decide
  rcases n1 a with ha | ⟨i, hi, rfl⟩
  · refine qs_no hS (-2) (fun T M h => ?_) (fun T M h => ?_)
    · show fX11_restore T M x a = _
      unfold fX11_restore
      exact c_out1 ha
    · show fX12_restore T M (x + 69) a = _
      unfold fX12_restore
      rw [h.1.1.k, gdI, lte, wi_0 (by rw [Int32.toInt_toInt64, k0, k1]; omega), Option.bind_some, if_pos rfl]
  have w1 : fX12_within (nI i).toInt64 0 1 = some 1 := wi_1 (by rw [Int32.toInt_toInt64, nI_toInt (by omega), k0, k1]; omega)
  cases e : S.im i with
  | none =>
    refine qs_no hS (-5) (fun T M h => ?_) (fun T M h => ?_)
    · show fX11_restore T M x (nI i) = _
      have hp := h.1.px
      obtain ⟨t1, t2, t3, t4⟩ := hp.img hi
      have hI := h.2.2.2.2.2.2.1 i hi
      rw [e] at hI
      have hI : gR M (x + 60 + 3 * i) 1 = none := hI
      unfold fX11_restore
      rw [c_in1 hi]
      simp (disch := omega) only [gdI, gdT, Option.bind_some, lte, hp.k0, hp.r0_10, hp.k59, hp.l59, gvI, cl_nI, t4, t1, hI]
      rfl
    · show fX12_restore T M (x + 69) (nI i) = _
      obtain ⟨h0, f0⟩ := h.t0 (v := 0)
      have hM := h0.1.1
      have hI := h0.2.2.2.2 i hi
      rw [e] at hI
      have hI : gI (pI M (x + 69) 0 0) (x + 69 + 2) i = 0 := hI
      unfold fX12_restore
      rw [h.1.1.k, gdI, lte, w1, Option.bind_some, if_neg (by decide)]
      simp (disch := omega) only [gdI, gdT, Option.bind_some, lte, une2, une3, nI_add, gvI, cl_nI, c_le, c_lt, c_eq, Sum.elim_inl, Sum.elim_inr, hM.k, hM.r2, hM.k2, hM.l2, hI, if_true]
  | some B =>
    have hB : OK B (100 * (S.c + 1)) := (hS.2.2.2.2 i B hi e).up (by omega)
    have hok := rs_ok hS hc hB
    refine ⟨0, rsW S B, hok, Nat.le_refl _, fun T M h => ?_, fun T M h => ?_⟩
    · show Ok (fX11_restore T M x (nI i)) _
      have hp := h.1.px
      obtain ⟨t1, t2, t3, t4⟩ := hp.img hi
      have hI := h.2.2.2.2.2.2.1 i hi
      rw [e] at hI
      obtain ⟨lb, l1, l2, l3⟩ := hI
      unfold fX11_restore
      rw [c_in1 hi]
      simp (disch := omega) only [gdI, gdT, Option.bind_some, lte, hp.k0, hp.r0_10, hp.k59, hp.l59, gvI, cl_nI, t4, t1, l1]
      show Ok (Option.bind (gR M x 3) _) _
      rw [hp.r0_3, Option.bind_some, hp.k8, gdI]
      obtain ⟨p, hp1, hp2⟩ := c_use h hc hB l2 (by omega) l3
      obtain ⟨u1, M1⟩ := p
      obtain ⟨hpm, q, hq1, hq2, hq3, hq4⟩ := hp2
      obtain ⟨u2, M2⟩ := q
      have hpm : PX x T M1 := hpm
      have hq1 : fX8_copy T M1 (x + 25) (x + 61 + 3 * i) = some (u2, M2) := hq1
      obtain ⟨v1, v2, v3, v4⟩ := hpm.img hi
      rw [hp1, Option.bind_some, une2]
      simp (disch := omega) only [gdI, gdT, Option.bind_some, lte, hpm.r0_5, hpm.r0_10, hpm.k59, hpm.l59, gvI, cl_nI, v4, v1, v2, hpm.k25, hq1, une2]
      exact ok_i ⟨rfl, hq2, hq4⟩
    · show Ok (fX12_restore T M (x + 69) (nI i)) _
      obtain ⟨h0, f0⟩ := h.t0 (v := 0)
      have hM := h0.1.1
      have hI := h0.2.2.2.2 i hi
      rw [e] at hI
      unfold fX12_restore
      rw [h.1.1.k, gdI, lte, w1, Option.bind_some, if_neg (by decide)]
      generalize pI M (x + 69) 0 0 = M0 at h0 f0 hM hI ⊢
      obtain ⟨hI1, hI2⟩ := hI
      simp (disch := omega) only [gdI, gdT, Option.bind_some, lte, une2, une3, nI_add, gvI, cl_nI, c_le, c_lt, c_eq, Sum.elim_inl, Sum.elim_inr, hM.k, hM.r2, hM.k2, hM.l2, hI1]
      rw [if_neg (by decide)]
      refine Ok.bd (ok_forF (s := ((0 : Int32), M0)) 0 1032 (fun n s => ∃ M', s = (nI n, M') ∧ FI (x + 69) (fun a k => a = x + 69 + 1 ∧ k < 1032) M0 M' ∧ ∀ k, k < n → gI M' (x + 69 + 1) k = B k) (fun M' => FI (x + 69) (fun a k => a = x + 69 + 1 ∧ k < 1032) M0 M' ∧ ∀ k, k < 1032 → gI M' (x + 69 + 1) k = B k) ⟨M0, rfl, FI.rfl, fun k hk => absurd hk (by omega)⟩ (by omega) (by omega) (fun n s _ hn hI => ?_) (fun s hI => ?_)) (fun M' hq => ?_)
      · obtain ⟨M', rfl, f, g⟩ := hI
        have hM' := hM.fr (M' := M') (fun k => f.2.2 _ _ (by omega))
        have e : gI M' (x + 69 + 1) (1032 * (i + 1) + n) = B n := (f.1 _ _ (by omega)).trans (hI2 n hn)
        show Ok (bX12_restore_32 T (x + 69) (nI i) (nI n) M') _
        unfold bX12_restore_32
        simp (disch := omega) only [gdI, gdT, Option.bind_some, lte, une2, une3, nI_add, gvI, cl_nI, c_le, c_lt, c_eq, Sum.elim_inl, Sum.elim_inr, hM'.k, hM'.r1, hM'.k1, hM'.l1, i_1032, Nat.not_le.mpr hn, if_false, nI_1, c_mul, e]
        refine ok_i ⟨_, rfl, f.pI ⟨rfl, by omega⟩, fun k hk => ?_⟩
        rw [mII]
        by_cases z : k = n
        · rw [if_pos ⟨rfl, by omega⟩, z]
        · rw [if_neg (by omega)]; exact g k (by omega)
      · obtain ⟨M', rfl, f, g⟩ := hI
        show Ok (bX12_restore_32 T (x + 69) (nI i) (nI 1032) M') _
        unfold bX12_restore_32
        simp (disch := omega) only [i_1032, c_le, Nat.le_refl, if_true]
        exact ok_i ⟨f, g⟩
      · obtain ⟨f, g⟩ := hq
        have hM' := hM.fr (M' := M') (fun k => f.2.2 _ _ (by omega))
        simp (disch := omega) only [gdI, gdT, Option.bind_some, lte, une2, une3, nI_add, gvI, cl_nI, c_le, c_lt, c_eq, Sum.elim_inl, Sum.elim_inr, hM'.k, hM'.r1, hM'.k1, hM'.l1, i_50]
        have f2 : FI (x + 69) (fun a k => a = x + 69 + 1 ∧ k < 1032) M0 (pI M' (x + 69 + 1) 50 0) := f.pI ⟨rfl, by omega⟩
        refine ok_i ⟨rfl, ⟨RW.up (R := B) ⟨hM', g⟩ (fun j hj => rfl), h0.2.yf (f2.yf (fun a k q => by omega))⟩, f0.trans (f2.rf (fun a k q => by omega))⟩
end
