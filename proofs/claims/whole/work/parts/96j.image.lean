/-! images -/
theorem CV.frI {x : Nat} {A : Nat → Int32} {T T2 : Sh} {M M2 : Me} (h : CV x A T M) (hT : TE T T2) (htp : x + 69 ≤ tp T) (fI : ∀ a k, a = x + 15 ∨ a = x + 17 ∨ a = x + 25 ∨ a = x + 26 ∨ lr x a → a < tp T → gI M2 a k = gI M a k) (fJ : ∀ a k, a = x + 8 ∨ a = x + 16 ∨ a = x + 23 ∨ a = x + 24 → gJ M2 a k = gJ M a k) (fR : ∀ a k, x ≤ a ∧ a ≤ x + 68 ∧ a ≠ x + 29 ∧ ¬ ((a = x + 60 ∨ a = x + 63) ∧ k = 1) ∨ lr x a → a < tp T → gR M2 a k = gR M a k) : CV x A T2 M2 := by
  obtain ⟨h1, ⟨a, ha, hl⟩, ⟨h3, G, g1, g2, g3, g4⟩, ⟨h4, h5, h6⟩, h7, h8, ⟨⟨s1, p1, p2, p3⟩, ⟨s2, p4, p5, p6⟩, p7⟩, h10⟩ := h
  have iI : ∀ b k, lr x b → b < tp T → gI M2 b k = gI M b k := fun b k q r => fI b k (Or.inr (Or.inr (Or.inr (Or.inr q)))) r
  have iR : ∀ b k, lr x b → b < tp T → gR M2 b k = gR M b k := fun b k q r => fR b k (Or.inr q) r
  have eU : mU x M2 = mU x M := mU_fr ha hl (fR _ _ (Or.inl (by omega)) (by omega)) iI iR
  have hx : ∀ i, i < 48 → xO i ≤ 65 ∧ xO i ≠ 29 ∧ ¬ ((xO i = 60 ∨ xO i = 63) ∧ xF i = 1) := by decide
  refine ⟨⟨fun i hi => ?_, fun i hi => ?_⟩, ⟨a, (fR _ _ (Or.inl (by omega)) (by omega)).trans ha, hl.fr hT iI iR⟩, ⟨fun r hr => by rw [fI _ _ (by omega) (by omega)]; exact h3 r hr, G, g1, g2, (fJ _ _ (by omega)).trans g3, fun k hk => by rw [fJ _ _ (by omega), eU]; exact g4 k hk⟩, ⟨(fI _ _ (by omega) (by omega)).trans h4, (fI _ _ (by omega) (by omega)).trans h5, fun l hl => (fI _ _ (by omega) (by omega)).trans (h6 l hl)⟩, h7, h8, ⟨⟨s1, p1, (fR _ _ (by omega) (by omega)).trans p2, (fR _ _ (by omega) (by omega)).trans p3⟩, ⟨s2, p4, (fR _ _ (by omega) (by omega)).trans p5, (fR _ _ (by omega) (by omega)).trans p6⟩, fun k hk hb => ⟨(fJ _ _ (by omega)).trans (p7 k hk hb).1, (fJ _ _ (by omega)).trans (p7 k hk hb).2⟩⟩, fun j hj => by rw [fI _ _ (by omega) (by omega)]; exact h10 j hj⟩
  · have := h1.1 i hi
    exact ⟨(hT.2 _ (by omega)).1.trans this.1, (hT.2 _ (by omega)).2.trans this.2⟩
  · have := hx i hi
    exact (fR _ _ (by omega) (by omega)).trans (h1.2 i hi)
def imW (S : Wd) (i : Nat) (B : Nat → Int32) : Wd := mkW S.A S.u S.n S.b S.f1 S.f2 S.so S.sz S.nu (fun q => if q = i then some B else S.im q) S.c
section
variable {x m : Nat} {A B : Nat → Int32} {T T2 : Sh} {M M1 M2 : Me} {S : Wd}
theorem PX.img (h : PX x T M) {i : Nat} (hi : i < 2) : kd T (x + 60 + 3 * i) = 1 ∧ gR M (x + 60 + 3 * i) 0 = some (x + 61 + 3 * i) ∧ KS (x + 61 + 3 * i) T M ∧ gR M (x + 59) i = some (x + 60 + 3 * i) := by
  rcases (by omega : i = 0 ∨ i = 1) with rfl | rfl
  · exact ⟨h.k60, h.r60_0, h.ks61, h.r59_0⟩
  · exact ⟨h.k63, h.r63_0, h.ks64, h.r59_1⟩
theorem n1 (a : Int32) : (a.toInt < 0 ∨ 1 < a.toInt) ∨ ∃ n, n < 2 ∧ a = nI n := by
  rcases (ix_I a 2 (by omega)).symm with ha | ⟨n, hn, rfl⟩
  · exact Or.inl (by omega)
  · exact Or.inr ⟨n, hn, rfl⟩
theorem c_out1 {α : Type} {a : Int32} {u v : α} (h : a.toInt < 0 ∨ 1 < a.toInt) : (if a < (0 : Int32) then u else if a < (2 : Int32) then v else u) = u := by
  have k0 : (0 : Int32).toInt = 0 := by decide
  have k3 : (2 : Int32).toInt = 2 := by decide
  by_cases z : a < 0
  · rw [if_pos z]
  · rw [if_neg z, if_neg]
    rw [fa_lt, k0] at z
    rw [fa_lt, k3]
    omega
theorem c_in1 {α : Type} {n : Nat} {u v : α} (h2 : n < 2) : (if nI n < (0 : Int32) then u else if nI n < (2 : Int32) then v else u) = v := by
  rw [i_0, i_2, ite_lt (by omega) (by omega), ite_lt (by omega) (by omega), if_neg (by omega), if_pos (by omega)]
theorem s_image (hS : S.ok) (a : Int32) : QS x S (fun T M => fX11_image T M x a) (fun T M => fX12_image T M (x + 69) a) := by
  have k0 : (0 : Int64).toInt = 0 := by decide
  have k1 : (1 : Int64).toInt = 1 := by decide
  rcases n1 a with ha | ⟨i, hi, rfl⟩
  · refine qs_no hS (-2) (fun T M h => ?_) (fun T M h => ?_)
    · show fX11_image T M x a = _
      unfold fX11_image
      exact c_out1 ha
    · show fX12_image T M (x + 69) a = _
      unfold fX12_image
      rw [h.1.1.k, gdI, lte, wi_0 (by rw [Int32.toInt_toInt64, k0, k1]; omega), Option.bind_some, if_pos rfl]
  have hok : (imW S i S.A).ok := by
    obtain ⟨h1, h2, h3, h4, h5⟩ := hS
    refine ⟨h1, h2, h3, h4, fun q B hq e => ?_⟩
    have e : (if q = i then some S.A else S.im q) = some B := e
    by_cases z : q = i
    · rw [if_pos z] at e
      rw [← Option.some.inj e]; exact h1.1
    · rw [if_neg z] at e; exact h5 q B hq e
  refine ⟨0, imW S i S.A, hok, by show S.c ≤ S.c + 1; omega, fun T M h => ?_, fun T M h => ?_⟩
  · show Ok (fX11_image T M x (nI i)) _
    have hp := h.1.px
    obtain ⟨t1, t2, t3, t4⟩ := hp.img hi
    obtain ⟨lb, hlb, hlab⟩ := h.1.lab
    unfold fX11_image
    rw [c_in1 hi]
    simp (disch := omega) only [gdI, gdT, Option.bind_some, lte, hp.k0, hp.r0_10, hp.k59, hp.l59, gvI, cl_nI, t4, hp.r0_3, hp.k8, hlb, t1]
    have g1 : ∀ a k, ¬ (a = x + 60 + 3 * i ∧ k = 1) → gR (pR M (x + 60 + 3 * i) 1 (some lb)) a k = gR M a k := fun a k z => by rw [mRR, if_neg z]
    have g2 : gR (pR M (x + 60 + 3 * i) 1 (some lb)) (x + 60 + 3 * i) 1 = some lb := by rw [mRR, if_pos ⟨rfl, rfl⟩]
    have g3 : ∀ a k, gI (pR M (x + 60 + 3 * i) 1 (some lb)) a k = gI M a k := fun _ _ => rfl
    have g4 : ∀ a k, gJ (pR M (x + 60 + 3 * i) 1 (some lb)) a k = gJ M a k := fun _ _ => rfl
    generalize pR M (x + 60 + 3 * i) 1 (some lb) = M1 at g1 g2 g3 g4 ⊢
    rw [g1 x 10 (by omega), hp.r0_10, Option.bind_some, hp.k59, gdI, g1 (x + 59) i (by omega), t4, Option.bind_some, g1 x 5 (by omega), hp.r0_5]
    simp (disch := omega) only [gdI, gdT, Option.bind_some, lte, hp.l59, gvI, t1, g1 _ 0, t2, t3.1]
    have ks1 : KS (x + 61 + 3 * i) T M1 := ⟨t3.1, (g1 _ _ (by omega)).trans t3.2.1, t3.2.2⟩
    have ks2 : KS (x + 25) T M1 := ⟨hp.ks25.1, (g1 _ _ (by omega)).trans hp.ks25.2.1, hp.ks25.2.2⟩
    refine Ok.bd (c_copy ks1 ks2 (by omega) (by omega) (by omega) (h.1.sd.fr (fun k => g3 _ _) (fun k => g3 _ _))) (fun p hq => ?_)
    obtain ⟨p1, M2⟩ := p
    obtain ⟨k1, k2, k3⟩ := hq
    have k1 : SD (x + 61 + 3 * i) (fun k => S.A (42 + k)) M2 := k1
    have k2 : ∀ c k, c ≠ x + 61 + 3 * i → c ≠ x + 61 + 3 * i + 1 → gI M2 c k = gI M c k := fun c k a b => (k2 c k a b).trans (g3 _ _)
    have k3 : M2.2 = M1.2 := k3
    have eJ : ∀ a k, gJ M2 a k = gJ M a k := fun a k => by rw [← g4]; unfold gJ; rw [k3]
    have eR : ∀ a k, ¬ (a = x + 60 + 3 * i ∧ k = 1) → gR M2 a k = gR M a k := fun a k z => by rw [← g1 a k z]; unfold gR; rw [k3]
    have eR1 : gR M2 (x + 60 + 3 * i) 1 = some lb := by rw [← g2]; unfold gR; rw [k3]
    rw [une2]
    obtain ⟨h1, h2, h0, ⟨h3, h4⟩, ⟨h5, h6⟩, h7, h8, G, h9, h10⟩ := h
    refine ok_i ⟨rfl, ⟨h1.frI TE.rfl (by omega) (fun a k q _ => k2 _ _ (by unfold lr at q; omega) (by unfold lr at q; omega)) (fun a k _ => eJ a k) (fun a k q _ => eR a k (by unfold lr at q; omega)), h2.fr (k2 _ _ (by omega) (by omega)) (fun a k _ _ => k2 _ _ (by omega) (by omega)) (fun k => eR _ k (by omega)), h0, ⟨(k2 _ _ (by omega) (by omega)).trans h3, fun i hi => (k2 _ _ (by omega) (by omega)).trans (h4 i hi)⟩, ⟨(k2 _ _ (by omega) (by omega)).trans h5, (k2 _ _ (by omega) (by omega)).trans h6⟩, fun t ht => ?_, fun q hq => ?_, G, (eJ _ _).trans h9, h10⟩, fun a k _ _ => ⟨k2 _ _ (by omega) (by omega), eJ a k, eR a k (by omega)⟩⟩
    · obtain ⟨q1, q2, q3⟩ := h7 t ht
      exact ⟨(k2 _ _ (by omega) (by omega)).trans q1, fun z => (k2 _ _ (by omega) (by omega)).trans (q2 z), fun i hi => (eJ _ _).trans (q3 i hi)⟩
    · show IMC x q (if q = i then some S.A else S.im q) T M2
      by_cases z : q = i
      · rw [if_pos z, z]
        exact ⟨lb, eR1, hlab.fr TE.rfl (fun a k q _ => k2 _ _ (by unfold lr at q; omega) (by unfold lr at q; omega)) (fun a k q _ => eR a k (by unfold lr at q; omega)), k1⟩
      · rw [if_neg z]
        have := h8 q hq
        cases e : S.im q with
        | none => rw [e] at this; exact (eR _ _ (by omega)).trans this
        | some B =>
          rw [e] at this
          obtain ⟨a, a1, a2, a3⟩ := this
          exact ⟨a, (eR _ _ (by omega)).trans a1, a2.fr TE.rfl (fun a k q _ => k2 _ _ (by unfold lr at q; omega) (by unfold lr at q; omega)) (fun a k q _ => eR a k (by unfold lr at q; omega)), a3.fr (fun k => k2 _ _ (by omega) (by omega)) (fun k => k2 _ _ (by omega) (by omega))⟩
  · show Ok (fX12_image T M (x + 69) (nI i)) _
    obtain ⟨h0, f0⟩ := h.t0 (v := 0)
    have hM := h0.1.1
    unfold fX12_image
    rw [h.1.1.k, gdI, lte, wi_1 (by rw [Int32.toInt_toInt64, nI_toInt (by omega), k0, k1]; omega), Option.bind_some, if_neg (by decide)]
    generalize pI M (x + 69) 0 0 = M0 at h0 f0 hM ⊢
    refine Ok.bd (ok_forF (s := ((0 : Int32), M0)) 0 1032 (fun n s => ∃ M', s = (nI n, M') ∧ FI (x + 69) (fun a k => a = x + 69 + 1 ∧ 1032 * (i + 1) ≤ k ∧ k < 1032 * (i + 1) + 1032) M0 M' ∧ ∀ k, k < n → gI M' (x + 69 + 1) (1032 * (i + 1) + k) = S.A k) (fun M' => FI (x + 69) (fun a k => a = x + 69 + 1 ∧ 1032 * (i + 1) ≤ k ∧ k < 1032 * (i + 1) + 1032) M0 M' ∧ ∀ k, k < 1032 → gI M' (x + 69 + 1) (1032 * (i + 1) + k) = S.A k) ⟨M0, rfl, FI.rfl, fun k hk => absurd hk (by omega)⟩ (by omega) (by omega) (fun n s _ hn hI => ?_) (fun s hI => ?_)) (fun M' hq => ?_)
    · obtain ⟨M', rfl, f, g⟩ := hI
      have hM' := hM.fr (M' := M') (fun k => f.2.2 _ _ (by omega))
      have e : gI M' (x + 69 + 1) n = S.A n := (f.1 _ _ (by omega)).trans (h0.1.2 n hn)
      show Ok (bX12_image_20 T (x + 69) (nI i) (nI n) M') _
      unfold bX12_image_20
      simp (disch := omega) only [gdI, gdT, Option.bind_some, lte, une2, une3, nI_add, gvI, cl_nI, c_le, c_lt, c_eq, Sum.elim_inl, Sum.elim_inr, hM'.k, hM'.r1, hM'.k1, hM'.l1, i_1032, Nat.not_le.mpr hn, if_false, nI_1, c_mul, e]
      refine ok_i ⟨_, rfl, f.pI ⟨rfl, by omega, by omega⟩, fun k hk => ?_⟩
      rw [mII]
      by_cases z : k = n
      · rw [if_pos ⟨rfl, by omega⟩, z]
      · rw [if_neg (by omega)]; exact g k (by omega)
    · obtain ⟨M', rfl, f, g⟩ := hI
      show Ok (bX12_image_20 T (x + 69) (nI i) (nI 1032) M') _
      unfold bX12_image_20
      simp (disch := omega) only [i_1032, c_le, Nat.le_refl, if_true]
      exact ok_i ⟨f, g⟩
    · obtain ⟨f, g⟩ := hq
      have hM' := hM.fr (M' := M') (fun k => f.2.2 _ _ (by omega))
      simp (disch := omega) only [gdI, gdT, Option.bind_some, lte, une2, une3, nI_add, gvI, cl_nI, c_le, c_lt, c_eq, Sum.elim_inl, Sum.elim_inr, hM'.k, hM'.r2, hM'.k2, hM'.l2]
      have ev : vp_nar .boolean (1 : Int32) = 1 := by decide
      rw [ev]
      obtain ⟨⟨h1, h2⟩, ⟨h3, h4⟩, ⟨h5, h6⟩, h7, h8⟩ := h0
      have fI : ∀ a k, ¬ (a = x + 69 + 1 ∧ 1032 * (i + 1) ≤ k ∧ k < 1032 * (i + 1) + 1032) → ¬ (a = x + 69 + 2 ∧ k = i) → gI (pI M' (x + 69 + 2) i 1) a k = gI M0 a k := fun a k z y => by rw [mII, if_neg y]; exact f.1 a k z
      have fJ : ∀ a k, a ≠ x + 69 + 5 → gJ (pI M' (x + 69 + 2) i 1) a k = gJ M0 a k := fun a k z => f.2.1 a k z
      have fR : ∀ a k, a ≠ x + 69 + 5 → gR (pI M' (x + 69 + 2) i 1) a k = gR M0 a k := fun a k z => f.2.2 a k z
      refine ok_i ⟨rfl, ⟨⟨h1.fr (fun k => fR _ _ (by omega)), fun k hk => (fI _ _ (by omega) (by omega)).trans (h2 k hk)⟩, ⟨(fI _ _ (by omega) (by omega)).trans h3, fun i hi => (fI _ _ (by omega) (by omega)).trans (h4 i hi)⟩, ⟨(fI _ _ (by omega) (by omega)).trans h5, (fI _ _ (by omega) (by omega)).trans h6⟩, fun t ht => ?_, fun q hq => ?_⟩, f0.trans (fun a k z => ⟨fI _ _ (by omega) (by omega), fJ _ _ (by omega), fR _ _ (by omega)⟩)⟩
      · obtain ⟨q1, q2, q3⟩ := h7 t ht
        exact ⟨fun z => (fI _ _ (by omega) (by omega)).trans (q1 z), fun z => ⟨(fI _ _ (by omega) (by omega)).trans (q2 z).1, (fI _ _ (by omega) (by omega)).trans (q2 z).2⟩, fun i hi => (fJ _ _ (by omega)).trans (q3 i hi)⟩
      · show IMR (x + 69) q (if q = i then some S.A else S.im q) _
        by_cases z : q = i
        · rw [if_pos z, z]
          exact ⟨mII1, fun k hk => (mIIn (by omega)).trans (g k hk)⟩
        · rw [if_neg z]
          have := h8 q hq
          cases e : S.im q with
          | none => rw [e] at this; exact (fI _ _ (by omega) (by omega)).trans this
          | some B => rw [e] at this; exact ⟨(fI _ _ (by omega) (by omega)).trans this.1, fun k hk => (fI _ _ (by omega) (by omega)).trans (this.2 k hk)⟩
end
