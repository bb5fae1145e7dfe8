/-! trays of numbers -/
def trW (S : Wd) (t : Nat) (j k : Int32) (v : Nat → Int64) : Wd := mkW S.A S.u S.n S.b S.f1 S.f2 (fun i => if i = t then j else S.so i) (fun i => if i = t then k else S.sz i) (fun i => if i = t then v else S.nu i) S.im S.c
section
variable {x m : Nat} {A B : Nat → Int32} {T T2 : Sh} {M M1 M2 : Me} {S : Wd}
theorem tr_ok {t j k : Nat} {v : Nat → Int64} (hS : S.ok) (hk : k ≤ 40) (hj : j < 4) : (trW S t (nI j) (nI k) v).ok := by
  obtain ⟨h1, h2, h3, h4, h5⟩ := hS
  refine ⟨h1, h2, h3, fun i hi => ?_, h5⟩
  show (if i = t then nI k else S.sz i) = -1 ∨ ∃ k' j', k' ≤ 40 ∧ (if i = t then nI k else S.sz i) = nI k' ∧ j' < 4 ∧ (if i = t then nI j else S.so i) = nI j'
  by_cases z : i = t
  · rw [if_pos z, if_pos z]; exact Or.inr ⟨k, j, hk, rfl, hj, rfl⟩
  · rw [if_neg z, if_neg z]; exact h4 i hi
theorem WC.tr {t : Nat} {j k : Int32} {v : Nat → Int64} (h : WC x S T M) (ht : t < 4) (fI : ∀ a q, a ≠ x + 51 + 2 * t → gI M2 a q = gI M a q) (fJ : ∀ a q, a ≠ x + 52 + 2 * t → gJ M2 a q = gJ M a q) (fR : M2.2.2 = M.2.2) (e1 : gI M2 (x + 51 + 2 * t) 1 = j) (e2 : gI M2 (x + 51 + 2 * t) 2 = k) (e3 : ∀ i, i < k.toNatClampNeg → gJ M2 (x + 52 + 2 * t) i = v i) : WC x (trW S t j k v) T M2 ∧ CF x M M2 := by
  have eR : ∀ a q, gR M2 a q = gR M a q := fun a q => by unfold gR; rw [fR]
  obtain ⟨h1, h2, h0, ⟨h3, h4⟩, ⟨h5, h6⟩, h7, h8, G, h9, h10⟩ := h
  refine ⟨⟨h1.fr TE.rfl (by omega) (fun a q z _ => fI _ _ (by unfold lr at z; omega)) (fun a q z => fJ _ _ (by omega)) (fun a q _ _ => eR a q), h2.fr (fI _ _ (by omega)) (fun a q _ _ => fI _ _ (by omega)) (fun q => eR _ q), h0, ⟨(fI _ _ (by omega)).trans h3, fun i hi => (fI _ _ (by omega)).trans (h4 i hi)⟩, ⟨(fI _ _ (by omega)).trans h5, (fI _ _ (by omega)).trans h6⟩, fun i hi => ?_, fun i hi => (h8 i hi).fr hi TE.rfl (fun a q z _ => fI _ _ (by unfold lr at z; omega)) (fun a q _ _ => eR a q) h0, G, (fJ _ _ (by omega)).trans h9, h10⟩, fun a q _ _ => ⟨fI _ _ (by omega), fJ _ _ (by omega), eR a q⟩⟩
  show gI M2 (x + 51 + 2 * i) 2 = (if i = t then k else S.sz i) ∧ ((if i = t then k else S.sz i) ≠ -1 → gI M2 (x + 51 + 2 * i) 1 = (if i = t then j else S.so i)) ∧ ∀ q, q < (if i = t then k else S.sz i).toNatClampNeg → gJ M2 (x + 52 + 2 * i) q = (if i = t then v else S.nu i) q
  by_cases z : i = t
  · rw [if_pos z, if_pos z, if_pos z, z]; exact ⟨e2, fun _ => e1, e3⟩
  · rw [if_neg z, if_neg z, if_neg z]
    obtain ⟨q1, q2, q3⟩ := h7 i hi
    exact ⟨(fI _ _ (by omega)).trans q1, fun y => (fI _ _ (by omega)).trans (q2 y), fun q hq => (fJ _ _ (by omega)).trans (q3 q hq)⟩
theorem WR.tr {t : Nat} {j k : Int32} {v : Nat → Int64} (h : WR m S T M) (ht : t < 4) (hk : k ≠ -1) (hS : S.ok) (fI : ∀ a q, ¬ (a = m ∧ q = 0) → ¬ ((a = m + 16 ∨ a = m + 17) ∧ q = t) → gI M2 a q = gI M a q) (fJ : ∀ a q, ¬ (a = m + 18 ∧ 40 * t ≤ q ∧ q < 40 * t + 40) → gJ M2 a q = gJ M a q) (fR : M2.2.2 = M.2.2) (e1 : gI M2 (m + 16) t = j) (e2 : gI M2 (m + 17) t = k) (e3 : ∀ i, i < k.toNatClampNeg → gJ M2 (m + 18) (40 * t + i) = v i) : WR m (trW S t j k v) T M2 ∧ RF m M M2 := by
  have eR : ∀ a q, gR M2 a q = gR M a q := fun a q => by unfold gR; rw [fR]
  obtain ⟨⟨h1, h2⟩, ⟨h3, h4⟩, ⟨h5, h6⟩, h7, h8⟩ := h
  refine ⟨⟨⟨h1.fr (fun q => eR _ q), fun q hq => (fI _ _ (by omega) (by omega)).trans (h2 q hq)⟩, ⟨(fI _ _ (by omega) (by omega)).trans h3, fun i hi => (fI _ _ (by omega) (by omega)).trans (h4 i hi)⟩, ⟨(fI _ _ (by omega) (by omega)).trans h5, (fI _ _ (by omega) (by omega)).trans h6⟩, fun i hi => ?_, fun i hi => ?_⟩, fun a q _ => ⟨fI _ _ (by omega) (by omega), fJ _ _ (by omega), eR a q⟩⟩
  · show ((if i = t then k else S.sz i) = -1 → gI M2 (m + 16) i = -1) ∧ ((if i = t then k else S.sz i) ≠ -1 → gI M2 (m + 16) i = (if i = t then j else S.so i) ∧ gI M2 (m + 17) i = (if i = t then k else S.sz i)) ∧ ∀ q, q < (if i = t then k else S.sz i).toNatClampNeg → gJ M2 (m + 18) (40 * i + q) = (if i = t then v else S.nu i) q
    by_cases z : i = t
    · rw [if_pos z, if_pos z, if_pos z, z]; exact ⟨fun y => absurd y hk, fun _ => ⟨e1, e2⟩, e3⟩
    · rw [if_neg z, if_neg z, if_neg z]
      obtain ⟨q1, q2, q3⟩ := h7 i hi
      refine ⟨fun y => (fI _ _ (by omega) (by omega)).trans (q1 y), fun y => ⟨(fI _ _ (by omega) (by omega)).trans (q2 y).1, (fI _ _ (by omega) (by omega)).trans (q2 y).2⟩, fun q hq => (fJ _ _ ?_).trans (q3 q hq)⟩
      have : q < 40 := by
        rcases hS.2.2.2.1 i hi with y | ⟨k', j', b1, b2, _⟩
        · rw [y] at hq; exact absurd hq (by have : (-1 : Int32).toNatClampNeg = 0 := by decide
                                            omega)
        · rw [b2, cl_nI (by omega)] at hq; omega
      omega
  · have := h8 i hi
    show IMR m i (S.im i) M2
    cases e : S.im i with
    | none => rw [e] at this; exact (fI _ _ (by omega) (by omega)).trans this
    | some B => rw [e] at this; exact ⟨(fI _ _ (by omega) (by omega)).trans this.1, fun q hq => (fI _ _ (by omega) (by omega)).trans (this.2 q hq)⟩
theorem n40 (a : Int32) : (a.toInt < 0 ∨ 40 < a.toInt) ∨ ∃ n, n ≤ 40 ∧ a = nI n := by
  rcases (ix_I a 41 (by omega)).symm with ha | ⟨n, hn, rfl⟩
  · exact Or.inl (by omega)
  · exact Or.inr ⟨n, by omega, rfl⟩
theorem s_numbers (hS : S.ok) (a b c : Int32) : QS x S (fun T M => fX11_numbers T M x a b c) (fun T M => fX12_numbers T M (x + 69) a b c) := by
  have k0 : (0 : Int64).toInt = 0 := by decide
  have k3 : (3 : Int64).toInt = 3 := by decide
  have k40 : (40 : Int64).toInt = 40 := by decide
  have i0 : (0 : Int32).toInt = 0 := by decide
  have i4 : (4 : Int32).toInt = 4 := by decide
  have i40 : (40 : Int32).toInt = 40 := by decide
  rcases (ix_I a 4 (by omega)).symm with ha | ⟨t, ht, rfl⟩
  · refine qs_no hS (-2) (fun T M h => ?_) (fun T M h => ?_)
    · show fX11_numbers T M x a b c = _
      unfold fX11_numbers
      rw [c_tray0 ha, Option.bind_some, if_neg (by decide)]
    · show fX12_numbers T M (x + 69) a b c = _
      unfold fX12_numbers
      rw [h.1.1.k, gdI, lte, wi_0 (by rw [Int32.toInt_toInt64, k0, k3]; omega), Option.bind_some, if_pos rfl]
  have w1 : fX12_within (nI t).toInt64 0 3 = some 1 := wi_1 (by rw [Int32.toInt_toInt64, nI_toInt (by omega), k0, k3]; omega)
  rcases n3 b with hb | ⟨j, hj, rfl⟩
  · refine qs_no hS (-2) (fun T M h => ?_) (fun T M h => ?_)
    · show fX11_numbers T M x (nI t) b c = _
      unfold fX11_numbers
      rw [c_tray1 ht, Option.bind_some, if_pos rfl]
      by_cases z : b < 0
      · rw [if_pos z]
      · rw [if_neg z, if_neg]
        rw [fa_lt, i0] at z
        rw [fa_lt, i4]; omega
    · show fX12_numbers T M (x + 69) (nI t) b c = _
      unfold fX12_numbers
      rw [h.1.1.k, gdI, lte, w1, Option.bind_some, if_neg (by decide), wi_0 (by rw [Int32.toInt_toInt64, k0, k3]; omega), Option.bind_some, if_pos rfl]
  have w2 : fX12_within (nI j).toInt64 0 3 = some 1 := wi_1 (by rw [Int32.toInt_toInt64, nI_toInt (by omega), k0, k3]; omega)
  have c1 : ∀ {α : Type} {u v w : α}, (if nI j < (0 : Int32) then u else if nI j < (4 : Int32) then v else w) = v := fun {α u v w} => by rw [i_0, i_4, ite_lt (by omega) (by omega), ite_lt (by omega) (by omega), if_neg (by omega), if_pos hj]
  rcases n40 c with hc | ⟨k, hk, rfl⟩
  · refine qs_no hS (-3) (fun T M h => ?_) (fun T M h => ?_)
    · show fX11_numbers T M x (nI t) (nI j) c = _
      unfold fX11_numbers
      rw [c_tray1 ht, Option.bind_some, if_pos rfl, c1]
      by_cases z : c < 0
      · rw [if_pos z]
      · rw [if_neg z, if_neg]
        rw [fa_lt, i0] at z
        rw [fa_le, i40]; omega
    · show fX12_numbers T M (x + 69) (nI t) (nI j) c = _
      unfold fX12_numbers
      rw [h.1.1.k, gdI, lte, w1, Option.bind_some, if_neg (by decide), w2, Option.bind_some, if_neg (by decide), wi_0 (by rw [Int32.toInt_toInt64, k0, k40]; omega), Option.bind_some, if_pos rfl]
  have w3 : fX12_within (nI k).toInt64 0 40 = some 1 := wi_1 (by rw [Int32.toInt_toInt64, nI_toInt (by omega), k0, k40]; omega)
  refine ⟨0, trW S t (nI j) (nI k) (fun _ => 0), tr_ok hS hk hj, by show S.c ≤ S.c + 1; omega, fun T M h => ?_, fun T M h => ?_⟩
  · show Ok (fX11_numbers T M x (nI t) (nI j) (nI k)) _
    have hp := h.1.px
    obtain ⟨t1, t2, t3, t4, t5⟩ := hp.tr ht
    unfold fX11_numbers
    rw [c_tray1 ht, Option.bind_some, if_pos rfl, c1, i_0, i_40, ite_lt (by omega) (by omega), ite_le (by omega) (by omega), if_neg (by omega), if_pos hk]
    unfold fX10_hold
    simp (disch := omega) only [gdI, gdT, Option.bind_some, lte, hp.k0, hp.r0_9, hp.k50, hp.l50, gvI, cl_nI, t5, t1, mRI, t2, fillJ_eq t3 t4 (by omega), une2]
    have := h.tr (M2 := pB (pI (pI M (x + 51 + 2 * t) 1 (nI j)) (x + 51 + 2 * t) 2 (nI k)) (x + 52 + 2 * t) (fun q => if q < 40 then 0 else gJ (pI (pI M (x + 51 + 2 * t) 1 (nI j)) (x + 51 + 2 * t) 2 (nI k)) (x + 52 + 2 * t) q)) (j := nI j) (k := nI k) (v := fun _ => 0) ht (fun a q z => by rw [mIB, mIIn z, mIIn z]) (fun a q z => by rw [mJBn z]; rfl) rfl (by rw [mIB, mIIk (by omega), mII1]) (by rw [mIB, mII1]) (fun i hi => by
      rw [cl_nI (by omega)] at hi
      rw [mJB1, if_pos (by omega)])
    exact ok_i ⟨rfl, this⟩
  · show Ok (fX12_numbers T M (x + 69) (nI t) (nI j) (nI k)) _
    obtain ⟨h0, f0⟩ := h.t0 (v := 0)
    have hM := h0.1.1
    unfold fX12_numbers
    rw [h.1.1.k, gdI, lte, w1, Option.bind_some, if_neg (by decide), w2, Option.bind_some, if_neg (by decide), w3, Option.bind_some, if_neg (by decide)]
    generalize pI M (x + 69) 0 0 = M0 at h0 f0 hM ⊢
    simp (disch := omega) only [gdI, gdT, Option.bind_some, lte, une2, une3, nI_add, gvI, cl_nI, c_le, c_lt, c_eq, Sum.elim_inl, Sum.elim_inr, hM.k, hM.r16, hM.k16, hM.l16, hM.r17, hM.k17, hM.l17, mRI]
    refine Ok.bd (ok_forF (s := ((0 : Int32), pI (pI M0 (x + 69 + 16) t (nI j)) (x + 69 + 17) t (nI k))) 0 k (fun i s => ∃ M', s = (nI i, M') ∧ M'.1 = (pI (pI M0 (x + 69 + 16) t (nI j)) (x + 69 + 17) t (nI k)).1 ∧ M'.2.2 = M0.2.2 ∧ (∀ a q, ¬ (a = x + 69 + 18 ∧ 40 * t ≤ q ∧ q < 40 * t + 40) → gJ M' a q = gJ M0 a q) ∧ ∀ q, q < i → gJ M' (x + 69 + 18) (40 * t + q) = 0) (fun M' => M'.1 = (pI (pI M0 (x + 69 + 16) t (nI j)) (x + 69 + 17) t (nI k)).1 ∧ M'.2.2 = M0.2.2 ∧ (∀ a q, ¬ (a = x + 69 + 18 ∧ 40 * t ≤ q ∧ q < 40 * t + 40) → gJ M' a q = gJ M0 a q) ∧ ∀ q, q < k → gJ M' (x + 69 + 18) (40 * t + q) = 0) ⟨_, rfl, rfl, rfl, fun _ _ _ => rfl, fun q hq => absurd hq (by omega)⟩ (by omega) (by omega) (fun i s _ hi hI => ?_) (fun s hI => ?_)) (fun M' hq => ?_)
    · obtain ⟨M', rfl, e1, e2, e3, e4⟩ := hI
      have hM' := hM.fr (M' := M') (fun q => by unfold gR; rw [e2])
      show Ok (bX12_numbers_64 T (x + 69) (nI t) (nI k) (nI i) M') _
      unfold bX12_numbers_64
      simp (disch := omega) only [gdI, gdT, Option.bind_some, lte, une2, une3, nI_add, gvI, cl_nI, c_le, c_lt, c_eq, Sum.elim_inl, Sum.elim_inr, hM'.k, hM'.r18, hM'.k18, hM'.l18, i_40, c_mul, Nat.not_le.mpr hi, if_false, nI_1]
      refine ok_i ⟨_, rfl, e1, e2, fun a q z => ?_, fun q hq => ?_⟩
      · rw [mJJ, if_neg (by omega)]; exact e3 a q z
      · rw [mJJ]
        by_cases y : q = i
        · rw [if_pos ⟨rfl, by omega⟩]
        · rw [if_neg (by omega)]; exact e4 q (by omega)
    · obtain ⟨M', rfl, e1, e2, e3, e4⟩ := hI
      show Ok (bX12_numbers_64 T (x + 69) (nI t) (nI k) (nI k) M') _
      unfold bX12_numbers_64
      simp (disch := omega) only [c_le, Nat.le_refl, if_true]
      exact ok_i ⟨e1, e2, e3, e4⟩
    · obtain ⟨e1, e2, e3, e4⟩ := hq
      have eI : ∀ a q, gI M' a q = gI (pI (pI M0 (x + 69 + 16) t (nI j)) (x + 69 + 17) t (nI k)) a q := fun a q => by unfold gI; rw [e1]
      have := h0.tr (M2 := M') (j := nI j) (k := nI k) (v := fun _ => 0) ht (i_ne1 _ (by omega)) hS (fun a q z y => by rw [eI, mII, if_neg (by omega), mII, if_neg (by omega)]) e3 e2 (by rw [eI, mIIn (by omega), mII1]) (by rw [eI, mII1]) (fun i hi => by
        rw [cl_nI (by omega)] at hi
        exact e4 i hi)
      exact ok_i ⟨rfl, this.1, f0.trans this.2⟩
end
