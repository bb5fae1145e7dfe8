/-! deeds one after another -/
noncomputable def sq2 (nu : Nat → Int64) (A : Nat → Int32) : Nat → (Nat → Int32)
  | 0 => A
  | i + 1 => (dd (sq2 nu A i) (nu i)).2
theorem exJ (p : Nat → Prop) : ∀ k, ∃ J, J ≤ k ∧ (∀ i, i < J → p i) ∧ (J < k → ¬ p J)
  | 0 => ⟨0, Nat.le_refl _, fun _ h => absurd h (by omega), fun h => absurd h (by omega)⟩
  | k + 1 => by
    obtain ⟨J, h1, h2, h3⟩ := exJ p k
    by_cases z : J < k
    · exact ⟨J, by omega, h2, fun _ => h3 z⟩
    · have e : J = k := by omega
      subst e
      by_cases y : p J
      · exact ⟨J + 1, by omega, fun i hi => by
          by_cases w : i = J
          · rw [w]; exact y
          · exact h2 i (by omega), fun h => absurd h (by omega)⟩
      · exact ⟨J, by omega, h2, fun _ => y⟩
section
variable {x m : Nat} {A B : Nat → Int32} {T T2 : Sh} {M M1 M2 : Me} {S : Wd}
theorem dd_no {v : Int64} (h : (dd A v).1 ≠ 0) : (dd A v).2 = A := by
  unfold dd at h ⊢
  by_cases a0 : v.toInt = 0
  · rw [if_pos a0] at h; exact absurd rfl h
  rw [if_neg a0] at h ⊢
  by_cases a1 : v.toInt = 1
  · rw [if_pos a1] at h; exact absurd rfl h
  rw [if_neg a1] at h ⊢
  by_cases a2 : 10 ≤ v.toInt ∧ v.toInt ≤ 14
  · rw [if_pos a2] at h ⊢
    by_cases q : v.toInt.toNat - 10 ≤ npA A
    · rw [if_pos q] at h; exact absurd rfl h
    · rw [if_neg q]
  rw [if_neg a2] at h ⊢
  by_cases a3 : 100 ≤ v.toInt ∧ v.toInt ≤ 199
  · rw [if_pos a3] at h ⊢
    by_cases q : (v.toInt.toNat - 100) / 10 < nlA A ∧ v.toInt.toNat % 10 < 3
    · rw [if_pos q] at h ⊢
      by_cases z : trL A ((v.toInt.toNat - 100) / 10) (v.toInt.toNat % 10) = -2
      · rw [if_pos z]
      · rw [if_neg z] at h; exact absurd rfl h
    · rw [if_neg q]
  rw [if_neg a3] at h ⊢
  by_cases a4 : 10000 ≤ v.toInt ∧ v.toInt ≤ 15999
  · rw [if_pos a4] at h ⊢
    by_cases q : (v.toInt.toNat - 10000) / 1000 < nlA A ∧ v.toInt.toNat % 1000 < 384
    · rw [if_pos q] at h; exact absurd rfl h
    · rw [if_neg q]
  · rw [if_neg a4]
theorem up_OK2 {k t : Nat} {v : Int32} (h : OK A t) (h1 : 42 ≤ k) (h2 : k < 50) (h3 : k ≠ 48) (sv : SV (upA A k v)) : OK (upA A k v) (t + 1) ∧ LE A (upA A k v) ∧ ∀ j, 50 ≤ j → upA A k v j = A j := ⟨⟨(LE.up h1 (by omega)).hLV h.1, sv, by
  have : tmA (upA A k v) = tmA A := by unfold tmA; rw [upA_n (by omega)]
  have := h.2.2
  omega⟩, LE.up h1 (by omega), fun j hj => upA_n (by omega)⟩
theorem dd_ok {v : Int64} {t : Nat} (h : OK A t) (ht : t + 1 ≤ 1000000) : OK (dd A v).2 (t + 1) ∧ LE A (dd A v).2 ∧ ∀ k, 50 ≤ k → (dd A v).2 k = A k := by
  have same : OK A (t + 1) ∧ LE A A ∧ ∀ k, 50 ≤ k → A k = A k := ⟨h.up (by omega), LE.rfl, fun _ _ => rfl⟩
  have h6 := h.1.b3
  unfold dd
  by_cases a0 : v.toInt = 0
  · rw [if_pos a0]
    have := gT_ok (w := 0) h ht
    unfold gT at this
    rw [if_pos rfl] at this
    exact this
  rw [if_neg a0]
  by_cases a1 : v.toInt = 1
  · rw [if_pos a1]
    have := gT_ok (w := 1) h ht
    unfold gT at this
    rw [if_neg (by omega)] at this
    exact this
  rw [if_neg a1]
  by_cases a2 : 10 ≤ v.toInt ∧ v.toInt ≤ 14
  · rw [if_pos a2]
    by_cases q : v.toInt.toNat - 10 ≤ npA A
    · rw [if_pos q]
      have ep : v.toInt32 - 11 + 1 = nI (v.toInt.toNat - 10) := by
        have hv : v = lN v.toInt.toNat := l_of (by omega)
        have b1 : 10 ≤ v.toInt.toNat := by omega
        have b2 : v.toInt.toNat ≤ 14 := by omega
        generalize v.toInt.toNat = n at *
        rw [hv, l_32 (by omega), i_sub1a, nI_1, i_11, c_sub (by omega), show n + 1 - 11 = n - 10 by omega]
      exact up_OK2 h (by omega) (by omega) (by omega) (h.2.1.pat h.1 ep q)
    · rw [if_neg q]; exact same
  rw [if_neg a2]
  by_cases a3 : 100 ≤ v.toInt ∧ v.toInt ≤ 199
  · rw [if_pos a3]
    by_cases q : (v.toInt.toNat - 100) / 10 < nlA A ∧ v.toInt.toNat % 10 < 3
    · rw [if_pos q]
      by_cases z : trL A ((v.toInt.toNat - 100) / 10) (v.toInt.toNat % 10) = -2
      · rw [if_pos z]; exact same
      · rw [if_neg z]
        rcases trL_c h.1 h.2.1 q.1 q.2 with e | ⟨c, hc, ec⟩
        · exact absurd e z
        · rw [ec]; exact up_OK2 h (by omega) (by omega) (by omega) (h.2.1.pts h.1 (by omega) hc)
    · rw [if_neg q]; exact same
  rw [if_neg a3]
  by_cases a4 : 10000 ≤ v.toInt ∧ v.toInt ≤ 15999
  · rw [if_pos a4]
    by_cases q : (v.toInt.toNat - 10000) / 1000 < nlA A ∧ v.toInt.toNat % 1000 < 384
    · rw [if_pos q]; exact up_OK2 h (by omega) (by omega) (by omega) (h.2.1.pts h.1 (by omega) q.2)
    · rw [if_neg q]; exact same
  · rw [if_neg a4]; exact same
theorem sq2_ok {nu : Nat → Int64} {t : Nat} (h : OK A t) : ∀ i, t + i ≤ 1000000 → OK (sq2 nu A i) (t + i) ∧ LE A (sq2 nu A i) ∧ ∀ k, 50 ≤ k → sq2 nu A i k = A k
  | 0, _ => ⟨h, LE.rfl, fun _ _ => rfl⟩
  | i + 1, hi => by
    obtain ⟨h1, h2, h3⟩ := sq2_ok (nu := nu) h i (by omega)
    obtain ⟨k1, k2, k3⟩ := dd_ok (v := nu i) h1 (by omega)
    exact ⟨k1, h2.trans k2, fun k hk => (k3 k hk).trans (h3 k hk)⟩
theorem PX.tr (h : PX x T M) {t : Nat} (ht : t < 4) : kd T (x + 51 + 2 * t) = 9 ∧ gR M (x + 51 + 2 * t) 0 = some (x + 52 + 2 * t) ∧ kd T (x + 52 + 2 * t) = 14 ∧ ln T (x + 52 + 2 * t) = 40 ∧ gR M (x + 50) t = some (x + 51 + 2 * t) := by
  rcases (by omega : t = 0 ∨ t = 1 ∨ t = 2 ∨ t = 3) with rfl | rfl | rfl | rfl
  · exact ⟨h.k51, h.r51_0, h.k52, h.l52, h.r50_0⟩
  · exact ⟨h.k53, h.r53_0, h.k54, h.l54, h.r50_1⟩
  · exact ⟨h.k55, h.r55_0, h.k56, h.l56, h.r50_2⟩
  · exact ⟨h.k57, h.r57_0, h.k58, h.l58, h.r50_3⟩
theorem c_doDeeds {t k J tm : Nat} {nu : Nat → Int64} (h : CV x A T M) (hO : OK A tm) (htm : tm + 40 ≤ 1000000) (ht : t < 4) (hk : k ≤ 40) (hsz : gI M (x + 51 + 2 * t) 2 = nI k) (hnu : ∀ i, i < k → gJ M (x + 52 + 2 * t) i = nu i) (hJ : J ≤ k) (j1 : ∀ i, i < J → (dd (sq2 nu A i) (nu i)).1 = 0) (j2 : J < k → ¬ (dd (sq2 nu A J) (nu J)).1 = 0) : Ok (fX11_doDeeds T M x (x + 51 + 2 * t)) (fun p => p.1 = nI J ∧ DF x M p.2 ∧ CV x (sq2 nu A J) T p.2) := by
  unfold fX11_doDeeds
  have hsz' : ∀ {M'}, DF x M M' → gI M' (x + 51 + 2 * t) 2 = nI k := fun f => (f.1 _ _ (by omega) (by omega) (by omega) (by omega) (by omega)).trans hsz
  refine Ok.bd (ok_forF (s := ((0 : Int32), M)) 0 k (fun i s => i ≤ J ∧ ∃ M', s = (nI i, M') ∧ DF x M M' ∧ CV x (sq2 nu A i) T M') (fun r => ∃ M', (J < k ∧ r = .inl (nI J, M') ∨ J = k ∧ r = .inr M') ∧ DF x M M' ∧ CV x (sq2 nu A J) T M') ⟨by omega, M, rfl, DF.rfl, h⟩ (by omega) (by omega) (fun i s _ hi hI => ?_) (fun s hI => ?_)) (fun r hq => ?_)
  · obtain ⟨hiJ, M', rfl, f, h'⟩ := hI
    have hp := h'.px
    obtain ⟨t1, t2, t3, t4, t5⟩ := hp.tr ht
    have en : gJ M' (x + 52 + 2 * t) i = nu i := (f.2.1 _ _ (by omega) (by omega) (by omega)).trans (hnu i hi)
    show Ok (bX11_doDeeds_2 T x (x + 51 + 2 * t) (nI i) M') _
    unfold bX11_doDeeds_2
    simp (disch := omega) only [gdI, gdT, Option.bind_some, lte, t1, t2, t3, t4, hsz' f, c_le, Nat.not_le.mpr hi, if_false, gvI, cl_nI, hp.k0, en]
    refine Ok.bd (c_doDeed h' (by have := (sq2_ok (nu := nu) hO i (by omega)).1.2.2; omega) (nu i)) (fun p hq => ?_)
    obtain ⟨p1, M2⟩ := p
    obtain ⟨rfl, f2, h2⟩ := hq
    rw [une2]
    by_cases z : i = J
    · have nz : ¬ (dd (sq2 nu A i) (nu i)).1 = 0 := by rw [z]; exact j2 (by omega)
      rw [if_neg nz]
      have h2 : CV x (dd (sq2 nu A i) (nu i)).2 T M2 := h2
      rw [dd_no nz] at h2
      exact ok_i ⟨M2, Or.inl ⟨by omega, by rw [z]⟩, f.trans f2, by rw [← z]; exact h2⟩
    · rw [if_pos (j1 i (by omega)), nI_1]
      exact ok_i ⟨by omega, M2, rfl, f.trans f2, h2⟩
  · obtain ⟨hiJ, M', rfl, f, h'⟩ := hI
    obtain ⟨t1, t2, t3, t4, t5⟩ := h'.px.tr ht
    have e : J = k := by omega
    show Ok (bX11_doDeeds_2 T x (x + 51 + 2 * t) (nI k) M') _
    unfold bX11_doDeeds_2
    simp (disch := omega) only [gdI, gdT, t1, hsz' f, c_le, Nat.le_refl, if_true]
    exact ok_i ⟨M', Or.inr ⟨e, rfl⟩, f, by rw [e]; exact h'⟩
  · obtain ⟨M', hr, f, h'⟩ := hq
    obtain ⟨t1, t2, t3, t4, t5⟩ := h'.px.tr ht
    rcases hr with ⟨_, rfl⟩ | ⟨e, rfl⟩
    · rw [Sum.elim_inl, une2]; exact ok_i ⟨rfl, f, h'⟩
    · rw [Sum.elim_inr, t1, gdI, hsz' f, e]
      exact ok_i ⟨rfl, f, by rw [← e]; exact h'⟩
def tf (m a k : Nat) : Prop := df m a k ∨ a = m ∧ k = 31
theorem r_tells {t k J tm : Nat} {nu : Nat → Int64} (h : RV m A T M) (hO : OK A tm) (htm : tm + 40 ≤ 1000000) (ht : t < 4) (hk : k ≤ 40) (hsz : gI M (m + 17) t = nI k) (hnu : ∀ i, i < k → gJ M (m + 18) (40 * t + i) = nu i) (hJ : J ≤ k) (j1 : ∀ i, i < J → (dd (sq2 nu A i) (nu i)).1 = 0) (j2 : J < k → ¬ (dd (sq2 nu A J) (nu J)).1 = 0) : Ok (fX12_tells T M m (nI t)) (fun p => p.1 = nI J ∧ gI p.2 m 31 = (if J < k then (dd (sq2 nu A J) (nu J)).1 else 0) ∧ FI m (tf m) M p.2 ∧ RV m (sq2 nu A J) T p.2) := by
  have hM := h.rm
  unfold fX12_tells
  rw [hM.k, gdI, lte]
  have f0 : FI m (tf m) M (pI M m 31 0) := FI.rfl.pI (Or.inr ⟨rfl, rfl⟩)
  have h0 : RV m A T (pI M m 31 0) := h.qf ⟨fun a k q => by rw [mII, if_neg (fun z => q (by unfold sq; omega))], fun _ _ _ => rfl, fun _ _ _ => rfl⟩
  have e0 : gI (pI M m 31 0) m 31 = 0 := mII1
  generalize pI M m 31 0 = M0 at f0 h0 e0 ⊢
  have hsz' : ∀ {M'}, FI m (tf m) M M' → gI M' (m + 17) t = nI k := fun f => (f.1 _ _ (by unfold tf df kf; omega)).trans hsz
  refine Ok.bd (ok_forF (s := ((0 : Int32), M0)) 0 k (fun i s => i ≤ J ∧ ∃ M', s = (nI i, M') ∧ FI m (tf m) M M' ∧ RV m (sq2 nu A i) T M' ∧ gI M' m 31 = 0) (fun r => ∃ M', (J < k ∧ r = .inl (nI J, M') ∨ J = k ∧ r = .inr M') ∧ FI m (tf m) M M' ∧ RV m (sq2 nu A J) T M' ∧ gI M' m 31 = (if J < k then (dd (sq2 nu A J) (nu J)).1 else 0)) ⟨by omega, M0, rfl, f0, h0, e0⟩ (by omega) (by omega) (fun i s _ hi hI => ?_) (fun s hI => ?_)) (fun r hq => ?_)
  · obtain ⟨hiJ, M', rfl, f, h', e'⟩ := hI
    have hM := h'.rm
    have en : gJ M' (m + 18) (40 * t + i) = nu i := (f.2.1 _ _ (by omega)).trans (hnu i hi)
    show Ok (bX12_tells_7 T m (nI t) (nI i) M') _
    unfold bX12_tells_7
    simp (disch := omega) only [gdI, gdT, Option.bind_some, lte, une2, une3, nI_add, gvI, cl_nI, c_le, c_lt, c_eq, Sum.elim_inl, Sum.elim_inr, hM.k, hM.r17, hM.k17, hM.l17, hM.r18, hM.k18, hM.l18, hsz' f, Nat.not_le.mpr hi, if_false, i_40, c_mul, en]
    refine Ok.bd (r_whyNot h' (nu i)) (fun p hq => ?_)
    obtain ⟨p1, M2⟩ := p
    obtain ⟨rfl, f2, lb⟩ := hq
    have f3 : FI m (tf m) M2 (pI M2 m 31 (dd (sq2 nu A i) (nu i)).1) := FI.rfl.pI (Or.inr ⟨rfl, rfl⟩)
    have h2 : RV m (sq2 nu A i) T M2 := h'.kfr f2
    have h3 : RV m (sq2 nu A i) T (pI M2 m 31 (dd (sq2 nu A i) (nu i)).1) := h2.qf ⟨fun a k q => by rw [mII, if_neg (fun z => q (by unfold sq; omega))], fun _ _ _ => rfl, fun _ _ _ => rfl⟩
    have hM3 := h3.rm
    have ff := (f.trans (f2.wide (fun a k q => Or.inl (Or.inl q)))).trans f3
    rw [une2]
    simp (disch := omega) only [gdI, gdT, Option.bind_some, lte, une2, une3, nI_add, gvI, cl_nI, c_le, c_lt, c_eq, Sum.elim_inl, Sum.elim_inr, mII1]
    by_cases z : i = J
    · have nz : ¬ (dd (sq2 nu A i) (nu i)).1 = 0 := by rw [z]; exact j2 (by omega)
      rw [if_neg nz]
      exact ok_i ⟨_, Or.inl ⟨by omega, by rw [z]⟩, ff, by rw [← z]; exact h3, by rw [if_pos (by omega), ← z]; exact mII1⟩
    · have yz := j1 i (by omega)
      rw [if_pos yz]
      have en3 : gJ (pI M2 m 31 (dd (sq2 nu A i) (nu i)).1) (m + 18) (40 * t + i) = nu i := (f2.2.1 _ _ (by omega)).trans en
      simp (disch := omega) only [gdI, gdT, Option.bind_some, lte, une2, une3, nI_add, gvI, cl_nI, c_le, c_lt, c_eq, Sum.elim_inl, Sum.elim_inr, hM3.k, hM3.r17, hM3.k17, hM3.l17, hM3.r18, hM3.k18, hM3.l18, en3]
      have lb3 : LB m (sq2 nu A i) (nu i) (pI M2 m 31 (dd (sq2 nu A i) (nu i)).1) := fun q1 q2 q3 => (mIIk (by omega)).trans (lb q1 q2 q3)
      refine Ok.bd (r_does h3 (by have := (sq2_ok (nu := nu) hO i (by omega)).1.2.2; omega) (nu i) yz lb3) (fun p hq => ?_)
      obtain ⟨p1, M4⟩ := p
      obtain ⟨f4, h4⟩ := hq
      rw [une2, nI_1]
      refine ok_i ⟨by omega, M4, rfl, ff.trans (f4.wide (fun a k q => Or.inl q)), h4, ?_⟩
      have f4 : FI m (df m) (pI M2 m 31 (dd (sq2 nu A i) (nu i)).1) M4 := f4
      rw [f4.1 _ _ (by unfold df kf; omega), mII1]; exact yz
  · obtain ⟨hiJ, M', rfl, f, h', e'⟩ := hI
    have hM := h'.rm
    have e : J = k := by omega
    show Ok (bX12_tells_7 T m (nI t) (nI k) M') _
    unfold bX12_tells_7
    simp (disch := omega) only [gdI, gdT, Option.bind_some, lte, une2, une3, nI_add, gvI, cl_nI, c_le, c_lt, c_eq, Sum.elim_inl, Sum.elim_inr, hM.k, hM.r17, hM.k17, hM.l17, hsz' f, Nat.le_refl, if_true]
    exact ok_i ⟨M', Or.inr ⟨e, rfl⟩, f, by rw [e]; exact h', by rw [if_neg (by omega)]; exact e'⟩
  · obtain ⟨M', hr, f, h', e'⟩ := hq
    have hM := h'.rm
    rcases hr with ⟨_, rfl⟩ | ⟨e, rfl⟩
    · rw [Sum.elim_inl, une2]; exact ok_i ⟨rfl, e', f, h'⟩
    · rw [Sum.elim_inr]
      simp (disch := omega) only [gdI, gdT, Option.bind_some, lte, une2, une3, nI_add, gvI, cl_nI, c_le, c_lt, c_eq, Sum.elim_inl, Sum.elim_inr, hM.k, hM.r17, hM.k17, hM.l17, hsz' f]
      exact ok_i ⟨by rw [e], e', f, h'⟩
end
