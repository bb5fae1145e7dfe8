/-! what was seen: the drifts that agree -/
theorem and1 (n : Nat) : nI n &&& 1 = nI (n % 2) := by
  apply Int32.toBitVec_inj.1
  show BitVec.ofNat 32 n &&& 1#32 = BitVec.ofNat 32 (n % 2)
  apply BitVec.eq_of_toNat_eq
  rw [BitVec.toNat_and, BitVec.toNat_ofNat, BitVec.toNat_ofNat, BitVec.toNat_ofNat]
  have e : (1 : Nat) % 2 ^ 32 = 2 ^ 1 - 1 := by decide
  rw [e, Nat.and_two_pow_sub_one_eq_mod]
  omega
def agB (A : Nat → Int32) (l e : Nat) (v : Nat → Nat) : Nat → Bool
  | 0 => true
  | i + 1 => agB A l e v i && (psd A (qA A) e l (v i / 2 / 24) (v i / 2 % 24) == decide (v i % 2 = 1))
theorem agB_f {A : Nat → Int32} {l e : Nat} {v : Nat → Nat} {i : Nat} (h : agB A l e v i = false) : ∀ k, i ≤ k → agB A l e v k = false
  | 0, hk => by have : i = 0 := by omega
                rw [this] at h; exact h
  | k + 1, hk => by
    by_cases z : i = k + 1
    · rw [← z]; exact h
    · show (agB A l e v k && _) = false
      rw [agB_f h k (by omega)]; rfl
/-- tray t holds k numbers v i, each a cell and a bit -/
def TV (x t k : Nat) (v : Nat → Nat) (M : Me) : Prop := t < 4 ∧ k ≤ 8 ∧ gI M (x + 51 + 2 * t) 2 = nI k ∧ ∀ i, i < k → gJ M (x + 52 + 2 * t) i = lN (v i) ∧ v i ≤ 767
def TU (m t k : Nat) (v : Nat → Nat) (M : Me) : Prop := t < 4 ∧ k ≤ 8 ∧ gI M (m + 17) t = nI k ∧ ∀ i, i < k → gJ M (m + 18) (40 * t + i) = lN (v i) ∧ v i ≤ 767
section
variable {x m t k l : Nat} {v : Nat → Nat} {A B : Nat → Int32} {T T2 : Sh} {M M1 M2 : Me} {S : Wd}
theorem TV.gf (h : TV x t k v M) (f : GF x M M2) : TV x t k v M2 := ⟨h.1, h.2.1, (f.1 _ _ (by have := h.1; omega) (by have := h.1; omega) (by have := h.1; omega)).trans h.2.2.1, fun i hi => ⟨(f.2.1 _ _ (by have := h.1; omega) (by have := h.1; omega) (by have := h.1; omega)).trans (h.2.2.2 i hi).1, (h.2.2.2 i hi).2⟩⟩
theorem TU.qf (h : TU m t k v M) (f : QF m M M2) : TU m t k v M2 := ⟨h.1, h.2.1, (f.1 _ _ (by unfold sq; omega)).trans h.2.2.1, fun i hi => ⟨(f.2.1 _ _ (by omega)).trans (h.2.2.2 i hi).1, (h.2.2.2 i hi).2⟩⟩
theorem eqb {p : Bool} {n : Nat} : (b2 p = nI (n % 2)) ↔ (p == decide (n % 2 = 1)) = true := by
  rcases (by omega : n % 2 = 0 ∨ n % 2 = 1) with z | z
  · rw [z]; cases p <;> decide
  · rw [z]; cases p <;> decide
theorem c_agrees {e : Nat} (h : CV x A T M) (hl : l < nlA A) (he : e ≤ 30) (ht : TV x t k v M) : Ok (fX11_agrees T M x (x + 51 + 2 * t) (nI l) (dft e)) (fun p => p.1 = b2 (agB A l e v k) ∧ PF x M p.2 ∧ CV x A T p.2) := by
  obtain ⟨ht4, hk, hsz, hnu⟩ := ht
  unfold fX11_agrees
  refine Ok.bd (ok_forF (s := ((0 : Int32), M)) 0 k (fun i s => ∃ M', s = (nI i, M') ∧ agB A l e v i = true ∧ PF x M M' ∧ CV x A T M') (fun r => ∃ M', (r = .inl M' ∧ agB A l e v k = false ∨ r = .inr M' ∧ agB A l e v k = true) ∧ PF x M M' ∧ CV x A T M') ⟨M, rfl, rfl, PF.rfl, h⟩ (by omega) (by omega) (fun i s _ hi hI => ?_) (fun s hI => ?_)) (fun r hq => ?_)
  · obtain ⟨M', rfl, ag, f, h'⟩ := hI
    have hp := h'.px
    obtain ⟨t1, t2, t3, t4, t5⟩ := hp.tr ht4
    have es : gI M' (x + 51 + 2 * t) 2 = nI k := (f.1 _ _ (by omega) (by omega) (by omega)).trans hsz
    have hb := (hnu i hi).2
    have en : gJ M' (x + 52 + 2 * t) i = lN (v i) := (f.2.1 _ _ (by omega)).trans (hnu i hi).1
    have e32 : (lN (v i)).toInt32 = nI (v i) := l_32 (by omega)
    show Ok (bX11_agrees_3 T x (x + 51 + 2 * t) (nI l) (dft e) (nI i) M') _
    unfold bX11_agrees_3
    simp (disch := omega) only [gdI, gdT, Option.bind_some, lte, t1, es, c_le, Nat.not_le.mpr hi, if_false, t2, t3, t4, gvI, cl_nI, en, e32, i_2, i_24, c_div, hp.k0, hp.k8, hp.k15, hp.l15, hp.k16, hp.l16, hp.k17, hp.l17, hp.k18, hp.l18, hp.k25, hp.k26, hp.l26, hp.r0_0, hp.r0_2, hp.r0_3, hp.r0_4, hp.r0_5, hp.r0_6, hp.r0_7, hp.r0_9, hp.r0_10, hp.r0_13, hp.r8_1, hp.r8_2, hp.r8_4, hp.r8_5, hp.r25_0, h'.pa]
    refine Ok.bd (c_passing (q := qA A) h' hl h'.sv.b49 he (by omega) h'.sv.n49) (fun p hq => ?_)
    obtain ⟨p1, M2⟩ := p
    obtain ⟨rfl, f2, h2⟩ := hq
    have ags : agB A l e v (i + 1) = (agB A l e v i && (psd A (qA A) e l (v i / 2 / 24) (v i / 2 % 24) == decide (v i % 2 = 1))) := rfl
    rw [une2, c_remQ (by omega) (by omega) (by omega), bit_at (by omega), bt_rw (by omega), and1]
    by_cases z : b2 (psd A (qA A) e l (v i / 2 / 24) (v i / 2 % 24)) = nI (v i % 2)
    · rw [if_pos z, nI_1]
      rw [eqb.mp z, ag] at ags
      exact ok_i ⟨M2, rfl, ags, f.trans f2, h2⟩
    · rw [if_neg z]
      have zf : (psd A (qA A) e l (v i / 2 / 24) (v i / 2 % 24) == decide (v i % 2 = 1)) = false := by
        cases w : (psd A (qA A) e l (v i / 2 / 24) (v i / 2 % 24) == decide (v i % 2 = 1))
        · rfl
        · exact absurd (eqb.mpr w) z
      rw [zf, Bool.and_false] at ags
      exact ok_i ⟨M2, Or.inl ⟨rfl, agB_f ags k (by omega)⟩, f.trans f2, h2⟩
  · obtain ⟨M', rfl, ag, f, h'⟩ := hI
    obtain ⟨t1, t2, t3, t4, t5⟩ := h'.px.tr ht4
    have es : gI M' (x + 51 + 2 * t) 2 = nI k := (f.1 _ _ (by omega) (by omega) (by omega)).trans hsz
    show Ok (bX11_agrees_3 T x (x + 51 + 2 * t) (nI l) (dft e) (nI k) M') _
    unfold bX11_agrees_3
    simp (disch := omega) only [gdI, gdT, t1, es, c_le, Nat.le_refl, if_true]
    exact ok_i ⟨M', Or.inr ⟨rfl, ag⟩, f, h'⟩
  · obtain ⟨M', hr, f, h'⟩ := hq
    rcases hr with ⟨rfl, ag⟩ | ⟨rfl, ag⟩
    · rw [Sum.elim_inl, ag]; exact ok_i ⟨rfl, f, h'⟩
    · rw [Sum.elim_inr, ag]; exact ok_i ⟨rfl, f, h'⟩
theorem c_seenDrifts (h : CV x A T M) (hl : l < nlA A) (ht : TV x t k v M) : Ok (fX11_seenDrifts T M x (x + 51 + 2 * t) (nI l)) (fun p => p.1 = mk (fun e => agB A l e v k) 31 ∧ PF x M p.2 ∧ CV x A T p.2) := by
  unfold fX11_seenDrifts
  refine Ok.bd (ok_forF (s := ((0 : Int32), (0 : Int32), M)) 0 31 (fun e s => ∃ M', s = (mk (fun e => agB A l e v k) e, nI e, M') ∧ PF x M M' ∧ CV x A T M') (fun r => r.1 = mk (fun e => agB A l e v k) 31 ∧ PF x M r.2 ∧ CV x A T r.2) ⟨M, rfl, PF.rfl, h⟩ (by omega) (by omega) (fun e s _ he hI => ?_) (fun s hI => ?_)) (fun r hq => ?_)
  · obtain ⟨M', rfl, f, h'⟩ := hI
    show Ok (bX11_seenDrifts_5 T x (x + 51 + 2 * t) (nI l) (mk (fun e => agB A l e v k) e) (nI e) M') _
    unfold bX11_seenDrifts_5
    rw [i_31, ite_le (by omega) (by omega), if_neg (by omega), h'.px.k0, gdI, i_15]
    refine Ok.bd (c_agrees (e := e) h' hl (by omega) (ht.gf f.gf)) (fun p hq => ?_)
    obtain ⟨p1, M2⟩ := p
    obtain ⟨rfl, f2, h2⟩ := hq
    simp only [une2, lte, nI_1]
    cases hb : agB A l e v k
    · rw [if_pos (b2_ne.mpr rfl)]
      exact ok_i ⟨M2, by rw [mk, if_neg (by rw [hb]; decide)], f.trans f2, h2⟩
    · rw [if_neg (fun z => absurd (b2_ne.mp z) (by decide))]
      refine ok_i ⟨M2, ?_, f.trans f2, h2⟩
      rw [mk, if_pos hb]; rfl
  · obtain ⟨M', rfl, f, h'⟩ := hI
    show Ok (bX11_seenDrifts_5 T x (x + 51 + 2 * t) (nI l) (mk (fun e => agB A l e v k) 31) (nI 31) M') _
    unfold bX11_seenDrifts_5
    rw [i_31, if_pos (by decide)]
    exact ok_i ⟨rfl, f, h'⟩
  · obtain ⟨r1, M'⟩ := r
    rw [une2]
    exact ok_i hq
theorem r_driftsOf (h : RV m A T M) (hl : l < nlA A) (ht : TU m t k v M) : Ok (fX12_driftsOf T M m (nI t) (nI l)) (fun p => p.1 = mk (fun e => agB A l e v k) 31 ∧ FI m (nf m) M p.2 ∧ gI p.2 m 19 = stA A (qA A)) := by
  unfold fX12_driftsOf
  rw [h.rm.k, gdI]
  refine Ok.bd (r_laysNow h) (fun p hq => ?_)
  obtain ⟨p1, M1⟩ := p
  obtain ⟨d1, f1, h1⟩ := hq
  rw [une2]
  have hq4 : qA A ≤ 4 := by have := h.lv.b4; have := h.sv.b49; omega
  refine Ok.bd (ok_forF (s := ((0 : Int32), (0 : Int32), M1)) 0 31 (fun e s => ∃ M', s = (mk (fun e => agB A l e v k) e, nI e, M') ∧ FI m (nf m) M M' ∧ gI M' m 19 = stA A (qA A)) (fun r => r.1 = mk (fun e => agB A l e v k) 31 ∧ FI m (nf m) M r.2 ∧ gI r.2 m 19 = stA A (qA A)) ⟨M1, rfl, f1, d1.2⟩ (by omega) (by omega) (fun e s _ he hI => ?_) (fun s hI => ?_)) (fun r hq => ?_)
  · obtain ⟨M', rfl, f, e19⟩ := hI
    have h' : RV m A T M' := h.fi f (fun _ _ => nf_qf)
    show Ok (bX12_driftsOf_9 T m (nI t) (nI l) (mk (fun e => agB A l e v k) e) (nI e) M') _
    unfold bX12_driftsOf_9
    rw [i_30, ite_lt (by omega) (by omega), if_neg (by omega), h'.rm.k, gdI, lte, i_15]
    have fa : FI m (nf m) M (pI M' m 18 (nI e - nI 15)) := f.pI (Or.inr (Or.inr ⟨rfl, Or.inr (Or.inl rfl)⟩))
    have dd2 : RD m A (qA A) e (pI M' m 18 (nI e - nI 15)) := ⟨mII1, (mIIk (by omega)).trans e19⟩
    generalize pI M' m 18 (nI e - nI 15) = M2 at fa dd2 ⊢
    refine Ok.bd (ok_forF (s := ((1 : Int32), (0 : Int32), M2)) 0 k (fun i s => ∃ M3, s = (b2 (agB A l e v i), nI i, M3) ∧ FI m (nf m) M M3 ∧ RD m A (qA A) e M3) (fun r => r.1 = b2 (agB A l e v k) ∧ FI m (nf m) M r.2 ∧ RD m A (qA A) e r.2) ⟨M2, rfl, fa, dd2⟩ (by omega) (by have := ht.2.1; omega) (fun i s _ hi hI => ?_) (fun s hI => ?_)) (fun r hq => ?_)
    · obtain ⟨M3, rfl, f3, d3⟩ := hI
      have h3 : RV m A T M3 := h.fi f3 (fun _ _ => nf_qf)
      have hM := h3.rm
      obtain ⟨ht4, hk, hsz, hnu⟩ := ht.qf (f3.qf (fun _ _ => nf_qf))
      have hb := (hnu i hi).2
      have en := (hnu i hi).1
      have e32 : (lN (v i)).toInt32 = nI (v i) := l_32 (by omega)
      show Ok (bX12_driftsOf_31 T m (nI t) (nI l) (mk (fun e => agB A l e v k) e) (nI e) (b2 (agB A l e v i)) (nI i) M3) _
      unfold bX12_driftsOf_31
      simp (disch := omega) only [gdI, gdT, Option.bind_some, lte, une2, une3, nI_add, gvI, cl_nI, c_le, c_lt, c_eq, Sum.elim_inl, Sum.elim_inr, hM.k, hM.r17, hM.k17, hM.l17, hM.r18, hM.k18, hM.l18, hsz, Nat.not_le.mpr hi, if_false, i_40, i_2, c_mul, en, e32, c_div]
      refine Ok.bd (r_isPassed (c := v i / 2) h3 d3 hl (by omega)) (fun p hq => ?_)
      obtain ⟨p1, M4⟩ := p
      obtain ⟨rfl, f4⟩ := hq
      have ags : agB A l e v (i + 1) = (agB A l e v i && (psd A (qA A) e l (v i / 2 / 24) (v i / 2 % 24) == decide (v i % 2 = 1))) := rfl
      have fin : FI m (nf m) M M4 ∧ RD m A (qA A) e M4 := ⟨f3.trans (f4.wide (fun _ _ => wf_nf)), d3.w f4⟩
      rw [une2, c_sub (by omega), show v i - v i / 2 * 2 = v i % 2 by omega]
      generalize psd A (qA A) e l (v i / 2 / 24) (v i / 2 % 24) = P at ags ⊢
      rw [nI_1]
      rcases (by omega : v i % 2 = 0 ∨ v i % 2 = 1) with z | z
      · rw [z] at ags ⊢
        rw [if_neg (by decide)]
        cases P
        · rw [if_pos (by decide)]
          exact ok_i ⟨M4, by rw [ags]; cases agB A l e v i <;> rfl, fin⟩
        · rw [if_neg (by decide)]
          exact ok_i ⟨M4, by rw [ags]; cases agB A l e v i <;> rfl, fin⟩
      · rw [z] at ags ⊢
        rw [if_pos (by decide)]
        cases P
        · rw [if_neg (by decide)]
          exact ok_i ⟨M4, by rw [ags]; cases agB A l e v i <;> rfl, fin⟩
        · rw [if_pos (by decide)]
          exact ok_i ⟨M4, by rw [ags]; cases agB A l e v i <;> rfl, fin⟩
    · obtain ⟨M3, rfl, f3, d3⟩ := hI
      have h3 : RV m A T M3 := h.fi f3 (fun _ _ => nf_qf)
      have hM := h3.rm
      obtain ⟨ht4, hk, hsz, hnu⟩ := ht.qf (f3.qf (fun _ _ => nf_qf))
      show Ok (bX12_driftsOf_31 T m (nI t) (nI l) (mk (fun e => agB A l e v k) e) (nI e) (b2 (agB A l e v k)) (nI k) M3) _
      unfold bX12_driftsOf_31
      simp (disch := omega) only [gdI, gdT, Option.bind_some, lte, une2, une3, nI_add, gvI, cl_nI, c_le, c_lt, c_eq, Sum.elim_inl, Sum.elim_inr, hM.k, hM.r17, hM.k17, hM.l17, hsz, Nat.le_refl, if_true]
      exact ok_i ⟨rfl, f3, d3⟩
    · obtain ⟨r1, M3⟩ := r
      obtain ⟨rfl, f3, d3⟩ := hq
      simp only [une2, lte, nI_1]
      cases hb : agB A l e v k
      · rw [if_pos (b2_ne.mpr rfl)]
        exact ok_i ⟨M3, by rw [mk, if_neg (by rw [hb]; decide)], f3, d3.2⟩
      · rw [if_neg (fun z => absurd (b2_ne.mp z) (by decide))]
        exact ok_i ⟨M3, by rw [mk, if_pos hb], f3, d3.2⟩
  · obtain ⟨M', rfl, f, e19⟩ := hI
    show Ok (bX12_driftsOf_9 T m (nI t) (nI l) (mk (fun e => agB A l e v k) 31) (nI 31) M') _
    unfold bX12_driftsOf_9
    rw [if_pos (by decide)]
    exact ok_i ⟨rfl, f, e19⟩
  · obtain ⟨r1, M'⟩ := r
    rw [une2]
    exact ok_i hq
end
