section
variable {x m n N lw i o q d : Nat} {b : Nat → Nat} {sp u : Int32} {T : Sh} {M M1 M2 : Me}
theorem CPq.adv {o i2 : Nat} {u2 : Int32} {cc : List Int32} (h : CPq x n N b sp T o i2 u2 cc M M1) (h1 : tK b n i2 ≠ 26) (h2 : tK b n i2 ≠ 27) : CPq x n N b sp T o (i2 + 1) u2 cc M (pI M1 (x + 2) 1 (gI M1 (x + 2) 1 + 1)) := by
  obtain ⟨a1, a2, a3⟩ := k_adv h.1 h1 h2
  exact ⟨a1, h.2.1.trans a2, fun j hj => (a3 j).trans (h.2.2.1 j hj), seg_cong h.2.2.2 (fun j _ => a3 _)⟩
theorem RPq.adv {q i2 : Nat} {rc : List Int32} (h : RPq m n N b lw T q i2 rc M M1) (h2 : RBq m n N b T (i2 + 1) M2) (f : FI m (tq m) M1 M2) : RPq m n N b lw T q (i2 + 1) rc M M2 := by
  have e4 : ∀ k, gI M2 (m + 4) k = gI M1 (m + 4) k := fun k => f.1 _ _ (by unfold tq; omega)
  exact ⟨h.1.nx h2 f, h.2.1.trans (f.wide (fun a k z => tq_rq z)), fun j hj => (e4 _).trans (h.2.2.1 j hj), seg_cong h.2.2.2 (fun j _ => e4 _)⟩
theorem k_deep1 {dd : Int32} (hd : d < 6) (e : dd = nI d) (hp : PX x T M) : fX6_goDeeper T M (x + 2) dd = some (1, pI M (x + 2) 1 (gI M (x + 2) 1 + 1)) := by
  unfold fX6_goDeeper
  rw [e, i_6, ite_lt (by omega) (by omega), if_pos hd, hp.k2, gdI, lte]
theorem k_deep0 {dd : Int32} (e : dd = nI 6) (h : CBq x n N b T i M) : Ok (fX6_goDeeper T M (x + 2) dd) (fun p => p.1 = 0 ∧ CFl x T (fkd n b i 4) (tP b n i) p.2 ∧ LFr x M p.2 ∧ gI p.2 (x + 2) 5 = gI M (x + 2) 5) := by
  unfold fX6_goDeeper
  rw [e, if_neg (by decide), h.1.k2, gdI, i_4]
  refine Ok.bd (k_fail h (by omega) (by omega)) (fun p hp => ?_)
  obtain ⟨p1, M1⟩ := p
  rw [une2]
  exact ok_i ⟨rfl, hp⟩
theorem r_deep1 {dd : Int32} (hd : d < 6) (e : dd = nI d) (h : RBq m n N b T i M) (h1 : tK b n i ≠ 26) (h2 : tK b n i ≠ 27) : Ok (fX12_goesIn T M m dd) (fun p => p.1 = 1 ∧ RBq m n N b T (i + 1) p.2 ∧ FI m (tq m) M p.2) := by
  unfold fX12_goesIn
  rw [e, i_6, ite_eq (by omega) (by omega), if_neg (by omega), h.1.1.k, gdI, h.2.2.2.2.2.1, if_pos rfl]
  refine Ok.bd (r_next h h1 h2) (fun p hp => ?_)
  obtain ⟨p1, M1⟩ := p
  have hp : RBq m n N b T (i + 1) M1 ∧ FI m (tq m) M M1 := hp
  rw [une2, hp.1.2.2.2.2.2.1, if_pos rfl]
  exact ok_i ⟨rfl, hp⟩
theorem r_deep0 {dd : Int32} (e : dd = nI 6) (h : RBq m n N b T i M) : Ok (fX12_goesIn T M m dd) (fun p => p.1 = 0 ∧ RXq m T (fkd n b i 4) (tP b n i) M p.2) := by
  unfold fX12_goesIn
  rw [e, if_pos (by decide), h.1.1.k, gdI, i_4]
  refine Ok.bd (r_fails h (by omega) (by omega)) (fun p hp => ?_)
  obtain ⟨p1, M1⟩ := p
  have hp : RFl m T (fkd n b i 4) (tP b n i) M1 ∧ FI m (rq m) M M1 ∧ gI M1 m 10 = gI M m 10 := hp
  rw [une2, if_neg hp.1.ne, if_neg hp.1.ne]
  exact ok_i ⟨rfl, hp.1, hp.2.1⟩
theorem k_landS {op k : Nat} (h : CSq x n N b sp T i o u M) (hk : k < o) (hop : op < 13) (e : gI M (x + 7) k = enc op 0) : ∃ M', fX6_land T M (x + 2) (nI k) = some ((), M') ∧ CSq x n N b sp T i o u M' ∧ LFr x M M' ∧ (∀ j, j ≠ k → gI M' (x + 7) j = gI M (x + 7) j) ∧ gI M' (x + 7) k = enc op o := by
  have h9 := h.n9
  have h8 := h.2.2.2.2
  have f2 : LFr x M (pI M (x + 7) k (enc op o)) := lfr_7 LFr.rfl
  refine ⟨pI M (x + 7) k (enc op o), ?_, ⟨⟨h.1.1.lf f2, h.1.2.1.lf f2, (mIIn (by omega)).trans h.1.2.2.1, (mIIn (by omega)).trans h.1.2.2.2.1, h.1.2.2.2.2.1, h.1.2.2.2.2.2.1, h.1.2.2.2.2.2.2.1, (mIIn (by omega)).trans h.1.2.2.2.2.2.2.2⟩, (mIIn (by omega)).trans h.2.1, (mIIn (by omega)).trans h.2.2.1, (mIIn (by omega)).trans h.2.2.2.1, h8⟩, f2, fun j hj => mIIk hj, mII1⟩
  rw [k_land h.1.1 (by omega) h.2.1, e, enc_land hop (by omega)]
theorem tV_b (h : tK b n i = 25) : tV b n i < 1000 := by
  have hle := te_le (b := b) (n := n) i
  obtain ⟨a1, a2, a3, a4⟩ := aw_sp (fun j => isB (b j)) hle
  unfold tK at h
  unfold tV
  generalize ha : aw (fun j => isB (b j)) n (te b n i) = a at a1 a2 a3 a4
  rcases Nat.lt_or_ge a n with q | q
  · cases hs : isS (b a) with
    | true =>
      rw [tkq_w ha q hs] at h
      have := wk_b (bs b a (aw (fun j => isS (b j)) n a))
      simp only at h
      omega
    | false =>
      cases hd : isD (b a) with
      | true =>
        rw [tkq_d ha q hs hd]
        obtain ⟨k1, k2, k3, k4⟩ := aw_sp (fun j => isD (b j)) (n := n) (p := a) (by omega)
        have hm := Nat.min_le_left 3 (aw (fun j => isD (b j)) n a - a)
        have hm2 := Nat.min_le_right 3 (aw (fun j => isD (b j)) n a - a)
        have := vl_b (b := b) (a := a) (min 3 (aw (fun j => isD (b j)) n a - a)) hm (fun j hj => k3 (a + j) (by omega) (by omega))
        have h2 : 10 ^ (min 3 (aw (fun j => isD (b j)) n a - a)) ≤ 10 ^ 3 := Nat.pow_le_pow_right (by omega) hm
        simp only
        omega
      | false =>
        rw [tkq_s ha q hs hd] at h
        have := sg_b (b a)
        simp only at h
        omega
  · rw [tkq_end (by omega)] at h
    simp only at h
    omega
theorem CXq.of {fk fp z : Nat} {v : Nat} (h : CFl x T fk fp M1) (f : LFr x M M1) (h5 : gI M1 (x + 2) 5 = nI v) (hz : v ≤ z) : CXq x T fk fp z M M1 := ⟨h, f, v, h5, hz⟩
/-- in a fault nothing more is read -/
theorem ctF_c {kk fk fp z r8 : Nat} {dd : Int32} {P : Unit × Me → Prop} (h : CXq x T fk fp z M M1) (hr : r8 < 900) (hP : ∀ M', CXq x T fk fp z M M' → P ((), M')) : Ok (Option.bind (fG6 (kk + 3) 3 T M1 (x + 2) dd) <| un2 fun _u M11 => Option.bind (fX6_expect T M11 (x + 2) (219 : Int32)) <| un2 fun _u M12 => Option.bind (fX6_land T M12 (x + 2) (nI r8)) <| un2 fun _u M13 => some ((), M13)) P := by
  obtain ⟨M2, e2, h2⟩ := k_landF h hr
  rw [g6F_3 h.1.1 h.1.ne, Option.bind_some, une2, k_expectF (k := 15) (kk := 219) h.1.1 h.1.ne rfl (by omega), Option.bind_some, une2, e2, Option.bind_some, une2]
  exact ok_i (hP M2 h2)
theorem ctF_b {kk fk fp z r4 : Nat} {dd : Int32} {P : Unit × Me → Prop} (h : CXq x T fk fp z M M1) (hz : z < 900) (hr : r4 < 900) (hP : ∀ M', CXq x T fk fp (z + 1) M M' → P ((), M')) : Ok (Option.bind (fX6_expect T M1 (x + 2) (218 : Int32)) <| un2 fun _u M7 => Option.bind (fX6_put T M7 (x + 2) (12 : Int32) (0 : Int32)) <| un2 fun r8 M9 => Option.bind (fX6_land T M9 (x + 2) (nI r4)) <| un2 fun _u M10 => Option.bind (fG6 (kk + 3) 3 T M10 (x + 2) dd) <| un2 fun _u M11 => Option.bind (fX6_expect T M11 (x + 2) (219 : Int32)) <| un2 fun _u M12 => Option.bind (fX6_land T M12 (x + 2) r8) <| un2 fun _u M13 => some ((), M13)) P := by
  obtain ⟨r, M2, e2, hr2, h2⟩ := k_putF (op := 12) h hz
  obtain ⟨M3, e3, h3⟩ := k_landF h2 hr
  rw [k_expectF (k := 14) (kk := 218) h.1.1 h.1.ne rfl (by omega), Option.bind_some, une2, i_12, e2, Option.bind_some, une2, e3, Option.bind_some, une2]
  exact ctF_c h3 hr2 hP
theorem ctF_a {kk fk fp z : Nat} {dd : Int32} {P : Unit × Me → Prop} (h : CXq x T fk fp z M M1) (hz : z + 1 < 900) (hP : ∀ M', CXq x T fk fp (z + 2) M M' → P ((), M')) : Ok (Option.bind (fX6_expect T M1 (x + 2) (217 : Int32)) <| un2 fun _u M3 => Option.bind (fX6_put T M3 (x + 2) (11 : Int32) (0 : Int32)) <| un2 fun r4 M5 => Option.bind (fG6 (kk + 3) 3 T M5 (x + 2) dd) <| un2 fun _u M6 => Option.bind (fX6_expect T M6 (x + 2) (218 : Int32)) <| un2 fun _u M7 => Option.bind (fX6_put T M7 (x + 2) (12 : Int32) (0 : Int32)) <| un2 fun r8 M9 => Option.bind (fX6_land T M9 (x + 2) r4) <| un2 fun _u M10 => Option.bind (fG6 (kk + 3) 3 T M10 (x + 2) dd) <| un2 fun _u M11 => Option.bind (fX6_expect T M11 (x + 2) (219 : Int32)) <| un2 fun _u M12 => Option.bind (fX6_land T M12 (x + 2) r8) <| un2 fun _u M13 => some ((), M13)) P := by
  obtain ⟨r, M2, e2, hr2, h2⟩ := k_putF (op := 11) h (by omega)
  rw [k_expectF (k := 13) (kk := 217) h.1.1 h.1.ne rfl (by omega), Option.bind_some, une2, i_11, e2, Option.bind_some, une2, g6F_3 h2.1.1 h2.1.ne, Option.bind_some, une2]
  exact ctF_b h2 (by omega) hr2 hP
theorem rF_c {kk : Nat} {dd : Int32} (hm : RM m T M) (h : gI M m 11 ≠ 0) : jX12_readIf_51 (fG12 (kk + 3)) T M m dd = some ((), M) := by
  unfold jX12_readIf_51
  rw [hm.k, gdI, g12F_3 hm h, Option.bind_some, une2, r_eatsF hm h, Option.bind_some, une2, if_pos rfl, r_failsF hm h, Option.bind_some, une2, r_codesF hm h, Option.bind_some, une2]
theorem rF_b {kk : Nat} {dd : Int32} (hm : RM m T M) (h : gI M m 11 ≠ 0) : jX12_readIf_30 (fG12 (kk + 3)) T M m dd = some ((), M) := by
  unfold jX12_readIf_30
  rw [hm.k, gdI, g12F_3 hm h, Option.bind_some, une2, r_eatsF hm h, Option.bind_some, une2, if_pos rfl, r_failsF hm h, Option.bind_some, une2, rF_c hm h]
end
