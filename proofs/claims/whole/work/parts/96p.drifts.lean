section
variable {x m t k l : Nat} {v : Nat → Nat} {A B : Nat → Int32} {T T2 : Sh} {M M1 M2 : Me} {S : Wd}
theorem seen_cases (hS : S.ok) (a b : Int32) : (∃ r : Int32, r ≠ 0 ∧ (∀ T M, WC x S T M → fX11_unseen T M x a b = some r) ∧ ∀ T M, WR (x + 69) S T M → fX12_noSeen T M (x + 69) a b = some r) ∨ ∃ t l k v, a = nI t ∧ b = nI l ∧ l < nlA S.A ∧ (∀ T M, WC x S T M → fX11_unseen T M x a b = some 0 ∧ TV x t k v M) ∧ ∀ T M, WR (x + 69) S T M → fX12_noSeen T M (x + 69) a b = some 0 ∧ TU (x + 69) t k v M := by
  have h6 := hS.lv.b3
  have k0 : (0 : Int64).toInt = 0 := by decide
  have k1 : (1 : Int64).toInt = 1 := by decide
  have k3 : (3 : Int64).toInt = 3 := by decide
  have k8 : (8 : Int64).toInt = 8 := by decide
  have k767 : (767 : Int64).toInt = 767 := by decide
  rcases (ix_I a 4 (by omega)).symm with ha | ⟨t, ht, rfl⟩
  · refine Or.inl ⟨-2, by decide, fun T M h => ?_, fun T M h => ?_⟩
    · unfold fX11_unseen
      rw [c_tray0 ha, Option.bind_some, if_neg (by decide)]
    · unfold fX12_noSeen
      rw [wi_0 (by rw [Int32.toInt_toInt64, k0, k3]; omega), Option.bind_some, if_pos rfl]
  have w1 : fX12_within (nI t).toInt64 0 3 = some 1 := wi_1 (by rw [Int32.toInt_toInt64, nI_toInt (by omega), k0, k3]; omega)
  rcases (ix_I b (nlA S.A) (by omega)).symm with hb | ⟨l, hl, rfl⟩
  · refine Or.inl ⟨-2, by decide, fun T M h => ?_, fun T M h => ?_⟩
    · unfold fX11_unseen
      rw [c_tray1 ht, Option.bind_some, if_pos rfl, h.1.px.k0, gdI, c_lane0 h.1 hb, Option.bind_some, if_neg (by decide)]
    · unfold fX12_noSeen
      rw [w1, Option.bind_some, if_neg (by decide), h.1.1.k, gdI, r_lane0 (h.rv hS) hb, Option.bind_some, if_pos rfl]
  rcases hS.2.2.2.1 t ht with em | ⟨k, j, hk, ek, hj, ej⟩
  · refine Or.inl ⟨-6, by decide, fun T M h => ?_, fun T M h => ?_⟩
    · have hp := h.1.px
      obtain ⟨t1, t2, t3, t4, t5⟩ := hp.tr ht
      unfold fX11_unseen
      rw [c_tray1 ht, Option.bind_some, if_pos rfl, hp.k0, gdI, c_lane1 h.1 hl, Option.bind_some, if_pos rfl]
      simp (disch := omega) only [gdI, gdT, Option.bind_some, lte, hp.r0_9, hp.k50, hp.l50, gvI, cl_nI, t5, t1, c_miss h ht]
      rw [if_pos em, if_neg (by decide)]
    · unfold fX12_noSeen
      rw [w1, Option.bind_some, if_neg (by decide), h.1.1.k, gdI, r_lane1 (h.rv hS) hl, Option.bind_some, if_neg (by decide), r_tray1 hS h ht, Option.bind_some, if_pos em, if_neg (by decide)]
  have nm : ¬ S.sz t = -1 := by rw [ek]; exact i_ne1 _ (by omega)
  have hcl : (S.sz t).toNatClampNeg = k := by rw [ek]; exact cl_nI (by omega)
  have cHead : ∀ T M, WC x S T M → fX11_unseen T M x (nI t) (nI l) = if nI k < (1 : Int32) then (some (-4 : Int32)) else (if nI k ≤ (8 : Int32) then ((lp FU (fun s => bX11_unseen_58 T M (x + 51 + 2 * t) s) (0 : Int32)).bind (Sum.elim (fun _ => some (-3 : Int32)) (fun _ => some (0 : Int32)))) else (some (-4 : Int32))) := by
    intro T M h
    have hp := h.1.px
    obtain ⟨t1, t2, t3, t4, t5⟩ := hp.tr ht
    have e2 : gI M (x + 51 + 2 * t) 2 = nI k := (h.2.2.2.2.2.1 t ht).1.trans ek
    unfold fX11_unseen
    rw [c_tray1 ht, Option.bind_some, if_pos rfl, hp.k0, gdI, c_lane1 h.1 hl, Option.bind_some, if_pos rfl]
    simp (disch := omega) only [gdI, gdT, Option.bind_some, lte, hp.r0_9, hp.k50, hp.l50, gvI, cl_nI, t5, t1, c_miss h ht]
    rw [if_neg nm, if_pos rfl, e2]
  have rHead : ∀ T M, WR (x + 69) S T M → fX12_noSeen T M (x + 69) (nI t) (nI l) = Option.bind (fX12_within (nI k).toInt64 (1 : Int64) (8 : Int64)) (fun r11 => if r11 = 0 then (some (-4 : Int32)) else ((lp FU (fun s => bX12_noSeen_59 T M (x + 69) (nI t) s) (0 : Int32)).bind (Sum.elim (fun _ => some (-3 : Int32)) (fun _ => some (0 : Int32))))) := by
    intro T M h
    have hM := h.1.1
    have e17 : gI M (x + 69 + 17) t = nI k := ((h.2.2.2.1 t ht).2.1 nm).2.trans ek
    unfold fX12_noSeen
    rw [w1, Option.bind_some, if_neg (by decide), h.1.1.k, gdI, r_lane1 (h.rv hS) hl, Option.bind_some, if_neg (by decide), r_tray1 hS h ht, Option.bind_some, if_neg nm, if_pos rfl]
    simp (disch := omega) only [gdI, gdT, Option.bind_some, lte, une2, une3, nI_add, gvI, cl_nI, c_le, c_lt, c_eq, Sum.elim_inl, Sum.elim_inr, hM.k, hM.r17, hM.k17, hM.l17, e17]
  by_cases hk8 : 1 ≤ k ∧ k ≤ 8
  · obtain ⟨J, hJ, j1, j2⟩ := exJ (fun i => 0 ≤ (S.nu t i).toInt ∧ (S.nu t i).toInt ≤ 767) k
    have cLoop : ∀ T M, WC x S T M → lp FU (fun s => bX11_unseen_58 T M (x + 51 + 2 * t) s) (0 : Int32) = some (if J < k then .inl () else .inr ()) := by
      intro T M h
      obtain ⟨t1, t2, t3, t4, t5⟩ := h.1.px.tr ht
      obtain ⟨q1, q2, q3⟩ := h.2.2.2.2.2.1 t ht
      have es : gI M (x + 51 + 2 * t) 2 = nI k := q1.trans ek
      have key : Ok (lp FU (fun s => bX11_unseen_58 T M (x + 51 + 2 * t) s) (0 : Int32)) (fun r => r = if J < k then .inl () else .inr ()) := by
        refine ok_forF (s := (0 : Int32)) 0 k (fun i s => s = nI i ∧ i ≤ J) _ ⟨rfl, by omega⟩ (by omega) (by omega) (fun i s _ hi hI => ?_) (fun s hI => ?_)
        · obtain ⟨rfl, hiJ⟩ := hI
          have en : gJ M (x + 52 + 2 * t) i = S.nu t i := q3 i (by omega)
          show Ok (bX11_unseen_58 T M (x + 51 + 2 * t) (nI i)) _
          unfold bX11_unseen_58
          simp (disch := omega) only [gdI, gdT, Option.bind_some, lte, t1, es, c_le, Nat.not_le.mpr hi, if_false, t2, t3, t4, gvI, cl_nI, en, lc_lt, lc_le, fa_lt64, fa_le64, k0, k767]
          by_cases z : i = J
          · have := j2 (by omega)
            rw [← z] at this
            by_cases y : (S.nu t i).toInt < 0
            · rw [if_pos y]; exact ok_i (by rw [if_pos (by omega)])
            · rw [if_neg y, if_neg (by omega)]; exact ok_i (by rw [if_pos (by omega)])
          · have := j1 i (by omega)
            rw [if_neg (by omega), if_pos (by omega), nI_1]
            exact ok_i ⟨rfl, by omega⟩
        · obtain ⟨rfl, hiJ⟩ := hI
          show Ok (bX11_unseen_58 T M (x + 51 + 2 * t) (nI k)) _
          unfold bX11_unseen_58
          simp (disch := omega) only [gdI, gdT, t1, es, c_le, Nat.le_refl, if_true]
          exact ok_i (by rw [if_neg (by omega)])
      obtain ⟨r, e, rfl⟩ := key
      exact e
    have rLoop : ∀ T M, WR (x + 69) S T M → lp FU (fun s => bX12_noSeen_59 T M (x + 69) (nI t) s) (0 : Int32) = some (if J < k then .inl () else .inr ()) := by
      intro T M h
      have hM := h.1.1
      obtain ⟨q1, q2, q3⟩ := h.2.2.2.1 t ht
      have es : gI M (x + 69 + 17) t = nI k := (q2 nm).2.trans ek
      have key : Ok (lp FU (fun s => bX12_noSeen_59 T M (x + 69) (nI t) s) (0 : Int32)) (fun r => r = if J < k then .inl () else .inr ()) := by
        refine ok_forF (s := (0 : Int32)) 0 k (fun i s => s = nI i ∧ i ≤ J) _ ⟨rfl, by omega⟩ (by omega) (by omega) (fun i s _ hi hI => ?_) (fun s hI => ?_)
        · obtain ⟨rfl, hiJ⟩ := hI
          have en : gJ M (x + 69 + 18) (40 * t + i) = S.nu t i := q3 i (by omega)
          show Ok (bX12_noSeen_59 T M (x + 69) (nI t) (nI i)) _
          unfold bX12_noSeen_59
          simp (disch := omega) only [gdI, gdT, Option.bind_some, lte, une2, une3, nI_add, gvI, cl_nI, c_le, c_lt, c_eq, Sum.elim_inl, Sum.elim_inr, hM.k, hM.r17, hM.k17, hM.l17, hM.r18, hM.k18, hM.l18, es, Nat.not_le.mpr hi, if_false, i_40, c_mul, en]
          by_cases z : i = J
          · have := j2 (by omega)
            rw [← z] at this
            rw [wi_0 (by rw [k0, k767]; exact this), Option.bind_some, if_pos rfl]
            exact ok_i (by rw [if_pos (by omega)])
          · have := j1 i (by omega)
            rw [wi_1 (by rw [k0, k767]; exact this), Option.bind_some, if_neg (by decide), nI_1]
            exact ok_i ⟨rfl, by omega⟩
        · obtain ⟨rfl, hiJ⟩ := hI
          show Ok (bX12_noSeen_59 T M (x + 69) (nI t) (nI k)) _
          unfold bX12_noSeen_59
          simp (disch := omega) only [gdI, gdT, Option.bind_some, lte, une2, une3, nI_add, gvI, cl_nI, c_le, c_lt, c_eq, Sum.elim_inl, Sum.elim_inr, hM.k, hM.r17, hM.k17, hM.l17, es, Nat.le_refl, if_true]
          exact ok_i (by rw [if_neg (by omega)])
      obtain ⟨r, e, rfl⟩ := key
      exact e
    have c18 : ∀ {α : Type} {u w : α}, (if nI k < (1 : Int32) then u else if nI k ≤ (8 : Int32) then w else u) = w := fun {α u w} => by rw [i_1, i_8, ite_lt (by omega) (by omega), ite_le (by omega) (by omega), if_neg (by omega), if_pos (by omega)]
    have w18 : fX12_within (nI k).toInt64 1 8 = some 1 := wi_1 (by rw [Int32.toInt_toInt64, nI_toInt (by omega), k1, k8]; omega)
    by_cases z : J < k
    · refine Or.inl ⟨-3, by decide, fun T M h => ?_, fun T M h => ?_⟩
      · rw [cHead T M h, c18, cLoop T M h, if_pos z]; rfl
      · rw [rHead T M h, w18, Option.bind_some, if_neg (by decide), rLoop T M h, if_pos z]; rfl
    · have good : ∀ i, i < k → S.nu t i = lN (S.nu t i).toInt.toNat ∧ (S.nu t i).toInt.toNat ≤ 767 := fun i hi => ⟨l_of (j1 i (by omega)).1, by have := j1 i (by omega); omega⟩
      refine Or.inr ⟨t, l, k, fun i => (S.nu t i).toInt.toNat, rfl, rfl, hl, fun T M h => ⟨?_, ht, hk8.2, (h.2.2.2.2.2.1 t ht).1.trans ek, fun i hi => ⟨((h.2.2.2.2.2.1 t ht).2.2 i (by omega)).trans (good i hi).1, (good i hi).2⟩⟩, fun T M h => ⟨?_, ht, hk8.2, ((h.2.2.2.1 t ht).2.1 nm).2.trans ek, fun i hi => ⟨((h.2.2.2.1 t ht).2.2 i (by omega)).trans (good i hi).1, (good i hi).2⟩⟩⟩
      · rw [cHead T M h, c18, cLoop T M h, if_neg z]; rfl
      · rw [rHead T M h, w18, Option.bind_some, if_neg (by decide), rLoop T M h, if_neg z]; rfl
  · refine Or.inl ⟨-4, by decide, fun T M h => ?_, fun T M h => ?_⟩
    · rw [cHead T M h, i_1, i_8, ite_lt (by omega) (by omega), ite_le (by omega) (by omega)]
      by_cases z : k < 1
      · rw [if_pos z]
      · rw [if_neg z, if_neg (by omega)]
    · rw [rHead T M h, wi_0 (by rw [Int32.toInt_toInt64, nI_toInt (by omega), k1, k8]; omega), Option.bind_some, if_pos rfl]
theorem s_drifts (hS : S.ok) (a b : Int32) : QS x S (fun T M => fX11_drifts T M x a b) (fun T M => fX12_drifts T M (x + 69) a b) := by
  rcases seen_cases (x := x) hS a b with ⟨r, hr, h1, h2⟩ | ⟨t, l, k, v, rfl, rfl, hl, h1, h2⟩
  · refine qs_no hS r (fun T M h => ?_) (fun T M h => ?_)
    · show fX11_drifts T M x a b = _
      unfold fX11_drifts
      rw [h.1.px.k0, gdI, h1 T M h, Option.bind_some, if_neg hr]
    · show fX12_drifts T M (x + 69) a b = _
      unfold fX12_drifts
      rw [h.1.1.k, gdI, lte, h2 T _ h.t0.1, Option.bind_some, if_neg hr]
  · refine ⟨mk (fun e => agB S.A l e v k) 31, S, hS, by omega, fun T M h => ?_, fun T M h => ?_⟩
    · show Ok (fX11_drifts T M x (nI t) (nI l)) _
      have hp := h.1.px
      obtain ⟨e0, tv⟩ := h1 T M h
      obtain ⟨t1, t2, t3, t4, t5⟩ := hp.tr tv.1
      have := tv.1
      unfold fX11_drifts
      rw [hp.k0, gdI, e0, Option.bind_some, if_pos rfl]
      simp (disch := omega) only [gdI, gdT, Option.bind_some, hp.r0_9, hp.k50, hp.l50, gvI, cl_nI, t5]
      refine Ok.bd (c_seenDrifts h.1 hl tv) (fun p hq => ?_)
      obtain ⟨p1, M1⟩ := p
      obtain ⟨rfl, f1, g1⟩ := hq
      rw [une2]
      exact ok_i ⟨rfl, h.gf g1 f1.gf, f1.gf.wf.2.2.2⟩
    · show Ok (fX12_drifts T M (x + 69) (nI t) (nI l)) _
      obtain ⟨h0, f0⟩ := h.t0 (v := 0)
      obtain ⟨e0, tu⟩ := h2 T _ h0
      unfold fX12_drifts
      rw [h.1.1.k, gdI, lte, e0, Option.bind_some, if_pos rfl]
      refine Ok.bd (r_driftsOf (h0.rv hS) hl tu) (fun p hq => ?_)
      obtain ⟨p1, M1⟩ := p
      obtain ⟨rfl, f1, _⟩ := hq
      rw [une2]
      have q1 := f1.qf (fun _ _ => nf_qf)
      exact ok_i ⟨rfl, h0.qf q1, f0.trans q1.rf⟩
end
