section
variable {x m : Nat} {A B : Nat → Int32} {T T2 : Sh} {M M1 M2 : Me} {S : Wd}
theorem s_count (hS : S.ok) (a : Int32) : QS x S (fun T M => fX11_count T M x a) (fun T M => fX12_count T M (x + 69) a) := by
  rcases (ix_I a 10 (by omega)).symm with ha | ⟨n, hn, rfl⟩
  · have no : ∀ k : Int32, ¬ (k.toInt < 0 ∨ ((10 : Nat) : Int) ≤ k.toInt) → ¬ a = k := fun k hk z => hk (by rw [← z]; exact ha)
    refine qs_no hS (-1) (fun T M h => ?_) (fun T M h => ?_)
    · show fX11_count T M x a = _
      unfold fX11_count
      rw [if_neg (no 0 (by decide)), if_neg (no 1 (by decide)), if_neg (no 2 (by decide)), if_neg (no 3 (by decide)), if_neg (no 4 (by decide)), if_neg (no 5 (by decide)), if_neg (no 6 (by decide)), if_neg (no 7 (by decide)), if_neg (no 8 (by decide)), if_neg (no 9 (by decide))]
    · show fX12_count T M (x + 69) a = _
      unfold fX12_count
      rw [h.1.1.k, gdI, lte, if_neg (no 0 (by decide)), if_neg (no 1 (by decide)), if_neg (no 2 (by decide)), if_neg (no 3 (by decide)), if_neg (no 4 (by decide)), if_neg (no 5 (by decide)), if_neg (no 6 (by decide)), if_neg (no 7 (by decide)), if_neg (no 8 (by decide)), if_neg (no 9 (by decide))]
  rcases (by omega : n = 0 ∨ n = 1 ∨ n = 2 ∨ n = 3 ∨ n = 4 ∨ n = 5 ∨ n = 6 ∨ n = 7 ∨ n = 8 ∨ n = 9) with rfl | rfl | rfl | rfl | rfl | rfl | rfl | rfl | rfl | rfl
  · refine ⟨S.A 3, S, hS, by omega, fun T M h => ?_, fun T M h => ?_⟩
    · show Ok (fX11_count T M x (nI 0)) _
      have hp := h.1.px
      obtain ⟨lb, hlb, hlab⟩ := h.1.lab
      unfold fX11_count
      rw [if_pos (show nI 0 = (0 : Int32) by decide)]
      simp only [gdI, gdT, Option.bind_some, hp.k0, hp.k8, hp.k15, hp.l15, hp.k16, hp.l16, hp.k17, hp.l17, hp.k18, hp.l18, hp.r0_0, hp.r0_2, hp.r0_3, hp.r0_4, hp.r0_5, hp.r0_6, hp.r0_7, hp.r0_9, hp.r0_10, hp.r0_13, hp.r8_1, hp.r8_2, hp.r8_4, hp.r8_5, hlb, hlab.k, hlab.f7]
      exact ok_i ⟨rfl, h, CF.rfl⟩
    · show Ok (fX12_count T M (x + 69) (nI 0)) _
      obtain ⟨h0, f0⟩ := h.t0 (v := 0)
      have hM := h0.1.1
      unfold fX12_count
      rw [h.1.1.k, gdI, lte, if_pos (show nI 0 = (0 : Int32) by decide)]
      generalize pI M (x + 69) 0 0 = M0 at h0 f0 hM ⊢
      have e : gI M0 (x + 69 + 1) 3 = S.A 3 := h0.1.2 3 (by omega)
      simp (disch := omega) only [gdI, gdT, Option.bind_some, lte, une2, une3, nI_add, gvI, cl_nI, c_le, c_lt, c_eq, Sum.elim_inl, Sum.elim_inr, hM.k, hM.r1, hM.k1, hM.l1, i_3, e]
      exact ok_i ⟨rfl, h0, f0⟩
  · refine ⟨S.A 4, S, hS, by omega, fun T M h => ?_, fun T M h => ?_⟩
    · show Ok (fX11_count T M x (nI 1)) _
      have hp := h.1.px
      obtain ⟨lb, hlb, hlab⟩ := h.1.lab
      unfold fX11_count
      rw [if_neg (show ¬ nI 1 = (0 : Int32) by decide), if_pos (show nI 1 = (1 : Int32) by decide)]
      simp only [gdI, gdT, Option.bind_some, hp.k0, hp.k8, hp.k15, hp.l15, hp.k16, hp.l16, hp.k17, hp.l17, hp.k18, hp.l18, hp.r0_0, hp.r0_2, hp.r0_3, hp.r0_4, hp.r0_5, hp.r0_6, hp.r0_7, hp.r0_9, hp.r0_10, hp.r0_13, hp.r8_1, hp.r8_2, hp.r8_4, hp.r8_5, hlb, hlab.k, hlab.f8]
      exact ok_i ⟨rfl, h, CF.rfl⟩
    · show Ok (fX12_count T M (x + 69) (nI 1)) _
      obtain ⟨h0, f0⟩ := h.t0 (v := 0)
      have hM := h0.1.1
      unfold fX12_count
      rw [h.1.1.k, gdI, lte, if_neg (show ¬ nI 1 = (0 : Int32) by decide), if_pos (show nI 1 = (1 : Int32) by decide)]
      generalize pI M (x + 69) 0 0 = M0 at h0 f0 hM ⊢
      have e : gI M0 (x + 69 + 1) 4 = S.A 4 := h0.1.2 4 (by omega)
      simp (disch := omega) only [gdI, gdT, Option.bind_some, lte, une2, une3, nI_add, gvI, cl_nI, c_le, c_lt, c_eq, Sum.elim_inl, Sum.elim_inr, hM.k, hM.r1, hM.k1, hM.l1, i_4, e]
      exact ok_i ⟨rfl, h0, f0⟩
  · refine ⟨S.A 1, S, hS, by omega, fun T M h => ?_, fun T M h => ?_⟩
    · show Ok (fX11_count T M x (nI 2)) _
      have hp := h.1.px
      obtain ⟨lb, hlb, hlab⟩ := h.1.lab
      unfold fX11_count
      rw [if_neg (show ¬ nI 2 = (0 : Int32) by decide), if_neg (show ¬ nI 2 = (1 : Int32) by decide), if_pos (show nI 2 = (2 : Int32) by decide)]
      simp only [gdI, gdT, Option.bind_some, hp.k0, hp.k8, hp.k15, hp.l15, hp.k16, hp.l16, hp.k17, hp.l17, hp.k18, hp.l18, hp.r0_0, hp.r0_2, hp.r0_3, hp.r0_4, hp.r0_5, hp.r0_6, hp.r0_7, hp.r0_9, hp.r0_10, hp.r0_13, hp.r8_1, hp.r8_2, hp.r8_4, hp.r8_5, hlb, hlab.k, hlab.f5]
      exact ok_i ⟨rfl, h, CF.rfl⟩
    · show Ok (fX12_count T M (x + 69) (nI 2)) _
      obtain ⟨h0, f0⟩ := h.t0 (v := 0)
      have hM := h0.1.1
      unfold fX12_count
      rw [h.1.1.k, gdI, lte, if_neg (show ¬ nI 2 = (0 : Int32) by decide), if_neg (show ¬ nI 2 = (1 : Int32) by decide), if_pos (show nI 2 = (2 : Int32) by decide)]
      generalize pI M (x + 69) 0 0 = M0 at h0 f0 hM ⊢
      have e : gI M0 (x + 69 + 1) 1 = S.A 1 := h0.1.2 1 (by omega)
      simp (disch := omega) only [gdI, gdT, Option.bind_some, lte, une2, une3, nI_add, gvI, cl_nI, c_le, c_lt, c_eq, Sum.elim_inl, Sum.elim_inr, hM.k, hM.r1, hM.k1, hM.l1, i_1, e]
      exact ok_i ⟨rfl, h0, f0⟩
  · refine ⟨S.A 2, S, hS, by omega, fun T M h => ?_, fun T M h => ?_⟩
    · show Ok (fX11_count T M x (nI 3)) _
      have hp := h.1.px
      obtain ⟨lb, hlb, hlab⟩ := h.1.lab
      unfold fX11_count
      rw [if_neg (show ¬ nI 3 = (0 : Int32) by decide), if_neg (show ¬ nI 3 = (1 : Int32) by decide), if_neg (show ¬ nI 3 = (2 : Int32) by decide), if_pos (show nI 3 = (3 : Int32) by decide)]
      simp only [gdI, gdT, Option.bind_some, hp.k0, hp.k8, hp.k15, hp.l15, hp.k16, hp.l16, hp.k17, hp.l17, hp.k18, hp.l18, hp.r0_0, hp.r0_2, hp.r0_3, hp.r0_4, hp.r0_5, hp.r0_6, hp.r0_7, hp.r0_9, hp.r0_10, hp.r0_13, hp.r8_1, hp.r8_2, hp.r8_4, hp.r8_5, hlb, hlab.k, hlab.f6]
      exact ok_i ⟨rfl, h, CF.rfl⟩
    · show Ok (fX12_count T M (x + 69) (nI 3)) _
      obtain ⟨h0, f0⟩ := h.t0 (v := 0)
      have hM := h0.1.1
      unfold fX12_count
      rw [h.1.1.k, gdI, lte, if_neg (show ¬ nI 3 = (0 : Int32) by decide), if_neg (show ¬ nI 3 = (1 : Int32) by decide), if_neg (show ¬ nI 3 = (2 : Int32) by decide), if_pos (show nI 3 = (3 : Int32) by decide)]
      generalize pI M (x + 69) 0 0 = M0 at h0 f0 hM ⊢
      have e : gI M0 (x + 69 + 1) 2 = S.A 2 := h0.1.2 2 (by omega)
      simp (disch := omega) only [gdI, gdT, Option.bind_some, lte, une2, une3, nI_add, gvI, cl_nI, c_le, c_lt, c_eq, Sum.elim_inl, Sum.elim_inr, hM.k, hM.r1, hM.k1, hM.l1, i_2, e]
      exact ok_i ⟨rfl, h0, f0⟩
  · refine ⟨S.A 48, S, hS, by omega, fun T M h => ?_, fun T M h => ?_⟩
    · show Ok (fX11_count T M x (nI 4)) _
      have hp := h.1.px
      obtain ⟨lb, hlb, hlab⟩ := h.1.lab
      unfold fX11_count
      rw [if_neg (show ¬ nI 4 = (0 : Int32) by decide), if_neg (show ¬ nI 4 = (1 : Int32) by decide), if_neg (show ¬ nI 4 = (2 : Int32) by decide), if_neg (show ¬ nI 4 = (3 : Int32) by decide), if_pos (show nI 4 = (4 : Int32) by decide)]
      simp only [gdI, gdT, Option.bind_some, hp.k0, hp.k25, hp.k26, hp.l26, hp.r0_0, hp.r0_2, hp.r0_3, hp.r0_4, hp.r0_5, hp.r0_6, hp.r0_7, hp.r0_9, hp.r0_10, hp.r0_13, hp.r25_0, h.1.tm]
      exact ok_i ⟨rfl, h, CF.rfl⟩
    · show Ok (fX12_count T M (x + 69) (nI 4)) _
      obtain ⟨h0, f0⟩ := h.t0 (v := 0)
      have hM := h0.1.1
      unfold fX12_count
      rw [h.1.1.k, gdI, lte, if_neg (show ¬ nI 4 = (0 : Int32) by decide), if_neg (show ¬ nI 4 = (1 : Int32) by decide), if_neg (show ¬ nI 4 = (2 : Int32) by decide), if_neg (show ¬ nI 4 = (3 : Int32) by decide), if_pos (show nI 4 = (4 : Int32) by decide)]
      generalize pI M (x + 69) 0 0 = M0 at h0 f0 hM ⊢
      have e : gI M0 (x + 69 + 1) 48 = S.A 48 := h0.1.2 48 (by omega)
      simp (disch := omega) only [gdI, gdT, Option.bind_some, lte, une2, une3, nI_add, gvI, cl_nI, c_le, c_lt, c_eq, Sum.elim_inl, Sum.elim_inr, hM.k, hM.r1, hM.k1, hM.l1, i_48, e]
      exact ok_i ⟨rfl, h0, f0⟩
  · refine ⟨S.A 49, S, hS, by omega, fun T M h => ?_, fun T M h => ?_⟩
    · show Ok (fX11_count T M x (nI 5)) _
      have hp := h.1.px
      obtain ⟨lb, hlb, hlab⟩ := h.1.lab
      unfold fX11_count
      rw [if_neg (show ¬ nI 5 = (0 : Int32) by decide), if_neg (show ¬ nI 5 = (1 : Int32) by decide), if_neg (show ¬ nI 5 = (2 : Int32) by decide), if_neg (show ¬ nI 5 = (3 : Int32) by decide), if_neg (show ¬ nI 5 = (4 : Int32) by decide), if_pos (show nI 5 = (5 : Int32) by decide)]
      simp only [gdI, gdT, Option.bind_some, hp.k0, hp.k25, hp.k26, hp.l26, hp.r0_0, hp.r0_2, hp.r0_3, hp.r0_4, hp.r0_5, hp.r0_6, hp.r0_7, hp.r0_9, hp.r0_10, hp.r0_13, hp.r25_0, h.1.pa]
      exact ok_i ⟨rfl, h, CF.rfl⟩
    · show Ok (fX12_count T M (x + 69) (nI 5)) _
      obtain ⟨h0, f0⟩ := h.t0 (v := 0)
      have hM := h0.1.1
      unfold fX12_count
      rw [h.1.1.k, gdI, lte, if_neg (show ¬ nI 5 = (0 : Int32) by decide), if_neg (show ¬ nI 5 = (1 : Int32) by decide), if_neg (show ¬ nI 5 = (2 : Int32) by decide), if_neg (show ¬ nI 5 = (3 : Int32) by decide), if_neg (show ¬ nI 5 = (4 : Int32) by decide), if_pos (show nI 5 = (5 : Int32) by decide)]
      generalize pI M (x + 69) 0 0 = M0 at h0 f0 hM ⊢
      have e : gI M0 (x + 69 + 1) 49 = S.A 49 := h0.1.2 49 (by omega)
      simp (disch := omega) only [gdI, gdT, Option.bind_some, lte, une2, une3, nI_add, gvI, cl_nI, c_le, c_lt, c_eq, Sum.elim_inl, Sum.elim_inr, hM.k, hM.r1, hM.k1, hM.l1, i_49, e]
      exact ok_i ⟨rfl, h0, f0⟩
  · refine ⟨mk (pip S.A) (nlA S.A), S, hS, by omega, fun T M h => ?_, fun T M h => ?_⟩
    · show Ok (fX11_count T M x (nI 6)) _
      have hp := h.1.px
      obtain ⟨lb, hlb, hlab⟩ := h.1.lab
      unfold fX11_count
      rw [if_neg (show ¬ nI 6 = (0 : Int32) by decide), if_neg (show ¬ nI 6 = (1 : Int32) by decide), if_neg (show ¬ nI 6 = (2 : Int32) by decide), if_neg (show ¬ nI 6 = (3 : Int32) by decide), if_neg (show ¬ nI 6 = (4 : Int32) by decide), if_neg (show ¬ nI 6 = (5 : Int32) by decide), if_pos (show nI 6 = (6 : Int32) by decide)]
      rw [hp.k0, gdI]
      refine Ok.bd (c_passingLanes h.1) (fun p hq => ?_)
      obtain ⟨p1, M1⟩ := p
      obtain ⟨rfl, f1, h1⟩ := hq
      rw [une2]
      exact ok_i ⟨rfl, h.gf h1 f1.gf, f1.gf.wf.2.2.2⟩
    · show Ok (fX12_count T M (x + 69) (nI 6)) _
      obtain ⟨h0, f0⟩ := h.t0 (v := 0)
      have hM := h0.1.1
      unfold fX12_count
      rw [h.1.1.k, gdI, lte, if_neg (show ¬ nI 6 = (0 : Int32) by decide), if_neg (show ¬ nI 6 = (1 : Int32) by decide), if_neg (show ¬ nI 6 = (2 : Int32) by decide), if_neg (show ¬ nI 6 = (3 : Int32) by decide), if_neg (show ¬ nI 6 = (4 : Int32) by decide), if_neg (show ¬ nI 6 = (5 : Int32) by decide), if_pos (show nI 6 = (6 : Int32) by decide)]
      refine Ok.bd (r_passedNow (h0.rv hS)) (fun p hq => ?_)
      obtain ⟨p1, M1⟩ := p
      obtain ⟨rfl, f1, h1⟩ := hq
      rw [une2]
      have q1 := f1.qf (fun _ _ => nf_qf)
      exact ok_i ⟨rfl, h0.qf q1, f0.trans q1.rf⟩
  · refine ⟨nI S.u, S, hS, by omega, fun T M h => ?_, fun T M h => ?_⟩
    · show Ok (fX11_count T M x (nI 7)) _
      have hp := h.1.px
      obtain ⟨lb, hlb, hlab⟩ := h.1.lab
      unfold fX11_count
      rw [if_neg (show ¬ nI 7 = (0 : Int32) by decide), if_neg (show ¬ nI 7 = (1 : Int32) by decide), if_neg (show ¬ nI 7 = (2 : Int32) by decide), if_neg (show ¬ nI 7 = (3 : Int32) by decide), if_neg (show ¬ nI 7 = (4 : Int32) by decide), if_neg (show ¬ nI 7 = (5 : Int32) by decide), if_neg (show ¬ nI 7 = (6 : Int32) by decide), if_pos (show nI 7 = (7 : Int32) by decide)]
      simp only [gdI, gdT, hp.k0, h.2.1.2.2.1]
      exact ok_i ⟨rfl, h, CF.rfl⟩
    · show Ok (fX12_count T M (x + 69) (nI 7)) _
      obtain ⟨h0, f0⟩ := h.t0 (v := 0)
      have hM := h0.1.1
      unfold fX12_count
      rw [h.1.1.k, gdI, lte, if_neg (show ¬ nI 7 = (0 : Int32) by decide), if_neg (show ¬ nI 7 = (1 : Int32) by decide), if_neg (show ¬ nI 7 = (2 : Int32) by decide), if_neg (show ¬ nI 7 = (3 : Int32) by decide), if_neg (show ¬ nI 7 = (4 : Int32) by decide), if_neg (show ¬ nI 7 = (5 : Int32) by decide), if_neg (show ¬ nI 7 = (6 : Int32) by decide), if_pos (show nI 7 = (7 : Int32) by decide)]
      generalize pI M (x + 69) 0 0 = M0 at h0 f0 hM ⊢
      have e : gI M0 (x + 69 + 1) 50 = nI S.u := (h0.1.2 50 (by omega)).trans hS.h50
      simp (disch := omega) only [gdI, gdT, Option.bind_some, lte, une2, une3, nI_add, gvI, cl_nI, c_le, c_lt, c_eq, Sum.elim_inl, Sum.elim_inr, hM.k, hM.r1, hM.k1, hM.l1, i_50, e]
      exact ok_i ⟨rfl, h0, f0⟩
  · refine ⟨nI S.n, S, hS, by omega, fun T M h => ?_, fun T M h => ?_⟩
    · show Ok (fX11_count T M x (nI 8)) _
      have hp := h.1.px
      obtain ⟨lb, hlb, hlab⟩ := h.1.lab
      unfold fX11_count
      rw [if_neg (show ¬ nI 8 = (0 : Int32) by decide), if_neg (show ¬ nI 8 = (1 : Int32) by decide), if_neg (show ¬ nI 8 = (2 : Int32) by decide), if_neg (show ¬ nI 8 = (3 : Int32) by decide), if_neg (show ¬ nI 8 = (4 : Int32) by decide), if_neg (show ¬ nI 8 = (5 : Int32) by decide), if_neg (show ¬ nI 8 = (6 : Int32) by decide), if_neg (show ¬ nI 8 = (7 : Int32) by decide), if_pos (show nI 8 = (8 : Int32) by decide)]
      simp only [gdI, gdT, hp.k0, h.2.2.2.1.1]
      exact ok_i ⟨rfl, h, CF.rfl⟩
    · show Ok (fX12_count T M (x + 69) (nI 8)) _
      obtain ⟨h0, f0⟩ := h.t0 (v := 0)
      have hM := h0.1.1
      unfold fX12_count
      rw [h.1.1.k, gdI, lte, if_neg (show ¬ nI 8 = (0 : Int32) by decide), if_neg (show ¬ nI 8 = (1 : Int32) by decide), if_neg (show ¬ nI 8 = (2 : Int32) by decide), if_neg (show ¬ nI 8 = (3 : Int32) by decide), if_neg (show ¬ nI 8 = (4 : Int32) by decide), if_neg (show ¬ nI 8 = (5 : Int32) by decide), if_neg (show ¬ nI 8 = (6 : Int32) by decide), if_neg (show ¬ nI 8 = (7 : Int32) by decide), if_pos (show nI 8 = (8 : Int32) by decide)]
      exact ok_i ⟨h0.2.1.1, h0, f0⟩
  · refine ⟨S.A 0, S, hS, by omega, fun T M h => ?_, fun T M h => ?_⟩
    · show Ok (fX11_count T M x (nI 9)) _
      have hp := h.1.px
      obtain ⟨lb, hlb, hlab⟩ := h.1.lab
      unfold fX11_count
      rw [if_neg (show ¬ nI 9 = (0 : Int32) by decide), if_neg (show ¬ nI 9 = (1 : Int32) by decide), if_neg (show ¬ nI 9 = (2 : Int32) by decide), if_neg (show ¬ nI 9 = (3 : Int32) by decide), if_neg (show ¬ nI 9 = (4 : Int32) by decide), if_neg (show ¬ nI 9 = (5 : Int32) by decide), if_neg (show ¬ nI 9 = (6 : Int32) by decide), if_neg (show ¬ nI 9 = (7 : Int32) by decide), if_neg (show ¬ nI 9 = (8 : Int32) by decide), if_pos (show nI 9 = (9 : Int32) by decide)]
      simp only [gdI, gdT, Option.bind_some, hp.k0, hp.k8, hp.k15, hp.l15, hp.k16, hp.l16, hp.k17, hp.l17, hp.k18, hp.l18, hp.r0_0, hp.r0_2, hp.r0_3, hp.r0_4, hp.r0_5, hp.r0_6, hp.r0_7, hp.r0_9, hp.r0_10, hp.r0_13, hp.r8_1, hp.r8_2, hp.r8_4, hp.r8_5, hlb, hlab.k, hlab.f9]
      exact ok_i ⟨rfl, h, CF.rfl⟩
    · show Ok (fX12_count T M (x + 69) (nI 9)) _
      obtain ⟨h0, f0⟩ := h.t0 (v := 0)
      have hM := h0.1.1
      unfold fX12_count
      rw [h.1.1.k, gdI, lte, if_neg (show ¬ nI 9 = (0 : Int32) by decide), if_neg (show ¬ nI 9 = (1 : Int32) by decide), if_neg (show ¬ nI 9 = (2 : Int32) by decide), if_neg (show ¬ nI 9 = (3 : Int32) by decide), if_neg (show ¬ nI 9 = (4 : Int32) by decide), if_neg (show ¬ nI 9 = (5 : Int32) by decide), if_neg (show ¬ nI 9 = (6 : Int32) by decide), if_neg (show ¬ nI 9 = (7 : Int32) by decide), if_neg (show ¬ nI 9 = (8 : Int32) by decide), if_pos (show nI 9 = (9 : Int32) by decide)]
      generalize pI M (x + 69) 0 0 = M0 at h0 f0 hM ⊢
      have e : gI M0 (x + 69 + 1) 0 = S.A 0 := h0.1.2 0 (by omega)
      simp (disch := omega) only [gdI, gdT, Option.bind_some, lte, une2, une3, nI_add, gvI, cl_nI, c_le, c_lt, c_eq, Sum.elim_inl, Sum.elim_inr, hM.k, hM.r1, hM.k1, hM.l1, i_0, e]
      exact ok_i ⟨rfl, h0, f0⟩
theorem s_fault (hS : S.ok) (a : Int32) : QS x S (fun T M => (fX11_fault T M x a).bind (fun r => some (r, M))) (fun T M => fX12_fault T M (x + 69) a) := by
  by_cases a0 : a = 0
  · refine ⟨S.f1, S, hS, by omega, fun T M h => ?_, fun T M h => ?_⟩
    · show Ok ((fX11_fault T M x a).bind (fun r => some (r, M))) _
      unfold fX11_fault
      rw [if_pos a0, h.1.px.k0, gdI, h.1.px.r0_2, Option.bind_some, h.1.px.k2, gdI, Option.bind_some, h.2.2.2.2.1.1]
      exact ok_i ⟨rfl, h, CF.rfl⟩
    · show Ok (fX12_fault T M (x + 69) a) _
      obtain ⟨h0, f0⟩ := h.t0 (v := 0)
      unfold fX12_fault
      rw [h.1.1.k, gdI, lte, if_pos a0]
      exact ok_i ⟨h0.2.2.1.1, h0, f0⟩
  by_cases a1 : a = 1
  · refine ⟨S.f2, S, hS, by omega, fun T M h => ?_, fun T M h => ?_⟩
    · show Ok ((fX11_fault T M x a).bind (fun r => some (r, M))) _
      unfold fX11_fault
      rw [if_neg a0, if_pos a1, h.1.px.k0, gdI, h.1.px.r0_2, Option.bind_some, h.1.px.k2, gdI, Option.bind_some, h.2.2.2.2.1.2]
      exact ok_i ⟨rfl, h, CF.rfl⟩
    · show Ok (fX12_fault T M (x + 69) a) _
      obtain ⟨h0, f0⟩ := h.t0 (v := 0)
      unfold fX12_fault
      rw [h.1.1.k, gdI, lte, if_neg a0, if_pos a1]
      exact ok_i ⟨h0.2.2.1.2, h0, f0⟩
  · refine qs_no hS (-1) (fun T M h => ?_) (fun T M h => ?_)
    · show (fX11_fault T M x a).bind (fun r => some (r, M)) = _
      unfold fX11_fault
      rw [if_neg a0, if_neg a1, Option.bind_some]
    · show fX12_fault T M (x + 69) a = _
      unfold fX12_fault
      rw [h.1.1.k, gdI, lte, if_neg a0, if_neg a1]
end
