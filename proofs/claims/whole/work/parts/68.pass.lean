/-! the class: drift, where a lane passes, where its clock has risen -/
theorem c_law {x b lw : Nat} {A : Nat → Int32} {T : Sh} {M : Me} (hp : PX x T M) (h : CLaw x b A lw T M) (hw : wb (gI M (x + 17))) : Ok (fX4_valueBy T M b (x + 17) (x + 18)) (fun p => p.1 = den A lw (gI M (x + 17)) ∧ ∃ g, p.2 = pA M (x + 18) g) := by
  obtain ⟨⟨h1, h2, h3⟩, ⟨c, n, h4, h5, h6, h7, h8, h9, h10⟩, h11⟩ := h
  obtain ⟨f, st, hf, hr⟩ := h10 _ hw
  exact c_value h1 h4 h5 h6 h7 hp.k17 hp.l17 hp.k18 hp.l18 (by omega) (by omega) hf hr
theorem c_floorMod {t : Nat} (ht : t < 2147483648) : fJ9_floorMod_7cf53 (nI t) 100 = some (nI (t % 100)) := by
  unfold fJ9_floorMod_7cf53
  have h0 : ¬ (100 : Int32) = 0 := by decide
  have hx : (0 : Int32) ≤ nI t ^^^ nI 100 := by
    rw [nx_xor]
    exact nI_pos' (Nat.xor_lt_two_pow (n := 31) (by omega) (by omega))
  rw [i_100] at h0 ⊢
  rw [gd_pos h0]
  simp (disch := omega) only [lte, c_rem]
  rw [if_pos hx]
theorem c_cl15 (v : Int32) : (fJ9_min_7cf53 15 v).bind (fun r => fJ9_max_7cf53 (-15) r) = some (cl15 v) := by
  unfold fJ9_min_7cf53 fJ9_max_7cf53 cl15
  have e1 : (-15 : Int32).toInt = -15 := by decide
  have e2 : (15 : Int32).toInt = 15 := by decide
  by_cases h1 : v < 15
  · rw [if_pos h1]
    simp only [Option.bind_some]
    by_cases h2 : -15 < v
    · rw [if_pos h2, if_neg (fa_of_lt h2).2.2.1, if_neg (fa_of_lt h1).2.2.1]
    · rw [if_neg h2]
      by_cases h3 : v < -15
      · rw [if_pos h3]
      · have : v = -15 := by rw [fa_eq]; rw [fa_lt] at h2 h3; omega
        subst this; decide
  · rw [if_neg h1]
    simp only [Option.bind_some]
    rw [if_pos (by decide)]
    by_cases h3 : v < -15
    · exfalso; rw [fa_lt] at h1 h3; omega
    · rw [if_neg h3]
      by_cases h4 : 15 < v
      · rw [if_pos h4]
      · rw [if_neg h4]
        have : v = 15 := by rw [fa_eq]; rw [fa_lt] at h1 h4; omega
        rw [this]
theorem drI_99 (A : Nat → Int32) (r : Nat) : drI A r ≠ 99 := by
  obtain ⟨h1, h2⟩ := drE_b A r
  rw [h2]
  intro e
  have := congrArg (fun z => z + nI 15) e
  simp only [dft_15 h1] at this
  rw [i_99, nI_add, nI_eq (by omega) (by omega)] at this
  omega
theorem c_driftAt {x t : Nat} {A : Nat → Int32} {T : Sh} {M : Me} (h : CV x A T M) (ht : t < 2147483648) : Ok (fX5_driftAt T M (x + 8) (nI t)) (fun p => p.1 = dft (eT A t) ∧ PF x M p.2 ∧ CV x A T p.2) := by
  have hp := h.px
  obtain ⟨a, ha, hl⟩ := h.lab
  have hr : t % 100 < 100 := Nat.mod_lt _ (by omega)
  unfold fX5_driftAt eT
  rw [← (drE_b A (t % 100)).2]
  generalize t % 100 = r at *
  simp (disch := omega) only [c_floorMod ht, gdI, gdT, Option.bind_some, lte, une2, une3, nI_add, gvI, cl_nI, c_le, c_lt, c_eq, Sum.elim_inl, Sum.elim_inr, hp.k8, hp.k15, hp.l15, hp.k16, hp.l16, hp.k17, hp.l17, hp.k18, hp.l18, hp.r8_1, hp.r8_2, hp.r8_4, hp.r8_5, ha, hl.k]
  sorry
