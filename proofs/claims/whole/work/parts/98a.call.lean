/-! one call of the law -/
section
variable {t L j : Nat} {S : Wd} {T : Sh} {M : Me} {xs : Nat → Int32}
def LGo (t j : Nat) (S : Wd) (T : Sh) (r : (Int32 × Sh × Me) ⊕ (Sh × Me)) : Prop := ∃ T2 M2 S2, r = .inl (nI (6 * j + 6), T2, M2) ∧ Wd.ok S2 ∧ S2.c ≤ S.c + 1 ∧ WC t S2 T2 M2 ∧ WR (t + 69) S2 T2 M2 ∧ tp T2 ≤ tp T + 1100 ∧ sl T2 ≤ sl T + 14000
theorem qs_fin {α β : Type} {f g : Sh → Me → Option (α × Me)} {K : α → α → Me → Option β} {P : β → Prop} (hQ : QS t S f g) (h1 : WC t S T M) (h2 : WR (t + 69) S T M) (hK : ∀ r M2 S2, Wd.ok S2 → S2.c ≤ S.c + 1 → WC t S2 T M2 → WR (t + 69) S2 T M2 → Ok (K r r M2) P) : Ok (Option.bind (f T M) (un2 fun r M1 => Option.bind (g T M1) (un2 fun r2 M2 => K r r2 M2))) P := by
  obtain ⟨r, S2, ok, hc, hf, hg⟩ := hQ
  refine Ok.bd (hf T M h1) (fun p hp => ?_)
  obtain ⟨r1, M1⟩ := p
  obtain ⟨q1, q2, q3⟩ := hp
  have q1 : r1 = r := q1
  have q2 : WC t S2 T M1 := q2
  rw [une2]
  refine Ok.bd (hg T M1 (h2.cf q3)) (fun p hp => ?_)
  obtain ⟨r2, M2⟩ := p
  obtain ⟨k1, k2, k3⟩ := hp
  have k1 : r2 = r := k1
  rw [une2, q1, k1]
  exact hK r M2 S2 ok hc (q2.rf k3) k2
theorem qs_fin0 {α β : Type} {f : Sh → Me → Option α} {g : Sh → Me → Option (α × Me)} {K : α → α → Me → Option β} {P : β → Prop} (hQ : QS t S (fun T M => (f T M).bind (fun r => some (r, M))) g) (h1 : WC t S T M) (h2 : WR (t + 69) S T M) (hK : ∀ r M2 S2, Wd.ok S2 → S2.c ≤ S.c + 1 → WC t S2 T M2 → WR (t + 69) S2 T M2 → Ok (K r r M2) P) : Ok (Option.bind (f T M) fun r => Option.bind (g T M) (un2 fun r2 M2 => K r r2 M2)) P := by
  have h := qs_fin (K := K) hQ h1 h2 hK
  revert h
  cases f T M with
  | none => exact fun h => h
  | some r => exact fun h => h
theorem qt_fin {α β : Type} {f : Sh → Me → Option (α × Sh × Me)} {g : Sh → Me → Option (α × Me)} {K : α → Sh → Me → Option β} {P : β → Prop} (hQ : QT t S f g) (h1 : WC t S T M) (h2 : WR (t + 69) S T M) (hK : ∀ r T1 M1 S2, Wd.ok S2 → S2.c ≤ S.c + 1 → PX t T1 M1 → RM (t + 69) T1 M1 → tp T1 ≤ tp T + 1100 → sl T1 ≤ sl T + 14000 → Ok (g T1 M1) (fun p => p.1 = r ∧ WC t S2 T1 p.2 ∧ WR (t + 69) S2 T1 p.2) → Ok (K r T1 M1) P) : Ok (Option.bind (f T M) (un3 fun r T1 M1 => K r T1 M1)) P := by
  obtain ⟨r, S2, ok, hc, hf, hg⟩ := hQ
  refine Ok.bd (hf T M h1) (fun p hp => ?_)
  obtain ⟨r1, T1, M1⟩ := p
  obtain ⟨q1, q2, q3, q4, q5, q6⟩ := hp
  have q1 : r1 = r := q1
  have q2 : WC t S2 T1 M1 := q2
  have q4 : TE T T1 := q4
  have hw : WR (t + 69) S T1 M1 := (h2.cf q3).te q4 h1.2.2.1
  rw [une3, q1]
  exact hK r T1 M1 S2 ok hc q2.1.px hw.1.1 q5 q6 ((hg T1 M1 hw).mono (fun p hp => ⟨hp.1, q2.rf hp.2.2, hp.2.1⟩))
theorem lg_self (r : Int64) : lg_cmp r r = 0 := by rw [lc_eq]
theorem lcl_feed (hS : S.ok) (hc : S.c < 600) (h1 : WC t S T M) (h2 : WR (t + 69) S T M) (hj : 6 * j + 6 ≤ L) (hL : L ≤ 3072) : Ok (jL_law_232 L xs T M t (t + 69) (nI (6 * j))) (LGo t j S T) := by
  unfold jL_law_232
  simp (disch := omega) only [i_1, i_2, i_3, i_4, i_5, i_6, nI_add, gvI, cl_nI, h1.1.px.k0, h2.1.1.k, gdI, gdT]
  refine qs_fin (s_feed hS _ _ _ _ _) h1 h2 (fun r M2 S2 k1 k2 k3 k4 => ?_)
  rw [if_pos rfl, lte]
  exact ok_i ⟨T, M2, S2, rfl, k1, k2, k3, k4, by omega, by omega⟩
theorem lcl_lab (hS : S.ok) (hc : S.c < 600) (h1 : WC t S T M) (h2 : WR (t + 69) S T M) (hj : 6 * j + 6 ≤ L) (hL : L ≤ 3072) : Ok (jL_law_295 L xs T M t (t + 69) (nI (6 * j))) (LGo t j S T) := by
  unfold jL_law_295
  simp (disch := omega) only [i_1, i_2, i_3, i_4, i_5, i_6, nI_add, gvI, cl_nI, h1.1.px.k0, h2.1.1.k, gdI, gdT]
  refine qt_fin (s_lab hS hc _) h1 h2 (fun r T1 M1 S2 k1 k2 k3 k4 k5 k6 k7 => ?_)
  unfold jL_law_304
  simp (disch := omega) only [i_1, i_2, i_3, i_4, i_5, i_6, nI_add, gvI, cl_nI, k4.k, gdI, gdT]
  refine Ok.bd k7 (fun p hp => ?_)
  obtain ⟨r2, M2⟩ := p
  obtain ⟨q1, q2, q3⟩ := hp
  have q1 : r2 = r := q1
  rw [une2, q1, if_pos rfl, lte]
  exact ok_i ⟨T1, M2, S2, rfl, k1, k2, q2, q3, k5, k6⟩
theorem lcl_fault (hS : S.ok) (hc : S.c < 600) (h1 : WC t S T M) (h2 : WR (t + 69) S T M) (hj : 6 * j + 6 ≤ L) (hL : L ≤ 3072) : Ok (jL_law_318 L xs T M t (t + 69) (nI (6 * j))) (LGo t j S T) := by
  unfold jL_law_318
  simp (disch := omega) only [i_1, i_2, i_3, i_4, i_5, i_6, nI_add, gvI, cl_nI, h1.1.px.k0, h2.1.1.k, gdI, gdT]
  refine qs_fin0 (s_fault hS _) h1 h2 (fun r M2 S2 k1 k2 k3 k4 => ?_)
  rw [if_pos rfl, lte]
  exact ok_i ⟨T, M2, S2, rfl, k1, k2, k3, k4, by omega, by omega⟩
theorem lcl_lane (hS : S.ok) (hc : S.c < 600) (h1 : WC t S T M) (h2 : WR (t + 69) S T M) (hj : 6 * j + 6 ≤ L) (hL : L ≤ 3072) : Ok (jL_law_341 L xs T M t (t + 69) (nI (6 * j))) (LGo t j S T) := by
  unfold jL_law_341
  simp (disch := omega) only [i_1, i_2, i_3, i_4, i_5, i_6, nI_add, gvI, cl_nI, h1.1.px.k0, h2.1.1.k, gdI, gdT]
  refine qs_fin (QQ.s hS (q_lane hS.1.1.1 hS.1.1.2.1 _ _)) h1 h2 (fun r M2 S2 k1 k2 k3 k4 => ?_)
  rw [if_pos rfl, lte]
  exact ok_i ⟨T, M2, S2, rfl, k1, k2, k3, k4, by omega, by omega⟩
theorem lcl_stress (hS : S.ok) (hc : S.c < 600) (h1 : WC t S T M) (h2 : WR (t + 69) S T M) (hj : 6 * j + 6 ≤ L) (hL : L ≤ 3072) : Ok (jL_law_374 L xs T M t (t + 69) (nI (6 * j))) (LGo t j S T) := by
  unfold jL_law_374
  simp (disch := omega) only [i_1, i_2, i_3, i_4, i_5, i_6, nI_add, gvI, cl_nI, h1.1.px.k0, h2.1.1.k, gdI, gdT]
  refine qs_fin0 (QQ.s hS (q_stress hS.1.1.1 _)) h1 h2 (fun r M2 S2 k1 k2 k3 k4 => ?_)
  rw [if_pos rfl, lte]
  exact ok_i ⟨T, M2, S2, rfl, k1, k2, k3, k4, by omega, by omega⟩
theorem lcl_drift (hS : S.ok) (hc : S.c < 600) (h1 : WC t S T M) (h2 : WR (t + 69) S T M) (hj : 6 * j + 6 ≤ L) (hL : L ≤ 3072) : Ok (jL_law_397 L xs T M t (t + 69) (nI (6 * j))) (LGo t j S T) := by
  unfold jL_law_397
  simp (disch := omega) only [i_1, i_2, i_3, i_4, i_5, i_6, nI_add, gvI, cl_nI, h1.1.px.k0, h2.1.1.k, gdI, gdT]
  refine qs_fin (QQ.s hS (q_drift _)) h1 h2 (fun r M2 S2 k1 k2 k3 k4 => ?_)
  rw [if_pos rfl, lte]
  exact ok_i ⟨T, M2, S2, rfl, k1, k2, k3, k4, by omega, by omega⟩
theorem lcl_passes (hS : S.ok) (hc : S.c < 600) (h1 : WC t S T M) (h2 : WR (t + 69) S T M) (hj : 6 * j + 6 ≤ L) (hL : L ≤ 3072) : Ok (jL_law_420 L xs T M t (t + 69) (nI (6 * j))) (LGo t j S T) := by
  unfold jL_law_420
  simp (disch := omega) only [i_1, i_2, i_3, i_4, i_5, i_6, nI_add, gvI, cl_nI, h1.1.px.k0, h2.1.1.k, gdI, gdT]
  refine qs_fin (QQ.s hS (q_passes hS.1.1.1 hS.1.1.2.1 _ _)) h1 h2 (fun r M2 S2 k1 k2 k3 k4 => ?_)
  rw [if_pos rfl, lte]
  exact ok_i ⟨T, M2, S2, rfl, k1, k2, k3, k4, by omega, by omega⟩
theorem lcl_row (hS : S.ok) (hc : S.c < 600) (h1 : WC t S T M) (h2 : WR (t + 69) S T M) (hj : 6 * j + 6 ≤ L) (hL : L ≤ 3072) : Ok (jL_law_453 L xs T M t (t + 69) (nI (6 * j))) (LGo t j S T) := by
  unfold jL_law_453
  simp (disch := omega) only [i_1, i_2, i_3, i_4, i_5, i_6, nI_add, gvI, cl_nI, h1.1.px.k0, h2.1.1.k, gdI, gdT]
  refine qs_fin (QQ.s hS (q_row hS.1.1.1 hS.1.1.2.1 _ _)) h1 h2 (fun r M2 S2 k1 k2 k3 k4 => ?_)
  rw [if_pos rfl, lte]
  exact ok_i ⟨T, M2, S2, rfl, k1, k2, k3, k4, by omega, by omega⟩
theorem lcl_risen (hS : S.ok) (hc : S.c < 600) (h1 : WC t S T M) (h2 : WR (t + 69) S T M) (hj : 6 * j + 6 ≤ L) (hL : L ≤ 3072) : Ok (jL_law_486 L xs T M t (t + 69) (nI (6 * j))) (LGo t j S T) := by
  unfold jL_law_486
  simp (disch := omega) only [i_1, i_2, i_3, i_4, i_5, i_6, nI_add, gvI, cl_nI, h1.1.px.k0, h2.1.1.k, gdI, gdT]
  refine qs_fin (QQ.s hS (q_risen hS.1.1.1 _)) h1 h2 (fun r M2 S2 k1 k2 k3 k4 => ?_)
  rw [if_pos rfl, lte]
  exact ok_i ⟨T, M2, S2, rfl, k1, k2, k3, k4, by omega, by omega⟩
theorem lcl_place (hS : S.ok) (hc : S.c < 600) (h1 : WC t S T M) (h2 : WR (t + 69) S T M) (hj : 6 * j + 6 ≤ L) (hL : L ≤ 3072) : Ok (jL_law_509 L xs T M t (t + 69) (nI (6 * j))) (LGo t j S T) := by
  unfold jL_law_509
  simp (disch := omega) only [i_1, i_2, i_3, i_4, i_5, i_6, nI_add, gvI, cl_nI, h1.1.px.k0, h2.1.1.k, gdI, gdT]
  refine qs_fin (s_place hS hc _ _) h1 h2 (fun r M2 S2 k1 k2 k3 k4 => ?_)
  rw [if_pos rfl, lte]
  exact ok_i ⟨T, M2, S2, rfl, k1, k2, k3, k4, by omega, by omega⟩
theorem lcl_train (hS : S.ok) (hc : S.c < 600) (h1 : WC t S T M) (h2 : WR (t + 69) S T M) (hj : 6 * j + 6 ≤ L) (hL : L ≤ 3072) : Ok (jL_law_542 L xs T M t (t + 69) (nI (6 * j))) (LGo t j S T) := by
  unfold jL_law_542
  simp (disch := omega) only [i_1, i_2, i_3, i_4, i_5, i_6, nI_add, gvI, cl_nI, h1.1.px.k0, h2.1.1.k, gdI, gdT]
  refine qs_fin (s_train hS hc _ _) h1 h2 (fun r M2 S2 k1 k2 k3 k4 => ?_)
  rw [if_pos rfl, lte]
  exact ok_i ⟨T, M2, S2, rfl, k1, k2, k3, k4, by omega, by omega⟩
theorem lcl_ticks (hS : S.ok) (hc : S.c < 600) (h1 : WC t S T M) (h2 : WR (t + 69) S T M) (hj : 6 * j + 6 ≤ L) (hL : L ≤ 3072) : Ok (jL_law_575 L xs T M t (t + 69) (nI (6 * j))) (LGo t j S T) := by
  unfold jL_law_575
  simp (disch := omega) only [i_1, i_2, i_3, i_4, i_5, i_6, nI_add, gvI, cl_nI, h1.1.px.k0, h2.1.1.k, gdI, gdT]
  refine qs_fin (s_ticks hS hc _) h1 h2 (fun r M2 S2 k1 k2 k3 k4 => ?_)
  rw [if_pos rfl, lte]
  exact ok_i ⟨T, M2, S2, rfl, k1, k2, k3, k4, by omega, by omega⟩
theorem lcl_follow (hS : S.ok) (hc : S.c < 600) (h1 : WC t S T M) (h2 : WR (t + 69) S T M) (hj : 6 * j + 6 ≤ L) (hL : L ≤ 3072) : Ok (jL_law_598 L xs T M t (t + 69) (nI (6 * j))) (LGo t j S T) := by
  unfold jL_law_598
  simp (disch := omega) only [i_1, i_2, i_3, i_4, i_5, i_6, nI_add, gvI, cl_nI, h1.1.px.k0, h2.1.1.k, gdI, gdT]
  refine qs_fin (s_follow hS hc _) h1 h2 (fun r M2 S2 k1 k2 k3 k4 => ?_)
  rw [if_pos rfl, lte]
  exact ok_i ⟨T, M2, S2, rfl, k1, k2, k3, k4, by omega, by omega⟩
theorem lcl_pattern (hS : S.ok) (hc : S.c < 600) (h1 : WC t S T M) (h2 : WR (t + 69) S T M) (hj : 6 * j + 6 ≤ L) (hL : L ≤ 3072) : Ok (jL_law_621 L xs T M t (t + 69) (nI (6 * j))) (LGo t j S T) := by
  unfold jL_law_621
  simp (disch := omega) only [i_1, i_2, i_3, i_4, i_5, i_6, nI_add, gvI, cl_nI, h1.1.px.k0, h2.1.1.k, gdI, gdT]
  refine qs_fin (s_pattern hS hc _) h1 h2 (fun r M2 S2 k1 k2 k3 k4 => ?_)
  rw [if_pos rfl, lte]
  exact ok_i ⟨T, M2, S2, rfl, k1, k2, k3, k4, by omega, by omega⟩
theorem lcl_undo (hS : S.ok) (hc : S.c < 600) (h1 : WC t S T M) (h2 : WR (t + 69) S T M) (hj : 6 * j + 6 ≤ L) (hL : L ≤ 3072) : Ok (jL_law_644 L xs T M t (t + 69) (nI (6 * j))) (LGo t j S T) := by
  unfold jL_law_644
  simp (disch := omega) only [i_1, i_2, i_3, i_4, i_5, i_6, nI_add, gvI, cl_nI, h1.1.px.k0, h2.1.1.k, gdI, gdT]
  refine qs_fin (s_undo hS hc _) h1 h2 (fun r M2 S2 k1 k2 k3 k4 => ?_)
  rw [if_pos rfl, lte]
  exact ok_i ⟨T, M2, S2, rfl, k1, k2, k3, k4, by omega, by omega⟩
theorem lcl_judge (hS : S.ok) (hc : S.c < 600) (h1 : WC t S T M) (h2 : WR (t + 69) S T M) (hj : 6 * j + 6 ≤ L) (hL : L ≤ 3072) : Ok (jL_law_667 L xs T M t (t + 69) (nI (6 * j))) (LGo t j S T) := by
  unfold jL_law_667
  simp (disch := omega) only [i_1, i_2, i_3, i_4, i_5, i_6, nI_add, gvI, cl_nI, h1.1.px.k0, h2.1.1.k, gdI, gdT]
  refine qs_fin (s_judge hS hc _ _) h1 h2 (fun r M2 S2 k1 k2 k3 k4 => ?_)
  rw [if_pos rfl, lte]
  exact ok_i ⟨T, M2, S2, rfl, k1, k2, k3, k4, by omega, by omega⟩
theorem lcl_perform (hS : S.ok) (hc : S.c < 600) (h1 : WC t S T M) (h2 : WR (t + 69) S T M) (hj : 6 * j + 6 ≤ L) (hL : L ≤ 3072) : Ok (jL_law_700 L xs T M t (t + 69) (nI (6 * j))) (LGo t j S T) := by
  unfold jL_law_700
  simp (disch := omega) only [i_1, i_2, i_3, i_4, i_5, i_6, nI_add, gvI, cl_nI, h1.1.px.k0, h2.1.1.k, gdI, gdT]
  refine qs_fin (s_perform hS hc _) h1 h2 (fun r M2 S2 k1 k2 k3 k4 => ?_)
  rw [if_pos rfl, lte]
  exact ok_i ⟨T, M2, S2, rfl, k1, k2, k3, k4, by omega, by omega⟩
theorem lcl_day (hS : S.ok) (hc : S.c < 600) (h1 : WC t S T M) (h2 : WR (t + 69) S T M) (hj : 6 * j + 6 ≤ L) (hL : L ≤ 3072) : Ok (jL_law_723 L xs T M t (t + 69) (nI (6 * j))) (LGo t j S T) := by
  unfold jL_law_723
  simp (disch := omega) only [i_1, i_2, i_3, i_4, i_5, i_6, nI_add, gvI, cl_nI, h1.1.px.k0, h2.1.1.k, gdI, gdT]
  refine qt_fin (s_day hS hc _ _) h1 h2 (fun r T1 M1 S2 k1 k2 k3 k4 k5 k6 k7 => ?_)
  unfold jL_law_737
  simp (disch := omega) only [i_1, i_2, i_3, i_4, i_5, i_6, nI_add, gvI, cl_nI, k4.k, gdI, gdT]
  refine Ok.bd k7 (fun p hp => ?_)
  obtain ⟨r2, M2⟩ := p
  obtain ⟨q1, q2, q3⟩ := hp
  have q1 : r2 = r := q1
  rw [une2, q1, if_pos rfl, lte]
  exact ok_i ⟨T1, M2, S2, rfl, k1, k2, q2, q3, k5, k6⟩
theorem lcl_area (hS : S.ok) (hc : S.c < 600) (h1 : WC t S T M) (h2 : WR (t + 69) S T M) (hj : 6 * j + 6 ≤ L) (hL : L ≤ 3072) : Ok (jL_law_756 L xs T M t (t + 69) (nI (6 * j))) (LGo t j S T) := by
  unfold jL_law_756
  simp (disch := omega) only [i_1, i_2, i_3, i_4, i_5, i_6, nI_add, gvI, cl_nI, h1.1.px.k0, h2.1.1.k, gdI, gdT]
  refine qs_fin (QQ.s hS (q_area hS.1.1.1 _)) h1 h2 (fun r M2 S2 k1 k2 k3 k4 => ?_)
  rw [if_pos rfl, lte]
  exact ok_i ⟨T, M2, S2, rfl, k1, k2, k3, k4, by omega, by omega⟩
theorem lcl_eyes (hS : S.ok) (hc : S.c < 600) (h1 : WC t S T M) (h2 : WR (t + 69) S T M) (hj : 6 * j + 6 ≤ L) (hL : L ≤ 3072) : Ok (jL_law_779 L xs T M t (t + 69) (nI (6 * j))) (LGo t j S T) := by
  unfold jL_law_779
  simp (disch := omega) only [i_1, i_2, i_3, i_4, i_5, i_6, nI_add, gvI, cl_nI, h1.1.px.k0, h2.1.1.k, gdI, gdT]
  refine qs_fin (QQ.s hS (q_eyes hS.1.1.1 _)) h1 h2 (fun r M2 S2 k1 k2 k3 k4 => ?_)
  rw [if_pos rfl, lte]
  exact ok_i ⟨T, M2, S2, rfl, k1, k2, k3, k4, by omega, by omega⟩
theorem lcl_greatest (hS : S.ok) (hc : S.c < 600) (h1 : WC t S T M) (h2 : WR (t + 69) S T M) (hj : 6 * j + 6 ≤ L) (hL : L ≤ 3072) : Ok (jL_law_802 L xs T M t (t + 69) (nI (6 * j))) (LGo t j S T) := by
  unfold jL_law_802
  simp (disch := omega) only [i_1, i_2, i_3, i_4, i_5, i_6, nI_add, gvI, cl_nI, h1.1.px.k0, h2.1.1.k, gdI, gdT]
  refine qs_fin (QQ.s hS (q_greatest hS.1.1.1 _)) h1 h2 (fun r M2 S2 k1 k2 k3 k4 => ?_)
  rw [if_pos rfl, lte]
  exact ok_i ⟨T, M2, S2, rfl, k1, k2, k3, k4, by omega, by omega⟩
theorem lcl_rectangle (hS : S.ok) (hc : S.c < 600) (h1 : WC t S T M) (h2 : WR (t + 69) S T M) (hj : 6 * j + 6 ≤ L) (hL : L ≤ 3072) : Ok (jL_law_825 L xs T M t (t + 69) (nI (6 * j))) (LGo t j S T) := by
  unfold jL_law_825
  simp (disch := omega) only [i_1, i_2, i_3, i_4, i_5, i_6, nI_add, gvI, cl_nI, h1.1.px.k0, h2.1.1.k, gdI, gdT]
  refine qs_fin (QQ.s hS (q_rectangle hS.1.1.1 _ _)) h1 h2 (fun r M2 S2 k1 k2 k3 k4 => ?_)
  rw [if_pos rfl, lte]
  exact ok_i ⟨T, M2, S2, rfl, k1, k2, k3, k4, by omega, by omega⟩
theorem lcl_ellipse (hS : S.ok) (hc : S.c < 600) (h1 : WC t S T M) (h2 : WR (t + 69) S T M) (hj : 6 * j + 6 ≤ L) (hL : L ≤ 3072) : Ok (jL_law_858 L xs T M t (t + 69) (nI (6 * j))) (LGo t j S T) := by
  unfold jL_law_858
  simp (disch := omega) only [i_1, i_2, i_3, i_4, i_5, i_6, nI_add, gvI, cl_nI, h1.1.px.k0, h2.1.1.k, gdI, gdT]
  refine qs_fin (QQ.s hS (q_ellipse hS.1.1.1 _ _)) h1 h2 (fun r M2 S2 k1 k2 k3 k4 => ?_)
  rw [if_pos rfl, lte]
  exact ok_i ⟨T, M2, S2, rfl, k1, k2, k3, k4, by omega, by omega⟩
theorem lcl_margin (hS : S.ok) (hc : S.c < 600) (h1 : WC t S T M) (h2 : WR (t + 69) S T M) (hj : 6 * j + 6 ≤ L) (hL : L ≤ 3072) : Ok (jL_law_891 L xs T M t (t + 69) (nI (6 * j))) (LGo t j S T) := by
  unfold jL_law_891
  simp (disch := omega) only [i_1, i_2, i_3, i_4, i_5, i_6, nI_add, gvI, cl_nI, h1.1.px.k0, h2.1.1.k, gdI, gdT]
  refine qs_fin (QQ.s hS (q_margin hS.1.1.1 hS.1.1.2.1 _ _)) h1 h2 (fun r M2 S2 k1 k2 k3 k4 => ?_)
  rw [if_pos rfl, lte]
  exact ok_i ⟨T, M2, S2, rfl, k1, k2, k3, k4, by omega, by omega⟩
theorem lcl_edge (hS : S.ok) (hc : S.c < 600) (h1 : WC t S T M) (h2 : WR (t + 69) S T M) (hj : 6 * j + 6 ≤ L) (hL : L ≤ 3072) : Ok (jL_law_924 L xs T M t (t + 69) (nI (6 * j))) (LGo t j S T) := by
  unfold jL_law_924
  simp (disch := omega) only [i_1, i_2, i_3, i_4, i_5, i_6, nI_add, gvI, cl_nI, h1.1.px.k0, h2.1.1.k, gdI, gdT]
  refine qs_fin (QQ.s hS (q_edge hS.1.1.1 _)) h1 h2 (fun r M2 S2 k1 k2 k3 k4 => ?_)
  rw [if_pos rfl, lte]
  exact ok_i ⟨T, M2, S2, rfl, k1, k2, k3, k4, by omega, by omega⟩
theorem lcl_lag (hS : S.ok) (hc : S.c < 600) (h1 : WC t S T M) (h2 : WR (t + 69) S T M) (hj : 6 * j + 6 ≤ L) (hL : L ≤ 3072) : Ok (jL_law_947 L xs T M t (t + 69) (nI (6 * j))) (LGo t j S T) := by
  unfold jL_law_947
  simp (disch := omega) only [i_1, i_2, i_3, i_4, i_5, i_6, nI_add, gvI, cl_nI, h1.1.px.k0, h2.1.1.k, gdI, gdT]
  refine qs_fin (QQ.s hS (q_lag hS.1.1.1 _)) h1 h2 (fun r M2 S2 k1 k2 k3 k4 => ?_)
  rw [if_pos rfl, lte]
  exact ok_i ⟨T, M2, S2, rfl, k1, k2, k3, k4, by omega, by omega⟩
theorem lcl_bus (hS : S.ok) (hc : S.c < 600) (h1 : WC t S T M) (h2 : WR (t + 69) S T M) (hj : 6 * j + 6 ≤ L) (hL : L ≤ 3072) : Ok (jL_law_970 L xs T M t (t + 69) (nI (6 * j))) (LGo t j S T) := by
  unfold jL_law_970
  simp (disch := omega) only [i_1, i_2, i_3, i_4, i_5, i_6, nI_add, gvI, cl_nI, h1.1.px.k0, h2.1.1.k, gdI, gdT]
  refine qs_fin (QQ.s hS (q_bus hS.1.1.1 hS.1.1.2.1 _)) h1 h2 (fun r M2 S2 k1 k2 k3 k4 => ?_)
  rw [if_pos rfl, lte]
  exact ok_i ⟨T, M2, S2, rfl, k1, k2, k3, k4, by omega, by omega⟩
theorem lcl_harshest (hS : S.ok) (hc : S.c < 600) (h1 : WC t S T M) (h2 : WR (t + 69) S T M) (hj : 6 * j + 6 ≤ L) (hL : L ≤ 3072) : Ok (jL_law_993 L xs T M t (t + 69) (nI (6 * j))) (LGo t j S T) := by
  unfold jL_law_993
  simp (disch := omega) only [i_1, i_2, i_3, i_4, i_5, i_6, nI_add, gvI, cl_nI, h1.1.px.k0, h2.1.1.k, gdI, gdT]
  refine qs_fin (QQ.s hS (q_harshest hS.1.1.1 hS.1.1.2.1 _)) h1 h2 (fun r M2 S2 k1 k2 k3 k4 => ?_)
  rw [if_pos rfl, lte]
  exact ok_i ⟨T, M2, S2, rfl, k1, k2, k3, k4, by omega, by omega⟩
theorem lcl_tell (hS : S.ok) (hc : S.c < 600) (h1 : WC t S T M) (h2 : WR (t + 69) S T M) (hj : 6 * j + 6 ≤ L) (hL : L ≤ 3072) : Ok (jL_law_1016 L xs T M t (t + 69) (nI (6 * j))) (LGo t j S T) := by
  unfold jL_law_1016
  simp (disch := omega) only [i_1, i_2, i_3, i_4, i_5, i_6, nI_add, gvI, cl_nI, h1.1.px.k0, h2.1.1.k, gdI, gdT]
  refine qs_fin (QQ.s hS (q_tell hS.1.1.1 hS.1.1.2.1 _ _)) h1 h2 (fun r M2 S2 k1 k2 k3 k4 => ?_)
  rw [if_pos rfl, lte]
  exact ok_i ⟨T, M2, S2, rfl, k1, k2, k3, k4, by omega, by omega⟩
theorem lcl_later (hS : S.ok) (hc : S.c < 600) (h1 : WC t S T M) (h2 : WR (t + 69) S T M) (hj : 6 * j + 6 ≤ L) (hL : L ≤ 3072) : Ok (jL_law_1049 L xs T M t (t + 69) (nI (6 * j))) (LGo t j S T) := by
  unfold jL_law_1049
  simp (disch := omega) only [i_1, i_2, i_3, i_4, i_5, i_6, nI_add, gvI, cl_nI, h1.1.px.k0, h2.1.1.k, gdI, gdT]
  refine qs_fin (QQ.s hS (q_later hS.1.1.1 _ _)) h1 h2 (fun r M2 S2 k1 k2 k3 k4 => ?_)
  rw [if_pos rfl, lte]
  exact ok_i ⟨T, M2, S2, rfl, k1, k2, k3, k4, by omega, by omega⟩
theorem lcl_holds (hS : S.ok) (hc : S.c < 600) (h1 : WC t S T M) (h2 : WR (t + 69) S T M) (hj : 6 * j + 6 ≤ L) (hL : L ≤ 3072) : Ok (jL_law_1082 L xs T M t (t + 69) (nI (6 * j))) (LGo t j S T) := by
  unfold jL_law_1082
  simp (disch := omega) only [i_1, i_2, i_3, i_4, i_5, i_6, nI_add, gvI, cl_nI, h1.1.px.k0, h2.1.1.k, gdI, gdT]
  refine qs_fin (QQ.s hS (q_holds hS.1.1.1 _)) h1 h2 (fun r M2 S2 k1 k2 k3 k4 => ?_)
  rw [if_pos rfl, lte]
  exact ok_i ⟨T, M2, S2, rfl, k1, k2, k3, k4, by omega, by omega⟩
theorem lcl_follows (hS : S.ok) (hc : S.c < 600) (h1 : WC t S T M) (h2 : WR (t + 69) S T M) (hj : 6 * j + 6 ≤ L) (hL : L ≤ 3072) : Ok (jL_law_1105 L xs T M t (t + 69) (nI (6 * j))) (LGo t j S T) := by
  unfold jL_law_1105
  simp (disch := omega) only [i_1, i_2, i_3, i_4, i_5, i_6, nI_add, gvI, cl_nI, h1.1.px.k0, h2.1.1.k, gdI, gdT]
  refine qs_fin (QQ.s hS (q_follows hS.1.1.1 hS.1.1.2.1 _)) h1 h2 (fun r M2 S2 k1 k2 k3 k4 => ?_)
  rw [if_pos rfl, lte]
  exact ok_i ⟨T, M2, S2, rfl, k1, k2, k3, k4, by omega, by omega⟩
theorem lcl_at (hS : S.ok) (hc : S.c < 600) (h1 : WC t S T M) (h2 : WR (t + 69) S T M) (hj : 6 * j + 6 ≤ L) (hL : L ≤ 3072) : Ok (jL_law_1128 L xs T M t (t + 69) (nI (6 * j))) (LGo t j S T) := by
  unfold jL_law_1128
  simp (disch := omega) only [i_1, i_2, i_3, i_4, i_5, i_6, nI_add, gvI, cl_nI, h1.1.px.k0, h2.1.1.k, gdI, gdT]
  refine qs_fin (QQ.s hS (q_at hS.1.1.1 hS.1.1.2.1 _ _)) h1 h2 (fun r M2 S2 k1 k2 k3 k4 => ?_)
  rw [if_pos rfl, lte]
  exact ok_i ⟨T, M2, S2, rfl, k1, k2, k3, k4, by omega, by omega⟩
theorem lcl_steps (hS : S.ok) (hc : S.c < 600) (h1 : WC t S T M) (h2 : WR (t + 69) S T M) (hj : 6 * j + 6 ≤ L) (hL : L ≤ 3072) : Ok (jL_law_1161 L xs T M t (t + 69) (nI (6 * j))) (LGo t j S T) := by
  unfold jL_law_1161
  simp (disch := omega) only [i_1, i_2, i_3, i_4, i_5, i_6, nI_add, gvI, cl_nI, h1.1.px.k0, h2.1.1.k, gdI, gdT]
  refine qs_fin (QQ.s hS (q_steps hS.1.1.1 hS.1.1.2.1 _)) h1 h2 (fun r M2 S2 k1 k2 k3 k4 => ?_)
  rw [if_pos rfl, lte]
  exact ok_i ⟨T, M2, S2, rfl, k1, k2, k3, k4, by omega, by omega⟩
theorem lcl_way (hS : S.ok) (hc : S.c < 600) (h1 : WC t S T M) (h2 : WR (t + 69) S T M) (hj : 6 * j + 6 ≤ L) (hL : L ≤ 3072) : Ok (jL_law_1184 L xs T M t (t + 69) (nI (6 * j))) (LGo t j S T) := by
  unfold jL_law_1184
  simp (disch := omega) only [i_1, i_2, i_3, i_4, i_5, i_6, nI_add, gvI, cl_nI, h1.1.px.k0, h2.1.1.k, gdI, gdT]
  refine qs_fin (QQ.s hS (q_way hS.1.1.1 hS.1.1.2.1 _ _)) h1 h2 (fun r M2 S2 k1 k2 k3 k4 => ?_)
  rw [if_pos rfl, lte]
  exact ok_i ⟨T, M2, S2, rfl, k1, k2, k3, k4, by omega, by omega⟩
theorem lcl_ways (hS : S.ok) (hc : S.c < 600) (h1 : WC t S T M) (h2 : WR (t + 69) S T M) (hj : 6 * j + 6 ≤ L) (hL : L ≤ 3072) : Ok (jL_law_1217 L xs T M t (t + 69) (nI (6 * j))) (LGo t j S T) := by
  unfold jL_law_1217
  simp (disch := omega) only [i_1, i_2, i_3, i_4, i_5, i_6, nI_add, gvI, cl_nI, h1.1.px.k0, h2.1.1.k, gdI, gdT]
  refine qs_fin (QQ.s hS (q_ways hS.1.1.1 hS.1.1.2.1 _ _)) h1 h2 (fun r M2 S2 k1 k2 k3 k4 => ?_)
  rw [if_pos (lg_self r), lte]
  exact ok_i ⟨T, M2, S2, rfl, k1, k2, k3, k4, by omega, by omega⟩
theorem lcl_drifts (hS : S.ok) (hc : S.c < 600) (h1 : WC t S T M) (h2 : WR (t + 69) S T M) (hj : 6 * j + 6 ≤ L) (hL : L ≤ 3072) : Ok (jL_law_1251 L xs T M t (t + 69) (nI (6 * j))) (LGo t j S T) := by
  unfold jL_law_1251
  simp (disch := omega) only [i_1, i_2, i_3, i_4, i_5, i_6, nI_add, gvI, cl_nI, h1.1.px.k0, h2.1.1.k, gdI, gdT]
  refine qs_fin (s_drifts hS _ _) h1 h2 (fun r M2 S2 k1 k2 k3 k4 => ?_)
  rw [if_pos rfl, lte]
  exact ok_i ⟨T, M2, S2, rfl, k1, k2, k3, k4, by omega, by omega⟩
theorem lcl_attempt (hS : S.ok) (hc : S.c < 600) (h1 : WC t S T M) (h2 : WR (t + 69) S T M) (hj : 6 * j + 6 ≤ L) (hL : L ≤ 3072) : Ok (jL_law_1284 L xs T M t (t + 69) (nI (6 * j))) (LGo t j S T) := by
  unfold jL_law_1284
  simp (disch := omega) only [i_1, i_2, i_3, i_4, i_5, i_6, nI_add, gvI, cl_nI, h1.1.px.k0, h2.1.1.k, gdI, gdT]
  refine qs_fin (s_attempt hS _ _) h1 h2 (fun r M2 S2 k1 k2 k3 k4 => ?_)
  rw [if_pos rfl, lte]
  exact ok_i ⟨T, M2, S2, rfl, k1, k2, k3, k4, by omega, by omega⟩
theorem lcl_chance (hS : S.ok) (hc : S.c < 600) (h1 : WC t S T M) (h2 : WR (t + 69) S T M) (hj : 6 * j + 6 ≤ L) (hL : L ≤ 3072) : Ok (jL_law_1317 L xs T M t (t + 69) (nI (6 * j))) (LGo t j S T) := by
  unfold jL_law_1317
  simp (disch := omega) only [i_1, i_2, i_3, i_4, i_5, i_6, nI_add, gvI, cl_nI, h1.1.px.k0, h2.1.1.k, gdI, gdT]
  refine qs_fin (QQ.s hS (q_chance hS.1.1.1 hS.1.1.2.1 _ _ _)) h1 h2 (fun r M2 S2 k1 k2 k3 k4 => ?_)
  rw [if_pos rfl, lte]
  exact ok_i ⟨T, M2, S2, rfl, k1, k2, k3, k4, by omega, by omega⟩
theorem lcl_mean (hS : S.ok) (hc : S.c < 600) (h1 : WC t S T M) (h2 : WR (t + 69) S T M) (hj : 6 * j + 6 ≤ L) (hL : L ≤ 3072) : Ok (jL_law_1360 L xs T M t (t + 69) (nI (6 * j))) (LGo t j S T) := by
  unfold jL_law_1360
  simp (disch := omega) only [i_1, i_2, i_3, i_4, i_5, i_6, nI_add, gvI, cl_nI, h1.1.px.k0, h2.1.1.k, gdI, gdT]
  refine qs_fin (QQ.s hS (q_mean hS.1.1.1 hS.1.1.2.1 _ _)) h1 h2 (fun r M2 S2 k1 k2 k3 k4 => ?_)
  rw [if_pos rfl, lte]
  exact ok_i ⟨T, M2, S2, rfl, k1, k2, k3, k4, by omega, by omega⟩
theorem lcl_numbers (hS : S.ok) (hc : S.c < 600) (h1 : WC t S T M) (h2 : WR (t + 69) S T M) (hj : 6 * j + 6 ≤ L) (hL : L ≤ 3072) : Ok (jL_law_1393 L xs T M t (t + 69) (nI (6 * j))) (LGo t j S T) := by
  unfold jL_law_1393
  simp (disch := omega) only [i_1, i_2, i_3, i_4, i_5, i_6, nI_add, gvI, cl_nI, h1.1.px.k0, h2.1.1.k, gdI, gdT]
  refine qs_fin (s_numbers hS _ _ _) h1 h2 (fun r M2 S2 k1 k2 k3 k4 => ?_)
  rw [if_pos rfl, lte]
  exact ok_i ⟨T, M2, S2, rfl, k1, k2, k3, k4, by omega, by omega⟩
theorem lcl_write (hS : S.ok) (hc : S.c < 600) (h1 : WC t S T M) (h2 : WR (t + 69) S T M) (hj : 6 * j + 6 ≤ L) (hL : L ≤ 3072) : Ok (jL_law_1436 L xs T M t (t + 69) (nI (6 * j))) (LGo t j S T) := by
  unfold jL_law_1436
  simp (disch := omega) only [i_1, i_2, i_3, i_4, i_5, i_6, nI_add, gvI, cl_nI, h1.1.px.k0, h2.1.1.k, gdI, gdT]
  refine qs_fin (s_write hS _ _ _) h1 h2 (fun r M2 S2 k1 k2 k3 k4 => ?_)
  rw [if_pos (lg_self r), lte]
  exact ok_i ⟨T, M2, S2, rfl, k1, k2, k3, k4, by omega, by omega⟩
theorem lcl_lists (hS : S.ok) (hc : S.c < 600) (h1 : WC t S T M) (h2 : WR (t + 69) S T M) (hj : 6 * j + 6 ≤ L) (hL : L ≤ 3072) : Ok (jL_law_1510 L xs T M t (t + 69) (nI (6 * j))) (LGo t j S T) := by
  unfold jL_law_1510
  simp (disch := omega) only [i_1, i_2, i_3, i_4, i_5, i_6, nI_add, gvI, cl_nI, h1.1.px.k0, h2.1.1.k, gdI, gdT]
  refine qs_fin (s_lists hS _ _) h1 h2 (fun r M2 S2 k1 k2 k3 k4 => ?_)
  rw [if_pos rfl, lte]
  exact ok_i ⟨T, M2, S2, rfl, k1, k2, k3, k4, by omega, by omega⟩
theorem lcl_image (hS : S.ok) (hc : S.c < 600) (h1 : WC t S T M) (h2 : WR (t + 69) S T M) (hj : 6 * j + 6 ≤ L) (hL : L ≤ 3072) : Ok (jL_law_1543 L xs T M t (t + 69) (nI (6 * j))) (LGo t j S T) := by
  unfold jL_law_1543
  simp (disch := omega) only [i_1, i_2, i_3, i_4, i_5, i_6, nI_add, gvI, cl_nI, h1.1.px.k0, h2.1.1.k, gdI, gdT]
  refine qs_fin (s_image hS _) h1 h2 (fun r M2 S2 k1 k2 k3 k4 => ?_)
  rw [if_pos rfl, lte]
  exact ok_i ⟨T, M2, S2, rfl, k1, k2, k3, k4, by omega, by omega⟩
theorem lcl_restore (hS : S.ok) (hc : S.c < 600) (h1 : WC t S T M) (h2 : WR (t + 69) S T M) (hj : 6 * j + 6 ≤ L) (hL : L ≤ 3072) : Ok (jL_law_1566 L xs T M t (t + 69) (nI (6 * j))) (LGo t j S T) := by
  unfold jL_law_1566
  simp (disch := omega) only [i_1, i_2, i_3, i_4, i_5, i_6, nI_add, gvI, cl_nI, h1.1.px.k0, h2.1.1.k, gdI, gdT]
  refine qs_fin (s_restore hS hc _) h1 h2 (fun r M2 S2 k1 k2 k3 k4 => ?_)
  rw [if_pos rfl, lte]
  exact ok_i ⟨T, M2, S2, rfl, k1, k2, k3, k4, by omega, by omega⟩
theorem lcl_count (hS : S.ok) (hc : S.c < 600) (h1 : WC t S T M) (h2 : WR (t + 69) S T M) (hj : 6 * j + 6 ≤ L) (hL : L ≤ 3072) : Ok (jL_law_1589 L xs T M t (t + 69) (nI (6 * j))) (LGo t j S T) := by
  unfold jL_law_1589
  simp (disch := omega) only [i_1, i_2, i_3, i_4, i_5, i_6, nI_add, gvI, cl_nI, h1.1.px.k0, h2.1.1.k, gdI, gdT]
  refine qs_fin (s_count hS _) h1 h2 (fun r M2 S2 k1 k2 k3 k4 => ?_)
  rw [if_pos rfl, lte]
  exact ok_i ⟨T, M2, S2, rfl, k1, k2, k3, k4, by omega, by omega⟩
theorem sub6 {k : Nat} (hL : L ≤ 3072) (hk : k ≤ 4000) : (nI L - (6 : Int32) < nI k) ↔ (L : Int) - 6 < k := by
  have k6 : (6 : Int32).toInt = 6 := by decide
  rw [fa_lt, Int32.toInt_sub, nI_toInt (by omega), nI_toInt (by omega), k6, Int.bmod_eq_of_le (by omega) (by omega)]
theorem l_step (hS : S.ok) (hc : S.c < 600) (h1 : WC t S T M) (h2 : WR (t + 69) S T M) (hj : 6 * j + 6 ≤ L) (hL : L ≤ 3072) : Ok (bL_law_18 L xs t (t + 69) (nI (6 * j)) T M) (LGo t j S T) := by
  unfold bL_law_18
  rw [if_neg (by rw [sub6 hL (by omega)]; omega), gvI (by omega) (by omega), lte]
  generalize xs (Int32.toNatClampNeg (nI (6 * j))) &&& 63 = v
  by_cases y0 : v = 0
  · rw [if_pos y0]; exact lcl_feed hS hc h1 h2 hj hL
  rw [if_neg y0]
  by_cases y1 : v = 1
  · rw [if_pos y1]; exact lcl_lab hS hc h1 h2 hj hL
  rw [if_neg y1]
  by_cases y2 : v = 2
  · rw [if_pos y2]; exact lcl_fault hS hc h1 h2 hj hL
  rw [if_neg y2]
  by_cases y3 : v = 3
  · rw [if_pos y3]; exact lcl_lane hS hc h1 h2 hj hL
  rw [if_neg y3]
  by_cases y4 : v = 4
  · rw [if_pos y4]; exact lcl_stress hS hc h1 h2 hj hL
  rw [if_neg y4]
  by_cases y5 : v = 5
  · rw [if_pos y5]; exact lcl_drift hS hc h1 h2 hj hL
  rw [if_neg y5]
  by_cases y6 : v = 6
  · rw [if_pos y6]; exact lcl_passes hS hc h1 h2 hj hL
  rw [if_neg y6]
  by_cases y7 : v = 7
  · rw [if_pos y7]; exact lcl_row hS hc h1 h2 hj hL
  rw [if_neg y7]
  by_cases y8 : v = 8
  · rw [if_pos y8]; exact lcl_risen hS hc h1 h2 hj hL
  rw [if_neg y8]
  by_cases y9 : v = 9
  · rw [if_pos y9]; exact lcl_place hS hc h1 h2 hj hL
  rw [if_neg y9]
  by_cases y10 : v = 10
  · rw [if_pos y10]; exact lcl_train hS hc h1 h2 hj hL
  rw [if_neg y10]
  by_cases y11 : v = 11
  · rw [if_pos y11]; exact lcl_ticks hS hc h1 h2 hj hL
  rw [if_neg y11]
  by_cases y12 : v = 12
  · rw [if_pos y12]; exact lcl_follow hS hc h1 h2 hj hL
  rw [if_neg y12]
  by_cases y13 : v = 13
  · rw [if_pos y13]; exact lcl_pattern hS hc h1 h2 hj hL
  rw [if_neg y13]
  by_cases y14 : v = 14
  · rw [if_pos y14]; exact lcl_undo hS hc h1 h2 hj hL
  rw [if_neg y14]
  by_cases y15 : v = 15
  · rw [if_pos y15]; exact lcl_judge hS hc h1 h2 hj hL
  rw [if_neg y15]
  by_cases y16 : v = 16
  · rw [if_pos y16]; exact lcl_perform hS hc h1 h2 hj hL
  rw [if_neg y16]
  by_cases y17 : v = 17
  · rw [if_pos y17]; exact lcl_day hS hc h1 h2 hj hL
  rw [if_neg y17]
  by_cases y18 : v = 18
  · rw [if_pos y18]; exact lcl_area hS hc h1 h2 hj hL
  rw [if_neg y18]
  by_cases y19 : v = 19
  · rw [if_pos y19]; exact lcl_eyes hS hc h1 h2 hj hL
  rw [if_neg y19]
  by_cases y20 : v = 20
  · rw [if_pos y20]; exact lcl_greatest hS hc h1 h2 hj hL
  rw [if_neg y20]
  by_cases y21 : v = 21
  · rw [if_pos y21]; exact lcl_rectangle hS hc h1 h2 hj hL
  rw [if_neg y21]
  by_cases y22 : v = 22
  · rw [if_pos y22]; exact lcl_ellipse hS hc h1 h2 hj hL
  rw [if_neg y22]
  by_cases y23 : v = 23
  · rw [if_pos y23]; exact lcl_margin hS hc h1 h2 hj hL
  rw [if_neg y23]
  by_cases y24 : v = 24
  · rw [if_pos y24]; exact lcl_edge hS hc h1 h2 hj hL
  rw [if_neg y24]
  by_cases y25 : v = 25
  · rw [if_pos y25]; exact lcl_lag hS hc h1 h2 hj hL
  rw [if_neg y25]
  by_cases y26 : v = 26
  · rw [if_pos y26]; exact lcl_bus hS hc h1 h2 hj hL
  rw [if_neg y26]
  by_cases y27 : v = 27
  · rw [if_pos y27]; exact lcl_harshest hS hc h1 h2 hj hL
  rw [if_neg y27]
  by_cases y28 : v = 28
  · rw [if_pos y28]; exact lcl_tell hS hc h1 h2 hj hL
  rw [if_neg y28]
  by_cases y29 : v = 29
  · rw [if_pos y29]; exact lcl_later hS hc h1 h2 hj hL
  rw [if_neg y29]
  by_cases y30 : v = 30
  · rw [if_pos y30]; exact lcl_holds hS hc h1 h2 hj hL
  rw [if_neg y30]
  by_cases y31 : v = 31
  · rw [if_pos y31]; exact lcl_follows hS hc h1 h2 hj hL
  rw [if_neg y31]
  by_cases y32 : v = 32
  · rw [if_pos y32]; exact lcl_at hS hc h1 h2 hj hL
  rw [if_neg y32]
  by_cases y33 : v = 33
  · rw [if_pos y33]; exact lcl_steps hS hc h1 h2 hj hL
  rw [if_neg y33]
  by_cases y34 : v = 34
  · rw [if_pos y34]; exact lcl_way hS hc h1 h2 hj hL
  rw [if_neg y34]
  by_cases y35 : v = 35
  · rw [if_pos y35]; exact lcl_ways hS hc h1 h2 hj hL
  rw [if_neg y35]
  by_cases y36 : v = 36
  · rw [if_pos y36]; exact lcl_drifts hS hc h1 h2 hj hL
  rw [if_neg y36]
  by_cases y37 : v = 37
  · rw [if_pos y37]; exact lcl_attempt hS hc h1 h2 hj hL
  rw [if_neg y37]
  by_cases y38 : v = 38
  · rw [if_pos y38]; exact lcl_chance hS hc h1 h2 hj hL
  rw [if_neg y38]
  by_cases y39 : v = 39
  · rw [if_pos y39]; exact lcl_mean hS hc h1 h2 hj hL
  rw [if_neg y39]
  by_cases y40 : v = 40
  · rw [if_pos y40]; exact lcl_numbers hS hc h1 h2 hj hL
  rw [if_neg y40]
  by_cases y41 : v = 41
  · rw [if_pos y41]; exact lcl_write hS hc h1 h2 hj hL
  rw [if_neg y41]
  by_cases y42 : v = 42
  · rw [if_pos y42]; exact lcl_lists hS hc h1 h2 hj hL
  rw [if_neg y42]
  by_cases y43 : v = 43
  · rw [if_pos y43]; exact lcl_image hS hc h1 h2 hj hL
  rw [if_neg y43]
  by_cases y44 : v = 44
  · rw [if_pos y44]; exact lcl_restore hS hc h1 h2 hj hL
  rw [if_neg y44]
  by_cases y45 : v = 45
  · rw [if_pos y45]; exact lcl_count hS hc h1 h2 hj hL
  rw [if_neg y45]
  rw [lte, i_6, nI_add]
  exact ok_i ⟨T, M, S, rfl, hS, by omega, h1, h2, by omega, by omega⟩
end
