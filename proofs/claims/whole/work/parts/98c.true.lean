/-! the law is true -/
theorem zBS_b : zBS ≤ 100000 := by decide
theorem law_true : ∀ (t L : Nat) (xs : Nat → Int32), L ≤ 3072 → ∃ (r : Int32) (T' : Sh) (M' : Me), fL_law L xs (T00 t) M00 = some (r, T', M') ∧ tp T' ≤ t + 600000 ∧ sl T' ≤ 7302250 := by
  intro t L xs hL
  have hz := zBS_b
  have main : Ok (fL_law L xs (T00 t) M00) (fun p => tp p.2.1 ≤ t + 600000 ∧ sl p.2.1 ≤ 7302250) := by
    refine law_begin (fun T M h => ?_)
    refine Ok.bd (bs_plain h) (fun p hp => ?_)
    obtain ⟨p1, M1⟩ := p
    obtain ⟨g1, g2, g3⟩ := hp
    have g3 : M1.2 = M.2 := g3
    obtain ⟨w1, w2, w3, w4⟩ := bs_start h g1 g2 g3
    clear h
    generalize zBS = zz at hz w4
    rw [une2]
    unfold jL_law_15
    have hd6 : 6 * (L / 6) ≤ L := by omega
    refine Ok.bd (ok_forE (s := ((0 : Int32), T, M1)) 0 (L / 6) (fun j s => ∃ T2 M2 S, s = (nI (6 * j), T2, M2) ∧ Wd.ok S ∧ S.c ≤ j ∧ WC t S T2 M2 ∧ WR (t + 69) S T2 M2 ∧ tp T2 ≤ t + 88 + 1100 * j ∧ sl T2 ≤ zz + 14000 * j) (fun r => tp r.1 ≤ t + 600000 ∧ sl r.1 ≤ 7302250) ⟨T, M1, S00, rfl, S00_ok, Nat.le_refl _, w1, w2, by omega, by omega⟩ (by omega) (by omega) (fun j s _ hj hI => ?_) (fun s hI => ?_)) (fun r hr => ?_)
    · obtain ⟨T2, M2, S, rfl, k1, k2, k3, k4, k5, k6⟩ := hI
      show Ok (bL_law_18 L xs (t + 0) (t + 69) (nI (6 * j)) T2 M2) _
      refine (l_step k1 (by omega) k3 k4 (by omega) hL).mono (fun o ho => ?_)
      obtain ⟨T3, M3, S3, rfl, q1, q2, q3, q4, q5, q6⟩ := ho
      have e1 : 1100 * (j + 1) = 1100 * j + 1100 := Nat.mul_succ _ _
      have e2 : 14000 * (j + 1) = 14000 * j + 14000 := Nat.mul_succ _ _
      have a1 : tp T3 ≤ t + 88 + 1100 * (j + 1) := by rw [e1, ← Nat.add_assoc]; exact Nat.le_trans q5 (Nat.add_le_add_right k5 1100)
      have a2 : sl T3 ≤ zz + 14000 * (j + 1) := by rw [e2, ← Nat.add_assoc]; exact Nat.le_trans q6 (Nat.add_le_add_right k6 14000)
      exact ⟨T3, M3, S3, by rw [show 6 * j + 6 = 6 * (j + 1) by omega], q1, by omega, q3, q4, a1, a2⟩
    · obtain ⟨T2, M2, S, rfl, k1, k2, k3, k4, k5, k6⟩ := hI
      show Ok (bL_law_18 L xs (t + 0) (t + 69) (nI (6 * (L / 6))) T2 M2) _
      unfold bL_law_18
      rw [if_pos (by rw [sub6 hL (by omega)]; omega)]
      exact ok_i ⟨by show tp T2 ≤ _; omega, by show sl T2 ≤ _; omega⟩
    · obtain ⟨T2, M2⟩ := r
      rw [une2]
      exact ok_i hr
  obtain ⟨⟨r, T', M'⟩, e, h1, h2⟩ := main
  exact ⟨r, T', M', e, h1, h2⟩
