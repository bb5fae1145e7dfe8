/-! a day: a cell of draws lies beside -/
section
variable {x z b a lw k : Nat} {v : Int32} {A B : Nat → Int32} {T T2 : Sh} {M M1 M2 : Me} {S : Wd}
theorem CLaw.pz (h : CLaw x b A lw T M) (hz : kd T z = 0) : CLaw x b A lw T (pI M z k v) := by
  obtain ⟨⟨h1, h2, h3⟩, ⟨c, n, h4, h5, h6, h7, h8, h9, h10⟩, h11⟩ := h
  have nb : b ≠ z := fun q => by rw [q, hz] at h1; omega
  have nc : c ≠ z := fun q => by rw [q, hz] at h5; omega
  refine ⟨⟨h1, h2, h3⟩, ⟨c, n, h4, h5, h6, h7, h8, h9, ?_⟩, ?_⟩
  · have e : gI (pI M z k v) c = gI M c := funext fun q => mIIn nc
    rw [e]; exact h10
  · rw [mIIn nb]; exact h11
theorem CLab.pz (h : CLab x a A T M) (hz : kd T z = 0) : CLab x a A T (pI M z k v) := by
  obtain ⟨⟨h1, h2, h3⟩, h4, ⟨h5, h6, h7, h8, h9⟩, h10, h11, h12⟩ := h
  have na : a ≠ z := fun q => by rw [q, hz] at h1; omega
  have ni : ∀ i, i < 5 → a + 1 + i ≠ z := fun i hi q => by
    have := (h4 i hi).2.1
    rw [q, hz] at this; omega
  refine ⟨⟨h1, h2, h3⟩, h4, ⟨(mIIn na).trans h5, (mIIn na).trans h6, (mIIn na).trans h7, (mIIn na).trans h8, (mIIn na).trans h9⟩, fun l hl => ?_, fun q hq => (mIIn (ni 4 (by omega))).trans (h11 q hq), fun lw hl => ?_⟩
  · obtain ⟨k1, k2, k3, k4⟩ := h10 l hl
    exact ⟨(mIIn (ni 0 (by omega))).trans k1, (mIIn (ni 1 (by omega))).trans k2, (mIIn (ni 2 (by omega))).trans k3, (mIIn (ni 3 (by omega))).trans k4⟩
  · rcases h12 lw hl with q | ⟨b, k1, k2, k3⟩
    · exact Or.inl q
    · exact Or.inr ⟨b, k1, k2, k3.pz hz⟩
theorem CV.pz (h : CV x A T M) (hz : kd T z = 0) (hx : x + 88 ≤ z) : CV x A T (pI M z k v) := by
  obtain ⟨h1, ⟨a, ha, hl⟩, ⟨h3, G, g1, g2, g3, g4⟩, ⟨h4, h5, h6⟩, h7, h8, h9, h10⟩ := h
  have eU : mU x (pI M z k v) = mU x M := by
    unfold mU
    rw [mRI, ha]
    simp only
    rw [mRI]
    rcases hl.law (lw := 0) (by omega) with q | ⟨b, k1, k2, k3⟩
    · rw [q.1]
    · rw [k1]
      simp only
      exact mIIn (fun q => by have := k3.1.1; rw [q, hz] at this; omega)
  exact ⟨h1.eq rfl, ⟨a, ha, hl.pz hz⟩, ⟨fun r hr => by rw [mIIn (by omega)]; exact h3 r hr, G, g1, g2, g3, fun q hq => by rw [mJI, eU]; exact g4 q hq⟩, ⟨(mIIn (by omega)).trans h4, (mIIn (by omega)).trans h5, fun l hl => (mIIn (by omega)).trans (h6 l hl)⟩, h7, h8, h9, fun j hj => by rw [mIIn (by omega)]; exact h10 j hj⟩
theorem IMC.pz {i : Nat} {o : Option (Nat → Int32)} (h : IMC x i o T M) (hi : i < 2) (hz : kd T z = 0) (hx : x + 88 ≤ z) : IMC x i o T (pI M z k v) := by
  cases o with
  | none => exact h
  | some B =>
    obtain ⟨a, h1, h2, h3⟩ := h
    exact ⟨a, h1, h2.pz hz, h3.fr (fun q => mIIn (by omega)) (fun q => mIIn (by omega))⟩
theorem WX.pz (h : WX x S T M) (hz : kd T z = 0) (hx : x + 88 ≤ z) : WX x S T (pI M z k v) := by
  obtain ⟨h0, ⟨h1, h2⟩, ⟨h3, h4⟩, h5, h6, G, h7, h8⟩ := h
  refine ⟨h0, ⟨(mIIn (by omega)).trans h1, fun i hi => (mIIn (by omega)).trans (h2 i hi)⟩, ⟨(mIIn (by omega)).trans h3, (mIIn (by omega)).trans h4⟩, fun t ht => ?_, fun i hi => (h6 i hi).pz hi hz hx, G, h7, h8⟩
  obtain ⟨q1, q2, q3⟩ := h5 t ht
  exact ⟨(mIIn (by omega)).trans q1, fun y => (mIIn (by omega)).trans (q2 y), q3⟩
theorem UN.pz {u : Nat} (h : UN x A u M) (hx : x + 88 ≤ z) : UN x A u (pI M z k v) := h.fr (mIIn (by omega)) (fun a q _ _ => mIIn (by omega)) (fun _ => rfl)
/-- a new cell -/
theorem TE.new {kk n s : Nat} : TE T (nT T kk n s) := ⟨Nat.le_succ _, fun a ha => ⟨if_neg (by unfold tp at ha; omega), if_neg (by unfold tp at ha; omega)⟩⟩
theorem gI_old {q : Nat} (h : a ≠ tp T) : gI (nM T M) a q = gI M a q := congrFun (show (va_up M.1 T.1 (fun _ => 0)) a = M.1 a from if_neg h) q
theorem gJ_old {q : Nat} (h : a ≠ tp T) : gJ (nM T M) a q = gJ M a q := congrFun (show (va_up M.2.1 T.1 (fun _ => 0)) a = M.2.1 a from if_neg h) q
theorem gR_old {q : Nat} (h : a ≠ tp T) : gR (nM T M) a q = gR M a q := congrFun (show (va_up M.2.2 T.1 (fun _ => none)) a = M.2.2 a from if_neg h) q
theorem WC.new {kk n s : Nat} (h : WC x S T M) : WC x S (nT T kk n s) (nM T M) := by
  obtain ⟨h1, h2, h0, ⟨h3, h4⟩, ⟨h5, h6⟩, h7, h8, G, h9, h10⟩ := h
  have htp : x + 88 ≤ tp (nT T kk n s) := by show x + 88 ≤ tp T + 1; omega
  refine ⟨h1.fr TE.new (by omega) (fun a q _ ha => gI_old (by omega)) (fun a q z => gJ_old (by omega)) (fun a q _ ha => gR_old (by omega)), h2.fr (gI_old (by omega)) (fun a q _ _ => gI_old (by omega)) (fun q => gR_old (by omega)), htp, ⟨(gI_old (by omega)).trans h3, fun i hi => (gI_old (by omega)).trans (h4 i hi)⟩, ⟨(gI_old (by omega)).trans h5, (gI_old (by omega)).trans h6⟩, fun t ht => ?_, fun i hi => (h8 i hi).fr hi TE.new (fun a q _ ha => gI_old (by omega)) (fun a q _ ha => gR_old (by omega)) h0, G, (gJ_old (by omega)).trans h9, h10⟩
  obtain ⟨q1, q2, q3⟩ := h7 t ht
  exact ⟨(gI_old (by omega)).trans q1, fun y => (gI_old (by omega)).trans (q2 y), fun i hi => (gJ_old (by omega)).trans (q3 i hi)⟩
end
