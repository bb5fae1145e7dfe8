/-! cells, beside one another; margins -/
def pmc (pm : Nat → Nat → Bool) (c : Nat) : Bool := pm (c / 24) (c % 24)
def pmI (pm : Nat → Nat → Bool) (z y : Int) : Bool := decide (0 ≤ z ∧ z < 24) && (decide (0 ≤ y ∧ y < 16) && pm y.toNat z.toNat)
theorem pmI_n {pm : Nat → Nat → Bool} {d v : Nat} (hd : d < 24) (hv : v < 16) : pmI pm d v = pm v d := by
  unfold pmI
  rw [decide_eq_true (by omega), decide_eq_true (by omega)]
  simp
theorem pmI_out {pm : Nat → Nat → Bool} {z y : Int} (h : ¬ (0 ≤ z ∧ z < 24 ∧ 0 ≤ y ∧ y < 16)) : pmI pm z y = false := by
  unfold pmI
  by_cases h1 : 0 ≤ z ∧ z < 24
  · rw [decide_eq_false (show ¬ (0 ≤ y ∧ y < 16) by omega)]; simp
  · rw [decide_eq_false h1]; simp
theorem c_has {x c : Nat} {pm : Nat → Nat → Bool} {T : Sh} {M : Me} (hp : PX x T M) (hg : MP (x + 20) (mr pm) M) (hc : c < 384) : fX7_has T M (x + 19) (nI c) = some (b2 (pmc pm c)) := by
  unfold fX7_has pmc
  simp (disch := omega) only [gdI, gdT, Option.bind_some, lte, une2, une3, nI_add, gvI, cl_nI, c_le, c_lt, c_eq, Sum.elim_inl, Sum.elim_inr, hp.k19, hp.k20, hp.l20, hp.k21, hp.l21, hp.k22, hp.l22, hp.r19_0, hp.r19_1, hp.r19_2, i_24, c_div, c_remQ, hg (c / 24) (by omega), bit0, bt_mr]
  cases pm (c / 24) (c % 24) <;> rfl
theorem r_isMapped {m : Nat} {pm : Nat → Nat → Bool} {T : Sh} {M : Me} (hM : RM m T M) (hg : MP (m + 7) (mr pm) M) (z y : Int32) : fX12_isMapped T M m z y = some (b2 (pmI pm z.toInt y.toInt)) := by
  unfold fX12_isMapped pmI
  rw [within_I, within_I, Int32.toInt_toInt64, Int32.toInt_toInt64]
  have e0 : (0 : Int64).toInt = 0 := by decide
  have e1 : (23 : Int64).toInt = 23 := by decide
  have e2 : (15 : Int64).toInt = 15 := by decide
  rw [e0, e1, e2]
  simp only [Option.bind_some]
  by_cases h1 : 0 ≤ z.toInt ∧ z.toInt < 24
  · rw [decide_eq_true (show 0 ≤ z.toInt ∧ z.toInt ≤ 23 by omega), decide_eq_true h1, if_neg (by decide)]
    by_cases h2 : 0 ≤ y.toInt ∧ y.toInt < 16
    · rw [decide_eq_true (show 0 ≤ y.toInt ∧ y.toInt ≤ 15 by omega), decide_eq_true h2, if_neg (by decide)]
      obtain ⟨d, rfl⟩ : ∃ d, z = nI d := by
        obtain ⟨d, _, e⟩ := nI_of (x := z) (fun q => by have := (fa_lt _ _).mp q; have e : (0 : Int32).toInt = 0 := by decide
                                                        omega)
        exact ⟨d, e⟩
      obtain ⟨v, hv31, rfl⟩ : ∃ d, d < 2147483648 ∧ y = nI d := by
        obtain ⟨d, h, e⟩ := nI_of (x := y) (fun q => by have := (fa_lt _ _).mp q; have e : (0 : Int32).toInt = 0 := by decide
                                                        omega)
        exact ⟨d, h, e⟩
      obtain ⟨d', hd31, e⟩ : ∃ d', d' < 2147483648 ∧ nI d = nI d' := by
        obtain ⟨d', h, e⟩ := nI_of (x := nI d) (fun q => by have := (fa_lt _ _).mp q; have e : (0 : Int32).toInt = 0 := by decide
                                                            omega)
        exact ⟨d', h, e⟩
      rw [e] at h1 ⊢
      rw [nI_toInt (by omega)] at h1 h2
      rw [nI_toInt (by omega), nI_toInt (by omega)]
      simp (disch := omega) only [gdI, gdT, Option.bind_some, lte, une2, une3, nI_add, gvI, cl_nI, c_le, c_lt, c_eq, Sum.elim_inl, Sum.elim_inr, hM.k, hM.r7, hM.k7, hM.l7, hg v (by omega), isIn_at, bt_mr]
      simp only [Bool.true_and, Int.toNat_natCast]
      cases pm v d' <;> rfl
    · rw [decide_eq_false (show ¬ (0 ≤ y.toInt ∧ y.toInt ≤ 15) by omega), decide_eq_false h2, if_pos (b2_ne.mpr rfl)]; rfl
  · rw [decide_eq_false (show ¬ (0 ≤ z.toInt ∧ z.toInt ≤ 23) by omega), decide_eq_false h1, if_pos (b2_ne.mpr rfl)]; rfl
theorem r_mapped {m d v : Nat} {pm : Nat → Nat → Bool} {T : Sh} {M : Me} (hM : RM m T M) (hg : MP (m + 7) (mr pm) M) (hd : d < 24) (hv : v < 16) : fX12_isMapped T M m (nI d) (nI v) = some (b2 (pm v d)) := by
  rw [r_isMapped hM hg, nI_toInt (by omega), nI_toInt (by omega), pmI_n hd hv]
/-- the cell beside one -/
def bes (c : Nat) : Nat → Option Nat
  | 0 => if c % 24 = 0 then none else some (c - 1)
  | 1 => if c % 24 = 23 then none else some (c + 1)
  | 2 => if c < 24 then none else some (c - 24)
  | _ => if 360 ≤ c then none else some (c + 24)
theorem bes0 (c : Nat) : bes c 0 = if c % 24 = 0 then none else some (c - 1) := rfl
theorem bes1 (c : Nat) : bes c 1 = if c % 24 = 23 then none else some (c + 1) := rfl
theorem bes2 (c : Nat) : bes c 2 = if c < 24 then none else some (c - 24) := rfl
theorem bes3 (c : Nat) : bes c 3 = if 360 ≤ c then none else some (c + 24) := rfl
def iN : Option Nat → Int32
  | none => -1
  | some k => nI k
theorem s4 {s : Nat} (h : s < 4) : s = 0 ∨ s = 1 ∨ s = 2 ∨ s = 3 := by omega
theorem bes_b {c s k : Nat} (hc : c < 384) (hs : s < 4) (h : bes c s = some k) : k < 384 := by
  rcases s4 hs with z | z | z | z <;> subst z
  · rw [bes0] at h
    split at h
    · cases h
    · cases h; omega
  · rw [bes1] at h
    split at h
    · cases h
    · cases h; omega
  · rw [bes2] at h
    split at h
    · cases h
    · cases h; omega
  · rw [bes3] at h
    split at h
    · cases h
    · cases h; omega
theorem c_beside {c s : Nat} (hc : c < 384) (hs : s < 4) : fX7_beside (nI c) (nI s) = some (iN (bes c s)) := by
  unfold fX7_beside
  rw [i_24, c_rem (by omega) (by omega) (by omega)]
  rcases s4 hs with z | z | z | z <;> subst z
  · rw [bes0, if_pos (by decide)]
    by_cases h : c % 24 = 0
    · rw [if_pos (by rw [h]; rfl), if_pos h]; rfl
    · rw [if_neg (by rw [i_0, c_eq (by omega) (by omega)]; exact h), if_neg h, i_1, c_sub (by omega)]; rfl
  · rw [bes1, if_neg (by decide), if_pos (by decide)]
    by_cases h : c % 24 = 23
    · rw [if_pos (by rw [h]; rfl), if_pos h]; rfl
    · rw [if_neg (by rw [i_23, c_eq (by omega) (by omega)]; exact h), if_neg h, nI_1]; rfl
  · rw [bes2, if_neg (by decide), if_neg (by decide), if_pos (by decide), ite_le (by omega) (by omega)]
    by_cases h : c < 24
    · rw [if_neg (by omega), if_pos h]; rfl
    · rw [if_pos (by omega), if_neg h, c_sub (by omega)]; rfl
  · rw [bes3, if_neg (by decide), if_neg (by decide), if_neg (by decide), i_360, ite_lt (by omega) (by omega)]
    by_cases h : 360 ≤ c
    · rw [if_neg (by omega), if_pos h]; rfl
    · rw [if_pos (by omega), if_neg h, nI_add]; rfl
theorem r_stepTo {c s : Nat} (hc : c < 384) (hs : s < 4) : fX12_stepTo (nI c) (nI s) = some (iN (bes c s)) := by
  unfold fX12_stepTo
  rw [i_24, c_rem (by omega) (by omega) (by omega), lte]
  rcases s4 hs with z | z | z | z <;> subst z
  · rw [bes0, if_pos (by decide)]
    by_cases h : c % 24 = 0
    · rw [if_pos (by rw [h]; decide), if_pos h]; rfl
    · rw [if_neg (by rw [i_0, c_le (by omega) (by omega)]; omega), if_neg h, i_1, c_sub (by omega)]; rfl
  · rw [bes1, if_neg (by decide), if_pos (by decide), i_23, ite_le (by omega) (by omega)]
    by_cases h : c % 24 = 23
    · rw [if_pos (by omega), if_pos h]; rfl
    · rw [if_neg (by omega), if_neg h, nI_1]; rfl
  · rw [bes2, if_neg (by decide), if_neg (by decide), if_pos (by decide), ite_lt (by omega) (by omega)]
    by_cases h : c < 24
    · rw [if_pos h, if_pos h]; rfl
    · rw [if_neg h, if_neg h, c_sub (by omega)]; rfl
  · rw [bes3, if_neg (by decide), if_neg (by decide), if_neg (by decide), i_360, ite_le (by omega) (by omega)]
    by_cases h : 360 ≤ c
    · rw [if_pos h, if_pos h]; rfl
    · rw [if_neg h, if_neg h, nI_add]; rfl
theorem iN_m1 {k : Nat} (h : k < 2147483648) : ¬ iN (some k) = (-1 : Int32) := i_ne1 k h
/-- the k-th cell from one towards a side -/
def plc : Nat → Nat → Nat → Option Nat
  | 0, c, k => if k < c % 24 then some (c - 1 - k) else none
  | 1, c, k => if c % 24 + k < 23 then some (c + 1 + k) else none
  | 2, c, k => if k < c / 24 then some (c - 24 - 24 * k) else none
  | _, c, k => if c / 24 + k < 15 then some (c + 24 + 24 * k) else none
theorem plc0 (c k : Nat) : plc 0 c k = if k < c % 24 then some (c - 1 - k) else none := rfl
theorem plc1 (c k : Nat) : plc 1 c k = if c % 24 + k < 23 then some (c + 1 + k) else none := rfl
theorem plc2 (c k : Nat) : plc 2 c k = if k < c / 24 then some (c - 24 - 24 * k) else none := rfl
theorem plc3 (c k : Nat) : plc 3 c k = if c / 24 + k < 15 then some (c + 24 + 24 * k) else none := rfl
def mgq (pm : Nat → Nat → Bool) (s c k : Nat) : Bool := match plc s c k with
  | none => false
  | some e => pmc pm e
theorem mgq_n {pm : Nat → Nat → Bool} {s c k : Nat} (h : plc s c k = none) : mgq pm s c k = false := by unfold mgq; rw [h]
theorem mgq_s {pm : Nat → Nat → Bool} {s c k e : Nat} (h : plc s c k = some e) : mgq pm s c k = pmc pm e := by unfold mgq; rw [h]
theorem plc_0 {s c : Nat} (hc : c < 384) (hs : s < 4) : plc s c 0 = bes c s := by
  rcases s4 hs with z | z | z | z <;> subst z
  · rw [plc0, bes0]
    by_cases h : c % 24 = 0
    · rw [if_neg (by omega), if_pos h]
    · rw [if_pos (by omega), if_neg h] <;> rfl
  · rw [plc1, bes1]
    by_cases h : c % 24 = 23
    · rw [if_neg (by omega), if_pos h]
    · rw [if_pos (by omega), if_neg h] <;> rfl
  · rw [plc2, bes2]
    by_cases h : c < 24
    · rw [if_neg (by omega), if_pos h]
    · rw [if_pos (by omega), if_neg h] <;> rfl
  · rw [plc3, bes3]
    by_cases h : 360 ≤ c
    · rw [if_neg (by omega), if_pos h]
    · rw [if_pos (by omega), if_neg h] <;> rfl
theorem plc_s {s c k e : Nat} (hc : c < 384) (hs : s < 4) (h : plc s c k = some e) : e < 384 ∧ plc s c (k + 1) = bes e s := by
  rcases s4 hs with z | z | z | z <;> subst z
  · rw [plc0] at h
    rw [plc0, bes0]
    split at h
    · cases h
      refine ⟨by omega, ?_⟩
      by_cases q : (c - 1 - k) % 24 = 0
      · rw [if_neg (by omega), if_pos q]
      · rw [if_pos (by omega), if_neg q]
        exact congrArg some (by omega)
    · cases h
  · rw [plc1] at h
    rw [plc1, bes1]
    split at h
    · cases h
      refine ⟨by omega, ?_⟩
      by_cases q : (c + 1 + k) % 24 = 23
      · rw [if_neg (by omega), if_pos q]
      · rw [if_pos (by omega), if_neg q]; rfl
    · cases h
  · rw [plc2] at h
    rw [plc2, bes2]
    split at h
    · cases h
      refine ⟨by omega, ?_⟩
      by_cases q : c - 24 - 24 * k < 24
      · rw [if_neg (by omega), if_pos q]
      · rw [if_pos (by omega), if_neg q]
        exact congrArg some (by omega)
    · cases h
  · rw [plc3] at h
    rw [plc3, bes3]
    split at h
    · cases h
      refine ⟨by omega, ?_⟩
      by_cases q : 360 ≤ c + 24 + 24 * k
      · rw [if_neg (by omega), if_pos q]
      · rw [if_pos (by omega), if_neg q]
        exact congrArg some (by omega)
    · cases h
theorem plc_far {s c : Nat} (hc : c < 384) (hs : s < 4) : plc s c 23 = none := by
  rcases s4 hs with z | z | z | z <;> subst z
  · rw [plc0, if_neg (by omega)]
  · rw [plc1, if_neg (by omega)]
  · rw [plc2, if_neg (by omega)]
  · rw [plc3, if_neg (by omega)]
theorem c_marginOf {x c s : Nat} {pm : Nat → Nat → Bool} {T : Sh} {M : Me} (hp : PX x T M) (hg : MP (x + 20) (mr pm) M) (hc : c < 384) (hs : s < 4) : fX7_marginOf T M (x + 19) (nI c) (nI s) = some (nI (fa_first (fun k => !mgq pm s c k) 24)) := by
  have key : Ok (lp FU (fun t => bX7_marginOf_9 T M (x + 19) (nI s) t.1 t.2) ((0 : Int32), iN (bes c s))) (fun r => r = nI (fa_first (fun k => !mgq pm s c k) 24)) := by
    refine ok_forF 0 24 (fun i t => t = (nI i, iN (plc s c i)) ∧ ∀ j, j < i → mgq pm s c j = true) _ ⟨by rw [plc_0 hc hs]; rfl, fun j hj => absurd hj (by omega)⟩ (by omega) (by omega) (fun i t _ hi hI => ?_) (fun t hI => ?_)
    · obtain ⟨rfl, hn⟩ := hI
      have hn' : ∀ j, j < i → (!mgq pm s c j) = false := fun j hj => by rw [hn j hj]; rfl
      show Ok (bX7_marginOf_9 T M (x + 19) (nI s) (nI i) (iN (plc s c i))) _
      unfold bX7_marginOf_9
      rw [i_24, if_neg (by rw [c_le (by omega) (by omega)]; omega)]
      cases hpl : plc s c i with
      | none =>
        rw [if_pos (show iN none = (-1 : Int32) from rfl)]
        refine ok_i ?_
        show nI i = _
        rw [first_of hn' (by show (!mgq pm s c i) = true; rw [mgq_n hpl]; rfl) hi]
      | some e =>
        obtain ⟨he, hps⟩ := plc_s hc hs hpl
        have hm : mgq pm s c i = pmc pm e := mgq_s hpl
        rw [if_neg (iN_m1 (by omega)), hp.k19, gdI]
        show Ok (Option.bind (fX7_has T M (x + 19) (nI e)) _) _
        rw [c_has hp hg he]
        simp only [Option.bind_some]
        cases hb : pmc pm e
        · rw [if_pos (b2_ne.mpr rfl)]
          refine ok_i ?_
          show nI i = _
          rw [first_of hn' (by show (!mgq pm s c i) = true; rw [hm, hb]; rfl) hi]
        · rw [if_neg (fun z => absurd (b2_ne.mp z) (by decide))]
          show Ok (lt (nI i + 1) fun v7 => Option.bind (fX7_beside (nI e) (nI s)) fun r8 => some (Sum.inl (v7, r8))) _
          rw [lte, c_beside he hs, Option.bind_some, nI_1, ← hps]
          refine ok_i ⟨rfl, fun j hj => ?_⟩
          rcases Nat.lt_or_ge j i with q | q
          · exact hn j q
          · rw [show j = i by omega, hm]; exact hb
    · obtain ⟨rfl, hn⟩ := hI
      exfalso
      have := hn 23 (by omega)
      rw [mgq_n (plc_far hc hs)] at this
      exact absurd this (by decide)
  obtain ⟨r, e, rfl⟩ := key
  unfold fX7_marginOf
  rw [c_beside hc hs, Option.bind_some, e]; rfl
/-- as the reference counts -/
def sgz : Nat → Int
  | 0 => -1
  | 1 => 1
  | _ => 0
def sgy : Nat → Int
  | 2 => -1
  | 3 => 1
  | _ => 0
theorem mgq_I {pm : Nat → Nat → Bool} {s c k : Nat} (hc : c < 384) (hs : s < 4) : mgq pm s c k = pmI pm ((c % 24 : Nat) + ((k : Int) + 1) * sgz s) ((c / 24 : Nat) + ((k : Int) + 1) * sgy s) := by
  rcases s4 hs with z | z | z | z <;> subst z
  · have e1 : ((c % 24 : Nat) : Int) + ((k : Int) + 1) * sgz 0 = (c % 24 : Nat) - ((k : Int) + 1) := by show _ + ((k : Int) + 1) * -1 = _; omega
    have e2 : ((c / 24 : Nat) : Int) + ((k : Int) + 1) * sgy 0 = (c / 24 : Nat) := by show _ + ((k : Int) + 1) * 0 = _; omega
    rw [e1, e2]
    by_cases h : k < c % 24
    · rw [mgq_s (show plc 0 c k = some (c - 1 - k) from if_pos h), show ((c % 24 : Nat) : Int) - ((k : Int) + 1) = ((c % 24 - 1 - k : Nat) : Int) by omega, pmI_n (by omega) (by omega)]
      show pm ((c - 1 - k) / 24) ((c - 1 - k) % 24) = _
      rw [show (c - 1 - k) / 24 = c / 24 by omega, show (c - 1 - k) % 24 = c % 24 - 1 - k by omega]
    · rw [mgq_n (show plc 0 c k = none from if_neg h), pmI_out (by omega)]
  · have e1 : ((c % 24 : Nat) : Int) + ((k : Int) + 1) * sgz 1 = ((c % 24 + 1 + k : Nat) : Int) := by show _ + ((k : Int) + 1) * 1 = _; omega
    have e2 : ((c / 24 : Nat) : Int) + ((k : Int) + 1) * sgy 1 = (c / 24 : Nat) := by show _ + ((k : Int) + 1) * 0 = _; omega
    rw [e1, e2]
    by_cases h : c % 24 + k < 23
    · rw [mgq_s (show plc 1 c k = some (c + 1 + k) from if_pos h), pmI_n (by omega) (by omega)]
      show pm ((c + 1 + k) / 24) ((c + 1 + k) % 24) = _
      rw [show (c + 1 + k) / 24 = c / 24 by omega, show (c + 1 + k) % 24 = c % 24 + 1 + k by omega]
    · rw [mgq_n (show plc 1 c k = none from if_neg h), pmI_out (by omega)]
  · have e1 : ((c % 24 : Nat) : Int) + ((k : Int) + 1) * sgz 2 = (c % 24 : Nat) := by show _ + ((k : Int) + 1) * 0 = _; omega
    have e2 : ((c / 24 : Nat) : Int) + ((k : Int) + 1) * sgy 2 = (c / 24 : Nat) - ((k : Int) + 1) := by show _ + ((k : Int) + 1) * -1 = _; omega
    rw [e1, e2]
    by_cases h : k < c / 24
    · rw [mgq_s (show plc 2 c k = some (c - 24 - 24 * k) from if_pos h), show ((c / 24 : Nat) : Int) - ((k : Int) + 1) = ((c / 24 - 1 - k : Nat) : Int) by omega, pmI_n (by omega) (by omega)]
      show pm ((c - 24 - 24 * k) / 24) ((c - 24 - 24 * k) % 24) = _
      rw [show (c - 24 - 24 * k) / 24 = c / 24 - 1 - k by omega, show (c - 24 - 24 * k) % 24 = c % 24 by omega]
    · rw [mgq_n (show plc 2 c k = none from if_neg h), pmI_out (by omega)]
  · have e1 : ((c % 24 : Nat) : Int) + ((k : Int) + 1) * sgz 3 = (c % 24 : Nat) := by show _ + ((k : Int) + 1) * 0 = _; omega
    have e2 : ((c / 24 : Nat) : Int) + ((k : Int) + 1) * sgy 3 = ((c / 24 + 1 + k : Nat) : Int) := by show _ + ((k : Int) + 1) * 1 = _; omega
    rw [e1, e2]
    by_cases h : c / 24 + k < 15
    · rw [mgq_s (show plc 3 c k = some (c + 24 + 24 * k) from if_pos h), pmI_n (by omega) (by omega)]
      show pm ((c + 24 + 24 * k) / 24) ((c + 24 + 24 * k) % 24) = _
      rw [show (c + 24 + 24 * k) / 24 = c / 24 + 1 + k by omega, show (c + 24 + 24 * k) % 24 = c % 24 by omega]
    · rw [mgq_n (show plc 3 c k = none from if_neg h), pmI_out (by omega)]
theorem sgz3 {s : Nat} (hs : s < 4) : sgz s = -1 ∨ sgz s = 0 ∨ sgz s = 1 := by
  rcases s4 hs with z | z | z | z <;> subst z <;> decide
theorem sgy3 {s : Nat} (hs : s < 4) : sgy s = -1 ∨ sgy s = 0 ∨ sgy s = 1 := by
  rcases s4 hs with z | z | z | z <;> subst z <;> decide
theorem toI_small {a : Nat} {n : Nat} {s : Int32} {z : Int} (hs : s.toInt = z) (hz : z = -1 ∨ z = 0 ∨ z = 1) (ha : a < 1000) (hn : n < 1000) : (nI a + nI n * s).toInt = (a : Int) + (n : Int) * z := by
  have e : s = if z = -1 then (-1 : Int32) else if z = 0 then 0 else 1 := by
    rw [fa_eq, hs]
    rcases hz with h | h | h <;> subst h <;> decide
  rcases hz with h | h | h <;> subst h
  · rw [e, if_pos rfl, Int32.toInt_add, Int32.toInt_mul, nI_toInt (by omega), nI_toInt (by omega)]
    have e1 : (-1 : Int32).toInt = -1 := by decide
    rw [e1, Int.bmod_eq_of_le (n := (n : Int) * -1) (by omega) (by omega), Int.bmod_eq_of_le (by omega) (by omega)]
  · rw [e, if_neg (by decide), if_pos rfl, Int32.toInt_add, Int32.toInt_mul, nI_toInt (by omega), nI_toInt (by omega)]
    have e1 : (0 : Int32).toInt = 0 := by decide
    rw [e1, Int.bmod_eq_of_le (n := (n : Int) * 0) (by omega) (by omega), Int.bmod_eq_of_le (by omega) (by omega)]
  · rw [e, if_neg (by decide), if_neg (by decide), Int32.toInt_add, Int32.toInt_mul, nI_toInt (by omega), nI_toInt (by omega)]
    have e1 : (1 : Int32).toInt = 1 := by decide
    rw [e1, Int.bmod_eq_of_le (n := (n : Int) * 1) (by omega) (by omega), Int.bmod_eq_of_le (by omega) (by omega)]
theorem r_marginIn {m c s : Nat} {z y : Int32} {pm : Nat → Nat → Bool} {T : Sh} {M : Me} (hM : RM m T M) (hg : MP (m + 7) (mr pm) M) (hc : c < 384) (hs : s < 4) (hz : z.toInt = sgz s) (hy : y.toInt = sgy s) : jX12_margin_113 T M m (nI (c % 24)) (nI (c / 24)) z y = some (nI (fa_first (fun k => !mgq pm s c k) 24), M) := by
  have hz3 := sgz3 hs
  have hy3 := sgy3 hs
  have key : Ok (lp FU (fun t => bX12_margin_118 T M m (nI (c % 24)) (nI (c / 24)) z y t) (0 : Int32)) (fun r => r = nI (fa_first (fun k => !mgq pm s c k) 24)) := by
    refine ok_forF 0 24 (fun i t => t = nI i ∧ ∀ j, j < i → mgq pm s c j = true) _ ⟨rfl, fun j hj => absurd hj (by omega)⟩ (by omega) (by omega) (fun i t _ hi hI => ?_) (fun t hI => ?_)
    · obtain ⟨rfl, hn⟩ := hI
      have hn' : ∀ j, j < i → (!mgq pm s c j) = false := fun j hj => by rw [hn j hj]; rfl
      show Ok (bX12_margin_118 T M m (nI (c % 24)) (nI (c / 24)) z y (nI i)) _
      unfold bX12_margin_118
      rw [hM.k, gdI, nI_1, r_isMapped hM hg, toI_small hz hz3 (by omega) (by omega), toI_small hy hy3 (by omega) (by omega)]
      have e : pmI pm (((c % 24 : Nat) : Int) + ((i + 1 : Nat) : Int) * sgz s) (((c / 24 : Nat) : Int) + ((i + 1 : Nat) : Int) * sgy s) = mgq pm s c i := (mgq_I hc hs).symm
      rw [e]
      simp only [Option.bind_some, lte]
      cases hb : mgq pm s c i
      · rw [if_pos (b2_ne.mpr rfl)]
        refine ok_i ?_
        show nI i = _
        rw [first_of hn' (by show (!mgq pm s c i) = true; rw [hb]; rfl) hi]
      · rw [if_neg (fun z => absurd (b2_ne.mp z) (by decide))]
        refine ok_i ⟨rfl, fun j hj => ?_⟩
        rcases Nat.lt_or_ge j i with q | q
        · exact hn j q
        · rw [show j = i by omega]; exact hb
    · obtain ⟨rfl, hn⟩ := hI
      exfalso
      have := hn 23 (by omega)
      rw [mgq_n (plc_far hc hs)] at this
      exact absurd this (by decide)
  obtain ⟨r, e, rfl⟩ := key
  unfold jX12_margin_113
  rw [e]; rfl
section
variable {x m : Nat} {A : Nat → Int32} {T : Sh} {M M2 : Me}
theorem q_margin (hL : LV A) (hS : SV A) (a b : Int32) : QQ x m A (fun T M => fX11_margin T M x a b) (fun T M => fX12_margin T M m a b) := by
  have h6 := hL.b3
  rcases ix_I a (nlA A) (by omega) with ⟨l, hl, rfl⟩ | hn
  · rcases ix_I b 4 (by omega) with ⟨s, hs, rfl⟩ | hn
    · have hpt := hS.ptb (l := l) (by omega)
      refine ⟨if pip A l = true then nI (fa_first (fun k => !mgq (psd A (qA A) (eA A) l) s (ptA A l) k) 24) else -5, fun T M h => ?_, fun T M h => ?_⟩
      · show Ok (fX11_margin T M x (nI l) (nI s)) _
        unfold fX11_margin
        rw [c_lane1 h hl, h.px.k0, gdI, Option.bind_some, if_pos rfl, i_4, rng1 (by omega) hs]
        refine Ok.bd (c_passesInPoint h hl) (fun p hq => ?_)
        obtain ⟨p1, M1⟩ := p
        obtain ⟨rfl, f1, h1⟩ := hq
        rw [une2]
        cases hpip : pip A l
        · rw [if_pos (b2_ne.mpr rfl), if_neg (by decide)]
          exact ok_i ⟨rfl, f1.gf, h1⟩
        rw [if_neg (fun z => absurd (b2_ne.mp z) (by decide)), if_pos rfl]
        refine Ok.bd (c_look h1 hl) (fun p hq => ?_)
        obtain ⟨p1, M2⟩ := p
        obtain ⟨m2, f2, h2⟩ := hq
        have hp2 := h2.px
        simp (disch := omega) only [gdI, gdT, Option.bind_some, lte, une2, une3, nI_add, gvI, cl_nI, c_le, c_lt, c_eq, Sum.elim_inl, Sum.elim_inr, hp2.k0, hp2.k19, hp2.k20, hp2.l20, hp2.k21, hp2.l21, hp2.k22, hp2.l22, hp2.k25, hp2.k26, hp2.l26, hp2.r0_0, hp2.r0_2, hp2.r0_3, hp2.r0_4, hp2.r0_5, hp2.r0_6, hp2.r0_7, hp2.r0_9, hp2.r0_10, hp2.r0_13, hp2.r19_0, hp2.r19_1, hp2.r19_2, hp2.r25_0, h2.pt (l := l) (by omega), hS.pt (l := l) (by omega)]
        rw [c_marginOf hp2 (pm := psd A (qA A) (eA A) l) m2 hpt hs]
        exact ok_i ⟨rfl, f1.gf.trans f2.gf, h2⟩
      · have h0 := h.t0 (v := 0)
        show Ok (fX12_margin T M m (nI l) (nI s)) _
        unfold fX12_margin
        rw [h0.rm.k, gdI, lte, r_lane1 h0 hl, Option.bind_some, if_neg (by decide), L_0, L_3, r_in1 (by omega) (by omega) (by omega), Option.bind_some, if_neg (by decide)]
        refine Ok.bd (r_laysMapNow h0 hl) (fun p hq => ?_)
        obtain ⟨p1, M1⟩ := p
        obtain ⟨m1, f1, h1, d1⟩ := hq
        have hM1 := h1.rm
        have fin : QF m M M1 := ((r_t0.wide (fun _ _ => nf_mf)).trans f1).qf (fun _ _ => mf_qf)
        simp (disch := omega) only [gdI, gdT, Option.bind_some, lte, une2, une3, nI_add, gvI, cl_nI, c_le, c_lt, c_eq, Sum.elim_inl, Sum.elim_inr, hM1.k, hM1.r1, hM1.k1, hM1.l1, i_42, i_24, h1.al, hS.pt (l := l) (by omega), c_div, c_remQ]
        rw [r_mapped hM1 (pm := psd A (qA A) (eA A) l) m1 (by omega) (by omega)]
        simp only [Option.bind_some]
        rw [show psd A (qA A) (eA A) l (ptA A l / 24) (ptA A l % 24) = pip A l from rfl]
        cases hpip : pip A l
        · rw [if_pos (b2_ne.mpr rfl), if_neg (by decide)]
          exact ok_i ⟨rfl, fin⟩
        rw [if_neg (fun z => absurd (b2_ne.mp z) (by decide)), if_pos rfl]
        have hin : ∀ (z y : Int32), z.toInt = sgz s → y.toInt = sgy s → Ok (jX12_margin_113 T M1 m (nI (ptA A l % 24)) (nI (ptA A l / 24)) z y) (fun p => p.1 = nI (fa_first (fun k => !mgq (psd A (qA A) (eA A) l) s (ptA A l) k) 24) ∧ QF m M p.2) := fun z y hz hy => by
          rw [r_marginIn hM1 (pm := psd A (qA A) (eA A) l) m1 hpt hs hz hy]
          exact ok_i ⟨rfl, fin⟩
        unfold jX12_margin_92
        rcases (by omega : s = 0 ∨ s = 1 ∨ s = 2 ∨ s = 3) with z | z | z | z <;> subst z
        · rw [if_pos (by decide), if_neg (by decide), if_neg (by decide)]; exact hin _ _ (by decide) (by decide)
        · rw [if_neg (by decide), if_pos (by decide), if_neg (by decide), if_neg (by decide)]; exact hin _ _ (by decide) (by decide)
        · rw [if_neg (by decide), if_neg (by decide), if_pos (by decide)]; exact hin _ _ (by decide) (by decide)
        · rw [if_neg (by decide), if_neg (by decide), if_neg (by decide), if_pos (by decide)]; exact hin _ _ (by decide) (by decide)
    · refine ⟨-2, fun T M h => ?_, fun T M h => ?_⟩
      · show Ok (fX11_margin T M x (nI l) b) _
        unfold fX11_margin
        rw [c_lane1 h hl, h.px.k0, gdI, Option.bind_some, if_pos rfl, i_4, rng0 (by omega) hn]
        exact ok_i ⟨rfl, GF.rfl, h⟩
      · have h0 := h.t0 (v := 0)
        show Ok (fX12_margin T M m (nI l) b) _
        unfold fX12_margin
        rw [h0.rm.k, gdI, lte, r_lane1 h0 hl, Option.bind_some, if_neg (by decide), L_0, L_3, r_in0 (by omega) (by omega) (by omega), Option.bind_some, if_pos rfl]
        exact ok_i ⟨rfl, r_t0.qf (fun _ _ => nf_qf)⟩
  · refine ⟨-2, fun T M h => ?_, fun T M h => ?_⟩
    · show Ok (fX11_margin T M x a b) _
      unfold fX11_margin
      rw [c_lane0 h hn, h.px.k0, gdI, Option.bind_some, if_neg (by decide)]
      exact ok_i ⟨rfl, GF.rfl, h⟩
    · have h0 := h.t0 (v := 0)
      show Ok (fX12_margin T M m a b) _
      unfold fX12_margin
      rw [h0.rm.k, gdI, lte, r_lane0 h0 hn, Option.bind_some, if_pos rfl]
      exact ok_i ⟨rfl, r_t0.qf (fun _ _ => nf_qf)⟩
end
