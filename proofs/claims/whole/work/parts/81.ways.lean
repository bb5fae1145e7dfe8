/-! in how many ways -/
def wp (c : Nat) : Nat := (c / 24 + 1) * 26 + c % 24 + 1
theorem wp_b {c : Nat} (hc : c < 384) : wp c < 468 ∧ ¬ brd (wp c) := by unfold wp brd; omega
theorem wp_i {c d : Nat} (h : wp c = wp d) : c = d := by unfold wp at h; omega
def nbv (W : Nat → Int64) (c s : Nat) : Int64 := match bes c s with
  | none => 0
  | some n => W n
theorem nbv_n {W : Nat → Int64} {c s : Nat} (h : bes c s = none) : nbv W c s = 0 := by unfold nbv; rw [h]
theorem nbv_s {W : Nat → Int64} {c s n : Nat} (h : bes c s = some n) : nbv W c s = W n := by unfold nbv; rw [h]
def wst (W : Nat → Int64) (c : Nat) : Int64 := nbv W c 0 + nbv W c 1 + nbv W c 2 + nbv W c 3
def wit (c0 : Nat) : Nat → Nat → Int64
  | 0, c => if c = c0 then 1 else 0
  | n + 1, c => wst (wit c0 n) c
def wsm (pc : Nat → Bool) (W : Nat → Int64) : Nat → Int64
  | 0 => 0
  | c + 1 => wsm pc W c + (if pc c = true then W c else 0)
theorem c_walkPlace {c : Nat} (hc : c < 384) : fX7_walkPlace (nI c) = some (nI (wp c)) := by
  unfold fX7_walkPlace wp
  rw [i_24, c_div (by omega) (by omega) (by omega), c_remQ (by omega) (by omega) (by omega), nI_1, i_26, c_mul, nI_add, nI_1]
/-- the walks of the class -/
def CW (x s : Nat) (W : Nat → Int64) (M : Me) : Prop := (s ≤ 1 ∧ gR M (x + 19) 3 = some (x + 23 + s) ∧ gR M (x + 19) 4 = some (x + 24 - s)) ∧ (∀ k, k < 468 → brd k → gJ M (x + 23) k = 0 ∧ gJ M (x + 24) k = 0) ∧ ∀ c, c < 384 → gJ M (x + 23 + s) (wp c) = W c
def WJ (x : Nat) (M M2 : Me) : Prop := (∀ a k, gI M2 a k = gI M a k) ∧ (∀ a k, a ≠ x + 23 → a ≠ x + 24 → gJ M2 a k = gJ M a k) ∧ ∀ a k, ¬ (a = x + 19 ∧ (k = 3 ∨ k = 4)) → gR M2 a k = gR M a k
theorem WJ.rfl {x : Nat} {M : Me} : WJ x M M := ⟨fun _ _ => Eq.refl _, fun _ _ _ _ => Eq.refl _, fun _ _ _ => Eq.refl _⟩
theorem WJ.trans {x : Nat} {M M1 M2 : Me} (h : WJ x M M1) (h2 : WJ x M1 M2) : WJ x M M2 := ⟨fun a k => (h2.1 a k).trans (h.1 a k), fun a k p q => (h2.2.1 a k p q).trans (h.2.1 a k p q), fun a k p => (h2.2.2 a k p).trans (h.2.2 a k p)⟩
theorem WJ.hf {x : Nat} {M M2 : Me} (h : WJ x M M2) : HF x M M2 := ⟨fun a k _ _ => h.1 a k, h.2.1, fun a k _ q => h.2.2 a k q⟩
theorem WJ.px {x : Nat} {T : Sh} {M M2 : Me} (h : WJ x M M2) (hp : PX x T M) : PX x T M2 := hp.fr (fun i hi => h.2.2 _ _ (by have := (xO_x i hi).2; omega))
theorem WJ.mp {x : Nat} {g : Nat → Int32} {M M2 : Me} (h : WJ x M M2) (hp : MP (x + 20) g M) : MP (x + 20) g M2 := fun v hv => (h.1 _ _).trans (hp v hv)
theorem CW.at {x s : Nat} {W : Nat → Int64} {M : Me} (h : CW x s W M) {c : Nat} (hc : c < 384) : gJ M (x + 23 + s) (wp c - 1) = nbv W c 0 ∧ gJ M (x + 23 + s) (wp c + 1) = nbv W c 1 ∧ gJ M (x + 23 + s) (wp c - 26) = nbv W c 2 ∧ gJ M (x + 23 + s) (wp c + 26) = nbv W c 3 := by
  obtain ⟨⟨hs, _, _⟩, hz, hw⟩ := h
  have hz' : ∀ k, k < 468 → brd k → gJ M (x + 23 + s) k = 0 := fun k hk hb => by
    rcases (by omega : s = 0 ∨ s = 1) with q | q <;> subst q
    · exact (hz k hk hb).1
    · exact (hz k hk hb).2
  refine ⟨?_, ?_, ?_, ?_⟩
  · by_cases q : c % 24 = 0
    · rw [nbv_n (by rw [bes0, if_pos q])]; exact hz' _ (by unfold wp; omega) (by unfold wp brd; omega)
    · rw [nbv_s (show bes c 0 = some (c - 1) by rw [bes0, if_neg q]), show wp c - 1 = wp (c - 1) by unfold wp; omega]; exact hw _ (by omega)
  · by_cases q : c % 24 = 23
    · rw [nbv_n (by rw [bes1, if_pos q])]; exact hz' _ (by unfold wp; omega) (by unfold wp brd; omega)
    · rw [nbv_s (show bes c 1 = some (c + 1) by rw [bes1, if_neg q]), show wp c + 1 = wp (c + 1) by unfold wp; omega]; exact hw _ (by omega)
  · by_cases q : c < 24
    · rw [nbv_n (by rw [bes2, if_pos q])]; exact hz' _ (by unfold wp; omega) (by unfold wp brd; omega)
    · rw [nbv_s (show bes c 2 = some (c - 24) by rw [bes2, if_neg q]), show wp c - 26 = wp (c - 24) by unfold wp; omega]; exact hw _ (by omega)
  · by_cases q : 360 ≤ c
    · rw [nbv_n (by rw [bes3, if_pos q])]; exact hz' _ (by unfold wp; omega) (by unfold wp brd; omega)
    · rw [nbv_s (show bes c 3 = some (c + 24) by rw [bes3, if_neg q]), show wp c + 26 = wp (c + 24) by unfold wp; omega]; exact hw _ (by omega)
theorem mJJk {M : Me} {a k b j : Nat} {v : Int64} (h : j ≠ k) : gJ (pJ M a k v) b j = gJ M b j := if_neg (fun q => h q.2)
theorem mRRn {M : Me} {a k b j : Nat} {v : Option Nat} (h : ¬ (b = a ∧ j = k)) : gR (pR M a k v) b j = gR M b j := if_neg h
theorem mRR1 {M : Me} {a k : Nat} {v : Option Nat} : gR (pR M a k v) a k = v := if_pos ⟨rfl, rfl⟩
theorem PX.j {x s : Nat} {T : Sh} {M : Me} (h : PX x T M) (hs : s ≤ 1) : kd T (x + 23 + s) = 14 ∧ ln T (x + 23 + s) = 468 := by
  rcases (by omega : s = 0 ∨ s = 1) with q | q <;> subst q
  · exact ⟨h.k23, h.l23⟩
  · exact ⟨h.k24, h.l24⟩
theorem PX.j2 {x s : Nat} {T : Sh} {M : Me} (h : PX x T M) (hs : s ≤ 1) : kd T (x + 24 - s) = 14 ∧ ln T (x + 24 - s) = 468 := by
  rcases (by omega : s = 0 ∨ s = 1) with q | q <;> subst q
  · exact ⟨h.k24, h.l24⟩
  · exact ⟨h.k23, h.l23⟩
theorem c_stepAll {x s : Nat} {W : Nat → Int64} {T : Sh} {M : Me} (hp : PX x T M) (hw : CW x s W M) : Ok (fX7_stepAll T M (x + 19)) (fun p => CW x (1 - s) (wst W) p.2 ∧ WJ x M p.2) := by
  obtain ⟨⟨hs, hr3, hr4⟩, hz, hv⟩ := hw
  have key : Ok (lp FU (fun s => bX7_stepAll_2 T (x + 19) s.1 s.2) ((0 : Int32), M)) (fun M' => (∀ c, c < 384 → gJ M' (x + 24 - s) (wp c) = wst W c) ∧ CW x s W M' ∧ WJ x M M') := by
    refine ok_forF 0 384 (fun i t => ∃ M', t = (nI i, M') ∧ (∀ c, c < i → gJ M' (x + 24 - s) (wp c) = wst W c) ∧ CW x s W M' ∧ WJ x M M') _ ⟨M, rfl, fun c hc => absurd hc (by omega), ⟨⟨hs, hr3, hr4⟩, hz, hv⟩, WJ.rfl⟩ (by omega) (by omega) (fun i t _ hi hI => ?_) (fun t hI => ?_)
    · obtain ⟨M', rfl, hm, hc, f⟩ := hI
      have hp' := f.px hp
      obtain ⟨j1, j2⟩ := hp'.j hs
      obtain ⟨j3, j4⟩ := hp'.j2 hs
      obtain ⟨w1, w2⟩ := wp_b hi
      obtain ⟨a1, a2, a3, a4⟩ := hc.at hi
      have w26 : 27 ≤ wp i ∧ wp i + 26 < 468 := by unfold wp; omega
      show Ok (bX7_stepAll_2 T (x + 19) (nI i) M') _
      unfold bX7_stepAll_2
      rw [i_384, if_neg (by rw [c_le (by omega) (by omega)]; omega), c_walkPlace hi, Option.bind_some, i_1, c_sub (by omega), i_26, c_sub (by omega)]
      simp (disch := omega) only [gdI, gdT, Option.bind_some, lte, une2, une3, nI_add, gvI, cl_nI, c_le, c_lt, c_eq, Sum.elim_inl, Sum.elim_inr, hp'.k19, hc.1.2.1, hc.1.2.2, j1, j2, j3, j4, a1, a2, a3, a4]
      refine ok_i ⟨_, rfl, fun c hcc => ?_, ⟨hc.1, fun k hk hb => ?_, fun c hcc => ?_⟩, f.trans ⟨fun _ _ => rfl, fun a k q1 q2 => mJJn (by omega), fun _ _ _ => rfl⟩⟩
      · by_cases q : c = i
        · rw [q, mJJ1]; rfl
        · rw [mJJk (fun z => q (wp_i z))]; exact hm c (by omega)
      · have hk' : k ≠ wp i := fun z => w2 (z ▸ hb)
        rw [mJJk hk', mJJk hk']; exact hc.2.1 k hk hb
      · rw [mJJn (by omega)]; exact hc.2.2 c hcc
    · obtain ⟨M', rfl, hm, hc, f⟩ := hI
      show Ok (bX7_stepAll_2 T (x + 19) (nI 384) M') _
      unfold bX7_stepAll_2
      rw [i_384, if_pos (by decide)]
      exact ok_i ⟨hm, hc, f⟩
  unfold fX7_stepAll
  refine Ok.bd key (fun M1 hq => ?_)
  obtain ⟨hm, hc, f⟩ := hq
  have hp1 := f.px hp
  simp (disch := omega) only [gdI, gdT, Option.bind_some, lte, une2, une3, nI_add, gvI, cl_nI, c_le, c_lt, c_eq, Sum.elim_inl, Sum.elim_inr, hp1.k19, hc.1.2.1, hc.1.2.2]
  refine ok_i ⟨⟨⟨by omega, ?_, ?_⟩, hc.2.1, fun c hcc => ?_⟩, f.trans ⟨fun _ _ => rfl, fun _ _ _ _ => rfl, fun a k q => ?_⟩⟩
  · rw [mRRn (by omega), mRR1, show x + 23 + (1 - s) = x + 24 - s by omega]
  · rw [mRR1, show x + 24 - (1 - s) = x + 23 + s by omega]
  · rw [show x + 23 + (1 - s) = x + 24 - s by omega]; exact hm c hcc
  · rw [mRRn (by omega), mRRn (by omega)]
theorem c_countWays {x c n : Nat} {pm : Nat → Nat → Bool} {T : Sh} {M : Me} (hp : PX x T M) (hg : MP (x + 20) (mr pm) M) (hw : SW x M) (hc : c < 384) (hn : n ≤ 20) : Ok (fX7_countWays T M (x + 19) (nI c) (nI n)) (fun p => p.1 = wsm (pmc pm) (wit c n) 384 ∧ WJ x M p.2 ∧ SW x p.2) := by
  obtain ⟨hw1, ⟨s, hs, hr3, hr4⟩, hz⟩ := hw
  obtain ⟨j1, j2⟩ := hp.j hs
  obtain ⟨w1, w2⟩ := wp_b hc
  unfold fX7_countWays
  rw [hp.k19, gdI, hr3, Option.bind_some, fillJ_eq j1 j2 (by omega), Option.bind_some, une2]
  have f0 : WJ x M (pB M (x + 23 + s) (fun k => if k < 468 then 0 else gJ M (x + 23 + s) k)) := ⟨fun _ _ => rfl, fun a k q1 q2 => mJBn (by omega), fun _ _ _ => rfl⟩
  have e3 : gR (pB M (x + 23 + s) (fun k => if k < 468 then 0 else gJ M (x + 23 + s) k)) (x + 19) 3 = some (x + 23 + s) := hr3
  rw [e3, Option.bind_some, c_walkPlace hc, Option.bind_some, j1, gdI, j2, gvI w1 (by omega), cl_nI (by omega), lte, L_1]
  have hz0 : ∀ k, k < 468 → brd k → gJ (pJ (pB M (x + 23 + s) (fun k => if k < 468 then 0 else gJ M (x + 23 + s) k)) (x + 23 + s) (wp c) (lN 1)) (x + 23) k = 0 ∧ gJ (pJ (pB M (x + 23 + s) (fun k => if k < 468 then 0 else gJ M (x + 23 + s) k)) (x + 23 + s) (wp c) (lN 1)) (x + 24) k = 0 := fun k hk hb => by
    have hk' : k ≠ wp c := fun z => w2 (z ▸ hb)
    rw [mJJk hk', mJJk hk']
    have hz1 := hz k hk hb
    rcases (by omega : s = 0 ∨ s = 1) with q | q <;> subst q
    · rw [show x + 23 + 0 = x + 23 from rfl, mJB1, mJBn (by omega), if_pos hk]; exact ⟨rfl, hz1.2⟩
    · rw [mJBn (by omega), show x + 23 + 1 = x + 24 from rfl, mJB1, if_pos hk]; exact ⟨hz1.1, rfl⟩
  have c0 : CW x s (wit c 0) (pJ (pB M (x + 23 + s) (fun k => if k < 468 then 0 else gJ M (x + 23 + s) k)) (x + 23 + s) (wp c) (lN 1)) := by
    refine ⟨⟨hs, hr3, hr4⟩, hz0, fun d hd => ?_⟩
    show _ = if d = c then (1 : Int64) else 0
    by_cases q : d = c
    · rw [q, mJJ1, if_pos rfl]; rfl
    · rw [mJJk (fun z => q (wp_i z)), mJB1, if_pos (wp_b hd).1, if_neg q]
  generalize hM0 : pJ (pB M (x + 23 + s) (fun k => if k < 468 then 0 else gJ M (x + 23 + s) k)) (x + 23 + s) (wp c) (lN 1) = M0 at *
  have f1 : WJ x M M0 := f0.trans (by rw [← hM0]; exact ⟨fun _ _ => rfl, fun a k q1 q2 => mJJn (by omega), fun _ _ _ => rfl⟩)
  refine Ok.bd (ok_forF (s := ((0 : Int32), M0)) 0 n (fun i t => ∃ M' s', t = (nI i, M') ∧ CW x s' (wit c i) M' ∧ WJ x M M') (fun M' => ∃ s', CW x s' (wit c n) M' ∧ WJ x M M') ⟨M0, s, rfl, c0, f1⟩ (by omega) (by omega) (fun i t _ hi hI => ?_) (fun t hI => ?_)) (fun M1 hq => ?_)
  · obtain ⟨M', s', rfl, hcw, f⟩ := hI
    show Ok (bX7_countWays_20 T (x + 19) (nI n) (nI i) M') _
    unfold bX7_countWays_20
    rw [if_neg (by rw [c_le (by omega) (by omega)]; omega), hp.k19, gdI]
    refine Ok.bd (c_stepAll (f.px hp) hcw) (fun p hq => ?_)
    obtain ⟨p1, M2⟩ := p
    obtain ⟨g1, g2⟩ := hq
    rw [une2, lte, nI_1]
    exact ok_i ⟨M2, 1 - s', rfl, g1, f.trans g2⟩
  · obtain ⟨M', s', rfl, hcw, f⟩ := hI
    show Ok (bX7_countWays_20 T (x + 19) (nI n) (nI n) M') _
    unfold bX7_countWays_20
    rw [if_pos (by rw [c_le (by omega) (by omega)]; omega)]
    exact ok_i ⟨s', hcw, f⟩
  obtain ⟨s1, hcw, f⟩ := hq
  have hp1 := f.px hp
  have hg1 := f.mp hg
  obtain ⟨i1, i2⟩ := hp1.j hcw.1.1
  have key : lp FU (fun s => bX7_countWays_40 T M1 (x + 19) s.1 s.2) ((0 : Int64), (0 : Int32)) = some (wsm (pmc pm) (wit c n) 384) := by
    refine lp_itG (fun i => (wsm (pmc pm) (wit c n) i, nI i)) 384 _ rfl (by omega) (fun i hi => ?_) ?_
    · obtain ⟨v1, v2⟩ := wp_b hi
      show bX7_countWays_40 T M1 (x + 19) (wsm (pmc pm) (wit c n) i) (nI i) = _
      unfold bX7_countWays_40
      rw [i_384, if_neg (by rw [c_le (by omega) (by omega)]; omega), c_has hp1 hg1 hi, c_walkPlace hi]
      simp (disch := omega) only [gdI, gdT, Option.bind_some, lte, une2, une3, nI_add, gvI, cl_nI, c_le, c_lt, c_eq, Sum.elim_inl, Sum.elim_inr, hp1.k19, hcw.1.2.1, i1, i2, nI_1, hcw.2.2 i hi]
      rw [wsm]
      cases hb : pmc pm i
      · rw [if_pos (b2_ne.mpr rfl), if_neg (by decide)]
      · rw [if_neg (fun z => absurd (b2_ne.mp z) (by decide)), if_pos rfl]
    · show bX7_countWays_40 T M1 (x + 19) _ (nI 384) = _
      unfold bX7_countWays_40
      rw [i_384, if_pos (by decide)]
  rw [key, Option.bind_some]
  refine ok_i ⟨rfl, f, ?_, ⟨s1, hcw.1.1, hcw.1.2.1, hcw.1.2.2⟩, hcw.2.1⟩
  obtain ⟨t1, t2, t3, t4⟩ := hw1
  exact ⟨t1, t2, (f.2.2 _ _ (by omega)).trans t3, (f.2.2 _ _ (by omega)).trans t4⟩
/-! the reference adds up -/
def opp : Nat → Nat
  | 0 => 1
  | 1 => 0
  | 2 => 3
  | _ => 2
theorem bes_opp {c s n : Nat} (hc : c < 384) (hs : s < 4) (h : bes c s = some n) : bes n (opp s) = some c := by
  rcases s4 hs with z | z | z | z <;> subst z
  · rw [bes0] at h
    split at h
    · cases h
    · cases h
      show bes (c - 1) 1 = _
      rw [bes1, if_neg (by omega), show c - 1 + 1 = c by omega]
  · rw [bes1] at h
    split at h
    · cases h
    · cases h
      show bes (c + 1) 0 = _
      rw [bes0, if_neg (by omega)]; rfl
  · rw [bes2] at h
    split at h
    · cases h
    · cases h
      show bes (c - 24) 3 = _
      rw [bes3, if_neg (by omega), show c - 24 + 24 = c by omega]
  · rw [bes3] at h
    split at h
    · cases h
    · cases h
      show bes (c + 24) 2 = _
      rw [bes2, if_neg (by omega), show c + 24 - 24 = c by omega]
theorem opp_4 {s : Nat} (h : s < 4) : opp s < 4 ∧ opp (opp s) = s := by
  rcases s4 h with z | z | z | z <;> subst z <;> decide
def tmv (W : Nat → Int64) (k s c j : Nat) : Int64 := match bes c j with
  | none => 0
  | some n => if n < k ∨ n = k ∧ opp j < s then W n else 0
theorem tmv_n {W : Nat → Int64} {k s c j : Nat} (h : bes c j = none) : tmv W k s c j = 0 := by unfold tmv; rw [h]
theorem tmv_s {W : Nat → Int64} {k s c j n : Nat} (h : bes c j = some n) : tmv W k s c j = if n < k ∨ n = k ∧ opp j < s then W n else 0 := by unfold tmv; rw [h]
def TMw (W : Nat → Int64) (k s c : Nat) : Int64 := tmv W k s c 0 + tmv W k s c 1 + tmv W k s c 2 + tmv W k s c 3
theorem tmv_cong {W : Nat → Int64} {k s k2 s2 c j : Nat} (h : ∀ n, bes c j = some n → ((n < k ∨ n = k ∧ opp j < s) ↔ (n < k2 ∨ n = k2 ∧ opp j < s2))) : tmv W k s c j = tmv W k2 s2 c j := by
  cases hb : bes c j with
  | none => rw [tmv_n hb, tmv_n hb]
  | some n =>
    rw [tmv_s hb, tmv_s hb]
    by_cases q : n < k ∨ n = k ∧ opp j < s
    · rw [if_pos q, if_pos ((h n hb).mp q)]
    · rw [if_neg q, if_neg (fun z => q ((h n hb).mpr z))]
theorem TM_0 {W : Nat → Int64} {c : Nat} : TMw W 0 0 c = 0 := by
  have e : ∀ j, tmv W 0 0 c j = 0 := fun j => by
    cases hb : bes c j with
    | none => rw [tmv_n hb]
    | some n => rw [tmv_s hb, if_neg (by omega)]
  unfold TMw
  rw [e, e, e, e]; rfl
theorem TM_all {W : Nat → Int64} {c : Nat} (hc : c < 384) : TMw W 384 0 c = wst W c := by
  have e : ∀ j, j < 4 → tmv W 384 0 c j = nbv W c j := fun j hj => by
    cases hb : bes c j with
    | none => rw [tmv_n hb, nbv_n hb]
    | some n => rw [tmv_s hb, nbv_s hb, if_pos (Or.inl (bes_b hc hj hb))]
  unfold TMw wst
  rw [e 0 (by omega), e 1 (by omega), e 2 (by omega), e 3 (by omega)]
theorem TM_row {W : Nat → Int64} {k c : Nat} : TMw W k 4 c = TMw W (k + 1) 0 c := by
  have e : ∀ j, j < 4 → tmv W k 4 c j = tmv W (k + 1) 0 c j := fun j hj => tmv_cong (fun n _ => by have := (opp_4 hj).1; omega)
  unfold TMw
  rw [e 0 (by omega), e 1 (by omega), e 2 (by omega), e 3 (by omega)]
theorem TM_skip {W : Nat → Int64} {k s c : Nat} (hk : k < 384) (hs : s < 4) (hc : c < 384) (h : bes k s ≠ some c) : TMw W k (s + 1) c = TMw W k s c := by
  have e : ∀ j, j < 4 → tmv W k (s + 1) c j = tmv W k s c j := fun j hj => tmv_cong (fun n hn => by
    have h1 := (opp_4 hj).1
    have h2 := bes_opp hc hj hn
    have h3 : n = k → opp j ≠ s := fun z1 z2 => h (by rw [← z1, ← z2]; exact h2)
    by_cases q : n = k
    · have := h3 q; omega
    · omega)
  unfold TMw
  rw [e 0 (by omega), e 1 (by omega), e 2 (by omega), e 3 (by omega)]
theorem TM_put {W : Nat → Int64} {k s c : Nat} (hk : k < 384) (hs : s < 4) (h : bes k s = some c) : TMw W k (s + 1) c = TMw W k s c + W k := by
  have hc := bes_b hk hs h
  have hb := bes_opp hk hs h
  have h4 := opp_4 hs
  have e : ∀ j, j < 4 → j ≠ opp s → tmv W k (s + 1) c j = tmv W k s c j := fun j hj hne => tmv_cong (fun n hn => by
    have h2 := bes_opp hc hj hn
    have h5 := opp_4 hj
    have h3 : opp j ≠ s := fun z => hne (by rw [← z, h5.2])
    omega)
  have e0 : tmv W k s c (opp s) = 0 := by rw [tmv_s hb, if_neg (by rw [h4.2]; omega)]
  have e1 : tmv W k (s + 1) c (opp s) = W k := by rw [tmv_s hb, if_pos (by rw [h4.2]; omega)]
  unfold TMw
  rcases s4 hs with z | z | z | z <;> subst z
  · have e0 : tmv W k 0 c 1 = 0 := e0
    have e1 : tmv W k (0 + 1) c 1 = W k := e1
    rw [e 0 (by omega) (by decide), e 2 (by omega) (by decide), e 3 (by omega) (by decide), e0, e1, Int64.add_zero]
    ac_rfl
  · have e0 : tmv W k 1 c 0 = 0 := e0
    have e1 : tmv W k (1 + 1) c 0 = W k := e1
    rw [e 1 (by omega) (by decide), e 2 (by omega) (by decide), e 3 (by omega) (by decide), e0, e1, Int64.zero_add]
    ac_rfl
  · have e0 : tmv W k 2 c 3 = 0 := e0
    have e1 : tmv W k (2 + 1) c 3 = W k := e1
    rw [e 0 (by omega) (by decide), e 1 (by omega) (by decide), e 2 (by omega) (by decide), e0, e1, Int64.add_zero]
  · have e0 : tmv W k 3 c 2 = 0 := e0
    have e1 : tmv W k (3 + 1) c 2 = W k := e1
    rw [e 0 (by omega) (by decide), e 1 (by omega) (by decide), e 3 (by omega) (by decide), e0, e1, Int64.add_zero]
    ac_rfl
/-- longs of the reference change -/
def JF (m lo hi : Nat) (M M2 : Me) : Prop := (∀ a k, gI M2 a k = gI M a k) ∧ (∀ a k, ¬ (m + lo ≤ a ∧ a ≤ m + hi) → gJ M2 a k = gJ M a k) ∧ ∀ a k, gR M2 a k = gR M a k
section
variable {m lo hi : Nat} {M M1 M2 : Me}
theorem JF.rfl : JF m lo hi M M := ⟨fun _ _ => Eq.refl _, fun _ _ _ => Eq.refl _, fun _ _ => Eq.refl _⟩
theorem JF.trans (h : JF m lo hi M M1) (h2 : JF m lo hi M1 M2) : JF m lo hi M M2 := ⟨fun a k => (h2.1 a k).trans (h.1 a k), fun a k p => (h2.2.1 a k p).trans (h.2.1 a k p), fun a k => (h2.2.2 a k).trans (h.2.2 a k)⟩
theorem JF.pJ {a k : Nat} {v : Int64} (h : JF m lo hi M M1) (ha : m + lo ≤ a ∧ a ≤ m + hi) : JF m lo hi M (pJ M1 a k v) := ⟨h.1, fun b j q => (mJJn (by omega)).trans (h.2.1 b j q), h.2.2⟩
theorem JF.qf (h : JF m lo hi M M1) (h5 : 5 ≤ lo) (h15 : hi ≤ 15) : QF m M M1 := ⟨fun a k _ => h.1 a k, fun a k q => h.2.1 a k (by omega), fun a k _ => h.2.2 a k⟩
end
section
variable {x m : Nat} {A : Nat → Int32} {T : Sh} {M M2 : Me}
theorem r_wayStep {n i : Nat} {W : Nat → Int64} (hM : RM m T M) (hW : ∀ c, c < 384 → gJ M (m + 12) c = W c) (hi : i < n) (hn : n ≤ 20) : Ok (bX12_ways_80 T m (nI n) (nI i) M) (fun o => match o with
    | Sum.inl t => ∃ M', t = (nI (i + 1), M') ∧ (∀ c, c < 384 → gJ M' (m + 12) c = wst W c) ∧ JF m 12 13 M M'
    | Sum.inr _ => False) := by
  unfold bX12_ways_80
  rw [if_neg (by rw [c_le (by omega) (by omega)]; omega)]
  refine Ok.bd (ok_forF (s := ((0 : Int32), M)) 0 384 (fun k t => ∃ M', t = (nI k, M') ∧ (∀ c, c < k → gJ M' (m + 13) c = 0) ∧ (∀ c, c < 384 → gJ M' (m + 12) c = W c) ∧ JF m 12 13 M M') (fun M' => (∀ c, c < 384 → gJ M' (m + 13) c = 0) ∧ (∀ c, c < 384 → gJ M' (m + 12) c = W c) ∧ JF m 12 13 M M') ⟨M, rfl, fun c hc => absurd hc (by omega), hW, JF.rfl⟩ (by omega) (by omega) (fun k t _ hk hI => ?_) (fun t hI => ?_)) (fun M1 h1 => ?_)
  · obtain ⟨M', rfl, hz, hw, f⟩ := hI
    have hM' : RM m T M' := hM.fr (fun k => f.2.2 m k)
    show Ok (bX12_ways_88 T m (nI n) (nI i) (nI k) M') _
    unfold bX12_ways_88
    rw [i_384, if_neg (by rw [c_le (by omega) (by omega)]; omega)]
    simp (disch := omega) only [gdI, gdT, Option.bind_some, lte, une2, une3, nI_add, gvI, cl_nI, c_le, c_lt, c_eq, Sum.elim_inl, Sum.elim_inr, hM'.k, hM'.r13, hM'.k13, hM'.l13, nI_1]
    refine ok_i ⟨_, rfl, fun c hc => ?_, fun c hc => (mJJn (by omega)).trans (hw c hc), f.pJ (by omega)⟩
    by_cases q : c = k
    · rw [q, mJJ1]
    · rw [mJJk q]; exact hz c (by omega)
  · obtain ⟨M', rfl, hz, hw, f⟩ := hI
    show Ok (bX12_ways_88 T m (nI n) (nI i) (nI 384) M') _
    unfold bX12_ways_88
    rw [i_384, if_pos (by decide)]
    exact ok_i ⟨hz, hw, f⟩
  obtain ⟨hz, hw, f1⟩ := h1
  refine Ok.bd (ok_forF (s := ((0 : Int32), M1)) 0 384 (fun k t => ∃ M', t = (nI k, M') ∧ (∀ c, c < 384 → gJ M' (m + 13) c = TMw W k 0 c) ∧ (∀ c, c < 384 → gJ M' (m + 12) c = W c) ∧ JF m 12 13 M M') (fun M' => (∀ c, c < 384 → gJ M' (m + 13) c = wst W c) ∧ (∀ c, c < 384 → gJ M' (m + 12) c = W c) ∧ JF m 12 13 M M') ⟨M1, rfl, fun c hc => (hz c hc).trans TM_0.symm, hw, f1⟩ (by omega) (by omega) (fun k t _ hk hI => ?_) (fun t hI => ?_)) (fun M2 h2 => ?_)
  · obtain ⟨M', rfl, ht, hw', f⟩ := hI
    show Ok (bX12_ways_113 T m (nI n) (nI i) (nI k) M') _
    unfold bX12_ways_113
    rw [i_384, if_neg (by rw [c_le (by omega) (by omega)]; omega)]
    refine Ok.bd (ok_forF (s := ((0 : Int32), M')) 0 4 (fun s t => ∃ M3, t = (nI s, M3) ∧ (∀ c, c < 384 → gJ M3 (m + 13) c = TMw W k s c) ∧ (∀ c, c < 384 → gJ M3 (m + 12) c = W c) ∧ JF m 12 13 M M3) (fun M3 => (∀ c, c < 384 → gJ M3 (m + 13) c = TMw W k 4 c) ∧ (∀ c, c < 384 → gJ M3 (m + 12) c = W c) ∧ JF m 12 13 M M3) ⟨M', rfl, ht, hw', f⟩ (by omega) (by omega) (fun s t _ hs hI => ?_) (fun t hI => ?_)) (fun M3 h3 => ?_)
    · obtain ⟨M3, rfl, ht3, hw3, f3⟩ := hI
      have hM3 : RM m T M3 := hM.fr (fun k => f3.2.2 m k)
      show Ok (bX12_ways_124 T m (nI n) (nI i) (nI k) (nI s) M3) _
      unfold bX12_ways_124
      rw [i_4, if_neg (by rw [c_le (by omega) (by omega)]; omega), r_stepTo hk hs, Option.bind_some]
      cases hb : bes k s with
      | none =>
        rw [if_pos (show iN none = (-1 : Int32) from rfl), lte, nI_1]
        exact ok_i ⟨M3, rfl, fun c hc => (ht3 c hc).trans (TM_skip hk hs hc (by rw [hb]; exact fun z => by cases z)).symm, hw3, f3⟩
      | some c' =>
        have hc' := bes_b hk hs hb
        rw [if_neg (iN_m1 (by omega)), show iN (some c') = nI c' from rfl]
        simp (disch := omega) only [gdI, gdT, Option.bind_some, lte, une2, une3, nI_add, gvI, cl_nI, c_le, c_lt, c_eq, Sum.elim_inl, Sum.elim_inr, hM3.k, hM3.r12, hM3.k12, hM3.l12, hM3.r13, hM3.k13, hM3.l13, nI_1, ht3 c' hc', hw3 k hk]
        refine ok_i ⟨_, rfl, fun c hc => ?_, fun c hc => (mJJn (by omega)).trans (hw3 c hc), f3.pJ (by omega)⟩
        by_cases q : c = c'
        · rw [q, mJJ1, TM_put hk hs hb]
        · rw [mJJk q, TM_skip hk hs hc (by rw [hb]; exact fun z => q (Option.some.inj z).symm)]; exact ht3 c hc
    · obtain ⟨M3, rfl, ht3, hw3, f3⟩ := hI
      show Ok (bX12_ways_124 T m (nI n) (nI i) (nI k) (nI 4) M3) _
      unfold bX12_ways_124
      rw [i_4, if_pos (by decide)]
      exact ok_i ⟨ht3, hw3, f3⟩
    · obtain ⟨ht3, hw3, f3⟩ := h3
      rw [lte, nI_1]
      exact ok_i ⟨M3, rfl, fun c hc => (ht3 c hc).trans TM_row, hw3, f3⟩
  · obtain ⟨M', rfl, ht, hw', f⟩ := hI
    show Ok (bX12_ways_113 T m (nI n) (nI i) (nI 384) M') _
    unfold bX12_ways_113
    rw [i_384, if_pos (by decide)]
    exact ok_i ⟨fun c hc => (ht c hc).trans (TM_all hc), hw', f⟩
  obtain ⟨ht2, hw2, f2⟩ := h2
  refine Ok.bd (ok_forF (s := ((0 : Int32), M2)) 0 384 (fun k t => ∃ M', t = (nI k, M') ∧ (∀ c, c < 384 → gJ M' (m + 13) c = wst W c) ∧ (∀ c, c < k → gJ M' (m + 12) c = wst W c) ∧ JF m 12 13 M M') (fun M' => (∀ c, c < 384 → gJ M' (m + 12) c = wst W c) ∧ JF m 12 13 M M') ⟨M2, rfl, ht2, fun c hc => absurd hc (by omega), f2⟩ (by omega) (by omega) (fun k t _ hk hI => ?_) (fun t hI => ?_)) (fun M3 h3 => ?_)
  · obtain ⟨M', rfl, ht, hw', f⟩ := hI
    have hM' : RM m T M' := hM.fr (fun k => f.2.2 m k)
    show Ok (bX12_ways_178 T m (nI n) (nI i) (nI k) M') _
    unfold bX12_ways_178
    rw [i_384, if_neg (by rw [c_le (by omega) (by omega)]; omega)]
    simp (disch := omega) only [gdI, gdT, Option.bind_some, lte, une2, une3, nI_add, gvI, cl_nI, c_le, c_lt, c_eq, Sum.elim_inl, Sum.elim_inr, hM'.k, hM'.r12, hM'.k12, hM'.l12, hM'.r13, hM'.k13, hM'.l13, nI_1, ht k hk]
    refine ok_i ⟨_, rfl, fun c hc => (mJJn (by omega)).trans (ht c hc), fun c hc => ?_, f.pJ (by omega)⟩
    by_cases q : c = k
    · rw [q, mJJ1]
    · rw [mJJk q]; exact hw' c (by omega)
  · obtain ⟨M', rfl, ht, hw', f⟩ := hI
    show Ok (bX12_ways_178 T m (nI n) (nI i) (nI 384) M') _
    unfold bX12_ways_178
    rw [i_384, if_pos (by decide)]
    exact ok_i ⟨hw', f⟩
  · rw [lte, nI_1]
    exact ok_i ⟨M3, rfl, h3.1, h3.2⟩
theorem q_ways (hL : LV A) (hS : SV A) (a b : Int32) : QQ x m A (fun T M => fX11_ways T M x a b) (fun T M => fX12_ways T M m a b) := by
  have h6 := hL.b3
  rcases ix_I a (nlA A) (by omega) with ⟨l, hl, rfl⟩ | hn
  · rcases ix_I b 21 (by omega) with ⟨n, hn, rfl⟩ | hn
    · have hpt := hS.ptb (l := l) (by omega)
      refine ⟨wsm (pmc (psd A (qA A) (eA A) l)) (wit (ptA A l) n) 384, fun T M h => ?_, fun T M h => ?_⟩
      · show Ok (fX11_ways T M x (nI l) (nI n)) _
        unfold fX11_ways
        rw [c_lane1 h hl, h.px.k0, gdI, Option.bind_some, if_pos rfl, i_20, rng1' (by omega) (by omega)]
        refine Ok.bd (c_look h hl) (fun p hq => ?_)
        obtain ⟨p1, M1⟩ := p
        obtain ⟨m1, f1, h1⟩ := hq
        have hp := h1.px
        simp (disch := omega) only [gdI, gdT, Option.bind_some, lte, une2, une3, nI_add, gvI, cl_nI, c_le, c_lt, c_eq, Sum.elim_inl, Sum.elim_inr, hp.k0, hp.k19, hp.k20, hp.l20, hp.k21, hp.l21, hp.k22, hp.l22, hp.k25, hp.k26, hp.l26, hp.r0_0, hp.r0_2, hp.r0_3, hp.r0_4, hp.r0_5, hp.r0_6, hp.r0_7, hp.r0_9, hp.r0_10, hp.r0_13, hp.r19_0, hp.r19_1, hp.r19_2, hp.r25_0, h1.pt (l := l) (by omega), hS.pt (l := l) (by omega)]
        refine Ok.bd (c_countWays hp (pm := psd A (qA A) (eA A) l) m1 h1.sw hpt (by omega)) (fun p hq => ?_)
        obtain ⟨p1, M2⟩ := p
        obtain ⟨rfl, f2, w2⟩ := hq
        exact ok_i ⟨rfl, f1.gf.trans f2.hf.gf, h1.hf f2.hf w2⟩
      · have h0 := h.t0 (v := 0)
        show Ok (fX12_ways T M m (nI l) (nI n)) _
        unfold fX12_ways
        rw [h0.rm.k, gdI, lte, r_lane1 h0 hl, Option.bind_some, if_neg (by decide), L_0, show (20 : Int64) = lN 20 from rfl, r_in1 (by omega) (by omega) (by omega), Option.bind_some, if_neg (by decide)]
        refine Ok.bd (r_laysMapNow h0 hl) (fun p hq => ?_)
        obtain ⟨p1, M1⟩ := p
        obtain ⟨m1, f1, h1, d1⟩ := hq
        have m1 : MP (m + 7) (mr (psd A (qA A) (eA A) l)) M1 := m1
        rw [une2, ← L_0]
        refine Ok.bd (ok_forF (s := ((0 : Int32), M1)) 0 384 (fun k t => ∃ M', t = (nI k, M') ∧ (∀ c, c < k → gJ M' (m + 12) c = wit (ptA A l) 0 c) ∧ JF m 12 13 M1 M') (fun M' => (∀ c, c < 384 → gJ M' (m + 12) c = wit (ptA A l) 0 c) ∧ JF m 12 13 M1 M') ⟨M1, rfl, fun c hc => absurd hc (by omega), JF.rfl⟩ (by omega) (by omega) (fun k t _ hk hI => ?_) (fun t hI => ?_)) (fun M2 h2 => ?_)
        · obtain ⟨M', rfl, hw, f⟩ := hI
          have h' : RV m A T M' := h1.qf (f.qf (by omega) (by omega))
          have hM' := h'.rm
          show Ok (bX12_ways_41 T m (nI l) (nI n) (nI k) M') _
          unfold bX12_ways_41
          rw [i_384, if_neg (by rw [c_le (by omega) (by omega)]; omega)]
          simp (disch := omega) only [gdI, gdT, Option.bind_some, lte, une2, une3, nI_add, gvI, cl_nI, c_le, c_lt, c_eq, Sum.elim_inl, Sum.elim_inr, hM'.k, hM'.r1, hM'.k1, hM'.l1, hM'.r12, hM'.k12, hM'.l12, i_42, h'.al, hS.pt (l := l) (by omega), nI_1]
          have fin : ∀ v, wit (ptA A l) 0 k = v → ∃ M2, ((nI (k + 1), pJ M' (m + 12) k v) : Int32 × Me) = (nI (k + 1), M2) ∧ (∀ c, c < k + 1 → gJ M2 (m + 12) c = wit (ptA A l) 0 c) ∧ JF m 12 13 M1 M2 := fun v hv => ⟨_, rfl, fun c hc => by
            by_cases q : c = k
            · rw [q, mJJ1, hv]
            · rw [mJJk q]; exact hw c (by omega), f.pJ (by omega)⟩
          by_cases q : k = ptA A l
          · rw [if_pos q]; exact ok_i (fin _ (if_pos q))
          · rw [if_neg q]; exact ok_i (fin _ (if_neg q))
        · obtain ⟨M', rfl, hw, f⟩ := hI
          show Ok (bX12_ways_41 T m (nI l) (nI n) (nI 384) M') _
          unfold bX12_ways_41
          rw [i_384, if_pos (by decide)]
          exact ok_i ⟨hw, f⟩
        obtain ⟨hw2, f2⟩ := h2
        refine Ok.bd (ok_forF (s := ((0 : Int32), M2)) 0 n (fun i t => ∃ M', t = (nI i, M') ∧ (∀ c, c < 384 → gJ M' (m + 12) c = wit (ptA A l) i c) ∧ JF m 12 13 M1 M') (fun M' => (∀ c, c < 384 → gJ M' (m + 12) c = wit (ptA A l) n c) ∧ JF m 12 13 M1 M') ⟨M2, rfl, hw2, f2⟩ (by omega) (by omega) (fun i t _ hi hI => ?_) (fun t hI => ?_)) (fun M3 h3 => ?_)
        · obtain ⟨M', rfl, hw, f⟩ := hI
          have hM' : RM m T M' := h1.rm.fr (fun k => f.2.2 m k)
          refine (r_wayStep hM' hw hi (by omega)).mono (fun o ho => ?_)
          cases o with
          | inl t =>
            obtain ⟨M4, rfl, g1, g2⟩ := ho
            exact ⟨M4, rfl, g1, f.trans g2⟩
          | inr t => exact ho.elim
        · obtain ⟨M', rfl, hw, f⟩ := hI
          show Ok (bX12_ways_80 T m (nI n) (nI n) M') _
          unfold bX12_ways_80
          rw [if_pos (by rw [c_le (by omega) (by omega)]; omega)]
          exact ok_i ⟨hw, f⟩
        obtain ⟨hw3, f3⟩ := h3
        have hM3 : RM m T M3 := h1.rm.fr (fun k => f3.2.2 m k)
        have m3 : MP (m + 7) (mr (psd A (qA A) (eA A) l)) M3 := fun v hv => (f3.1 _ _).trans (m1 v hv)
        have key : lp FU (fun s => bX12_ways_217 T M3 m s.1 s.2) ((0 : Int64), (0 : Int32)) = some (wsm (pmc (psd A (qA A) (eA A) l)) (wit (ptA A l) n) 384) := by
          refine lp_itG (fun i => (wsm (pmc (psd A (qA A) (eA A) l)) (wit (ptA A l) n) i, nI i)) 384 _ rfl (by omega) (fun i hi => ?_) ?_
          · show bX12_ways_217 T M3 m (wsm (pmc (psd A (qA A) (eA A) l)) (wit (ptA A l) n) i) (nI i) = _
            unfold bX12_ways_217
            rw [i_384, if_neg (by rw [c_le (by omega) (by omega)]; omega), i_24, c_div (by omega) (by omega) (by omega), c_remQ (by omega) (by omega) (by omega), r_mapped hM3 m3 (by omega) (by omega)]
            simp (disch := omega) only [gdI, gdT, Option.bind_some, lte, une2, une3, nI_add, gvI, cl_nI, c_le, c_lt, c_eq, Sum.elim_inl, Sum.elim_inr, hM3.k, hM3.r12, hM3.k12, hM3.l12, nI_1, hw3 i hi]
            rw [wsm, show psd A (qA A) (eA A) l (i / 24) (i % 24) = pmc (psd A (qA A) (eA A) l) i from rfl]
            cases hb : pmc (psd A (qA A) (eA A) l) i
            · rw [if_pos (b2_ne.mpr rfl), if_neg (by decide)]
            · rw [if_neg (fun z => absurd (b2_ne.mp z) (by decide)), if_pos rfl]
          · show bX12_ways_217 T M3 m _ (nI 384) = _
            unfold bX12_ways_217
            rw [i_384, if_pos (by decide)]
        rw [key, Option.bind_some]
        exact ok_i ⟨rfl, (((r_t0.wide (fun _ _ => nf_mf)).trans f1).qf (fun _ _ => mf_qf)).trans (f3.qf (by omega) (by omega))⟩
    · refine ⟨-3, fun T M h => ?_, fun T M h => ?_⟩
      · show Ok (fX11_ways T M x (nI l) b) _
        unfold fX11_ways
        rw [c_lane1 h hl, h.px.k0, gdI, Option.bind_some, if_pos rfl, i_20, rng0' (by omega) hn]
        exact ok_i ⟨rfl, GF.rfl, h⟩
      · have h0 := h.t0 (v := 0)
        show Ok (fX12_ways T M m (nI l) b) _
        unfold fX12_ways
        rw [h0.rm.k, gdI, lte, r_lane1 h0 hl, Option.bind_some, if_neg (by decide), L_0, show (20 : Int64) = lN 20 from rfl, r_in0 (by omega) (by omega) (by omega), Option.bind_some, if_pos rfl]
        exact ok_i ⟨rfl, r_t0.qf (fun _ _ => nf_qf)⟩
  · refine ⟨-2, fun T M h => ?_, fun T M h => ?_⟩
    · show Ok (fX11_ways T M x a b) _
      unfold fX11_ways
      rw [c_lane0 h hn, h.px.k0, gdI, Option.bind_some, if_neg (by decide)]
      exact ok_i ⟨rfl, GF.rfl, h⟩
    · have h0 := h.t0 (v := 0)
      show Ok (fX12_ways T M m a b) _
      unfold fX12_ways
      rw [h0.rm.k, gdI, lte, r_lane0 h0 hn, Option.bind_some, if_pos rfl]
      exact ok_i ⟨rfl, r_t0.qf (fun _ _ => nf_qf)⟩
end
