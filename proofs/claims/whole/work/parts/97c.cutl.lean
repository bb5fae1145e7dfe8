abbrev lqE {σ ρ : Type} (P : σ → Prop) (Q : ρ → Prop) (o : σ ⊕ ρ) : Prop := match o with
  | .inl s => P s
  | .inr r => Q r
theorem ok_lpE {σ ρ : Type} {b : σ → Option (σ ⊕ ρ)} (I : σ → Prop) (μ : σ → Nat) (Q : ρ → Prop) (h : ∀ s, I s → Ok (b s) (lqE (fun s' => I s' ∧ μ s' < μ s) Q)) (n : Nat) (s : σ) (hI : I s) (hm : μ s < n) : Ok (lp n b s) Q := ok_lp I μ Q (fun s hs => (h s hs).mono (fun o ho => by cases o <;> exact ho)) n s hI hm
theorem ok_forE {σ ρ : Type} {b : σ → Option (σ ⊕ ρ)} {s : σ} (a e : Nat) (I : Nat → σ → Prop) (Q : ρ → Prop) (h0 : I a s) (hae : a ≤ e) (he : e < 1000000) (hs : ∀ i s, a ≤ i → i < e → I i s → Ok (b s) (lqE (fun s' => I (i + 1) s') Q)) (hx : ∀ s, I e s → Ok (b s) (lqE (fun _ => False) Q)) : Ok (lp FU b s) Q := ok_forF a e I Q h0 hae he (fun i s h1 h2 h3 => (hs i s h1 h2 h3).mono (fun o ho => by cases o <;> exact ho)) (fun s h => (hx s h).mono (fun o ho => by cases o <;> exact ho))
section
variable {x n N : Nat} {b : Nat → Nat} {T : Sh} {M M1 M2 : Me}
/-- tokens as the class has them -/
def TCp (x n : Nat) (b : Nat → Nat) (i : Nat) (M : Me) : Prop := ∀ j, j < i → gI M (x + 4) j = ck (tK b n j) ∧ gI M (x + 5) j = nI (tP b n j) ∧ (tK b n j = 25 → gI M (x + 6) j = nI (tV b n j))
def TN (n : Nat) (b : Nat → Nat) (N : Nat) : Prop := N ≤ n ∧ (∀ j, j < N → tK b n j ≠ 26 ∧ tK b n j ≠ 27) ∧ (tK b n N = 26 ∨ tK b n N = 27)
theorem mx_1 {p e : Nat} (h : e ≤ p + 1) (hp : p < 1000000) : fJ9_max_7cf53 (nI p + 1) (nI e) = some (nI (p + 1)) := by
  unfold fJ9_max_7cf53
  rw [nI_1, ite_lt (by omega) (by omega), if_neg (by omega)]
theorem mx_2 {p e : Nat} (h : p + 1 ≤ e) (he : e < 1000000) : fJ9_max_7cf53 (nI p + 1) (nI e) = some (nI e) := by
  unfold fJ9_max_7cf53
  rw [nI_1, ite_lt (by omega) (by omega)]
  by_cases z : p + 1 < e
  · rw [if_pos z]
  · rw [if_neg z, show p + 1 = e by omega]
def CI (x n : Nat) (b : Nat → Nat) (N : Nat) (M0 : Me) (s : Int32 × Int32 × Int32 × Me) : Prop :=
  ∃ e p i M', s.1 = nI e ∧ s.2.2.1 = nI p ∧ s.2.2.2 = M' ∧ p ≤ n ∧ KF x M0 M' ∧ gI M' (x + 3) 3 = nI i ∧ TCp x n b i M' ∧ ((s.2.1 = 1 ∧ e ≤ p ∧ i ≤ p ∧ i ≤ N ∧ te b n i ≤ p ∧ ∀ j, te b n i ≤ j → j < p → isB (b j) = true) ∨ (s.2.1 = 0 ∧ i = N + 1 ∧ N < 900))
def CE (x n : Nat) (b : Nat → Nat) (N : Nat) (M0 M' : Me) : Prop := ∃ i, KF x M0 M' ∧ gI M' (x + 3) 3 = nI i ∧ TCp x n b i M' ∧ ((i = N ∧ tK b n N = 26 ∧ tP b n N = n) ∨ (i = N + 1 ∧ N < 900))
theorem c_tok {i p k : Nat} {v kk : Int32} (hp : PX x T M) (hN : TN n b N) (hn : n ≤ 900) (hs : gI M (x + 3) 3 = nI i) (hi : i ≤ N) (hip : i ≤ p) (hpn : p < n) (hT : TCp x n b i M) (hk : tK b n i = k) (hP : tP b n i = p) (ekk : kk = ck k) (hv : k = 25 → v = nI (tV b n i)) : Ok (fX9_add T M (x + 3) kk (nI p) v) (fun q => KF x M q.2 ∧ gI q.2 (x + 3) 3 = nI (i + 1) ∧ TCp x n b (i + 1) q.2) := by
  refine (c_add hp hs (by have := hN.1; omega)).mono (fun q hq => ?_)
  obtain ⟨f, h1, ⟨h2, h3, h4⟩, h5⟩ := hq
  refine ⟨f, h1, fun j hj => ?_⟩
  by_cases z : j = i
  · rw [z, h2, h3, h4, hk, hP]
    exact ⟨ekk, rfl, fun q => hv q⟩
  · obtain ⟨k1, k2, k3⟩ := hT j (by omega)
    exact ⟨(h5 _ _ (by omega) (by omega)).trans k1, (h5 _ _ (by omega) (by omega)).trans k2, fun q => (h5 _ _ (by omega) (by omega)).trans (k3 q)⟩
theorem c_cutb (hp : PX x T M) (ht : TX x n b M) (hN : TN n b N) (s : Int32 × Int32 × Int32 × Me) (h : CI x n b N M s) : Ok (bX9_cut_13 T (x + 3) (x + 1) (nI n) s.1 s.2.1 s.2.2.1 s.2.2.2) (lqE (fun s' => CI x n b N M s' ∧ (if s'.2.1 = 0 then 0 else n + 1 - (s'.2.2.1).toNatClampNeg) < (if s.2.1 = 0 then 0 else n + 1 - (s.2.2.1).toNatClampNeg)) (CE x n b N M)) := by
  obtain ⟨e, p, i, M', e1, e2, rfl, hpn, f, hs, hT, hc⟩ := h
  have hn := ht.1
  have hp' := hp.kf f
  have ht' := ht.kf f
  obtain ⟨t1, t2, t3⟩ := ht'
  rw [e1, e2]
  unfold bX9_cut_13
  rw [ite_le (by omega) (by omega)]
  by_cases z : n ≤ p
  · rw [if_pos z]
    refine ok_i ⟨i, f, hs, hT, ?_⟩
    rcases hc with ⟨c1, c2, c3, c4, c5, c6⟩ | ⟨c1, c2, c3⟩
    · left
      have ea : aw (fun j => isB (b j)) n (te b n i) = n := aw_eq (te_le i) (Nat.le_refl _) (fun j a1 a2 => c6 j a1 (by omega)) (fun q => absurd q (by omega))
      have ek := tkq_end ea
      have k1 : tK b n i = 26 := by unfold tK; rw [ek]
      have k2 : tP b n i = n := by unfold tP; rw [ek]
      have : i = N := by
        rcases Nat.lt_or_ge i N with q | q
        · exact absurd k1 (hN.2.1 i q).1
        · omega
      rw [← this]; exact ⟨rfl, k1, k2⟩
    · exact Or.inr ⟨c2, c3⟩
  rw [if_neg z]
  rcases hc with ⟨c1, c2, c3, c4, c5, c6⟩ | ⟨c1, c2, c3⟩
  rotate_left
  · rw [if_pos c1]
    exact ok_i ⟨i, f, hs, hT, Or.inr ⟨c2, c3⟩⟩
  have hbp := t2 p
  rw [if_neg (by rw [c1]; decide), hp'.k1, gdI, hp'.l1, gvI (by omega) (by omega), lte, cl_nI (by omega), t3 p (by omega), cb_S _ hbp]
  have mu : (if s.2.1 = 0 then 0 else n + 1 - p) = n + 1 - p := if_neg (by rw [c1]; decide)
  rw [mu]
  have nx : ∀ (e' : Nat), p < e' → e' ≤ n → (if (1 : Int32) = 0 then 0 else n + 1 - (Int32.toNatClampNeg (nI e'))) < n + 1 - p := fun e' h1 h2 => by rw [if_neg (by decide), cl_nI (by omega)]; omega
  by_cases bB : isB (b p) = true
  · have hb2 : b p = 10 ∨ b p = 32 := of_decide_eq_true bB
    have hS : ¬ isS (b p) = true := by rcases hb2 with q | q <;> rw [q] <;> decide
    have hD : ¬ isD (b p) = true := by rcases hb2 with q | q <;> rw [q] <;> decide
    have fin : CI x n b N M (nI e, s.2.1, nI (p + 1), s.2.2.2) ∧ (if s.2.1 = 0 then 0 else n + 1 - (Int32.toNatClampNeg (nI (p + 1)))) < n + 1 - p := by
      refine ⟨⟨e, p + 1, i, s.2.2.2, rfl, rfl, rfl, by omega, f, hs, hT, Or.inl ⟨c1, by omega, by omega, c4, by omega, fun j a1 a2 => ?_⟩⟩, by rw [c1]; exact nx (p + 1) (by omega) (by omega)⟩
      by_cases y : j = p
      · rw [y]; exact bB
      · exact c6 j a1 (by omega)
    rw [Option.bind_some, if_neg hS, if_pos rfl, cb_D _ hbp, Option.bind_some, if_neg hD, if_pos rfl, mx_1 (by omega) (by omega), Option.bind_some]
    by_cases y : cb (b p) = 10
    · rw [if_pos y]; exact ok_i fin
    · have y2 : cb (b p) = 32 := by
        rw [cb_32 _ hbp]
        rw [cb_10 _ hbp] at y
        omega
      rw [if_neg y, if_pos y2]; exact ok_i fin
  have bB : isB (b p) = false := by cases q : isB (b p) <;> simp_all
  have ea : aw (fun j => isB (b j)) n (te b n i) = p := aw_eq c5 (by omega) c6 (fun _ => bB)
  have iN : tK b n i ≠ 26 → tK b n i ≠ 27 → i + 1 ≤ N := fun q1 q2 => by
    rcases Nat.lt_or_ge i N with q | q
    · omega
    · have : i = N := by omega
      rw [this] at q1 q2
      rcases hN.2.2 with w | w
      · exact absurd w q1
      · exact absurd w q2
  have iE : tK b n i = 27 → i = N := fun q => by
    rcases Nat.lt_or_ge i N with w | w
    · exact absurd q (hN.2.1 i w).2
    · omega
  by_cases hS : isS (b p) = true
  · rw [Option.bind_some, if_pos hS, if_neg (by decide), c_endW hp' ⟨t1, t2, t3⟩ (by omega), Option.bind_some]
    have ek := tkq_w ea (by omega) hS
    obtain ⟨k1, k2, k3, k4⟩ := aw_sp (fun j => isS (b j)) (n := n) (p := p) (by omega)
    have hE : te b n (i + 1) = aw (fun j => isS (b j)) n p := by show (tkq b n (te b n i)).2.2.2 = _; rw [ek]
    have hP : tP b n i = p := by unfold tP; rw [ek]
    have hK : tK b n i = wk (bs b p (aw (fun j => isS (b j)) n p)) := by unfold tK; rw [ek]
    have k26 : tK b n i ≠ 26 := by rw [hK]; have := wk_b (bs b p (aw (fun j => isS (b j)) n p)); omega
    have k27 : tK b n i ≠ 27 := by rw [hK]; have := wk_b (bs b p (aw (fun j => isS (b j)) n p)); omega
    have k25 : tK b n i ≠ 25 := by rw [hK]; have := wk_b (bs b p (aw (fun j => isS (b j)) n p)); omega
    have hlt := (tkq_sp (b := b) (te_le (b := b) (n := n) i)).2.2.2.2 k26
    rw [ek] at hlt
    have hlt : p < aw (fun j => isS (b j)) n p := hlt
    generalize aw (fun j => isS (b j)) n p = e' at *
    obtain ⟨l, rfl⟩ : ∃ l, e' = p + l := ⟨e' - p, by omega⟩
    rw [c_sub (by omega), show p + l - p = l by omega, c_kow hp' ⟨t1, t2, t3⟩ (by omega) (fun j hj => k3 (p + j) (by omega) (by omega)), Option.bind_some, hp'.k3, gdI]
    refine Ok.bd (c_tok hp' hN hn hs c4 c3 (by omega) hT hK hP rfl (fun q => absurd (hK.trans q) k25)) (fun q hq => ?_)
    obtain ⟨q1, M3⟩ := q
    obtain ⟨f3, h3, h4⟩ := hq
    rw [une2, mx_2 (by omega) (by omega), Option.bind_some]
    refine ok_i ⟨⟨p + l, p + l, i + 1, M3, rfl, rfl, rfl, by omega, f.trans f3, h3, h4, Or.inl ⟨c1, Nat.le_refl _, by omega, iN k26 k27, by rw [hE]; exact Nat.le_refl _, fun j a1 a2 => by rw [hE] at a1; omega⟩⟩, ?_⟩
    show (if s.2.1 = 0 then 0 else n + 1 - (Int32.toNatClampNeg (nI (p + l)))) < n + 1 - p
    rw [c1]; exact nx _ (by omega) (by omega)
  have hS' : isS (b p) = false := by cases q : isS (b p) <;> simp_all
  rw [Option.bind_some, if_neg hS, if_pos rfl, cb_D _ hbp, Option.bind_some]
  by_cases hD : isD (b p) = true
  · rw [if_pos hD, if_neg (by decide), c_endD hp' ⟨t1, t2, t3⟩ (by omega), Option.bind_some]
    have ek := tkq_d ea (by omega) hS' hD
    obtain ⟨k1, k2, k3, k4⟩ := aw_sp (fun j => isD (b j)) (n := n) (p := p) (by omega)
    have hE : te b n (i + 1) = aw (fun j => isD (b j)) n p := by show (tkq b n (te b n i)).2.2.2 = _; rw [ek]
    have hP : tP b n i = p := by unfold tP; rw [ek]
    have hK : tK b n i = if 3 < aw (fun j => isD (b j)) n p - p then 27 else 25 := by unfold tK; rw [ek]
    have hV : tV b n i = vl b p (min 3 (aw (fun j => isD (b j)) n p - p)) := by unfold tV; rw [ek]
    have k26 : tK b n i ≠ 26 := by rw [hK]; split <;> omega
    have hlt := (tkq_sp (b := b) (te_le (b := b) (n := n) i)).2.2.2.2 k26
    rw [ek] at hlt
    have hlt : p < aw (fun j => isD (b j)) n p := hlt
    generalize aw (fun j => isD (b j)) n p = e' at *
    obtain ⟨l, rfl⟩ : ∃ l, e' = p + l := ⟨e' - p, by omega⟩
    rw [show p + l - p = l by omega] at hK hV
    have emin : fJ9_min_7cf53 (nI (p + l)) (nI p + 3) = some (nI (p + min 3 l)) := by
      unfold fJ9_min_7cf53
      rw [i_3, nI_add, ite_lt (by omega) (by omega)]
      by_cases y : p + 3 < p + l
      · rw [if_pos y, Nat.min_eq_left (by omega)]
      · rw [if_neg y, Nat.min_eq_right (by omega)]
    have evl : fX9_valueOf T s.2.2.2 (x + 1) (nI p) (nI (p + min 3 l)) = some (nI (vl b p (min 3 l))) := c_val hp' ⟨t1, t2, t3⟩ (Nat.min_le_left _ _) (by have := Nat.min_le_right 3 l; omega) (fun j hj => k3 (p + j) (by omega) (by have := Nat.min_le_right 3 l; omega))
    rw [c_sub (by omega), show p + l - p = l by omega, i_3, ite_lt (by omega) (by omega)]
    have body : ∀ (g kk : Int32) (k : Nat), tK b n i = k → kk = ck k → ((g = 1 ∧ k ≠ 27) ∨ (g = 0 ∧ k = 27)) → Ok (jX9_cut_108 T s.2.2.2 (x + 3) (x + 1) (nI n) (nI (p + l)) g (nI p) kk (x + 3)) (lqE (fun s' => CI x n b N M s' ∧ (if s'.2.1 = 0 then 0 else n + 1 - (s'.2.2.1).toNatClampNeg) < n + 1 - p) (CE x n b N M)) := by
      intro g kk k hk ekk hg
      unfold jX9_cut_108
      rw [emin, Option.bind_some, evl, Option.bind_some, hp'.k3, gdI]
      refine Ok.bd (c_tok hp' hN hn hs c4 c3 (by omega) hT hk hP ekk (fun q => by rw [hV])) (fun q hq => ?_)
      obtain ⟨q1, M3⟩ := q
      obtain ⟨f3, h3, h4⟩ := hq
      rw [une2, mx_2 (by omega) (by omega), Option.bind_some]
      refine ok_i ⟨⟨p + l, p + l, i + 1, M3, rfl, rfl, rfl, by omega, f.trans f3, h3, h4, ?_⟩, ?_⟩
      · rcases hg with ⟨g1, g2⟩ | ⟨g1, g2⟩
        · exact Or.inl ⟨g1, Nat.le_refl _, by omega, iN k26 (by rw [hk]; exact g2), by rw [hE]; exact Nat.le_refl _, fun j a1 a2 => by rw [hE] at a1; omega⟩
        · have := iE (hk.trans g2)
          exact Or.inr ⟨g1, by omega, by omega⟩
      · show (if g = 0 then 0 else n + 1 - (Int32.toNatClampNeg (nI (p + l)))) < n + 1 - p
        rcases hg with ⟨g1, g2⟩ | ⟨g1, g2⟩
        · rw [g1]; exact nx _ (by omega) (by omega)
        · rw [if_pos g1]; omega
    by_cases y : 3 < l
    · rw [if_pos y] at hK ⊢
      unfold jX9_cut_95
      rw [if_pos rfl]
      exact body 0 (-1) 27 hK rfl (Or.inr ⟨rfl, rfl⟩)
    · rw [if_neg y] at hK ⊢
      unfold jX9_cut_95
      rw [if_neg (by decide)]
      exact body 1 1 25 hK rfl (Or.inl ⟨rfl, by omega⟩)
  have hD' : isD (b p) = false := by cases q : isD (b p) <;> simp_all
  rw [if_neg hD, if_pos rfl]
  have nb : ¬ (b p = 10 ∨ b p = 32) := of_decide_eq_false bB
  rw [if_neg (by rw [cb_10 _ hbp]; omega), if_neg (by rw [cb_32 _ hbp]; omega)]
  have ek := tkq_s ea (by omega) hS' hD'
  have hE : te b n (i + 1) = p + 1 := by show (tkq b n (te b n i)).2.2.2 = _; rw [ek]
  have hP : tP b n i = p := by unfold tP; rw [ek]
  have hK : tK b n i = sg (b p) := by unfold tK; rw [ek]
  have hsb := sg_b (b p)
  have k26 : tK b n i ≠ 26 := by rw [hK]; omega
  have body : ∀ (g kk : Int32), kk = ck (sg (b p)) → ((g = 1 ∧ sg (b p) ≠ 27) ∨ (g = 0 ∧ sg (b p) = 27)) → Ok ((fX9_add T s.2.2.2 (x + 3) kk (nI p) (0 : Int32)).bind (un2 fun _u M19 => Option.bind (fJ9_max_7cf53 ((nI p) + (1 : Int32)) (nI e)) fun r20 => some (.inl (nI e, g, r20, M19)))) (lqE (fun s' => CI x n b N M s' ∧ (if s'.2.1 = 0 then 0 else n + 1 - (s'.2.2.1).toNatClampNeg) < n + 1 - p) (CE x n b N M)) := by
    intro g kk ekk hg
    refine Ok.bd (c_tok hp' hN hn hs c4 c3 (by omega) hT hK hP ekk (fun q => by omega)) (fun q hq => ?_)
    obtain ⟨q1, M3⟩ := q
    obtain ⟨f3, h3, h4⟩ := hq
    rw [une2, mx_1 (by omega) (by omega), Option.bind_some]
    refine ok_i ⟨⟨e, p + 1, i + 1, M3, rfl, rfl, rfl, by omega, f.trans f3, h3, h4, ?_⟩, ?_⟩
    · rcases hg with ⟨g1, g2⟩ | ⟨g1, g2⟩
      · exact Or.inl ⟨g1, by omega, by omega, iN k26 (by rw [hK]; exact g2), by rw [hE]; exact Nat.le_refl _, fun j a1 a2 => by rw [hE] at a1; omega⟩
      · have := iE (hK.trans g2)
        exact Or.inr ⟨g1, by omega, by omega⟩
    · show (if g = 0 then 0 else n + 1 - (Int32.toNatClampNeg (nI (p + 1)))) < n + 1 - p
      rcases hg with ⟨g1, g2⟩ | ⟨g1, g2⟩
      · rw [g1]; exact nx _ (by omega) (by omega)
      · rw [if_pos g1]; omega
  have bad : sg (b p) = 27 → Ok (jX9_cut_164 T s.2.2.2 (x + 3) (x + 1) (nI n) (nI e) (nI p) (cb (b p))) (lqE (fun s' => CI x n b N M s' ∧ (if s'.2.1 = 0 then 0 else n + 1 - (s'.2.2.1).toNatClampNeg) < n + 1 - p) (CE x n b N M)) := fun q => by
    unfold jX9_cut_164 jX9_cut_165
    rw [if_pos rfl, hp'.k3, gdI]
    exact body 0 (-1) (by rw [q]; rfl) (Or.inr ⟨rfl, q⟩)
  by_cases y : cb (b p) ≤ 0
  · rw [if_pos y]
    exact bad (cb_neg _ hbp y)
  have h128 := cb_pos _ hbp y
  rw [if_neg y, gd_pos (by omega), cb_n _ h128, cb_ix _ h128, Option.bind_some, ← cb_n _ h128]
  by_cases w : sg (b p) = 27
  · rw [if_pos w, if_pos (by decide)]
    exact bad w
  · rw [if_neg w, if_neg (i_neg _ (by omega))]
    unfold jX9_cut_165
    rw [if_neg (by decide), hp'.k3, gdI]
    exact body 1 (cb (b p)) (by rw [cb_ck _ h128 w, cb_n _ h128]) (Or.inl ⟨rfl, w⟩)
theorem c_cut (hp : PX x T M) (ht : TX x n b M) (hN : TN n b N) : Ok (fX9_cut T M (x + 3) (x + 1) (nI n)) (fun q => KF x M q.2 ∧ TCp x n b (N + 1) q.2) := by
  have hn := ht.1
  unfold fX9_cut
  rw [hp.k3, gdI, lte]
  have f0 : KF x M (pI M (x + 3) 3 0) := ⟨fun a k z _ _ _ => by rw [mII, if_neg z], rfl⟩
  refine Ok.bd (ok_lpE (CI x n b N (pI M (x + 3) 3 0)) (fun s => if s.2.1 = 0 then 0 else n + 1 - (s.2.2.1).toNatClampNeg) (CE x n b N (pI M (x + 3) 3 0)) (fun s hs => c_cutb (hp.kf f0) (ht.kf f0) hN s hs) FU _ ⟨0, 0, 0, pI M (x + 3) 3 0, rfl, rfl, rfl, by omega, KF.rfl, mII1, fun j hj => absurd hj (by omega), Or.inl ⟨rfl, by omega, by omega, by omega, Nat.le_refl _, fun j a1 a2 => absurd a2 (by omega)⟩⟩ ?_) (fun M1 hq => ?_)
  · show (if (1 : Int32) = 0 then 0 else n + 1 - (Int32.toNatClampNeg 0)) < 1000000
    rw [if_neg (by decide)]
    omega
  · obtain ⟨i, f1, hs, hT, hc⟩ := hq
    have f2 := f0.trans f1
    refine Ok.bd (c_add (hp.kf f2) hs (by have := hN.1; omega)) (fun q hq => ?_)
    obtain ⟨q1, M2⟩ := q
    obtain ⟨f3, h1, ⟨h2, h3, h4⟩, h5⟩ := hq
    rw [une2]
    refine ok_i ⟨f2.trans f3, fun j hj => ?_⟩
    by_cases z : j < i
    · obtain ⟨k1, k2, k3⟩ := hT j z
      exact ⟨(h5 _ _ z (by omega)).trans k1, (h5 _ _ z (by omega)).trans k2, fun q => (h5 _ _ z (by omega)).trans (k3 q)⟩
    · rcases hc with ⟨c1, c2, c3⟩ | ⟨c1, c2⟩
      · have e : j = N := by omega
        have e2 : i = j := by omega
        rw [e2] at h2 h3
        rw [h2, h3, e, c2, c3]
        exact ⟨rfl, rfl, fun q => absurd q (by omega)⟩
      · omega
end
