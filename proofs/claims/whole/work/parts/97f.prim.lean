/-! the readers, step by step -/
section
variable {x m n N lw i o q : Nat} {b : Nat → Nat} {sp u : Int32} {T : Sh} {M M1 M2 : Me}
/-- what reading a law changes in the class -/
def LFr (x : Nat) (M M2 : Me) : Prop := (∀ a k, ¬ (a = x + 2 ∧ (k = 1 ∨ k = 2 ∨ k = 3 ∨ k = 5 ∨ k = 7)) → a ≠ x + 7 → gI M2 a k = gI M a k) ∧ M2.2 = M.2
theorem LFr.rfl : LFr x M M := ⟨fun _ _ _ _ => Eq.refl _, Eq.refl _⟩
theorem LFr.trans (h : LFr x M M1) (h2 : LFr x M1 M2) : LFr x M M2 := ⟨fun a k p q => (h2.1 a k p q).trans (h.1 a k p q), h2.2.trans h.2⟩
theorem lfr_2 {k : Nat} {v : Int32} (h : LFr x M M1) (hk : k = 1 ∨ k = 2 ∨ k = 3 ∨ k = 5 ∨ k = 7) : LFr x M (pI M1 (x + 2) k v) := ⟨fun a j p q => by rw [mII, if_neg (fun z => p ⟨z.1, by rw [z.2]; exact hk⟩)]; exact h.1 a j p q, h.2⟩
theorem lfr_7 {k : Nat} {v : Int32} (h : LFr x M M1) : LFr x M (pI M1 (x + 7) k v) := ⟨fun a j p q => by rw [mIIn q]; exact h.1 a j p q, h.2⟩
theorem PX.lf (h : PX x T M) (f : LFr x M M2) : PX x T M2 := h.eq (by rw [f.2])
theorem TCp.lf {j : Nat} (h : TCp x n b j M) (f : LFr x M M2) : TCp x n b j M2 := fun k hk => ⟨(f.1 _ _ (by omega) (by omega)).trans (h k hk).1, (f.1 _ _ (by omega) (by omega)).trans (h k hk).2.1, fun z => (f.1 _ _ (by omega) (by omega)).trans ((h k hk).2.2 z)⟩
/-- the class at token i, no fault -/
def CBq (x n N : Nat) (b : Nat → Nat) (T : Sh) (i : Nat) (M : Me) : Prop := PX x T M ∧ TCp x n b (N + 1) M ∧ gI M (x + 2) 1 = nI i ∧ gI M (x + 2) 2 = 0 ∧ i ≤ N ∧ TN n b N ∧ n ≤ 900 ∧ gI M (x + 2) 3 = -1
def CFl (x : Nat) (T : Sh) (fk fp : Nat) (M : Me) : Prop := PX x T M ∧ gI M (x + 2) 2 = nI fk ∧ gI M (x + 2) 3 = nI fp ∧ 1 ≤ fk ∧ fk ≤ 4
def fkd (n : Nat) (b : Nat → Nat) (i fk : Nat) : Nat := if tK b n i = 27 then 1 else fk
theorem fkd_b {fk : Nat} (h1 : 1 ≤ fk) (h2 : fk ≤ 4) : 1 ≤ fkd n b i fk ∧ fkd n b i fk ≤ 4 := by unfold fkd; split <;> omega
theorem TN.lt (h : TN n b N) (hi : i ≤ N) (h1 : tK b n i ≠ 26) (h2 : tK b n i ≠ 27) : i < N := by
  rcases Nat.lt_or_ge i N with q | q
  · exact q
  · have : i = N := by omega
    rw [this] at h1 h2
    rcases h.2.2 with w | w
    · exact absurd w h1
    · exact absurd w h2
theorem CBq.n9 (h : CBq x n N b T i M) : i ≤ 900 := by have := h.2.2.2.2.1; have := h.2.2.2.2.2.1.1; have := h.2.2.2.2.2.2.1; omega
theorem k_kind (h : CBq x n N b T i M) : fX6_kind T M (x + 2) = some (ck (tK b n i)) := by
  have h9 := h.n9
  obtain ⟨hp, ht, h1, h2, hi, _, _⟩ := h
  unfold fX6_kind
  rw [hp.k2, gdI, h2, if_pos rfl, hp.r2_0, Option.bind_some, hp.k3, gdI, hp.r3_0, Option.bind_some, hp.k4, gdI, h1, hp.l4, ite_lt (by omega) (by omega), if_pos (by omega), Option.bind_some, hp.k3, gdI, hp.r3_0, Option.bind_some, hp.k4, gdI, hp.l4, gvI (by omega) (by omega), cl_nI (by omega), (ht i (by omega)).1]
theorem k_kindF (hp : PX x T M) (h : gI M (x + 2) 2 ≠ 0) : fX6_kind T M (x + 2) = some (-2) := by
  unfold fX6_kind
  rw [hp.k2, gdI, if_neg h]
theorem CFl.ne {fk fp : Nat} (h : CFl x T fk fp M) : gI M (x + 2) 2 ≠ 0 := by
  have := h.2.2.2
  rw [h.2.1, i_0, Ne, c_eq (by omega) (by omega)]
  omega
theorem k_fail {fk : Nat} (h : CBq x n N b T i M) (h1 : 1 ≤ fk) (h2 : fk ≤ 4) : Ok (fX6_fail T M (x + 2) (nI fk)) (fun p => CFl x T (fkd n b i fk) (tP b n i) p.2 ∧ LFr x M p.2 ∧ gI p.2 (x + 2) 5 = gI M (x + 2) 5) := by
  have h9 := h.n9
  have hk := k_kind h
  obtain ⟨hp, ht, e1, e2, hi, _, _⟩ := h
  have key : ∀ k : Nat, Ok (jX6_fail_21 T M (x + 2) (nI k) (x + 2)) (fun p => (PX x T p.2 ∧ gI p.2 (x + 2) 2 = nI k ∧ gI p.2 (x + 2) 3 = nI (tP b n i)) ∧ LFr x M p.2 ∧ gI p.2 (x + 2) 5 = gI M (x + 2) 5) := by
    intro k
    unfold jX6_fail_21
    have f2 : LFr x M (pI M (x + 2) 2 (nI k)) := lfr_2 LFr.rfl (by omega)
    have hp2 := hp.lf f2
    have ht2 := ht.lf f2
    have g1 : gI (pI M (x + 2) 2 (nI k)) (x + 2) 1 = nI i := (mIIk (by omega)).trans e1
    have g2 : gI (pI M (x + 2) 2 (nI k)) (x + 2) 2 = nI k := mII1
    have g5 : gI (pI M (x + 2) 2 (nI k)) (x + 2) 5 = gI M (x + 2) 5 := mIIk (by omega)
    rw [hp.k2, gdI, lte, gdI]
    generalize pI M (x + 2) 2 (nI k) = M3 at *
    rw [hp2.r2_0, Option.bind_some, hp2.k3, gdI, hp2.r3_1, Option.bind_some, hp2.k5, gdI, hp2.l5, g1, ite_le (by omega) (by omega), if_neg (by omega), Option.bind_some, hp2.k3, gdI, hp2.r3_1, Option.bind_some, hp2.k5, gdI, hp2.l5, gvI (by omega) (by omega), cl_nI (by omega), (ht2 i (by omega)).2.1, lte]
    refine ok_i ⟨⟨hp2.eq rfl, (mIIk (by omega)).trans g2, mII1⟩, lfr_2 f2 (by omega), (mIIk (by omega)).trans g5⟩
  unfold fX6_fail
  rw [hp.k2, gdI, e2, if_pos rfl, hk, Option.bind_some]
  have hb := fkd_b (n := n) (b := b) (i := i) h1 h2
  have e : (if ck (tK b n i) = (-1 : Int32) then jX6_fail_21 T M (x + 2) (1 : Int32) (x + 2) else jX6_fail_21 T M (x + 2) (nI fk) (x + 2)) = jX6_fail_21 T M (x + 2) (nI (fkd n b i fk)) (x + 2) := by
    show (if ck (tK b n i) = ck 27 then _ else _) = _
    rw [ck_if (tK_v i) (by unfold vk; omega)]
    unfold fkd
    split <;> rfl
  rw [e]
  refine (key (fkd n b i fk)).mono (fun p hp => ⟨⟨hp.1.1, hp.1.2.1, hp.1.2.2, hb⟩, hp.2⟩)
theorem k_failF {k : Int32} (hp : PX x T M) (h : gI M (x + 2) 2 ≠ 0) : fX6_fail T M (x + 2) k = some ((), M) := by
  unfold fX6_fail
  rw [hp.k2, gdI, if_neg h]
theorem k_next (h : CBq x n N b T i M) (h1 : tK b n i ≠ 26) (h2 : tK b n i ≠ 27) : CBq x n N b T (i + 1) (pI M (x + 2) 1 (gI M (x + 2) 1 + 1)) ∧ LFr x M (pI M (x + 2) 1 (gI M (x + 2) 1 + 1)) := by
  have f : LFr x M (pI M (x + 2) 1 (gI M (x + 2) 1 + 1)) := lfr_2 LFr.rfl (by omega)
  have hlt := h.2.2.2.2.2.1.lt h.2.2.2.2.1 h1 h2
  exact ⟨⟨h.1.lf f, h.2.1.lf f, by rw [mII1, h.2.2.1, nI_1], (mIIk (by omega)).trans h.2.2.2.1, by omega, h.2.2.2.2.2.1, h.2.2.2.2.2.2.1, (mIIk (by omega)).trans h.2.2.2.2.2.2.2⟩, f⟩
theorem k_expect1 {k : Nat} {kk : Int32} (h : CBq x n N b T i M) (ek : kk = ck k) (h1 : tK b n i = k) (h2 : k ≠ 26) (h3 : k ≠ 27) : fX6_expect T M (x + 2) kk = some ((), pI M (x + 2) 1 (gI M (x + 2) 1 + 1)) := by
  unfold fX6_expect
  rw [h.1.k2, gdI, k_kind h, Option.bind_some, ek, h1, if_pos rfl, lte]
theorem k_expect0 {k : Nat} {kk : Int32} (h : CBq x n N b T i M) (ek : kk = ck k) (hk : vk k) (h1 : tK b n i ≠ k) : Ok (fX6_expect T M (x + 2) kk) (fun p => CFl x T (fkd n b i 2) (tP b n i) p.2 ∧ LFr x M p.2 ∧ gI p.2 (x + 2) 5 = gI M (x + 2) 5) := by
  unfold fX6_expect
  rw [h.1.k2, gdI, k_kind h, Option.bind_some, ek, ck_if (tK_v i) hk, if_neg h1, i_2]
  refine Ok.bd (k_fail h (by omega) (by omega)) (fun p hp => ?_)
  obtain ⟨p1, M3⟩ := p
  rw [une2]
  exact ok_i hp
theorem k_expectF {k : Nat} {kk : Int32} (hp : PX x T M) (h : gI M (x + 2) 2 ≠ 0) (ek : kk = ck k) (hk : k < 42) : fX6_expect T M (x + 2) kk = some ((), M) := by
  unfold fX6_expect
  rw [hp.k2, gdI, k_kindF hp h, Option.bind_some, ek, if_neg (fun e => ck_m2 k hk e.symm), k_failF hp h, Option.bind_some, une2]
theorem k_put {op od : Nat} {oo : Int32} {k : Nat} (hp : PX x T M) (h5 : gI M (x + 2) 5 = nI k) (hk : k < 900) (eo : oo = nI od) : fX6_put T M (x + 2) (nI op) oo = some (nI k, pI (pI M (x + 7) k (enc op od)) (x + 2) 5 (nI (k + 1))) := by
  unfold fX6_put
  have e5 : gI (pI M (x + 7) k (enc op od)) (x + 2) 5 = nI k := (mIIn (by omega)).trans h5
  rw [hp.k2, gdI, hp.r2_4, Option.bind_some, hp.k7, gdI, hp.l7, h5, ite_le (by omega) (by omega), if_neg (by omega), Option.bind_some, hp.k7, gdI, hp.l7, gvI (by omega) (by omega), cl_nI (by omega), eo, lte, lte]
  show some (gI (pI (pI M (x + 7) k (enc op od)) (x + 2) 5 (gI (pI M (x + 7) k (enc op od)) (x + 2) 5 + 1)) (x + 2) 5 - 1, pI (pI M (x + 7) k (enc op od)) (x + 2) 5 (gI (pI M (x + 7) k (enc op od)) (x + 2) 5 + 1)) = _
  rw [e5, nI_1, mII1, i_dec]
theorem k_land {k t : Nat} (hp : PX x T M) (hk : k < 900) (h5 : gI M (x + 2) 5 = nI t) : fX6_land T M (x + 2) (nI k) = some ((), pI M (x + 7) k ((gI M (x + 7) k &&& 15) ||| (nI t <<< ((4 : Int32) &&& 31)))) := by
  unfold fX6_land
  rw [if_neg (i_neg _ (by omega)), hp.k2, gdI, hp.r2_4, Option.bind_some, Option.bind_some, hp.k7, gdI, hp.l7, gvI (by omega) (by omega), gvI (by omega) (by omega), cl_nI (by omega), h5, gdI, lte]
theorem enc_land {op od t : Nat} (h1 : op < 13) (h2 : od < 1000) : (enc op od &&& 15) ||| (nI t <<< ((4 : Int32) &&& 31)) = enc op t := by
  rw [(enc_d op h1 od h2).1]
  rfl
/-! the reference -/
def rq (m a k : Nat) : Prop := a = m ∧ (k = 6 ∨ k = 7 ∨ k = 9 ∨ k = 10 ∨ k = 11 ∨ k = 12) ∨ a = m + 4 ∧ 131 ≤ k
theorem TR.rqf (h : TR m n b T M) (f : FI m (rq m) M M2) : TR m n b T M2 := h.fi f (by unfold rq; omega) (fun k => by unfold rq; omega)
theorem tq_rq {a k : Nat} (h : tq m a k) : rq m a k := by unfold tq at h; unfold rq; omega
def RBq (m n N : Nat) (b : Nat → Nat) (T : Sh) (i : Nat) (M : Me) : Prop := TR m n b T M ∧ gI M m 6 = nI (tP b n i) ∧ gI M m 7 = nI (te b n (i + 1)) ∧ gI M m 9 = nI (tK b n i) ∧ (tK b n i = 25 → gI M m 10 = nI (tV b n i)) ∧ gI M m 11 = 0 ∧ i ≤ N ∧ TN n b N
def RFl (m : Nat) (T : Sh) (fk fp : Nat) (M : Me) : Prop := RM m T M ∧ gI M m 11 = nI fk ∧ gI M m 12 = nI fp ∧ 1 ≤ fk ∧ fk ≤ 4
theorem RFl.ne {fk fp : Nat} (h : RFl m T fk fp M) : gI M m 11 ≠ 0 := by
  have := h.2.2.2
  rw [h.2.1, i_0, Ne, c_eq (by omega) (by omega)]
  omega
theorem RBq.k42 (_h : RBq m n N b T i M) : tK b n i < 42 := (vk_42 (tK_v i)).1
theorem r_is {k : Nat} {kk : Int32} (h : RBq m n N b T i M) (ek : kk = nI k) (hk : k < 100) : fX12_is T M m kk = some (if tK b n i = k then 1 else 0) := by
  have := h.k42
  unfold fX12_is
  rw [h.1.1.k, gdI, h.2.2.2.2.2.1, if_pos rfl, h.2.2.2.1, ek, ite_eq (by omega) (by omega)]
  split <;> rfl
theorem r_isF {kk : Int32} (hm : RM m T M) (h : gI M m 11 ≠ 0) : fX12_is T M m kk = some 0 := by
  unfold fX12_is
  rw [hm.k, gdI, if_neg h]
theorem r_next (h : RBq m n N b T i M) (h1 : tK b n i ≠ 26) (h2 : tK b n i ≠ 27) : Ok (fX12_next T M m) (fun p => RBq m n N b T (i + 1) p.2 ∧ FI m (tq m) M p.2) := by
  obtain ⟨t, e6, e7, e9, e10, e11, hi, hN⟩ := h
  have hlt := hN.lt hi h1 h2
  refine (r_nextp t e7 (te_le _)).mono (fun p hp => ?_)
  obtain ⟨f, g6, g7, g9, g10⟩ := hp
  exact ⟨⟨t.tqf f, g6, g7, g9, g10, (f.1 _ _ (by unfold tq; omega)).trans e11, by omega, hN⟩, f⟩
theorem r_eats1 {k : Nat} {kk : Int32} (h : RBq m n N b T i M) (ek : kk = nI k) (hk : k < 100) (e : tK b n i = k) (h1 : k ≠ 26) (h2 : k ≠ 27) : Ok (fX12_eats T M m kk) (fun p => p.1 = 1 ∧ RBq m n N b T (i + 1) p.2 ∧ FI m (tq m) M p.2) := by
  unfold fX12_eats
  rw [h.1.1.k, gdI, r_is h ek hk, if_pos e, Option.bind_some, if_neg (by decide)]
  refine Ok.bd (r_next h (by rw [e]; exact h1) (by rw [e]; exact h2)) (fun p hp => ?_)
  obtain ⟨p1, M3⟩ := p
  rw [une2]
  exact ok_i ⟨rfl, hp⟩
theorem r_eats0 {k : Nat} {kk : Int32} (h : RBq m n N b T i M) (ek : kk = nI k) (hk : k < 100) (e : tK b n i ≠ k) : fX12_eats T M m kk = some (0, M) := by
  unfold fX12_eats
  rw [h.1.1.k, gdI, r_is h ek hk, if_neg e, Option.bind_some, if_pos rfl]
theorem r_eatsF {kk : Int32} (hm : RM m T M) (h : gI M m 11 ≠ 0) : fX12_eats T M m kk = some (0, M) := by
  unfold fX12_eats
  rw [hm.k, gdI, r_isF hm h, Option.bind_some, if_pos rfl]
theorem r_fails {fk : Nat} (h : RBq m n N b T i M) (h1 : 1 ≤ fk) (h2 : fk ≤ 4) : Ok (fX12_fails T M m (nI fk)) (fun p => RFl m T (fkd n b i fk) (tP b n i) p.2 ∧ FI m (rq m) M p.2 ∧ gI p.2 m 10 = gI M m 10) := by
  have hb := fkd_b (n := n) (b := b) (i := i) h1 h2
  have := h.k42
  obtain ⟨t, e6, e7, e9, e10, e11, hi, hN⟩ := h
  unfold fX12_fails
  rw [t.1.k, gdI, e11, if_pos rfl, e9, i_27, ite_eq (by omega) (by omega)]
  have key : ∀ kk : Int32, kk = nI (fkd n b i fk) → Ok (lt (pI M m 11 kk) fun M6 => lt (pI M6 m 12 (gI M6 m 6)) fun M7 => (some ((), M7) : Option (Unit × Me))) (fun p => RFl m T (fkd n b i fk) (tP b n i) p.2 ∧ FI m (rq m) M p.2 ∧ gI p.2 m 10 = gI M m 10) := by
    intro kk e
    rw [lte, lte, mIIk (by omega), e6]
    refine ok_i ⟨⟨t.1.fr (fun _ => rfl), ?_, mII1, hb⟩, (FI.rfl.pI (Or.inl ⟨rfl, by omega⟩)).pI (Or.inl ⟨rfl, by omega⟩), ?_⟩
    · rw [mIIk (by omega), mII1, e]
    · rw [mIIk (by omega), mIIk (by omega)]
  by_cases z : tK b n i = 27
  · rw [if_pos z]
    exact key 1 (by unfold fkd; rw [if_pos z]; rfl)
  · rw [if_neg z]
    exact key (nI fk) (by unfold fkd; rw [if_neg z])
theorem r_failsF {kk : Int32} (hm : RM m T M) (h : gI M m 11 ≠ 0) : fX12_fails T M m kk = some ((), M) := by
  unfold fX12_fails
  rw [hm.k, gdI, if_neg h]
theorem r_codes {kk : Int32} (hm : RM m T M) (h : gI M m 11 = 0) (hq : gI M (m + 4) 131 = nI q) (h9 : q < 900) : fX12_codes T M m kk = some ((), pI (pI M (m + 4) (132 + q) kk) (m + 4) 131 (nI (q + 1))) := by
  unfold fX12_codes
  rw [hm.k, gdI, if_pos h, hm.r4, Option.bind_some, Option.bind_some, hm.k4, gdI, hm.l4, i_131, gvI (by omega) (by omega), cl_nI (by omega), hq, gdI, i_132, nI_add, gvI (by omega) (by omega), cl_nI (by omega), lte, mRI, hm.r4, Option.bind_some, hm.k4, gdI, hm.l4, gvI (by omega) (by omega), gvI (by omega) (by omega), mIIk (by omega), hq, nI_1, lte]
theorem r_codesF {kk : Int32} (hm : RM m T M) (h : gI M m 11 ≠ 0) : fX12_codes T M m kk = some ((), M) := by
  unfold fX12_codes
  rw [hm.k, gdI, if_neg h]
end
