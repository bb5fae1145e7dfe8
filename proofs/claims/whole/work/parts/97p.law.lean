/-! a law of a lab -/
section
variable {x m n N lw i o q d a l : Nat} {b : Nat → Nat} {sp u : Int32} {T : Sh} {M M1 M2 : Me} {F : Nat → Int32}
theorem TE.trans {T1 T2 T3 : Sh} (h : TE T1 T2) (h2 : TE T2 T3) : TE T1 T3 := ⟨Nat.le_trans h.1 h2.1, fun a ha => ⟨(h2.2 a (by have := h.1; omega)).1.trans (h.2 a ha).1, (h2.2 a (by have := h.1; omega)).2.trans (h.2 a ha).2⟩⟩
theorem PX.te {T2 : Sh} (h : PX x T M) (hT : TE T T2) (ht : x + 69 ≤ tp T) : PX x T2 M := ⟨fun i hi => ⟨(hT.2 _ (by omega)).1.trans (h.1 i hi).1, (hT.2 _ (by omega)).2.trans (h.1 i hi).2⟩, h.2⟩
theorem PX.old {T2 : Sh} (h : PX x T M) (hT : TE T T2) (ht : x + 69 ≤ tp T) (e : ∀ c k, c < tp T → gR M2 c k = gR M c k) : PX x T2 M2 := by
  refine (h.te hT ht).fr (fun i hi => e _ _ ?_)
  have hx : ∀ i, i < 48 → xO i ≤ 65 := by decide
  have := hx i hi
  omega
/-- what lies below t, but for the reader, stays -/
def RG (x t : Nat) (M M2 : Me) : Prop := (∀ c k, c < t → ¬ (x + 2 ≤ c ∧ c ≤ x + 7) → gI M2 c k = gI M c k) ∧ ∀ c k, c < t → gJ M2 c k = gJ M c k ∧ gR M2 c k = gR M c k
theorem RG.trans {t t2 : Nat} (h : RG x t M M1) (h2 : RG x t2 M1 M2) (ht : t ≤ t2) : RG x t M M2 := ⟨fun c k a1 a2 => (h2.1 c k (by omega) a2).trans (h.1 c k a1 a2), fun c k a1 => ⟨(h2.2 c k (by omega)).1.trans (h.2 c k a1).1, (h2.2 c k (by omega)).2.trans (h.2 c k a1).2⟩⟩
theorem RG.rfl {t : Nat} : RG x t M M := ⟨fun _ _ _ _ => Eq.refl _, fun _ _ _ => ⟨Eq.refl _, Eq.refl _⟩⟩
theorem LFr.rg {t : Nat} (h : LFr x M M2) : RG x t M M2 := ⟨fun c k _ a2 => h.1 c k (by omega) (by omega), fun c k _ => ⟨by unfold gJ; rw [h.2], by unfold gR; rw [h.2]⟩⟩
theorem RG.pI {t c k : Nat} {v : Int32} (h : RG x t M M1) (hc : t ≤ c ∨ (x + 2 ≤ c ∧ c ≤ x + 7)) : RG x t M (pI M1 c k v) := ⟨fun e j a1 a2 => by rw [mIIn (by omega)]; exact h.1 e j a1 a2, fun e j a1 => h.2 e j a1⟩
theorem RG.pR {t c k : Nat} {v : Option Nat} (h : RG x t M M1) (hc : t ≤ c) : RG x t M (pR M1 c k v) := ⟨fun e j a1 a2 => h.1 e j a1 a2, fun e j a1 => ⟨(h.2 e j a1).1, by rw [mRR, if_neg (by omega)]; exact (h.2 e j a1).2⟩⟩
theorem RG.new {t : Nat} (h : RG x t M M1) (ht : t ≤ tp T) : RG x t M (nM T M1) := ⟨fun c k a1 a2 => (gI_old (by omega)).trans (h.1 c k a1 a2), fun c k a1 => ⟨(gJ_old (by omega)).trans (h.2 c k a1).1, (gR_old (by omega)).trans (h.2 c k a1).2⟩⟩
theorem c_lawt {z : Nat} (hp : PX x T M) (ht : x + 88 ≤ tp T) (h5 : gI M (x + 2) 5 = nI z) (hz : z < 900) (h7 : gI M (x + 2) 7 = u) : Ok (jX6_readLaw_53 (nT T 3 0 2) (nM T M) (x + 2) (tp T)) (fun p => p.1 = tp T ∧ p.2.1 = nT (nT T 3 0 2) 13 z z ∧ (∀ c k, c < tp T → gI p.2.2 c k = gI M c k ∧ gJ p.2.2 c k = gJ M c k ∧ gR p.2.2 c k = gR M c k) ∧ gI p.2.2 (tp T) 1 = u ∧ gR p.2.2 (tp T) 0 = some (tp T + 1) ∧ ∀ j, j < z → gI p.2.2 (tp T + 1) j = gI M (x + 7) j) := by
  have e1 : TE T (nT T 3 0 2) := TE.new
  have e2 : TE (nT T 3 0 2) (nT (nT T 3 0 2) 13 z z) := TE.new
  have t1 : tp (nT T 3 0 2) = tp T + 1 := rfl
  have hp1 : PX x (nT T 3 0 2) (nM T M) := hp.old e1 (by omega) (fun c k hc => gR_old (by omega))
  have hp2 : PX x (nT (nT T 3 0 2) 13 z z) (nM T M) := hp1.te e2 (by omega)
  have g5 : gI (nM T M) (x + 2) 5 = nI z := (gI_old (by omega)).trans h5
  have kn : kd (nT (nT T 3 0 2) 13 z z) (tp (nT T 3 0 2)) = 13 := if_pos rfl
  have lnn : ln (nT (nT T 3 0 2) 13 z z) (tp (nT T 3 0 2)) = z := if_pos rfl
  have k3 : kd (nT (nT T 3 0 2) 13 z z) (tp T) = 3 := ((e2.2 (tp T) (by omega)).1).trans (if_pos rfl)
  unfold jX6_readLaw_53
  rw [hp1.k2, gdI, hp1.r2_4, Option.bind_some, g5]
  have hcp : fJ7_copyOf_59c91 (nT T 3 0 2) (nM T M) (x + 7) (nI z) = some (tp (nT T 3 0 2), nT (nT T 3 0 2) 13 z z, cpM (nM (nT T 3 0 2) (nM T M)) (x + 7) (tp (nT T 3 0 2)) z) := by
    unfold fJ7_copyOf_59c91 jJ7_copyOf_59c91_17
    rw [hp1.k7, gdI, hp1.l7, ite_eq (by omega) (by omega), if_neg (by omega), gd_pos (i_neg _ (by omega)), cl_nI (by omega), gd_pos (by omega), hp2.k7, gdI, hp2.l7]
    have hmin : fJ9_min_7cf53 (nI 900) (nI z) = some (nI z) := by
      unfold fJ9_min_7cf53
      rw [ite_lt (by omega) (by omega), if_pos hz]
    rw [hmin, Option.bind_some, kn, gdI, gd_pos (i_neg _ (by omega)), cl_nI (by omega), gd_pos (by omega), lnn, gd_pos (Nat.le_refl _)]
  rw [hcp, Option.bind_some, une3]
  unfold jX6_readLaw_65 fX4_init
  rw [hp2.k2, gdI, k3, gdI, lte, lte, Option.bind_some, une2]
  have c7 : ∀ c k, c ≠ tp (nT T 3 0 2) → gI (cpM (nM (nT T 3 0 2) (nM T M)) (x + 7) (tp (nT T 3 0 2)) z) c k = gI (nM (nT T 3 0 2) (nM T M)) c k := fun c k hc => by
    show (va_up _ _ _ : Nat → Nat → Int32) c k = _
    unfold va_up
    rw [if_neg hc]; rfl
  refine ok_i ⟨rfl, rfl, fun c k hc => ⟨?_, ?_, ?_⟩, ?_, ?_, fun j hj => ?_⟩
  · show gI (pI (pR _ (tp T) 0 _) (tp T) 1 _) c k = _
    rw [mIIn (by omega)]
    show gI (cpM (nM (nT T 3 0 2) (nM T M)) (x + 7) (tp (nT T 3 0 2)) z) c k = _
    rw [c7 c k (by omega), gI_old (by omega), gI_old (by omega)]
  · show gJ (nM (nT T 3 0 2) (nM T M)) c k = _
    rw [gJ_old (by omega), gJ_old (by omega)]
  · show gR (pR (nM (nT T 3 0 2) (nM T M)) (tp T) 0 _) c k = _
    rw [mRR, if_neg (by omega), gR_old (by omega), gR_old (by omega)]
  · show gI (pI (pR _ (tp T) 0 _) (tp T) 1 _) (tp T) 1 = _
    rw [mII1]
    show gI (cpM (nM (nT T 3 0 2) (nM T M)) (x + 7) (tp (nT T 3 0 2)) z) (x + 2) 7 = _
    rw [c7 _ _ (by omega), gI_old (by omega), gI_old (by omega)]
    exact h7
  · show gR (pR (nM (nT T 3 0 2) (nM T M)) (tp T) 0 (some (tp (nT T 3 0 2)))) (tp T) 0 = _
    rw [mRR, if_pos ⟨rfl, rfl⟩]; rfl
  · show gI (pI (pR _ (tp T) 0 _) (tp T) 1 _) (tp T + 1) j = _
    rw [mIIn (by omega)]
    show (va_up (nM (nT T 3 0 2) (nM T M)).1 (tp (nT T 3 0 2)) (va_cpy ((nM (nT T 3 0 2) (nM T M)).1 (x + 7)) ((nM (nT T 3 0 2) (nM T M)).1 (tp (nT T 3 0 2))) 0 0 z) : Nat → Nat → Int32) (tp T + 1) j = _
    unfold va_up va_cpy
    rw [if_pos t1.symm]
    show (if 0 ≤ j ∧ j < 0 + z then gI (nM (nT T 3 0 2) (nM T M)) (x + 7) (0 + (j - 0)) else _) = _
    rw [if_pos ⟨by omega, by omega⟩]
    rw [show 0 + (j - 0) = j by omega, gI_old (by omega), gI_old (by omega)]
/-- a law is read by both -/
def wlw (lw : Nat) : Nat := if lw = 2 then 3 else 0
def LPq (x m n N : Nat) (b : Nat → Nat) (lw i : Nat) : Prop :=
  (∃ i2 cc rc u2 v, SXq N 22 lw (lw < 2) (i + 2) 0 0 i2 cc rc u2 v ∧ (∀ T M, CBq x n N b T i M → x + 88 ≤ tp T → Ok (fX6_readLaw T M (x + 2) (spO lw)) (fun p => p.1 = tp T ∧ p.2.1 = nT (nT T 3 0 2) 13 cc.length cc.length ∧ CBq x n N b p.2.1 i2 p.2.2 ∧ RG x (tp T) M p.2.2 ∧ gI p.2.2 (tp T) 1 = u2 ∧ gR p.2.2 (tp T) 0 = some (tp T + 1) ∧ SEG (gI p.2.2 (tp T + 1)) 0 cc)) ∧ ∀ T M q, RBq m n N b T i M → gI M (m + 4) 131 = nI q → q + 6 ≤ i → (∀ j, q ≤ j → j < 900 → gI M (m + 4) (132 + j) = 0) → Ok (fX12_readLaw T M m (nI lw)) (fun p => RBq m n N b T i2 p.2 ∧ FI m (fun c k => rl m c k ∨ c = m ∧ k = 15) M p.2 ∧ gI p.2 (m + 4) (5 + lw) = 1 ∧ gI p.2 (m + 4) (8 + lw) = nI q ∧ gI p.2 (m + 4) (11 + lw) = nI rc.length ∧ gI p.2 (m + 4) 131 = nI (q + rc.length) ∧ (∀ k, k < 131 → k ≠ 5 + lw → k ≠ 8 + lw → k ≠ 11 + lw → gI p.2 (m + 4) k = gI M (m + 4) k) ∧ (∀ j, j < q → gI p.2 (m + 4) (132 + j) = gI M (m + 4) (132 + j)) ∧ SEG (gI p.2 (m + 4)) (132 + q) rc ∧ ∀ j, q + rc.length ≤ j → j < 900 → gI p.2 (m + 4) (132 + j) = 0))
  ∨ ∃ fk iF, iF ≤ N ∧ (∀ T M, CBq x n N b T i M → x + 88 ≤ tp T → Ok (fX6_readLaw T M (x + 2) (spO lw)) (fun p => p.1 = tp T ∧ (∃ z, z < 900 ∧ p.2.1 = nT (nT T 3 0 2) 13 z z) ∧ CFl x p.2.1 fk (tP b n iF) p.2.2 ∧ RG x (tp T) M p.2.2)) ∧ ∀ T M q, RBq m n N b T i M → gI M (m + 4) 131 = nI q → q + 6 ≤ i → (∀ j, q ≤ j → j < 900 → gI M (m + 4) (132 + j) = 0) → Ok (fX12_readLaw T M m (nI lw)) (fun p => RFl m T fk (tP b n iF) p.2 ∧ FI m (fun c k => rl m c k ∨ c = m ∧ k = 15) M p.2)
end
