/-! a day -/
/-- a call that may make cells -/
def QT {α : Type} (x : Nat) (S : Wd) (f : Sh → Me → Option (α × Sh × Me)) (g : Sh → Me → Option (α × Me)) : Prop := ∃ r S', Wd.ok S' ∧ S'.c ≤ S.c + 1 ∧ (∀ T M, WC x S T M → Ok (f T M) (fun p => p.1 = r ∧ WC x S' p.2.1 p.2.2 ∧ CF x M p.2.2 ∧ TE T p.2.1 ∧ tp p.2.1 ≤ tp T + 1100 ∧ sl p.2.1 ≤ sl T + 14000)) ∧ ∀ T M, WR (x + 69) S T M → Ok (g T M) (fun p => p.1 = r ∧ WR (x + 69) S' T p.2 ∧ RF (x + 69) M p.2)
def zq (s : Int32) : Nat → Int32
  | 0 => s
  | i + 1 => (drw (zq s i)).2
def zn (s : Int32) (i : Nat) : Int64 := (drw (zq s i)).1.toInt64
noncomputable def zc (s : Int32) (A : Nat → Int32) : Nat → Nat
  | 0 => 0
  | i + 1 => zc s A i + if (dd (sq2 (zn s) A i) (zn s i)).1 = 0 then 1 else 0
theorem zc_le (s : Int32) (A : Nat → Int32) : ∀ i, zc s A i ≤ i
  | 0 => Nat.le_refl _
  | i + 1 => by
    have := zc_le s A i
    unfold zc
    split <;> omega
section
variable {x z m : Nat} {A B : Nat → Int32} {T T2 : Sh} {M M1 M2 : Me} {S : Wd}
theorem zf_eq {k : Nat} (h : ZF z k M M2) : M2 = pI M z k (gI M2 z k) := by
  refine me_ext (fun a q => ?_) (fun a q => ?_) (fun a q => ?_)
  · rw [mII]
    by_cases y : a = z ∧ q = k
    · rw [if_pos y, y.1, y.2]
    · rw [if_neg y]; exact h.1 a q y
  · show M2.2.1 a q = M.2.1 a q
    rw [h.2]
  · show M2.2.2 a q = M.2.2 a q
    rw [h.2]
theorem zc_0 {s : Int32} : ∀ i, zc s A i = 0 → sq2 (zn s) A i = A
  | 0, _ => rfl
  | i + 1, h => by
    unfold zc at h
    have h1 : zc s A i = 0 := by omega
    have h2 : ¬ (dd (sq2 (zn s) A i) (zn s i)).1 = 0 := fun y => by rw [if_pos y] at h; omega
    show (dd (sq2 (zn s) A i) (zn s i)).2 = A
    rw [dd_no h2]
    exact zc_0 i h1
/-- what a day of the class keeps -/
def DZ (x z : Nat) (S : Wd) (s : Int32) (T : Sh) (M0 : Me) (i : Nat) (M : Me) : Prop := CV x (sq2 (zn s) S.A i) T M ∧ UN x S.A S.u M ∧ WX x S T M ∧ SD (x + 27) (wA S.A) M ∧ gI M z 0 = zq s i ∧ CF x M0 M
theorem c_dayl {s : Int32} {M0 : Me} (hS : S.ok) {n : Nat} (hn : n ≤ 40) (hz : kd T z = 0) (hx : x + 88 ≤ z) (h : DZ x z S s T M0 0 M) : Ok (lp FU (fun q => bX11_day_40 T x (nI n) z q.1 q.2.1 q.2.2) ((0 : Int32), (0 : Int32), M)) (fun r => r.1 = nI (zc s S.A n) ∧ DZ x z S s T M0 n r.2) := by
  refine ok_forF (s := ((0 : Int32), (0 : Int32), M)) 0 n (fun i q => ∃ M', q = (nI (zc s S.A i), nI i, M') ∧ DZ x z S s T M0 i M') _ ⟨M, rfl, h⟩ (by omega) (by omega) (fun i q _ hi hI => ?_) (fun q hI => ?_)
  · obtain ⟨M', rfl, h1, h2, h3, h4, h5, h6⟩ := hI
    show Ok (bX11_day_40 T x (nI n) z (nI (zc s S.A i)) (nI i) M') _
    unfold bX11_day_40
    rw [ite_le (by omega) (by omega), if_neg (by omega), hz, gdI]
    refine Ok.bd (c_nextDeed hz h5) (fun p hq => ?_)
    obtain ⟨p1, M1⟩ := p
    obtain ⟨rfl, e2, f2⟩ := hq
    have e2 : gI M1 z 0 = zq s (i + 1) := e2
    have eM : M1 = pI M' z 0 (gI M1 z 0) := zf_eq f2
    have k1 : CV x (sq2 (zn s) S.A i) T M1 := by rw [eM]; exact h1.pz hz hx
    have k2 : UN x S.A S.u M1 := by rw [eM]; exact h2.pz hx
    have k3 : WX x S T M1 := by rw [eM]; exact h3.pz hz hx
    have k4 : SD (x + 27) (wA S.A) M1 := h4.fr (fun k => f2.1 _ _ (by omega)) (fun k => f2.1 _ _ (by omega))
    have k6 : CF x M0 M1 := h6.trans (fun a k _ _ => ⟨f2.1 _ _ (by omega), by unfold gJ; rw [f2.2], by unfold gR; rw [f2.2]⟩)
    rw [une2, k1.px.k0, gdI]
    have hO := (sq2_ok (nu := zn s) hS.1.1 i (by have := hS.1.2; omega)).1
    refine Ok.bd (c_doDeed k1 (by have := hO.2.2; have := hS.1.2; omega) (zn s i)) (fun p hq => ?_)
    obtain ⟨p1, M3⟩ := p
    obtain ⟨rfl, f3, h7⟩ := hq
    have f3 : DF x M1 M3 := f3
    have kk : DZ x z S s T M0 (i + 1) M3 := ⟨h7, k2.df f3, k3.wf f3.wf, sd_df k4 f3, (f3.1 _ _ (by omega) (by omega) (by omega) (by omega) (by omega)).trans e2, k6.trans f3.wf.2.2.2⟩
    rw [une2]
    by_cases y : (dd (sq2 (zn s) S.A i) (zn s i)).1 = 0
    · have ez : zc s S.A (i + 1) = zc s S.A i + 1 := by rw [zc, if_pos y]
      rw [if_pos y, lte, lte, nI_1, nI_1]
      exact ok_i ⟨M3, by rw [ez], kk⟩
    · have ez : zc s S.A (i + 1) = zc s S.A i := by rw [zc, if_neg y, Nat.add_zero]
      rw [if_neg y, lte, nI_1]
      exact ok_i ⟨M3, by rw [ez], kk⟩
  · obtain ⟨M', rfl, h1⟩ := hI
    show Ok (bX11_day_40 T x (nI n) z (nI (zc s S.A n)) (nI n) M') _
    unfold bX11_day_40
    rw [ite_le (by omega) (by omega), if_pos (Nat.le_refl _)]
    exact ok_i ⟨rfl, h1⟩
def yf32 (m a k : Nat) : Prop := tf m a k ∨ a = m ∧ k = 32
theorem r_dayl {s : Int32} {M0 : Me} (hS : S.ok) {n : Nat} (hn : n ≤ 40) (h0 : FI m (yf32 m) M0 M) (h : RV m S.A T M) (hs : gI M m 32 = s) : Ok (lp FU (fun q => bX12_day_34 T m (nI n) q.1 q.2.1 q.2.2) ((0 : Int32), (0 : Int32), M)) (fun r => r.1 = nI (zc s S.A n) ∧ FI m (yf32 m) M0 r.2 ∧ RV m (sq2 (zn s) S.A n) T r.2) := by
  refine ok_forF (s := ((0 : Int32), (0 : Int32), M)) 0 n (fun i q => ∃ M', q = (nI (zc s S.A i), nI i, M') ∧ FI m (yf32 m) M0 M' ∧ RV m (sq2 (zn s) S.A i) T M' ∧ gI M' m 32 = zq s i) _ ⟨M, rfl, h0, h, hs⟩ (by omega) (by omega) (fun i q _ hi hI => ?_) (fun q hI => ?_)
  · obtain ⟨M', rfl, h1, h2, h3⟩ := hI
    show Ok (bX12_day_34 T m (nI n) (nI (zc s S.A i)) (nI i) M') _
    unfold bX12_day_34
    rw [ite_le (by omega) (by omega), if_neg (by omega), h2.rm.k, gdI]
    refine Ok.bd (r_drawn h2.rm.k h3) (fun p hq => ?_)
    obtain ⟨p1, M1⟩ := p
    obtain ⟨rfl, e2, f2⟩ := hq
    have e2 : gI M1 m 32 = zq s (i + 1) := e2
    have eM : M1 = pI M' m 32 (gI M1 m 32) := zf_eq f2
    have f1 : FI m (yf32 m) M0 M1 := by rw [eM]; exact h1.pI (Or.inr ⟨rfl, rfl⟩)
    have h4 : RV m (sq2 (zn s) S.A i) T M1 := by
      rw [eM]
      exact h2.qf ⟨fun a k q => by rw [mII, if_neg (fun z => q (by unfold sq; omega))], fun _ _ _ => rfl, fun _ _ _ => rfl⟩
    have hO := (sq2_ok (nu := zn s) hS.1.1 i (by have := hS.1.2; omega)).1
    rw [une2]
    refine Ok.bd (r_whyNot h4 (zn s i)) (fun p hq => ?_)
    obtain ⟨p1, M3⟩ := p
    obtain ⟨rfl, f3, lb⟩ := hq
    have f3 : FI m (kf m) M1 M3 := f3
    have h5 : RV m (sq2 (zn s) S.A i) T M3 := h4.kfr f3
    have f5 : FI m (yf32 m) M0 M3 := f1.trans (f3.wide (fun a k q => Or.inl (Or.inl (Or.inl q))))
    have e5 : gI M3 m 32 = zq s (i + 1) := (f3.1 _ _ (by unfold kf; omega)).trans e2
    rw [une2]
    by_cases y : (dd (sq2 (zn s) S.A i) (zn s i)).1 = 0
    · have ez : zc s S.A (i + 1) = zc s S.A i + 1 := by rw [zc, if_pos y]
      rw [if_pos y]
      have h6 := r_does h5 (by have := hO.2.2; have := hS.1.2; omega) (zn s i) y lb
      rw [show (zn s i).toInt32 = (drw (zq s i)).1 from Int32.toInt32_toInt64 _] at h6
      refine Ok.bd h6 (fun p hq => ?_)
      obtain ⟨p1, M4⟩ := p
      obtain ⟨f6, h7⟩ := hq
      have f6 : FI m (df m) M3 M4 := f6
      rw [une2, lte, lte, nI_1, nI_1]
      exact ok_i ⟨M4, by rw [ez], f5.trans (f6.wide (fun a k q => Or.inl (Or.inl q))), h7, (f6.1 _ _ (by unfold df kf; omega)).trans e5⟩
    · have ez : zc s S.A (i + 1) = zc s S.A i := by rw [zc, if_neg y, Nat.add_zero]
      rw [if_neg y, lte, nI_1]
      refine ok_i ⟨M3, by rw [ez], f5, ?_, e5⟩
      show RV m (dd (sq2 (zn s) S.A i) (zn s i)).2 T M3
      rw [dd_no y]; exact h5
  · obtain ⟨M', rfl, h1, h2, h3⟩ := hI
    show Ok (bX12_day_34 T m (nI n) (nI (zc s S.A n)) (nI n) M') _
    unfold bX12_day_34
    rw [ite_le (by omega) (by omega), if_pos (Nat.le_refl _)]
    exact ok_i ⟨rfl, h1, h2⟩
theorem qt_no {α : Type} {f : Sh → Me → Option (α × Sh × Me)} {g : Sh → Me → Option (α × Me)} (hS : S.ok) (r : α) (h1 : ∀ T M, WC x S T M → f T M = some (r, T, M)) (h2 : ∀ T M, WR (x + 69) S T M → g T M = some (r, pI M (x + 69) 0 0)) : QT x S f g :=
  ⟨r, S, hS, by omega, fun T M h => by rw [h1 T M h]; exact ok_i ⟨rfl, h, CF.rfl, TE.rfl, by show tp T ≤ _; omega, by show sl T ≤ _; omega⟩, fun T M h => by rw [h2 T M h]; exact ok_i ⟨rfl, h.t0⟩⟩
theorem yf_r {a k : Nat} (q : yf32 m a k) : m ≤ a ∧ a ≤ m + 18 := by unfold yf32 tf df kf at q; omega
theorem yf_y {a k : Nat} (q : yf32 m a k) : ¬ (a = m ∧ (k = 5 ∨ k = 13 ∨ k = 14) ∨ a = m + 2 ∨ a = m + 3 ∨ a = m + 16 ∨ a = m + 17 ∨ a = m + 1 ∧ 1032 ≤ k) := by unfold yf32 tf df kf at q; omega
theorem s_day (hS : S.ok) (hc : S.c < 600) (s a : Int32) : QT x S (fun T M => fX11_day T M x s a) (fun T M => fX12_day T M (x + 69) s a) := by
  have k1 : (1 : Int32).toInt = 1 := by decide
  have k40 : (40 : Int32).toInt = 40 := by decide
  have j1 : (1 : Int64).toInt = 1 := by decide
  have j40 : (40 : Int64).toInt = 40 := by decide
  by_cases ha : 1 ≤ a.toInt ∧ a.toInt ≤ 40
  rotate_left
  · refine qt_no hS (-3) (fun T M h => ?_) (fun T M h => ?_)
    · show fX11_day T M x s a = _
      unfold fX11_day
      by_cases z : a < 1
      · rw [if_pos z]
      · rw [if_neg z, if_neg]
        rw [fa_lt, k1] at z
        rw [fa_le, k40]
        omega
    · show fX12_day T M (x + 69) s a = _
      unfold fX12_day
      rw [h.1.1.k, gdI, lte, wi_0 (by rw [Int32.toInt_toInt64, j1, j40]; exact ha), Option.bind_some, if_pos rfl]
  obtain ⟨n, hn, rfl⟩ : ∃ n, n < 41 ∧ a = nI n := by
    rcases ix_I a 41 (by omega) with q | q
    · exact q
    · omega
  have hn1 : 1 ≤ n := by rw [nI_toInt (by omega)] at ha; omega
  have hN := sq2_ok (nu := zn s) hS.1.1 n (by have := hS.1.2; omega)
  have hcz := zc_le s S.A n
  have cHead : ∀ T M, WC x S T M → Ok (fX8_copy T M (x + 27) (x + 25)) (fun p => Ok (lp FU (fun q => bX11_day_40 (nT T 0 0 1) x (nI n) (tp T) q.1 q.2.1 q.2.2) ((0 : Int32), (0 : Int32), pI (nM T p.2) (tp T) 0 s)) (fun r => r.1 = nI (zc s S.A n) ∧ DZ x (tp T) S s (nT T 0 0 1) M n r.2)) := by
    intro T M h
    refine (c_keep h).mono (fun p hq => ?_)
    obtain ⟨p1, M1⟩ := p
    obtain ⟨h1, s1, f1⟩ := hq
    have h1 : WC x S T M1 := h1
    have htp := h.2.2.1
    have hz : kd (nT T 0 0 1) (tp T) = 0 := if_pos rfl
    have h2 : WC x S (nT T 0 0 1) (nM T M1) := h1.new
    have s2 : SD (x + 27) (wA S.A) (nM T M1) := SD.fr s1 (fun k => gI_old (by omega)) (fun k => gI_old (by omega))
    refine c_dayl hS (by omega) hz (by omega) ⟨h2.1.pz hz (by omega), h2.2.1.pz (by omega), h2.2.2.pz hz (by omega), s2.fr (fun k => mIIn (by omega)) (fun k => mIIn (by omega)), mII1, f1.trans (fun b k _ _ => ⟨(mIIn (by omega)).trans (gI_old (by omega)), gJ_old (by omega), gR_old (by omega)⟩)⟩
  have cIn : ∀ T M, WC x S T M → fX11_day T M x s (nI n) = Option.bind (fX8_copy T M (x + 27) (x + 25)) (un2 fun _u M7 => jX11_day_28 (nT T 0 0 1) (nM T M7) x s (nI n) (tp T)) := by
    intro T M h
    have hp := h.1.px
    unfold fX11_day
    rw [i_1, i_40, ite_lt (by omega) (by omega), ite_le (by omega) (by omega), if_neg (by omega), if_pos (by omega), hp.k0, gdI, hp.r0_6, Option.bind_some, hp.r0_5, Option.bind_some, hp.k27, gdI]
  have jIn : ∀ T M, jX11_day_28 (nT T 0 0 1) M x s (nI n) (tp T) = (lp FU (fun q => bX11_day_40 (nT T 0 0 1) x (nI n) (tp T) q.1 q.2.1 q.2.2) ((0 : Int32), (0 : Int32), pI M (tp T) 0 s)).bind (un2 fun x4_20 M21 => if x4_20 ≤ 0 then (some (x4_20, nT T 0 0 1, M21)) else (gd (kd (nT T 0 0 1) x = 10) <| Option.bind (gR M21 x 6) fun a24 => Option.bind (fX11_remember (nT T 0 0 1) M21 x a24) <| un2 fun _u M25 => some (x4_20, nT T 0 0 1, M25))) := by
    intro T M
    have hz : kd (nT T 0 0 1) (tp T) = 0 := if_pos rfl
    unfold jX11_day_28 fX1_init
    rw [hz, gdI, lte, Option.bind_some, une2]
  have rIn : ∀ T M, WR (x + 69) S T M → Ok (fX12_stores T (pI M (x + 69) 0 0) (x + 69)) (fun p => WZ (x + 69) (wA S.A) p.2 ∧ WR (x + 69) S T p.2 ∧ RF (x + 69) M p.2 ∧ Ok (lp FU (fun q => bX12_day_34 T (x + 69) (nI n) q.1 q.2.1 q.2.2) ((0 : Int32), (0 : Int32), pI p.2 (x + 69) 32 s)) (fun r => r.1 = nI (zc s S.A n) ∧ FI (x + 69) (yf32 (x + 69)) p.2 r.2 ∧ RV (x + 69) (sq2 (zn s) S.A n) T r.2)) := by
    intro T M h
    obtain ⟨h0, f0⟩ := h.t0 (v := 0)
    refine (r_act h0).mono (fun p hq => ?_)
    obtain ⟨p1, M1⟩ := p
    obtain ⟨w1, h1, f1⟩ := hq
    have h1 : WR (x + 69) S T M1 := h1
    refine ⟨w1, h1, f0.trans (f1.rf (fun a k q => by omega)), ?_⟩
    have hv := h1.rv hS
    exact r_dayl hS (by omega) (FI.rfl.pI (Or.inr ⟨rfl, rfl⟩)) (hv.qf ⟨fun a k q => by rw [mII, if_neg (fun z => q (by unfold sq; omega))], fun _ _ _ => rfl, fun _ _ _ => rfl⟩) mII1
  have w1 : fX12_within (nI n).toInt64 1 40 = some 1 := wi_1 (by rw [Int32.toInt_toInt64, j1, j40]; exact ha)
  by_cases J0 : zc s S.A n = 0
  · refine ⟨nI 0, S, hS, by omega, fun T M h => ?_, fun T M h => ?_⟩
    · show Ok (fX11_day T M x s (nI n)) _
      rw [cIn T M h]
      refine Ok.bd (cHead T M h) (fun p hq => ?_)
      obtain ⟨p1, M1⟩ := p
      rw [une2, jIn]
      refine Ok.bd hq (fun r hr => ?_)
      obtain ⟨r1, M2⟩ := r
      obtain ⟨rfl, c1, c2, c3, c4, c5, c6⟩ := hr
      rw [J0, une2, if_pos (by decide)]
      rw [zc_0 n J0] at c1
      exact ok_i ⟨rfl, ⟨c1, c2, c3⟩, c6, TE.new, by show tp T + 1 ≤ _; omega, by show sl T + 1 ≤ _; omega⟩
    · show Ok (fX12_day T M (x + 69) s (nI n)) _
      unfold fX12_day
      rw [h.1.1.k, gdI, lte, w1, Option.bind_some, if_neg (by decide)]
      refine Ok.bd (rIn T M h) (fun p hq => ?_)
      obtain ⟨p1, M1⟩ := p
      obtain ⟨w2, h1, f1, hq⟩ := hq
      have h1 : WR (x + 69) S T M1 := h1
      rw [une2, lte]
      refine Ok.bd hq (fun r hr => ?_)
      obtain ⟨r1, M2⟩ := r
      obtain ⟨rfl, f2, h2⟩ := hr
      rw [J0, une2, if_pos (by decide)]
      rw [zc_0 n J0] at h2
      exact ok_i ⟨rfl, ⟨h2.rw, h1.2.yf (f2.yf (fun _ _ => yf_y))⟩, f1.trans (f2.rf (fun _ _ => yf_r))⟩
  · have npos : ¬ nI (zc s S.A n) ≤ (0 : Int32) := by rw [i_0, c_le (by omega) (by omega)]; omega
    have hok : (acW S (sq2 (zn s) S.A n)).ok := ok_act hS hc (hN.1.up (by omega)) hN.2.1 (fun k a _ => hN.2.2 k a)
    refine ⟨nI (zc s S.A n), acW S (sq2 (zn s) S.A n), hok, Nat.le_refl _, fun T M h => ?_, fun T M h => ?_⟩
    · show Ok (fX11_day T M x s (nI n)) _
      rw [cIn T M h]
      refine Ok.bd (cHead T M h) (fun p hq => ?_)
      obtain ⟨p1, M1⟩ := p
      rw [une2, jIn]
      refine Ok.bd hq (fun r hr => ?_)
      obtain ⟨r1, M2⟩ := r
      obtain ⟨rfl, c1, c2, c3, c4, c5, c6⟩ := hr
      have c1 : CV x (sq2 (zn s) S.A n) (nT T 0 0 1) M2 := c1
      have c6 : CF x M M2 := c6
      rw [une2, if_neg npos, c1.px.k0, gdI, c1.px.r0_6, Option.bind_some]
      refine Ok.bd (c_remember c1.px c2 (Or.inr rfl) c4) (fun p hq => ?_)
      obtain ⟨p1, M3⟩ := p
      obtain ⟨u3, f3⟩ := hq
      rw [une2]
      exact ok_i ⟨rfl, c_actW hS.hu (c1.uf f3 (by have := c3.1; omega)) u3 (c3.wf f3.wf) (fun k a _ => hN.2.2 k a), c6.trans f3.wf.2.2.2, TE.new, by show tp T + 1 ≤ _; omega, by show sl T + 1 ≤ _; omega⟩
    · show Ok (fX12_day T M (x + 69) s (nI n)) _
      unfold fX12_day
      rw [h.1.1.k, gdI, lte, w1, Option.bind_some, if_neg (by decide)]
      refine Ok.bd (rIn T M h) (fun p hq => ?_)
      obtain ⟨p1, M1⟩ := p
      obtain ⟨w2, h1, f1, hq⟩ := hq
      have h1 : WR (x + 69) S T M1 := h1
      rw [une2, lte]
      refine Ok.bd hq (fun r hr => ?_)
      obtain ⟨r1, M2⟩ := r
      obtain ⟨rfl, f2, h2⟩ := hr
      rw [une2, if_neg npos]
      refine Ok.bd (r_actW hS.hu (by rw [hN.2.2 50 (by omega)]; exact hS.h50) h2.rw (WZ.fi w2 f2 (fun k => by unfold yf32 tf df kf; omega)) (h1.2.yf (f2.yf (fun _ _ => yf_y)))) (fun p hq => ?_)
      obtain ⟨p1, M3⟩ := p
      obtain ⟨h3, f3⟩ := hq
      rw [une2]
      exact ok_i ⟨rfl, h3, (f1.trans (f2.rf (fun _ _ => yf_r))).trans (f3.rf (fun a k q => by unfold uf at q; omega))⟩
end
