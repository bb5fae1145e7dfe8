/-! calls that change how it stands -/
def wA (A : Nat → Int32) : Nat → Int32 := fun k => A (42 + k)
def acW (S : Wd) (B : Nat → Int32) : Wd := mkW (ntA B S.u (wA S.A)) (ntu S.u) S.n S.b S.f1 S.f2 S.so S.sz S.nu S.im (S.c + 1)
section
variable {x m : Nat} {A B : Nat → Int32} {T T2 : Sh} {M M1 M2 : Me} {S : Wd}
theorem ntA_s {u i k : Nat} {w : Nat → Int32} (hu : u ≤ 10) (hi : i < ntu u) (hk : k < 8) (e : ∀ k, 50 ≤ k → k < 131 → B k = A k) : ntA B u w (51 + 8 * i + k) = if i + 1 = ntu u then w k else if u = 10 then A (51 + 8 * (i + 1) + k) else A (51 + 8 * i + k) := by
  unfold ntA
  unfold ntu at hi ⊢
  by_cases z : u = 10
  · rw [if_pos z] at hi
    rw [if_pos z, if_pos z, if_pos z, if_neg (by omega)]
    by_cases y : i + 1 = 10
    · rw [if_pos y, if_neg (by omega), if_pos (by omega), show 51 + 8 * i + k - 123 = k by omega]
    · rw [if_neg y, if_pos (by omega), show 51 + 8 * i + k + 8 = 51 + 8 * (i + 1) + k by omega]; exact e _ (by omega) (by omega)
  · rw [if_neg z] at hi
    rw [if_neg z, if_neg z, if_neg z, if_neg (by omega)]
    by_cases y : i + 1 = u + 1
    · rw [if_pos y, if_pos (by omega), show 51 + 8 * i + k - (51 + 8 * u) = k by omega]
    · rw [if_neg y, if_neg (by omega)]; exact e _ (by omega) (by omega)
theorem ok_act (hS : S.ok) (hc : S.c < 600) (hB : OK B (100 * (S.c + 1))) (le : LE S.A B) (e : ∀ k, 50 ≤ k → k < 131 → B k = S.A k) : (acW S B).ok := by
  obtain ⟨⟨h1, h2⟩, ⟨h3, h4, h5⟩, h6, h7, h8⟩ := hS
  have leN : LE B (ntA B S.u (wA S.A)) := LE.nt h3
  refine ⟨⟨hB.eq8 leN (fun k _ _ => ntA_o (by omega) h3), by show S.c + 1 ≤ 600; omega⟩, ⟨?_, ?_, fun i hi => ?_⟩, h6, h7, fun i B hi e => (h8 i B hi e).up (by show 100 * S.c ≤ 100 * (S.c + 1); omega)⟩
  · show ntu S.u ≤ 10
    unfold ntu; split <;> omega
  · show ntA B S.u (wA S.A) 50 = nI (ntu S.u)
    unfold ntA ntu
    by_cases z : S.u = 10
    · rw [if_pos z, if_pos z, if_pos rfl]
    · rw [if_neg z, if_neg z, if_pos rfl]
  · have hi : i < ntu S.u := hi
    show OK (unA (ntA B S.u (wA S.A)) i 8) (100 * (S.c + 1))
    have leU : LE S.A (unA (ntA B S.u (wA S.A)) i 8) := (le.trans leN).trans (LE.un (by omega))
    by_cases y : i + 1 = ntu S.u
    · refine (h1.up (by omega)).eq8 leU (fun k a b => ?_)
      rw [unA_8 a b, ntA_s h3 hi (by omega) e, if_pos y]
      show S.A (42 + (k - 42)) = _
      rw [show 42 + (k - 42) = k by omega]
    · by_cases z : S.u = 10
      · have h10 : ntu S.u = 10 := if_pos z
        refine ((h5 (i + 1) (by omega)).up (by omega)).eq8 ((LE.un (by omega)).symm.trans leU) (fun k a b => ?_)
        rw [unA_8 a b, unA_8 a b, ntA_s h3 hi (by omega) e, if_neg y, if_pos z]
      · have h10 : ntu S.u = S.u + 1 := if_neg z
        refine ((h5 i (by omega)).up (by omega)).eq8 ((LE.un (by omega)).symm.trans leU) (fun k a b => ?_)
        rw [unA_8 a b, unA_8 a b, ntA_s h3 hi (by omega) e, if_neg y, if_neg z]
theorem WX.act (h : WX x S T M) : WX x (acW S B) T M := by
  obtain ⟨h0, h1, h2, h5, h6, G, h7, h8⟩ := h
  exact ⟨h0, h1, h2, h5, h6, G, h7, by show G ≤ S.c + 1 + 1; omega⟩
theorem WY.act (h : WY m S M) : WY m (acW S B) M := h
theorem UN.act {u : Nat} {w : Nat → Int32} (h : UN x (ntA A u w) (ntu u) M) (hu : u ≤ 10) (e : ∀ k, 50 ≤ k → k < 131 → B k = A k) : UN x (ntA B u w) (ntu u) M := h.cong (fun j h1 h2 => by
  unfold ntA
  by_cases z : u = 10
  · rw [if_pos z, if_pos z]
    by_cases j50 : j = 50
    · rw [if_pos j50, if_pos j50]
    · rw [if_neg j50, if_neg j50]
      by_cases j1 : 51 ≤ j ∧ j < 123
      · rw [if_pos j1, if_pos j1]; exact e _ (by omega) (by omega)
      · rw [if_neg j1, if_neg j1]
        by_cases j2 : 123 ≤ j ∧ j < 131
        · rw [if_pos j2, if_pos j2]
        · rw [if_neg j2, if_neg j2]; exact e _ (by omega) (by omega)
  · rw [if_neg z, if_neg z]
    by_cases j50 : j = 50
    · rw [if_pos j50, if_pos j50]
    · rw [if_neg j50, if_neg j50]
      by_cases j1 : 51 + 8 * u ≤ j ∧ j < 59 + 8 * u
      · rw [if_pos j1, if_pos j1]
      · rw [if_neg j1, if_neg j1]; exact e _ (by omega) (by omega))
/-- the class remembers how it stands -/
theorem c_act (h : WC x S T M) : Ok (fX11_remember T M x (x + 25)) (fun p => CV x S.A T p.2 ∧ UN x (ntA S.A S.u (wA S.A)) (ntu S.u) p.2 ∧ WX x S T p.2 ∧ CF x M p.2) :=
  (c_remember h.1.px h.2.1 (Or.inl rfl) h.1.sd).mono (fun p hp => ⟨h.1.uf hp.2 (by have := h.2.2.1; omega), hp.1, h.2.2.wf hp.2.wf, hp.2.wf.2.2.2⟩)
theorem c_actW (hu : S.u ≤ 10) (h1 : CV x B T M) (h2 : UN x (ntA S.A S.u (wA S.A)) (ntu S.u) M) (h3 : WX x S T M) (e : ∀ k, 50 ≤ k → k < 131 → B k = S.A k) : WC x (acW S B) T M := ⟨h1.row (LE.nt hu) (fun k _ _ => ntA_o (by omega) hu), h2.act hu e, h3.act⟩
theorem r_act (h : WR m S T M) : Ok (fX12_stores T M m) (fun p => WZ m (wA S.A) p.2 ∧ WR m S T p.2 ∧ FI m (fun a _ => a = m + 8) M p.2) :=
  (r_stores h.1).mono (fun p hp => ⟨hp.1, ⟨⟨h.1.1.fr (fun k => hp.2.2.2 _ _ (by omega)), fun k hk => (hp.2.1 _ _ (by omega)).trans (h.1.2 k hk)⟩, h.2.yf (hp.2.yf (fun a k q => by omega))⟩, hp.2⟩)
theorem r_actW (hu : S.u ≤ 10) (h50 : B 50 = nI S.u) (h : RW m B T M) (hw : WZ m (wA S.A) M) (hy : WY m S M) : Ok (fX12_notes T M m) (fun p => WR m (acW S B) T p.2 ∧ FI m (uf m) M p.2) :=
  (r_notes h hw hu h50).mono (fun p hp => ⟨⟨hp.1, hy.yf (hp.2.yf (fun a k q => by unfold uf at q; omega))⟩, hp.2⟩)
theorem WR.t0 {v : Int32} (h : WR m S T M) : WR m S T (pI M m 0 v) ∧ RF m M (pI M m 0 v) := by
  have f : FI m (nf m) M (pI M m 0 v) := r_t0
  exact ⟨⟨⟨h.1.1.fr (fun _ => rfl), fun k hk => (mIIn (by omega)).trans (h.1.2 k hk)⟩, h.2.yf (f.yf (fun a k q => by unfold nf at q; omega))⟩, f.rf (fun a k q => by unfold nf at q; omega)⟩
theorem WR.qf (h : WR m S T M) (f : QF m M M2) : WR m S T M2 := ⟨⟨h.1.1.fr (fun k => f.2.2 _ _ (by omega)), fun k hk => (f.1 _ _ (by unfold sq; omega)).trans (h.1.2 k hk)⟩, h.2.yf f.yf⟩
theorem WC.gf (h : WC x S T M) (hv : CV x S.A T M2) (f : GF x M M2) : WC x S T M2 := ⟨hv, h.2.1.df f.df, h.2.2.wf f.wf⟩
/-- nothing is done: both say r -/
theorem qs_no {α : Type} {f g : Sh → Me → Option (α × Me)} (hS : S.ok) (r : α) (h1 : ∀ T M, WC x S T M → f T M = some (r, M)) (h2 : ∀ T M, WR (x + 69) S T M → g T M = some (r, pI M (x + 69) 0 0)) : QS x S f g :=
  ⟨r, S, hS, by omega, fun T M h => by rw [h1 T M h]; exact ok_i ⟨rfl, h, CF.rfl⟩, fun T M h => by rw [h2 T M h]; exact ok_i ⟨rfl, h.t0.1, h.t0.2⟩⟩
theorem up_e {k : Nat} {v : Int32} (hk : k < 50) : ∀ j, 50 ≤ j → j < 131 → upA A k v j = A j := fun j h1 _ => upA_n (by omega)
theorem Wd.ok.lv (h : S.ok) : LV S.A := h.1.1.1
theorem Wd.ok.sv (h : S.ok) : SV S.A := h.1.1.2.1
theorem Wd.ok.tm (h : S.ok) : tmA S.A ≤ 100 * S.c := h.1.1.2.2
theorem Wd.ok.hu (h : S.ok) : S.u ≤ 10 := h.2.1.1
theorem Wd.ok.h50 (h : S.ok) : S.A 50 = nI S.u := h.2.1.2.1
theorem up_OK {k : Nat} {v : Int32} (hS : S.ok) (h1 : 42 ≤ k) (h2 : k < 50) (h3 : k ≠ 48) (sv : SV (upA S.A k v)) : OK (upA S.A k v) (100 * (S.c + 1)) := ⟨(LE.up h1 (by omega)).hLV hS.lv, sv, by
  have : tmA (upA S.A k v) = tmA S.A := by unfold tmA; rw [upA_n (by omega)]
  have := hS.tm
  omega⟩
theorem s_place (hS : S.ok) (hc : S.c < 600) (a b : Int32) : QS x S (fun T M => fX11_place T M x a b) (fun T M => fX12_place T M (x + 69) a b) := by
  have h6 := hS.lv.b3
  rcases (ix_I a (nlA S.A) (by omega)).symm with ha | ⟨l, hl, rfl⟩
  · refine qs_no hS (-11) (fun T M h => ?_) (fun T M h => ?_)
    · show fX11_place T M x a b = _
      unfold fX11_place
      rw [h.1.px.k0, gdI, c_lane0 h.1 ha, Option.bind_some, if_neg (by decide)]
    · show fX12_place T M (x + 69) a b = _
      unfold fX12_place
      rw [h.1.1.k, gdI, lte, r_lane0 (h.t0.1.rv hS) ha, Option.bind_some, if_pos rfl]
  rcases (ix_I b 384 (by omega)).symm with hb | ⟨c, hcc, rfl⟩
  · refine qs_no hS (-11) (fun T M h => ?_) (fun T M h => ?_)
    · show fX11_place T M x (nI l) b = _
      unfold fX11_place
      rw [h.1.px.k0, gdI, c_lane1 h.1 hl, Option.bind_some, if_pos rfl, c_cell0 hb, Option.bind_some, if_neg (by decide)]
    · show fX12_place T M (x + 69) (nI l) b = _
      unfold fX12_place
      rw [h.1.1.k, gdI, lte, r_lane1 (h.t0.1.rv hS) hl, Option.bind_some, if_neg (by decide), r_cell0 hb, Option.bind_some, if_pos rfl]
  have sv : SV (upA S.A (42 + l) (nI c)) := hS.sv.pts hS.lv (by omega) hcc
  have hok := ok_act hS hc (up_OK hS (by omega) (by omega) (by omega) sv) (LE.up (by omega) (by omega)) (up_e (by omega))
  have hnl : l < nlA (acW S (upA S.A (42 + l) (nI c))).A := by
    have : nlA (acW S (upA S.A (42 + l) (nI c))).A = nlA S.A := ((LE.up (by omega) (by omega)).trans (LE.nt hS.hu)).nl
    omega
  refine ⟨b2 (pip (acW S (upA S.A (42 + l) (nI c))).A l), acW S (upA S.A (42 + l) (nI c)), hok, Nat.le_refl _, fun T M h => ?_, fun T M h => ?_⟩
  · have hp := h.1.px
    show Ok (fX11_place T M x (nI l) (nI c)) _
    unfold fX11_place
    rw [hp.k0, gdI, c_lane1 h.1 hl, Option.bind_some, if_pos rfl, c_cell1 hcc, Option.bind_some, if_pos rfl, hp.r0_5, Option.bind_some]
    refine Ok.bd (c_act h) (fun p hq => ?_)
    obtain ⟨p1, M1⟩ := p
    obtain ⟨h1, h2, h3, h4⟩ := hq
    have hp1 := h1.px
    rw [une2]
    simp (disch := omega) only [gdI, gdT, Option.bind_some, lte, hp1.k0, hp1.k25, hp1.k26, hp1.l26, hp1.r0_0, hp1.r0_2, hp1.r0_3, hp1.r0_4, hp1.r0_5, hp1.r0_6, hp1.r0_7, hp1.r0_9, hp1.r0_10, hp1.r0_13, hp1.r25_0, gvI, cl_nI]
    obtain ⟨g1, g2⟩ := h1.setpt (l := l) (c := c) (by omega) hcc
    have hw := c_actW hS.hu g1 (h2.df g2.df) (h3.wf g2.wf) (up_e (by omega))
    refine Ok.bd (c_passesInPoint hw.1 hnl) (fun p hq => ?_)
    obtain ⟨p1, M2⟩ := p
    obtain ⟨rfl, f2, k2⟩ := hq
    rw [une2]
    have fin : WC x (acW S (upA S.A (42 + l) (nI c))) T M2 ∧ CF x M M2 := ⟨hw.gf k2 f2.gf, (h4.trans g2.wf.2.2.2).trans f2.gf.wf.2.2.2⟩
    cases hb : pip (acW S (upA S.A (42 + l) (nI c))).A l
    · rw [if_pos (b2_ne.mpr rfl)]; exact ok_i ⟨rfl, fin⟩
    · rw [if_neg (fun z => absurd (b2_ne.mp z) (by decide))]; exact ok_i ⟨rfl, fin⟩
  · show Ok (fX12_place T M (x + 69) (nI l) (nI c)) _
    obtain ⟨h0, f0⟩ := h.t0 (v := 0)
    unfold fX12_place
    rw [h.1.1.k, gdI, lte, r_lane1 (h0.rv hS) hl, Option.bind_some, if_neg (by decide), r_cell1 hcc, Option.bind_some, if_neg (by decide)]
    refine Ok.bd (r_act h0) (fun p hq => ?_)
    obtain ⟨p1, M1⟩ := p
    obtain ⟨w1, h1, f1⟩ := hq
    have hM1 := h1.1.1
    rw [une2]
    simp (disch := omega) only [gdI, gdT, Option.bind_some, lte, une2, une3, nI_add, gvI, cl_nI, c_le, c_lt, c_eq, Sum.elim_inl, Sum.elim_inr, hM1.k, hM1.r1, hM1.k1, hM1.l1, i_42]
    obtain ⟨g1, g2⟩ := (h1.rv hS).up (k := 42 + l) (v := nI c) (by omega) (by omega) sv
    refine Ok.bd (r_actW hS.hu (by rw [upA_n (by omega)]; exact hS.h50) g1.rw (w1.fi g2 (fun k => by unfold df kf; omega)) (h1.2.yf (g2.yf (fun a k q => by unfold df kf at q; omega)))) (fun p hq => ?_)
    obtain ⟨p1, M2⟩ := p
    obtain ⟨h2, f2⟩ := hq
    rw [une2]
    refine Ok.bd (r_laysNow (h2.rv hok)) (fun p hq => ?_)
    obtain ⟨p1, M3⟩ := p
    obtain ⟨d3, f3, v3⟩ := hq
    rw [une2]
    refine Ok.bd (r_pip v3 hnl d3) (fun p hq => ?_)
    obtain ⟨p1, M4⟩ := p
    obtain ⟨rfl, f4⟩ := hq
    rw [une2]
    have q34 := (f3.qf (fun _ _ => nf_qf)).trans (f4.qf (fun _ _ => wf_qf))
    have fin : WR (x + 69) (acW S (upA S.A (42 + l) (nI c))) T M4 ∧ RF (x + 69) M M4 := ⟨h2.qf q34, (((f0.trans (f1.rf (fun a k q => by omega))).trans (g2.rf (fun a k q => by unfold df kf at q; omega))).trans (f2.rf (fun a k q => by unfold uf at q; omega))).trans q34.rf⟩
    cases hb : pip (acW S (upA S.A (42 + l) (nI c))).A l
    · rw [if_pos (b2_ne.mpr rfl)]; exact ok_i ⟨rfl, fin⟩
    · rw [if_neg (fun z => absurd (b2_ne.mp z) (by decide))]; exact ok_i ⟨rfl, fin⟩
end
