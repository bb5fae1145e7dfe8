/-! the cell that tells most: the class counts -/
section
variable {x m t k l : Nat} {g : Nat → Bool} {A B : Nat → Int32} {T T2 : Sh} {M M1 M2 : Me} {S : Wd}
theorem c_countIn {s : Nat} {r y1 y2 y3 y4 : Int32} {C : Nat → Nat} (hp : PX x T M) (hs : s ≤ 1) (h11 : gR M x 11 = some (x + 66 + s)) (hC : ∀ d, d < 24 → gI M (x + 66 + s) d = nI (C d)) : Ok (lp FU (fun q => bX11_countPassing_53 T x y1 y2 y3 y4 r q.1 q.2) ((0 : Int32), M)) (fun M' => FX (fun a _ => a = x + 66 + s) M M' ∧ ∀ d, d < 24 → gI M' (x + 66 + s) d = nI (C d + (if bt r d = true then 1 else 0))) := by
  have kk : kd T (x + 66 + s) = 13 ∧ ln T (x + 66 + s) = 24 := by
    rcases (by omega : s = 0 ∨ s = 1) with rfl | rfl
    · exact ⟨hp.k66, hp.l66⟩
    · exact ⟨hp.k67, hp.l67⟩
  refine ok_forF (s := ((0 : Int32), M)) 0 24 (fun i q => ∃ M', q = (nI i, M') ∧ FX (fun a _ => a = x + 66 + s) M M' ∧ ∀ d, d < 24 → gI M' (x + 66 + s) d = nI (C d + (if d < i ∧ bt r d = true then 1 else 0))) _ ⟨M, rfl, FX.rfl, fun d hd => by rw [if_neg (by omega)]; exact hC d hd⟩ (by omega) (by omega) (fun i q _ hi hI => ?_) (fun q hI => ?_)
  · obtain ⟨M', rfl, f, h⟩ := hI
    have e11 : gR M' x 11 = some (x + 66 + s) := by unfold gR; rw [f.2]; exact h11
    have ei := h i hi
    rw [if_neg (by omega)] at ei
    show Ok (bX11_countPassing_53 T x y1 y2 y3 y4 r (nI i) M') _
    unfold bX11_countPassing_53
    rw [i_24, ite_le (by omega) (by omega), if_neg (by omega), hp.k0, gdI, e11, Option.bind_some, kk.1, gdI, kk.2, gvI (by omega) (by omega), gvI (by omega) (by omega), cl_nI (by omega), ei, bit_at (by omega), lte, lte, nI_1]
    refine ok_i ⟨_, rfl, f.pI rfl, fun d hd => ?_⟩
    rw [mII]
    by_cases z : d = i
    · rw [if_pos ⟨rfl, z⟩, z]
      cases hb : bt r i
      · rw [if_neg (by rintro ⟨_, q⟩; exact absurd q (by decide))]; exact nI_add _ _
      · rw [if_pos ⟨by omega, rfl⟩]; exact nI_add _ _
    · rw [if_neg (fun y => z y.2), h d hd]
      by_cases y : d < i ∧ bt r d = true
      · rw [if_pos y, if_pos ⟨by omega, y.2⟩]
      · rw [if_neg y, if_neg (fun q => y ⟨by omega, q.2⟩)]
  · obtain ⟨M', rfl, f, h⟩ := hI
    show Ok (bX11_countPassing_53 T x y1 y2 y3 y4 r (nI 24) M') _
    unfold bX11_countPassing_53
    rw [i_24, if_pos (by decide)]
    refine ok_i ⟨f, fun d hd => (h d hd).trans ?_⟩
    by_cases y : bt r d = true
    · rw [if_pos ⟨hd, y⟩, if_pos y]
    · rw [if_neg (fun q => y q.2), if_neg y]
theorem c_countPassing {v s : Nat} (h : CV x A T M) (hl : l < nlA A) (hv : v < 16) (hs : s ≤ 1) (h11 : gR M x 11 = some (x + 66 + s)) : Ok (fX11_countPassing T M x (nI l) (nI v) (mk g 31)) (fun p => (∀ d, d < 24 → gI p.2 (x + 66 + s) d = nI (cnA A l g true (24 * v + d) 31)) ∧ gR p.2 x 11 = some (x + 66 + s) ∧ GF x M p.2 ∧ CV x A T p.2) := by
  have hp := h.px
  have kk : kd T (x + 66 + s) = 13 ∧ ln T (x + 66 + s) = 24 := by
    rcases (by omega : s = 0 ∨ s = 1) with rfl | rfl
    · exact ⟨hp.k66, hp.l66⟩
    · exact ⟨hp.k67, hp.l67⟩
  have vd : ∀ d, d < 24 → (24 * v + d) / 24 = v ∧ (24 * v + d) % 24 = d := fun d hd => by omega
  unfold fX11_countPassing
  rw [hp.k0, gdI, h11, Option.bind_some, fill_eq kk.1 kk.2 (by omega), Option.bind_some, une2]
  have f0 : FX (fun a _ => a = x + 66 + s) M (pA M (x + 66 + s) (fun k => if k < 24 then 0 else gI M (x + 66 + s) k)) := ⟨fun a k z => mIAn z, rfl⟩
  have e0 : ∀ d, d < 24 → gI (pA M (x + 66 + s) (fun k => if k < 24 then 0 else gI M (x + 66 + s) k)) (x + 66 + s) d = nI (cnA A l g true (24 * v + d) 0) := fun d hd => by rw [mIA1, if_pos hd]; rfl
  generalize pA M (x + 66 + s) (fun k => if k < 24 then 0 else gI M (x + 66 + s) k) = M0 at f0 e0 ⊢
  have h0 : CV x A T M0 := h.fx f0 (fun a k q => by omega)
  refine Ok.bd (ok_forF (s := ((0 : Int32), M0)) 0 31 (fun e q => ∃ M', q = (nI e, M') ∧ (∀ d, d < 24 → gI M' (x + 66 + s) d = nI (cnA A l g true (24 * v + d) e)) ∧ gR M' x 11 = some (x + 66 + s) ∧ GF x M M' ∧ CV x A T M') (fun M' => (∀ d, d < 24 → gI M' (x + 66 + s) d = nI (cnA A l g true (24 * v + d) 31)) ∧ gR M' x 11 = some (x + 66 + s) ∧ GF x M M' ∧ CV x A T M') ⟨M0, rfl, e0, by unfold gR; rw [f0.2]; exact h11, (f0.hf (x := x) (fun a k q => by omega)).gf, h0⟩ (by omega) (by omega) (fun e q _ he hI => ?_) (fun q hI => ?_)) (fun p hq => ok_i hq)
  · obtain ⟨M', rfl, hC, e11, f, h'⟩ := hI
    have hp' := h'.px
    show Ok (bX11_countPassing_11 T x (nI l) (nI v) (mk g 31) (nI e) M') _
    unfold bX11_countPassing_11
    rw [if_neg (show ¬ (31 : Int32) ≤ nI e by rw [i_31, c_le (by omega) (by omega)]; omega), bit_at (by omega), bt_mk g 31 e (by omega) (by omega), decide_eq_true he, Bool.true_and]
    cases hg : g e
    · rw [if_pos (b2_ne.mpr rfl), lte, nI_1]
      refine ok_i ⟨M', rfl, fun d hd => ?_, e11, f, h'⟩
      rw [hC d hd, cnA_s, hg]; rfl
    · rw [if_neg (fun z => absurd (b2_ne.mp z) (by decide))]
      simp (disch := omega) only [gdI, gdT, Option.bind_some, hp'.k0, hp'.k8, hp'.k15, hp'.l15, hp'.k16, hp'.l16, hp'.k17, hp'.l17, hp'.k18, hp'.l18, hp'.k25, hp'.k26, hp'.l26, hp'.r0_0, hp'.r0_2, hp'.r0_3, hp'.r0_4, hp'.r0_5, hp'.r0_6, hp'.r0_7, hp'.r0_9, hp'.r0_10, hp'.r0_13, hp'.r8_1, hp'.r8_2, hp'.r8_4, hp'.r8_5, hp'.r25_0, h'.pa, i_15]
      refine Ok.bd (c_passing (q := qA A) (e := e) (v := v) h' hl h'.sv.b49 (by omega) hv h'.sv.n49) (fun p hq => ?_)
      obtain ⟨p1, M1⟩ := p
      obtain ⟨rfl, f1, h1⟩ := hq
      have f1 : PF x M' M1 := f1
      rw [une2]
      have e111 : gR M1 x 11 = some (x + 66 + s) := (f1.r _ _).trans e11
      refine Ok.bd (c_countIn (C := fun d => cnA A l g true (24 * v + d) e) h1.px hs e111 (fun d hd => (f1.1 _ _ (by omega) (by omega) (by omega)).trans (hC d hd))) (fun M2 hq => ?_)
      obtain ⟨f2, h2⟩ := hq
      rw [lte, nI_1]
      refine ok_i ⟨M2, rfl, fun d hd => (h2 d hd).trans ?_, by unfold gR; rw [f2.2]; exact e111, (f.trans f1.gf).trans (f2.hf (x := x) (fun a k q => by omega)).gf, h1.fx f2 (fun a k q => by omega)⟩
      rw [bt_rw hd, cnA_s, hg, (vd d hd).1, (vd d hd).2]
      cases psd A (qA A) e l v d <;> rfl
  · obtain ⟨M', rfl, hC, e11, f, h'⟩ := hI
    show Ok (bX11_countPassing_11 T x (nI l) (nI v) (mk g 31) (nI 31) M') _
    unfold bX11_countPassing_11
    rw [i_31, if_pos (by decide)]
    exact ok_i ⟨hC, e11, f, h'⟩
end
