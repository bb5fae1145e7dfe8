/-! deeds: what they make of a row A; the class does them -/
def upA (A : Nat → Int32) (k : Nat) (v : Int32) : Nat → Int32 := fun j => if j = k then v else A j
theorem upA_1 {A : Nat → Int32} {k : Nat} {v : Int32} : upA A k v k = v := if_pos rfl
theorem upA_n {A : Nat → Int32} {k j : Nat} {v : Int32} (h : j ≠ k) : upA A k v j = A j := if_neg h
def tkA (A : Nat → Int32) : Nat → Int32 := upA A 48 (A 48 + 1)
def flI (A : Nat → Int32) (i : Nat) : Nat → Int32 := fun j => if 42 ≤ j ∧ j < 42 + i then nI (fpt A (qA A) (eA A) (j - 42) (ptA A (j - 42))) else A j
def flA (A : Nat → Int32) : Nat → Int32 := flI A (nlA A)
section
variable {A B : Nat → Int32}
theorem LE.up {k : Nat} {v : Int32} (h1 : 42 ≤ k) (h2 : k < 132) : LE A (upA A k v) := ⟨fun j hj => (upA_n (by omega)).symm, fun j hj _ => (upA_n (by omega)).symm⟩
theorem LE.fl {i : Nat} (hi : i ≤ 6) : LE A (flI A i) := ⟨fun j hj => (if_neg (by omega)).symm, fun j hj _ => (if_neg (by omega)).symm⟩
theorem LE.nl (h : LE A B) : nlA B = nlA A := by unfold nlA; rw [h.1 3 (by omega)]
theorem LE.np (h : LE A B) : npA B = npA A := by unfold npA; rw [h.1 4 (by omega)]
theorem SV.of {t q : Nat} {pt : Nat → Nat} (h1 : B 48 = nI t) (ht : t ≤ 1000000) (h2 : B 49 + 1 = nI q) (hq : q ≤ npA B) (hq4 : npA B ≤ 4) (h3 : ∀ l, l < 6 → B (42 + l) = nI (pt l) ∧ pt l < 384) : SV B ∧ tmA B = t ∧ qA B = q ∧ ∀ l, l < 6 → ptA B l = pt l := by
  have e1 : tmA B = t := by unfold tmA; rw [h1, cl_nI (by omega)]
  have e2 : qA B = q := by unfold qA; rw [h2, cl_nI (by omega)]
  have e3 : ∀ l, l < 6 → ptA B l = pt l := fun l hl => by unfold ptA; rw [(h3 l hl).1, cl_nI (by have := (h3 l hl).2; omega)]
  exact ⟨⟨⟨by rw [e1]; exact h1, by omega⟩, ⟨by rw [e2]; exact h2, by omega⟩, fun l hl => by rw [e3 l hl]; exact h3 l hl⟩, e1, e2, e3⟩
theorem SV.same (h : SV A) (hL : LV A) (hp : npA B = npA A) (h48 : B 48 = A 48) (h49 : B 49 = A 49) (hpt : ∀ l, l < 6 → ∃ c, c < 384 ∧ B (42 + l) = nI c) : SV B := by
  have e : ∀ l, l < 6 → B (42 + l) = nI (ptA B l) ∧ ptA B l < 384 := fun l hl => by
    obtain ⟨c, hc, e⟩ := hpt l hl
    unfold ptA
    rw [e, cl_nI (by omega)]
    exact ⟨rfl, hc⟩
  exact (SV.of (t := tmA A) (q := qA A) (pt := ptA B) (h48.trans h.n48) h.b48 (by rw [h49]; exact h.n49) (by rw [hp]; exact h.b49) (by rw [hp]; exact hL.b4) e).1
theorem SV.pts (h : SV A) (hL : LV A) {l c : Nat} (hl : l < 6) (hc : c < 384) : SV (upA A (42 + l) (nI c)) := h.same hL (LE.up (by omega) (by omega)).np (upA_n (by omega)) (upA_n (by omega)) (fun l' hl' => by
  by_cases z : l' = l
  · rw [z]; exact ⟨c, hc, upA_1⟩
  · exact ⟨ptA A l', h.ptb hl', (upA_n (by omega)).trans (h.pt hl')⟩)
theorem SV.tk (h : SV A) (hL : LV A) (ht : tmA A + 1 ≤ 1000000) : SV (tkA A) ∧ tmA (tkA A) = tmA A + 1 := by
  have hp : npA (tkA A) = npA A := (LE.up (by omega) (by omega)).np
  have := SV.of (B := tkA A) (t := tmA A + 1) (q := qA A) (pt := ptA A) (by show upA A 48 (A 48 + 1) 48 = _; rw [upA_1, h.n48, nI_1]) ht (by show upA A 48 (A 48 + 1) 49 + 1 = _; rw [upA_n (by omega)]; exact h.n49) (by rw [hp]; exact h.b49) (by rw [hp]; exact hL.b4) (fun l hl => ⟨(upA_n (by omega)).trans (h.pt hl), h.ptb hl⟩)
  exact ⟨this.1, this.2.1⟩
theorem SV.pat (h : SV A) (hL : LV A) {v : Int32} {q : Nat} (hv : v + 1 = nI q) (hq : q ≤ npA A) : SV (upA A 49 v) := by
  have hp : npA (upA A 49 v) = npA A := (LE.up (by omega) (by omega)).np
  exact (SV.of (B := upA A 49 v) (t := tmA A) (q := q) (pt := ptA A) ((upA_n (by omega)).trans h.n48) h.b48 (by rw [upA_1]; exact hv) (by rw [hp]; exact hq) (by rw [hp]; exact hL.b4) (fun l hl => ⟨(upA_n (by omega)).trans (h.pt hl), h.ptb hl⟩)).1
theorem SV.fl (h : SV A) (hL : LV A) {i : Nat} (hi : i ≤ 6) : SV (flI A i) := h.same hL (LE.fl hi).np (if_neg (by omega)) (if_neg (by omega)) (fun l hl => by
  by_cases z : l < i
  · refine ⟨fpt A (qA A) (eA A) l (ptA A l), (fpt_b (h.ptb hl)).1, ?_⟩
    show (if 42 ≤ 42 + l ∧ 42 + l < 42 + i then nI (fpt A (qA A) (eA A) (42 + l - 42) (ptA A (42 + l - 42))) else A (42 + l)) = _
    rw [if_pos (by omega), show 42 + l - 42 = l by omega]
  · refine ⟨ptA A l, h.ptb hl, ?_⟩
    show (if 42 ≤ 42 + l ∧ 42 + l < 42 + i then _ else A (42 + l)) = _
    rw [if_neg (by omega)]; exact h.pt hl)
theorem mp_le (h : LE A B) (hS : SV A) (hL : LV A) (e48 : B 48 = A 48) (e49 : B 49 = A 49) {l v : Nat} (hl : l < 6) : mpA B l v = mpA A l v := by
  have h4 := hL.b4
  have hq := hS.b49
  have e1 : qA B = qA A := by unfold qA; rw [e49]
  have e2 : eA B = eA A := by unfold eA eT tmA; rw [e48, ← h.hde]
  unfold mpA
  rw [e1, e2, ← h.hrw (by omega) hl]
theorem CLaw.le {x b lw : Nat} {T : Sh} {M : Me} (h : CLaw x b A lw T M) (le : LE A B) (hl : lw < 3) : CLaw x b B lw T M := by
  have e := le.hden hl
  unfold CLaw at h ⊢
  rw [← e]; exact h
theorem CLab.le {x a : Nat} {T : Sh} {M : Me} (h : CLab x a A T M) (le : LE A B) (h6 : nlA A ≤ 6) (h4 : npA A ≤ 4) : CLab x a B T M := by
  obtain ⟨h1, h2, ⟨h3, h4', h5, h6', h7⟩, h8, h9, h10⟩ := h
  refine ⟨h1, h2, ⟨h3.trans (le.1 _ (by omega)), h4'.trans (le.1 _ (by omega)), h5.trans (le.1 _ (by omega)), h6'.trans (le.1 _ (by omega)), h7.trans (le.1 _ (by omega))⟩, fun l hl => ?_, fun q hq => ?_, fun lw hl => ?_⟩
  · rw [le.nl] at hl
    obtain ⟨k1, k2, k3, k4⟩ := h8 l hl
    exact ⟨k1.trans (le.1 _ (by omega)), k2.trans (le.1 _ (by omega)), k3.trans (le.1 _ (by omega)), k4.trans (le.1 _ (by omega))⟩
  · rw [le.np] at hq
    exact (h9 q hq).trans (le.hst (by omega))
  · rcases h10 lw hl with k | ⟨b, k1, k2, k3⟩
    · exact Or.inl ⟨k.1, (le.1 _ (by omega)).symm.trans k.2⟩
    · exact Or.inr ⟨b, k1, (le.1 _ (by omega)).symm.trans k2, k3.le le hl⟩
theorem CK.le {x : Nat} {M : Me} (h : CK x A M) (le : LE A B) : CK x B M := by
  obtain ⟨h1, G, g1, g2, g3, g4⟩ := h
  refine ⟨fun r hr => by rw [← le.hdr]; exact h1 r hr, G, g1, g2, g3, fun k hk => ?_⟩
  obtain ⟨n, b, n1, n2, n3, n4⟩ := g4 k hk
  exact ⟨n, b, n1, n2, n3, fun l q e' v hl hq he hv hn hky => (n4 l q e' v hl hq he hv hn hky).trans (le.hrw (by omega) hl)⟩
end
/-- only how it stands changes -/
def NF (x : Nat) (M M2 : Me) : Prop := (∀ a k, ¬ (a = x + 25 ∧ (k = 1 ∨ k = 2)) → a ≠ x + 26 → gI M2 a k = gI M a k) ∧ M2.2 = M.2
/-- what a deed changes of the class -/
def DF (x : Nat) (M M2 : Me) : Prop := (∀ a k, a ≠ x + 15 → ¬ (x + 17 ≤ a ∧ a ≤ x + 22) → ¬ (x + 66 ≤ a ∧ a ≤ x + 68) → ¬ (a = x + 25 ∧ (k = 1 ∨ k = 2)) → a ≠ x + 26 → gI M2 a k = gI M a k) ∧ (∀ a k, a ≠ x + 16 → a ≠ x + 23 → a ≠ x + 24 → gJ M2 a k = gJ M a k) ∧ ∀ a k, ¬ (a = x ∧ (k = 11 ∨ k = 12)) → ¬ (a = x + 19 ∧ (k = 3 ∨ k = 4)) → gR M2 a k = gR M a k
section
variable {x m : Nat} {A B : Nat → Int32} {T : Sh} {M M1 M2 : Me}
theorem DF.rfl : DF x M M := ⟨fun _ _ _ _ _ _ _ => Eq.refl _, fun _ _ _ _ _ => Eq.refl _, fun _ _ _ _ => Eq.refl _⟩
theorem DF.trans (h : DF x M M1) (h2 : DF x M1 M2) : DF x M M2 := ⟨fun a k p q r s t => (h2.1 a k p q r s t).trans (h.1 a k p q r s t), fun a k p q r => (h2.2.1 a k p q r).trans (h.2.1 a k p q r), fun a k p q => (h2.2.2 a k p q).trans (h.2.2 a k p q)⟩
theorem GF.df (h : GF x M M2) : DF x M M2 := ⟨fun a k p q r _ _ => h.1 a k p q r, h.2.1, h.2.2⟩
theorem NF.df (h : NF x M M2) : DF x M M2 := ⟨fun a k _ _ _ s t => h.1 a k s t, fun a k _ _ _ => by unfold gJ; rw [h.2], fun a k _ _ => by unfold gR; rw [h.2]⟩
theorem CV.set (h : CV x A T M) (le : LE A B) (sv : SV B) (f : NF x M M2) (e48 : gI M2 (x + 25) 1 = B 48) (e49 : gI M2 (x + 25) 2 = B 49) (ept : ∀ l, l < 6 → gI M2 (x + 26) l = B (42 + l)) : CV x B T M2 := by
  have h6 := h.lv.b3
  have h4 := h.lv.b4
  have hlv := le.hLV h.lv
  obtain ⟨h1, ⟨a, ha, hl⟩, hck, _, _, _, ⟨⟨s1, p1, p2, p3⟩, ⟨s2, p4, p5, p6⟩, p7⟩, h10⟩ := h
  have eR : ∀ a k, gR M2 a k = gR M a k := fun a k => by unfold gR; rw [f.2]
  have eJ : ∀ a k, gJ M2 a k = gJ M a k := fun a k => by unfold gJ; rw [f.2]
  have iI : ∀ b k, lr x b → b < tp T → gI M2 b k = gI M b k := fun b k q _ => f.1 b k (by unfold lr at q; omega) (by unfold lr at q; omega)
  have hl2 : CLab x a B T M2 := (hl.le le h6 h4).fr TE.rfl iI (fun b k _ _ => eR b k)
  have eU : mU x M2 = mU x M := mU_fr ha hl (eR _ _) iI (fun b k _ _ => eR b k)
  obtain ⟨c1, G, g1, g2, g3, g4⟩ := hck.le le
  refine ⟨h1.eq (by rw [f.2]), ⟨a, (eR _ _).trans ha, hl2⟩, ⟨fun r hr => by rw [f.1 _ _ (by omega) (by omega)]; exact c1 r hr, G, g1, g2, (eJ _ _).trans g3, fun k hk => by rw [eJ, eU]; exact g4 k hk⟩, ⟨e48, e49, ept⟩, hlv, sv, ⟨⟨s1, p1, (eR _ _).trans p2, (eR _ _).trans p3⟩, ⟨s2, p4, (eR _ _).trans p5, (eR _ _).trans p6⟩, fun k hk hb => ⟨(eJ _ _).trans (p7 k hk hb).1, (eJ _ _).trans (p7 k hk hb).2⟩⟩, fun j hj => by rw [f.1 _ _ (by omega) (by omega)]; exact h10 j hj⟩
theorem CV.setpt (h : CV x A T M) {l c : Nat} (hl : l < 6) (hc : c < 384) : CV x (upA A (42 + l) (nI c)) T (pI M (x + 26) l (nI c)) ∧ NF x M (pI M (x + 26) l (nI c)) := by
  have f : NF x M (pI M (x + 26) l (nI c)) := ⟨fun a k _ q => mIIn q, rfl⟩
  refine ⟨h.set (LE.up (by omega) (by omega)) (h.sv.pts h.lv hl hc) f ?_ ?_ (fun l' hl' => ?_), f⟩
  · rw [mIIn (by omega), upA_n (by omega)]; exact h.tm
  · rw [mIIn (by omega), upA_n (by omega)]; exact h.pa
  · by_cases z : l' = l
    · rw [z, mII1, upA_1]
    · rw [mIIk z, upA_n (by omega)]; exact h.pt hl'
theorem CV.settm (h : CV x A T M) (ht : tmA A + 1 ≤ 1000000) : CV x (tkA A) T (pI M (x + 25) 1 (A 48 + 1)) ∧ NF x M (pI M (x + 25) 1 (A 48 + 1)) := by
  have f : NF x M (pI M (x + 25) 1 (A 48 + 1)) := ⟨fun a k q _ => by
    by_cases z : a = x + 25
    · rw [mIIk (by omega)]
    · rw [mIIn z], rfl⟩
  refine ⟨h.set (LE.up (by omega) (by omega)) (h.sv.tk h.lv ht).1 f ?_ ?_ (fun l' hl' => ?_), f⟩
  · rw [mII1]; exact upA_1.symm
  · rw [mIIk (by omega)]; exact h.pa.trans (upA_n (by omega)).symm
  · rw [mIIn (by omega)]; exact (h.pt hl').trans (upA_n (by omega)).symm
theorem CV.setpa (h : CV x A T M) {v : Int32} {q : Nat} (hv : v + 1 = nI q) (hq : q ≤ npA A) : CV x (upA A 49 v) T (pI M (x + 25) 2 v) ∧ NF x M (pI M (x + 25) 2 v) := by
  have f : NF x M (pI M (x + 25) 2 v) := ⟨fun a k q _ => by
    by_cases z : a = x + 25
    · rw [mIIk (by omega)]
    · rw [mIIn z], rfl⟩
  refine ⟨h.set (LE.up (by omega) (by omega)) (h.sv.pat h.lv hv hq) f ?_ ?_ (fun l' hl' => ?_), f⟩
  · rw [mIIk (by omega)]; exact h.tm.trans (upA_n (by omega)).symm
  · rw [mII1, upA_1]
  · rw [mIIn (by omega)]; exact (h.pt hl').trans (upA_n (by omega)).symm
theorem c_followAll (h : CV x A T M) : Ok (fX11_followAll T M x) (fun p => DF x M p.2 ∧ CV x (flA A) T p.2) := by
  have h6 := h.lv.b3
  have hS := h.sv
  have hL := h.lv
  unfold fX11_followAll
  have e0 : flI A 0 = A := funext fun j => if_neg (by omega)
  refine Ok.bd (ok_forF (s := ((0 : Int32), M)) 0 (nlA A) (fun i s => ∃ M', s = (nI i, M') ∧ DF x M M' ∧ CV x (flI A i) T M') (fun M' => DF x M M' ∧ CV x (flA A) T M') ⟨M, rfl, DF.rfl, by rw [e0]; exact h⟩ (by omega) (by omega) (fun i s _ hi hI => ?_) (fun s hI => ?_)) (fun p hq => ok_i hq)
  · obtain ⟨M', rfl, f, h'⟩ := hI
    have hp := h'.px
    obtain ⟨lb, hlb, hlab⟩ := h'.lab
    have le : LE A (flI A i) := LE.fl (by omega)
    have hpt := hS.ptb (l := i) (by omega)
    have e42 : gI M' (x + 26) i = nI (ptA A i) := by
      rw [h'.pt (by omega)]
      show (if 42 ≤ 42 + i ∧ 42 + i < 42 + i then _ else A (42 + i)) = _
      rw [if_neg (by omega)]; exact hS.pt (by omega)
    have e3 : flI A i 3 = nI (nlA A) := (if_neg (by omega)).trans hL.n3
    show Ok (bX11_followAll_2 T x (nI i) M') _
    unfold bX11_followAll_2
    simp (disch := omega) only [gdI, gdT, Option.bind_some, lte, hp.k0, hp.k8, hp.k15, hp.l15, hp.k16, hp.l16, hp.k17, hp.l17, hp.k18, hp.l18, hp.k25, hp.k26, hp.l26, hp.r0_0, hp.r0_2, hp.r0_3, hp.r0_4, hp.r0_5, hp.r0_6, hp.r0_7, hp.r0_9, hp.r0_10, hp.r0_13, hp.r8_1, hp.r8_2, hp.r8_4, hp.r8_5, hp.r25_0, hlb, hlab.k, hlab.f7, e3, c_le, Nat.not_le.mpr hi, if_false, gvI, cl_nI, e42, i_24, c_div, c_remQ]
    refine Ok.bd (c_rowNow (v := ptA A i / 24) h' (by rw [le.nl]; exact hi) (by omega)) (fun p hq => ?_)
    obtain ⟨p1, M2⟩ := p
    obtain ⟨rfl, f2, h2⟩ := hq
    have hp2 := h2.px
    rw [une2, mp_le le hS hL (if_neg (by omega)) (if_neg (by omega)) (by omega), followed_at (by omega)]
    simp (disch := omega) only [gdI, gdT, Option.bind_some, lte, hp2.k25, hp2.k26, hp2.l26, hp2.r25_0, gvI, cl_nI, c_mul, nI_add, nI_1]
    have ef : ptA A i / 24 * 24 + flw (bt (mpA A i (ptA A i / 24))) (ptA A i % 24) = fpt A (qA A) (eA A) i (ptA A i) := rfl
    rw [ef]
    obtain ⟨g1, g2⟩ := h2.setpt (l := i) (c := fpt A (qA A) (eA A) i (ptA A i)) (by omega) (fpt_b hpt).1
    refine ok_i ⟨_, rfl, (f.trans f2.gf.df).trans g2.df, ?_⟩
    have eA' : flI A (i + 1) = upA (flI A i) (42 + i) (nI (fpt A (qA A) (eA A) i (ptA A i))) := funext fun j => by
      show (if 42 ≤ j ∧ j < 42 + (i + 1) then _ else A j) = if j = 42 + i then _ else if 42 ≤ j ∧ j < 42 + i then _ else A j
      by_cases z : j = 42 + i
      · rw [if_pos (by omega), if_pos z, z, show 42 + i - 42 = i by omega]
      · rw [if_neg z]
        by_cases w : 42 ≤ j ∧ j < 42 + i
        · rw [if_pos w, if_pos (by omega)]
        · rw [if_neg w, if_neg (by omega)]
    rw [eA']; exact g1
  · obtain ⟨M', rfl, f, h'⟩ := hI
    have hp := h'.px
    obtain ⟨lb, hlb, hlab⟩ := h'.lab
    have e3 : flI A (nlA A) 3 = nI (nlA A) := (if_neg (by omega)).trans hL.n3
    show Ok (bX11_followAll_2 T x (nI (nlA A)) M') _
    unfold bX11_followAll_2
    simp (disch := omega) only [gdI, gdT, Option.bind_some, hp.k0, hp.k8, hp.k15, hp.l15, hp.k16, hp.l16, hp.k17, hp.l17, hp.k18, hp.l18, hp.r0_0, hp.r0_2, hp.r0_3, hp.r0_4, hp.r0_5, hp.r0_6, hp.r0_7, hp.r0_9, hp.r0_10, hp.r0_13, hp.r8_1, hp.r8_2, hp.r8_4, hp.r8_5, hlb, hlab.k, hlab.f7, e3, c_le, Nat.le_refl, if_true]
    exact ok_i ⟨f, h'⟩
theorem c_patok (h : CV x A T M) {v : Int32} {q : Nat} (hv : v + 1 = nI q) (hq : q ≤ 5) : fX11_noPatternToUse T M x v = some (if q ≤ npA A then 0 else 1) := by
  have hp := h.px
  obtain ⟨lb, hlb, hlab⟩ := h.lab
  have h4 := h.lv.b4
  have e : v = nI q - 1 := by rw [← hv, i_fwd]
  have et : v.toInt = (q : Int) - 1 := by rw [e]; exact i_pm (by omega)
  have em : (-1 : Int32).toInt = -1 := by decide
  unfold fX11_noPatternToUse
  simp only [gdI, gdT, Option.bind_some, hp.k0, hp.k8, hp.k15, hp.l15, hp.k16, hp.l16, hp.k17, hp.l17, hp.k18, hp.l18, hp.r0_0, hp.r0_2, hp.r0_3, hp.r0_4, hp.r0_5, hp.r0_6, hp.r0_7, hp.r0_9, hp.r0_10, hp.r0_13, hp.r8_1, hp.r8_2, hp.r8_4, hp.r8_5, hlb, hlab.k, hlab.f8, h.lv.n4]
  rw [if_neg (by rw [fa_lt, em, et]; omega)]
  by_cases z : q ≤ npA A
  · rw [if_pos (by rw [fa_lt, nI_toInt (by omega), et]; omega), if_pos z]
  · rw [if_neg (by rw [fa_lt, nI_toInt (by omega), et]; omega), if_neg z]
theorem c_patno (h : CV x A T M) {v : Int32} (hv : v.toInt < -1 ∨ (npA A : Int) ≤ v.toInt) : fX11_noPatternToUse T M x v = some 1 := by
  have hp := h.px
  obtain ⟨lb, hlb, hlab⟩ := h.lab
  have h4 := h.lv.b4
  have em : (-1 : Int32).toInt = -1 := by decide
  unfold fX11_noPatternToUse
  simp only [gdI, gdT, Option.bind_some, hp.k0, hp.k8, hp.k15, hp.l15, hp.k16, hp.l16, hp.k17, hp.l17, hp.k18, hp.l18, hp.r0_0, hp.r0_2, hp.r0_3, hp.r0_4, hp.r0_5, hp.r0_6, hp.r0_7, hp.r0_9, hp.r0_10, hp.r0_13, hp.r8_1, hp.r8_2, hp.r8_4, hp.r8_5, hlb, hlab.k, hlab.f8, h.lv.n4]
  by_cases z : v < -1
  · rw [if_pos z]
  · rw [if_neg z, if_neg]
    rw [fa_lt, em] at z
    rw [fa_lt, nI_toInt (by omega)]
    omega
/-- what a deed makes -/
noncomputable def dd (A : Nat → Int32) (v : Int64) : Int32 × (Nat → Int32) :=
  if v.toInt = 0 then (0, tkA A) else if v.toInt = 1 then (0, flA (tkA A))
  else if 10 ≤ v.toInt ∧ v.toInt ≤ 14 then (if v.toInt.toNat - 10 ≤ npA A then (0, upA A 49 (v.toInt32 - 11)) else (1, A))
  else if 100 ≤ v.toInt ∧ v.toInt ≤ 199 then (if (v.toInt.toNat - 100) / 10 < nlA A ∧ v.toInt.toNat % 10 < 3 then (if trL A ((v.toInt.toNat - 100) / 10) (v.toInt.toNat % 10) = -2 then (2, A) else (0, upA A (42 + (v.toInt.toNat - 100) / 10) (trL A ((v.toInt.toNat - 100) / 10) (v.toInt.toNat % 10)))) else (1, A))
  else if 10000 ≤ v.toInt ∧ v.toInt ≤ 15999 then (if (v.toInt.toNat - 10000) / 1000 < nlA A ∧ v.toInt.toNat % 1000 < 384 then (0, upA A (42 + (v.toInt.toNat - 10000) / 1000) (nI (v.toInt.toNat % 1000))) else (1, A))
  else (1, A)
theorem l_of {v : Int64} (h : 0 ≤ v.toInt) : v = lN v.toInt.toNat := by
  rw [fa_eq64]
  have := v.toInt_lt
  rw [pf_lI (by omega)]
  omega
theorem c_doDeed (h : CV x A T M) (ht : tmA A + 1 ≤ 1000000) (v : Int64) : Ok (fX11_doDeed T M x v) (fun p => p.1 = (dd A v).1 ∧ DF x M p.2 ∧ CV x (dd A v).2 T p.2) := by
  have hp := h.px
  have h6 := h.lv.b3
  have h4 := h.lv.b4
  have hS := h.sv
  have c0 : (0 : Int64).toInt = 0 := by decide
  have c1 : (1 : Int64).toInt = 1 := by decide
  have c10 : (10 : Int64).toInt = 10 := by decide
  have c14 : (14 : Int64).toInt = 14 := by decide
  have c100 : (100 : Int64).toInt = 100 := by decide
  have c199 : (199 : Int64).toInt = 199 := by decide
  have c10k : (10000 : Int64).toInt = 10000 := by decide
  have c15k : (15999 : Int64).toInt = 15999 := by decide
  have tick : ∀ w : Int64, w.toInt = 0 ∨ w.toInt = 1 → (dd A w = (0, tkA A) ∧ w.toInt = 0 ∨ dd A w = (0, flA (tkA A)) ∧ w.toInt = 1) := by
    intro w hw
    unfold dd
    rcases hw with q | q
    · rw [if_pos q]; exact Or.inl ⟨rfl, q⟩
    · rw [if_neg (by omega), if_pos q]; exact Or.inr ⟨rfl, q⟩
  have hj12 : v.toInt = 0 ∨ v.toInt = 1 → Ok (jX11_doDeed_12 T M x v) (fun p => p.1 = (dd A v).1 ∧ DF x M p.2 ∧ CV x (dd A v).2 T p.2) := by
    intro hv
    unfold jX11_doDeed_12
    simp only [gdI, gdT, Option.bind_some, lte, hp.k0, hp.k25, hp.k26, hp.l26, hp.r0_0, hp.r0_2, hp.r0_3, hp.r0_4, hp.r0_5, hp.r0_6, hp.r0_7, hp.r0_9, hp.r0_10, hp.r0_13, hp.r25_0, h.tm, lc_eq, fa_eq64, c1]
    obtain ⟨g1, g2⟩ := h.settm ht
    rcases tick v hv with ⟨e, q⟩ | ⟨e, q⟩
    · rw [if_neg (by omega), e]
      exact ok_i ⟨rfl, g2.df, g1⟩
    · rw [if_pos q, e]
      refine Ok.bd (c_followAll g1) (fun p hq => ?_)
      obtain ⟨p1, M1⟩ := p
      obtain ⟨f1, h1⟩ := hq
      exact ok_i ⟨rfl, g2.df.trans f1, h1⟩
  have no : (dd A v = (1, A)) → Ok (some ((1 : Int32), M)) (fun p => p.1 = (dd A v).1 ∧ DF x M p.2 ∧ CV x (dd A v).2 T p.2) := fun e => by rw [e]; exact ok_i ⟨rfl, DF.rfl, h⟩
  unfold fX11_doDeed
  simp only [lc_eq, lc_lt, lc_gt, fa_eq64, fa_lt64, c0, c1, c10, c14]
  by_cases v0 : v.toInt = 0
  · rw [if_pos v0]; exact hj12 (Or.inl v0)
  rw [if_neg v0]
  by_cases v1 : v.toInt = 1
  · rw [if_pos v1]; exact hj12 (Or.inr v1)
  rw [if_neg v1]
  have h79 : ¬ (10 ≤ v.toInt ∧ v.toInt ≤ 14) → Ok (jX11_doDeed_79 T M x v) (fun p => p.1 = (dd A v).1 ∧ DF x M p.2 ∧ CV x (dd A v).2 T p.2) := by
    intro n10
    have h138 : ¬ (100 ≤ v.toInt ∧ v.toInt ≤ 199) → Ok (jX11_doDeed_138 T M x v) (fun p => p.1 = (dd A v).1 ∧ DF x M p.2 ∧ CV x (dd A v).2 T p.2) := by
      intro n100
      have edd : dd A v = if 10000 ≤ v.toInt ∧ v.toInt ≤ 15999 then (if (v.toInt.toNat - 10000) / 1000 < nlA A ∧ v.toInt.toNat % 1000 < 384 then (0, upA A (42 + (v.toInt.toNat - 10000) / 1000) (nI (v.toInt.toNat % 1000))) else (1, A)) else (1, A) := by
        unfold dd; rw [if_neg v0, if_neg v1, if_neg n10, if_neg n100]
      unfold jX11_doDeed_138
      simp only [lc_lt, lc_gt, fa_lt64, c10k, c15k]
      by_cases q1 : v.toInt < 10000
      · rw [if_pos q1]; exact no (by rw [edd, if_neg (by omega)])
      rw [if_neg q1]
      by_cases q2 : 15999 < v.toInt
      · rw [if_pos q2]; exact no (by rw [edd, if_neg (by omega)])
      rw [if_neg q2]
      rw [if_pos (by omega)] at edd
      generalize hn : v.toInt.toNat = n at *
      have hv : v = lN n := by rw [← hn]; exact l_of (by omega)
      rw [hv, l_32 (by omega), i_10000, i_1000, c_sub (by omega), c_div (by omega) (by omega) (by omega), c_rem (by omega) (by omega) (by omega), lte, lte, hp.k0, gdI]
      by_cases q3 : (n - 10000) / 1000 < nlA A
      · rw [c_lane1 h q3, Option.bind_some, if_pos rfl]
        by_cases q4 : n % 1000 < 384
        · rw [c_cell1 q4, Option.bind_some, if_pos rfl]
          rw [if_pos ⟨q3, q4⟩] at edd
          simp (disch := omega) only [gdI, gdT, Option.bind_some, lte, hp.k0, hp.k25, hp.k26, hp.l26, hp.r0_0, hp.r0_2, hp.r0_3, hp.r0_4, hp.r0_5, hp.r0_6, hp.r0_7, hp.r0_9, hp.r0_10, hp.r0_13, hp.r25_0, gvI, cl_nI]
          obtain ⟨g1, g2⟩ := h.setpt (l := (n - 10000) / 1000) (c := n % 1000) (by omega) q4
          rw [← hv, edd]
          exact ok_i ⟨rfl, g2.df, g1⟩
        · rw [c_cell0 (by rw [nI_toInt (by omega)]; omega), Option.bind_some, if_neg (by decide), ← hv]
          exact no (by rw [edd, if_neg (by omega)])
      · rw [c_lane0 h (by rw [nI_toInt (by omega)]; omega), Option.bind_some, if_neg (by decide), ← hv]
        exact no (by rw [edd, if_neg (by omega)])
    unfold jX11_doDeed_79
    simp only [lc_lt, lc_gt, fa_lt64, c100, c199]
    by_cases q1 : v.toInt < 100
    · rw [if_pos q1]; exact h138 (by omega)
    rw [if_neg q1]
    by_cases q2 : 199 < v.toInt
    · rw [if_pos q2]; exact h138 (by omega)
    rw [if_neg q2]
    have edd : dd A v = (if (v.toInt.toNat - 100) / 10 < nlA A ∧ v.toInt.toNat % 10 < 3 then (if trL A ((v.toInt.toNat - 100) / 10) (v.toInt.toNat % 10) = -2 then (2, A) else (0, upA A (42 + (v.toInt.toNat - 100) / 10) (trL A ((v.toInt.toNat - 100) / 10) (v.toInt.toNat % 10)))) else (1, A)) := by
      unfold dd; rw [if_neg v0, if_neg v1, if_neg n10, if_pos (by omega)]
    generalize hn : v.toInt.toNat = n at *
    have hv : v = lN n := by rw [← hn]; exact l_of (by omega)
    rw [hv, l_32 (by omega), i_100, i_10, c_sub (by omega), c_div (by omega) (by omega) (by omega), c_rem (by omega) (by omega) (by omega), lte, hp.k0, gdI, ← hv]
    by_cases q3 : (n - 100) / 10 < nlA A ∧ n % 10 < 3
    · rw [if_pos q3] at edd
      refine Ok.bd (c_trained h q3.1 q3.2) (fun p hq => ?_)
      obtain ⟨p1, M1⟩ := p
      obtain ⟨rfl, hcs, f1, h1⟩ := hq
      have hp1 := h1.px
      rw [une2]
      rcases hcs with e2 | ⟨c, hc, ec⟩
      · rw [e2, if_neg (by decide)]
        rw [if_pos e2] at edd
        rw [edd]
        exact ok_i ⟨show -(-2 : Int32) = 2 from by decide, f1.df, h1⟩
      · have hne : ¬ trL A ((n - 100) / 10) (n % 10) = -2 := by
          rw [ec]
          intro z
          have := congrArg Int32.toInt z
          rw [nI_toInt (by omega)] at this
          have e2 : (-2 : Int32).toInt = -2 := by decide
          omega
        rw [if_neg hne, ec] at edd
        rw [ec, if_pos (nI_pos' (by omega)), edd]
        simp (disch := omega) only [gdI, gdT, Option.bind_some, lte, hp1.k0, hp1.k25, hp1.k26, hp1.l26, hp1.r0_0, hp1.r0_2, hp1.r0_3, hp1.r0_4, hp1.r0_5, hp1.r0_6, hp1.r0_7, hp1.r0_9, hp1.r0_10, hp1.r0_13, hp1.r25_0, gvI, cl_nI]
        obtain ⟨g1, g2⟩ := h1.setpt (l := (n - 100) / 10) (c := c) (by omega) hc
        exact ok_i ⟨rfl, f1.df.trans g2.df, g1⟩
    · rw [if_neg q3] at edd
      rw [c_trained0 h (by rw [nI_toInt (by omega), nI_toInt (by omega)]; omega), Option.bind_some, une2, if_neg (by decide)]
      exact no edd
  by_cases q1 : v.toInt < 10
  · rw [if_pos q1]; exact h79 (by omega)
  rw [if_neg q1]
  by_cases q2 : 14 < v.toInt
  · rw [if_pos q2]; exact h79 (by omega)
  rw [if_neg q2]
  have edd : dd A v = (if v.toInt.toNat - 10 ≤ npA A then (0, upA A 49 (v.toInt32 - 11)) else (1, A)) := by
    unfold dd; rw [if_neg v0, if_neg v1, if_pos (by omega)]
  generalize hn : v.toInt.toNat = n at *
  have hv : v = lN n := by rw [← hn]; exact l_of (by omega)
  have e32 : v.toInt32 = nI n := by rw [hv]; exact l_32 (by omega)
  have ep : v.toInt32 - 11 + 1 = nI (n - 10) := by
    rw [e32, i_sub1a, nI_1, i_11, c_sub (by omega), show n + 1 - 11 = n - 10 by omega]
  rw [lte, hp.k0, gdI, c_patok h ep (by omega), Option.bind_some]
  by_cases q3 : n - 10 ≤ npA A
  · rw [if_pos q3] at edd
    rw [if_pos q3, if_pos rfl]
    simp (disch := omega) only [gdI, gdT, Option.bind_some, lte, hp.k0, hp.k25, hp.k26, hp.l26, hp.r0_0, hp.r0_2, hp.r0_3, hp.r0_4, hp.r0_5, hp.r0_6, hp.r0_7, hp.r0_9, hp.r0_10, hp.r0_13, hp.r25_0]
    obtain ⟨g1, g2⟩ := h.setpa ep q3
    rw [edd]
    exact ok_i ⟨rfl, g2.df, g1⟩
  · rw [if_neg q3] at edd
    rw [if_neg q3, if_neg (by decide)]
    exact no edd
end
