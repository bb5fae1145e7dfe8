/-! the world: what both stand for -/
theorem CV.fr {x : Nat} {A : Nat → Int32} {T T2 : Sh} {M M2 : Me} (h : CV x A T M) (hT : TE T T2) (htp : x + 69 ≤ tp T) (fI : ∀ a k, a = x + 15 ∨ a = x + 17 ∨ a = x + 25 ∨ a = x + 26 ∨ lr x a → a < tp T → gI M2 a k = gI M a k) (fJ : ∀ a k, a = x + 8 ∨ a = x + 16 ∨ a = x + 23 ∨ a = x + 24 → gJ M2 a k = gJ M a k) (fR : ∀ a k, x ≤ a ∧ a ≤ x + 68 ∧ a ≠ x + 29 ∨ lr x a → a < tp T → gR M2 a k = gR M a k) : CV x A T2 M2 := by
  obtain ⟨h1, ⟨a, ha, hl⟩, ⟨h3, G, g1, g2, g3, g4⟩, ⟨h4, h5, h6⟩, h7, h8, ⟨⟨s1, p1, p2, p3⟩, ⟨s2, p4, p5, p6⟩, p7⟩, h10⟩ := h
  have iI : ∀ b k, lr x b → b < tp T → gI M2 b k = gI M b k := fun b k q r => fI b k (Or.inr (Or.inr (Or.inr (Or.inr q)))) r
  have iR : ∀ b k, lr x b → b < tp T → gR M2 b k = gR M b k := fun b k q r => fR b k (Or.inr q) r
  have eU : mU x M2 = mU x M := mU_fr ha hl (fR _ _ (Or.inl (by omega)) (by omega)) iI iR
  have hx : ∀ i, i < 48 → xO i ≤ 65 ∧ xO i ≠ 29 := by decide
  refine ⟨⟨fun i hi => ?_, fun i hi => ?_⟩, ⟨a, (fR _ _ (Or.inl (by omega)) (by omega)).trans ha, hl.fr hT iI iR⟩, ⟨fun r hr => by rw [fI _ _ (by omega) (by omega)]; exact h3 r hr, G, g1, g2, (fJ _ _ (by omega)).trans g3, fun k hk => by rw [fJ _ _ (by omega), eU]; exact g4 k hk⟩, ⟨(fI _ _ (by omega) (by omega)).trans h4, (fI _ _ (by omega) (by omega)).trans h5, fun l hl => (fI _ _ (by omega) (by omega)).trans (h6 l hl)⟩, h7, h8, ⟨⟨s1, p1, (fR _ _ (by omega) (by omega)).trans p2, (fR _ _ (by omega) (by omega)).trans p3⟩, ⟨s2, p4, (fR _ _ (by omega) (by omega)).trans p5, (fR _ _ (by omega) (by omega)).trans p6⟩, fun k hk hb => ⟨(fJ _ _ (by omega)).trans (p7 k hk hb).1, (fJ _ _ (by omega)).trans (p7 k hk hb).2⟩⟩, fun j hj => by rw [fI _ _ (by omega) (by omega)]; exact h10 j hj⟩
  · have := h1.1 i hi
    exact ⟨(hT.2 _ (by omega)).1.trans this.1, (hT.2 _ (by omega)).2.trans this.2⟩
  · have := hx i hi
    exact (fR _ _ (by omega) (by omega)).trans (h1.2 i hi)
def Wd : Type := (Nat → Int32) × Nat × Nat × (Nat → Nat) × Int32 × Int32 × (Nat → Int32) × (Nat → Int32) × (Nat → Nat → Int64) × (Nat → Option (Nat → Int32)) × Nat
def Wd.A (S : Wd) : Nat → Int32 := S.1
def Wd.u (S : Wd) : Nat := S.2.1
def Wd.n (S : Wd) : Nat := S.2.2.1
def Wd.b (S : Wd) : Nat → Nat := S.2.2.2.1
def Wd.f1 (S : Wd) : Int32 := S.2.2.2.2.1
def Wd.f2 (S : Wd) : Int32 := S.2.2.2.2.2.1
def Wd.so (S : Wd) : Nat → Int32 := S.2.2.2.2.2.2.1
def Wd.sz (S : Wd) : Nat → Int32 := S.2.2.2.2.2.2.2.1
def Wd.nu (S : Wd) : Nat → Nat → Int64 := S.2.2.2.2.2.2.2.2.1
def Wd.im (S : Wd) : Nat → Option (Nat → Int32) := S.2.2.2.2.2.2.2.2.2.1
def Wd.c (S : Wd) : Nat := S.2.2.2.2.2.2.2.2.2.2
def mkW (A : Nat → Int32) (u n : Nat) (b : Nat → Nat) (f1 f2 : Int32) (so sz : Nat → Int32) (nu : Nat → Nat → Int64) (im : Nat → Option (Nat → Int32)) (c : Nat) : Wd := (A, u, n, b, f1, f2, so, sz, nu, im, c)
/-- a row and its time are sound -/
def OK (A : Nat → Int32) (t : Nat) : Prop := LV A ∧ SV A ∧ tmA A ≤ t
def Wd.ok (S : Wd) : Prop := (OK S.A (100 * S.c) ∧ S.c ≤ 600) ∧ (S.u ≤ 10 ∧ S.A 50 = nI S.u ∧ ∀ i, i < S.u → OK (unA S.A i 8) (100 * S.c)) ∧ (S.n ≤ 900 ∧ ∀ i, S.b i < 256) ∧ (∀ t, t < 4 → S.sz t = -1 ∨ ∃ k j, k ≤ 40 ∧ S.sz t = nI k ∧ j < 4 ∧ S.so t = nI j) ∧ ∀ i B, i < 2 → S.im i = some B → OK B (100 * S.c)
def IMC (x i : Nat) (o : Option (Nat → Int32)) (T : Sh) (M : Me) : Prop := match o with
  | none => gR M (x + 60 + 3 * i) 1 = none
  | some B => ∃ a, gR M (x + 60 + 3 * i) 1 = some a ∧ CLab x a B T M ∧ SD (x + 61 + 3 * i) (fun k => B (42 + k)) M
/-- what the class has beside how it stands and what it keeps for undoing -/
def WX (x : Nat) (S : Wd) (T : Sh) (M : Me) : Prop := x + 88 ≤ tp T ∧ (gI M x 1 = nI S.n ∧ ∀ i, i < S.n → gI M (x + 1) i = (nI (S.b i)).toInt8.toInt32) ∧ (gI M (x + 2) 2 = S.f1 ∧ gI M (x + 2) 3 = S.f2) ∧ (∀ t, t < 4 → gI M (x + 51 + 2 * t) 2 = S.sz t ∧ (S.sz t ≠ -1 → gI M (x + 51 + 2 * t) 1 = S.so t) ∧ ∀ i, i < (S.sz t).toNatClampNeg → gJ M (x + 52 + 2 * t) i = S.nu t i) ∧ (∀ i, i < 2 → IMC x i (S.im i) T M) ∧ ∃ G, gJ M (x + 8) 3 = lN G ∧ G ≤ S.c + 1
def WC (x : Nat) (S : Wd) (T : Sh) (M : Me) : Prop := CV x S.A T M ∧ UN x S.A S.u M ∧ WX x S T M
def IMR (m i : Nat) (o : Option (Nat → Int32)) (M : Me) : Prop := match o with
  | none => gI M (m + 2) i = 0
  | some B => gI M (m + 2) i = 1 ∧ ∀ k, k < 1032 → gI M (m + 1) (1032 * (i + 1) + k) = B k
def WY (m : Nat) (S : Wd) (M : Me) : Prop := (gI M m 5 = nI S.n ∧ ∀ i, i < S.n → gI M (m + 3) i = nI (S.b i)) ∧ (gI M m 13 = S.f1 ∧ gI M m 14 = S.f2) ∧ (∀ t, t < 4 → (S.sz t = -1 → gI M (m + 16) t = -1) ∧ (S.sz t ≠ -1 → gI M (m + 16) t = S.so t ∧ gI M (m + 17) t = S.sz t) ∧ ∀ i, i < (S.sz t).toNatClampNeg → gJ M (m + 18) (40 * t + i) = S.nu t i) ∧ ∀ i, i < 2 → IMR m i (S.im i) M
def WR (m : Nat) (S : Wd) (T : Sh) (M : Me) : Prop := RW m S.A T M ∧ WY m S M
/-- the class leaves the reference's cells -/
def CF (x : Nat) (M M2 : Me) : Prop := ∀ a k, x + 69 ≤ a → a < x + 88 → gI M2 a k = gI M a k ∧ gJ M2 a k = gJ M a k ∧ gR M2 a k = gR M a k
def WF (x : Nat) (M M2 : Me) : Prop := (∀ a k, a = x ∧ k = 1 ∨ a = x + 1 ∨ a = x + 2 ∨ x + 50 ≤ a ∧ a ≤ x + 65 ∨ lr x a → gI M2 a k = gI M a k) ∧ (∀ a k, a = x + 8 ∨ x + 50 ≤ a ∧ a ≤ x + 58 → gJ M2 a k = gJ M a k) ∧ (∀ a k, x + 50 ≤ a ∧ a ≤ x + 65 ∨ lr x a → gR M2 a k = gR M a k) ∧ CF x M M2
/-- the reference leaves the class's cells -/
def RF (m : Nat) (M M2 : Me) : Prop := ∀ a k, a < m ∨ m + 19 ≤ a → gI M2 a k = gI M a k ∧ gJ M2 a k = gJ M a k ∧ gR M2 a k = gR M a k
section
variable {x m : Nat} {A B : Nat → Int32} {T T2 : Sh} {M M1 M2 : Me} {S : Wd}
theorem CF.trans (h : CF x M M1) (h2 : CF x M1 M2) : CF x M M2 := fun a k p q => ⟨(h2 a k p q).1.trans (h a k p q).1, (h2 a k p q).2.1.trans (h a k p q).2.1, (h2 a k p q).2.2.trans (h a k p q).2.2⟩
theorem CF.rfl : CF x M M := fun _ _ _ _ => ⟨Eq.refl _, Eq.refl _, Eq.refl _⟩
theorem RF.trans (h : RF m M M1) (h2 : RF m M1 M2) : RF m M M2 := fun a k p => ⟨(h2 a k p).1.trans (h a k p).1, (h2 a k p).2.1.trans (h a k p).2.1, (h2 a k p).2.2.trans (h a k p).2.2⟩
theorem RF.rfl : RF m M M := fun _ _ _ => ⟨Eq.refl _, Eq.refl _, Eq.refl _⟩
theorem WF.rfl : WF x M M := ⟨fun _ _ _ => Eq.refl _, fun _ _ _ => Eq.refl _, fun _ _ _ => Eq.refl _, CF.rfl⟩
theorem WF.trans (h : WF x M M1) (h2 : WF x M1 M2) : WF x M M2 := ⟨fun a k p => (h2.1 a k p).trans (h.1 a k p), fun a k p => (h2.2.1 a k p).trans (h.2.1 a k p), fun a k p => (h2.2.2.1 a k p).trans (h.2.2.1 a k p), h.2.2.2.trans h2.2.2.2⟩
theorem DF.wf (h : DF x M M2) : WF x M M2 := ⟨fun a k p => h.1 a k (by unfold lr at p; omega) (by unfold lr at p; omega) (by unfold lr at p; omega) (by unfold lr at p; omega) (by unfold lr at p; omega), fun a k p => h.2.1 a k (by omega) (by omega) (by omega), fun a k p => h.2.2 a k (by unfold lr at p; omega) (by unfold lr at p; omega), fun a k p q => ⟨h.1 a k (by omega) (by omega) (by omega) (by omega) (by omega), h.2.1 a k (by omega) (by omega) (by omega), h.2.2 a k (by omega) (by omega)⟩⟩
theorem GF.wf (h : GF x M M2) : WF x M M2 := h.df.wf
theorem NF.wf (h : NF x M M2) : WF x M M2 := h.df.wf
theorem UF.wf (h : UF x M M2) : WF x M M2 := ⟨fun a k p => h.1 a k (by unfold lr at p; omega) (by unfold lr at p; omega), fun a k p => by unfold gJ; rw [h.2.1], fun a k p => h.2.2 a k (by unfold lr at p; omega), fun a k p q => ⟨h.1 a k (by omega) (by omega), by unfold gJ; rw [h.2.1], h.2.2 a k (by omega)⟩⟩
theorem IMC.fr {i : Nat} {o : Option (Nat → Int32)} (h : IMC x i o T M) (hi : i < 2) (hT : TE T T2) (hI : ∀ a k, x + 60 ≤ a ∧ a ≤ x + 65 ∨ lr x a → a < tp T → gI M2 a k = gI M a k) (hR : ∀ a k, x + 60 ≤ a ∧ a ≤ x + 65 ∨ lr x a → a < tp T → gR M2 a k = gR M a k) (htp : x + 88 ≤ tp T) : IMC x i o T2 M2 := by
  cases o with
  | none => exact (hR _ _ (Or.inl (by omega)) (by omega)).trans h
  | some B =>
    obtain ⟨a, h1, h2, h3⟩ := h
    exact ⟨a, (hR _ _ (Or.inl (by omega)) (by omega)).trans h1, h2.fr hT (fun b k q r => hI b k (Or.inr q) r) (fun b k q r => hR b k (Or.inr q) r), h3.fr (fun k => hI _ _ (Or.inl (by omega)) (by omega)) (fun k => hI _ _ (Or.inl (by omega)) (by omega))⟩
theorem WX.wf (h : WX x S T M) (f : WF x M M2) : WX x S T M2 := by
  obtain ⟨h0, ⟨h1, h2⟩, ⟨h3, h4⟩, h5, h6, G, h7, h8⟩ := h
  refine ⟨h0, ⟨(f.1 _ _ (by omega)).trans h1, fun i hi => (f.1 _ _ (by omega)).trans (h2 i hi)⟩, ⟨(f.1 _ _ (by omega)).trans h3, (f.1 _ _ (by omega)).trans h4⟩, fun t ht => ?_, fun i hi => (h6 i hi).fr hi TE.rfl (fun a k q _ => f.1 a k (by unfold lr at q ⊢; omega)) (fun a k q _ => f.2.2.1 a k (by unfold lr at q ⊢; omega)) h0, G, (f.2.1 _ _ (by omega)).trans h7, h8⟩
  obtain ⟨q1, q2, q3⟩ := h5 t ht
  exact ⟨(f.1 _ _ (by omega)).trans q1, fun z => (f.1 _ _ (by omega)).trans (q2 z), fun i hi => (f.2.1 _ _ (by omega)).trans (q3 i hi)⟩
theorem UN.df {u : Nat} (h : UN x A u M) (f : DF x M M2) : UN x A u M2 := h.fr (f.1 _ _ (by omega) (by omega) (by omega) (by omega) (by omega)) (fun a k p q => f.1 _ _ (by omega) (by omega) (by omega) (by omega) (by omega)) (fun k => f.2.2 _ _ (by omega) (by omega))
theorem CV.uf (h : CV x A T M) (f : UF x M M2) (htp : x + 69 ≤ tp T) : CV x A T M2 := h.fr TE.rfl htp (fun a k q _ => f.1 a k (by unfold lr at q; omega) (by unfold lr at q; omega)) (fun a k _ => by unfold gJ; rw [f.2.1]) (fun a k q _ => f.2.2 a k (by unfold lr at q; omega))
theorem SV.eq8 (h : SV A) (hp : npA B = npA A) (e : ∀ k, 42 ≤ k → k < 50 → B k = A k) : SV B ∧ tmA B = tmA A := by
  have e1 : tmA B = tmA A := by unfold tmA; rw [e 48 (by omega) (by omega)]
  have e2 : qA B = qA A := by unfold qA; rw [e 49 (by omega) (by omega)]
  have e3 : ∀ l, l < 6 → ptA B l = ptA A l := fun l hl => by unfold ptA; rw [e (42 + l) (by omega) (by omega)]
  refine ⟨⟨⟨?_, ?_⟩, ⟨?_, ?_⟩, fun l hl => ⟨?_, ?_⟩⟩, e1⟩
  · rw [e1, e 48 (by omega) (by omega)]; exact h.n48
  · rw [e1]; exact h.b48
  · rw [e2, e 49 (by omega) (by omega)]; exact h.n49
  · rw [e2, hp]; exact h.b49
  · rw [e3 l hl, e (42 + l) (by omega) (by omega)]; exact h.pt hl
  · rw [e3 l hl]; exact h.ptb hl
theorem CV.row (h : CV x A T M) (le : LE A B) (e : ∀ k, 42 ≤ k → k < 50 → B k = A k) : CV x B T M := h.set le (h.sv.eq8 le.np e).1 ⟨fun _ _ _ _ => rfl, rfl⟩ (h.tm.trans (e 48 (by omega) (by omega)).symm) (h.pa.trans (e 49 (by omega) (by omega)).symm) (fun l hl => (h.pt hl).trans (e (42 + l) (by omega) (by omega)).symm)
theorem CV.sd (h : CV x A T M) : SD (x + 25) (fun k => A (42 + k)) M := ⟨fun k hk => h.pt hk, h.tm, h.pa⟩
theorem OK.up {t t2 : Nat} (h : OK A t) (ht : t ≤ t2) : OK A t2 := ⟨h.1, h.2.1, Nat.le_trans h.2.2 ht⟩
theorem OK.eq8 {t : Nat} (h : OK A t) (le : LE A B) (e : ∀ k, 42 ≤ k → k < 50 → B k = A k) : OK B t := ⟨le.hLV h.1, (h.2.1.eq8 le.np e).1, by rw [(h.2.1.eq8 le.np e).2]; exact h.2.2⟩
theorem LE.nt {u : Nat} {w : Nat → Int32} (hu : u ≤ 10) : LE A (ntA A u w) := ⟨fun k hk => (ntA_o (by omega) hu).symm, fun k h1 h2 => (ntA_o (by omega) hu).symm⟩
theorem LE.un {v i : Nat} (hi : i ≤ 8) : LE A (unA A v i) := ⟨fun k hk => by unfold unA; rw [if_neg (by omega), if_neg (by omega)], fun k h1 h2 => by unfold unA; rw [if_neg (by omega), if_neg (by omega)]⟩
theorem unA_8 {v k : Nat} (h1 : 42 ≤ k) (h2 : k < 50) : unA A v 8 k = A (51 + 8 * v + (k - 42)) := by unfold unA; rw [if_neg (by omega), if_pos (by omega)]
theorem QF.rf (h : QF m M M2) : RF m M M2 := fun a k q => ⟨h.1 a k (by unfold sq; omega), h.2.1 a k (by omega), h.2.2 a k (by omega)⟩
theorem FI.rf {P : Nat → Nat → Prop} (h : FI m P M M2) (hp : ∀ a k, P a k → m ≤ a ∧ a ≤ m + 18) : RF m M M2 := fun a k q => ⟨h.1 a k (fun z => by have := hp a k z; omega), h.2.1 a k (by omega), h.2.2 a k (by omega)⟩
/-- what the reference has beside its row -/
def YF (m : Nat) (M M2 : Me) : Prop := (∀ a k, a = m ∧ (k = 5 ∨ k = 13 ∨ k = 14) ∨ a = m + 2 ∨ a = m + 3 ∨ a = m + 16 ∨ a = m + 17 ∨ a = m + 1 ∧ 1032 ≤ k → gI M2 a k = gI M a k) ∧ ∀ k, gJ M2 (m + 18) k = gJ M (m + 18) k
theorem YF.trans (h : YF m M M1) (h2 : YF m M1 M2) : YF m M M2 := ⟨fun a k p => (h2.1 a k p).trans (h.1 a k p), fun k => (h2.2 k).trans (h.2 k)⟩
theorem YF.rfl : YF m M M := ⟨fun _ _ _ => Eq.refl _, fun _ => Eq.refl _⟩
theorem WY.yf (h : WY m S M) (f : YF m M M2) : WY m S M2 := by
  obtain ⟨⟨h1, h2⟩, ⟨h3, h4⟩, h5, h6⟩ := h
  refine ⟨⟨(f.1 _ _ (by omega)).trans h1, fun i hi => (f.1 _ _ (by omega)).trans (h2 i hi)⟩, ⟨(f.1 _ _ (by omega)).trans h3, (f.1 _ _ (by omega)).trans h4⟩, fun t ht => ?_, fun i hi => ?_⟩
  · obtain ⟨q1, q2, q3⟩ := h5 t ht
    exact ⟨fun z => (f.1 _ _ (by omega)).trans (q1 z), fun z => ⟨(f.1 _ _ (by omega)).trans (q2 z).1, (f.1 _ _ (by omega)).trans (q2 z).2⟩, fun i hi => (f.2 _).trans (q3 i hi)⟩
  · have := h6 i hi
    cases e : S.im i with
    | none => rw [e] at this; exact (f.1 _ _ (by omega)).trans this
    | some B => rw [e] at this; exact ⟨(f.1 _ _ (by omega)).trans this.1, fun k hk => (f.1 _ _ (by omega)).trans (this.2 k hk)⟩
theorem QF.yf (h : QF m M M2) : YF m M M2 := ⟨fun a k p => h.1 a k (by unfold sq; omega), fun k => h.2.1 _ _ (by omega)⟩
theorem FI.yf {P : Nat → Nat → Prop} (h : FI m P M M2) (hp : ∀ a k, P a k → ¬ (a = m ∧ (k = 5 ∨ k = 13 ∨ k = 14) ∨ a = m + 2 ∨ a = m + 3 ∨ a = m + 16 ∨ a = m + 17 ∨ a = m + 1 ∧ 1032 ≤ k)) : YF m M M2 := ⟨fun a k p => h.1 a k (fun z => hp a k z p), fun k => h.2.1 _ _ (by omega)⟩
theorem WC.rf (h : WC x S T M) (f : RF (x + 69) M M2) : WC x S T M2 := by
  obtain ⟨h1, h2, h3⟩ := h
  have htp := h3.1
  refine ⟨h1.fr TE.rfl (by omega) (fun a k q _ => (f a k (by unfold lr at q; omega)).1) (fun a k q => (f a k (by omega)).2.1) (fun a k q _ => (f a k (by unfold lr at q; omega)).2.2), h2.fr (f _ _ (by omega)).1 (fun a k p q => (f a k (by omega)).1) (fun k => (f _ k (by omega)).2.2), ?_⟩
  obtain ⟨h0, ⟨h1, h2⟩, ⟨h3, h4⟩, h5, h6, G, h7, h8⟩ := h3
  refine ⟨h0, ⟨(f _ _ (by omega)).1.trans h1, fun i hi => (f _ _ (by omega)).1.trans (h2 i hi)⟩, ⟨(f _ _ (by omega)).1.trans h3, (f _ _ (by omega)).1.trans h4⟩, fun t ht => ?_, fun i hi => (h6 i hi).fr hi TE.rfl (fun a k q _ => (f a k (by unfold lr at q; omega)).1) (fun a k q _ => (f a k (by unfold lr at q; omega)).2.2) h0, G, (f _ _ (by omega)).2.1.trans h7, h8⟩
  obtain ⟨q1, q2, q3⟩ := h5 t ht
  exact ⟨(f _ _ (by omega)).1.trans q1, fun z => (f _ _ (by omega)).1.trans (q2 z), fun i hi => (f _ _ (by omega)).2.1.trans (q3 i hi)⟩
theorem WR.cf (h : WR (x + 69) S T M) (f : CF x M M2) : WR (x + 69) S T M2 := ⟨⟨h.1.1.fr (fun k => (f _ _ (by omega) (by omega)).2.2), fun k hk => (f _ _ (by omega) (by omega)).1.trans (h.1.2 k hk)⟩, h.2.yf ⟨fun a k p => (f _ _ (by omega) (by omega)).1, fun k => (f _ _ (by omega) (by omega)).2.1⟩⟩
theorem WR.te (h : WR (x + 69) S T M) (hT : TE T T2) (htp : x + 88 ≤ tp T) : WR (x + 69) S T2 M := ⟨⟨⟨(hT.2 _ (by omega)).1.trans h.1.1.1, fun i hi => ⟨(h.1.1.2 i hi).1, (hT.2 _ (by omega)).1.trans (h.1.1.2 i hi).2.1, (hT.2 _ (by omega)).2.trans (h.1.1.2 i hi).2.2⟩⟩, h.1.2⟩, h.2⟩
/-- a call: both answer alike and come to the same -/
def QS {α : Type} (x : Nat) (S : Wd) (f g : Sh → Me → Option (α × Me)) : Prop := ∃ r S', Wd.ok S' ∧ S'.c ≤ S.c + 1 ∧ (∀ T M, WC x S T M → Ok (f T M) (fun p => p.1 = r ∧ WC x S' T p.2 ∧ CF x M p.2)) ∧ ∀ T M, WR (x + 69) S T M → Ok (g T M) (fun p => p.1 = r ∧ WR (x + 69) S' T p.2 ∧ RF (x + 69) M p.2)
theorem WR.rv (h : WR m S T M) (hS : S.ok) : RV m S.A T M := ⟨h.1.1, h.1.2, hS.1.1.1, hS.1.1.2.1⟩
theorem QQ.s {α : Type} {f g : Sh → Me → Option (α × Me)} (hS : S.ok) (h : QQ x (x + 69) S.A f g) : QS x S f g := by
  obtain ⟨r, h1, h2⟩ := h
  refine ⟨r, S, hS, by omega, fun T M hc => ?_, fun T M hr => ?_⟩
  · refine (h1 T M hc.1).mono (fun p hp => ⟨hp.1, ⟨hp.2.2, hc.2.1.df hp.2.1.df, hc.2.2.wf hp.2.1.wf⟩, hp.2.1.wf.2.2.2⟩)
  · have hv := hr.rv hS
    refine (h2 T M hv).mono (fun p hp => ⟨hp.1, ⟨(hv.qf hp.2).rw, hr.2.yf hp.2.yf⟩, hp.2.rf⟩)
end
