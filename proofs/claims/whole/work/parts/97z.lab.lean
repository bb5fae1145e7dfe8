section
variable {x m : Nat} {A B : Nat → Int32} {T T2 : Sh} {M M1 M2 : Me} {S : Wd}
/-- what lab changes in the reference -/
def zf (m a k : Nat) : Prop := a = m ∧ k ≤ 15 ∧ k ≠ 1 ∧ k ≠ 2 ∧ k ≠ 3 ∧ k ≠ 4 ∨ a = m + 4
def zg (m a k : Nat) : Prop := zf m a k ∨ a = m + 1 ∧ k < 1032
theorem rz_zf {a k : Nat} (h : rz m a k) : zf m a k := by unfold rz rl rh at h; unfold zf; omega
theorem zg_rf (f : FI m (zg m) M M2) : RF m M M2 := f.rf (fun a k q => by unfold zg zf at q; omega)
theorem wy_zf {f1 f2 : Int32} {R : Nat → Int32} {u c n : Nat} (h : WY m S M) (f : FI m (zg m) M M2) (h5 : gI M2 m 5 = nI 0) (h13 : gI M2 m 13 = f1) (h14 : gI M2 m 14 = f2) : WY m (mkW R u 0 S.b f1 f2 S.so S.sz S.nu S.im c) M2 := by
  obtain ⟨⟨h1, h2⟩, ⟨h3, h4⟩, h5', h6⟩ := h
  refine ⟨⟨h5, fun i hi => absurd (show i < 0 from hi) (by omega)⟩, ⟨h13, h14⟩, fun t ht => ?_, fun i hi => ?_⟩
  · obtain ⟨q1, q2, q3⟩ := h5' t ht
    exact ⟨fun z => (f.1 _ _ (by unfold zg zf; omega)).trans (q1 z), fun z => ⟨(f.1 _ _ (by unfold zg zf; omega)).trans (q2 z).1, (f.1 _ _ (by unfold zg zf; omega)).trans (q2 z).2⟩, fun i hi => (f.2.1 _ _ (by omega)).trans (q3 i hi)⟩
  · have := h6 i hi
    show IMR m i (S.im i) M2
    cases e : S.im i with
    | none => rw [e] at this; exact (f.1 _ _ (by unfold zg zf; omega)).trans this
    | some B => rw [e] at this; exact ⟨(f.1 _ _ (by unfold zg zf; omega)).trans this.1, fun k hk => (f.1 _ _ (by unfold zg zf; omega)).trans (this.2 k hk)⟩
theorem r_copyL {F : Nat → Int32} (hm : RM m T M) (hF : ∀ k, k < 1032 → gI M (m + 4) k = F k) : Ok (lp FU (fun s => bX12_lab_169 T m s.1 s.2) ((0 : Int32), M)) (fun M' => (∀ k, k < 1032 → gI M' (m + 1) k = F k) ∧ FI m (fun a k => a = m + 1 ∧ k < 1032) M M') := by
  refine ok_forE (s := ((0 : Int32), M)) 0 1032 (fun k s => ∃ M', s = (nI k, M') ∧ FI m (fun a k => a = m + 1 ∧ k < 1032) M M' ∧ ∀ j, j < k → gI M' (m + 1) j = F j) _ ⟨M, rfl, FI.rfl, fun j hj => absurd hj (by omega)⟩ (by omega) (by omega) (fun k s _ hk hI => ?_) (fun s hI => ?_)
  · obtain ⟨M', rfl, f, g⟩ := hI
    have hm' := hm.fr (M' := M') (fun k => f.2.2 _ _ (by omega))
    show Ok (bX12_lab_169 T m (nI k) M') _
    unfold bX12_lab_169
    rw [i_1032, ite_le (by omega) (by omega), if_neg (by omega), hm.k, gdI, hm'.r1, Option.bind_some, hm'.r4, Option.bind_some, hm.k4, gdI, hm.l4, gvI (by omega) (by omega), hm.k1, gdI, hm.l1, gvI (by omega) (by omega), cl_nI (by omega), lte, lte, nI_1, f.1 _ _ (by omega), hF k hk]
    refine ok_i ⟨_, rfl, f.pI ⟨rfl, hk⟩, fun j hj => ?_⟩
    rw [mII]
    by_cases z : j = k
    · rw [if_pos ⟨rfl, z⟩, z]
    · rw [if_neg (fun y => z y.2)]; exact g j (by omega)
  · obtain ⟨M', rfl, f, g⟩ := hI
    show Ok (bX12_lab_169 T m (nI 1032) M') _
    unfold bX12_lab_169
    rw [if_pos (by decide)]
    exact ok_i ⟨g, f⟩
/-- the reference as far as its reader -/
theorem r_labH {n : Nat} {P : Int32 × Me → Prop} (h : WR m S T M) (hS : S.ok) (hn : n ≤ S.n) (hK : ∀ M10, TR m n S.b T M10 → gI M10 m 7 = 0 → gI M10 m 11 = 0 → (∀ k, k < 1032 → gI M10 (m + 4) k = plF k) → FI m (zf m) M M10 → gI M10 m 5 = nI 0 → Ok (Option.bind (fX12_next T M10 m) <| un2 fun _u M11 => Option.bind (fX12_eats T M11 m (0 : Int32)) <| un2 fun r12 M13 => if r12 = 0 then (Option.bind (fX12_fails T M13 m (2 : Int32)) <| un2 fun _u M55 => jX12_lab_66 T M55 m) else (jX12_lab_66 T M13 m)) P) : Ok (fX12_lab T M m (nI n)) P := by
  have h9 := hS.2.2.1.1
  have hm := h.1.1
  have e5 := h.2.1.1
  have k0 : (0 : Int64).toInt = 0 := by decide
  unfold fX12_lab
  rw [hm.k, gdI, lte, mIIk (by omega), e5, wi_1 (by rw [Int32.toInt_toInt64, Int32.toInt_toInt64, nI_toInt (by omega), nI_toInt (by omega), k0]; omega), Option.bind_some, if_neg (by decide), lte, lte, lte, lte]
  have f8 : FI m (zf m) M (pI (pI (pI (pI (pI M m 0 0) m 8 (nI n)) m 5 0) m 7 0) m 11 0) := ((((FI.rfl.pI (Or.inl ⟨rfl, by omega, by omega, by omega, by omega, by omega⟩)).pI (Or.inl ⟨rfl, by omega, by omega, by omega, by omega, by omega⟩)).pI (Or.inl ⟨rfl, by omega, by omega, by omega, by omega, by omega⟩)).pI (Or.inl ⟨rfl, by omega, by omega, by omega, by omega, by omega⟩)).pI (Or.inl ⟨rfl, by omega, by omega, by omega, by omega, by omega⟩)
  have g8 : gI (pI (pI (pI (pI (pI M m 0 0) m 8 (nI n)) m 5 0) m 7 0) m 11 0) m 8 = nI n := by rw [mIIk (by omega), mIIk (by omega), mIIk (by omega), mII1]
  have g5 : gI (pI (pI (pI (pI (pI M m 0 0) m 8 (nI n)) m 5 0) m 7 0) m 11 0) m 5 = nI 0 := by rw [mIIk (by omega), mIIk (by omega), mII1]; rfl
  have g7 : gI (pI (pI (pI (pI (pI M m 0 0) m 8 (nI n)) m 5 0) m 7 0) m 11 0) m 7 = 0 := by rw [mIIk (by omega), mII1]
  have g11 : gI (pI (pI (pI (pI (pI M m 0 0) m 8 (nI n)) m 5 0) m 7 0) m 11 0) m 11 = 0 := mII1
  generalize pI (pI (pI (pI (pI M m 0 0) m 8 (nI n)) m 5 0) m 7 0) m 11 0 = M8 at f8 g8 g5 g7 g11
  have hm8 := hm.fr (M' := M8) (fun k => f8.2.2 _ _ (by omega))
  rw [hm8.r4, Option.bind_some]
  refine Ok.bd (r_plain hm8) (fun p hp => ?_)
  obtain ⟨p1, M10⟩ := p
  obtain ⟨g, f⟩ := hp
  have f : FI m (fun a _ => a = m + 4) M8 M10 := f
  have f10 : FI m (zf m) M M10 := f8.trans (f.wide (fun a k z => Or.inr z))
  have ne4 : ∀ k, gI M10 m k = gI M8 m k := fun k => f.1 _ _ (by omega)
  rw [une2]
  exact hK M10 ⟨hm.fr (fun k => f10.2.2 _ _ (by omega)), (ne4 _).trans g8, by omega, hS.2.2.1.2, fun k hk => (f10.1 _ _ (by unfold zf; omega)).trans (h.2.1.2 k (by omega))⟩ ((ne4 _).trans g7) ((ne4 _).trans g11) g f10 ((ne4 _).trans g5)
theorem s_lab (hS : S.ok) (hc : S.c < 600) (a : Int32) : QT x S (fun T M => fX11_lab T M x a) (fun T M => fX12_lab T M (x + 69) a) := by
  have h9 := hS.2.2.1.1
  have k0 : (0 : Int32).toInt = 0 := by decide
  have j0 : (0 : Int64).toInt = 0 := by decide
  by_cases ha : 0 ≤ a.toInt ∧ a.toInt ≤ (S.n : Int)
  rotate_left
  · refine qt_no hS (-3) (fun T M h => ?_) (fun T M h => ?_)
    · show fX11_lab T M x a = _
      have e1 := h.2.2.2.1.1
      unfold fX11_lab
      by_cases z : a < 0
      · rw [if_pos z]
      · rw [if_neg z, h.1.px.k0, gdI, e1, if_neg]
        rw [fa_lt, k0] at z
        rw [fa_le, nI_toInt (by omega)]
        omega
    · show fX12_lab T M (x + 69) a = _
      have e5 := h.2.1.1
      unfold fX12_lab
      rw [h.1.1.k, gdI, lte, mIIk (by omega), e5, wi_0 (by rw [Int32.toInt_toInt64, Int32.toInt_toInt64, nI_toInt (by omega), j0]; exact ha), Option.bind_some, if_pos rfl]
  obtain ⟨n, hn, rfl⟩ : ∃ n, n < 901 ∧ a = nI n := by
    rcases ix_I a 901 (by omega) with q | q
    · exact q
    · omega
  have hnS : n ≤ S.n := by rw [nI_toInt (by omega)] at ha; omega
  have cH : ∀ T M, WC x S T M → fX11_lab T M x (nI n) = Option.bind (fX6_read T (pI M x 1 0) (x + 2) (x + 1) (nI n)) (un3 fun r8 T10 M9 => jX11_lab_32 T10 M9 x r8) := by
    intro T M h
    have hp := h.1.px
    have e1 := h.2.2.2.1.1
    unfold fX11_lab
    rw [if_neg (i_neg _ (by omega)), hp.k0, gdI, e1, ite_le (by omega) (by omega), if_pos hnS, lte, mRI, hp.r0_2, Option.bind_some, mRI, hp.r0_0, Option.bind_some, hp.k2, gdI]
  have cT : ∀ T M, WC x S T M → TX x n S.b (pI M x 1 0) ∧ PX x T (pI M x 1 0) ∧ x + 88 ≤ tp T := fun T M h => ⟨⟨by omega, hS.2.2.1.2, fun i hi => (mIIn (by omega)).trans (h.2.2.2.1.2 i (by omega))⟩, h.1.px.eq rfl, h.2.2.1⟩
  rcases j_read (x := x) (m := x + 69) (n := n) (b := S.b) (by omega) hS.2.2.1.2 with ⟨F, q, hV, hcl, hrf⟩ | ⟨f, hcl, hrf⟩
  · have hO : OK F (100 * ((flW S 0 (-1)).c + 1)) := hV.ok
    have e50 : F 50 = 0 := hV.2.2.2.1 50 (by omega) (by omega)
    refine ⟨F 0, rsW (flW S 0 (-1)) F, rs_ok (fl_ok hS) hc hO, Nat.le_refl _, fun T M h => ?_, fun T M h => ?_⟩
    · show Ok (fX11_lab T M x (nI n)) _
      obtain ⟨t1, t2, t3⟩ := cT T M h
      rw [cH T M h]
      refine Ok.bd (hcl T (pI M x 1 0) t2 t1 t3) (fun p hp => ?_)
      obtain ⟨r8, T2, M2⟩ := p
      obtain ⟨q1, q2, q3, q4, q5, q6, q7, q8, q9⟩ := hp
      have q1 : r8 = some (tp T) := q1
      have q2 : CLab x (tp T) F T2 M2 := q2
      have q8 : tp T2 ≤ tp T + 1100 := q8
      have q9 : sl T2 ≤ sl T + 14000 := q9
      obtain ⟨w1, w2⟩ := h.rd q6 q7 q4 q5
      have hp2 := w1.1.px
      obtain ⟨⟨u1, M3⟩, e3, hp3, ⟨u2, M4⟩, e4, g1, g2, g3, g4⟩ := c_useC w1 hc hO q2 (fun k hk => hV.2.2.2.1 _ (by omega) (by omega))
      have hp3 : PX x T2 M3 := hp3
      have e4 : fX8_clear T2 M3 (x + 25) = some (u2, M4) := e4
      rw [une3, q1]
      unfold jX11_lab_32
      show Ok (gd (kd T2 x = 10) _) _
      rw [hp2.k0, gdI, hp2.r0_3, Option.bind_some, hp2.k8, gdI, e3, Option.bind_some, une2, hp3.r0_5, Option.bind_some, hp3.k25, gdI, e4, Option.bind_some, une2, lte, q2.k, gdI]
      exact ok_i ⟨g4, g1, w2.trans g3, q6, q8, q9⟩
    · show Ok (fX12_lab T M (x + 69) (nI n)) _
      refine r_labH h hS hnS (fun M10 t1 t2 t3 t4 t5 t6 => ?_)
      refine hrf T M10 t1 t2 t3 t4 _ (fun M' r1 r2 r3 r4 => ?_)
      rw [lte, r2]
      have fA : FI (x + 69) (zf (x + 69)) M (pI M' (x + 69) 13 0) := (t5.trans (r4.wide (fun a k z => rz_zf z))).pI (Or.inl ⟨rfl, by omega, by omega, by omega, by omega, by omega⟩)
      have e11 : gI (pI M' (x + 69) 13 0) (x + 69) 11 = 0 := (mIIk (by omega)).trans r2
      rw [e11, if_pos rfl]
      unfold jX12_lab_149
      have hmA : RM (x + 69) T (pI M' (x + 69) 13 0) := r1.fr (fun _ => rfl)
      rw [hmA.k, gdI, lte, gdI, mIIk (by omega), e11, if_pos rfl]
      have fB : FI (x + 69) (zf (x + 69)) M (pI (pI M' (x + 69) 13 0) (x + 69) 14 (-1)) := fA.pI (Or.inl ⟨rfl, by omega, by omega, by omega, by omega, by omega⟩)
      have hmB : RM (x + 69) T (pI (pI M' (x + 69) 13 0) (x + 69) 14 (-1)) := r1.fr (fun _ => rfl)
      have b5 : gI (pI (pI M' (x + 69) 13 0) (x + 69) 14 (-1)) (x + 69) 5 = nI 0 := by rw [mIIk (by omega), mIIk (by omega), r4.1 _ _ (by unfold rz rl rh; omega)]; exact t6
      have b13 : gI (pI (pI M' (x + 69) 13 0) (x + 69) 14 (-1)) (x + 69) 13 = 0 := by rw [mIIk (by omega), mII1]
      have b14 : gI (pI (pI M' (x + 69) 13 0) (x + 69) 14 (-1)) (x + 69) 14 = -1 := mII1
      have bF : ∀ k, k < 1032 → gI (pI (pI M' (x + 69) 13 0) (x + 69) 14 (-1)) (x + 69 + 4) k = F k := fun k hk => by rw [mIIn (by omega), mIIn (by omega)]; exact r3 k hk
      generalize pI (pI M' (x + 69) 13 0) (x + 69) 14 (-1) = M38 at fB hmB b5 b13 b14 bF
      refine Ok.bd (r_copyL hmB bF) (fun M51 hq => ?_)
      obtain ⟨g, f⟩ := hq
      have hm5 := hmB.fr (M' := M51) (fun k => f.2.2 _ _ (by omega))
      rw [hm5.r1, Option.bind_some, hm5.k1, gdI, hm5.l1, i_0, gvI (by omega) (by omega), cl_nI (by omega), g 0 (by omega)]
      have fC : FI (x + 69) (zg (x + 69)) M M51 := (fB.wide (fun a k z => Or.inl z)).trans (f.wide (fun a k z => Or.inr z))
      refine ok_i ⟨rfl, ⟨⟨hm5, fun k hk => ?_⟩, wy_zf (S := S) (n := 0) h.2 fC ((f.1 _ _ (by omega)).trans b5) ((f.1 _ _ (by omega)).trans b13) ((f.1 _ _ (by omega)).trans b14)⟩, zg_rf fC⟩
      show gI M51 (x + 69 + 1) k = upA F 50 0 k
      rw [g k hk]
      by_cases y : k = 50
      · rw [y, upA_1, e50]
      · rw [upA_n y]
  · refine ⟨(-30 : Int32) - nI f.1, flW S (nI f.1) (nI f.2), fl_ok hS, Nat.le_succ _, fun T M h => ?_, fun T M h => ?_⟩
    · show Ok (fX11_lab T M x (nI n)) _
      obtain ⟨t1, t2, t3⟩ := cT T M h
      rw [cH T M h]
      refine Ok.bd (hcl T (pI M x 1 0) t2 t1 t3) (fun p hp => ?_)
      obtain ⟨r8, T2, M2⟩ := p
      obtain ⟨q1, q2, q6, q7, q8, q9⟩ := hp
      have q1 : r8 = none := q1
      have q2 : CFl x T2 f.1 f.2 M2 := q2
      obtain ⟨w1, w2⟩ := h.rd q6 q7 q2.2.1 q2.2.2.1
      rw [une3, q1]
      unfold jX11_lab_32
      show Ok (gd (kd T2 x = 10) _) _
      rw [q2.1.k0, gdI, q2.1.r0_2, Option.bind_some, q2.1.k2, gdI, q2.2.1]
      exact ok_i ⟨rfl, w1, w2, q6, q8, q9⟩
    · show Ok (fX12_lab T M (x + 69) (nI n)) _
      refine r_labH h hS hnS (fun M10 t1 t2 t3 t4 t5 t6 => ?_)
      refine hrf T M10 t1 t2 t3 t4 _ (fun M' r1 r4 => ?_)
      rw [lte]
      have hA : RFl (x + 69) T f.1 f.2 (pI M' (x + 69) 13 (gI M' (x + 69) 11)) := ⟨r1.1.fr (fun _ => rfl), (mIIk (by omega)).trans r1.2.1, (mIIk (by omega)).trans r1.2.2.1, r1.2.2.2⟩
      have fA : FI (x + 69) (zf (x + 69)) M (pI M' (x + 69) 13 (gI M' (x + 69) 11)) := (t5.trans (r4.wide (fun a k z => rz_zf z))).pI (Or.inl ⟨rfl, by omega, by omega, by omega, by omega, by omega⟩)
      have a13 : gI (pI M' (x + 69) 13 (gI M' (x + 69) 11)) (x + 69) 13 = nI f.1 := mII1.trans r1.2.1
      have a5 : gI (pI M' (x + 69) 13 (gI M' (x + 69) 11)) (x + 69) 5 = nI 0 := by rw [mIIk (by omega), r4.1 _ _ (by unfold rz rl rh; omega)]; exact t6
      generalize pI M' (x + 69) 13 (gI M' (x + 69) 11) = M35 at hA fA a13 a5
      rw [if_neg hA.ne]
      unfold jX12_lab_149
      have e11 : gI (pI M35 (x + 69) 14 (gI M35 (x + 69) 12)) (x + 69) 11 = nI f.1 := (mIIk (by omega)).trans hA.2.1
      have ne : ¬ nI f.1 = (0 : Int32) := by have := hA.ne; rw [hA.2.1] at this; exact this
      rw [hA.1.k, gdI, lte, gdI, e11, if_neg ne]
      have fB : FI (x + 69) (zf (x + 69)) M (pI M35 (x + 69) 14 (gI M35 (x + 69) 12)) := fA.pI (Or.inl ⟨rfl, by omega, by omega, by omega, by omega, by omega⟩)
      refine ok_i ⟨rfl, ⟨⟨hA.1.fr (fun _ => rfl), fun k hk => ?_⟩, wy_zf (S := S) (n := 0) h.2 (fB.wide (fun a k z => Or.inl z)) ((mIIk (by omega)).trans a5) ((mIIk (by omega)).trans a13) (mII1.trans hA.2.2.1)⟩, zg_rf (fB.wide (fun a k z => Or.inl z))⟩
      exact (fB.1 _ _ (by unfold zf; omega)).trans (h.1.2 k hk)
end
