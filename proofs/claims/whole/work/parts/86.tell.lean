/-! the fewest patterns that tell as much as all -/
theorem and_full {y : Int32} (h : r24 y) : y &&& 16777215 = y := by
  apply b_ext
  intro i hi
  rw [b_and, b_full i hi]
  by_cases q : i < 24
  · rw [decide_eq_true q]; simp
  · rw [decide_eq_false q, h i (by omega) hi]; rfl
theorem mk_and {p q : Nat → Bool} {n : Nat} (hn : n ≤ 32) : mk p n &&& mk q n = mk (fun i => p i && q i) n := by
  apply b_ext
  intro i hi
  rw [b_and, bt_mk p n i hn hi, bt_mk q n i hn hi, bt_mk _ n i hn hi]
  cases decide (i < n) <;> cases p i <;> cases q i <;> rfl
def rbf (A : Nat → Int32) (e l v S : Nat) : Nat → Int32
  | 0 => 16777215
  | p + 1 => if S.testBit p = true then rbf A e l v S p &&& rwA A (p + 1) e l v else rbf A e l v S p
theorem rbf_24 {A : Nat → Int32} {e l v S : Nat} : ∀ p, r24 (rbf A e l v S p)
  | 0 => r24_full
  | p + 1 => by
    rw [rbf]
    split
    · exact r24_and (rbf_24 p)
    · exact rbf_24 p
def tlv (A : Nat → Int32) (l v S : Nat) : Bool := decide (rbf A (eA A) l v S (npA A) = rbf A (eA A) l v (2 ^ npA A - 1) (npA A))
def tld (A : Nat → Int32) (l S : Nat) : Bool := rnb (fun v => tlv A l v S) 0 16
def pcn (S : Nat) : Nat := fb_ct S.testBit 24
theorem pcn_32 {S : Nat} (h : S < 16777216) : fb_ct S.testBit 32 = pcn S := by
  have z : fb_ct (fun k => S.testBit (24 + k)) 8 = 0 := fb_ct_zero.mpr (fun k _ => Nat.testBit_lt_two_pow (Nat.lt_of_lt_of_le (show S < 2 ^ 24 from h) (Nat.pow_le_pow_right (by omega) (by omega))))
  rw [show 32 = 24 + 8 from rfl, fb_ct_split, z]; rfl
theorem pcn_b (S : Nat) : pcn S ≤ 24 := fb_ct_le _ _
theorem bitsOf_n (S : Nat) : fX12_bitsOf (nI S) = some (nI (pcn S)) := by
  rw [bitsOf_at]
  exact congrArg (fun z => some (nI z)) (fb_ct_cong (fun k hk => bt_nI S (by omega)))
/-- the best of those below N -/
def IsB (t : Nat → Bool) (lo hi F : Nat) : Prop := (lo ≤ F ∧ F < hi ∧ t F = true) ∧ (∀ S, lo ≤ S → S < hi → t S = true → pcn F < pcn S ∨ pcn F = pcn S ∧ F ≤ S)
theorem IsB.u {t : Nat → Bool} {lo hi F G : Nat} (h : IsB t lo hi F) (h2 : IsB t lo hi G) : F = G := by
  have a := h.2 G h2.1.1 h2.1.2.1 h2.1.2.2
  have b := h2.2 F h.1.1 h.1.2.1 h.1.2.2
  omega
noncomputable def bst (t : Nat → Bool) (N : Nat) : Nat := Classical.epsilon (IsB t 0 N)
theorem bst_of {t : Nat → Bool} {N F : Nat} (h : IsB t 0 N F) : bst t N = F := (Classical.epsilon_spec ⟨F, h⟩ : IsB t 0 N (bst t N)).u h
section
variable {x m : Nat} {A : Nat → Int32} {T : Sh} {M M2 : Me}
theorem c_tellingSets {l v : Nat} (h : CV x A T M) (hl : l < nlA A) (hv : v < 16) : Ok (fX11_tellingSets T M x (nI l) (dft (eA A)) (nI v)) (fun p => p.1 = mk (tlv A l v) (2 ^ npA A) ∧ GF x M p.2 ∧ CV x A T p.2) := by
  have hp := h.px
  have h4 := h.lv.b4
  obtain ⟨q, hq, hb⟩ := h.lab
  have p16 : 2 ^ npA A ≤ 2 ^ 4 := Nat.pow_le_pow_right (by omega) h4
  unfold fX11_tellingSets
  simp only [gdI, gdT, Option.bind_some, lte, une2, une3, nI_add, gvI, cl_nI, c_le, c_lt, c_eq, Sum.elim_inl, Sum.elim_inr, hp.k0, hp.k8, hp.k15, hp.l15, hp.k16, hp.l16, hp.k17, hp.l17, hp.k18, hp.l18, hp.r0_0, hp.r0_2, hp.r0_3, hp.r0_4, hp.r0_5, hp.r0_6, hp.r0_7, hp.r0_9, hp.r0_10, hp.r0_13, hp.r8_1, hp.r8_2, hp.r8_4, hp.r8_5, hq, hb.k, hb.f8, h.lv.n4]
  refine Ok.bd (ok_forF (s := ((16777215 : Int32), (0 : Int32), M)) 0 (npA A) (fun i s => ∃ M', s = (rbf A (eA A) l v (2 ^ npA A - 1) i, nI i, M') ∧ (∀ p, p < i → gI M' (x + 68) p = rwA A (p + 1) (eA A) l v) ∧ GF x M M' ∧ CV x A T M') (fun r => ∃ M', r = (rbf A (eA A) l v (2 ^ npA A - 1) (npA A), M') ∧ (∀ p, p < npA A → gI M' (x + 68) p = rwA A (p + 1) (eA A) l v) ∧ GF x M M' ∧ CV x A T M') ⟨M, rfl, fun p hp => absurd hp (by omega), GF.rfl, h⟩ (by omega) (by omega) (fun i s _ hi hI => ?_) (fun s hI => ?_)) (fun r hr => ?_)
  · obtain ⟨M', rfl, hm, f, h'⟩ := hI
    have hp' := h'.px
    show Ok (bX11_tellingSets_20 T x (nI l) (dft (eA A)) (nI v) (nI (npA A)) (rbf A (eA A) l v (2 ^ npA A - 1) i) (nI i) M') _
    unfold bX11_tellingSets_20
    rw [if_neg (by rw [c_le (by omega) (by omega)]; omega)]
    simp (disch := omega) only [gdI, gdT, Option.bind_some, lte, une2, une3, nI_add, gvI, cl_nI, c_le, c_lt, c_eq, Sum.elim_inl, Sum.elim_inr, hp'.k0, hp'.k8, hp'.k15, hp'.l15, hp'.k16, hp'.l16, hp'.k17, hp'.l17, hp'.k18, hp'.l18, hp'.k68, hp'.l68, hp'.r0_0, hp'.r0_2, hp'.r0_3, hp'.r0_4, hp'.r0_5, hp'.r0_6, hp'.r0_7, hp'.r0_9, hp'.r0_10, hp'.r0_13, hp'.r8_1, hp'.r8_2, hp'.r8_4, hp'.r8_5]
    refine Ok.bd (c_passing (q := i + 1) h' hl (by omega) (eT_b A _) hv (nI_1 i)) (fun p hq => ?_)
    obtain ⟨p1, M2⟩ := p
    obtain ⟨rfl, f2, h2⟩ := hq
    have hp2 := h2.px
    simp (disch := omega) only [gdI, gdT, Option.bind_some, lte, une2, une3, nI_add, gvI, cl_nI, c_le, c_lt, c_eq, Sum.elim_inl, Sum.elim_inr, hp2.k0, hp2.k68, hp2.l68, hp2.r0_0, hp2.r0_2, hp2.r0_3, hp2.r0_4, hp2.r0_5, hp2.r0_6, hp2.r0_7, hp2.r0_9, hp2.r0_10, hp2.r0_13, mRI, mII1, nI_1]
    have g : FX (fun a _ => a = x + 68) M2 (pI M2 (x + 68) i (rwA A (i + 1) (eT A (tmA A)) l v)) := FX.rfl.pI rfl
    refine ok_i ⟨_, ?_, fun p hp => ?_, (f.trans f2.gf).trans (g.hf (x := x) (fun a k q => by omega)).gf, h2.fx g (fun a k q => by omega)⟩
    · rw [rbf, Nat.testBit_two_pow_sub_one, decide_eq_true hi, if_pos rfl]; rfl
    · by_cases z : p = i
      · rw [z, mII1]; rfl
      · rw [mIIk z, f2.1 _ _ (by omega) (by omega) (by omega)]; exact hm p (by omega)
  · obtain ⟨M', rfl, hm, f, h'⟩ := hI
    show Ok (bX11_tellingSets_20 T x (nI l) _ (nI v) (nI (npA A)) _ (nI (npA A)) M') _
    unfold bX11_tellingSets_20
    rw [if_pos (by rw [c_le (by omega) (by omega)]; omega)]
    exact ok_i ⟨M', rfl, hm, f, h'⟩
  obtain ⟨M1, rfl, hm, f1, h1⟩ := hr
  have hp1 := h1.px
  rw [une2]
  have hin : ∀ S able, S < 16 → lp FU (fun s => bX11_tellingSets_87 T M1 x (nI (npA A)) (rbf A (eA A) l v (2 ^ npA A - 1) (npA A)) able (nI S) s.1 s.2) ((16777215 : Int32), (0 : Int32)) = some (rbf A (eA A) l v S (npA A)) := by
    intro S able hS
    refine lp_itG (fun p => (rbf A (eA A) l v S p, nI p)) (npA A) _ rfl (by omega) (fun p hp4 => ?_) ?_
    · show bX11_tellingSets_87 T M1 x (nI (npA A)) _ able (nI S) (rbf A (eA A) l v S p) (nI p) = _
      unfold bX11_tellingSets_87
      rw [if_neg (by rw [c_le (by omega) (by omega)]; omega)]
      simp (disch := omega) only [gdI, gdT, Option.bind_some, lte, une2, une3, nI_add, gvI, cl_nI, c_le, c_lt, c_eq, Sum.elim_inl, Sum.elim_inr, hp1.k0, hp1.k68, hp1.l68, hp1.r0_0, hp1.r0_2, hp1.r0_3, hp1.r0_4, hp1.r0_5, hp1.r0_6, hp1.r0_7, hp1.r0_9, hp1.r0_10, hp1.r0_13, bit0, bt_nI, nI_1, hm p hp4]
      rw [rbf]
      cases hb : S.testBit p
      · rw [if_pos rfl, if_neg (by decide), and_full (rbf_24 p)]
      · rw [if_neg (by decide), if_pos rfl]
    · show bX11_tellingSets_87 T M1 x (nI (npA A)) _ able (nI S) _ (nI (npA A)) = _
      unfold bX11_tellingSets_87
      rw [if_pos (by rw [c_le (by omega) (by omega)]; omega)]
  have key : lp FU (fun s => bX11_tellingSets_70 T M1 x (nI (npA A)) (rbf A (eA A) l v (2 ^ npA A - 1) (npA A)) s.1 s.2) ((0 : Int32), (0 : Int32)) = some (mk (tlv A l v) (2 ^ npA A)) := by
    refine lp_itG (fun S => (mk (tlv A l v) S, nI S)) (2 ^ npA A) _ rfl (by omega) (fun S hS => ?_) ?_
    · show bX11_tellingSets_70 T M1 x (nI (npA A)) _ (mk (tlv A l v) S) (nI S) = _
      unfold bX11_tellingSets_70
      rw [sh_nI (by omega), if_neg (by rw [c_le (by omega) (by omega)]; omega), hin S _ (by omega), Option.bind_some]
      simp only [lte, nI_1]
      rw [mk]
      by_cases q : rbf A (eA A) l v S (npA A) = rbf A (eA A) l v (2 ^ npA A - 1) (npA A)
      · rw [if_pos q, if_pos (show tlv A l v S = true from decide_eq_true q)]
      · rw [if_neg q, if_neg (show ¬ tlv A l v S = true from fun z => q (of_decide_eq_true z))]
    · show bX11_tellingSets_70 T M1 x (nI (npA A)) _ _ (nI (2 ^ npA A)) = _
      unfold bX11_tellingSets_70
      rw [sh_nI (by omega), if_pos (by rw [c_le (by omega) (by omega)]; omega)]
  rw [key, Option.bind_some]
  exact ok_i ⟨rfl, f1, h1⟩
theorem r_rowBy {l v S : Nat} (h : RV m A T M) (hm : ∀ p' v, p' < npA A → v < 16 → gI M (m + 10) (16 * p' + v) = rwA A (p' + 1) (eA A) l v) (hv : v < 16) (hS : S < 16) : fX12_rowBy T M m (nI S) (nI v) = some (rbf A (eA A) l v S (npA A)) := by
  have hM := h.rm
  have h4 := h.lv.b4
  suffices key : lp FU (fun s => bX12_rowBy_7 T M m (nI S) (nI v) s.1 s.2) ((16777215 : Int32), (0 : Int32)) = some (rbf A (eA A) l v S (npA A)) by
    unfold fX12_rowBy
    rw [key]; rfl
  refine lp_itG (fun p => (rbf A (eA A) l v S p, nI p)) (npA A) _ rfl (by omega) (fun p hp => ?_) ?_
  · show bX12_rowBy_7 T M m (nI S) (nI v) (rbf A (eA A) l v S p) (nI p) = _
    unfold bX12_rowBy_7
    rw [isIn_at _ (by omega), bt_nI S (by omega)]
    simp (disch := omega) only [gdI, gdT, Option.bind_some, lte, une2, une3, nI_add, gvI, cl_nI, c_le, c_lt, c_eq, Sum.elim_inl, Sum.elim_inr, hM.k, hM.r1, hM.k1, hM.l1, hM.r10, hM.k10, hM.l10, i_4, i_16, h.al, h.lv.n4, Nat.not_le.mpr hp, if_false, c_mul, nI_1, hm p v hp hv, Int32.and_self]
    rw [rbf]
    cases hb : S.testBit p
    · rw [if_pos (b2_ne.mpr rfl), if_neg (by decide)]
    · rw [if_neg (fun z => absurd (b2_ne.mp z) (by decide)), if_pos rfl]
  · show bX12_rowBy_7 T M m (nI S) (nI v) _ (nI (npA A)) = _
    unfold bX12_rowBy_7
    simp (disch := omega) only [gdI, gdT, Option.bind_some, lte, une2, une3, nI_add, gvI, cl_nI, c_le, c_lt, c_eq, Sum.elim_inl, Sum.elim_inr, hM.k, hM.r1, hM.k1, hM.l1, i_4, h.al, h.lv.n4, Nat.le_refl, if_true]
theorem rnb_no {b : Nat → Bool} {s i : Nat} : ∀ k, i < k → b (s + i) = false → rnb b s k = false
  | 0, h, _ => absurd h (Nat.not_lt_zero _)
  | k + 1, h, q => by
    rw [rnb]
    rcases Nat.lt_or_ge i k with w | w
    · rw [rnb_no k w q]; rfl
    · rw [show k = i by omega, q, Bool.and_false]
theorem r_isTold {l S : Nat} (h : RV m A T M) (hm : ∀ p' v, p' < npA A → v < 16 → gI M (m + 10) (16 * p' + v) = rwA A (p' + 1) (eA A) l v) (hS : S < 16) : fX12_isTold T M m (nI S) = some (b2 (tld A l S)) := by
  have hM := h.rm
  have h4 := h.lv.b4
  have p16 : 2 ^ npA A ≤ 2 ^ 4 := Nat.pow_le_pow_right (by omega) h4
  have p1 : 1 ≤ 2 ^ npA A := Nat.one_le_two_pow
  have key : Ok (lp FU (fun s => bX12_isTold_2 T M m (nI S) s) (0 : Int32)) (fun r => (tld A l S = false ∧ r = Sum.inl ()) ∨ (tld A l S = true ∧ r = Sum.inr ())) := by
    refine ok_forF 0 16 (fun i s => s = nI i ∧ rnb (fun v => tlv A l v S) 0 i = true) _ ⟨rfl, rfl⟩ (by omega) (by omega) (fun i s _ hi hI => ?_) (fun s hI => ?_)
    · obtain ⟨rfl, hr⟩ := hI
      show Ok (bX12_isTold_2 T M m (nI S) (nI i)) _
      unfold bX12_isTold_2
      rw [i_16, if_neg (by rw [c_le (by omega) (by omega)]; omega), r_rowBy h hm hi hS]
      simp (disch := omega) only [gdI, gdT, Option.bind_some, hM.k, hM.r1, hM.k1, hM.l1, i_4, gvI, cl_nI, h.al, h.lv.n4]
      rw [sh_nI (by omega), i_1, c_sub p1, r_rowBy h hm hi (by omega), Option.bind_some]
      by_cases q : rbf A (eA A) l i S (npA A) = rbf A (eA A) l i (2 ^ npA A - 1) (npA A)
      · rw [if_pos q, lte, ← i_1, nI_1]
        refine ok_i ⟨rfl, ?_⟩
        rw [rnb, hr, Nat.zero_add]
        exact decide_eq_true q
      · rw [if_neg q]
        refine ok_i (Or.inl ⟨rnb_no (i := i) 16 hi ?_, rfl⟩)
        rw [Nat.zero_add]
        exact decide_eq_false q
    · obtain ⟨rfl, hr⟩ := hI
      show Ok (bX12_isTold_2 T M m (nI S) (nI 16)) _
      unfold bX12_isTold_2
      rw [i_16, if_pos (by decide)]
      exact ok_i (Or.inr ⟨hr, rfl⟩)
  obtain ⟨r, e, hr⟩ := key
  unfold fX12_isTold
  rw [e]
  rcases hr with ⟨q, rfl⟩ | ⟨q, rfl⟩
  · rw [q]; rfl
  · rw [q]; rfl
theorem rnb_true (s : Nat) {b : Nat → Bool} : ∀ k, (∀ i, b i = true) → rnb b s k = true
  | 0, _ => rfl
  | k + 1, h => by rw [rnb, rnb_true s k h, h]; rfl
theorem tld_all {l : Nat} : tld A l (2 ^ npA A - 1) = true := rnb_true 0 16 (fun v => decide_eq_true rfl)
theorem q_tell (hL : LV A) (hS : SV A) (a b : Int32) : QQ x m A (fun T M => fX11_tell T M x a b) (fun T M => fX12_tell T M m a b) := by
  have h6 := hL.b3
  have h4 := hL.b4
  have hb48 := hS.b48
  rcases ix_I a (nlA A) (by omega) with ⟨l, hl, rfl⟩ | hn
  · rcases ix_I b 2 (by omega) with ⟨w, hw, rfl⟩ | hn
    · have p16 : 2 ^ npA A ≤ 2 ^ 4 := Nat.pow_le_pow_right (by omega) h4
      have p1 : 1 ≤ 2 ^ npA A := Nat.one_le_two_pow
      refine ⟨if npA A = 0 then -1 else if w = 0 then nI (pcn (bst (tld A l) (2 ^ npA A))) else nI (bst (tld A l) (2 ^ npA A)), fun T M h => ?_, fun T M h => ?_⟩
      · have hp := h.px
        obtain ⟨q, hq, hlb⟩ := h.lab
        show Ok (fX11_tell T M x (nI l) (nI w)) _
        unfold fX11_tell
        rw [c_lane1 h hl, hp.k0, gdI, Option.bind_some, if_pos rfl, i_1, rng1' (by omega) (by omega)]
        simp only [gdI, gdT, Option.bind_some, lte, hp.k0, hp.k8, hp.k15, hp.l15, hp.k16, hp.l16, hp.k17, hp.l17, hp.k18, hp.l18, hp.k25, hp.k26, hp.l26, hp.r0_0, hp.r0_2, hp.r0_3, hp.r0_4, hp.r0_5, hp.r0_6, hp.r0_7, hp.r0_9, hp.r0_10, hp.r0_13, hp.r8_1, hp.r8_2, hp.r8_4, hp.r8_5, hp.r25_0, hq, hlb.k, hlb.f8, hL.n4, h.tm, hS.n48]
        rw [i_0, ite_eq (by omega) (by omega)]
        by_cases e0 : npA A = 0
        · rw [if_pos e0, if_pos e0]; exact ok_i ⟨rfl, GF.rfl, h⟩
        rw [if_neg e0, if_neg e0, ← i_1, sh_nI (by omega), ← i_0]
        refine Ok.bd (c_driftAt h (by omega)) (fun p hq => ?_)
        obtain ⟨p1', M1⟩ := p
        obtain ⟨rfl, f1, h1⟩ := hq
        rw [une2]
        have st : (1 : Int32) <<< (nI (2 ^ npA A) &&& 31) - 1 = mk (fun S => rnb (fun v => tlv A l v S) 0 0) (2 ^ npA A) := by
          apply b_ext
          intro i hi
          rw [mask_bt (2 ^ npA A) (by omega) i hi, bt_mk _ (2 ^ npA A) i (by omega) hi]
          show decide (i < 2 ^ npA A) = (decide (i < 2 ^ npA A) && true)
          rw [Bool.and_true]
        rw [st]
        refine Ok.bd (ok_forF (s := (mk (fun S => rnb (fun v => tlv A l v S) 0 0) (2 ^ npA A), (0 : Int32), M1)) 0 16 (fun i s => ∃ M', s = (mk (fun S => rnb (fun v => tlv A l v S) 0 i) (2 ^ npA A), nI i, M') ∧ GF x M M' ∧ CV x A T M') (fun r => ∃ M', r = (mk (tld A l) (2 ^ npA A), M') ∧ GF x M M' ∧ CV x A T M') ⟨M1, rfl, f1.gf, h1⟩ (by omega) (by omega) (fun i s _ hi hI => ?_) (fun s hI => ?_)) (fun r hr => ?_)
        · obtain ⟨M', rfl, f, h'⟩ := hI
          show Ok (bX11_tell_71 T x (nI l) (nI w) (dft (eT A (tmA A))) (mk (fun S => rnb (fun v => tlv A l v S) 0 i) (2 ^ npA A)) (nI i) M') _
          unfold bX11_tell_71
          rw [i_16, if_neg (by rw [c_le (by omega) (by omega)]; omega), h'.px.k0, gdI]
          refine Ok.bd (c_tellingSets h' hl hi) (fun p hq => ?_)
          obtain ⟨p1'', M2⟩ := p
          obtain ⟨rfl, f2, h2⟩ := hq
          rw [une2, lte, lte, nI_1, mk_and (by omega)]
          refine ok_i ⟨M2, ?_, f.trans f2, h2⟩
          refine Prod.ext (mk_cong (fun S _ => ?_)) rfl
          show (rnb (fun v => tlv A l v S) 0 i && tlv A l i S) = (rnb (fun v => tlv A l v S) 0 i && tlv A l (0 + i) S)
          rw [Nat.zero_add]
        · obtain ⟨M', rfl, f, h'⟩ := hI
          show Ok (bX11_tell_71 T x (nI l) (nI w) _ _ (nI 16) M') _
          unfold bX11_tell_71
          rw [i_16, if_pos (by decide)]
          exact ok_i ⟨M', rfl, f, h'⟩
        obtain ⟨M2, rfl, f2, h2⟩ := hr
        have hp2 := h2.px
        obtain ⟨q2, hq2, hlb2⟩ := h2.lab
        rw [une2]
        have key : Ok (lp FU (fun s => bX11_tell_105 T M2 x (nI w) (mk (tld A l) (2 ^ npA A)) s.1 s.2.1 s.2.2) ((5 : Int32), (0 : Int32), (0 : Int32))) (fun r => ∃ F, r = (nI (pcn F), nI F) ∧ IsB (tld A l) 0 (2 ^ npA A) F) := by
          refine ok_forF 0 (2 ^ npA A) (fun i s => (s = ((5 : Int32), (0 : Int32), nI i) ∧ ∀ S, S < i → tld A l S = false) ∨ ∃ F, s = (nI (pcn F), nI F, nI i) ∧ IsB (tld A l) 0 i F) _ (Or.inl ⟨rfl, fun S hS => absurd hS (by omega)⟩) (by omega) (by omega) (fun i s _ hi hI => ?_) (fun s hI => ?_)
          · have hbt : bt (mk (tld A l) (2 ^ npA A)) i = tld A l i := by rw [bt_mk _ _ i (by omega) (by omega), decide_eq_true hi, Bool.true_and]
            have pb : pcn i ≤ 4 := by
              unfold pcn
              have e24 : fb_ct i.testBit 24 = fb_ct i.testBit 4 + fb_ct (fun k => i.testBit (4 + k)) 20 := fb_ct_split _ 4 20
              have z : fb_ct (fun k => i.testBit (4 + k)) 20 = 0 := fb_ct_zero.mpr (fun k _ => Nat.testBit_lt_two_pow (Nat.lt_of_lt_of_le (show i < 2 ^ 4 by omega) (Nat.pow_le_pow_right (by omega) (by omega))))
              have := fb_ct_le i.testBit 4
              omega
            have go : ∀ few fnd : Int32, bX11_tell_105 T M2 x (nI w) (mk (tld A l) (2 ^ npA A)) few fnd (nI i) = if tld A l i = false then some (.inl (few, fnd, nI (i + 1))) else if few ≤ nI (pcn i) then some (.inl (few, fnd, nI (i + 1))) else some (.inl (nI (pcn i), nI i, nI (i + 1))) := by
              intro few fnd
              unfold bX11_tell_105
              simp only [gdI, gdT, Option.bind_some, lte, hp2.k0, hp2.k8, hp2.k15, hp2.l15, hp2.k16, hp2.l16, hp2.k17, hp2.l17, hp2.k18, hp2.l18, hp2.r0_0, hp2.r0_2, hp2.r0_3, hp2.r0_4, hp2.r0_5, hp2.r0_6, hp2.r0_7, hp2.r0_9, hp2.r0_10, hp2.r0_13, hp2.r8_1, hp2.r8_2, hp2.r8_4, hp2.r8_5, hq2, hlb2.k, hlb2.f8, hL.n4]
              rw [sh_nI (by omega), if_neg (by rw [c_le (by omega) (by omega)]; omega), bitCount_at (by omega), pcn_32 (by omega)]
              simp only [bit0 (x := mk (tld A l) (2 ^ npA A)) (n := i) (by omega), hbt, Option.bind_some, nI_1]
            rcases hI with ⟨rfl, hno⟩ | ⟨F, rfl, hF⟩
            · show Ok (bX11_tell_105 T M2 x (nI w) _ 5 0 (nI i)) _
              rw [go]
              by_cases ht : tld A l i = false
              · rw [if_pos ht]
                refine ok_i (Or.inl ⟨rfl, fun S hS => ?_⟩)
                by_cases z : S = i
                · rw [z]; exact ht
                · exact hno S (by omega)
              · rw [if_neg ht, i_5, if_neg (by rw [c_le (by omega) (by omega)]; omega)]
                refine ok_i (Or.inr ⟨i, rfl, ⟨by omega, by omega, by simpa using ht⟩, fun S _ hS hq => ?_⟩)
                by_cases z : S = i
                · right; rw [z]; exact ⟨rfl, Nat.le_refl _⟩
                · rw [hno S (by omega)] at hq; exact absurd hq (by decide)
            · have pF := pcn_b F
              show Ok (bX11_tell_105 T M2 x (nI w) _ (nI (pcn F)) (nI F) (nI i)) _
              rw [go]
              by_cases ht : tld A l i = false
              · rw [if_pos ht]
                refine ok_i (Or.inr ⟨F, rfl, ⟨hF.1.1, by have := hF.1.2.1; omega, hF.1.2.2⟩, fun S h1 hS hq => ?_⟩)
                by_cases z : S = i
                · rw [z, ht] at hq; exact absurd hq (by decide)
                · exact hF.2 S h1 (by omega) hq
              · rw [if_neg ht, ite_le (by omega) (by omega)]
                by_cases hle : pcn F ≤ pcn i
                · rw [if_pos hle]
                  refine ok_i (Or.inr ⟨F, rfl, ⟨hF.1.1, by have := hF.1.2.1; omega, hF.1.2.2⟩, fun S h1 hS hq => ?_⟩)
                  by_cases z : S = i
                  · rw [z]; have := hF.1.2.1; omega
                  · exact hF.2 S h1 (by omega) hq
                · rw [if_neg hle]
                  refine ok_i (Or.inr ⟨i, rfl, ⟨by omega, by omega, by simpa using ht⟩, fun S h1 hS hq => ?_⟩)
                  by_cases z : S = i
                  · right; rw [z]; exact ⟨rfl, Nat.le_refl _⟩
                  · left
                    have := hF.2 S h1 (by omega) hq
                    omega
          · rcases hI with ⟨rfl, hno⟩ | ⟨F, rfl, hF⟩
            · exfalso
              have := hno (2 ^ npA A - 1) (by omega)
              rw [tld_all] at this
              exact absurd this (by decide)
            · show Ok (bX11_tell_105 T M2 x (nI w) _ (nI (pcn F)) (nI F) (nI (2 ^ npA A))) _
              unfold bX11_tell_105
              simp only [gdI, gdT, Option.bind_some, lte, hp2.k0, hp2.k8, hp2.k15, hp2.l15, hp2.k16, hp2.l16, hp2.k17, hp2.l17, hp2.k18, hp2.l18, hp2.r0_0, hp2.r0_2, hp2.r0_3, hp2.r0_4, hp2.r0_5, hp2.r0_6, hp2.r0_7, hp2.r0_9, hp2.r0_10, hp2.r0_13, hp2.r8_1, hp2.r8_2, hp2.r8_4, hp2.r8_5, hq2, hlb2.k, hlb2.f8, hL.n4]
              rw [sh_nI (by omega), if_pos (by rw [c_le (by omega) (by omega)]; omega)]
              exact ok_i ⟨F, rfl, hF⟩
        refine Ok.bd key (fun r hr => ?_)
        obtain ⟨F, rfl, hF⟩ := hr
        rw [une2, bst_of hF, i_0, ite_eq (by omega) (by omega)]
        by_cases q : w = 0
        · rw [if_pos q, if_pos q]; exact ok_i ⟨rfl, f2, h2⟩
        · rw [if_neg q, if_neg q]; exact ok_i ⟨rfl, f2, h2⟩
      · have h0 := h.t0 (v := 0)
        have hM := h0.rm
        show Ok (fX12_tell T M m (nI l) (nI w)) _
        unfold fX12_tell
        rw [hM.k, gdI, lte, r_lane1 h0 hl, Option.bind_some, if_neg (by decide), L_0, L_1, r_in1 (by omega) (by omega) (by omega), Option.bind_some, if_neg (by decide)]
        simp (disch := omega) only [gdI, gdT, Option.bind_some, hM.k, hM.r1, hM.k1, hM.l1, i_4, gvI, cl_nI, h0.al, hL.n4]
        rw [i_0, ite_eq (by omega) (by omega)]
        by_cases e0 : npA A = 0
        · rw [if_pos e0, if_pos e0]; exact ok_i ⟨rfl, r_t0.qf (fun _ _ => nf_qf)⟩
        rw [if_neg e0, if_neg e0]
        refine Ok.bd (r_laysMaps h0 hl) (fun p hq => ?_)
        obtain ⟨p1', M1⟩ := p
        obtain ⟨m1, f1, h1⟩ := hq
        have hM1 := h1.rm
        have fin : QF m M M1 := (r_t0.qf (fun _ _ => nf_qf)).trans (f1.qf (fun _ _ => hf10_qf))
        simp (disch := omega) only [une2, gdI, gdT, Option.bind_some, lte, hM1.k, hM1.r1, hM1.k1, hM1.l1, gvI, cl_nI, h1.al, hL.n4]
        rw [sh_nI (by omega), i_1, c_sub p1]
        have key : Ok (lp FU (fun s => bX12_tell_57 T M1 m (nI w) s.1 s.2) (nI (2 ^ npA A - 1), nI (2 ^ npA A - 1))) (fun r => ∃ F, r = nI F ∧ IsB (tld A l) 0 (2 ^ npA A) F) := by
          refine ok_forF 0 (2 ^ npA A) (fun i s => ∃ F, s = (nI F, (if i = 2 ^ npA A then (-1 : Int32) else nI (2 ^ npA A - 1 - i))) ∧ F < 2 ^ npA A ∧ tld A l F = true ∧ (0 < i → IsB (tld A l) (2 ^ npA A - i) (2 ^ npA A) F) ∧ (i = 0 → F = 2 ^ npA A - 1)) _ ⟨2 ^ npA A - 1, by rw [if_neg (by omega)]; rfl, by omega, tld_all, fun z => absurd z (by omega), fun _ => rfl⟩ (by omega) (by omega) (fun i s _ hi hI => ?_) (fun s hI => ?_)
          · obtain ⟨F, rfl, hF, htF, hB, h00⟩ := hI
            have pF := pcn_b F
            have pS := pcn_b (2 ^ npA A - 1 - i)
            show Ok (bX12_tell_57 T M1 m (nI w) (nI F) (if i = 2 ^ npA A then (-1 : Int32) else nI (2 ^ npA A - 1 - i))) _
            rw [if_neg (by omega)]
            unfold bX12_tell_57
            have e9 : nI (2 ^ npA A - 1 - i) + (-1 : Int32) = if i + 1 = 2 ^ npA A then (-1 : Int32) else nI (2 ^ npA A - 1 - (i + 1)) := by
              by_cases q : i + 1 = 2 ^ npA A
              · rw [if_pos q, show 2 ^ npA A - 1 - i = 0 by omega]; rfl
              · rw [if_neg q, show 2 ^ npA A - 1 - i = (2 ^ npA A - 1 - (i + 1)) + 1 by omega]
                exact i_m1 _
            rw [if_neg (i_neg _ (by omega)), bitsOf_n, bitsOf_n, Option.bind_some, Option.bind_some, ite_lt (by omega) (by omega), hM1.k, gdI, r_isTold h1 m1 (by omega), Option.bind_some, lte, lte, e9]
            have keep : (∀ S, S = 2 ^ npA A - 1 - i → tld A l S = true → pcn F < pcn S) → ∃ F', ((nI F, (if i + 1 = 2 ^ npA A then (-1 : Int32) else nI (2 ^ npA A - 1 - (i + 1)))) : Int32 × Int32) = (nI F', (if i + 1 = 2 ^ npA A then (-1 : Int32) else nI (2 ^ npA A - 1 - (i + 1)))) ∧ F' < 2 ^ npA A ∧ tld A l F' = true ∧ (0 < i + 1 → IsB (tld A l) (2 ^ npA A - (i + 1)) (2 ^ npA A) F') ∧ (i + 1 = 0 → F' = 2 ^ npA A - 1) := fun hk => by
              refine ⟨F, rfl, hF, htF, fun _ => ?_, fun z => absurd z (by omega)⟩
              rcases Nat.eq_zero_or_pos i with i0 | ip
              · have hF' := h00 i0
                have := hk F (by omega) htF
                omega
              · obtain ⟨⟨b1, b2, b3⟩, b4⟩ := hB ip
                refine ⟨⟨by omega, b2, b3⟩, fun S s1 s2 s3 => ?_⟩
                by_cases z : S = 2 ^ npA A - 1 - i
                · left; exact hk S z s3
                · exact b4 S (by omega) s2 s3
            by_cases hlt : pcn F < pcn (2 ^ npA A - 1 - i)
            · rw [if_pos hlt]
              exact ok_i (keep (fun S hS _ => by rw [hS]; exact hlt))
            · rw [if_neg hlt]
              cases ht : tld A l (2 ^ npA A - 1 - i)
              · rw [if_pos (b2_ne.mpr rfl)]
                exact ok_i (keep (fun S hS q => by rw [hS, ht] at q; exact absurd q (by decide)))
              · rw [if_neg (fun z => absurd (b2_ne.mp z) (by decide))]
                refine ok_i ⟨2 ^ npA A - 1 - i, rfl, by omega, ht, fun _ => ⟨⟨by omega, by omega, ht⟩, fun S s1 s2 s3 => ?_⟩, fun z => absurd z (by omega)⟩
                by_cases z : S = 2 ^ npA A - 1 - i
                · right; rw [z]; exact ⟨rfl, Nat.le_refl _⟩
                · rcases Nat.eq_zero_or_pos i with i0 | ip
                  · omega
                  · have := (hB ip).2 S (by omega) s2 s3
                    have := (hB ip).1.1
                    omega
          · obtain ⟨F, rfl, hF, htF, hB, h00⟩ := hI
            show Ok (bX12_tell_57 T M1 m (nI w) (nI F) (if 2 ^ npA A = 2 ^ npA A then (-1 : Int32) else _)) _
            rw [if_pos rfl]
            unfold bX12_tell_57
            rw [if_pos (by decide)]
            have := hB (by omega)
            rw [Nat.sub_self] at this
            exact ok_i ⟨F, rfl, this⟩
        refine Ok.bd key (fun r hr => ?_)
        obtain ⟨F, rfl, hF⟩ := hr
        rw [bst_of hF, bitsOf_n, ite_eq (by omega) (by omega)]
        by_cases q : w = 0
        · rw [if_pos q, if_pos q]; exact ok_i ⟨rfl, fin⟩
        · rw [if_neg q, if_neg q]; exact ok_i ⟨rfl, fin⟩
    · refine ⟨-2, fun T M h => ?_, fun T M h => ?_⟩
      · show Ok (fX11_tell T M x (nI l) b) _
        unfold fX11_tell
        rw [c_lane1 h hl, h.px.k0, gdI, Option.bind_some, if_pos rfl, i_1, rng0' (by omega) hn]
        exact ok_i ⟨rfl, GF.rfl, h⟩
      · have h0 := h.t0 (v := 0)
        show Ok (fX12_tell T M m (nI l) b) _
        unfold fX12_tell
        rw [h0.rm.k, gdI, lte, r_lane1 h0 hl, Option.bind_some, if_neg (by decide), L_0, L_1, r_in0 (by omega) (by omega) (by omega), Option.bind_some, if_pos rfl]
        exact ok_i ⟨rfl, r_t0.qf (fun _ _ => nf_qf)⟩
  · refine ⟨-2, fun T M h => ?_, fun T M h => ?_⟩
    · show Ok (fX11_tell T M x a b) _
      unfold fX11_tell
      rw [c_lane0 h hn, h.px.k0, gdI, Option.bind_some, if_neg (by decide)]
      exact ok_i ⟨rfl, GF.rfl, h⟩
    · have h0 := h.t0 (v := 0)
      show Ok (fX12_tell T M m a b) _
      unfold fX12_tell
      rw [h0.rm.k, gdI, lte, r_lane0 h0 hn, Option.bind_some, if_pos rfl]
      exact ok_i ⟨rfl, r_t0.qf (fun _ _ => nf_qf)⟩
end
