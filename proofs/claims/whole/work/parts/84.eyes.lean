/-! eyes: what hangs together -/
def Con (pc : Nat → Bool) (a b : Nat) : Prop := ∀ S : Nat → Prop, S a → (∀ c s n, c < 384 → s < 4 → S c → bes c s = some n → pc n = true → S n) → S b
theorem Con.refl {pc : Nat → Bool} {a : Nat} : Con pc a a := fun _ h _ => h
theorem Con.step {pc : Nat → Bool} {a c s n : Nat} (h : Con pc a c) (hc : c < 384) (hs : s < 4) (hb : bes c s = some n) (hp : pc n = true) : Con pc a n := fun S h1 h2 => h2 c s n hc hs (h S h1 h2) hb hp
theorem Con.trans {pc : Nat → Bool} {a b c : Nat} (h : Con pc a b) (h2 : Con pc b c) : Con pc a c := h2 (fun x => Con pc a x) h (fun _ _ _ hc hs hS hb hp => hS.step hc hs hb hp)
/-- a rest: whole things that hang together -/
def CL (pc R : Nat → Bool) : Prop := (∀ c, c < 384 → R c = true → pc c = true) ∧ ∀ c s n, c < 384 → s < 4 → bes c s = some n → pc n = true → R c = true → R n = true
/-- all that hangs together with a has been taken -/
def TK (pc R R2 : Nat → Bool) (a : Nat) : Prop := (∀ c, c < 384 → R2 c = true → R c = true) ∧ (R a = true → R2 a = false) ∧ (∀ c, c < 384 → R c = true → R2 c = false → Con pc a c) ∧ (∀ c s n, c < 384 → s < 4 → R c = true → R2 c = false → bes c s = some n → R2 n = false) ∧ (R a = false → ∀ c, c < 384 → R2 c = R c)
theorem TK.iff {pc R R2 : Nat → Bool} {a : Nat} (hcl : CL pc R) (h : TK pc R R2 a) (ha : a < 384) (hR : R a = true) {c : Nat} (hc : c < 384) : R2 c = true ↔ R c = true ∧ ¬ Con pc a c := by
  obtain ⟨h1, h2, h3, h4, _⟩ := h
  constructor
  · intro q
    refine ⟨h1 c hc q, fun hcon => ?_⟩
    have := hcon (fun y => y < 384 ∧ R y = true ∧ R2 y = false) ⟨ha, hR, h2 hR⟩ (fun y s n hy hs hS hb hp => ⟨bes_b hy hs hb, hcl.2 y s n hy hs hb hp hS.2.1, h4 y s n hy hs hS.2.1 hS.2.2 hb⟩)
    rw [q] at this
    exact absurd this.2.2 (by decide)
  · intro ⟨q1, q2⟩
    cases hb : R2 c
    · exact absurd (h3 c hc q1 hb) q2
    · rfl
noncomputable def rk (pc : Nat → Bool) : Nat → Nat → Bool
  | 0 => pc
  | k + 1 => fun c => @ite Bool (rk pc k k = true ∧ Con pc k c) (Classical.propDecidable _) false (rk pc k c)
theorem rk_s {pc : Nat → Bool} {k c : Nat} : rk pc (k + 1) c = true ↔ rk pc k c = true ∧ ¬ (rk pc k k = true ∧ Con pc k c) := by
  show @ite Bool (rk pc k k = true ∧ Con pc k c) (Classical.propDecidable _) false (rk pc k c) = true ↔ _
  by_cases h : rk pc k k = true ∧ Con pc k c
  · rw [@if_pos _ (Classical.propDecidable _) h]
    exact ⟨fun q => absurd q (by decide), fun q => absurd h q.2⟩
  · rw [@if_neg _ (Classical.propDecidable _) h]
    exact ⟨fun q => ⟨q, h⟩, fun q => q.1⟩
theorem rk_cl (pc : Nat → Bool) : ∀ k, CL pc (rk pc k)
  | 0 => ⟨fun _ _ h => h, fun _ _ _ _ _ _ h _ => h⟩
  | k + 1 => by
    obtain ⟨h1, h2⟩ := rk_cl pc k
    refine ⟨fun c hc h => h1 c hc (rk_s.mp h).1, fun c s n hc hs hb hp h => ?_⟩
    obtain ⟨q1, q2⟩ := rk_s.mp h
    refine rk_s.mpr ⟨h2 c s n hc hs hb hp q1, fun ⟨w1, w2⟩ => q2 ⟨w1, ?_⟩⟩
    exact w2.step (bes_b hc hs hb) (opp_4 hs).1 (bes_opp hc hs hb) (h1 c hc q1)
theorem rk_tk {pc R2 : Nat → Bool} {k : Nat} (hk : k < 384) (h : TK pc (rk pc k) R2 k) : ∀ c, c < 384 → R2 c = rk pc (k + 1) c := by
  intro c hc
  cases hb : rk pc k k
  · rw [h.2.2.2.2 hb c hc]
    cases h2 : rk pc (k + 1) c
    · cases h3 : rk pc k c
      · rfl
      · have := rk_s.mpr (⟨h3, fun q => by rw [hb] at q; exact absurd q.1 (by decide)⟩ : rk pc k c = true ∧ ¬ (rk pc k k = true ∧ Con pc k c))
        rw [h2] at this; exact absurd this (by decide)
    · exact (rk_s.mp h2).1
  · have e := h.iff (rk_cl pc k) hk hb hc
    cases h2 : rk pc (k + 1) c
    · cases h3 : R2 c
      · rfl
      · have q := e.mp h3
        have := rk_s.mpr (⟨q.1, fun w => q.2 w.2⟩ : rk pc k c = true ∧ ¬ (rk pc k k = true ∧ Con pc k c))
        rw [h2] at this; exact absurd this (by decide)
    · have q := rk_s.mp h2
      exact e.mpr ⟨q.1, fun w => q.2 ⟨hb, w⟩⟩
noncomputable def szE (pc : Nat → Bool) (k : Nat) : Nat := fb_ct (rk pc k) 384 - fb_ct (rk pc (k + 1)) 384
noncomputable def mnE (pc : Nat → Bool) (k : Nat) : Nat := fb_ct (fun j => rk pc j j) k
noncomputable def grE (pc : Nat → Bool) : Nat → Nat
  | 0 => 0
  | k + 1 => max (grE pc k) (szE pc k)
theorem szE_b (pc : Nat → Bool) (k : Nat) : szE pc k ≤ 384 := by
  have := fb_ct_le (rk pc k) 384
  unfold szE; omega
theorem grE_b (pc : Nat → Bool) : ∀ k, grE pc k ≤ 384
  | 0 => Nat.zero_le _
  | k + 1 => by
    have h1 := grE_b pc k
    have h2 := szE_b pc k
    show max (grE pc k) (szE pc k) ≤ 384
    omega
theorem szE_0 {pc : Nat → Bool} {k : Nat} (h : rk pc k k = false) : szE pc k = 0 := by
  unfold szE
  rw [fb_ct_cong (p := rk pc (k + 1)) (q := rk pc k) (fun c _ => ?_), Nat.sub_self]
  cases h2 : rk pc (k + 1) c
  · cases h3 : rk pc k c
    · rfl
    · have := rk_s.mpr (⟨h3, fun q => by rw [h] at q; exact absurd q.1 (by decide)⟩ : rk pc k c = true ∧ ¬ (rk pc k k = true ∧ Con pc k c))
      rw [h2] at this; exact absurd this (by decide)
  · exact (rk_s.mp h2).1.symm
theorem ct_rem {R : Nat → Bool} {n : Nat} (hn : n < 384) (h : R n = true) : fb_ct (fun e => if e = n then false else R e) 384 + 1 = fb_ct R 384 := by
  have := fb_ct_upd R false hn
  rw [h] at this
  simpa using this
/-! the class takes -/
theorem b_clr {y : Int32} {d i : Nat} (hd : d < 32) (hi : i < 32) : bt (y &&& ((1 : Int32) <<< (nI d &&& 31) ^^^ (-1 : Int32))) i = (bt y i && !decide (i = d)) := by
  rw [b_and, b_xor, bt_sh hd hi, b_m1 i hi]
  cases bt y i <;> cases decide (i = d) <;> rfl
section
variable {x m : Nat} {A : Nat → Int32} {T : Sh} {M M2 : Me} {pm : Nat → Nat → Bool}
def RR (x : Nat) (R : Nat → Bool) (M : Me) : Prop := ∀ v d, v < 16 → d < 24 → bt (gI M (x + 22) v) d = R (24 * v + d)
def tkn (R : Nat → Bool) : Option Nat → Bool
  | none => false
  | some c => R c
def tkR (R : Nat → Bool) : Option Nat → Nat → Bool
  | none => R
  | some c => fun e => if e = c then false else R e
theorem c_takeFromRest {R : Nat → Bool} {q : Option Nat} (hp : PX x T M) (hR : RR x R M) (hq : ∀ c, q = some c → c < 384) : Ok (fX7_takeFromRest T M (x + 19) (iN q)) (fun p => p.1 = b2 (tkn R q) ∧ RR x (tkR R q) p.2 ∧ FX (fun a _ => a = x + 22) M p.2) := by
  unfold fX7_takeFromRest
  cases q with
  | none =>
    rw [if_pos (show iN none = (-1 : Int32) from rfl)]
    exact ok_i ⟨rfl, hR, FX.rfl⟩
  | some c =>
    have hc := hq c rfl
    rw [if_neg (iN_m1 (by omega)), show iN (some c) = nI c from rfl, i_24, c_div (by omega) (by omega) (by omega), c_remQ (by omega) (by omega) (by omega)]
    simp (disch := omega) only [gdI, Option.bind_some, hp.k19, hp.k20, hp.l20, hp.k21, hp.l21, hp.k22, hp.l22, hp.r19_0, hp.r19_1, hp.r19_2, gvI, cl_nI, bit0, lte]
    have e : bt (gI M (x + 22) (c / 24)) (c % 24) = R c := by
      rw [hR (c / 24) (c % 24) (by omega) (by omega), show 24 * (c / 24) + c % 24 = c by omega]
    cases hb : R c
    · rw [if_pos (e.trans hb)]
      refine ok_i ⟨by show (0 : Int32) = b2 (R c); rw [hb]; rfl, fun v d hv hd => ?_, FX.rfl⟩
      show _ = if 24 * v + d = c then false else R (24 * v + d)
      by_cases z : 24 * v + d = c
      · rw [if_pos z, hR v d hv hd, z, hb]
      · rw [if_neg z]; exact hR v d hv hd
    · rw [if_neg (by rw [e, hb]; decide)]
      refine ok_i ⟨by show (1 : Int32) = b2 (R c); rw [hb]; rfl, fun v d hv hd => ?_, FX.rfl.pI rfl⟩
      show _ = if 24 * v + d = c then false else R (24 * v + d)
      by_cases w : v = c / 24
      · rw [w, mII1, b_clr (by omega) (by omega), hR (c / 24) d (by omega) hd]
        by_cases z : d = c % 24
        · rw [if_pos (by omega), decide_eq_true z]; simp
        · rw [if_neg (by omega), decide_eq_false z]; simp
      · rw [mIIk w, if_neg (by omega)]; exact hR v d hv hd
/-- a queue of what has been taken -/
def BF (pc R0 R : Nat → Bool) (a : Nat) (cn : Nat → Nat) (tk : Nat) (done : Nat → Nat → Prop) : Prop :=
  (∀ j, j < tk → cn j < 384 ∧ Con pc a (cn j) ∧ R0 (cn j) = true ∧ R (cn j) = false) ∧
  (∀ c, c < 384 → R c = true → R0 c = true) ∧
  (∀ c, c < 384 → R0 c = true → R c = false → ∃ j, j < tk ∧ cn j = c) ∧
  (∀ j s n, done j s → s < 4 → j < tk → bes (cn j) s = some n → R n = false) ∧
  tk + fb_ct R 384 = fb_ct R0 384 ∧ R a = false
theorem BF.cong {pc R0 R : Nat → Bool} {a tk : Nat} {cn : Nat → Nat} {d e : Nat → Nat → Prop} (h : BF pc R0 R a cn tk d) (k : ∀ j s, s < 4 → j < tk → e j s → d j s) : BF pc R0 R a cn tk e := ⟨h.1, h.2.1, h.2.2.1, fun j s n q hs hj => h.2.2.2.1 j s n (k j s hs hj q) hs hj, h.2.2.2.2⟩
theorem c_takeIn {pc R0 R : Nat → Bool} {a i tk : Nat} {cn : Nat → Nat} (hcl : CL pc R0) (hp : PX x T M) (hR : RR x R M) (hcn : ∀ j, j < tk → gI M (x + 21) j = nI (cn j)) (hi : i < tk) (h : BF pc R0 R a cn tk (fun j _ => j < i)) : Ok (lp FU (fun s => bX7_takeEye_26 T (x + 19) (nI i) s.1 s.2.1 s.2.2) (nI tk, (0 : Int32), M)) (fun p => ∃ R' cn' tk', p.1 = nI tk' ∧ tk ≤ tk' ∧ RR x R' p.2 ∧ (∀ j, j < tk' → gI p.2 (x + 21) j = nI (cn' j)) ∧ BF pc R0 R' a cn' tk' (fun j _ => j < i + 1) ∧ FX (fun a _ => a = x + 21 ∨ a = x + 22) M p.2) := by
  refine ok_forF 0 4 (fun s t => ∃ R' cn' tk' M', t = (nI tk', nI s, M') ∧ tk ≤ tk' ∧ RR x R' M' ∧ (∀ j, j < tk' → gI M' (x + 21) j = nI (cn' j)) ∧ BF pc R0 R' a cn' tk' (fun j u => j < i ∨ j = i ∧ u < s) ∧ FX (fun a _ => a = x + 21 ∨ a = x + 22) M M') _ ⟨R, cn, tk, M, rfl, Nat.le_refl _, hR, hcn, h.cong (fun j s _ _ q => by omega), FX.rfl⟩ (by omega) (by omega) (fun s t _ hs hI => ?_) (fun t hI => ?_)
  · obtain ⟨R', cn', tk', M', rfl, htk, hR', hcn', hB, f⟩ := hI
    have hp' := hp.eq f.r
    have h0 := fb_ct_le R0 384
    have hsum := hB.2.2.2.2.1
    have hra := hB.2.2.2.2.2
    have hci := (hB.1 i (by omega)).1
    show Ok (bX7_takeEye_26 T (x + 19) (nI i) (nI tk') (nI s) M') _
    unfold bX7_takeEye_26
    rw [i_4, if_neg (by rw [c_le (by omega) (by omega)]; omega)]
    simp (disch := omega) only [gdI, Option.bind_some, hp'.k19, hp'.k20, hp'.l20, hp'.k21, hp'.l21, hp'.k22, hp'.l22, hp'.r19_0, hp'.r19_1, hp'.r19_2, gvI, cl_nI, hcn' i (by omega)]
    rw [c_beside hci hs, Option.bind_some, i_384, ite_le (by omega) (by omega)]
    by_cases hfull : 384 ≤ tk'
    · rw [if_pos hfull, lte, nI_1]
      have hz : fb_ct R' 384 = 0 := by omega
      refine ok_i ⟨R', cn', tk', M', rfl, htk, hR', hcn', ⟨hB.1, hB.2.1, hB.2.2.1, fun j u n q hu hj hb => fb_ct_zero.mp hz n (bes_b (hB.1 j hj).1 hu hb), hsum, hra⟩, f⟩
    · rw [if_neg hfull]
      refine Ok.bd (c_takeFromRest hp' hR' (fun c hc => bes_b hci hs hc)) (fun p hq => ?_)
      obtain ⟨p1, M3⟩ := p
      obtain ⟨rfl, hR3, f3⟩ := hq
      have hp3 := hp'.eq f3.r
      have g3 : FX (fun a _ => a = x + 21 ∨ a = x + 22) M M3 := f.trans (f3.wide (fun _ _ => Or.inr))
      have hcn3 : ∀ j, j < tk' → gI M3 (x + 21) j = nI (cn' j) := fun j hj => (f3.1 _ _ (by omega)).trans (hcn' j hj)
      rw [une2]
      cases hb : bes (cn' i) s with
      | none =>
        rw [hb] at hR3
        rw [if_pos (show b2 (tkn R' none) = 0 from rfl), lte, nI_1]
        refine ok_i ⟨R', cn', tk', M3, rfl, htk, hR3, hcn3, ⟨hB.1, hB.2.1, hB.2.2.1, fun j u n q hu hj hbn => ?_, hsum, hra⟩, g3⟩
        by_cases z : j = i ∧ u = s
        · rw [z.1, z.2, hb] at hbn; cases hbn
        · exact hB.2.2.2.1 j u n (by omega) hu hj hbn
      | some n =>
        have hn := bes_b hci hs hb
        rw [hb] at hR3
        show Ok (if b2 (R' n) = 0 then _ else _) _
        cases hrn : R' n
        · rw [if_pos (b2_ne.mpr rfl), lte, nI_1]
          refine ok_i ⟨R', cn', tk', M3, rfl, htk, fun v d hv hd => ?_, hcn3, ⟨hB.1, hB.2.1, hB.2.2.1, fun j u n2 q hu hj hbn => ?_, hsum, hra⟩, g3⟩
          · rw [hR3 v d hv hd]
            show (if 24 * v + d = n then false else R' (24 * v + d)) = _
            by_cases z : 24 * v + d = n
            · rw [if_pos z, z, hrn]
            · rw [if_neg z]
          · by_cases z : j = i ∧ u = s
            · rw [z.1, z.2, hb] at hbn; cases hbn; exact hrn
            · exact hB.2.2.2.1 j u n2 (by omega) hu hj hbn
        · rw [if_neg (fun z => absurd (b2_ne.mp z) (by decide)), show iN (some n) = nI n from rfl]
          simp (disch := omega) only [gdI, Option.bind_some, hp3.k19, hp3.k20, hp3.l20, hp3.k21, hp3.l21, hp3.k22, hp3.l22, hp3.r19_0, hp3.r19_1, hp3.r19_2, gvI, cl_nI, lte, nI_1]
          have hct := ct_rem hn hrn
          have hsub : ∀ c, (if c = n then false else R' c) = true → R' c = true := fun c q => by
            by_cases z : c = n
            · rw [if_pos z] at q; exact absurd q (by decide)
            · rw [if_neg z] at q; exact q
          refine ok_i ⟨fun e => if e = n then false else R' e, fun j => if j = tk' then n else cn' j, tk' + 1, _, rfl, by omega, fun v d hv hd => ?_, fun j hj => ?_, ⟨fun j hj => ?_, fun c hc q => hB.2.1 c hc (hsub c q), fun c hc q1 q2 => ?_, fun j u n2 q hu hj hbn => ?_, ?_, ?_⟩, g3.pI (Or.inl rfl)⟩
          · rw [mIIn (by omega)]; exact hR3 v d hv hd
          · show _ = nI (if j = tk' then n else cn' j)
            by_cases z : j = tk'
            · rw [if_pos z, z, mII1]
            · rw [if_neg z, mIIk z]; exact hcn3 j (by omega)
          · show (if j = tk' then n else cn' j) < 384 ∧ Con pc a (if j = tk' then n else cn' j) ∧ R0 (if j = tk' then n else cn' j) = true ∧ (if (if j = tk' then n else cn' j) = n then false else R' (if j = tk' then n else cn' j)) = false
            by_cases z : j = tk'
            · rw [if_pos z, if_pos rfl]
              have hR0n := hB.2.1 n hn hrn
              exact ⟨hn, (hB.1 i (by omega)).2.1.step hci hs hb (hcl.1 n hn hR0n), hR0n, rfl⟩
            · rw [if_neg z]
              obtain ⟨w1, w2, w3, w4⟩ := hB.1 j (by omega)
              refine ⟨w1, w2, w3, ?_⟩
              split
              · rfl
              · exact w4
          · have q2 : (if c = n then false else R' c) = false := q2
            by_cases z : c = n
            · exact ⟨tk', by omega, (if_pos rfl).trans z.symm⟩
            · rw [if_neg z] at q2
              obtain ⟨j, w1, w2⟩ := hB.2.2.1 c hc q1 q2
              exact ⟨j, by omega, (if_neg (by omega)).trans w2⟩
          · have hbn : bes (if j = tk' then n else cn' j) u = some n2 := hbn
            show (if n2 = n then false else R' n2) = false
            rw [if_neg (by omega)] at hbn
            by_cases z : j = i ∧ u = s
            · rw [z.1, z.2, hb] at hbn; cases hbn; rw [if_pos rfl]
            · have := hB.2.2.2.1 j u n2 (by omega) hu (by omega) hbn
              rw [this]
              split <;> rfl
          · show tk' + 1 + fb_ct (fun e => if e = n then false else R' e) 384 = _
            omega
          · show (if a = n then false else R' a) = false
            rw [hra]
            split <;> rfl
  · obtain ⟨R', cn', tk', M', rfl, htk, hR', hcn', hB, f⟩ := hI
    show Ok (bX7_takeEye_26 T (x + 19) (nI i) (nI tk') (nI 4) M') _
    unfold bX7_takeEye_26
    rw [i_4, if_pos (by decide)]
    exact ok_i ⟨R', cn', tk', rfl, htk, hR', hcn', hB.cong (fun j s _ _ q => by omega), f⟩
theorem c_takeEye {pc R0 : Nat → Bool} {a : Nat} (hcl : CL pc R0) (hp : PX x T M) (ha : a < 384) (hRa : R0 a = true) (hR : RR x (fun e => if e = a then false else R0 e) M) : Ok (fX7_takeEye T M (x + 19) (nI a)) (fun p => ∃ R', p.1 = nI (fb_ct R0 384 - fb_ct R' 384) ∧ TK pc R0 R' a ∧ RR x R' p.2 ∧ FX (fun a _ => a = x + 21 ∨ a = x + 22) M p.2) := by
  have h0 := fb_ct_le R0 384
  unfold fX7_takeEye
  rw [i_0]
  simp (disch := omega) only [gdI, Option.bind_some, hp.k19, hp.k20, hp.l20, hp.k21, hp.l21, hp.k22, hp.l22, hp.r19_0, hp.r19_1, hp.r19_2, gvI, cl_nI, lte]
  have hct := ct_rem ha hRa
  have start : BF pc R0 (fun e => if e = a then false else R0 e) a (fun _ => a) 1 (fun j _ => j < 0) := by
    refine ⟨fun j hj => ⟨ha, Con.refl, hRa, if_pos rfl⟩, fun c hc q => ?_, fun c hc q1 q2 => ?_, fun j s n q => absurd q (by omega), by omega, if_pos rfl⟩
    · have q : (if c = a then false else R0 c) = true := q
      by_cases z : c = a
      · rw [if_pos z] at q; exact absurd q (by decide)
      · rw [if_neg z] at q; exact q
    · have q2 : (if c = a then false else R0 c) = false := q2
      by_cases z : c = a
      · exact ⟨0, by omega, z.symm⟩
      · rw [if_neg z, q1] at q2; exact absurd q2 (by decide)
  refine Ok.bd (ok_forF (s := ((1 : Int32), nI 0, pI M (x + 21) 0 (nI a))) 0 384 (fun i t => ∃ R' cn' tk' M', t = (nI tk', nI i, M') ∧ i ≤ tk' ∧ RR x R' M' ∧ (∀ j, j < tk' → gI M' (x + 21) j = nI (cn' j)) ∧ BF pc R0 R' a cn' tk' (fun j _ => j < i) ∧ FX (fun a _ => a = x + 21 ∨ a = x + 22) M M') (fun p => ∃ R', p.1 = nI (fb_ct R0 384 - fb_ct R' 384) ∧ TK pc R0 R' a ∧ RR x R' p.2 ∧ FX (fun a _ => a = x + 21 ∨ a = x + 22) M p.2) ⟨_, fun _ => a, 1, _, rfl, by omega, fun v d hv hd => ?_, fun j hj => ?_, start, FX.rfl.pI (Or.inl rfl)⟩ (by omega) (by omega) (fun i t _ hi hI => ?_) (fun t hI => ?_)) (fun p hq => ok_i hq)
  · rw [mIIn (by omega)]; exact hR v d hv hd
  · rw [show j = 0 by omega, mII1]
  · obtain ⟨R', cn', tk', M', rfl, hle, hR', hcn', hB, f⟩ := hI
    have hsum := hB.2.2.2.2.1
    have hra := hB.2.2.2.2.2
    show Ok (bX7_takeEye_11 T (x + 19) (nI tk') (nI i) M') _
    unfold bX7_takeEye_11
    rw [i_384, if_neg (by rw [c_le (by omega) (by omega)]; omega), ite_le (by omega) (by omega)]
    by_cases hd : tk' ≤ i
    · rw [if_pos hd]
      refine ok_i ⟨R', by show nI tk' = _; rw [show fb_ct R0 384 - fb_ct R' 384 = tk' by omega], ⟨hB.2.1, fun _ => ?_, fun c hc q1 q2 => ?_, fun c s n hc hs q1 q2 hb => ?_, fun q => by rw [hRa] at q; exact absurd q (by decide)⟩, hR', f⟩
      · exact hra
      · obtain ⟨j, w1, w2⟩ := hB.2.2.1 c hc q1 q2
        rw [← w2]; exact (hB.1 j w1).2.1
      · obtain ⟨j, w1, w2⟩ := hB.2.2.1 c hc q1 q2
        rw [← w2] at hb
        exact hB.2.2.2.1 j s n (by omega) hs w1 hb
    · rw [if_neg hd]
      refine Ok.bd (c_takeIn hcl (hp.eq f.r) hR' hcn' (by omega) hB) (fun p hq => ?_)
      obtain ⟨p1, M2⟩ := p
      obtain ⟨R2, cn2, tk2, rfl, w1, w2, w3, w4, w5⟩ := hq
      rw [une2, lte, nI_1]
      exact ok_i ⟨R2, cn2, tk2, M2, rfl, by omega, w2, w3, w4, f.trans w5⟩
  · obtain ⟨R', cn', tk', M', rfl, hle, hR', hcn', hB, f⟩ := hI
    have hsum := hB.2.2.2.2.1
    have hra := hB.2.2.2.2.2
    show Ok (bX7_takeEye_11 T (x + 19) (nI tk') (nI 384) M') _
    unfold bX7_takeEye_11
    rw [i_384, if_pos (by decide)]
    refine ok_i ⟨R', by show nI tk' = _; rw [show fb_ct R0 384 - fb_ct R' 384 = tk' by omega], ⟨hB.2.1, fun _ => ?_, fun c hc q1 q2 => ?_, fun c s n hc hs q1 q2 hb => ?_, fun q => by rw [hRa] at q; exact absurd q (by decide)⟩, hR', f⟩
    · exact hra
    · obtain ⟨j, w1, w2⟩ := hB.2.2.1 c hc q1 q2
      rw [← w2]; exact (hB.1 j w1).2.1
    · obtain ⟨j, w1, w2⟩ := hB.2.2.1 c hc q1 q2
      rw [← w2] at hb
      exact hB.2.2.2.1 j s n (by omega) hs w1 hb
theorem c_findEyes (hp : PX x T M) (hg : MP (x + 20) (mr pm) M) : Ok (fX7_findEyes T M (x + 19)) (fun p => gI p.2 (x + 19) 12 = nI (mnE (pmc pm) 384) ∧ gI p.2 (x + 19) 13 = nI (grE (pmc pm) 384) ∧ FX (fun a _ => a = x + 19 ∨ a = x + 21 ∨ a = x + 22) M p.2) := by
  unfold fX7_findEyes
  rw [hp.k19, gdI, lte, lte]
  have f0 : FX (fun a _ => a = x + 19 ∨ a = x + 21 ∨ a = x + 22) M (pI (pI M (x + 19) 12 0) (x + 19) 13 0) := (FX.rfl.pI (Or.inl rfl)).pI (Or.inl rfl)
  refine Ok.bd (ok_forF (s := ((0 : Int32), pI (pI M (x + 19) 12 0) (x + 19) 13 0)) 0 16 (fun i s => ∃ M', s = (nI i, M') ∧ (∀ v, v < i → gI M' (x + 22) v = mr pm v) ∧ gI M' (x + 19) 12 = 0 ∧ gI M' (x + 19) 13 = 0 ∧ FX (fun a _ => a = x + 19 ∨ a = x + 21 ∨ a = x + 22) M M') (fun M' => (∀ v, v < 16 → gI M' (x + 22) v = mr pm v) ∧ gI M' (x + 19) 12 = 0 ∧ gI M' (x + 19) 13 = 0 ∧ FX (fun a _ => a = x + 19 ∨ a = x + 21 ∨ a = x + 22) M M') ⟨_, rfl, fun v hv => absurd hv (by omega), by rw [mIIk (by omega), mII1], mII1, f0⟩ (by omega) (by omega) (fun i s _ hi hI => ?_) (fun s hI => ?_)) (fun M1 h1 => ?_)
  · obtain ⟨M', rfl, hm, e12, e13, f⟩ := hI
    have hp' := hp.eq f.r
    have hg' := hg.fx f (fun j => by omega)
    show Ok (bX7_findEyes_12 T (x + 19) (nI i) M') _
    unfold bX7_findEyes_12
    rw [i_16, if_neg (by rw [c_le (by omega) (by omega)]; omega)]
    simp (disch := omega) only [gdI, gdT, Option.bind_some, lte, une2, une3, nI_add, gvI, cl_nI, c_le, c_lt, c_eq, Sum.elim_inl, Sum.elim_inr, hp'.k19, hp'.k20, hp'.l20, hp'.k21, hp'.l21, hp'.k22, hp'.l22, hp'.r19_0, hp'.r19_1, hp'.r19_2, hg' i hi, nI_1]
    refine ok_i ⟨_, rfl, fun v hv => ?_, (mIIn (by omega)).trans e12, (mIIn (by omega)).trans e13, f.pI (Or.inr (Or.inr rfl))⟩
    by_cases z : v = i
    · rw [z, mII1]
    · rw [mIIk z]; exact hm v (by omega)
  · obtain ⟨M', rfl, hm, e12, e13, f⟩ := hI
    show Ok (bX7_findEyes_12 T (x + 19) (nI 16) M') _
    unfold bX7_findEyes_12
    rw [i_16, if_pos (by decide)]
    exact ok_i ⟨hm, e12, e13, f⟩
  obtain ⟨hm, e12, e13, f1⟩ := h1
  have hR0 : RR x (rk (pmc pm) 0) M1 := fun v d hv hd => by
    rw [hm v hv, bt_mr hd]
    show pm v d = pm ((24 * v + d) / 24) ((24 * v + d) % 24)
    rw [show (24 * v + d) / 24 = v by omega, show (24 * v + d) % 24 = d by omega]
  refine Ok.bd (ok_forF (s := ((0 : Int32), M1)) 0 384 (fun k s => ∃ M', s = (nI k, M') ∧ RR x (rk (pmc pm) k) M' ∧ gI M' (x + 19) 12 = nI (mnE (pmc pm) k) ∧ gI M' (x + 19) 13 = nI (grE (pmc pm) k) ∧ FX (fun a _ => a = x + 19 ∨ a = x + 21 ∨ a = x + 22) M M') (fun M' => gI M' (x + 19) 12 = nI (mnE (pmc pm) 384) ∧ gI M' (x + 19) 13 = nI (grE (pmc pm) 384) ∧ FX (fun a _ => a = x + 19 ∨ a = x + 21 ∨ a = x + 22) M M') ⟨M1, rfl, hR0, e12, e13, f1⟩ (by omega) (by omega) (fun k s _ hk hI => ?_) (fun s hI => ?_)) (fun M2 h2 => ok_i h2)
  · obtain ⟨M', rfl, hR, g12, g13, f⟩ := hI
    have hp' := hp.eq f.r
    show Ok (bX7_findEyes_38 T (x + 19) (nI k) M') _
    unfold bX7_findEyes_38
    rw [i_384, if_neg (by rw [c_le (by omega) (by omega)]; omega), hp'.k19, gdI, show nI k = iN (some k) from rfl]
    refine Ok.bd (c_takeFromRest hp' hR (fun c hc => by cases hc; exact hk)) (fun p hq => ?_)
    obtain ⟨p1, M2⟩ := p
    obtain ⟨rfl, hR2, f2⟩ := hq
    have g2 : FX (fun a _ => a = x + 19 ∨ a = x + 21 ∨ a = x + 22) M M2 := f.trans (f2.wide (fun a _ q => Or.inr (Or.inr q)))
    have h12 : gI M2 (x + 19) 12 = nI (mnE (pmc pm) k) := (f2.1 _ _ (by omega)).trans g12
    have h13 : gI M2 (x + 19) 13 = nI (grE (pmc pm) k) := (f2.1 _ _ (by omega)).trans g13
    have gb := grE_b (pmc pm) k
    have sb := szE_b (pmc pm) k
    have mb : mnE (pmc pm) k ≤ k := fb_ct_le _ _
    have em : mnE (pmc pm) (k + 1) = mnE (pmc pm) k + (if rk (pmc pm) k k = true then 1 else 0) := rfl
    have eg : grE (pmc pm) (k + 1) = max (grE (pmc pm) k) (szE (pmc pm) k) := rfl
    rw [une2, show iN (some k) = nI k from rfl]
    show Ok (if b2 (rk (pmc pm) k k) = 0 then _ else _) _
    cases hb : rk (pmc pm) k k
    · rw [if_pos (b2_ne.mpr rfl), lte, nI_1]
      rw [hb, if_neg (by decide)] at em
      refine ok_i ⟨M2, rfl, fun v d hv hd => ?_, by rw [em]; exact h12, by rw [eg, szE_0 hb, Nat.max_zero]; exact h13, g2⟩
      rw [hR2 v d hv hd]
      have e2 := rk_tk (pc := pmc pm) (R2 := rk (pmc pm) k) hk ⟨fun _ _ q => q, fun q => by rw [hb] at q; exact absurd q (by decide), fun c _ q1 q2 => by rw [q1] at q2; exact absurd q2 (by decide), fun c s n _ _ q1 q2 => by rw [q1] at q2; exact absurd q2 (by decide), fun _ _ _ => rfl⟩ (24 * v + d) (by omega)
      rw [← e2]
      show (if 24 * v + d = k then false else rk (pmc pm) k (24 * v + d)) = _
      by_cases z : 24 * v + d = k
      · rw [if_pos z, z, hb]
      · rw [if_neg z]
    · rw [if_neg (fun z => absurd (b2_ne.mp z) (by decide))]
      rw [hb, if_pos rfl] at em
      simp only [lte, h12, nI_1]
      have hp2 : PX x T (pI M2 (x + 19) 12 (nI (mnE (pmc pm) k + 1))) := hp'.eq f2.r
      refine Ok.bd (c_takeEye (rk_cl (pmc pm) k) hp2 hk hb (fun v d hv hd => by rw [mIIn (by omega)]; exact hR2 v d hv hd)) (fun p hq => ?_)
      obtain ⟨p1, M3⟩ := p
      obtain ⟨R3, rfl, t3, hR3, f3⟩ := hq
      have e3 := rk_tk hk t3
      have ec : fb_ct R3 384 = fb_ct (rk (pmc pm) (k + 1)) 384 := fb_ct_cong e3
      rw [une2, mIIk (by omega), h13, ec, show fb_ct (rk (pmc pm) k) 384 - fb_ct (rk (pmc pm) (k + 1)) 384 = szE (pmc pm) k from rfl, max_at (by omega) (by omega), Option.bind_some, ← eg]
      refine ok_i ⟨_, rfl, fun v d hv hd => ?_, ?_, mII1, ((g2.pI (Or.inl rfl)).trans (f3.wide (fun a _ q => Or.inr q))).pI (Or.inl rfl)⟩
      · rw [mIIn (by omega), hR3 v d hv hd]; exact e3 _ (by omega)
      · rw [mIIk (by omega), f3.1 _ _ (by omega), mII1, em]
  · obtain ⟨M', rfl, hR, g12, g13, f⟩ := hI
    show Ok (bX7_findEyes_38 T (x + 19) (nI 384) M') _
    unfold bX7_findEyes_38
    rw [i_384, if_pos (by decide)]
    exact ok_i ⟨g12, g13, f⟩
/-! the reference takes -/
def KM (m : Nat) (K : Nat → Bool) (M : Me) : Prop := ∀ c, c < 384 → gI M (m + 9) c = b2 (K c)
def unK (pc K : Nat → Bool) (c : Nat) : Bool := pc c && !K c
def DS (pc K1 K : Nat → Bool) (a s : Nat) : Prop := (∀ c, c < 384 → unK pc K c = true → unK pc K1 c = true) ∧ (∀ c, c < 384 → unK pc K1 c = true → unK pc K c = false → Con pc a c) ∧ (∀ c t n, c < 384 → t < 4 → unK pc K1 c = true → unK pc K c = false → bes c t = some n → unK pc K n = false) ∧ (∀ t n, t < s → bes a t = some n → unK pc K n = false) ∧ fb_ct (unK pc K) 384 ≤ fb_ct (unK pc K1) 384
theorem DS.skip {pc K1 K : Nat → Bool} {a s : Nat} (h : DS pc K1 K a s) (hb : bes a s = none) : DS pc K1 K a (s + 1) := by
  refine ⟨h.1, h.2.1, h.2.2.1, fun t n ht hbt => ?_, h.2.2.2.2⟩
  by_cases z : t = s
  · rw [z, hb] at hbt; cases hbt
  · exact h.2.2.2.1 t n (by omega) hbt
theorem DS.call {pc K1 K K2 : Nat → Bool} {a s n : Nat} (h : DS pc K1 K a s) (ha : a < 384) (hs : s < 4) (hb : bes a s = some n) (t : TK pc (unK pc K) (unK pc K2) n) (hle : fb_ct (unK pc K2) 384 ≤ fb_ct (unK pc K) 384) : DS pc K1 K2 a (s + 1) := by
  obtain ⟨h1, h2, h3, h4, h5⟩ := h
  obtain ⟨t1, t2, t3, t4, t5⟩ := t
  have hn := bes_b ha hs hb
  have key : ∀ c, c < 384 → unK pc K1 c = true → unK pc K2 c = false → unK pc K c = false ∨ unK pc K c = true ∧ unK pc K2 c = false := fun c _ _ q => by
    cases hz : unK pc K c
    · exact Or.inl rfl
    · exact Or.inr ⟨rfl, q⟩
  have pcn : ∀ c, c < 384 → unK pc K c = true → unK pc K2 c = false → pc n = true := fun c hc q1 q2 => by
    cases hz : unK pc K n
    · have := t5 hz c hc; rw [q1, q2] at this; exact absurd this (by decide)
    · unfold unK at hz
      cases hp : pc n
      · rw [hp] at hz; exact absurd hz (by simp)
      · rfl
  have down : ∀ c, c < 384 → unK pc K c = false → unK pc K2 c = false := fun c hc q => by
    cases hz : unK pc K2 c
    · rfl
    · have := t1 c hc hz; rw [q] at this; exact absurd this (by decide)
  refine ⟨fun c hc q => h1 c hc (t1 c hc q), fun c hc q1 q2 => ?_, fun c u k hc hu q1 q2 hbk => ?_, fun u k hu hbk => ?_, by omega⟩
  · rcases key c hc q1 q2 with w | ⟨w1, w2⟩
    · exact h2 c hc q1 w
    · exact (Con.refl.step ha hs hb (pcn c hc w1 w2)).trans (t3 c hc w1 w2)
  · rcases key c hc q1 q2 with w | ⟨w1, w2⟩
    · exact down k (bes_b hc hu hbk) (h3 c u k hc hu q1 w hbk)
    · exact t4 c u k hc hu w1 w2 hbk
  · by_cases z : u = s
    · rw [z, hb] at hbk
      cases hbk
      cases hz : unK pc K n
      · exact down n hn hz
      · exact t2 hz
    · exact down k (bes_b ha (by omega) hbk) (h4 u k (by omega) hbk)
def REp (pc : Nat → Bool) (m c : Nat) (K : Nat → Bool) (M : Me) (p : Int32 × Me) : Prop := ∃ K', KM m K' p.2 ∧ TK pc (unK pc K) (unK pc K') c ∧ p.1 = nI (fb_ct (unK pc K) 384 - fb_ct (unK pc K') 384) ∧ fb_ct (unK pc K') 384 ≤ fb_ct (unK pc K) 384 ∧ FI m (fun a _ => a = m + 9) M p.2
theorem r_eyeFrom {M0 : Me} (hM0 : RM m T M0) (hg0 : MP (m + 7) (mr pm) M0) : ∀ (n : Nat) (K : Nat → Bool) (c : Nat) (M : Me), FI m (fun a _ => a = m + 9) M0 M → KM m K M → c < 384 → fb_ct (unK (pmc pm) K) 384 < n → Ok (fGE n 0 T M m (nI c)) (REp (pmc pm) m c K M) := by
  intro n
  induction n with
  | zero => intro K c M _ _ _ h; omega
  | succ n ih =>
    intro K c M f0 hK hc hn
    have hM : RM m T M := hM0.fr (fun k => f0.2.2 m k (by omega))
    have hg : MP (m + 7) (mr pm) M := hg0.fi f0 (fun j => by omega)
    have stay : unK (pmc pm) K c = false → REp (pmc pm) m c K M ((0 : Int32), M) := fun hz => ⟨K, hK, ⟨fun _ _ q => q, fun q => by rw [hz] at q; exact absurd q (by decide), fun c _ q1 q2 => by rw [q1] at q2; exact absurd q2 (by decide), fun c s n _ _ q1 q2 => by rw [q1] at q2; exact absurd q2 (by decide), fun _ _ _ => rfl⟩, by rw [Nat.sub_self]; rfl, Nat.le_refl _, FI.rfl⟩
    show Ok (hX12_eyeFrom (fGE n) T M m (nI c)) _
    unfold hX12_eyeFrom
    rw [i_24, c_div (by omega) (by omega) (by omega), c_remQ (by omega) (by omega) (by omega)]
    rw [lte, lte, r_mapped hM hg (show c % 24 < 24 by omega) (show c / 24 < 16 by omega)]
    simp (disch := omega) only [gdI, Option.bind_some, hM.k, hM.r9, hM.k9, hM.l9, gvI, cl_nI, lte, hK c hc]
    rw [show pm (c / 24) (c % 24) = pmc pm c from rfl]
    cases hKc : K c
    · rw [if_pos (b2_ne.mpr rfl)]
      cases hpc : pmc pm c
      · rw [if_pos (b2_ne.mpr rfl)]
        exact ok_i (stay (by unfold unK; rw [hpc]; rfl))
      · rw [if_neg (fun z => absurd (b2_ne.mp z) (by decide)), show vp_nar .boolean (1 : Int32) = 1 from rfl]
        have hU : unK (pmc pm) K c = true := by unfold unK; rw [hpc, hKc]; rfl
        generalize hK1 : (fun e => if e = c then true else K e) = K1
        have e1 : ∀ e, unK (pmc pm) K1 e = if e = c then false else unK (pmc pm) K e := fun e => by
          rw [← hK1]
          unfold unK
          show (pmc pm e && !(if e = c then true else K e)) = _
          by_cases z : e = c
          · rw [if_pos z, if_pos z]; simp
          · rw [if_neg z, if_neg z]
        have ct1 : fb_ct (unK (pmc pm) K1) 384 + 1 = fb_ct (unK (pmc pm) K) 384 := by
          rw [fb_ct_cong (fun e _ => e1 e)]; exact ct_rem hc hU
        have hKM1 : KM m K1 (pI M (m + 9) c 1) := fun e he => by
          rw [← hK1]
          show _ = b2 (if e = c then true else K e)
          by_cases z : e = c
          · rw [z, mII1, if_pos rfl]; rfl
          · rw [mIIk z, if_neg z]; exact hK e he
        have fin : ∀ K4 M4, KM m K4 M4 → DS (pmc pm) K1 K4 c 4 → FI m (fun a _ => a = m + 9) M M4 → REp (pmc pm) m c K M (nI (1 + (fb_ct (unK (pmc pm) K1) 384 - fb_ct (unK (pmc pm) K4) 384)), M4) := by
          intro K4 M4 k4 ⟨d1, d2, d3, d4, d5⟩ f4
          have hUc : unK (pmc pm) K4 c = false := by
            cases hz : unK (pmc pm) K4 c
            · rfl
            · have := d1 c hc hz
              rw [e1, if_pos rfl] at this
              exact absurd this (by decide)
          refine ⟨K4, k4, ⟨fun e he q => ?_, fun _ => hUc, fun e he q1 q2 => ?_, fun e s k he hs q1 q2 hbk => ?_, fun q => by rw [hU] at q; exact absurd q (by decide)⟩, by show nI _ = nI _; rw [show 1 + (fb_ct (unK (pmc pm) K1) 384 - fb_ct (unK (pmc pm) K4) 384) = fb_ct (unK (pmc pm) K) 384 - fb_ct (unK (pmc pm) K4) 384 by omega], by omega, f4⟩
          · have := d1 e he q
            rw [e1] at this
            by_cases z : e = c
            · rw [if_pos z] at this; exact absurd this (by decide)
            · rw [if_neg z] at this; exact this
          · by_cases z : e = c
            · rw [z]; exact Con.refl
            · exact d2 e he (by rw [e1, if_neg z]; exact q1) q2
          · by_cases z : e = c
            · rw [z] at hbk; exact d4 s k hs hbk
            · exact d3 e s k he hs (by rw [e1, if_neg z]; exact q1) q2 hbk
        -- one call more
        have one : ∀ (s k : Nat) (K2 : Nat → Bool) (M2 : Me) (P : Int32 × Me → Prop) (g : Int32 → Me → Option (Int32 × Me)), s < 4 → bes c s = some k → KM m K2 M2 → DS (pmc pm) K1 K2 c s → FI m (fun a _ => a = m + 9) M M2 → (∀ K3 M3, KM m K3 M3 → DS (pmc pm) K1 K3 c (s + 1) → FI m (fun a _ => a = m + 9) M M3 → Ok (g (nI (fb_ct (unK (pmc pm) K2) 384 - fb_ct (unK (pmc pm) K3) 384)) M3) P ∧ fb_ct (unK (pmc pm) K3) 384 ≤ fb_ct (unK (pmc pm) K2) 384 → Ok (g (nI (fb_ct (unK (pmc pm) K2) 384 - fb_ct (unK (pmc pm) K3) 384)) M3) P) → (∀ K3 M3, KM m K3 M3 → DS (pmc pm) K1 K3 c (s + 1) → FI m (fun a _ => a = m + 9) M M3 → fb_ct (unK (pmc pm) K3) 384 ≤ fb_ct (unK (pmc pm) K2) 384 → Ok (g (nI (fb_ct (unK (pmc pm) K2) 384 - fb_ct (unK (pmc pm) K3) 384)) M3) P) → Ok ((fGE n 0 T M2 m (nI k)).bind (un2 g)) P := by
          intro s k K2 M2 P g hs hb k2 d2 f2 _ hgo
          refine Ok.bd (ih K2 k M2 (f0.trans f2) k2 (bes_b hc hs hb) (by have := d2.2.2.2.2; omega)) (fun p hp => ?_)
          obtain ⟨p1, M3⟩ := p
          obtain ⟨K3, w1, w2, rfl, w4, w5⟩ := hp
          exact hgo K3 M3 w1 (d2.call hc hs hb w2 w4) (f2.trans w5) w4
        have hj74 : ∀ K2 M2, KM m K2 M2 → DS (pmc pm) K1 K2 c 2 → FI m (fun a _ => a = m + 9) M M2 → Ok (jX12_eyeFrom_74 (fGE n) T M2 m (nI c) (nI (c / 24)) (nI (1 + (fb_ct (unK (pmc pm) K1) 384 - fb_ct (unK (pmc pm) K2) 384)))) (REp (pmc pm) m c K M) := by
          intro K2 M2 k2 d2 f2
          have b1 := d2.2.2.2.2
          unfold jX12_eyeFrom_74
          rw [i_15, i_0, ite_le (by omega) (by omega), hM.k, gdI, gdI, i_24, nI_add]
          have last : ∀ K3 M3, KM m K3 M3 → DS (pmc pm) K1 K3 c 3 → FI m (fun a _ => a = m + 9) M M3 → ∀ acc, acc = nI (1 + (fb_ct (unK (pmc pm) K1) 384 - fb_ct (unK (pmc pm) K3) 384)) → Ok (if nI 15 ≤ nI (c / 24) then some (acc, M3) else (fGE n 0 T M3 m (nI (c + 24))).bind (un2 fun r27 M28 => lt (acc + r27) fun v29 => some (v29, M28))) (REp (pmc pm) m c K M) := by
            intro K3 M3 k3 d3 f3 acc hacc
            have b3 := d3.2.2.2.2
            rw [ite_le (by omega) (by omega)]
            by_cases q : 15 ≤ c / 24
            · rw [if_pos q, hacc]
              exact ok_i (fin K3 M3 k3 (d3.skip (by rw [bes3, if_pos (by omega)])) f3)
            · rw [if_neg q]
              refine one 3 (c + 24) K3 M3 _ _ (by omega) (by rw [bes3, if_neg (by omega)]) k3 d3 f3 (fun K4 M4 _ _ _ w => w.1) (fun K4 M4 k4 d4 f4 w4 => ?_)
              rw [lte, hacc, nI_add, show 1 + (fb_ct (unK (pmc pm) K1) 384 - fb_ct (unK (pmc pm) K3) 384) + (fb_ct (unK (pmc pm) K3) 384 - fb_ct (unK (pmc pm) K4) 384) = 1 + (fb_ct (unK (pmc pm) K1) 384 - fb_ct (unK (pmc pm) K4) 384) by omega]
              exact ok_i (fin K4 M4 k4 d4 f4)
          by_cases q : c / 24 ≤ 0
          · rw [if_pos q]
            exact last K2 M2 k2 (d2.skip (by rw [bes2, if_pos (by omega)])) f2 _ rfl
          · rw [if_neg q, c_sub (by omega)]
            refine one 2 (c - 24) K2 M2 _ _ (by omega) (by rw [bes2, if_neg (by omega)]) k2 d2 f2 (fun K3 M3 _ _ _ w => w.1) (fun K3 M3 k3 d3 f3 w3 => ?_)
            rw [lte, nI_add, show 1 + (fb_ct (unK (pmc pm) K1) 384 - fb_ct (unK (pmc pm) K2) 384) + (fb_ct (unK (pmc pm) K2) 384 - fb_ct (unK (pmc pm) K3) 384) = 1 + (fb_ct (unK (pmc pm) K1) 384 - fb_ct (unK (pmc pm) K3) 384) by omega]
            exact last K3 M3 k3 d3 f3 _ rfl
        have hj56 : ∀ K2 M2, KM m K2 M2 → DS (pmc pm) K1 K2 c 1 → FI m (fun a _ => a = m + 9) M M2 → Ok (jX12_eyeFrom_56 (fGE n) T M2 m (nI c) (nI (c % 24)) (nI (c / 24)) (nI (1 + (fb_ct (unK (pmc pm) K1) 384 - fb_ct (unK (pmc pm) K2) 384)))) (REp (pmc pm) m c K M) := by
          intro K2 M2 k2 d2 f2
          have b1 := d2.2.2.2.2
          unfold jX12_eyeFrom_56
          rw [i_23, ite_le (by omega) (by omega), hM.k, gdI, nI_1]
          by_cases q : 23 ≤ c % 24
          · rw [if_pos q]
            exact hj74 K2 M2 k2 (d2.skip (by rw [bes1, if_pos (by omega)])) f2
          · rw [if_neg q]
            refine one 1 (c + 1) K2 M2 _ _ (by omega) (by rw [bes1, if_neg (by omega)]) k2 d2 f2 (fun K3 M3 _ _ _ w => w.1) (fun K3 M3 k3 d3 f3 w3 => ?_)
            rw [lte, nI_add, show 1 + (fb_ct (unK (pmc pm) K1) 384 - fb_ct (unK (pmc pm) K2) 384) + (fb_ct (unK (pmc pm) K2) 384 - fb_ct (unK (pmc pm) K3) 384) = 1 + (fb_ct (unK (pmc pm) K1) 384 - fb_ct (unK (pmc pm) K3) 384) by omega]
            exact hj74 K3 M3 k3 d3 f3
        have d0 : DS (pmc pm) K1 K1 c 0 := ⟨fun _ _ q => q, fun e _ q1 q2 => by rw [q1] at q2; exact absurd q2 (by decide), fun e t k _ _ q1 q2 => by rw [q1] at q2; exact absurd q2 (by decide), fun t k ht => absurd ht (by omega), Nat.le_refl _⟩
        have f1 : FI m (fun a _ => a = m + 9) M (pI M (m + 9) c 1) := FI.rfl.pI rfl
        rw [i_0, ite_le (by omega) (by omega)]
        by_cases q : c % 24 ≤ 0
        · rw [if_pos q]
          have := hj56 K1 _ hKM1 (d0.skip (by rw [bes0, if_pos (by omega)])) f1
          rw [Nat.sub_self] at this
          exact this
        · rw [if_neg q, i_1, c_sub (by omega)]
          refine one 0 (c - 1) K1 (pI M (m + 9) c (nI 1)) _ _ (by omega) (by rw [bes0, if_neg (by omega)]) hKM1 d0 f1 (fun K3 M3 _ _ _ w => w.1) (fun K3 M3 k3 d3 f3 w3 => ?_)
          rw [nI_add]
          exact hj56 K3 M3 k3 d3 f3
    · rw [if_neg (fun z => absurd (b2_ne.mp z) (by decide))]
      exact ok_i (stay (by unfold unK; rw [hKc]; simp))
end
