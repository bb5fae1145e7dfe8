/-! the reference measures -/
def PSt (D F0 F : Nat → Nat) (j : Nat) (done : Nat → Nat → Prop) (more : Int32) : Prop :=
  (∀ c, c < 384 → D c ≤ F c ∧ F c ≤ F0 c ∧ F c ≤ 268435456) ∧
  (∀ c s n, done c s → c < 384 → s < 4 → bes c s = some n → D n + 1 = D c → D c ≤ j → F c = D c) ∧
  ((more = 0 ∧ (∀ c, c < 384 → F c = F0 c) ∧ ∀ c s n, done c s → c < 384 → s < 4 → bes c s = some n → F0 c ≤ F0 n + 1) ∨ (more = 1 ∧ ∃ c, c < 384 ∧ F0 c ≠ D c))
theorem PSt.cong {D F0 F : Nat → Nat} {j : Nat} {d e : Nat → Nat → Prop} {more : Int32} (h : PSt D F0 F j d more) (k : ∀ c s, c < 384 → s < 4 → e c s → d c s) : PSt D F0 F j e more := by
  obtain ⟨h1, h2, h3⟩ := h
  refine ⟨h1, fun c s n q hc hs => h2 c s n (k c s hc hs q) hc hs, ?_⟩
  rcases h3 with ⟨a, b, c⟩ | q
  · exact Or.inl ⟨a, b, fun c' s n q hc hs => c c' s n (k c' s hc hs q) hc hs⟩
  · exact Or.inr q
theorem PSt.skip {pc : Nat → Bool} {D F0 F : Nat → Nat} {j k s : Nat} {d e : Nat → Nat → Prop} {more : Int32} (hD : IsD pc D) (h0 : ∀ c, c < 384 → D c < j → F0 c = D c) (h : PSt D F0 F j d more) (hk : k < 384) (hs : s < 4) (hn : ∀ n, bes k s = some n → F n = 268435456 ∨ ¬ F n + 1 < F k) (hq : ∀ c t, e c t → d c t ∨ c = k ∧ t = s) : PSt D F0 F j e more := by
  obtain ⟨h1, h2, h3⟩ := h
  refine ⟨h1, fun c t n q hc ht hb e1 e2 => ?_, ?_⟩
  · rcases hq c t q with z | ⟨rfl, rfl⟩
    · exact h2 c t n z hc ht hb e1 e2
    · have hnb := bes_b hc ht hb
      have hnn := h1 n hnb
      have hcc := h1 c hc
      have e3 := h0 n hnb (by omega)
      have e4 := hD.2.2.1 n hnb
      rcases hn n hb with z | z <;> omega
  · rcases h3 with ⟨a, b, f⟩ | q
    · refine Or.inl ⟨a, b, fun c t n q hc ht hb => ?_⟩
      rcases hq c t q with z | ⟨rfl, rfl⟩
      · exact f c t n z hc ht hb
      · have hnb := bes_b hc ht hb
        have := b c hc
        have := b n hnb
        have := h1 c hc
        rcases hn n hb with z | z <;> omega
    · exact Or.inr q
theorem PSt.put {pc : Nat → Bool} {D F0 F : Nat → Nat} {j k s n : Nat} {d e : Nat → Nat → Prop} {more : Int32} (hD : IsD pc D) (h0 : ∀ c, c < 384 → D c < j → F0 c = D c) (h : PSt D F0 F j d more) (hk : k < 384) (hs : s < 4) (hn : bes k s = some n) (hlt : F n + 1 < F k) (hq : ∀ c t, e c t → d c t ∨ c = k ∧ t = s) : PSt D F0 (fun c => if c = k then F n + 1 else F c) j e 1 := by
  obtain ⟨h1, h2, h3⟩ := h
  have hnb := bes_b hk hs hn
  have hl := hD.2.1 k s n hk hs hn
  have h1n := h1 n hnb
  have h1k := h1 k hk
  refine ⟨fun c hc => ?_, fun c t n2 q hc ht hb e1 e2 => ?_, Or.inr ⟨rfl, ?_⟩⟩
  · by_cases z : c = k
    · show D c ≤ (if c = k then F n + 1 else F c) ∧ (if c = k then F n + 1 else F c) ≤ F0 c ∧ (if c = k then F n + 1 else F c) ≤ 268435456
      rw [if_pos z, z]; omega
    · show D c ≤ (if c = k then F n + 1 else F c) ∧ (if c = k then F n + 1 else F c) ≤ F0 c ∧ (if c = k then F n + 1 else F c) ≤ 268435456
      rw [if_neg z]; exact h1 c hc
  · show (if c = k then F n + 1 else F c) = D c
    by_cases z : c = k
    · rw [if_pos z]
      rcases hq c t q with y | ⟨rfl, rfl⟩
      · have := h2 c t n2 y hc ht hb e1 e2
        rw [z] at this ⊢
        omega
      · rw [hn] at hb
        cases hb
        have := h0 n hnb (by omega)
        omega
    · rw [if_neg z]
      rcases hq c t q with y | y
      · exact h2 c t n2 y hc ht hb e1 e2
      · exact absurd y.1 z
  · apply Classical.byContradiction
    intro hno
    have ex : ∀ c, c < 384 → F0 c = D c := fun c hc => Classical.byContradiction (fun z => hno ⟨c, hc, z⟩)
    have := ex k hk
    have := ex n hnb
    omega
theorem FAR_n : (268435456 : Int32) = nI 268435456 := Eq.trans rfl rfl
section
variable {m : Nat} {T : Sh} {M : Me} {pc : Nat → Bool} {D F0 : Nat → Nat} {x1 : Int32}
theorem r_relax {F : Nat → Nat} {j k : Nat} {more : Int32} (hM : RM m T M) (hD : IsD pc D) (h0 : ∀ c, c < 384 → D c < j → F0 c = D c) (hF : ∀ c, c < 384 → gI M (m + 11) c = nI (F c)) (hk : k < 384) (h : PSt D F0 F j (fun c _ => c < k) more) : Ok (lp FU (fun s => bX12_laysFar_68 T m x1 (nI k) s.1 s.2.1 s.2.2) (more, (0 : Int32), M)) (fun p => ∃ F', (∀ c, c < 384 → gI p.2 (m + 11) c = nI (F' c)) ∧ PSt D F0 F' j (fun c _ => c < k + 1) p.1 ∧ FI m (fun a _ => a = m + 11) M p.2) := by
  refine ok_forF 0 4 (fun s t => ∃ more' M' F', t = (more', nI s, M') ∧ (∀ c, c < 384 → gI M' (m + 11) c = nI (F' c)) ∧ PSt D F0 F' j (fun c u => c < k ∨ c = k ∧ u < s) more' ∧ FI m (fun a _ => a = m + 11) M M') _ ⟨more, M, F, rfl, hF, h.cong (fun c s _ _ q => by omega), FI.rfl⟩ (by omega) (by omega) (fun s t _ hs hI => ?_) (fun t hI => ?_)
  · obtain ⟨more', M', F', rfl, hF', hP, f⟩ := hI
    have hM' : RM m T M' := hM.fr (fun k => f.2.2 m k (by omega))
    show Ok (bX12_laysFar_68 T m x1 (nI k) more' (nI s) M') _
    unfold bX12_laysFar_68
    rw [i_4, if_neg (by rw [c_le (by omega) (by omega)]; omega), r_stepTo hk hs, Option.bind_some]
    cases hb : bes k s with
    | none =>
      rw [if_pos (show iN none = (-1 : Int32) from rfl), lte, nI_1]
      exact ok_i ⟨more', M', F', rfl, hF', hP.skip hD h0 hk hs (fun n hn => by rw [hb] at hn; cases hn) (fun c t q => by omega), f⟩
    | some n =>
      have hn := bes_b hk hs hb
      have b1 := (hP.1 n hn).2.2
      have b2 := (hP.1 k hk).2.2
      rw [if_neg (iN_m1 (by omega)), show iN (some n) = nI n from rfl, FAR_n]
      simp (disch := omega) only [gdI, gdT, Option.bind_some, lte, une2, une3, nI_add, gvI, cl_nI, c_le, c_lt, c_eq, Sum.elim_inl, Sum.elim_inr, hM'.k, hM'.r11, hM'.k11, hM'.l11, hF' n hn, hF' k hk, nI_1]
      by_cases q1 : F' n = 268435456
      · rw [if_pos q1]
        exact ok_i ⟨more', M', F', rfl, hF', hP.skip hD h0 hk hs (fun n' hn' => by rw [hb] at hn'; cases hn'; exact Or.inl q1) (fun c t q => by omega), f⟩
      · rw [if_neg q1]
        by_cases q2 : F' n + 1 < F' k
        · rw [if_pos q2]
          refine ok_i ⟨1, _, fun c => if c = k then F' n + 1 else F' c, rfl, fun c hc => ?_, hP.put hD h0 hk hs hb q2 (fun c t q => by omega), f.pI rfl⟩
          show _ = nI (if c = k then F' n + 1 else F' c)
          by_cases z : c = k
          · rw [if_pos z, z, mII1]
          · rw [mIIk z, if_neg z]; exact hF' c hc
        · rw [if_neg q2]
          exact ok_i ⟨more', M', F', rfl, hF', hP.skip hD h0 hk hs (fun n' hn' => by rw [hb] at hn'; cases hn'; exact Or.inr q2) (fun c t q => by omega), f⟩
  · obtain ⟨more', M', F', rfl, hF', hP, f⟩ := hI
    show Ok (bX12_laysFar_68 T m x1 (nI k) more' (nI 4) M') _
    unfold bX12_laysFar_68
    rw [i_4, if_pos (by decide)]
    exact ok_i ⟨F', hF', hP.cong (fun c s _ _ q => by omega), f⟩
theorem r_pass {j : Nat} (hM : RM m T M) (hD : IsD pc D) (h0 : ∀ c, c < 384 → D c < j → F0 c = D c) (hb : ∀ c, c < 384 → D c ≤ F0 c ∧ F0 c ≤ 268435456) (hF : ∀ c, c < 384 → gI M (m + 11) c = nI (F0 c)) : Ok (lp FU (fun s => bX12_laysFar_58 T m x1 s.1 s.2.1 s.2.2) ((0 : Int32), (0 : Int32), M)) (fun p => ∃ F', (∀ c, c < 384 → gI p.2 (m + 11) c = nI (F' c)) ∧ PSt D F0 F' j (fun _ _ => True) p.1 ∧ FI m (fun a _ => a = m + 11) M p.2) := by
  refine ok_forF 0 384 (fun k t => ∃ more' M' F', t = (more', nI k, M') ∧ (∀ c, c < 384 → gI M' (m + 11) c = nI (F' c)) ∧ PSt D F0 F' j (fun c _ => c < k) more' ∧ FI m (fun a _ => a = m + 11) M M') _ ⟨0, M, F0, rfl, hF, ⟨fun c hc => ⟨(hb c hc).1, Nat.le_refl _, (hb c hc).2⟩, fun c s n q => absurd q (by omega), Or.inl ⟨rfl, fun _ _ => rfl, fun c s n q => absurd q (by omega)⟩⟩, FI.rfl⟩ (by omega) (by omega) (fun k t _ hk hI => ?_) (fun t hI => ?_)
  · obtain ⟨more', M', F', rfl, hF', hP, f⟩ := hI
    have hM' : RM m T M' := hM.fr (fun k => f.2.2 m k (by omega))
    show Ok (bX12_laysFar_58 T m x1 more' (nI k) M') _
    unfold bX12_laysFar_58
    rw [i_384, if_neg (by rw [c_le (by omega) (by omega)]; omega)]
    refine Ok.bd (r_relax hM' hD h0 hF' hk hP) (fun p hq => ?_)
    obtain ⟨p1, M2⟩ := p
    obtain ⟨F2, g1, g2, g3⟩ := hq
    rw [une2, lte, nI_1]
    exact ok_i ⟨p1, M2, F2, rfl, g1, g2, f.trans g3⟩
  · obtain ⟨more', M', F', rfl, hF', hP, f⟩ := hI
    show Ok (bX12_laysFar_58 T m x1 more' (nI 384) M') _
    unfold bX12_laysFar_58
    rw [i_384, if_pos (by decide)]
    exact ok_i ⟨F', hF', hP.cong (fun c s hc _ _ => hc), f⟩
theorem lip_le {F : Nat → Nat} (hD : IsD pc D) (hz : ∀ c, c < 384 → D c = 0 → F c = 0) (hl : ∀ c s n, c < 384 → s < 4 → bes c s = some n → F c ≤ F n + 1) : ∀ i c, c < 384 → D c ≤ i → F c ≤ D c := by
  intro i
  induction i with
  | zero => intro c hc h; have := hz c hc (by omega); omega
  | succ i ih =>
    intro c hc h
    rcases Nat.eq_zero_or_pos (D c) with q | q
    · have := hz c hc q; omega
    · obtain ⟨s, n, hs, hb, e⟩ := hD.2.2.2 c hc q
      have h1 := ih n (bes_b hc hs hb) (by omega)
      have h2 := hl c s n hc hs hb
      omega
theorem r_far (hM : RM m T M) (hD : IsD pc D) (hb : ∀ c, c < 384 → D c ≤ F0 c ∧ F0 c ≤ 268435456) (hz : ∀ c, c < 384 → D c = 0 → F0 c = 0) (hF : ∀ c, c < 384 → gI M (m + 11) c = nI (F0 c)) : Ok (lp FU (fun s => bX12_laysFar_50 T m x1 s.1 s.2) ((1 : Int32), M)) (fun M' => (∀ c, c < 384 → gI M' (m + 11) c = nI (D c)) ∧ FI m (fun a _ => a = m + 11) M M') := by
  refine ok_forF 0 40 (fun i t => ∃ more M' F, t = (more, M') ∧ (∀ c, c < 384 → gI M' (m + 11) c = nI (F c)) ∧ (∀ c, c < 384 → D c ≤ F c ∧ F c ≤ 268435456) ∧ (∀ c, c < 384 → D c < i + 1 → F c = D c) ∧ (more = 0 → ∀ c, c < 384 → F c = D c) ∧ (more = 0 ∨ more = 1) ∧ (i = 40 → more = 0) ∧ FI m (fun a _ => a = m + 11) M M') _ ⟨1, M, F0, rfl, hF, hb, fun c hc h => by have := hz c hc (by omega); omega, fun h => absurd h (by decide), Or.inr rfl, fun h => absurd h (by omega), FI.rfl⟩ (by omega) (by omega) (fun i t _ hi hI => ?_) (fun t hI => ?_)
  · obtain ⟨more, M', F, rfl, hF', hb', hx, hm0, hm, _, f⟩ := hI
    have hM' : RM m T M' := hM.fr (fun k => f.2.2 m k (by omega))
    show Ok (bX12_laysFar_50 T m x1 more M') _
    unfold bX12_laysFar_50
    rcases hm with rfl | rfl
    · rw [if_pos rfl]
      exact ok_i ⟨fun c hc => by rw [hF' c hc, hm0 rfl c hc], f⟩
    · rw [if_neg (by decide)]
      refine Ok.bd (r_pass hM' hD hx hb' hF') (fun p hq => ?_)
      obtain ⟨p1, M2⟩ := p
      obtain ⟨F2, g1, ⟨g2, g3, g4⟩, g5⟩ := hq
      rw [une2]
      have ex2 : ∀ c, c < 384 → D c < i + 1 + 1 → F2 c = D c := fun c hc h => by
        have h2 := g2 c hc
        rcases Nat.eq_zero_or_pos (D c) with q | q
        · have := hx c hc (by omega); omega
        · obtain ⟨s, n, hs, hbs, e⟩ := hD.2.2.2 c hc q
          exact g3 c s n trivial hc hs hbs e (by omega)
      refine ok_i ⟨p1, M2, F2, rfl, g1, fun c hc => ⟨(g2 c hc).1, (g2 c hc).2.2⟩, ex2, fun hp0 c hc => ?_, ?_, fun h40 => ?_, f.trans g5⟩
      · rcases g4 with ⟨_, a, b⟩ | ⟨a, _⟩
        · have h1 := lip_le hD (F := F) (fun c hc h => by have := hx c hc (by omega); omega) (fun c s n hc hs hbs => b c s n trivial hc hs hbs) 38 c hc (hD.2.2.1 c hc)
          have h2 := hb' c hc
          rw [a c hc]; omega
        · have hp1 : p1 = 0 := hp0
          have ha : p1 = 1 := a
          rw [ha] at hp1; exact absurd hp1 (by decide)
      · rcases g4 with ⟨a, _⟩ | ⟨a, _⟩
        · exact Or.inl a
        · exact Or.inr a
      · rcases g4 with ⟨a, _⟩ | ⟨_, c, hc, hne⟩
        · exact a
        · exact absurd (hx c hc (by have := hD.2.2.1 c hc; omega)) hne
  · obtain ⟨more, M', F, rfl, hF', hb', hx, hm0, hm, h40, f⟩ := hI
    have : more = 0 := h40 rfl
    subst this
    show Ok (bX12_laysFar_50 T m x1 0 M') _
    unfold bX12_laysFar_50
    rw [if_pos rfl]
    exact ok_i ⟨fun c hc => by rw [hF' c hc, hm0 rfl c hc], f⟩
theorem r_far0 (hM : RM m T M) (hF : ∀ c, c < 384 → gI M (m + 11) c = nI 268435456) : lp FU (fun s => bX12_laysFar_50 T m x1 s.1 s.2) ((1 : Int32), M) = some M := by
  have h1 : ∀ k, k < 384 → lp FU (fun s => bX12_laysFar_68 T m x1 (nI k) s.1 s.2.1 s.2.2) ((0 : Int32), (0 : Int32), M) = some ((0 : Int32), M) := by
    intro k hk
    refine lp_itG (fun s => ((0 : Int32), nI s, M)) 4 _ rfl (by omega) (fun s hs => ?_) ?_
    · show bX12_laysFar_68 T m x1 (nI k) 0 (nI s) M = _
      unfold bX12_laysFar_68
      rw [i_4, if_neg (by rw [c_le (by omega) (by omega)]; omega), r_stepTo hk hs, Option.bind_some]
      cases hb : bes k s with
      | none => rw [if_pos (show iN none = (-1 : Int32) from rfl), lte, nI_1]
      | some n =>
        have hn := bes_b hk hs hb
        rw [if_neg (iN_m1 (by omega)), show iN (some n) = nI n from rfl, FAR_n]
        simp (disch := omega) only [gdI, gdT, Option.bind_some, lte, une2, une3, nI_add, gvI, cl_nI, c_le, c_lt, c_eq, Sum.elim_inl, Sum.elim_inr, hM.k, hM.r11, hM.k11, hM.l11, hF n hn, nI_1, if_true]
    · show bX12_laysFar_68 T m x1 (nI k) 0 (nI 4) M = _
      unfold bX12_laysFar_68
      rw [i_4, if_pos (by decide)]
  have h2 : lp FU (fun s => bX12_laysFar_58 T m x1 s.1 s.2.1 s.2.2) ((0 : Int32), (0 : Int32), M) = some ((0 : Int32), M) := by
    refine lp_itG (fun k => ((0 : Int32), nI k, M)) 384 _ rfl (by omega) (fun k hk => ?_) ?_
    · show bX12_laysFar_58 T m x1 0 (nI k) M = _
      unfold bX12_laysFar_58
      rw [i_384, if_neg (by rw [c_le (by omega) (by omega)]; omega), h1 k hk, Option.bind_some, une2, lte, nI_1]
    · show bX12_laysFar_58 T m x1 0 (nI 384) M = _
      unfold bX12_laysFar_58
      rw [i_384, if_pos (by decide)]
  refine lp_itG (fun i => ((if i = 0 then (1 : Int32) else 0), M)) 1 _ rfl (by omega) (fun i hi => ?_) ?_
  · obtain rfl : i = 0 := by omega
    show bX12_laysFar_50 T m x1 1 M = _
    unfold bX12_laysFar_50
    rw [if_neg (by decide), h2, Option.bind_some, une2]; rfl
  · show bX12_laysFar_50 T m x1 0 M = _
    unfold bX12_laysFar_50
    rw [if_pos rfl]
end
def ff (m a k : Nat) : Prop := mf m a k ∨ a = m + 11
theorem ff_qf {m a k : Nat} (h : ff m a k) : sq m a k := by
  rcases h with h | h
  · exact mf_qf h
  · unfold sq; omega
/-- what the distances are, or far if there is no cell -/
def IsE (pc : Nat → Bool) (E : Nat → Nat) : Prop := IsD pc E ∨ (∀ c, c < 384 → pc c = false) ∧ ∀ c, E c = 268435456
section
variable {x m : Nat} {A : Nat → Int32} {T : Sh} {M M2 : Me}
theorem r_laysFar {l : Nat} {E : Nat → Nat} (h : RV m A T M) (hl : l < nlA A) (hE : IsE (pmc (psd A (qA A) (eA A) l)) E) : Ok (fX12_laysFar T M m (nI l)) (fun p => p.1 = nI (E (ptA A l)) ∧ (∀ c, c < 384 → gI p.2 (m + 11) c = nI (E c)) ∧ FI m (ff m) M p.2) := by
  have hM := h.rm
  have h6 := h.lv.b3
  have hpt := h.sv.ptb (l := l) (by omega)
  unfold fX12_laysFar
  simp only [gdI, gdT, Option.bind_some, lte, une2, une3, nI_add, gvI, cl_nI, c_le, c_lt, c_eq, Sum.elim_inl, Sum.elim_inr, hM.k]
  refine Ok.bd (r_laysMapNow h hl) (fun p hq => ?_)
  obtain ⟨p1, M1⟩ := p
  obtain ⟨m1, f1, h1, d1⟩ := hq
  have m1 : MP (m + 7) (mr (psd A (qA A) (eA A) l)) M1 := m1
  generalize psd A (qA A) (eA A) l = pm at *
  rw [une2]
  refine Ok.bd (ok_forF (s := ((0 : Int32), M1)) 0 384 (fun i s => ∃ M', s = (nI i, M') ∧ (∀ c, c < i → gI M' (m + 11) c = nI (if pmc pm c = true then 0 else 268435456)) ∧ FI m (fun a _ => a = m + 11) M1 M') (fun M' => (∀ c, c < 384 → gI M' (m + 11) c = nI (if pmc pm c = true then 0 else 268435456)) ∧ FI m (fun a _ => a = m + 11) M1 M') ⟨M1, rfl, fun c hc => absurd hc (by omega), FI.rfl⟩ (by omega) (by omega) (fun i s _ hi hI => ?_) (fun s hI => ?_)) (fun M2 hM2 => ?_)
  · obtain ⟨M', rfl, hm, f⟩ := hI
    have hM' : RM m T M' := h1.rm.fr (fun k => f.2.2 m k (by omega))
    have hg' : MP (m + 7) (mr pm) M' := m1.fi f (fun j => by omega)
    show Ok (bX12_laysFar_7 T m (nI l) (nI i) M') _
    unfold bX12_laysFar_7
    rw [i_384, if_neg (by rw [c_le (by omega) (by omega)]; omega), i_24, c_div (by omega) (by omega) (by omega), c_remQ (by omega) (by omega) (by omega), r_mapped hM' hg' (by omega) (by omega), FAR_n]
    simp (disch := omega) only [gdI, gdT, Option.bind_some, lte, une2, une3, nI_add, gvI, cl_nI, c_le, c_lt, c_eq, Sum.elim_inl, Sum.elim_inr, hM'.k, hM'.r11, hM'.k11, hM'.l11, nI_1]
    rw [show pm (i / 24) (i % 24) = pmc pm i from rfl]
    have fin : ∀ v, (if pmc pm i = true then 0 else 268435456) = v → ∃ M2, ((nI (i + 1), pI M' (m + 11) i (nI v)) : Int32 × Me) = (nI (i + 1), M2) ∧ (∀ c, c < i + 1 → gI M2 (m + 11) c = nI (if pmc pm c = true then 0 else 268435456)) ∧ FI m (fun a _ => a = m + 11) M1 M2 := fun v hv => ⟨_, rfl, fun c hc => by
      by_cases q : c = i
      · rw [q, mII1, hv]
      · rw [mIIk q]; exact hm c (by omega), f.pI rfl⟩
    cases hb : pmc pm i
    · rw [if_pos (b2_ne.mpr rfl)]
      exact ok_i (fin _ (by rw [hb, if_neg (by decide)]))
    · rw [if_neg (fun z => absurd (b2_ne.mp z) (by decide))]
      exact ok_i (fin _ (by rw [hb, if_pos rfl]))
  · obtain ⟨M', rfl, hm, f⟩ := hI
    show Ok (bX12_laysFar_7 T m (nI l) (nI 384) M') _
    unfold bX12_laysFar_7
    rw [i_384, if_pos (by decide)]
    exact ok_i ⟨hm, f⟩
  obtain ⟨hm2, f2⟩ := hM2
  have hM2' : RM m T M2 := h1.rm.fr (fun k => f2.2.2 m k (by omega))
  have key : Ok (lp FU (fun s => bX12_laysFar_50 T m (nI l) s.1 s.2) ((1 : Int32), M2)) (fun M' => (∀ c, c < 384 → gI M' (m + 11) c = nI (E c)) ∧ FI m (fun a _ => a = m + 11) M2 M') := by
    rcases hE with hE | ⟨hE1, hE2⟩
    · refine r_far (F0 := fun c => if pmc pm c = true then 0 else 268435456) hM2' hE (fun c hc => ?_) (fun c hc hz => if_pos ((hE.1 c hc).mp hz)) hm2
      have := hE.2.2.1 c hc
      show E c ≤ (if pmc pm c = true then 0 else 268435456) ∧ (if pmc pm c = true then 0 else 268435456) ≤ 268435456
      by_cases q : pmc pm c = true
      · rw [if_pos q]
        have := (hE.1 c hc).mpr q
        omega
      · rw [if_neg q]; omega
    · rw [r_far0 hM2' (fun c hc => by rw [hm2 c hc, hE1 c hc, if_neg (by decide)])]
      exact ok_i ⟨fun c hc => by rw [hm2 c hc, hE1 c hc, hE2, if_neg (by decide)], FI.rfl⟩
  refine Ok.bd key (fun M3 hq => ?_)
  obtain ⟨hm3, f3⟩ := hq
  have f4 : FI m (ff m) M M3 := ((f1.wide (fun _ _ => Or.inl)).trans (f2.wide (fun _ _ => Or.inr))).trans (f3.wide (fun _ _ => Or.inr))
  have h3 : RV m A T M3 := h.fi f4 (fun _ _ => ff_qf)
  have hM3 := h3.rm
  simp (disch := omega) only [gdI, gdT, Option.bind_some, lte, une2, une3, nI_add, gvI, cl_nI, c_le, c_lt, c_eq, Sum.elim_inl, Sum.elim_inr, hM3.k, hM3.r1, hM3.k1, hM3.l1, hM3.r11, hM3.k11, hM3.l11, i_42, h3.al, h.sv.pt (l := l) (by omega), hm3 (ptA A l) hpt]
  exact ok_i ⟨rfl, hm3, f4⟩
theorem ctm_0 {pm : Nat → Nat → Bool} (h : ctm pm 16 = 0) : ∀ c, c < 384 → pmc pm c = false := fun c hc => by
  have h1 := fb_sm_zero h (c / 24) (by omega)
  exact fb_ct_zero.mp h1 (c % 24) (by omega)
theorem ex_E (pm : Nat → Nat → Bool) : ∃ G E, (ctm pm 16 ≠ 0 → (∀ c, c < 384 → RecF (pmc pm) G c) ∧ (∀ c, c < 384 → RecB G E c) ∧ IsD (pmc pm) E) ∧ IsE (pmc pm) E := by
  by_cases h : ctm pm 16 = 0
  · exact ⟨fun _ => 0, fun _ => 268435456, fun q => absurd h q, Or.inr ⟨ctm_0 h, fun _ => rfl⟩⟩
  · obtain ⟨G, hG⟩ := ex_G (pmc pm) 384
    obtain ⟨H, hH⟩ := ex_H G 384
    obtain ⟨v, d, hv, hd, e⟩ := ctm_pos h
    have hc : pmc pm (24 * v + d) = true := by
      unfold pmc
      rw [show (24 * v + d) / 24 = v by omega, show (24 * v + d) % 24 = d by omega]
      exact e
    have hD := GH_isD hG (fun c hc => hH c hc (by omega)) (a := 24 * v + d) (by omega) hc
    exact ⟨G, H, fun _ => ⟨hG, fun c hc => hH c hc (by omega), hD⟩, Or.inl hD⟩
theorem q_steps (hL : LV A) (hS : SV A) (a : Int32) : QQ x m A (fun T M => fX11_steps T M x a) (fun T M => fX12_steps T M m a) := by
  have h6 := hL.b3
  rcases ix_I a (nlA A) (by omega) with ⟨l, hl, rfl⟩ | hn
  · have hpt := hS.ptb (l := l) (by omega)
    obtain ⟨G, E, hGE, hE⟩ := ex_E (psd A (qA A) (eA A) l)
    have hcb := ctm_b (psd A (qA A) (eA A) l)
    refine ⟨if ctm (psd A (qA A) (eA A) l) 16 = 0 then -1 else nI (E (ptA A l)), fun T M h => ?_, fun T M h => ?_⟩
    · show Ok (fX11_steps T M x (nI l)) _
      unfold fX11_steps
      rw [c_lane1 h hl, h.px.k0, gdI, Option.bind_some, if_pos rfl]
      refine Ok.bd (c_look h hl) (fun p hq => ?_)
      obtain ⟨p1, M1⟩ := p
      obtain ⟨m1, f1, h1⟩ := hq
      have hp := h1.px
      simp only [gdI, gdT, Option.bind_some, lte, une2, une3, nI_add, gvI, cl_nI, c_le, c_lt, c_eq, Sum.elim_inl, Sum.elim_inr, hp.k0, hp.k19, hp.k20, hp.l20, hp.k21, hp.l21, hp.k22, hp.l22, hp.r0_0, hp.r0_2, hp.r0_3, hp.r0_4, hp.r0_5, hp.r0_6, hp.r0_7, hp.r0_9, hp.r0_10, hp.r0_13, hp.r19_0, hp.r19_1, hp.r19_2]
      rw [c_cells hp m1, Option.bind_some, i_0, ite_eq (by omega) (by omega)]
      by_cases q : ctm (psd A (qA A) (eA A) l) 16 = 0
      · rw [if_pos q, if_pos q]
        exact ok_i ⟨rfl, f1.gf, h1⟩
      · rw [if_neg q, if_neg q]
        obtain ⟨g1, g2, g3⟩ := hGE q
        refine Ok.bd (c_measureSteps hp (pm := psd A (qA A) (eA A) l) m1 g1 g2) (fun p hq => ?_)
        obtain ⟨p1, M2⟩ := p
        obtain ⟨m2, f2⟩ := hq
        have h2 : CV x A T M2 := h1.fx f2 (fun a k q => by omega)
        have hp2 := h2.px
        simp (disch := omega) only [gdI, gdT, Option.bind_some, lte, une2, une3, nI_add, gvI, cl_nI, c_le, c_lt, c_eq, Sum.elim_inl, Sum.elim_inr, hp2.k0, hp2.k19, hp2.k20, hp2.l20, hp2.k21, hp2.l21, hp2.k22, hp2.l22, hp2.k25, hp2.k26, hp2.l26, hp2.r0_0, hp2.r0_2, hp2.r0_3, hp2.r0_4, hp2.r0_5, hp2.r0_6, hp2.r0_7, hp2.r0_9, hp2.r0_10, hp2.r0_13, hp2.r19_0, hp2.r19_1, hp2.r19_2, hp2.r25_0, h2.pt (l := l) (by omega), hS.pt (l := l) (by omega), m2 (ptA A l) hpt]
        exact ok_i ⟨rfl, f1.gf.trans (f2.hf (x := x) (fun a k q => by omega)).gf, h2⟩
    · have h0 := h.t0 (v := 0)
      show Ok (fX12_steps T M m (nI l)) _
      unfold fX12_steps
      rw [h0.rm.k, gdI, lte, r_lane1 h0 hl, Option.bind_some, if_neg (by decide)]
      refine Ok.bd (r_laysFar h0 hl hE) (fun p hq => ?_)
      obtain ⟨p1, M1⟩ := p
      obtain ⟨rfl, m1, f1⟩ := hq
      have fin : QF m M M1 := (r_t0.qf (fun _ _ => nf_qf)).trans (f1.qf (fun _ _ => ff_qf))
      rw [une2, FAR_n]
      by_cases q : ctm (psd A (qA A) (eA A) l) 16 = 0
      · rw [if_pos q]
        have e : E (ptA A l) = 268435456 := by
          rcases hE with z | z
          · obtain ⟨_, n, _, hb, _⟩ := z.2.2.2 (ptA A l) hpt (by
              rcases Nat.eq_zero_or_pos (E (ptA A l)) with w | w
              · have := (z.1 _ hpt).mp w
                rw [ctm_0 q _ hpt] at this
                exact absurd this (by decide)
              · exact w)
            exfalso
            have hz : ∀ i c, c < 384 → E c ≤ i → False := by
              intro i
              induction i with
              | zero => intro c hc h; have := (z.1 c hc).mp (by omega); rw [ctm_0 q c hc] at this; exact absurd this (by decide)
              | succ i ih =>
                intro c hc h
                rcases Nat.eq_zero_or_pos (E c) with w | w
                · have := (z.1 c hc).mp w; rw [ctm_0 q c hc] at this; exact absurd this (by decide)
                · obtain ⟨s, n, hs, hb, e⟩ := z.2.2.2 c hc w
                  exact ih n (bes_b hc hs hb) (by omega)
            exact hz _ _ hpt (Nat.le_refl _)
          · exact z.2 _
        rw [e, if_pos rfl]
        exact ok_i ⟨rfl, fin⟩
      · rw [if_neg q]
        have := (hGE q).2.2.2.2.1 (ptA A l) hpt
        rw [ite_eq (by omega) (by omega), if_neg (by omega)]
        exact ok_i ⟨rfl, fin⟩
  · refine ⟨-2, fun T M h => ?_, fun T M h => ?_⟩
    · show Ok (fX11_steps T M x a) _
      unfold fX11_steps
      rw [c_lane0 h hn, h.px.k0, gdI, Option.bind_some, if_neg (by decide)]
      exact ok_i ⟨rfl, GF.rfl, h⟩
    · have h0 := h.t0 (v := 0)
      show Ok (fX12_steps T M m a) _
      unfold fX12_steps
      rw [h0.rm.k, gdI, lte, r_lane0 h0 hn, Option.bind_some, if_pos rfl]
      exact ok_i ⟨rfl, r_t0.qf (fun _ _ => nf_qf)⟩
end
