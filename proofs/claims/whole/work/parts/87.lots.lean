/-! chances -/
theorem l_add (a b : Nat) : lN a + lN b = lN (a + b) := (Int64.ofNat_add a b).symm
theorem l_mul (a b : Nat) : lN a * lN b = lN (a * b) := (Int64.ofNat_mul a b).symm
theorem l_div {a b : Nat} (ha : a < 2147483648) (hb : b < 2147483648) : lN a / lN b = lN (a / b) := by
  have h1 : a / b ≤ a := Nat.div_le_self _ _
  rw [fa_eq64, Int64.toInt_div, pf_lI (by omega), pf_lI (by omega), pf_lI (by omega), ← Int.ofNat_tdiv]
  generalize a / b = q at *
  rw [Int.bmod_eq_of_le (by omega) (by omega)]
theorem l_sub {a b : Nat} (h : b ≤ a) : lN a - lN b = lN (a - b) := by
  obtain ⟨c, rfl⟩ : ∃ c, a = b + c := ⟨a - b, by omega⟩
  rw [← l_add, Nat.add_sub_cancel_left]
  apply Int64.toBitVec_inj.mp
  rw [Int64.toBitVec_sub, Int64.toBitVec_add, BitVec.add_comm, BitVec.add_sub_cancel]
theorem l_rem {a b : Nat} (ha : a < 2147483648) (hb : b < 2147483648) : lN a - lN a / lN b * lN b = lN (a % b) := by
  rw [l_div ha hb, l_mul, l_sub (Nat.div_mul_le_self a b), Nat.mod_eq_sub, Nat.mul_comm]
theorem l_eq {a b : Nat} (ha : a < 2147483648) (hb : b < 2147483648) : (lN a = lN b) = (a = b) := by
  apply propext
  rw [fa_eq64, pf_lI (by omega), pf_lI (by omega)]
  omega
theorem l_32 {a : Nat} (ha : a < 2147483648) : (lN a).toInt32 = nI a := by
  rw [fa_eq, Int64.toInt_toInt32, pf_lI (by omega), nI_toInt (by omega), Int.bmod_eq_of_le (by omega) (by omega)]
theorem half {a b : Nat} (hb : 0 < b) (hr : 0 < a % b) : 2 * (b % (a % b)) < b := by
  have h1 : a % b < b := Nat.mod_lt _ hb
  have h2 : b % (a % b) < a % b := Nat.mod_lt _ hr
  have h3 : b % (a % b) ≤ b - a % b := by
    have e : b % (a % b) = (b - a % b) % (a % b) := Nat.mod_eq_sub_mod (by omega)
    rw [e]; exact Nat.mod_le _ _
  omega
theorem gcd_st (a b : Nat) : Nat.gcd a b = Nat.gcd b (a % b) := by
  rw [Nat.gcd_comm a b, Nat.gcd_rec b a, Nat.gcd_comm]
theorem c_euc {u v w : Int32} : ∀ (k i a b n : Nat), b < 2 ^ k → i + 2 * k ≤ 64 → a < 2147483648 → b < 2147483648 → 64 - i < n → lp n (fun s => bX11_lowestTerms_31 u v w s.1 s.2.1 s.2.2) (nI a, nI b, nI i) = some (nI (Nat.gcd a b)) := by
  intro k
  induction k with
  | zero =>
    intro i a b n hb hi ha hb2 hn
    obtain ⟨n, rfl⟩ : ∃ q, n = q + 1 := ⟨n - 1, by omega⟩
    have hb0 : b = 0 := by omega
    subst hb0
    refine lp_inr ?_
    show bX11_lowestTerms_31 u v w (nI a) (nI 0) (nI i) = _
    unfold bX11_lowestTerms_31
    rw [if_pos (show nI 0 = (0 : Int32) from rfl), Nat.gcd_zero_right]
    split <;> rfl
  | succ k ih =>
    intro i a b n hb hi ha hb2 hn
    obtain ⟨n, rfl⟩ : ∃ q, n = q + 1 := ⟨n - 1, by omega⟩
    have st : ∀ i a b, i < 64 → a < 2147483648 → b < 2147483648 → 0 < b → bX11_lowestTerms_31 u v w (nI a) (nI b) (nI i) = some (.inl (nI b, nI (a % b), nI (i + 1))) := by
      intro i a b hi ha hb h0
      have hb0 : ¬ nI b = (0 : Int32) := by rw [i_0, c_eq (by omega) (by omega)]; omega
      unfold bX11_lowestTerms_31
      rw [show (64 : Int32) = nI 64 from rfl, if_neg (by rw [c_le (by omega) (by omega)]; omega), if_neg hb0, gd_pos hb0, lte, lte, c_rem ha h0 hb, nI_1]
    have zr : ∀ i a n, i ≤ 64 → 0 < n → lp n (fun s => bX11_lowestTerms_31 u v w s.1 s.2.1 s.2.2) (nI a, nI 0, nI i) = some (nI a) := by
      intro i a n _ hn
      obtain ⟨n, rfl⟩ : ∃ q, n = q + 1 := ⟨n - 1, by omega⟩
      refine lp_inr ?_
      show bX11_lowestTerms_31 u v w (nI a) (nI 0) (nI i) = _
      unfold bX11_lowestTerms_31
      rw [if_pos (show nI 0 = (0 : Int32) from rfl)]
      split <;> rfl
    rcases Nat.eq_zero_or_pos b with h0 | h0
    · subst h0
      rw [zr i a (n + 1) (by omega) (by omega), Nat.gcd_zero_right]
    · have hr : a % b < b := Nat.mod_lt _ h0
      rw [lp_inl (s' := (nI b, nI (a % b), nI (i + 1))) (st i a b (by omega) ha hb2 h0)]
      rcases Nat.eq_zero_or_pos (a % b) with h1 | h1
      · rw [gcd_st, h1, zr (i + 1) b n (by omega) (by omega), Nat.gcd_zero_right]
      · obtain ⟨n, rfl⟩ : ∃ q, n = q + 1 := ⟨n - 1, by omega⟩
        rw [lp_inl (s' := (nI (a % b), nI (b % (a % b)), nI (i + 1 + 1))) (st (i + 1) b (a % b) (by omega) hb2 (by omega) h1)]
        have hh := half h0 h1
        have h2 : b % (a % b) < 2 ^ k := by rw [Nat.pow_succ] at hb; omega
        rw [gcd_st, gcd_st]
        exact ih (i + 1 + 1) (a % b) (b % (a % b)) n h2 (by omega) (by omega) (by omega) (by omega)
theorem r_euc : ∀ (k n w a b : Nat), b < 2 ^ k → 2 * k < n → a < 2147483648 → b < 2147483648 → fGC n w (lN a) (lN b) = some (lN (Nat.gcd a b)) := by
  have zr : ∀ n w a, 0 < n → fGC n w (lN a) (lN 0) = some (lN a) := by
    intro n w a hn
    obtain ⟨n, rfl⟩ : ∃ q, n = q + 1 := ⟨n - 1, by omega⟩
    show hX12_common (fGC n) (lN a) (lN 0) = _
    unfold hX12_common
    simp only [lc_eq]
    rw [if_pos (show lN 0 = (0 : Int64) from rfl)]
  have st : ∀ n w a b, a < 2147483648 → b < 2147483648 → 0 < b → fGC (n + 1) w (lN a) (lN b) = fGC n 0 (lN b) (lN (a % b)) := by
    intro n w a b ha hb h0
    have hb0 : ¬ lN b = (0 : Int64) := by
      intro q
      have : lN b = lN 0 := q
      rw [l_eq (by omega) (by omega)] at this
      omega
    show hX12_common (fGC n) (lN a) (lN b) = _
    unfold hX12_common
    simp only [lc_eq]
    rw [if_neg hb0, gd_pos hb0, l_rem ha hb]
    cases fGC n 0 (lN b) (lN (a % b)) <;> rfl
  intro k
  induction k with
  | zero =>
    intro n w a b hb hn ha hb2
    have hb0 : b = 0 := by omega
    subst hb0
    rw [zr n w a (by omega), Nat.gcd_zero_right]
  | succ k ih =>
    intro n w a b hb hn ha hb2
    obtain ⟨n, rfl⟩ : ∃ q, n = q + 1 := ⟨n - 1, by omega⟩
    rcases Nat.eq_zero_or_pos b with h0 | h0
    · subst h0
      rw [zr (n + 1) w a (by omega), Nat.gcd_zero_right]
    · have hr : a % b < b := Nat.mod_lt _ h0
      rw [st n w a b ha hb2 h0]
      rcases Nat.eq_zero_or_pos (a % b) with h1 | h1
      · rw [gcd_st, h1, zr n 0 b (by omega), Nat.gcd_zero_right]
      · obtain ⟨n, rfl⟩ : ∃ q, n = q + 1 := ⟨n - 1, by omega⟩
        rw [st n 0 b (a % b) hb2 (by omega) h1]
        have hh := half h0 h1
        have h2 : b % (a % b) < 2 ^ k := by rw [Nat.pow_succ] at hb; omega
        rw [gcd_st, gcd_st]
        exact ih n 0 (a % b) (b % (a % b)) h2 (by omega) (by omega) (by omega)
def prt (S n w : Nat) : Nat := (if w = 0 then S else 10 ^ n) / Nat.gcd S (10 ^ n)
theorem p10 {n : Nat} (hn : n ≤ 6) : 1 ≤ 10 ^ n ∧ 10 ^ n ≤ 1000000 := ⟨Nat.one_le_pow _ _ (by omega), show 10 ^ n ≤ 10 ^ 6 from Nat.pow_le_pow_right (by omega) hn⟩
theorem c_lowestTerms {S n w : Nat} (hS : S < 268435456) (hn : n ≤ 6) (hw : w < 2) : fX11_lowestTerms (nI S) (nI n) (nI w) = some (nI (prt S n w)) := by
  obtain ⟨h1, h2⟩ := p10 hn
  have key : lp FU (fun s => bX11_lowestTerms_5 (nI S) (nI n) (nI w) s.1 s.2) ((1 : Int32), (0 : Int32)) = some (nI (10 ^ n)) := by
    refine lp_itG (fun i => (nI (10 ^ i), nI i)) n _ rfl (by omega) (fun i hi => ?_) ?_
    · show bX11_lowestTerms_5 (nI S) (nI n) (nI w) (nI (10 ^ i)) (nI i) = _
      unfold bX11_lowestTerms_5
      rw [if_neg (by rw [c_le (by omega) (by omega)]; omega), i_10, c_mul, lte, lte, nI_1]; rfl
    · show bX11_lowestTerms_5 (nI S) (nI n) (nI w) _ (nI n) = _
      unfold bX11_lowestTerms_5
      rw [if_pos (by rw [c_le (by omega) (by omega)]; omega)]
  have hg : Nat.gcd (10 ^ n) S ≤ 10 ^ n := Nat.gcd_le_left _ (by omega)
  have hg0 : 0 < Nat.gcd (10 ^ n) S := Nat.gcd_pos_of_pos_left _ (by omega)
  unfold fX11_lowestTerms
  rw [key, Option.bind_some, i_0, c_euc 28 0 (10 ^ n) S FU (by omega) (by omega) (by omega) (by omega) (by show 64 - 0 < 1000000; omega), Option.bind_some, ite_eq (by omega) (by omega), if_neg (by omega), ite_eq (by omega) (by omega)]
  have hgn : ¬ nI (Nat.gcd (10 ^ n) S) = nI 0 := by rw [c_eq (by omega) (by omega)]; omega
  rw [gd_pos hgn, gd_pos hgn, c_div (by omega) hg0 (by omega), c_div (by omega) hg0 (by omega), Nat.gcd_comm (10 ^ n) S]
  unfold prt
  by_cases q : w = 0
  · rw [if_pos q, if_pos q]
  · rw [if_neg q, if_neg q]
theorem r_part {S n w : Nat} (hS : S < 268435456) (hn : n ≤ 6) (hw : w < 2) : fX12_part (lN S) (lN (10 ^ n)) (nI w) = some (nI (prt S n w)) := by
  obtain ⟨h1, h2⟩ := p10 hn
  have hg : Nat.gcd S (10 ^ n) ≤ 10 ^ n := Nat.gcd_le_right _ (by omega)
  have hg0 : 0 < Nat.gcd S (10 ^ n) := Nat.gcd_pos_of_pos_right _ (by omega)
  have d1 : S / Nat.gcd S (10 ^ n) ≤ S := Nat.div_le_self _ _
  have d2 : 10 ^ n / Nat.gcd S (10 ^ n) ≤ 10 ^ n := Nat.div_le_self _ _
  have hgn : ¬ lN (Nat.gcd S (10 ^ n)) = (0 : Int64) := by
    intro q
    have : lN (Nat.gcd S (10 ^ n)) = lN 0 := q
    rw [l_eq (by omega) (by omega)] at this
    omega
  unfold fX12_part
  rw [r_euc 20 100 0 S (10 ^ n) (by omega) (by omega) (by omega) (by omega), Option.bind_some, Option.bind_some, gd_pos hgn, gd_pos hgn, l_div (by omega) (by omega), l_div (by omega) (by omega), l_32 (by omega), l_32 (by omega), i_0, ite_eq (by omega) (by omega)]
  unfold prt
  by_cases q : w = 0
  · rw [if_pos q, if_pos q]
  · rw [if_neg q, if_neg q]
theorem r_wholeOf {n : Nat} (hn : n ≤ 6) : fX12_wholeOf (nI n) = some (lN (10 ^ n)) := by
  have key : lp FU (fun s => bX12_wholeOf_4 (nI n) s.1 s.2) ((1 : Int64), (0 : Int32)) = some (lN (10 ^ n)) := by
    refine lp_itG (fun i => (lN (10 ^ i), nI i)) n _ rfl (by omega) (fun i hi => ?_) ?_
    · show bX12_wholeOf_4 (nI n) (lN (10 ^ i)) (nI i) = _
      unfold bX12_wholeOf_4
      rw [if_neg (by rw [c_le (by omega) (by omega)]; omega), show (10 : Int64) = lN 10 from rfl, l_mul, lte, lte, nI_1]; rfl
    · show bX12_wholeOf_4 (nI n) _ (nI n) = _
      unfold bX12_wholeOf_4
      rw [if_pos (by rw [c_le (by omega) (by omega)]; omega)]
  unfold fX12_wholeOf
  rw [key]; rfl
/-! lots -/
def cgk (k d : Nat) : Nat := (if d = k - 1 then 1 else 0) + (if d = min (k + 1) 23 then 1 else 0)
def cfk (k d : Nat) : Nat := cgk k d + (if d = k then 8 else 0)
def lk (d0 : Nat) : Nat → Nat → Nat
  | 0, d => if d = d0 then 1 else 0
  | n + 1, d => fb_sm (fun k => cfk k d * lk d0 n k) 24
theorem cf_10 : ∀ d, d < 24 → fb_sm (fun k => cfk k d) 24 = 10 := by decide +kernel
theorem sm_mul (f : Nat → Nat) (c : Nat) : ∀ n, fb_sm (fun k => f k * c) n = fb_sm f n * c
  | 0 => by show 0 = 0 * c; omega
  | n + 1 => by rw [fb_sm_succ, fb_sm_succ, sm_mul f c n, Nat.add_mul]
theorem lk_b (d0 : Nat) : ∀ n d, d < 24 → lk d0 n d ≤ 10 ^ n
  | 0, d, _ => by
    show (if d = d0 then 1 else 0) ≤ 1
    split <;> omega
  | n + 1, d, hd => by
    have h1 : fb_sm (fun k => cfk k d * lk d0 n k) 24 ≤ fb_sm (fun k => cfk k d * 10 ^ n) 24 := fb_sm_le (fun k hk => Nat.mul_le_mul_left _ (lk_b d0 n k hk))
    rw [sm_mul, cf_10 d hd] at h1
    show fb_sm (fun k => cfk k d * lk d0 n k) 24 ≤ 10 ^ (n + 1)
    rw [Nat.pow_succ]; omega
theorem sm_8 (L : Nat → Nat) (d : Nat) : ∀ n, fb_sm (fun k => (if d = k then 8 else 0) * L k) n = if d < n then 8 * L d else 0
  | 0 => by rw [if_neg (by omega)]; rfl
  | n + 1 => by
    rw [fb_sm_succ, sm_8 L d n]
    by_cases q : d = n
    · subst q
      rw [if_neg (by omega), if_pos rfl, if_pos (by omega)]; omega
    · rw [if_neg q]
      by_cases w : d < n
      · rw [if_pos w, if_pos (by omega)]; omega
      · rw [if_neg w, if_neg (by omega)]; omega
theorem cf_sum (L : Nat → Nat) {d : Nat} (hd : d < 24) : fb_sm (fun k => cfk k d * L k) 24 = 8 * L d + fb_sm (fun k => cgk k d * L k) 24 := by
  have e : fb_sm (fun k => cfk k d * L k) 24 = fb_sm (fun k => cgk k d * L k + (if d = k then 8 else 0) * L k) 24 := fb_sm_cong (fun k _ => by unfold cfk; rw [Nat.add_mul])
  rw [e, fb_sm_add, sm_8, if_pos hd]; omega
def ssm (row : Int32) (L : Nat → Nat) (n : Nat) : Nat := fb_sm (fun d => if bt row d = true then L d else 0) n
theorem ssm_b {row : Int32} {d0 n i : Nat} (hn : n ≤ 6) (hi : i ≤ 24) : ssm row (lk d0 n) i ≤ 24000000 := by
  have h2 := (p10 hn).2
  have : fb_sm (fun d => if bt row d = true then lk d0 n d else 0) i ≤ i * 1000000 := fb_sm_bound (fun k hk => by
    have := lk_b d0 n k (by omega)
    show (if bt row k = true then lk d0 n k else 0) ≤ 1000000
    split <;> omega)
  unfold ssm
  have : i * 1000000 ≤ 24 * 1000000 := Nat.mul_le_mul_right _ hi
  omega
theorem upd_at {M : Me} {a k v : Nat} {F : Nat → Nat} (hF : ∀ d, d < 24 → gI M a d = nI (F d)) (hk : k < 24) : ∀ d, d < 24 → gI (pI M a k (nI (F k + v))) a d = nI (F d + if d = k then v else 0) := by
  intro d hd
  by_cases q : d = k
  · rw [q, mII1, if_pos rfl]
  · rw [mIIk q, if_neg q, hF d hd]; rfl
theorem updJ {M : Me} {a k v : Nat} {F : Nat → Nat} (hF : ∀ d, d < 24 → gJ M a d = lN (F d)) (hk : k < 24) : ∀ d, d < 24 → gJ (pJ M a k (lN (F k + v))) a d = lN (F d + if d = k then v else 0) := by
  intro d hd
  by_cases q : d = k
  · rw [q, mJJ1, if_pos rfl]
  · rw [mJJk q, if_neg q, hF d hd]; rfl
section
variable {x m : Nat} {A : Nat → Int32} {T : Sh} {M M2 : Me}
def CB (x s : Nat) (L : Nat → Nat) (M : Me) : Prop := (s ≤ 1 ∧ gR M x 11 = some (x + 66 + s) ∧ gR M x 12 = some (x + 67 - s)) ∧ ∀ d, d < 24 → gI M (x + 66 + s) d = nI (L d)
def DJ (x : Nat) (M M2 : Me) : Prop := (∀ a k, a ≠ x + 66 → a ≠ x + 67 → gI M2 a k = gI M a k) ∧ (∀ a k, gJ M2 a k = gJ M a k) ∧ ∀ a k, ¬ (a = x ∧ (k = 11 ∨ k = 12)) → gR M2 a k = gR M a k
theorem DJ.rfl : DJ x M M := ⟨fun _ _ _ _ => Eq.refl _, fun _ _ => Eq.refl _, fun _ _ _ => Eq.refl _⟩
theorem DJ.trans {M1 : Me} (h : DJ x M M1) (h2 : DJ x M1 M2) : DJ x M M2 := ⟨fun a k p q => (h2.1 a k p q).trans (h.1 a k p q), fun a k => (h2.2.1 a k).trans (h.2.1 a k), fun a k p => (h2.2.2 a k p).trans (h.2.2 a k p)⟩
theorem DJ.hf (h : DJ x M M2) : HF x M M2 := ⟨fun a k _ q => h.1 a k (by omega) (by omega), fun a k _ _ => h.2.1 a k, fun a k q _ => h.2.2 a k q⟩
theorem DJ.px (h : DJ x M M2) (hp : PX x T M) : PX x T M2 := hp.fr (fun i hi => h.2.2 _ _ (by have := (xO_x i hi).1; omega))
theorem DJ.sw {s : Nat} {L : Nat → Nat} (h : DJ x M M2) (hw : SW x M) (hc : CB x s L M2) : SW x M2 := ⟨⟨s, hc.1.1, hc.1.2.1, hc.1.2.2⟩, by
  obtain ⟨_, ⟨t, t1, t2, t3⟩, _⟩ := hw
  exact ⟨t, t1, (h.2.2 _ _ (by omega)).trans t2, (h.2.2 _ _ (by omega)).trans t3⟩, fun k hk hb => by
  obtain ⟨_, _, t⟩ := hw
  exact ⟨(h.2.1 _ _).trans (t k hk hb).1, (h.2.1 _ _).trans (t k hk hb).2⟩⟩
theorem PX.d {s : Nat} (h : PX x T M) (hs : s ≤ 1) : kd T (x + 66 + s) = 13 ∧ ln T (x + 66 + s) = 24 := by
  rcases (by omega : s = 0 ∨ s = 1) with q | q <;> subst q
  · exact ⟨h.k66, h.l66⟩
  · exact ⟨h.k67, h.l67⟩
theorem PX.d2 {s : Nat} (h : PX x T M) (hs : s ≤ 1) : kd T (x + 67 - s) = 13 ∧ ln T (x + 67 - s) = 24 := by
  rcases (by omega : s = 0 ∨ s = 1) with q | q <;> subst q
  · exact ⟨h.k67, h.l67⟩
  · exact ⟨h.k66, h.l66⟩
theorem max0 {i : Nat} (hi : i < 1000) : fJ9_max_7cf53 (nI i - 1) (0 : Int32) = some (nI (i - 1)) := by
  cases i with
  | zero => rfl
  | succ i =>
    rw [i_dec, i_0, max_at (by omega) (by omega), show i + 1 - 1 = i by omega]
    rw [Nat.max_zero]
theorem cf_at {L : Nat → Nat} {i d : Nat} : fb_sm (fun k => cfk k d * L k) i + (if d = i - 1 then L i else 0) + (if d = min (i + 1) 23 then L i else 0) + (if d = i then 8 * L i else 0) = fb_sm (fun k => cfk k d * L k) (i + 1) := by
  have e : ∀ (p q r : Prop) [Decidable p] [Decidable q] [Decidable r] (y : Nat), (if p then y else 0) + (if q then y else 0) + (if r then 8 * y else 0) = ((if p then 1 else 0) + (if q then 1 else 0) + (if r then 8 else 0)) * y := by
    intro p q r _ _ _ y
    by_cases hp : p
    · by_cases hq : q
      · by_cases hr : r
        · rw [if_pos hp, if_pos hq, if_pos hr, if_pos hp, if_pos hq, if_pos hr]; omega
        · rw [if_pos hp, if_pos hq, if_neg hr, if_pos hp, if_pos hq, if_neg hr]; omega
      · by_cases hr : r
        · rw [if_pos hp, if_neg hq, if_pos hr, if_pos hp, if_neg hq, if_pos hr]; omega
        · rw [if_pos hp, if_neg hq, if_neg hr, if_pos hp, if_neg hq, if_neg hr]; omega
    · by_cases hq : q
      · by_cases hr : r
        · rw [if_neg hp, if_pos hq, if_pos hr, if_neg hp, if_pos hq, if_pos hr]; omega
        · rw [if_neg hp, if_pos hq, if_neg hr, if_neg hp, if_pos hq, if_neg hr]; omega
      · by_cases hr : r
        · rw [if_neg hp, if_neg hq, if_pos hr, if_neg hp, if_neg hq, if_pos hr]; omega
        · rw [if_neg hp, if_neg hq, if_neg hr, if_neg hp, if_neg hq, if_neg hr]; omega
  rw [fb_sm_succ, Nat.add_assoc, Nat.add_assoc, ← Nat.add_assoc (if d = i - 1 then L i else 0), e]
  rfl
theorem c_drawLot {s : Nat} {L : Nat → Nat} (hp : PX x T M) (hc : CB x s L M) : Ok (fX11_drawLot T M x) (fun p => CB x (1 - s) (fun d => fb_sm (fun k => cfk k d * L k) 24) p.2 ∧ DJ x M p.2) := by
  obtain ⟨⟨hs, hr1, hr2⟩, hL⟩ := hc
  obtain ⟨j1, j2⟩ := hp.d hs
  obtain ⟨j3, j4⟩ := hp.d2 hs
  unfold fX11_drawLot
  rw [hp.k0, gdI, hr2, Option.bind_some, fill_eq j3 j4 (by omega), Option.bind_some, une2]
  have f0 : DJ x M (pA M (x + 67 - s) (fun k => if k < 24 then 0 else gI M (x + 67 - s) k)) := ⟨fun a k q1 q2 => mIAn (by omega), fun _ _ => rfl, fun _ _ _ => rfl⟩
  have hz : ∀ d, d < 24 → gI (pA M (x + 67 - s) (fun k => if k < 24 then 0 else gI M (x + 67 - s) k)) (x + 67 - s) d = nI (fb_sm (fun k => cfk k d * L k) 0) := fun d hd => by rw [mIA1, if_pos hd]; rfl
  have hL0 : ∀ d, d < 24 → gI (pA M (x + 67 - s) (fun k => if k < 24 then 0 else gI M (x + 67 - s) k)) (x + 66 + s) d = nI (L d) := fun d hd => by rw [mIAn (by omega)]; exact hL d hd
  generalize hM0 : pA M (x + 67 - s) (fun k => if k < 24 then 0 else gI M (x + 67 - s) k) = M0 at *
  refine Ok.bd (ok_forF (s := ((0 : Int32), M0)) 0 24 (fun i t => ∃ M', t = (nI i, M') ∧ (∀ d, d < 24 → gI M' (x + 67 - s) d = nI (fb_sm (fun k => cfk k d * L k) i)) ∧ (∀ d, d < 24 → gI M' (x + 66 + s) d = nI (L d)) ∧ (∀ a k, gR M' a k = gR M a k) ∧ DJ x M M') (fun M' => (∀ d, d < 24 → gI M' (x + 67 - s) d = nI (fb_sm (fun k => cfk k d * L k) 24)) ∧ (∀ a k, gR M' a k = gR M a k) ∧ DJ x M M') ⟨M0, rfl, hz, hL0, fun a k => by rw [← hM0]; rfl, f0⟩ (by omega) (by omega) (fun i t _ hi hI => ?_) (fun t hI => ?_)) (fun M1 h1 => ?_)
  · obtain ⟨M', rfl, hF, hL', hR', f⟩ := hI
    have hp' := f.px hp
    show Ok (bX11_drawLot_10 T x (nI i) M') _
    unfold bX11_drawLot_10
    rw [i_24, if_neg (by rw [c_le (by omega) (by omega)]; omega), max0 (by omega), nI_1, i_23, min_at (by omega) (by omega)]
    have e11 : gR M' x 11 = some (x + 66 + s) := (hR' _ _).trans hr1
    have e12 : gR M' x 12 = some (x + 67 - s) := (hR' _ _).trans hr2
    simp (disch := omega) only [gdI, gdT, Option.bind_some, lte, hp'.k0, e11, e12, mRI, j1, j2, j3, j4, gvI, cl_nI, mIIn, hL' i hi]
    have a1 := upd_at (v := L i) hF (k := i - 1) (by omega)
    rw [hF (i - 1) (by omega), nI_add]
    generalize hM1 : pI M' (x + 67 - s) (i - 1) (nI (fb_sm (fun k => cfk k (i - 1) * L k) i + L i)) = M1 at *
    have a2 := upd_at (v := L i) a1 (k := min (i + 1) 23) (by omega)
    rw [a1 (min (i + 1) 23) (by omega), nI_add]
    generalize hM2 : pI M1 (x + 67 - s) (min (i + 1) 23) (nI (fb_sm (fun k => cfk k (min (i + 1) 23) * L k) i + (if min (i + 1) 23 = i - 1 then L i else 0) + L i)) = M2 at *
    have a3 := upd_at (v := 8 * L i) a2 (k := i) hi
    rw [a2 i hi, i_8, c_mul, nI_add]
    have f1 : DJ x M M1 := f.trans (by rw [← hM1]; exact ⟨fun a k q1 q2 => mIIn (by omega), fun _ _ => rfl, fun _ _ _ => rfl⟩)
    have f2 : DJ x M M2 := f1.trans (by rw [← hM2]; exact ⟨fun a k q1 q2 => mIIn (by omega), fun _ _ => rfl, fun _ _ _ => rfl⟩)
    refine ok_i ⟨_, rfl, fun d hd => ?_, fun d hd => ?_, fun a k => ?_, f2.trans ⟨fun a k q1 q2 => mIIn (by omega), fun _ _ => rfl, fun _ _ _ => rfl⟩⟩
    · rw [a3 d hd, cf_at]
    · rw [mIIn (by omega), ← hM2, mIIn (by omega), ← hM1, mIIn (by omega)]; exact hL' d hd
    · rw [mRI, ← hM2, mRI, ← hM1, mRI]; exact hR' a k
  · obtain ⟨M', rfl, hF, hL', hR', f⟩ := hI
    show Ok (bX11_drawLot_10 T x (nI 24) M') _
    unfold bX11_drawLot_10
    rw [i_24, if_pos (by decide)]
    exact ok_i ⟨hF, hR', f⟩
  obtain ⟨hF, hR', f⟩ := h1
  have e11 : gR M1 x 11 = some (x + 66 + s) := (hR' _ _).trans hr1
  have e12 : gR M1 x 12 = some (x + 67 - s) := (hR' _ _).trans hr2
  simp only [e11, e12, Option.bind_some, lte]
  refine ok_i ⟨⟨⟨by omega, ?_, ?_⟩, fun d hd => ?_⟩, f.trans ⟨fun _ _ _ _ => rfl, fun _ _ => rfl, fun a k q => ?_⟩⟩
  · rw [mRRn (by omega), mRR1, show x + 66 + (1 - s) = x + 67 - s by omega]
  · rw [mRR1, show x + 67 - (1 - s) = x + 66 + s by omega]
  · rw [show x + 66 + (1 - s) = x + 67 - s by omega]; exact hF d hd
  · rw [mRRn (by omega), mRRn (by omega)]
def lts (A : Nat → Int32) (n l : Nat) : Nat := ssm (mpA A l (ptA A l / 24)) (lk (ptA A l % 24) n) 24
theorem lts_b {n l : Nat} (hn : n ≤ 6) : lts A n l ≤ 24000000 := ssm_b hn (Nat.le_refl _)
theorem c_passingLots {l n : Nat} (h : CV x A T M) (hl : l < nlA A) (hn : n ≤ 6) : Ok (fX11_passingLots T M x (nI l) (nI n)) (fun p => p.1 = nI (lts A n l) ∧ GF x M p.2 ∧ CV x A T p.2) := by
  have hp := h.px
  have h6 := h.lv.b3
  have hS := h.sv
  have hpt := hS.ptb (l := l) (by omega)
  obtain ⟨⟨s, hs, hr1, hr2⟩, hsw2, hsw3⟩ := h.sw
  obtain ⟨j1, j2⟩ := hp.d hs
  unfold fX11_passingLots
  rw [hp.k0, gdI, hr1, Option.bind_some, fill_eq j1 j2 (by omega), Option.bind_some, une2]
  have e1 : gR (pA M (x + 66 + s) (fun k => if k < 24 then 0 else gI M (x + 66 + s) k)) x 11 = some (x + 66 + s) := hr1
  have e2 : gR (pA M (x + 66 + s) (fun k => if k < 24 then 0 else gI M (x + 66 + s) k)) x 5 = some (x + 25) := hp.r0_5
  have e3 : gR (pA M (x + 66 + s) (fun k => if k < 24 then 0 else gI M (x + 66 + s) k)) (x + 25) 0 = some (x + 26) := hp.r25_0
  have e4 : gI (pA M (x + 66 + s) (fun k => if k < 24 then 0 else gI M (x + 66 + s) k)) (x + 26) l = nI (ptA A l) := by rw [mIAn (by omega), h.pt (by omega), hS.pt (by omega)]
  simp (disch := omega) only [gdI, gdT, Option.bind_some, lte, e1, e2, e3, e4, hp.k25, hp.k26, hp.l26, hp.r25_0, gvI, cl_nI, i_24, c_remQ, c_rem, j1, j2]
  have hd0 : ptA A l % 24 < 24 := Nat.mod_lt _ (by omega)
  have hc0 : CB x s (lk (ptA A l % 24) 0) (pI (pA M (x + 66 + s) (fun k => if k < 24 then 0 else gI M (x + 66 + s) k)) (x + 66 + s) (ptA A l % 24) 1) := by
    refine ⟨⟨hs, hr1, hr2⟩, fun d hd => ?_⟩
    show _ = nI (if d = ptA A l % 24 then 1 else 0)
    by_cases q : d = ptA A l % 24
    · rw [q, mII1, if_pos rfl]; rfl
    · rw [mIIk q, mIA1, if_pos hd, if_neg q]; rfl
  have f0 : DJ x M (pI (pA M (x + 66 + s) (fun k => if k < 24 then 0 else gI M (x + 66 + s) k)) (x + 66 + s) (ptA A l % 24) 1) := ⟨fun a k q1 q2 => by rw [mIIn (by omega), mIAn (by omega)], fun _ _ => rfl, fun _ _ _ => rfl⟩
  generalize pI (pA M (x + 66 + s) (fun k => if k < 24 then 0 else gI M (x + 66 + s) k)) (x + 66 + s) (ptA A l % 24) 1 = M0 at *
  refine Ok.bd (ok_forF (s := ((0 : Int32), M0)) 0 n (fun i t => ∃ M' s', t = (nI i, M') ∧ CB x s' (lk (ptA A l % 24) i) M' ∧ DJ x M M') (fun M' => ∃ s', CB x s' (lk (ptA A l % 24) n) M' ∧ DJ x M M') ⟨M0, s, rfl, hc0, f0⟩ (by omega) (by omega) (fun i t _ hi hI => ?_) (fun t hI => ?_)) (fun M1 h1 => ?_)
  · obtain ⟨M', s', rfl, hcb, f⟩ := hI
    have hp' := f.px hp
    show Ok (bX11_passingLots_28 T x (nI l) (nI n) (nI i) M') _
    unfold bX11_passingLots_28
    rw [if_neg (by rw [c_le (by omega) (by omega)]; omega), hp'.k0, gdI]
    refine Ok.bd (c_drawLot hp' hcb) (fun p hq => ?_)
    obtain ⟨p1, M2⟩ := p
    obtain ⟨g1, g2⟩ := hq
    rw [une2, lte, nI_1]
    exact ok_i ⟨M2, 1 - s', rfl, g1, f.trans g2⟩
  · obtain ⟨M', s', rfl, hcb, f⟩ := hI
    show Ok (bX11_passingLots_28 T x (nI l) (nI n) (nI n) M') _
    unfold bX11_passingLots_28
    rw [if_pos (by rw [c_le (by omega) (by omega)]; omega)]
    exact ok_i ⟨s', hcb, f⟩
  obtain ⟨s1, hcb, f1⟩ := h1
  have h1 : CV x A T M1 := h.hf f1.hf (f1.sw h.sw hcb)
  have hp1 := h1.px
  simp (disch := omega) only [gdI, gdT, Option.bind_some, lte, hp1.k0, hp1.k25, hp1.k26, hp1.l26, hp1.r0_0, hp1.r0_2, hp1.r0_3, hp1.r0_4, hp1.r0_5, hp1.r0_6, hp1.r0_7, hp1.r0_9, hp1.r0_10, hp1.r0_13, hp1.r25_0, gvI, cl_nI, h1.pt (l := l) (by omega), hS.pt (l := l) (by omega), c_div]
  refine Ok.bd (c_rowNow h1 hl (by omega)) (fun p hq => ?_)
  obtain ⟨p1, M2⟩ := p
  obtain ⟨rfl, f2, h2⟩ := hq
  have hp2 := h2.px
  obtain ⟨i1, i2⟩ := hp2.d hcb.1.1
  have hL2 : ∀ d, d < 24 → gI M2 (x + 66 + s1) d = nI (lk (ptA A l % 24) n d) := fun d hd => (f2.1 _ _ (by omega) (by omega) (by omega)).trans (hcb.2 d hd)
  have hr : gR M2 x 11 = some (x + 66 + s1) := (f2.r _ _).trans hcb.1.2.1
  rw [une2]
  have key : lp FU (fun t => bX11_passingLots_67 T M2 x (mpA A l (ptA A l / 24)) t.1 t.2) ((0 : Int32), (0 : Int32)) = some (nI (lts A n l)) := by
    refine lp_itG (fun i => (nI (ssm (mpA A l (ptA A l / 24)) (lk (ptA A l % 24) n) i), nI i)) 24 _ rfl (by omega) (fun i hi => ?_) ?_
    · show bX11_passingLots_67 T M2 x (mpA A l (ptA A l / 24)) (nI (ssm (mpA A l (ptA A l / 24)) (lk (ptA A l % 24) n) i)) (nI i) = _
      unfold bX11_passingLots_67
      rw [i_24, if_neg (by rw [c_le (by omega) (by omega)]; omega)]
      simp (disch := omega) only [gdI, gdT, Option.bind_some, lte, hp2.k0, hr, i1, i2, gvI, cl_nI, hL2 i hi, nI_1]
      rw [bit_at (by omega), show ssm (mpA A l (ptA A l / 24)) (lk (ptA A l % 24) n) (i + 1) = ssm (mpA A l (ptA A l / 24)) (lk (ptA A l % 24) n) i + (if bt (mpA A l (ptA A l / 24)) i = true then lk (ptA A l % 24) n i else 0) from rfl]
      cases bt (mpA A l (ptA A l / 24)) i
      · rw [if_neg (by decide), show b2 false = nI 0 from rfl, c_mul, nI_add, Nat.zero_mul]
      · rw [if_pos rfl, show b2 true = nI 1 from rfl, c_mul, nI_add, Nat.one_mul]
    · show bX11_passingLots_67 T M2 x (mpA A l (ptA A l / 24)) _ (nI 24) = _
      unfold bX11_passingLots_67
      rw [i_24, if_pos (by decide)]; rfl
  rw [key, Option.bind_some]
  exact ok_i ⟨rfl, f1.hf.gf.trans f2.gf, h2⟩
end
