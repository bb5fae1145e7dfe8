/-! words of the class -/
def cwm (i : Nat) : Nat := [12, 21, 4, 20, 22, 15, 0, 3, 19, 13, 14, 2, 6, 7, 10, 16, 5, 18, 17, 9, 11, 1, 8].getD i 0
def cw (i : Nat) : List Nat := kw.getD (cwm i) []
theorem cw_ch : ∀ i, i < 23 → ∀ j, j < (cw i).length → fJ0_charAt_5068e i (nI j) = some (nI ((cw i).getD j 0)) ∧ (cw i).getD j 0 < 128 := by decide +kernel
theorem cw_ln : ∀ i, i < 23 → fJ0_length_8abf5 i = some (nI (cw i).length) ∧ (cw i).length ≤ 7 := by decide +kernel
theorem wk_kw : ∀ k, k < 23 → wk (kw.getD k []) = k := by decide +kernel
theorem bs_len (b : Nat → Nat) (a l : Nat) : (bs b a (a + l)).length = l := by
  unfold bs
  rw [List.length_map, List.length_range]
  omega
theorem bs_at {b : Nat → Nat} {a l j : Nat} (h : j < l) : (bs b a (a + l)).getD j 0 = b (a + j) := by
  unfold bs
  rw [show a + l - a = l by omega]
  simp [List.getD, h]
theorem bs_eq {b : Nat → Nat} {a : Nat} {w : List Nat} : bs b a (a + w.length) = w ↔ ∀ j, j < w.length → b (a + j) = w.getD j 0 := by
  constructor
  · intro h j hj
    rw [← bs_at (b := b) (a := a) hj, h]
  · intro h
    apply List.ext_getElem
    · exact bs_len b a _
    · intro j h1 h2
      have e := h j h2
      rw [← bs_at (b := b) (a := a) h2] at e
      simp only [List.getD] at e
      rw [List.getElem?_eq_getElem h1, List.getElem?_eq_getElem h2] at e
      exact e
theorem wkF_no : ∀ (ws : List (List Nat)) (k : Nat) (L : List Nat), (∀ w, w ∈ ws → L ≠ w) → wkF ws k L = 24
  | [], _, _, _ => rfl
  | w :: ws, k, L, h => by
    unfold wkF
    rw [if_neg (h w (by simp))]
    exact wkF_no ws (k + 1) L (fun v hv => h v (by simp [hv]))
theorem wk_no {L : List Nat} (h : ∀ k, k < 23 → L ≠ kw.getD k []) : wk L = 24 := by
  refine wkF_no kw 0 L (fun w hw => ?_)
  obtain ⟨k, hk, e⟩ := List.getElem_of_mem hw
  have e23 : kw.length = 23 := by decide
  have := h k (by omega)
  simp only [List.getD, List.getElem?_eq_getElem hk, Option.getD_some] at this
  rw [← e]; exact this
def chn (L : List Nat) : List Nat → Int32
  | [] => 223
  | i :: is => if L = cw i then ck (cwm i) else chn L is
theorem cwm_b : ∀ i, i < 23 → cwm i < 23 := by decide +kernel
theorem chn_eq {L : List Nat} : ∀ (is : List Nat), (∀ i, i ∈ is → i < 23) → (∀ k, k < 23 → L = kw.getD k [] → ∃ i, i ∈ is ∧ cwm i = k) → chn L is = ck (wk L)
  | [], _, h2 => by
    rw [wk_no (fun k hk e => by obtain ⟨i, hi, _⟩ := h2 k hk e; cases hi)]
    rfl
  | i :: is, h1, h2 => by
    unfold chn
    by_cases e : L = cw i
    · rw [if_pos e, e]
      unfold cw
      rw [wk_kw _ (cwm_b i (h1 i (by simp)))]
    · rw [if_neg e]
      refine chn_eq is (fun j hj => h1 j (by simp [hj])) (fun k hk ek => ?_)
      obtain ⟨j, hj, ej⟩ := h2 k hk ek
      rw [List.mem_cons] at hj
      rcases hj with rfl | hj
      · exact absurd (by rw [ek, ← ej]; rfl) e
      · exact ⟨j, hj, ej⟩
theorem cw_by : ∀ k, k < 23 → ∀ l, l < 8 → (kw.getD k []).length = l → ∃ i, i ∈ (if l = 2 then [0, 1, 2] else if l = 3 then [3, 4, 5, 6] else if l = 4 then [7, 8, 9, 10, 11, 12, 13, 14] else if l = 5 then [15, 16, 17] else if l = 6 then [18, 19, 20, 21] else if l = 7 then [22] else []) ∧ cwm i = k := by decide +kernel
theorem kw_len : ∀ k, k < 23 → 2 ≤ (kw.getD k []).length ∧ (kw.getD k []).length ≤ 7 := by decide +kernel
theorem stp {c : Prop} [Decidable c] {A : Option Int32} {B : Int32} : (Option.bind (some (if c then (1 : Int32) else 0)) fun r => if r = 0 then A else some B) = if c then some B else A := by
  by_cases h : c
  · rw [if_pos h, if_pos h]; rfl
  · rw [if_neg h, if_neg h]; rfl
section
variable {x n : Nat} {b : Nat → Nat} {T : Sh} {M M1 M2 : Me}
theorem isS_b {c : Nat} (h : isS c = true) : 97 ≤ c ∧ c ≤ 122 := of_decide_eq_true h
theorem c_is {i a : Nat} (hp : PX x T M) (ht : TX x n b M) (hi : i < 23) (ha : a + (cw i).length ≤ n) (hl : ∀ j, j < (cw i).length → isS (b (a + j)) = true) : fX9_is T M i (x + 1) (nI a) = some (if bs b a (a + (cw i).length) = cw i then 1 else 0) := by
  obtain ⟨t1, t2, t3⟩ := ht
  obtain ⟨c1, c2⟩ := cw_ln i hi
  obtain ⟨J, h1, h2, h3⟩ := exJ (fun j => b (a + j) = (cw i).getD j 0) (cw i).length
  unfold fX9_is
  rw [lp_itG (s0 := (0 : Int32)) (fun j => nI j) J (if J = (cw i).length then .inr () else .inl ()) rfl (by omega)]
  · by_cases z : J = (cw i).length
    · rw [if_pos z, Option.bind_some, Sum.elim_inr, if_pos (bs_eq.mpr (fun j hj => h2 j (by omega)))]
    · rw [if_neg z, Option.bind_some, Sum.elim_inl, if_neg (fun e => h3 (by omega) (bs_eq.mp e J (by omega)))]
  · intro j hj
    show bX9_is_2 T M i (x + 1) (nI a) (nI j) = some (.inl (nI (j + 1)))
    obtain ⟨d1, d2⟩ := cw_ch i hi j (by omega)
    have hb := isS_b (hl j (by omega))
    unfold bX9_is_2
    rw [gd_pos (by omega), c1, Option.bind_some, ite_le (by omega) (by omega), if_neg (by omega), hp.k1, gdI, hp.l1, nI_add, ite_le (by omega) (by omega), if_neg (by omega), d1, Option.bind_some, gvI (by omega) (by omega), cl_nI (by omega), t3 _ (by omega), cb_n _ (by omega), ite_eq (by omega) (by omega), if_pos (h2 j hj).symm, lte, nI_1]
  · show bX9_is_2 T M i (x + 1) (nI a) (nI J) = some (.inr _)
    unfold bX9_is_2
    rw [gd_pos (by omega), c1, Option.bind_some, ite_le (by omega) (by omega)]
    by_cases z : J = (cw i).length
    · rw [if_pos (by omega), if_pos z]
    · obtain ⟨d1, d2⟩ := cw_ch i hi J (by omega)
      have hb := isS_b (hl J (by omega))
      rw [if_neg (by omega), if_neg z, hp.k1, gdI, hp.l1, nI_add, ite_le (by omega) (by omega), if_neg (by omega), d1, Option.bind_some, gvI (by omega) (by omega), cl_nI (by omega), t3 _ (by omega), cb_n _ (by omega), ite_eq (by omega) (by omega), if_neg (fun e => h3 (by omega) e.symm)]
theorem cw_l : ∀ i, i < 23 → (cw i).length = if i < 3 then 2 else if i < 7 then 3 else if i < 15 then 4 else if i < 18 then 5 else if i < 22 then 6 else 7 := by decide +kernel
theorem c_kow {a l : Nat} (hp : PX x T M) (ht : TX x n b M) (ha : a + l ≤ n) (hl : ∀ j, j < l → isS (b (a + j)) = true) : fX9_kindOfWord T M (x + 1) (nI a) (nI l) = some (ck (wk (bs b a (a + l)))) := by
  have hn := ht.1
  have hI : ∀ i, i < 23 → (cw i).length = l → fX9_is T M i (x + 1) (nI a) = some (if bs b a (a + l) = cw i then 1 else 0) := fun i hi e => by
    have := c_is hp ht hi (a := a) (by omega) (fun j hj => hl j (by omega))
    rw [this, e]
  have hL := bs_len b a l
  generalize bs b a (a + l) = L at *
  have hch : ∀ is, (∀ i, i ∈ is → i < 23) → (∀ k, k < 23 → (kw.getD k []).length = l → ∃ i, i ∈ is ∧ cwm i = k) → some (chn L is) = some (ck (wk L)) := fun is h1 h2 => by
    rw [chn_eq is h1 (fun k hk e => h2 k hk (by rw [← e]; exact hL))]
  unfold fX9_kindOfWord
  rw [i_2, ite_eq (by omega) (by omega), i_3, ite_eq (by omega) (by omega), i_4, ite_eq (by omega) (by omega), i_5, ite_eq (by omega) (by omega), i_6, ite_eq (by omega) (by omega), i_7, ite_eq (by omega) (by omega)]
  by_cases l2 : l = 2
  · subst l2
    rw [if_pos rfl, hI 0 (by omega) (by decide), hI 1 (by omega) (by decide), hI 2 (by omega) (by decide), stp, stp, stp]
    refine Eq.trans ?_ (hch [0, 1, 2] (by decide) (fun k hk e => cw_by k hk 2 (by omega) e))
    unfold chn
    split
    · rfl
    unfold chn
    split
    · rfl
    unfold chn
    split <;> rfl
  rw [if_neg l2]
  by_cases l3 : l = 3
  · subst l3
    rw [if_pos rfl, hI 3 (by omega) (by decide), hI 4 (by omega) (by decide), hI 5 (by omega) (by decide), hI 6 (by omega) (by decide), stp, stp, stp, stp]
    refine Eq.trans ?_ (hch [3, 4, 5, 6] (by decide) (fun k hk e => cw_by k hk 3 (by omega) e))
    unfold chn
    split
    · rfl
    unfold chn
    split
    · rfl
    unfold chn
    split
    · rfl
    unfold chn
    split <;> rfl
  rw [if_neg l3]
  by_cases l4 : l = 4
  · subst l4
    unfold fX9_kindOfFour
    rw [if_pos rfl, hI 7 (by omega) (by decide), hI 8 (by omega) (by decide), hI 9 (by omega) (by decide), hI 10 (by omega) (by decide), hI 11 (by omega) (by decide), hI 12 (by omega) (by decide), hI 13 (by omega) (by decide), hI 14 (by omega) (by decide), stp, stp, stp, stp, stp, stp, stp, stp]
    have e : ∀ o : Option Int32, (Option.bind o fun r15 => some r15) = o := fun o => by cases o <;> rfl
    rw [e]
    refine Eq.trans ?_ (hch [7, 8, 9, 10, 11, 12, 13, 14] (by decide) (fun k hk e => cw_by k hk 4 (by omega) e))
    unfold chn
    split
    · rfl
    unfold chn
    split
    · rfl
    unfold chn
    split
    · rfl
    unfold chn
    split
    · rfl
    unfold chn
    split
    · rfl
    unfold chn
    split
    · rfl
    unfold chn
    split
    · rfl
    unfold chn
    split <;> rfl
  rw [if_neg l4]
  by_cases l5 : l = 5
  · subst l5
    rw [if_pos rfl, hI 15 (by omega) (by decide), hI 16 (by omega) (by decide), hI 17 (by omega) (by decide), stp, stp, stp]
    refine Eq.trans ?_ (hch [15, 16, 17] (by decide) (fun k hk e => cw_by k hk 5 (by omega) e))
    unfold chn
    split
    · rfl
    unfold chn
    split
    · rfl
    unfold chn
    split <;> rfl
  rw [if_neg l5]
  by_cases l6 : l = 6
  · subst l6
    rw [if_pos rfl, hI 18 (by omega) (by decide), hI 19 (by omega) (by decide), hI 20 (by omega) (by decide), hI 21 (by omega) (by decide), stp, stp, stp, stp]
    refine Eq.trans ?_ (hch [18, 19, 20, 21] (by decide) (fun k hk e => cw_by k hk 6 (by omega) e))
    unfold chn
    split
    · rfl
    unfold chn
    split
    · rfl
    unfold chn
    split
    · rfl
    unfold chn
    split <;> rfl
  rw [if_neg l6]
  by_cases l7 : l = 7
  · subst l7
    rw [if_pos rfl, hI 22 (by omega) (by decide), stp]
    refine Eq.trans ?_ (hch [22] (by decide) (fun k hk e => cw_by k hk 7 (by omega) e))
    unfold chn
    split <;> rfl
  rw [if_neg l7]
  exact hch [] (by simp) (fun k hk e => by have := kw_len k hk; omega)
end
