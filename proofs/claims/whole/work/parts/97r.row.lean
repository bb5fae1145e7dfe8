/-! the row of a lab as it is told -/
section
variable {x m n N lw i o q d a l p : Nat} {b : Nat → Nat} {u : Int32} {T T2 : Sh} {M M1 M2 : Me} {F G : Nat → Int32} {v : (Nat → Int32) → Int32} {cc rc : List Int32}
def plA (k : Nat) : Int32 := if k = 49 then -1 else 0
def lnF (F : Nat → Int32) : Nat → Int32 := fun k => if k = 0 then F 0 + 1 else F k
def lawF (F : Nat → Int32) (lw q : Nat) (rc : List Int32) : Nat → Int32 := fun k => if k = 5 + lw then 1 else if k = 8 + lw then nI q else if k = 11 + lw then nI rc.length else if k = 131 then nI (q + rc.length) else if 132 + q ≤ k ∧ k < 132 + q + rc.length then rc.getD (k - (132 + q)) 0 else F k
/-- a row that is being told, q codes so far -/
def FV (F : Nat → Int32) (q : Nat) : Prop := LV F ∧ F 131 = nI q ∧ (∀ lw, lw < 3 → F (5 + lw) = 1 → ∃ fr c, F (8 + lw) = nI fr ∧ F (11 + lw) = nI c ∧ fr + c ≤ q) ∧ (∀ k, 42 ≤ k → k < 131 → F k = plA k) ∧ ∀ j, q ≤ j → j < 900 → F (132 + j) = 0
theorem LW.cong (h : LW F lw) (hl : lw < 3) (e1 : ∀ k, 5 ≤ k → k < 14 → F k = G k) (e2 : ∀ k, 132 ≤ k → k < 1032 → F k = G k) : LW G lw := by
  unfold LW at h ⊢
  rw [← e1 (5 + lw) (by omega) (by omega), ← e1 (8 + lw) (by omega) (by omega), ← e1 (11 + lw) (by omega) (by omega), ← den_cong hl e1 e2, ← cod_cong hl e1 e2]
  exact h
theorem FV.cong (h : FV F q) (e1 : ∀ k, 5 ≤ k → k < 14 → F k = G k) (e2 : ∀ k, 42 ≤ k → k < 1032 → F k = G k) (h3 : G 3 = nI (nlA G) ∧ nlA G ≤ 6) (h4 : G 4 = nI (npA G) ∧ npA G ≤ 4) (h12 : F 1 = G 1 ∧ F 2 = G 2) (hs : ∀ q, q ≤ 4 → ∃ s, s ≤ 9 ∧ stA G q = nI s) : FV G q := by
  obtain ⟨⟨l1, l2, l3, l4, l5, l6⟩, h5, h6, h7, h8⟩ := h
  refine ⟨⟨h3, h4, ?_, ?_, hs, fun lw hl => (l6 lw hl).cong hl e1 (fun k a1 a2 => e2 k (by omega) a2)⟩, ?_, fun lw hl e => ?_, fun k a1 a2 => ?_, fun j a1 a2 => ?_⟩
  · have e : asA G = asA F := by unfold asA; rw [h12.1]
    rw [e, ← h12.1]; exact l3
  · have e : hoA G = hoA F := by unfold hoA; rw [h12.2]
    rw [e, ← h12.2]; exact l4
  · rw [← e2 131 (by omega) (by omega)]; exact h5
  · rw [← e1 (5 + lw) (by omega) (by omega)] at e
    rw [← e1 (8 + lw) (by omega) (by omega), ← e1 (11 + lw) (by omega) (by omega)]
    exact h6 lw hl e
  · rw [← e2 k a1 (by omega)]; exact h7 k a1 a2
  · rw [← e2 _ (by omega) (by omega)]; exact h8 j a1 a2
theorem lnF_FV (h : FV F q) : FV (lnF F) q := by
  have e : ∀ k, k ≠ 0 → lnF F k = F k := fun k hk => if_neg hk
  refine h.cong (fun k _ _ => (e k (by omega)).symm) (fun k _ _ => (e k (by omega)).symm) ?_ ?_ ⟨(e 1 (by omega)).symm, (e 2 (by omega)).symm⟩ (fun q hq => ?_)
  · unfold nlA; rw [e 3 (by omega)]; exact h.1.1
  · unfold npA; rw [e 4 (by omega)]; exact h.1.2.1
  · unfold stA; rw [e _ (by omega)]; exact h.1.st hq
theorem laneF_FV {v : Nat → Nat} (h : FV F q) (hl : l < 6) : FV (laneF F l v) q := by
  have e : ∀ k, k ≠ 3 → k ≠ 14 + l → k ≠ 20 + l → k ≠ 26 + l → k ≠ 32 + l → laneF F l v k = F k := fun k a1 a2 a3 a4 a5 => by unfold laneF; rw [if_neg a1, if_neg a2, if_neg a3, if_neg a4, if_neg a5]
  have e3 : laneF F l v 3 = nI (l + 1) := if_pos rfl
  refine h.cong (fun k _ _ => (e k (by omega) (by omega) (by omega) (by omega) (by omega)).symm) (fun k _ _ => (e k (by omega) (by omega) (by omega) (by omega) (by omega)).symm) ?_ ?_ ⟨(e 1 (by omega) (by omega) (by omega) (by omega) (by omega)).symm, (e 2 (by omega) (by omega) (by omega) (by omega) (by omega)).symm⟩ (fun q hq => ?_)
  · unfold nlA; rw [e3, cl_nI (by omega)]; exact ⟨rfl, by omega⟩
  · unfold npA; rw [e 4 (by omega) (by omega) (by omega) (by omega) (by omega)]; exact h.1.2.1
  · by_cases z : q = 0
    · exact ⟨0, by omega, by unfold stA; rw [if_pos z]; rfl⟩
    · have es : stA (laneF F l v) q = stA F q := by unfold stA; rw [if_neg z, if_neg z, e _ (by omega) (by omega) (by omega) (by omega) (by omega)]
      rw [es]; exact h.1.st hq
theorem patF_FV {v : Nat} (h : FV F q) (hp : p < 4) (hv : v ≤ 9) : FV (patF F p v) q := by
  have e : ∀ k, k ≠ 4 → k ≠ 38 + p → patF F p v k = F k := fun k a1 a2 => by unfold patF; rw [if_neg a1, if_neg a2]
  have e4 : patF F p v 4 = nI (p + 1) := if_pos rfl
  refine h.cong (fun k _ _ => (e k (by omega) (by omega)).symm) (fun k _ _ => (e k (by omega) (by omega)).symm) ?_ ?_ ⟨(e 1 (by omega) (by omega)).symm, (e 2 (by omega) (by omega)).symm⟩ (fun q hq => ?_)
  · unfold nlA; rw [e 3 (by omega) (by omega)]; exact h.1.1
  · unfold npA; rw [e4, cl_nI (by omega)]; exact ⟨rfl, by omega⟩
  · by_cases z : q = 0
    · exact ⟨0, by omega, by unfold stA; rw [if_pos z]; rfl⟩
    · by_cases y : q = p + 1
      · refine ⟨v, hv, ?_⟩
        unfold stA
        rw [if_neg z]
        unfold patF
        rw [if_neg (by omega), if_pos (by omega)]
      · have es : stA (patF F p v) q = stA F q := by unfold stA; rw [if_neg z, if_neg z, e _ (by omega) (by omega)]
        rw [es]; exact h.1.st hq
theorem seg_list {cd : Nat → Int32} {o : Nat} (h : SEG cd o rc) : (List.range rc.length).map (fun j => cd (o + j)) = rc := by
  have h2 := (seg_at rc o).mp h
  apply List.ext_getElem
  · simp
  · intro j h3 h4
    simp only [List.getElem_map, List.getElem_range]
    rw [h2 j h4]
    simp [List.getD, h4]
section
variable (hq : q + rc.length ≤ 900) (hl : lw < 3)
theorem lawF_o {k : Nat} (h1 : k ≠ 5 + lw) (h2 : k ≠ 8 + lw) (h3 : k ≠ 11 + lw) (h4 : k ≠ 131) (h5 : ¬ (132 + q ≤ k ∧ k < 132 + q + rc.length)) : lawF F lw q rc k = F k := by unfold lawF; rw [if_neg h1, if_neg h2, if_neg h3, if_neg h4, if_neg h5]
theorem lawF_5 : lawF F lw q rc (5 + lw) = 1 := if_pos rfl
theorem lawF_8 : lawF F lw q rc (8 + lw) = nI q := by unfold lawF; rw [if_neg (by omega), if_pos rfl]
theorem lawF_11 : lawF F lw q rc (11 + lw) = nI rc.length := by unfold lawF; rw [if_neg (by omega), if_neg (by omega), if_pos rfl]
theorem lawF_131 (hl : lw < 3) : lawF F lw q rc 131 = nI (q + rc.length) := by unfold lawF; rw [if_neg (by omega), if_neg (by omega), if_neg (by omega), if_pos rfl]
theorem lawF_c {j : Nat} (hl : lw < 3) (hj : j < rc.length) : lawF F lw q rc (132 + q + j) = rc.getD j 0 := by
  unfold lawF
  rw [if_neg (by omega), if_neg (by omega), if_neg (by omega), if_neg (by omega), if_pos (by omega), show 132 + q + j - (132 + q) = j by omega]
theorem lawF_cod (hl : lw < 3) (hq : q + rc.length ≤ 900) : cod (lawF F lw q rc) lw = rc := by
  rw [cod_eq lawF_8 lawF_11 hq]
  exact seg_list ((seg_at rc (132 + q)).mpr (fun j hj => lawF_c hl hj))
theorem lawF_den (hl : lw < 3) (hq : q + rc.length ≤ 900) (hx : ∀ w s, rr w rc s = some (v w :: s)) (w : Nat → Int32) : den (lawF F lw q rc) lw w = v w := by
  apply den_of
  rw [lawF_cod hl hq, hx]
theorem lawF_cod2 {lw2 : Nat} (h : FV F q) (hl : lw < 3) (hl2 : lw2 < 3) (hne : lw2 ≠ lw) (ht : F (5 + lw2) = 1) (hq : q + rc.length ≤ 900) : cod (lawF F lw q rc) lw2 = cod F lw2 := by
  obtain ⟨fr, c, e8, e11, hfc⟩ := h.2.2.1 lw2 hl2 ht
  rw [cod_eq e8 e11 (by omega), cod_eq (fr := fr) (n := c) ((lawF_o (by omega) (by omega) (by omega) (by omega) (by omega)).trans e8) ((lawF_o (by omega) (by omega) (by omega) (by omega) (by omega)).trans e11) (by omega)]
  apply List.map_congr_left
  intro j hj
  rw [List.mem_range] at hj
  exact lawF_o (by omega) (by omega) (by omega) (by omega) (by omega)
end
theorem lawF_FV {tr : Prop} {u : Int32} {o i2 i0 : Nat} (h : FV F q) (hl : lw < 3) (hq : q + rc.length ≤ 900) (hS : SXq N 22 lw (lw < 2) i0 o 0 i2 cc rc u v) : FV (lawF F lw q rc) (q + rc.length) := by
  obtain ⟨s1, s2, s3, s4, s5, s6, s7, s8, s9⟩ := hS
  have hq0 : q ≤ 900 := by omega
  have e : ∀ k, k < 5 ∨ (14 ≤ k ∧ k < 131) → lawF F lw q rc k = F k := fun k hk => lawF_o (by omega) (by omega) (by omega) (by omega) (by omega)
  refine ⟨⟨?_, ?_, ?_, ?_, fun z hz => ?_, fun lw2 hl2 => ?_⟩, lawF_131 hl, fun lw2 hl2 ht => ?_, fun k a1 a2 => ?_, fun j a1 a2 => ?_⟩
  · unfold nlA; rw [e 3 (by omega)]; exact h.1.1
  · unfold npA; rw [e 4 (by omega)]; exact h.1.2.1
  · unfold asA; rw [e 1 (by omega)]; exact h.1.2.2.1
  · unfold hoA; rw [e 2 (by omega)]; exact h.1.2.2.2.1
  · by_cases y : z = 0
    · exact ⟨0, by omega, by unfold stA; rw [if_pos y]; rfl⟩
    · have es : stA (lawF F lw q rc) z = stA F z := by unfold stA; rw [if_neg y, if_neg y, e _ (by omega)]
      rw [es]; exact h.1.st hz
  · by_cases y : lw2 = lw
    · subst y
      refine Or.inr ⟨lawF_5, ⟨q, rc.length, lawF_8, lawF_11, hq⟩, fun w => ?_, fun w w2 ew => ?_⟩
      · refine ⟨v w, by rw [lawF_cod hl hq, s5.1], fun z => s9 z w⟩
      · rw [lawF_den hl hq s5.1, lawF_den hl hq s5.1]
        refine s6 w w2 (fun j hj eb => ew j ?_)
        rcases s8 j hj eb with z | z
        · rw [b_0] at z; cases z
        · exact z
    · have e5 : lawF F lw q rc (5 + lw2) = F (5 + lw2) := lawF_o (by omega) (by omega) (by omega) (by omega) (by omega)
      rcases h.1.lw hl2 with z | ⟨z1, z2, z3, z4⟩
      · exact Or.inl (e5.trans z)
      · obtain ⟨fr, c, e8, e11, hfc⟩ := h.2.2.1 lw2 hl2 z1
        have ec := lawF_cod2 h hl hl2 y z1 hq
        have ed : ∀ w, den (lawF F lw q rc) lw2 w = den F lw2 w := fun w => by unfold den; rw [ec]
        refine Or.inr ⟨e5.trans z1, ⟨fr, c, (lawF_o (by omega) (by omega) (by omega) (by omega) (by omega)).trans e8, (lawF_o (by omega) (by omega) (by omega) (by omega) (by omega)).trans e11, by omega⟩, fun w => ?_, fun w w2 ew => ?_⟩
        · rw [ec]; exact z3 w
        · rw [ed, ed]; exact z4 w w2 ew
  · by_cases y : lw2 = lw
    · subst y
      exact ⟨q, rc.length, lawF_8, lawF_11, Nat.le_refl _⟩
    · rw [lawF_o (by omega) (by omega) (by omega) (by omega) (by omega)] at ht
      obtain ⟨fr, c, e8, e11, hfc⟩ := h.2.2.1 lw2 hl2 ht
      exact ⟨fr, c, (lawF_o (by omega) (by omega) (by omega) (by omega) (by omega)).trans e8, (lawF_o (by omega) (by omega) (by omega) (by omega) (by omega)).trans e11, by omega⟩
  · rw [e k (by omega)]; exact h.2.2.2.1 k a1 a2
  · rw [lawF_o (by omega) (by omega) (by omega) (by omega) (by omega)]
    exact h.2.2.2.2 j (by omega) a2
end
