def leT (T T' : Sh) : Prop := tp T ≤ tp T' ∧ sl T ≤ sl T'
def leZ (T : Sh) (Z : Nat × Nat × Nat × Nat) : Prop := tp T ≤ Z.2.2.1 ∧ sl T ≤ Z.2.2.2
theorem leT.rfl {T : Sh} : leT T T := ⟨Nat.le_refl _, Nat.le_refl _⟩
theorem leT.trans {T T' T2 : Sh} (h : leT T T') (h2 : leT T' T2) : leT T T2 := ⟨Nat.le_trans h.1 h2.1, Nat.le_trans h.2 h2.2⟩
theorem leT.new (T : Sh) (k n z : Nat) : leT T (nT T k n z) := ⟨Nat.le_succ _, Nat.le_add_right _ _⟩
theorem leT.Z {T T' : Sh} {Z : Nat × Nat × Nat × Nat} (h : leT T T') (h2 : leZ T' Z) : leZ T Z := ⟨Nat.le_trans h.1 h2.1, Nat.le_trans h.2 h2.2⟩
theorem leZ_new {T : Sh} {k n z : Nat} {Z : Nat × Nat × Nat × Nat} (h : leZ (nT T k n z) Z) : tp T + 1 ≤ Z.2.2.1 ∧ sl T + z ≤ Z.2.2.2 := ⟨h.1, h.2⟩
theorem lp_mono {σ ρ : Type} {b : σ → Option (σ ⊕ ρ)} {ts : σ → Sh} {tr : ρ → Sh} (hm : ∀ s o, b s = some o → leT (ts s) (Sum.elim ts tr o)) : ∀ {n : Nat} {s : σ} {r : ρ}, lp n b s = some r → leT (ts s) (tr r) := by
  intro n
  induction n with
  | zero => intro s r h; cases h
  | succ n ih =>
    intro s r h
    unfold lp at h
    cases hb : b s with
    | none => rw [hb] at h; cases h
    | some o =>
      rw [hb] at h
      cases o with
      | inl s2 => exact (hm s _ hb).trans (ih h)
      | inr r2 => cases h; exact hm s _ hb
theorem lp_G3 {σ ρ : Type} {P : σ → Prop} {E : ρ → Prop} {b : σ → Option (σ ⊕ ρ)} {ts : σ → Sh} {tr : ρ → Sh} {Z : Nat × Nat × Nat × Nat} (hm : ∀ s o, b s = some o → leT (ts s) (Sum.elim ts tr o)) (hb : ∀ s o, b s = some o → leZ (Sum.elim ts tr o) Z → lpE P E o → P s) : ∀ {n : Nat} {s : σ} {r : ρ}, lp n b s = some r → leZ (tr r) Z → E r → P s := by
  intro n
  induction n with
  | zero => intro s r h; cases h
  | succ n ih =>
    intro s r h hz hE
    unfold lp at h
    cases hbs : b s with
    | none => rw [hbs] at h; cases h
    | some o =>
      rw [hbs] at h
      cases o with
      | inl s2 => exact hb s _ hbs ((lp_mono hm h).Z hz) (ih h hz hE)
      | inr r2 => cases h; exact hb s _ hbs hz hE
theorem hdvX1 : ∀ j, j < 1 → (fts 0)[j]?.map dv = some (defaultValue (tyX1 j)) := by decide +kernel
theorem hdvX2 : ∀ j, j < 2 → (fts 1)[j]?.map dv = some (defaultValue (tyX2 j)) := by decide +kernel
theorem hdvX3 : ∀ j, j < 13 → (fts 2)[j]?.map dv = some (defaultValue (tyX3 j)) := by decide +kernel
theorem hdvX4 : ∀ j, j < 2 → (fts 3)[j]?.map dv = some (defaultValue (tyX4 j)) := by decide +kernel
theorem hdvX5 : ∀ j, j < 6 → (fts 4)[j]?.map dv = some (defaultValue (tyX5 j)) := by decide +kernel
theorem hdvX6 : ∀ j, j < 8 → (fts 5)[j]?.map dv = some (defaultValue (tyX6 j)) := by decide +kernel
theorem hdvX7 : ∀ j, j < 14 → (fts 6)[j]?.map dv = some (defaultValue (tyX7 j)) := by decide +kernel
theorem hdvX8 : ∀ j, j < 3 → (fts 7)[j]?.map dv = some (defaultValue (tyX8 j)) := by decide +kernel
theorem hdvX9 : ∀ j, j < 4 → (fts 8)[j]?.map dv = some (defaultValue (tyX9 j)) := by decide +kernel
theorem hdvX10 : ∀ j, j < 3 → (fts 9)[j]?.map dv = some (defaultValue (tyX10 j)) := by decide +kernel
theorem hdvX11 : ∀ j, j < 14 → (fts 10)[j]?.map dv = some (defaultValue (tyX11 j)) := by decide +kernel
theorem hdvX12 : ∀ j, j < 43 → (fts 11)[j]?.map dv = some (defaultValue (tyX12 j)) := by decide +kernel
/-- the memory behind System.arraycopy(a0, 0, a, 0, N) over ints -/
def cpM (M : Me) (a0 a N : Nat) : Me := (va_up M.1 a (va_cpy (M.1 a0) (M.1 a) 0 0 N), M.2)
theorem cel_cpM {cy : Nat → ClassId} {T : Sh} {M : Me} {a0 a N : Nat} (h : kd T a = 13) (q : Nat) : cel cy T (cpM M a0 a N) q = if q = a then .inl (cy 13, ln T a, .inl (va_cpy (gI M a0) (gI M a) 0 0 N)) else cel cy T M q := by
  by_cases hq : q = a
  · subst hq
    rw [if_pos rfl, cel_i h (by omega)]
    congr 4
    show va_up M.1 q _ q = _
    unfold va_up
    rw [if_pos rfl]
    rfl
  · rw [if_neg hq]
    refine cel_ne ?_ rfl rfl
    show va_up M.1 a _ q = _
    unfold va_up
    rw [if_neg hq]
theorem g_copyi {X : Fx} {B : Bx} {cc : ByteArray} {nL : Nat} {own : String} {d : Nat} {Z : Nat × Nat × Nat × Nat} {Q : State → Prop} {pc : Nat} {lo : List (Nat × Value)} {st : List Value} {T : Sh} {M : Me} {idx a0 a : Nat} {n : Int32} (C : Cx X B cc nL own d Z) (hd : decode cc pc = .ok (.invokestatic idx, 3)) (hw : Cond.methodLink own idx arraycopyName ∈ lw_gd) (hnat : Cond.native arraycopyName ∈ lw_gd) (hstat : Cond.static arraycopyName ∈ lw_gd) (hini : Cond.initialized "java/lang/System" ∈ lw_gd) (hd1 : 1 ≤ d) (hk0 : kd T a0 = 13) (hk1 : kd T a = 13) (h3 : ¬ n < 0) (h4 : n.toNatClampNeg ≤ ln T a0) (h5 : n.toNatClampNeg ≤ ln T a) (hst : (st.map fun v => v.category).sum = 0)
    (kk : G X B nL Z Q (pc + 3) lo st T (cpM M a0 a n.toNatClampNeg)) : G X B nL Z Q pc lo (.int n :: .int 0 :: .ref a :: .int 0 :: .ref a0 :: st) T M := by
  obtain ⟨p, l, e, R, s, m, args, below, meth, c⟩ := X
  intro H locs ls hl hP hS g1 g2 g3 g4
  have hfr := C.2.2.2.2.2.2.2.2.2.2.1
  have hlo := C.2.2.2.2.2.2.2.2.2.2.2.1
  dsimp only at hfr hlo
  have e0 := hP.at (a := a0) (by omega)
  have e1 := hP.at (a := a) (by omega)
  rw [cel_i hk0 (by omega)] at e0
  rw [cel_i hk1 (by omega)] at e1
  have hr := hP.2.2.1 a (by omega)
  have hc0 : H[a0]? = some (vp_cell (B.1 13) (ln T a0, .inl (gI M a0))) := hP.2.2.2 _ _ e0
  have hc1 : H[a]? = some (vp_cell (B.1 13) (ln T a, .inl (gI M a))) := hP.2.2.2 _ _ e1
  have hK := C.2.2.2.2.2.1
  have nn : n.toInt = (n.toNatClampNeg : Int) := by
    have hz0 : (0 : Int) ≤ n.toInt := by
      have := Int32.not_lt.mp h3
      simpa using Int32.le_iff_toInt_le.mp this
    show n.toInt = ((n.toInt.toNat : Nat) : Int)
    omega
  have z0 : (0 : Int32).toInt = 0 := rfl
  have z1 : (0 : Int32).toNatClampNeg = 0 := rfl
  intro T1 hT X
  obtain ⟨-, k0, hk0', cm0, hkk0⟩ := (hK.2 1 _ rfl).1 (ln T a0) (fun j => .int (gI M a0 j))
  obtain ⟨-, k1, hk1', cm1, hkk1⟩ := (hK.2 1 _ rfl).1 (ln T a) (fun j => .int (gI M a j))
  obtain ⟨vm', X', step⟩ := X.arraycopy C.1 C.2.2.2.1 (C.2.2.2.2.1 _ hw) (C.2.2.2.2.1 _ hnat) (C.2.2.2.2.1 _ hstat) (C.2.2.2.2.1 _ hini) (src := a0) (dst := a) (cs := vp_cell (B.1 13) (ln T a0, .inl (gI M a0))) (cd := vp_cell (B.1 13) (ln T a, .inl (gI M a))) (srcPos := 0) (destPos := 0) (n := n) (by rw [hT]; exact hc0) (by rw [hT]; exact hc1)
    (fun _ h => by cases h) (fun _ h => by cases h) (fun h => by cases h) (fun h => by cases h) hk0' hk1' hkk0 hkk1 rfl (by decide) (by decide) h3
    (by rw [z0, nn]; show ¬ _ > ((arrV (B.1 13) (ln T a0) (fun j => .int (gI M a0 j))).slots.size : Int); rw [arrV_size]; omega)
    (by rw [z0, nn]; show ¬ _ > ((arrV (B.1 13) (ln T a) (fun j => .int (gI M a j))).slots.size : Int); rw [arrV_size]; omega)
    (fun vm₁ _ i hi => by
      have ee : (vp_cell (B.1 13) (ln T a0, .inl (gI M a0))).slots.getD ((0 : Int32).toNatClampNeg + i) .null = .int (gI M a0 ((0 : Int32).toNatClampNeg + i)) := by
        show (arrV (B.1 13) (ln T a0) (fun j => .int (gI M a0 j))).slots.getD _ _ = _
        rw [Array.getD_eq_getD_getElem?, arrV_read _ _ (by rw [z1]; omega)]
        rfl
      exact ⟨by rw [ee]; rfl, by rw [ee]; exact trivial⟩)
    (g := F0 m pc ls (.int n :: .int 0 :: .ref a :: .int 0 :: .ref a0 :: st)) rfl (by have := C.2.2.1; dsimp only at this; rw [this]; exact hl.1) (rest := st) rfl (by have := C.2.1; dsimp only at this; rw [this]; exact hd) (show 1 ≤ R.frames by omega) (by rw [hst]; show 2 * 0 + 0 + (nativeFrameWords "java/lang/System" "arraycopy" 5 + 11) ≤ R.locals; have : nativeFrameWords "java/lang/System" "arraycopy" 5 + 11 ≤ 40 := Nat.le_of_ble_eq_true rfl; omega)
  have e3 : copied (vp_cell (B.1 13) (ln T a0, .inl (gI M a0))) (vp_cell (B.1 13) (ln T a, .inl (gI M a))) 0 0 n = vp_cell (B.1 13) (ln T a, .inl (va_cpy (gI M a0) (gI M a) (0 : Int32).toNatClampNeg (0 : Int32).toNatClampNeg n.toNatClampNeg)) := va_copied (fun z => .int z) (B.1 13) (B.1 13) (gI M a0) (gI M a) (by rw [z1]; omega)
  rw [z1] at e3
  rw [e3] at X' step
  have hl1 : a < H.size := (Array.getElem?_eq_some_iff.mp hc1).1
  have hheap : ((T1.setVm vm').setCell a (vp_cell (B.1 13) (ln T a, .inl (va_cpy (gI M a0) (gI M a) 0 0 n.toNatClampNeg)))).heap = H.setIfInBounds a (vp_cell (B.1 13) (ln T a, .inl (va_cpy (gI M a0) (gI M a) 0 0 n.toNatClampNeg))) := by rw [← hT]; rfl
  have oq : ∀ q : Nat, q ≠ a → (H.setIfInBounds a (vp_cell (B.1 13) (ln T a, .inl (va_cpy (gI M a0) (gI M a) 0 0 n.toNatClampNeg))))[q]? = H[q]? := fun q hq => by simp [Array.getElem?_setIfInBounds, Ne.symm hq]
  have hP1 := hP.set (by omega) (cel_cpM (a0 := a0) (N := n.toNatClampNeg) hk1) (show (H.setIfInBounds a (vp_cell (B.1 13) (ln T a, .inl (va_cpy (gI M a0) (gI M a) 0 0 n.toNatClampNeg))))[a]? = some (vp_cell _ _) by simp [Array.getElem?_setIfInBounds, hl1]) (by simp) oq
  obtain ⟨t, a1, b1⟩ := kk _ _ ls hl hP1 ⟨by simp; exact hS.1, fun q f1 f2 => by
      rw [oq q (fun ex => f2 (by rw [ex]; exact hr.1))]
      exact hS.2.1 q f1 f2, fun q hq => by
      rcases List.mem_append.mp hq with h | h
      · exact hS.2.2 q h
      · obtain ⟨z, -, hz⟩ := List.mem_map.mp h
        rw [← hz]
        exact hr.1⟩ g1 g2 g3 g4 _ hheap X'
  exact ⟨t, step t a1, b1⟩
