theorem g_iald {X : Fx} {B : Bx} {cc : ByteArray} {nL : Nat} {own : String} {d : Nat} {Z : Nat × Nat × Nat × Nat} {Q : State → Prop} {pc : Nat} {lo : List (Nat × Value)} {st : List Value} {T : Sh} {M : Me} {a : Nat} {i : Int32} (C : Cx X B cc nL own d Z) (hd : decode cc pc = .ok (.iaload, 1)) (hk : kd T a = 13) (hi : vp_in i (ln T a))
    (kk : G X B nL Z Q (pc + 1) lo (.int (gI M a i.toNatClampNeg) :: st) T M) : G X B nL Z Q (pc) lo (.int i :: .ref a :: st) T M := by
  obtain ⟨p, l, e, R, s, m, args, below, meth, c⟩ := X
  intro H locs ls hl hP hS h1 h2 h3 h4
  have he := hP.at (a := a) (by omega)
  rw [cel_i hk (by omega)] at he
  exact va_iald C.1 C.2.1 C.2.2.2.2.2.1 hP.2.2.2 (a - B.2.2.1) 1 he rfl hi hd (kk H locs ls hl hP hS h1 h2 h3 h4)
theorem g_bald {X : Fx} {B : Bx} {cc : ByteArray} {nL : Nat} {own : String} {d : Nat} {Z : Nat × Nat × Nat × Nat} {Q : State → Prop} {pc : Nat} {lo : List (Nat × Value)} {st : List Value} {T : Sh} {M : Me} {a : Nat} {i : Int32} (C : Cx X B cc nL own d Z) (hd : decode cc pc = .ok (.baload, 1)) (hk : kd T a = 12) (hi : vp_in i (ln T a))
    (kk : G X B nL Z Q (pc + 1) lo (.int (gI M a i.toNatClampNeg) :: st) T M) : G X B nL Z Q (pc) lo (.int i :: .ref a :: st) T M := by
  obtain ⟨p, l, e, R, s, m, args, below, meth, c⟩ := X
  intro H locs ls hl hP hS h1 h2 h3 h4
  have he := hP.at (a := a) (by omega)
  rw [cel_i hk (by omega)] at he
  exact va_bald C.1 C.2.1 C.2.2.2.2.2.1 hP.2.2.2 (a - B.2.2.1) 0 he rfl hi hd (kk H locs ls hl hP hS h1 h2 h3 h4)
theorem g_zald {X : Fx} {B : Bx} {cc : ByteArray} {nL : Nat} {own : String} {d : Nat} {Z : Nat × Nat × Nat × Nat} {Q : State → Prop} {pc : Nat} {lo : List (Nat × Value)} {st : List Value} {T : Sh} {M : Me} {a : Nat} {i : Int32} (C : Cx X B cc nL own d Z) (hd : decode cc pc = .ok (.baload, 1)) (hk : kd T a = 15) (hi : vp_in i (ln T a))
    (kk : G X B nL Z Q (pc + 1) lo (.int (gI M a i.toNatClampNeg) :: st) T M) : G X B nL Z Q (pc) lo (.int i :: .ref a :: st) T M := by
  obtain ⟨p, l, e, R, s, m, args, below, meth, c⟩ := X
  intro H locs ls hl hP hS h1 h2 h3 h4
  have he := hP.at (a := a) (by omega)
  rw [cel_i hk (by omega)] at he
  exact va_zald C.1 C.2.1 C.2.2.2.2.2.1 hP.2.2.2 (a - B.2.2.1) 3 he rfl hi hd (kk H locs ls hl hP hS h1 h2 h3 h4)
theorem g_lald {X : Fx} {B : Bx} {cc : ByteArray} {nL : Nat} {own : String} {d : Nat} {Z : Nat × Nat × Nat × Nat} {Q : State → Prop} {pc : Nat} {lo : List (Nat × Value)} {st : List Value} {T : Sh} {M : Me} {a : Nat} {i : Int32} (C : Cx X B cc nL own d Z) (hd : decode cc pc = .ok (.laload, 1)) (hk : kd T a = 14) (hi : vp_in i (ln T a))
    (kk : G X B nL Z Q (pc + 1) lo (.long (gJ M a i.toNatClampNeg) :: st) T M) : G X B nL Z Q (pc) lo (.int i :: .ref a :: st) T M := by
  obtain ⟨p, l, e, R, s, m, args, below, meth, c⟩ := X
  intro H locs ls hl hP hS h1 h2 h3 h4
  have he := hP.at (a := a) (by omega)
  rw [cel_j hk] at he
  exact va_lald C.1 C.2.1 C.2.2.2.2.2.1 hP.2.2.2 (a - B.2.2.1) 2 he rfl hi hd (kk H locs ls hl hP hS h1 h2 h3 h4)
theorem g_aald16 {X : Fx} {B : Bx} {cc : ByteArray} {nL : Nat} {own : String} {d : Nat} {Z : Nat × Nat × Nat × Nat} {Q : State → Prop} {pc : Nat} {lo : List (Nat × Value)} {st : List Value} {T : Sh} {M : Me} {a : Nat} {i : Int32} (C : Cx X B cc nL own d Z) (hd : decode cc pc = .ok (.aaload, 1)) (hk : kd T a = 16) (hi : vp_in i (ln T a))
    (kk : G X B nL Z Q (pc + 1) lo (va_rf (gR M a i.toNatClampNeg) :: st) T M) : G X B nL Z Q (pc) lo (.int i :: .ref a :: st) T M := by
  obtain ⟨p, l, e, R, s, m, args, below, meth, c⟩ := X
  intro H locs ls hl hP hS h1 h2 h3 h4
  have he := hP.at (a := a) (by omega)
  rw [cel_r hk (by omega)] at he
  exact va_aldq C.1 C.2.1 C.2.2.2.2.2.1 hP.2.2.2 (a - B.2.2.1) 4 he rfl hi hd (kk H locs ls hl hP hS h1 h2 h3 h4)
theorem g_aald17 {X : Fx} {B : Bx} {cc : ByteArray} {nL : Nat} {own : String} {d : Nat} {Z : Nat × Nat × Nat × Nat} {Q : State → Prop} {pc : Nat} {lo : List (Nat × Value)} {st : List Value} {T : Sh} {M : Me} {a : Nat} {i : Int32} (C : Cx X B cc nL own d Z) (hd : decode cc pc = .ok (.aaload, 1)) (hk : kd T a = 17) (hi : vp_in i (ln T a))
    (kk : G X B nL Z Q (pc + 1) lo (va_rf (gR M a i.toNatClampNeg) :: st) T M) : G X B nL Z Q (pc) lo (.int i :: .ref a :: st) T M := by
  obtain ⟨p, l, e, R, s, m, args, below, meth, c⟩ := X
  intro H locs ls hl hP hS h1 h2 h3 h4
  have he := hP.at (a := a) (by omega)
  rw [cel_r hk (by omega)] at he
  exact va_aldq C.1 C.2.1 C.2.2.2.2.2.1 hP.2.2.2 (a - B.2.2.1) 5 he rfl hi hd (kk H locs ls hl hP hS h1 h2 h3 h4)
theorem g_aald18 {X : Fx} {B : Bx} {cc : ByteArray} {nL : Nat} {own : String} {d : Nat} {Z : Nat × Nat × Nat × Nat} {Q : State → Prop} {pc : Nat} {lo : List (Nat × Value)} {st : List Value} {T : Sh} {M : Me} {a : Nat} {i : Int32} (C : Cx X B cc nL own d Z) (hd : decode cc pc = .ok (.aaload, 1)) (hk : kd T a = 18) (hi : vp_in i (ln T a))
    (kk : G X B nL Z Q (pc + 1) lo (va_rf (gR M a i.toNatClampNeg) :: st) T M) : G X B nL Z Q (pc) lo (.int i :: .ref a :: st) T M := by
  obtain ⟨p, l, e, R, s, m, args, below, meth, c⟩ := X
  intro H locs ls hl hP hS h1 h2 h3 h4
  have he := hP.at (a := a) (by omega)
  rw [cel_r hk (by omega)] at he
  exact va_aldq C.1 C.2.1 C.2.2.2.2.2.1 hP.2.2.2 (a - B.2.2.1) 6 he rfl hi hd (kk H locs ls hl hP hS h1 h2 h3 h4)
theorem g_alen12 {X : Fx} {B : Bx} {cc : ByteArray} {nL : Nat} {own : String} {d : Nat} {Z : Nat × Nat × Nat × Nat} {Q : State → Prop} {pc : Nat} {lo : List (Nat × Value)} {st : List Value} {T : Sh} {M : Me} {a : Nat} (C : Cx X B cc nL own d Z) (hd : decode cc pc = .ok (.arraylength, 1)) (hk : kd T a = 12)
    (kk : G X B nL Z Q (pc + 1) lo (.int (nI (ln T a)) :: st) T M) : G X B nL Z Q (pc) lo (.ref a :: st) T M := by
  obtain ⟨p, l, e, R, s, m, args, below, meth, c⟩ := X
  intro H locs ls hl hP hS h1 h2 h3 h4
  have he := hP.at (a := a) (by omega)
  rw [cel_i hk (by omega)] at he
  exact va_alen C.1 C.2.1 C.2.2.2.2.2.1 hP.2.2.2 (a - B.2.2.1) 0 he rfl rfl hd (kk H locs ls hl hP hS h1 h2 h3 h4)
theorem g_alen13 {X : Fx} {B : Bx} {cc : ByteArray} {nL : Nat} {own : String} {d : Nat} {Z : Nat × Nat × Nat × Nat} {Q : State → Prop} {pc : Nat} {lo : List (Nat × Value)} {st : List Value} {T : Sh} {M : Me} {a : Nat} (C : Cx X B cc nL own d Z) (hd : decode cc pc = .ok (.arraylength, 1)) (hk : kd T a = 13)
    (kk : G X B nL Z Q (pc + 1) lo (.int (nI (ln T a)) :: st) T M) : G X B nL Z Q (pc) lo (.ref a :: st) T M := by
  obtain ⟨p, l, e, R, s, m, args, below, meth, c⟩ := X
  intro H locs ls hl hP hS h1 h2 h3 h4
  have he := hP.at (a := a) (by omega)
  rw [cel_i hk (by omega)] at he
  exact va_alen C.1 C.2.1 C.2.2.2.2.2.1 hP.2.2.2 (a - B.2.2.1) 1 he rfl rfl hd (kk H locs ls hl hP hS h1 h2 h3 h4)
theorem g_alen14 {X : Fx} {B : Bx} {cc : ByteArray} {nL : Nat} {own : String} {d : Nat} {Z : Nat × Nat × Nat × Nat} {Q : State → Prop} {pc : Nat} {lo : List (Nat × Value)} {st : List Value} {T : Sh} {M : Me} {a : Nat} (C : Cx X B cc nL own d Z) (hd : decode cc pc = .ok (.arraylength, 1)) (hk : kd T a = 14)
    (kk : G X B nL Z Q (pc + 1) lo (.int (nI (ln T a)) :: st) T M) : G X B nL Z Q (pc) lo (.ref a :: st) T M := by
  obtain ⟨p, l, e, R, s, m, args, below, meth, c⟩ := X
  intro H locs ls hl hP hS h1 h2 h3 h4
  have he := hP.at (a := a) (by omega)
  rw [cel_j hk] at he
  exact va_alen C.1 C.2.1 C.2.2.2.2.2.1 hP.2.2.2 (a - B.2.2.1) 2 he rfl rfl hd (kk H locs ls hl hP hS h1 h2 h3 h4)
theorem g_alen15 {X : Fx} {B : Bx} {cc : ByteArray} {nL : Nat} {own : String} {d : Nat} {Z : Nat × Nat × Nat × Nat} {Q : State → Prop} {pc : Nat} {lo : List (Nat × Value)} {st : List Value} {T : Sh} {M : Me} {a : Nat} (C : Cx X B cc nL own d Z) (hd : decode cc pc = .ok (.arraylength, 1)) (hk : kd T a = 15)
    (kk : G X B nL Z Q (pc + 1) lo (.int (nI (ln T a)) :: st) T M) : G X B nL Z Q (pc) lo (.ref a :: st) T M := by
  obtain ⟨p, l, e, R, s, m, args, below, meth, c⟩ := X
  intro H locs ls hl hP hS h1 h2 h3 h4
  have he := hP.at (a := a) (by omega)
  rw [cel_i hk (by omega)] at he
  exact va_alen C.1 C.2.1 C.2.2.2.2.2.1 hP.2.2.2 (a - B.2.2.1) 3 he rfl rfl hd (kk H locs ls hl hP hS h1 h2 h3 h4)
theorem g_alen16 {X : Fx} {B : Bx} {cc : ByteArray} {nL : Nat} {own : String} {d : Nat} {Z : Nat × Nat × Nat × Nat} {Q : State → Prop} {pc : Nat} {lo : List (Nat × Value)} {st : List Value} {T : Sh} {M : Me} {a : Nat} (C : Cx X B cc nL own d Z) (hd : decode cc pc = .ok (.arraylength, 1)) (hk : kd T a = 16)
    (kk : G X B nL Z Q (pc + 1) lo (.int (nI (ln T a)) :: st) T M) : G X B nL Z Q (pc) lo (.ref a :: st) T M := by
  obtain ⟨p, l, e, R, s, m, args, below, meth, c⟩ := X
  intro H locs ls hl hP hS h1 h2 h3 h4
  have he := hP.at (a := a) (by omega)
  rw [cel_r hk (by omega)] at he
  exact va_alen C.1 C.2.1 C.2.2.2.2.2.1 hP.2.2.2 (a - B.2.2.1) 4 he rfl rfl hd (kk H locs ls hl hP hS h1 h2 h3 h4)
theorem g_alen17 {X : Fx} {B : Bx} {cc : ByteArray} {nL : Nat} {own : String} {d : Nat} {Z : Nat × Nat × Nat × Nat} {Q : State → Prop} {pc : Nat} {lo : List (Nat × Value)} {st : List Value} {T : Sh} {M : Me} {a : Nat} (C : Cx X B cc nL own d Z) (hd : decode cc pc = .ok (.arraylength, 1)) (hk : kd T a = 17)
    (kk : G X B nL Z Q (pc + 1) lo (.int (nI (ln T a)) :: st) T M) : G X B nL Z Q (pc) lo (.ref a :: st) T M := by
  obtain ⟨p, l, e, R, s, m, args, below, meth, c⟩ := X
  intro H locs ls hl hP hS h1 h2 h3 h4
  have he := hP.at (a := a) (by omega)
  rw [cel_r hk (by omega)] at he
  exact va_alen C.1 C.2.1 C.2.2.2.2.2.1 hP.2.2.2 (a - B.2.2.1) 5 he rfl rfl hd (kk H locs ls hl hP hS h1 h2 h3 h4)
theorem g_alen18 {X : Fx} {B : Bx} {cc : ByteArray} {nL : Nat} {own : String} {d : Nat} {Z : Nat × Nat × Nat × Nat} {Q : State → Prop} {pc : Nat} {lo : List (Nat × Value)} {st : List Value} {T : Sh} {M : Me} {a : Nat} (C : Cx X B cc nL own d Z) (hd : decode cc pc = .ok (.arraylength, 1)) (hk : kd T a = 18)
    (kk : G X B nL Z Q (pc + 1) lo (.int (nI (ln T a)) :: st) T M) : G X B nL Z Q (pc) lo (.ref a :: st) T M := by
  obtain ⟨p, l, e, R, s, m, args, below, meth, c⟩ := X
  intro H locs ls hl hP hS h1 h2 h3 h4
  have he := hP.at (a := a) (by omega)
  rw [cel_r hk (by omega)] at he
  exact va_alen C.1 C.2.1 C.2.2.2.2.2.1 hP.2.2.2 (a - B.2.2.1) 6 he rfl rfl hd (kk H locs ls hl hP hS h1 h2 h3 h4)
theorem cel_ai {cy : Nat → ClassId} {T : Sh} {M : Me} {a k j : Nat} {x : Int32} (h : kd T a = k) (hk : k = 12 ∨ k = 13 ∨ k = 15) (q : Nat) : cel cy T (pI M a j x) q = if q = a then .inl (cy k, ln T a, .inl (upd (gI M a) j x)) else cel cy T M q := by
  by_cases hq : q = a
  · subst hq
    rw [if_pos rfl, cel_i h hk]
    congr 4
    funext i
    simp [gI, pI, up2, upd]
  · rw [if_neg hq]
    exact cel_ne (up2_ne hq) rfl rfl
theorem cel_aj {cy : Nat → ClassId} {T : Sh} {M : Me} {a j : Nat} {x : Int64} (h : kd T a = 14) (q : Nat) : cel cy T (pJ M a j x) q = if q = a then .inl (cy 14, ln T a, .inr (.inl (vp_updL (gJ M a) j x))) else cel cy T M q := by
  by_cases hq : q = a
  · subst hq
    rw [if_pos rfl, cel_j h]
    congr 5
    funext i
    simp [gJ, pJ, up2, vp_updL]
  · rw [if_neg hq]
    exact cel_ne rfl (up2_ne hq) rfl
theorem cel_ar {cy : Nat → ClassId} {T : Sh} {M : Me} {a k j : Nat} {x : Option Nat} (h : kd T a = k) (hk : 16 ≤ k) (q : Nat) : cel cy T (pR M a j x) q = if q = a then .inl (cy k, ln T a, .inr (.inr (.inr (.inr (va_up (gR M a) j x))))) else cel cy T M q := by
  by_cases hq : q = a
  · subst hq
    rw [if_pos rfl, cel_r h hk]
    congr 7
    funext i
    simp [gR, pR, up2, va_up]
  · rw [if_neg hq]
    exact cel_ne rfl rfl (up2_ne hq)
theorem g_iast {X : Fx} {B : Bx} {cc : ByteArray} {nL : Nat} {own : String} {d : Nat} {Z : Nat × Nat × Nat × Nat} {Q : State → Prop} {pc : Nat} {lo : List (Nat × Value)} {st : List Value} {T : Sh} {M : Me} {a : Nat} {i : Int32} {x : Int32} (C : Cx X B cc nL own d Z) (hd : decode cc pc = .ok (.iastore, 1)) (hk : kd T a = 13) (hi : vp_in i (ln T a))
    (kk : G X B nL Z Q (pc + 1) lo st T (pI M a i.toNatClampNeg x)) : G X B nL Z Q (pc) lo (.int x :: .int i :: .ref a :: st) T M := by
  obtain ⟨p, l, e, R, s, m, args, below, meth, c⟩ := X
  intro H locs ls hl hP hS h1 h2 h3 h4
  have hr := hP.2.2.1 a (by omega)
  have he := hP.at (a := a) (by omega)
  rw [cel_i hk (by omega)] at he
  refine W.iast C.1 C.2.1 (hP.2.2.2 _ _ he) ((C.2.2.2.2.2.1.2 1 _ rfl).1 (ln T a) (fun j => .int (gI M a j))) (fun q => by cases q) (by show ¬ (i < 0 ∨ (arrV _ _ _).slots.size ≤ _); rw [arrV_size]; exact hi) rfl rfl hd fun H1 ee z oq => ?_
  refine kk H1 _ ls hl (hP.set (by omega) (cel_ai hk (by omega)) ?_ z oq) (hS.put z oq hr.1) h1 h2 h3 h4
  show H1[a]? = some (vp_cell _ _)
  rw [ee]
  rw [vp_cell_i, vp_cell_i, arrV_store]
  congr 2
  funext q
  by_cases hq : q = i.toNatClampNeg
  · subst hq
    simp [updV, upd]
    try rfl
  · simp [updV, upd, hq]
theorem g_bast {X : Fx} {B : Bx} {cc : ByteArray} {nL : Nat} {own : String} {d : Nat} {Z : Nat × Nat × Nat × Nat} {Q : State → Prop} {pc : Nat} {lo : List (Nat × Value)} {st : List Value} {T : Sh} {M : Me} {a : Nat} {i : Int32} {x : Int32} (C : Cx X B cc nL own d Z) (hd : decode cc pc = .ok (.bastore, 1)) (hk : kd T a = 12) (hi : vp_in i (ln T a))
    (kk : G X B nL Z Q (pc + 1) lo st T (pI M a i.toNatClampNeg (vp_nar .byte x))) : G X B nL Z Q (pc) lo (.int x :: .int i :: .ref a :: st) T M := by
  obtain ⟨p, l, e, R, s, m, args, below, meth, c⟩ := X
  intro H locs ls hl hP hS h1 h2 h3 h4
  have hr := hP.2.2.1 a (by omega)
  have he := hP.at (a := a) (by omega)
  rw [cel_i hk (by omega)] at he
  refine W.bast C.1 C.2.1 (hP.2.2.2 _ _ he) ((C.2.2.2.2.2.1.2 0 _ rfl).1 (ln T a) (fun j => .int (gI M a j))) (fun q => by cases q) (by show ¬ (i < 0 ∨ (arrV _ _ _).slots.size ≤ _); rw [arrV_size]; exact hi) rfl rfl hd fun H1 ee z oq => ?_
  refine kk H1 _ ls hl (hP.set (by omega) (cel_ai hk (by omega)) ?_ z oq) (hS.put z oq hr.1) h1 h2 h3 h4
  show H1[a]? = some (vp_cell _ _)
  rw [ee]
  rw [vp_cell_i, vp_cell_i, arrV_store]
  congr 2
  funext q
  by_cases hq : q = i.toNatClampNeg
  · subst hq
    simp [updV, upd, vp_nar]
    try rfl
  · simp [updV, upd, vp_nar, hq]
theorem g_zast {X : Fx} {B : Bx} {cc : ByteArray} {nL : Nat} {own : String} {d : Nat} {Z : Nat × Nat × Nat × Nat} {Q : State → Prop} {pc : Nat} {lo : List (Nat × Value)} {st : List Value} {T : Sh} {M : Me} {a : Nat} {i : Int32} {x : Int32} (C : Cx X B cc nL own d Z) (hd : decode cc pc = .ok (.bastore, 1)) (hk : kd T a = 15) (hi : vp_in i (ln T a))
    (kk : G X B nL Z Q (pc + 1) lo st T (pI M a i.toNatClampNeg (vp_nar .boolean x))) : G X B nL Z Q (pc) lo (.int x :: .int i :: .ref a :: st) T M := by
  obtain ⟨p, l, e, R, s, m, args, below, meth, c⟩ := X
  intro H locs ls hl hP hS h1 h2 h3 h4
  have hr := hP.2.2.1 a (by omega)
  have he := hP.at (a := a) (by omega)
  rw [cel_i hk (by omega)] at he
  refine W.zast C.1 C.2.1 (hP.2.2.2 _ _ he) ((C.2.2.2.2.2.1.2 3 _ rfl).1 (ln T a) (fun j => .int (gI M a j))) (fun q => by cases q) (by show ¬ (i < 0 ∨ (arrV _ _ _).slots.size ≤ _); rw [arrV_size]; exact hi) rfl rfl hd fun H1 ee z oq => ?_
  refine kk H1 _ ls hl (hP.set (by omega) (cel_ai hk (by omega)) ?_ z oq) (hS.put z oq hr.1) h1 h2 h3 h4
  show H1[a]? = some (vp_cell _ _)
  rw [ee]
  rw [vp_cell_i, vp_cell_i, arrV_store]
  congr 2
  funext q
  by_cases hq : q = i.toNatClampNeg
  · subst hq
    simp [updV, upd, vp_nar]
    try rfl
  · simp [updV, upd, vp_nar, hq]
theorem g_last {X : Fx} {B : Bx} {cc : ByteArray} {nL : Nat} {own : String} {d : Nat} {Z : Nat × Nat × Nat × Nat} {Q : State → Prop} {pc : Nat} {lo : List (Nat × Value)} {st : List Value} {T : Sh} {M : Me} {a : Nat} {i : Int32} {x : Int64} (C : Cx X B cc nL own d Z) (hd : decode cc pc = .ok (.lastore, 1)) (hk : kd T a = 14) (hi : vp_in i (ln T a))
    (kk : G X B nL Z Q (pc + 1) lo st T (pJ M a i.toNatClampNeg x)) : G X B nL Z Q (pc) lo (.long x :: .int i :: .ref a :: st) T M := by
  obtain ⟨p, l, e, R, s, m, args, below, meth, c⟩ := X
  intro H locs ls hl hP hS h1 h2 h3 h4
  have hr := hP.2.2.1 a (by omega)
  have he := hP.at (a := a) (by omega)
  rw [cel_j hk] at he
  refine W.last C.1 C.2.1 (hP.2.2.2 _ _ he) ((C.2.2.2.2.2.1.2 2 _ rfl).1 (ln T a) (fun j => .long (gJ M a j))) (fun q => by cases q) (by show ¬ (i < 0 ∨ (arrV _ _ _).slots.size ≤ _); rw [arrV_size]; exact hi) rfl rfl hd fun H1 ee z oq => ?_
  refine kk H1 _ ls hl (hP.set (by omega) (cel_aj hk) ?_ z oq) (hS.put z oq hr.1) h1 h2 h3 h4
  show H1[a]? = some (vp_cell _ _)
  rw [ee]
  rw [vp_cell_l, vp_cell_l, arrV_store]
  congr 2
  funext q
  by_cases hq : q = i.toNatClampNeg
  · subst hq
    simp [updV, vp_updL]
    try rfl
  · simp [updV, vp_updL, hq]
theorem g_aast16 {X : Fx} {B : Bx} {cc : ByteArray} {nL : Nat} {own : String} {d : Nat} {Z : Nat × Nat × Nat × Nat} {Q : State → Prop} {pc : Nat} {lo : List (Nat × Value)} {st : List Value} {T : Sh} {M : Me} {a v ci : Nat} {i : Int32} {r : vw_C} (C : Cx X B cc nL own d Z) (hd : decode cc pc = .ok (.aastore, 1)) (hk : kd T a = 16) (hkv : kd T v = ci) (hci : ci < 12) (hc : kCl[ci]? = some r) (ht : (tyl B)[4]? = some (B.1 16, .object r.1)) (hi : vp_in i (ln T a))
    (kk : G X B nL Z Q (pc + 1) lo st T (pR M a i.toNatClampNeg (some v))) : G X B nL Z Q (pc) lo (.ref v :: .int i :: .ref a :: st) T M := by
  obtain ⟨p, l, e, R, s, m, args, below, meth, c⟩ := X
  intro H locs ls hl hP hS h1 h2 h3 h4
  have hr := hP.2.2.1 a (by omega)
  have ha := hP.at (a := a) (by omega)
  rw [cel_r hk (by omega)] at ha
  have hv := hP.at (a := v) (by omega)
  rw [cel_o hkv hci] at hv
  have hlt : i.toNatClampNeg < ln T a := Nat.not_le.mp fun q => hi (Or.inr q)
  have h0 : ¬ i < 0 := fun q => hi (Or.inl q)
  obtain ⟨r', hr', cellV, g1, g2, g3, -⟩ := hP.2.2.2 _ _ hv
  have hK := C.2.2.2.2.2.1
  have hcls := (hK.1 ci r hc).2
  obtain ⟨kA, comp, k1, k2, k3, -⟩ := (hK.2 4 _ ht).2
  have hcomp : comp = B.2.1.1 ci := Option.some.inj (k3.symm.trans hcls.1)
  subst hcomp
  obtain ⟨kC, hkC, -⟩ := hcls.2
  refine W.aast C.1 C.2.1 (hP.2.2.2 _ _ ha) (fun q h => by cases h) (fun h => by cases h) k1 k2 rfl hkC ⟨h0, by show _ < (arrV _ _ _).slots.size; rw [arrV_size]; exact hlt⟩ g1 (fun q h => by rw [g3] at h; cases h) (by rw [g2]; exact hkC) (by rw [g2]; exact va_assign hcls) rfl rfl hd fun H1 ee z oq => ?_
  refine kk H1 _ ls hl (hP.set (by omega) (cel_ar hk (by omega)) ?_ z oq) (hS.put z oq hr.1) h1 h2 h3 h4
  show H1[a]? = some (vp_cell _ _)
  rw [ee]
  rw [vp_cell_q, vp_cell_q, arrV_store]
  congr 2
  funext q
  by_cases hq : q = i.toNatClampNeg
  · subst hq
    simp [updV, va_up, va_rf]
  · simp [updV, va_up, hq]
theorem g_aast17 {X : Fx} {B : Bx} {cc : ByteArray} {nL : Nat} {own : String} {d : Nat} {Z : Nat × Nat × Nat × Nat} {Q : State → Prop} {pc : Nat} {lo : List (Nat × Value)} {st : List Value} {T : Sh} {M : Me} {a v ci : Nat} {i : Int32} {r : vw_C} (C : Cx X B cc nL own d Z) (hd : decode cc pc = .ok (.aastore, 1)) (hk : kd T a = 17) (hkv : kd T v = ci) (hci : ci < 12) (hc : kCl[ci]? = some r) (ht : (tyl B)[5]? = some (B.1 17, .object r.1)) (hi : vp_in i (ln T a))
    (kk : G X B nL Z Q (pc + 1) lo st T (pR M a i.toNatClampNeg (some v))) : G X B nL Z Q (pc) lo (.ref v :: .int i :: .ref a :: st) T M := by
  obtain ⟨p, l, e, R, s, m, args, below, meth, c⟩ := X
  intro H locs ls hl hP hS h1 h2 h3 h4
  have hr := hP.2.2.1 a (by omega)
  have ha := hP.at (a := a) (by omega)
  rw [cel_r hk (by omega)] at ha
  have hv := hP.at (a := v) (by omega)
  rw [cel_o hkv hci] at hv
  have hlt : i.toNatClampNeg < ln T a := Nat.not_le.mp fun q => hi (Or.inr q)
  have h0 : ¬ i < 0 := fun q => hi (Or.inl q)
  obtain ⟨r', hr', cellV, g1, g2, g3, -⟩ := hP.2.2.2 _ _ hv
  have hK := C.2.2.2.2.2.1
  have hcls := (hK.1 ci r hc).2
  obtain ⟨kA, comp, k1, k2, k3, -⟩ := (hK.2 5 _ ht).2
  have hcomp : comp = B.2.1.1 ci := Option.some.inj (k3.symm.trans hcls.1)
  subst hcomp
  obtain ⟨kC, hkC, -⟩ := hcls.2
  refine W.aast C.1 C.2.1 (hP.2.2.2 _ _ ha) (fun q h => by cases h) (fun h => by cases h) k1 k2 rfl hkC ⟨h0, by show _ < (arrV _ _ _).slots.size; rw [arrV_size]; exact hlt⟩ g1 (fun q h => by rw [g3] at h; cases h) (by rw [g2]; exact hkC) (by rw [g2]; exact va_assign hcls) rfl rfl hd fun H1 ee z oq => ?_
  refine kk H1 _ ls hl (hP.set (by omega) (cel_ar hk (by omega)) ?_ z oq) (hS.put z oq hr.1) h1 h2 h3 h4
  show H1[a]? = some (vp_cell _ _)
  rw [ee]
  rw [vp_cell_q, vp_cell_q, arrV_store]
  congr 2
  funext q
  by_cases hq : q = i.toNatClampNeg
  · subst hq
    simp [updV, va_up, va_rf]
  · simp [updV, va_up, hq]
theorem g_aast18 {X : Fx} {B : Bx} {cc : ByteArray} {nL : Nat} {own : String} {d : Nat} {Z : Nat × Nat × Nat × Nat} {Q : State → Prop} {pc : Nat} {lo : List (Nat × Value)} {st : List Value} {T : Sh} {M : Me} {a v ci : Nat} {i : Int32} {r : vw_C} (C : Cx X B cc nL own d Z) (hd : decode cc pc = .ok (.aastore, 1)) (hk : kd T a = 18) (hkv : kd T v = ci) (hci : ci < 12) (hc : kCl[ci]? = some r) (ht : (tyl B)[6]? = some (B.1 18, .object r.1)) (hi : vp_in i (ln T a))
    (kk : G X B nL Z Q (pc + 1) lo st T (pR M a i.toNatClampNeg (some v))) : G X B nL Z Q (pc) lo (.ref v :: .int i :: .ref a :: st) T M := by
  obtain ⟨p, l, e, R, s, m, args, below, meth, c⟩ := X
  intro H locs ls hl hP hS h1 h2 h3 h4
  have hr := hP.2.2.1 a (by omega)
  have ha := hP.at (a := a) (by omega)
  rw [cel_r hk (by omega)] at ha
  have hv := hP.at (a := v) (by omega)
  rw [cel_o hkv hci] at hv
  have hlt : i.toNatClampNeg < ln T a := Nat.not_le.mp fun q => hi (Or.inr q)
  have h0 : ¬ i < 0 := fun q => hi (Or.inl q)
  obtain ⟨r', hr', cellV, g1, g2, g3, -⟩ := hP.2.2.2 _ _ hv
  have hK := C.2.2.2.2.2.1
  have hcls := (hK.1 ci r hc).2
  obtain ⟨kA, comp, k1, k2, k3, -⟩ := (hK.2 6 _ ht).2
  have hcomp : comp = B.2.1.1 ci := Option.some.inj (k3.symm.trans hcls.1)
  subst hcomp
  obtain ⟨kC, hkC, -⟩ := hcls.2
  refine W.aast C.1 C.2.1 (hP.2.2.2 _ _ ha) (fun q h => by cases h) (fun h => by cases h) k1 k2 rfl hkC ⟨h0, by show _ < (arrV _ _ _).slots.size; rw [arrV_size]; exact hlt⟩ g1 (fun q h => by rw [g3] at h; cases h) (by rw [g2]; exact hkC) (by rw [g2]; exact va_assign hcls) rfl rfl hd fun H1 ee z oq => ?_
  refine kk H1 _ ls hl (hP.set (by omega) (cel_ar hk (by omega)) ?_ z oq) (hS.put z oq hr.1) h1 h2 h3 h4
  show H1[a]? = some (vp_cell _ _)
  rw [ee]
  rw [vp_cell_q, vp_cell_q, arrV_store]
  congr 2
  funext q
  by_cases hq : q = i.toNatClampNeg
  · subst hq
    simp [updV, va_up, va_rf]
  · simp [updV, va_up, hq]
