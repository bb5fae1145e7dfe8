theorem cel_new {cy : Nat → ClassId} {T : Sh} {M : Me} {k n z a : Nat} (h : a ≠ tp T) : cel cy (nT T k n z) (nM T M) a = cel cy T M a := by
  have e1 : kd (nT T k n z) a = kd T a := if_neg h
  have e2 : ln (nT T k n z) a = ln T a := if_neg h
  have f1 : (nM T M).1 a = M.1 a := if_neg h
  have f2 : (nM T M).2.1 a = M.2.1 a := if_neg h
  have f3 : (nM T M).2.2 a = M.2.2 a := if_neg h
  rw [← cel_ne (T := T) (M := M) (M' := nM T M) f1 f2 f3]
  unfold cel
  rw [e1, e2]
theorem kd_new (T : Sh) (k n z : Nat) : kd (nT T k n z) (tp T) = k := if_pos rfl
theorem ln_new (T : Sh) (k n z : Nat) : ln (nT T k n z) (tp T) = n := if_pos rfl
theorem tp_new (T : Sh) (k n z : Nat) : tp (nT T k n z) = tp T + 1 := rfl
theorem sl_new (T : Sh) (k n z : Nat) : sl (nT T k n z) = sl T + z := rfl
theorem gI_new (T : Sh) (M : Me) : gI (nM T M) (tp T) = fun _ => 0 := if_pos rfl
theorem gJ_new (T : Sh) (M : Me) : gJ (nM T M) (tp T) = fun _ => 0 := if_pos rfl
theorem gR_new (T : Sh) (M : Me) : gR (nM T M) (tp T) = fun _ => none := if_pos rfl
theorem PW.push {B : Bx} {T : Sh} {M : Me} {H H1 : Heap} {k n z : Nat} (h : PW B T M H) (z1 : H1.size = H.size + 1) (o1 : ∀ q, q < H.size → H1[q]? = H[q]?) (he : va_at B.2.1 kCl (tp T, cel B.1 (nT T k n z) (nM T M) (tp T)) H1) : PW B (nT T k n z) (nM T M) H1 := by
  obtain ⟨g1, g2, g3, g4⟩ := h
  refine ⟨by rw [z1, g1]; rfl, Nat.le_succ_of_le g2, fun a ha => ?_, fun i q hq => ?_⟩
  · by_cases hat : a = tp T
    · subst hat; exact ⟨g2, Nat.lt_succ_self _⟩
    · have e1 : kd (nT T k n z) a = kd T a := if_neg hat
      rw [e1] at ha
      exact ⟨(g3 a ha).1, Nat.lt_succ_of_lt (g3 a ha).2⟩
  · unfold wl at hq
    have hi : i < tp T + 1 - B.2.2.1 := by
      have := (List.getElem?_eq_some_iff.mp hq).1
      simpa [va_pl, tp_new] using this
    have h5 := pl_at (f := cel B.1 (nT T k n z) (nM T M)) (b := B.2.2.1) (n := tp (nT T k n z) - B.2.2.1) (a := B.2.2.1 + i) (by omega) (by rw [tp_new]; omega)
    rw [show B.2.2.1 + i - B.2.2.1 = i by omega, hq] at h5
    cases h5
    by_cases hat : B.2.2.1 + i = tp T
    · rw [hat]; exact he
    · rw [cel_new hat]
      have h6 := g4 i (B.2.2.1 + i, cel B.1 T M (B.2.2.1 + i)) (by
        have := pl_at (f := cel B.1 T M) (b := B.2.2.1) (n := tp T - B.2.2.1) (a := B.2.2.1 + i) (by omega) (by omega)
        rw [show B.2.2.1 + i - B.2.2.1 = i by omega] at this
        exact this)
      exact h6.kept (o1 _ (by rw [g1]; show B.2.2.1 + i < tp T; omega))
def dv : Nat → Value
  | 0 => .int 0
  | 1 => .long 0
  | _ => .null
theorem fv_new (T : Sh) (M : Me) (t k : Nat) : fv (nM T M) (tp T) t k = dv t := by
  unfold fv dv
  split <;> simp [gI_new, gJ_new, gR_new, va_rf]
theorem g_new {X : Fx} {B : Bx} {cc : ByteArray} {nL : Nat} {own : String} {d : Nat} {Z : Nat × Nat × Nat × Nat} {Q : State → Prop} {pc : Nat} {lo : List (Nat × Value)} {st : List Value} {T : Sh} {M : Me} {ci N idx : Nat} {Cn : String} {Tb : u_T} {ty : Nat → FieldType} (C : Cx X B cc nL own d Z) (hd : decode cc pc = .ok (.new idx, 3)) (K : Cl ci Cn Tb N ty) (hdv : ∀ j, j < N → (fts ci)[j]?.map dv = some (defaultValue (ty j))) (hw : Cond.classLink own idx Cn ∈ lw_gd) (hw2 : Cond.instantiable Cn N ∈ lw_gd) (hw3 : Cond.initialized Cn ∈ lw_gd) (hz1 : tp T + 1 ≤ Z.2.2.1) (hz2 : sl T + N ≤ Z.2.2.2)
    (kk : G X B nL Z Q (pc + 3) lo (.ref (tp T) :: st) (nT T ci 0 N) (nM T M)) : G X B nL Z Q (pc) lo st T M := by
  obtain ⟨p, l, e, R, s, m, args, below, meth, c⟩ := X
  intro H locs ls hl hP hS h1 h2 h3 h4
  have hKn := C.2.2.2.2.2.1.1 ci _ K.2.1
  have hcz := C.2.2.2.2.2.2.2.2.2.2.2.2
  dsimp only at hcz h1 h2 h3 h4
  refine W.newcK C.1 C.2.1 C.2.2.2.1 (C.2.2.2.2.1 _ hw) (C.2.2.2.2.1 _ hw2) (C.2.2.2.2.1 _ hw3) rfl hd (by rw [hcz.1]; omega) (by rw [hcz.2]; omega) hKn.2.1 (h := tp T) hP.1 fun H1 kC hkC e1 z1 o1 => ?_
  have hP1 : PW B (nT T ci 0 N) (nM T M) H1 := by
    refine hP.push (by rw [z1, hP.1]) (fun q hq => o1 q (by rw [← hP.1]; exact hq)) ?_
    rw [cel_o (kd_new T ci 0 N) K.1]
    refine ⟨_, K.2.1, (u_born ty C.2.2.2.2.1 K.2.2.1 hKn hkC e1 K.2.2.2.1).to (fun j hj => ?_)⟩
    have h5 := hdv j hj
    have h6 := fvs_get (nM T M) (tp T) (fts ci) 0 j
    cases ht : (fts ci)[j]? with
    | none => rw [ht] at h5; cases h5
    | some t =>
      rw [ht] at h5 h6
      simp only [Option.map_some, Option.some.injEq] at h5 h6
      rw [fv_new] at h6
      show defaultValue (ty j) = vp_V (fvs (nM T M) (tp T) (fts ci) 0) j
      simp [vp_V, h6, h5]
  have h7 := kk H1 locs ls hl hP1 ⟨by rw [z1, ← hP.1]; exact Nat.le_succ_of_le hS.1, fun q a1 a2 => (o1 q (by rw [← hP.1]; exact Nat.lt_of_lt_of_le a1 hS.1)).trans (hS.2.1 q a1 a2), hS.2.2⟩ (by rw [tp_new]; omega) (by rw [tp_new]; exact hz1) (by rw [sl_new]; omega) (by rw [sl_new]; exact hz2)
  rw [tp_new, sl_new, show tp T + 1 - Z.1 = tp T - Z.1 + 1 by omega, show sl T + N - Z.2.1 = sl T - Z.2.1 + N by omega] at h7
  exact h7
theorem g_newaB {X : Fx} {B : Bx} {cc : ByteArray} {nL : Nat} {own : String} {d : Nat} {Z : Nat × Nat × Nat × Nat} {Q : State → Prop} {pc : Nat} {lo : List (Nat × Value)} {st : List Value} {T : Sh} {M : Me} {n : Int32} {N : Nat} (C : Cx X B cc nL own d Z) (hd : decode cc pc = .ok (.newarray .byte, 2)) (hw : Cond.arrayClass .byte ∈ lw_gd) (hn : ¬ n < 0) (hN : n.toNatClampNeg = N) (hby : N * 8 ≤ 536870912) (hz1 : tp T + 1 ≤ Z.2.2.1) (hz2 : sl T + N ≤ Z.2.2.2)
    (kk : G X B nL Z Q (pc + 2) lo (.ref (tp T) :: st) (nT T 12 N N) (nM T M)) : G X B nL Z Q (pc) lo (.int n :: st) T M := by
  obtain ⟨p, l, e, R, s, m, args, below, meth, c⟩ := X
  intro H locs ls hl hP hS h1 h2 h3 h4
  have hcz := C.2.2.2.2.2.2.2.2.2.2.2.2
  dsimp only at hcz h1 h2 h3 h4
  refine va_newaK C.1 C.2.1 (atype := .byte) (C.2.2.2.2.1 _ hw) rfl hd rfl hn hN (Nat.le_trans (Nat.mul_le_mul_left N (by decide)) hby) (by rw [hcz.1]; omega) (by rw [hcz.2]; omega) (h := tp T) hP.1 fun H1 cA e1 z1 o1 hAr hNm => ?_
  have hcA : cA = B.1 12 := by
    have h5 := (C.2.2.2.2.2.1.2 0 _ rfl).2
    exact Option.some.inj (hNm.symm.trans h5)
  subst hcA
  have hP1 : PW B (nT T 12 N N) (nM T M) H1 := by
    refine hP.push (by rw [z1, hP.1]) (fun q hq => o1 q (by rw [← hP.1]; exact hq)) ?_
    rw [cel_i (kd_new T 12 _ _) (by omega), ln_new, gI_new]
    show H1[tp T]? = some (vp_cell _ _)
    rw [vp_cell_i]
    exact e1
  have h7 := kk H1 locs ls hl hP1 ⟨by rw [z1, ← hP.1]; exact Nat.le_succ_of_le hS.1, fun q a1 a2 => (o1 q (by rw [← hP.1]; exact Nat.lt_of_lt_of_le a1 hS.1)).trans (hS.2.1 q a1 a2), hS.2.2⟩ (by rw [tp_new]; omega) (by rw [tp_new]; exact hz1) (by rw [sl_new]; omega) (by rw [sl_new]; exact hz2)
  rw [tp_new, sl_new, show tp T + 1 - Z.1 = tp T - Z.1 + 1 by omega, show sl T + N - Z.2.1 = sl T - Z.2.1 + N by omega] at h7
  exact h7
theorem g_newaI {X : Fx} {B : Bx} {cc : ByteArray} {nL : Nat} {own : String} {d : Nat} {Z : Nat × Nat × Nat × Nat} {Q : State → Prop} {pc : Nat} {lo : List (Nat × Value)} {st : List Value} {T : Sh} {M : Me} {n : Int32} {N : Nat} (C : Cx X B cc nL own d Z) (hd : decode cc pc = .ok (.newarray .int, 2)) (hw : Cond.arrayClass .int ∈ lw_gd) (hn : ¬ n < 0) (hN : n.toNatClampNeg = N) (hby : N * 8 ≤ 536870912) (hz1 : tp T + 1 ≤ Z.2.2.1) (hz2 : sl T + N ≤ Z.2.2.2)
    (kk : G X B nL Z Q (pc + 2) lo (.ref (tp T) :: st) (nT T 13 N N) (nM T M)) : G X B nL Z Q (pc) lo (.int n :: st) T M := by
  obtain ⟨p, l, e, R, s, m, args, below, meth, c⟩ := X
  intro H locs ls hl hP hS h1 h2 h3 h4
  have hcz := C.2.2.2.2.2.2.2.2.2.2.2.2
  dsimp only at hcz h1 h2 h3 h4
  refine va_newaK C.1 C.2.1 (atype := .int) (C.2.2.2.2.1 _ hw) rfl hd rfl hn hN (Nat.le_trans (Nat.mul_le_mul_left N (by decide)) hby) (by rw [hcz.1]; omega) (by rw [hcz.2]; omega) (h := tp T) hP.1 fun H1 cA e1 z1 o1 hAr hNm => ?_
  have hcA : cA = B.1 13 := by
    have h5 := (C.2.2.2.2.2.1.2 1 _ rfl).2
    exact Option.some.inj (hNm.symm.trans h5)
  subst hcA
  have hP1 : PW B (nT T 13 N N) (nM T M) H1 := by
    refine hP.push (by rw [z1, hP.1]) (fun q hq => o1 q (by rw [← hP.1]; exact hq)) ?_
    rw [cel_i (kd_new T 13 _ _) (by omega), ln_new, gI_new]
    show H1[tp T]? = some (vp_cell _ _)
    rw [vp_cell_i]
    exact e1
  have h7 := kk H1 locs ls hl hP1 ⟨by rw [z1, ← hP.1]; exact Nat.le_succ_of_le hS.1, fun q a1 a2 => (o1 q (by rw [← hP.1]; exact Nat.lt_of_lt_of_le a1 hS.1)).trans (hS.2.1 q a1 a2), hS.2.2⟩ (by rw [tp_new]; omega) (by rw [tp_new]; exact hz1) (by rw [sl_new]; omega) (by rw [sl_new]; exact hz2)
  rw [tp_new, sl_new, show tp T + 1 - Z.1 = tp T - Z.1 + 1 by omega, show sl T + N - Z.2.1 = sl T - Z.2.1 + N by omega] at h7
  exact h7
theorem g_newaJ {X : Fx} {B : Bx} {cc : ByteArray} {nL : Nat} {own : String} {d : Nat} {Z : Nat × Nat × Nat × Nat} {Q : State → Prop} {pc : Nat} {lo : List (Nat × Value)} {st : List Value} {T : Sh} {M : Me} {n : Int32} {N : Nat} (C : Cx X B cc nL own d Z) (hd : decode cc pc = .ok (.newarray .long, 2)) (hw : Cond.arrayClass .long ∈ lw_gd) (hn : ¬ n < 0) (hN : n.toNatClampNeg = N) (hby : N * 8 ≤ 536870912) (hz1 : tp T + 1 ≤ Z.2.2.1) (hz2 : sl T + N ≤ Z.2.2.2)
    (kk : G X B nL Z Q (pc + 2) lo (.ref (tp T) :: st) (nT T 14 N N) (nM T M)) : G X B nL Z Q (pc) lo (.int n :: st) T M := by
  obtain ⟨p, l, e, R, s, m, args, below, meth, c⟩ := X
  intro H locs ls hl hP hS h1 h2 h3 h4
  have hcz := C.2.2.2.2.2.2.2.2.2.2.2.2
  dsimp only at hcz h1 h2 h3 h4
  refine va_newaK C.1 C.2.1 (atype := .long) (C.2.2.2.2.1 _ hw) rfl hd rfl hn hN (Nat.le_trans (Nat.mul_le_mul_left N (by decide)) hby) (by rw [hcz.1]; omega) (by rw [hcz.2]; omega) (h := tp T) hP.1 fun H1 cA e1 z1 o1 hAr hNm => ?_
  have hcA : cA = B.1 14 := by
    have h5 := (C.2.2.2.2.2.1.2 2 _ rfl).2
    exact Option.some.inj (hNm.symm.trans h5)
  subst hcA
  have hP1 : PW B (nT T 14 N N) (nM T M) H1 := by
    refine hP.push (by rw [z1, hP.1]) (fun q hq => o1 q (by rw [← hP.1]; exact hq)) ?_
    rw [cel_j (kd_new T 14 _ _), ln_new, gJ_new]
    show H1[tp T]? = some (vp_cell _ _)
    rw [vp_cell_l]
    exact e1
  have h7 := kk H1 locs ls hl hP1 ⟨by rw [z1, ← hP.1]; exact Nat.le_succ_of_le hS.1, fun q a1 a2 => (o1 q (by rw [← hP.1]; exact Nat.lt_of_lt_of_le a1 hS.1)).trans (hS.2.1 q a1 a2), hS.2.2⟩ (by rw [tp_new]; omega) (by rw [tp_new]; exact hz1) (by rw [sl_new]; omega) (by rw [sl_new]; exact hz2)
  rw [tp_new, sl_new, show tp T + 1 - Z.1 = tp T - Z.1 + 1 by omega, show sl T + N - Z.2.1 = sl T - Z.2.1 + N by omega] at h7
  exact h7
theorem g_newaZ {X : Fx} {B : Bx} {cc : ByteArray} {nL : Nat} {own : String} {d : Nat} {Z : Nat × Nat × Nat × Nat} {Q : State → Prop} {pc : Nat} {lo : List (Nat × Value)} {st : List Value} {T : Sh} {M : Me} {n : Int32} {N : Nat} (C : Cx X B cc nL own d Z) (hd : decode cc pc = .ok (.newarray .boolean, 2)) (hw : Cond.arrayClass .boolean ∈ lw_gd) (hn : ¬ n < 0) (hN : n.toNatClampNeg = N) (hby : N * 8 ≤ 536870912) (hz1 : tp T + 1 ≤ Z.2.2.1) (hz2 : sl T + N ≤ Z.2.2.2)
    (kk : G X B nL Z Q (pc + 2) lo (.ref (tp T) :: st) (nT T 15 N N) (nM T M)) : G X B nL Z Q (pc) lo (.int n :: st) T M := by
  obtain ⟨p, l, e, R, s, m, args, below, meth, c⟩ := X
  intro H locs ls hl hP hS h1 h2 h3 h4
  have hcz := C.2.2.2.2.2.2.2.2.2.2.2.2
  dsimp only at hcz h1 h2 h3 h4
  refine va_newaK C.1 C.2.1 (atype := .boolean) (C.2.2.2.2.1 _ hw) rfl hd rfl hn hN (Nat.le_trans (Nat.mul_le_mul_left N (by decide)) hby) (by rw [hcz.1]; omega) (by rw [hcz.2]; omega) (h := tp T) hP.1 fun H1 cA e1 z1 o1 hAr hNm => ?_
  have hcA : cA = B.1 15 := by
    have h5 := (C.2.2.2.2.2.1.2 3 _ rfl).2
    exact Option.some.inj (hNm.symm.trans h5)
  subst hcA
  have hP1 : PW B (nT T 15 N N) (nM T M) H1 := by
    refine hP.push (by rw [z1, hP.1]) (fun q hq => o1 q (by rw [← hP.1]; exact hq)) ?_
    rw [cel_i (kd_new T 15 _ _) (by omega), ln_new, gI_new]
    show H1[tp T]? = some (vp_cell _ _)
    rw [vp_cell_i]
    exact e1
  have h7 := kk H1 locs ls hl hP1 ⟨by rw [z1, ← hP.1]; exact Nat.le_succ_of_le hS.1, fun q a1 a2 => (o1 q (by rw [← hP.1]; exact Nat.lt_of_lt_of_le a1 hS.1)).trans (hS.2.1 q a1 a2), hS.2.2⟩ (by rw [tp_new]; omega) (by rw [tp_new]; exact hz1) (by rw [sl_new]; omega) (by rw [sl_new]; exact hz2)
  rw [tp_new, sl_new, show tp T + 1 - Z.1 = tp T - Z.1 + 1 by omega, show sl T + N - Z.2.1 = sl T - Z.2.1 + N by omega] at h7
  exact h7
theorem g_anew16 {X : Fx} {B : Bx} {cc : ByteArray} {nL : Nat} {own : String} {d : Nat} {Z : Nat × Nat × Nat × Nat} {Q : State → Prop} {pc : Nat} {lo : List (Nat × Value)} {st : List Value} {T : Sh} {M : Me} {n : Int32} {N idx : Nat} (C : Cx X B cc nL own d Z) (hd : decode cc pc = .ok (.anewarray idx, 3)) (hw : Cond.classLink own idx "EyeTrainer$Image" ∈ lw_gd) (hn : ¬ n < 0) (hN : n.toNatClampNeg = N) (hby : N * 4 ≤ 536870912) (hz1 : tp T + 1 ≤ Z.2.2.1) (hz2 : sl T + N ≤ Z.2.2.2)
    (kk : G X B nL Z Q (pc + 3) lo (.ref (tp T) :: st) (nT T 16 N N) (nM T M)) : G X B nL Z Q (pc) lo (.int n :: st) T M := by
  obtain ⟨p, l, e, R, s, m, args, below, meth, c⟩ := X
  intro H locs ls hl hP hS h1 h2 h3 h4
  have hcz := C.2.2.2.2.2.2.2.2.2.2.2.2
  dsimp only at hcz h1 h2 h3 h4
  subst hN
  refine W.anew C.1 C.2.1 C.2.2.2.1 (C.2.2.2.2.1 _ hw) (va_AO.use C.2.2.2.2.2.2.2.2.1.1) rfl hd rfl hn hby (by rw [hcz.1]; omega) (by rw [hcz.2]; omega) fun cA kA comp f1 f2 f3 f4 => ?_
  have hcA : cA = B.1 16 := by
    obtain ⟨_, _, _, _, _, h5⟩ := (C.2.2.2.2.2.1.2 4 _ rfl).2
    exact Option.some.inj (f1.symm.trans h5)
  subst hcA
  generalize hH1 : H.push ({ cls := B.1 16, slots := Array.replicate n.toNatClampNeg .null, vm := .none } : Cell) = H1
  have z1 : H1.size = H.size + 1 := by rw [← hH1, Array.size_push]
  have e1 : H1[H.size]? = some (arrV (B.1 16) n.toNatClampNeg (fun _ => .null)) := by rw [← hH1, Array.getElem?_push_size, ← arrV_new]
  have o1 : ∀ q : Nat, q < H.size → H1[q]? = H[q]? := fun q hq => by rw [← hH1, Array.getElem?_push, if_neg (Nat.ne_of_lt hq)]
  have hP1 : PW B (nT T 16 n.toNatClampNeg n.toNatClampNeg) (nM T M) H1 := by
    refine hP.push z1 o1 ?_
    rw [cel_r (kd_new T 16 _ _) (by omega), ln_new, gR_new]
    show H1[tp T]? = some (vp_cell _ _)
    rw [vp_cell_q, ← hP.1]
    exact e1
  have h7 := kk H1 locs ls hl hP1 ⟨by rw [z1]; exact Nat.le_succ_of_le hS.1, fun q a1 a2 => (o1 q (Nat.lt_of_lt_of_le a1 hS.1)).trans (hS.2.1 q a1 a2), hS.2.2⟩ (by rw [tp_new]; omega) (by rw [tp_new]; exact hz1) (by rw [sl_new]; omega) (by rw [sl_new]; exact hz2)
  rw [tp_new, sl_new, show tp T + 1 - Z.1 = tp T - Z.1 + 1 by omega, show sl T + n.toNatClampNeg - Z.2.1 = sl T - Z.2.1 + n.toNatClampNeg by omega] at h7
  show W p l e R s m args below meth c H1 locs (tp T - Z.1 + 1) (sl T - Z.2.1 + n.toNatClampNeg) Q (F0 m (pc + 3) ls (.ref H.size :: st))
  rw [hP.1]
  exact h7
theorem g_anew17 {X : Fx} {B : Bx} {cc : ByteArray} {nL : Nat} {own : String} {d : Nat} {Z : Nat × Nat × Nat × Nat} {Q : State → Prop} {pc : Nat} {lo : List (Nat × Value)} {st : List Value} {T : Sh} {M : Me} {n : Int32} {N idx : Nat} (C : Cx X B cc nL own d Z) (hd : decode cc pc = .ok (.anewarray idx, 3)) (hw : Cond.classLink own idx "EyeTrainer$Stand" ∈ lw_gd) (hn : ¬ n < 0) (hN : n.toNatClampNeg = N) (hby : N * 4 ≤ 536870912) (hz1 : tp T + 1 ≤ Z.2.2.1) (hz2 : sl T + N ≤ Z.2.2.2)
    (kk : G X B nL Z Q (pc + 3) lo (.ref (tp T) :: st) (nT T 17 N N) (nM T M)) : G X B nL Z Q (pc) lo (.int n :: st) T M := by
  obtain ⟨p, l, e, R, s, m, args, below, meth, c⟩ := X
  intro H locs ls hl hP hS h1 h2 h3 h4
  have hcz := C.2.2.2.2.2.2.2.2.2.2.2.2
  dsimp only at hcz h1 h2 h3 h4
  subst hN
  refine W.anew C.1 C.2.1 C.2.2.2.1 (C.2.2.2.2.1 _ hw) (va_AO.use C.2.2.2.2.2.2.2.2.1.2.1) rfl hd rfl hn hby (by rw [hcz.1]; omega) (by rw [hcz.2]; omega) fun cA kA comp f1 f2 f3 f4 => ?_
  have hcA : cA = B.1 17 := by
    obtain ⟨_, _, _, _, _, h5⟩ := (C.2.2.2.2.2.1.2 5 _ rfl).2
    exact Option.some.inj (f1.symm.trans h5)
  subst hcA
  generalize hH1 : H.push ({ cls := B.1 17, slots := Array.replicate n.toNatClampNeg .null, vm := .none } : Cell) = H1
  have z1 : H1.size = H.size + 1 := by rw [← hH1, Array.size_push]
  have e1 : H1[H.size]? = some (arrV (B.1 17) n.toNatClampNeg (fun _ => .null)) := by rw [← hH1, Array.getElem?_push_size, ← arrV_new]
  have o1 : ∀ q : Nat, q < H.size → H1[q]? = H[q]? := fun q hq => by rw [← hH1, Array.getElem?_push, if_neg (Nat.ne_of_lt hq)]
  have hP1 : PW B (nT T 17 n.toNatClampNeg n.toNatClampNeg) (nM T M) H1 := by
    refine hP.push z1 o1 ?_
    rw [cel_r (kd_new T 17 _ _) (by omega), ln_new, gR_new]
    show H1[tp T]? = some (vp_cell _ _)
    rw [vp_cell_q, ← hP.1]
    exact e1
  have h7 := kk H1 locs ls hl hP1 ⟨by rw [z1]; exact Nat.le_succ_of_le hS.1, fun q a1 a2 => (o1 q (Nat.lt_of_lt_of_le a1 hS.1)).trans (hS.2.1 q a1 a2), hS.2.2⟩ (by rw [tp_new]; omega) (by rw [tp_new]; exact hz1) (by rw [sl_new]; omega) (by rw [sl_new]; exact hz2)
  rw [tp_new, sl_new, show tp T + 1 - Z.1 = tp T - Z.1 + 1 by omega, show sl T + n.toNatClampNeg - Z.2.1 = sl T - Z.2.1 + n.toNatClampNeg by omega] at h7
  show W p l e R s m args below meth c H1 locs (tp T - Z.1 + 1) (sl T - Z.2.1 + n.toNatClampNeg) Q (F0 m (pc + 3) ls (.ref H.size :: st))
  rw [hP.1]
  exact h7
theorem g_anew18 {X : Fx} {B : Bx} {cc : ByteArray} {nL : Nat} {own : String} {d : Nat} {Z : Nat × Nat × Nat × Nat} {Q : State → Prop} {pc : Nat} {lo : List (Nat × Value)} {st : List Value} {T : Sh} {M : Me} {n : Int32} {N idx : Nat} (C : Cx X B cc nL own d Z) (hd : decode cc pc = .ok (.anewarray idx, 3)) (hw : Cond.classLink own idx "EyeTrainer$Tray" ∈ lw_gd) (hn : ¬ n < 0) (hN : n.toNatClampNeg = N) (hby : N * 4 ≤ 536870912) (hz1 : tp T + 1 ≤ Z.2.2.1) (hz2 : sl T + N ≤ Z.2.2.2)
    (kk : G X B nL Z Q (pc + 3) lo (.ref (tp T) :: st) (nT T 18 N N) (nM T M)) : G X B nL Z Q (pc) lo (.int n :: st) T M := by
  obtain ⟨p, l, e, R, s, m, args, below, meth, c⟩ := X
  intro H locs ls hl hP hS h1 h2 h3 h4
  have hcz := C.2.2.2.2.2.2.2.2.2.2.2.2
  dsimp only at hcz h1 h2 h3 h4
  subst hN
  refine W.anew C.1 C.2.1 C.2.2.2.1 (C.2.2.2.2.1 _ hw) (va_AO.use C.2.2.2.2.2.2.2.2.1.2.2) rfl hd rfl hn hby (by rw [hcz.1]; omega) (by rw [hcz.2]; omega) fun cA kA comp f1 f2 f3 f4 => ?_
  have hcA : cA = B.1 18 := by
    obtain ⟨_, _, _, _, _, h5⟩ := (C.2.2.2.2.2.1.2 6 _ rfl).2
    exact Option.some.inj (f1.symm.trans h5)
  subst hcA
  generalize hH1 : H.push ({ cls := B.1 18, slots := Array.replicate n.toNatClampNeg .null, vm := .none } : Cell) = H1
  have z1 : H1.size = H.size + 1 := by rw [← hH1, Array.size_push]
  have e1 : H1[H.size]? = some (arrV (B.1 18) n.toNatClampNeg (fun _ => .null)) := by rw [← hH1, Array.getElem?_push_size, ← arrV_new]
  have o1 : ∀ q : Nat, q < H.size → H1[q]? = H[q]? := fun q hq => by rw [← hH1, Array.getElem?_push, if_neg (Nat.ne_of_lt hq)]
  have hP1 : PW B (nT T 18 n.toNatClampNeg n.toNatClampNeg) (nM T M) H1 := by
    refine hP.push z1 o1 ?_
    rw [cel_r (kd_new T 18 _ _) (by omega), ln_new, gR_new]
    show H1[tp T]? = some (vp_cell _ _)
    rw [vp_cell_q, ← hP.1]
    exact e1
  have h7 := kk H1 locs ls hl hP1 ⟨by rw [z1]; exact Nat.le_succ_of_le hS.1, fun q a1 a2 => (o1 q (Nat.lt_of_lt_of_le a1 hS.1)).trans (hS.2.1 q a1 a2), hS.2.2⟩ (by rw [tp_new]; omega) (by rw [tp_new]; exact hz1) (by rw [sl_new]; omega) (by rw [sl_new]; exact hz2)
  rw [tp_new, sl_new, show tp T + 1 - Z.1 = tp T - Z.1 + 1 by omega, show sl T + n.toNatClampNeg - Z.2.1 = sl T - Z.2.1 + n.toNatClampNeg by omega] at h7
  show W p l e R s m args below meth c H1 locs (tp T - Z.1 + 1) (sl T - Z.2.1 + n.toNatClampNeg) Q (F0 m (pc + 3) ls (.ref H.size :: st))
  rw [hP.1]
  exact h7
theorem WS.blind {B : Bx} {T : Sh} {M : Me} {av : List Value} : FrameBlind (va_Pc av (WS B T M)) := by
  intro a U g mk h
  obtain ⟨h0, h1, h2, h3, h4, h5⟩ := h
  refine ⟨h0, h1, va_K.moved (u := U) (U := U.calling g mk a) (Vm.Alike.refl U.vm) h2, fun q hq => vk_R.same rfl (h3 q hq), ?_, ?_⟩
  · exact StS.moved (u := U) (U := U.calling g mk a) (Vm.Alike.refl U.vm) h4
  · exact ⟨va_AO.moved (u := U) (U := U.calling g mk a) (Vm.Alike.refl U.vm) h5.1, va_AO.moved (u := U) (U := U.calling g mk a) (Vm.Alike.refl U.vm) h5.2.1, va_AO.moved (u := U) (U := U.calling g mk a) (Vm.Alike.refl U.vm) h5.2.2⟩
theorem Cx.WS {X : Fx} {B : Bx} {cc : ByteArray} {nL : Nat} {own : String} {d : Nat} {Z : Nat × Nat × Nat × Nat} {T : Sh} {M : Me} {H : Heap} {locs : List Loc} (C : Cx X B cc nL own d Z) (hP : PW B T M H) (hS : va_S (fun q => B.2.2.1 ≤ q) X.2.2.2.2.1.heap H locs) {U : State} (hU : U.heap = H) (hW : X.2.2.2.2.1.WarmedH U.vm) : WS B T M U := by
  obtain ⟨-, -, -, -, -, hK, hR, hT, hA, -⟩ := C
  subst hU
  refine ⟨hP, va_K.moved hW.alike hK, fun q hq => vk_R.warm hW (hR q hq), ?_, va_AO.moved hW.alike hA.1, va_AO.moved hW.alike hA.2.1, va_AO.moved hW.alike hA.2.2⟩
  exact StS.moved hW.alike (StS.kept hT (fun a h1 h2 => hS.2.1 a h1 h2))
theorem g_run {p : Program} {l : Launch} {e : Env} {R : Room} {s : State} {m : MethodId} {args : Array Value} {below : List Frame} {meth : Method} {c : Code} {H : Heap} {locs : List Loc} {cells slots mc ms : Nat} {Q : State → Prop} {pc : Nat} {ls : Array Slot} {st0 rest : List Value} {B : Bx} {v : Option Value} {T' : Sh} {M' : Me} {a : Array Value}
    (hr : va_Run p l e R s m args below meth c H locs cells slots mc ms (F0 m pc ls st0) rest (Qc B v T' M' a) (fun q => B.2.2.1 ≤ q)) (hS : va_S (fun q => B.2.2.1 ≤ q) s.heap H locs)
    (kk : ∀ (H1 : Heap) (locs1 : List Loc), PW B T' M' H1 → va_S (fun q => B.2.2.1 ≤ q) s.heap H1 locs1 → W p l e R s m args below meth c H1 locs1 (cells + mc) (slots + ms) Q (F0 m (pc + 3) ls (v.toList ++ rest))) : W p l e R s m args below meth c H locs cells slots Q (F0 m pc ls st0) := by
  intro T hT X
  obtain ⟨v', st₀, t, T2, L, h0, X', hL, e1, e2, ⟨hv, hws, hz, hk⟩, stp⟩ := hr T hT X
  cases hv
  rw [h0] at hz hk
  obtain ⟨t2, a1, b1⟩ := kk T2.heap (locs ++ L) (by rw [e1]; exact hws.1)
    ⟨Nat.le_trans hS.1 (by rw [e1]; exact hz), fun q h1 h2 => by rw [e1, hk q (Nat.lt_of_lt_of_le h1 hS.1) h2]; exact hS.2.1 q h1 h2, fun q hq => by
      rcases List.mem_append.mp hq with h | h
      · exact hS.2.2 q h
      · exact hL q h⟩ T2 rfl X'
  exact ⟨t2, stp t2 a1, b1⟩
/-- what the tables say of a method -/
def Mw (y : MethodName) (cb : ByteArray) (nb : Nat) (rt : Option FieldType) (n : Nat) : Prop := Cond.code y cb nb rt ∈ lw_gd ∧ Cond.initialized y.cls ∈ lw_gd ∧ nb ≤ 21 ∧ (y.cls ≠ "java/lang/invoke/MethodHandle" ∧ y.cls ≠ "java/lang/invoke/VarHandle") ∧ (parseMethodDescriptor y.desc).map (fun d => d.parameters.length) = some n ∧ plainFor y = true
theorem callB_g {X : Fx} {B : Bx} {cc : ByteArray} {nL : Nat} {own : String} {d : Nat} {Z : Nat × Nat × Nat × Nat} {idx d' n mc ms nb : Nat} {y : MethodName} {cb : ByteArray} {rt : Option FieldType} (C : Cx X B cc nL own d Z) (w : Mw y cb nb rt n) (hm : Cond.methodLink own idx y ∈ lw_gd) (hdd : d' + 1 ≤ d) : CallB X.2.2.2.1 X.2.2.2.2.1 X.2.2.2.2.2.2.1 own idx y cb nb rt (.code y cb nb rt :: lw_gd) (rmD d' mc ms) mc ms n := by
  obtain ⟨w1, w2, w3, w4, w5, -⟩ := w
  obtain ⟨-, -, -, -, hts, -, -, -, -, -, hf, hl, -⟩ := C
  refine ⟨rfl, rfl, Nat.le_trans hdd hf, ?_, fun w hw a' U hW => ?_, List.mem_cons_self, hts _ w1, hts _ w2, w4, fun sig h => ?_, hts _ hm⟩
  · show 8 + (nb + 11) + 40 * d' ≤ _
    omega
  · have hw' : w ∈ lw_gd := by
      rcases List.mem_cons.mp hw with rfl | h
      · exact w1
      · exact h
    exact word_at hW (gd_good hw') (hts w hw')
  · rw [h] at w5
    exact (Option.some.inj w5).symm
theorem g_callV {X : Fx} {B : Bx} {cc : ByteArray} {nL : Nat} {own : String} {d : Nat} {Z : Nat × Nat × Nat × Nat} {Q : State → Prop} {pc : Nat} {lo : List (Nat × Value)} {st : List Value} {T : Sh} {M : Me} {idx d' nb n : Nat} {y : MethodName} {cb : ByteArray} {rt : Option FieldType} {As : List Value} {v : Option Value} {T' : Sh} {M' : Me} {b ci N : Nat} {Tb : u_T} (C : Cx X B cc nL own d Z) (hd : decode cc pc = .ok (.invokevirtual idx, 3)) (w : Mw y cb nb rt n) (hk : kd T b = ci) (hc : kCl[ci]? = some (y.cls, Tb, N)) (hc12 : ci < 12) (hi : Cond.instanceMethod y ∈ lw_gd) (hs : Cond.selects y.cls y y ∈ lw_gd) (hm : Cond.methodLink own idx y ∈ lw_gd) (hdd : d' + 1 ≤ d) (hn : As.length = n) (hst : (st.map fun v => v.category).sum ≤ 8) (hM : Kt X.2.1 B y cb nb rt d' (.ref b :: As) T M v T' M') (hz1 : tp T' ≤ Z.2.2.1) (hz2 : sl T' ≤ Z.2.2.2)
    (kk : G X B nL Z Q (pc + 3) lo (v.toList ++ st) T' M') : G X B nL Z Q (pc) lo (As.reverse ++ .ref b :: st) T M := by
  have cb := callB_g (mc := tp T' - tp T) (ms := sl T' - sl T) C w hm hdd
  obtain ⟨p, l, e, R, s, m, args, below, meth, c⟩ := X
  intro H locs ls hl hP hS h1 h2 h3 h4
  obtain ⟨hm1, hm2, hM⟩ := hM
  have hcz := C.2.2.2.2.2.2.2.2.2.2.2.2
  dsimp only at hcz h1 h2 h3 h4
  refine g_run (va_runV ⟨C.1, C.2.1, C.2.2.1, C.2.2.2.1, C.2.2.2.2.1⟩ hM ⟨cb, C.2.2.2.2.1 _ hi, C.2.2.2.2.1 _ hs⟩ ⟨WS.blind, va_recv C.2.2.2.2.2.1 hP.2.2.2 hc (by have he := hP.at (a := b) (by omega); rw [cel_o hk hc12] at he; exact he), fun U hU hW => ⟨rfl, C.WS hP hS hU hW⟩⟩ rfl hn hl.1 rfl (lv_room hst) hd ⟨by rw [hcz.1]; omega, by rw [hcz.2]; omega⟩) hS (fun H1 locs1 hP1 hS1 => ?_)
  have h7 := kk H1 locs1 ls hl hP1 hS1 (Nat.le_trans h1 hm1) hz1 (Nat.le_trans h3 hm2) hz2
  rw [show tp T - Z.1 + (tp T' - tp T) = tp T' - Z.1 by omega, show sl T - Z.2.1 + (sl T' - sl T) = sl T' - Z.2.1 by omega]
  exact h7
theorem g_callS {X : Fx} {B : Bx} {cc : ByteArray} {nL : Nat} {own : String} {d : Nat} {Z : Nat × Nat × Nat × Nat} {Q : State → Prop} {pc : Nat} {lo : List (Nat × Value)} {st : List Value} {T : Sh} {M : Me} {idx d' nb n : Nat} {y : MethodName} {cb : ByteArray} {rt : Option FieldType} {As : List Value} {v : Option Value} {T' : Sh} {M' : Me}  (C : Cx X B cc nL own d Z) (hd : decode cc pc = .ok (.invokestatic idx, 3)) (w : Mw y cb nb rt n) (hs : Cond.static y ∈ lw_gd) (hm : Cond.methodLink own idx y ∈ lw_gd) (hdd : d' + 1 ≤ d) (hn : As.length = n) (hst : (st.map fun v => v.category).sum ≤ 8) (hM : Kt X.2.1 B y cb nb rt d' As T M v T' M') (hz1 : tp T' ≤ Z.2.2.1) (hz2 : sl T' ≤ Z.2.2.2)
    (kk : G X B nL Z Q (pc + 3) lo (v.toList ++ st) T' M') : G X B nL Z Q (pc) lo (As.reverse ++ st) T M := by
  have cb := callB_g (mc := tp T' - tp T) (ms := sl T' - sl T) C w hm hdd
  obtain ⟨p, l, e, R, s, m, args, below, meth, c⟩ := X
  intro H locs ls hl hP hS h1 h2 h3 h4
  obtain ⟨hm1, hm2, hM⟩ := hM
  have hcz := C.2.2.2.2.2.2.2.2.2.2.2.2
  dsimp only at hcz h1 h2 h3 h4
  refine g_run (va_runS ⟨C.1, C.2.1, C.2.2.1, C.2.2.2.1, C.2.2.2.2.1⟩ hM ⟨cb, C.2.2.2.2.1 _ hs⟩ ⟨WS.blind, fun U hU hW => ⟨rfl, C.WS hP hS hU hW⟩⟩ rfl hn hl.1 rfl (lv_room hst) hd ⟨by rw [hcz.1]; omega, by rw [hcz.2]; omega⟩) hS (fun H1 locs1 hP1 hS1 => ?_)
  have h7 := kk H1 locs1 ls hl hP1 hS1 (Nat.le_trans h1 hm1) hz1 (Nat.le_trans h3 hm2) hz2
  rw [show tp T - Z.1 + (tp T' - tp T) = tp T' - Z.1 by omega, show sl T - Z.2.1 + (sl T' - sl T) = sl T' - Z.2.1 by omega]
  exact h7
theorem g_callI {X : Fx} {B : Bx} {cc : ByteArray} {nL : Nat} {own : String} {d : Nat} {Z : Nat × Nat × Nat × Nat} {Q : State → Prop} {pc : Nat} {lo : List (Nat × Value)} {st : List Value} {T : Sh} {M : Me} {idx d' nb n : Nat} {y : MethodName} {cb : ByteArray} {rt : Option FieldType} {As : List Value} {v : Option Value} {T' : Sh} {M' : Me} {b : Nat} (C : Cx X B cc nL own d Z) (hd : decode cc pc = .ok (.invokespecial idx, 3)) (w : Mw y cb nb rt n) (hi : Cond.instanceMethod y ∈ lw_gd) (hnm : y.name = "<init>") (hrt : rt = none) (hm : Cond.methodLink own idx y ∈ lw_gd) (hdd : d' + 1 ≤ d) (hn : As.length = n) (hst : (st.map fun v => v.category).sum ≤ 8) (hM : Kt X.2.1 B y cb nb rt d' (.ref b :: As) T M v T' M') (hz1 : tp T' ≤ Z.2.2.1) (hz2 : sl T' ≤ Z.2.2.2)
    (kk : G X B nL Z Q (pc + 3) lo (v.toList ++ st) T' M') : G X B nL Z Q (pc) lo (As.reverse ++ .ref b :: st) T M := by
  have cb := callB_g (mc := tp T' - tp T) (ms := sl T' - sl T) C w hm hdd
  obtain ⟨p, l, e, R, s, m, args, below, meth, c⟩ := X
  intro H locs ls hl hP hS h1 h2 h3 h4
  obtain ⟨hm1, hm2, hM⟩ := hM
  have hcz := C.2.2.2.2.2.2.2.2.2.2.2.2
  dsimp only at hcz h1 h2 h3 h4
  refine g_run (va_runI ⟨C.1, C.2.1, C.2.2.1, C.2.2.2.1, C.2.2.2.2.1⟩ hM ⟨by subst hrt; exact cb, hnm, C.2.2.2.2.1 _ hi⟩ ⟨WS.blind, fun U hU hW => ⟨rfl, C.WS hP hS hU hW⟩⟩ rfl hn hl.1 rfl (lv_room hst) hd ⟨by rw [hcz.1]; omega, by rw [hcz.2]; omega⟩) hS (fun H1 locs1 hP1 hS1 => ?_)
  have h7 := kk H1 locs1 ls hl hP1 hS1 (Nat.le_trans h1 hm1) hz1 (Nat.le_trans h3 hm2) hz2
  rw [show tp T - Z.1 + (tp T' - tp T) = tp T' - Z.1 by omega, show sl T - Z.2.1 + (sl T' - sl T) = sl T' - Z.2.1 by omega]
  exact h7
theorem g_objInit {X : Fx} {B : Bx} {cc : ByteArray} {nL : Nat} {own : String} {d : Nat} {Z : Nat × Nat × Nat × Nat} {Q : State → Prop} {pc : Nat} {lo : List (Nat × Value)} {st : List Value} {T : Sh} {M : Me} {idx a : Nat} (C : Cx X B cc nL own d Z) (hd : decode cc pc = .ok (.invokespecial idx, 3)) (hd1 : 1 ≤ d) (hw : Cond.methodLink own idx Lib.objectInit ∈ lw_gd) (hw2 : Cond.instanceMethod Lib.objectInit ∈ lw_gd) (hw3 : Cond.code Lib.objectInit ⟨#[0xb1]⟩ 1 none ∈ lw_gd) (hst : (st.map fun v => v.category).sum ≤ 8)
    (kk : G X B nL Z Q (pc + 3) lo st T M) : G X B nL Z Q (pc) lo (.ref a :: st) T M := by
  obtain ⟨p, l, e, R, s, m, args, below, meth, c⟩ := X
  intro H locs ls hl hP hS h1 h2 h3 h4
  have hf := C.2.2.2.2.2.2.2.2.2.2.1
  have hf2 := C.2.2.2.2.2.2.2.2.2.2.2.1
  dsimp only at hf hf2
  refine W.objInit C.1 C.2.1 C.2.2.2.1 (C.2.2.2.2.1 _ hw) (C.2.2.2.2.1 _ hw2) (C.2.2.2.2.1 _ hw3) rfl (by have := C.2.2.1; dsimp only at this; rw [this]; exact hl.1) rfl hd (show 1 ≤ R.frames by omega) ?_ ?_
  · show 2 * 0 + (st.map fun v => v.category).sum + 12 ≤ R.locals
    omega
  · exact kk H locs ls hl hP hS h1 h2 h3 h4
theorem g_iret {X : Fx} {B : Bx} {cc : ByteArray} {nL : Nat} {own : String} {d : Nat} {Z : Nat × Nat × Nat × Nat} {pc : Nat} {lo : List (Nat × Value)} {T : Sh} {M : Me} {x : Int32} (C : Cx X B cc nL own d Z) (hR : Rx X (some .int)) (hd : decode cc pc = .ok (.ireturn, 1)) : G X B nL Z (Qf X B Z (some (.int x)) T M) pc lo [.int x] T M := by
  obtain ⟨p, l, e, R, s, m, args, below, meth, c⟩ := X
  intro H locs ls hl hP hS h1 h2 h3 h4
  refine W.widen (k := Z.2.2.1 - Z.1) (n := Z.2.2.2 - Z.2.1) (by omega) (by omega) ?_
  exact W.iret C.1 C.2.1 hR.1 (fun t ht hW => ⟨rfl, C.WS hP hS ht hW, hS.F ht⟩) hS.2.2 hd hR.2
theorem g_lret {X : Fx} {B : Bx} {cc : ByteArray} {nL : Nat} {own : String} {d : Nat} {Z : Nat × Nat × Nat × Nat} {pc : Nat} {lo : List (Nat × Value)} {T : Sh} {M : Me} {x : Int64} (C : Cx X B cc nL own d Z) (hR : Rx X (some .long)) (hd : decode cc pc = .ok (.lreturn, 1)) : G X B nL Z (Qf X B Z (some (.long x)) T M) pc lo [.long x] T M := by
  obtain ⟨p, l, e, R, s, m, args, below, meth, c⟩ := X
  intro H locs ls hl hP hS h1 h2 h3 h4
  refine W.widen (k := Z.2.2.1 - Z.1) (n := Z.2.2.2 - Z.2.1) (by omega) (by omega) ?_
  exact W.lret C.1 C.2.1 hR.1 (fun t ht hW => ⟨rfl, C.WS hP hS ht hW, hS.F ht⟩) hS.2.2 hd hR.2
theorem g_vret {X : Fx} {B : Bx} {cc : ByteArray} {nL : Nat} {own : String} {d : Nat} {Z : Nat × Nat × Nat × Nat} {pc : Nat} {lo : List (Nat × Value)} {T : Sh} {M : Me} (C : Cx X B cc nL own d Z) (hR : Rx X none) (hd : decode cc pc = .ok (.return_, 1)) : G X B nL Z (Qf X B Z none T M) pc lo [] T M := by
  obtain ⟨p, l, e, R, s, m, args, below, meth, c⟩ := X
  intro H locs ls hl hP hS h1 h2 h3 h4
  refine W.widen (k := Z.2.2.1 - Z.1) (n := Z.2.2.2 - Z.2.1) (by omega) (by omega) ?_
  exact W.vret C.1 C.2.1 hR.1 (fun t ht hW => ⟨rfl, C.WS hP hS ht hW, hS.F ht⟩) hS.2.2 hd hR.2
theorem g_zret {X : Fx} {B : Bx} {cc : ByteArray} {nL : Nat} {own : String} {d : Nat} {Z : Nat × Nat × Nat × Nat} {pc : Nat} {lo : List (Nat × Value)} {T : Sh} {M : Me} {x : Int32} {ft : FieldType} (C : Cx X B cc nL own d Z) (hR : Rx X (some ft)) (hd : decode cc pc = .ok (.ireturn, 1)) (hn : narrow ft (.int x) = .int x) : G X B nL Z (Qf X B Z (some (.int x)) T M) pc lo [.int x] T M := by
  obtain ⟨p, l, e, R, s, m, args, below, meth, c⟩ := X
  intro H locs ls hl hP hS h1 h2 h3 h4
  refine W.widen (k := Z.2.2.1 - Z.1) (n := Z.2.2.2 - Z.2.1) (by omega) (by omega) ?_
  exact W.zret C.1 C.2.1 hR.1 hn (fun t ht hW => ⟨rfl, C.WS hP hS ht hW, hS.F ht⟩) hS.2.2 hd hR.2
theorem g_aret {X : Fx} {B : Bx} {cc : ByteArray} {nL : Nat} {own : String} {d : Nat} {Z : Nat × Nat × Nat × Nat} {pc : Nat} {lo : List (Nat × Value)} {T : Sh} {M : Me} {x : Option Nat} {ft : FieldType} (C : Cx X B cc nL own d Z) (hR : Rx X (some ft)) (hft : (∃ n, ft = .object n) ∨ ∃ t, ft = .array t) (hd : decode cc pc = .ok (.areturn, 1)) : G X B nL Z (Qf X B Z (some (va_rf x)) T M) pc lo [va_rf x] T M := by
  obtain ⟨p, l, e, R, s, m, args, below, meth, c⟩ := X
  intro H locs ls hl hP hS h1 h2 h3 h4
  refine W.widen (k := Z.2.2.1 - Z.1) (n := Z.2.2.2 - Z.2.1) (by omega) (by omega) ?_
  exact W.aret C.1 C.2.1 hR.1 hft (by cases x with | none => exact Or.inl rfl | some a => exact Or.inr ⟨a, rfl⟩) (fun t ht hW => ⟨rfl, C.WS hP hS ht hW, hS.F ht⟩) hS.2.2 hd hR.2
theorem met_ofW {l : Launch} {y : MethodName} {ws ws' : List Cond} {rm : Room} {Pc : Array Value → State → Prop} {Qc : Array Value → State → Outcome → State → Prop} {mc ms : Nat} {free : Addr → Prop} {cc : ByteArray} {maxL : Nat} {ret : Option FieldType}
    (hy : plainFor y = true) (hw : ws = Cond.code y cc maxL ret :: ws')
    (body : ∀ p e s m args below meth c s₁, BodyLoose p l y (headSpec ws rm) cc maxL ret e s m args below meth c s₁ → c.maxLocals = maxL → Pc args s →
      W p l e (headSpec ws rm).room s m args below meth c s.heap [] 0 0 (MQ below Qc args s mc ms free) (entryFrame m args maxL)) : Met l y ws rm Pc Qc mc ms free := by
  refine MetFree.of_bodyRF (code := cc) (maxLocals := maxL) (ret := ret) hy ?_ ?_
  · intro args s m h hn
    obtain ⟨meth, c, h1, h2, h3, h4, h5, h6, -, -⟩ := Cond.code_spec hn (atoms_spec (ws := ws) h _ (by rw [hw]; exact List.mem_cons_self))
    exact ⟨meth, c, h1, h2, h3, h4, h5, h6⟩
  · intro p e s m args below meth c s₁ B hml hP _ hent
    have hh0 : s₁.heap = s.heap := by rw [B.state]; rfl
    obtain ⟨t, a1, o, b1, b2, b3⟩ := body p e s m args below meth c s₁ B hml hP s₁ hh0 (Stand.of_body B)
    exact ⟨t, o, hent.trans a1, b1, b2, ⟨b3.1, b3.2⟩⟩
/-- a contract out of a walk of the body -/
theorem kt_of {l : Launch} {B : Bx} {y : MethodName} {cc : ByteArray} {nL n : Nat} {ret : Option FieldType} {d : Nat} {av : List Value} {T T' : Sh} {M M' : Me} {v : Option Value} (w : Mw y cc nL ret n) (h1 : tp T ≤ tp T') (h2 : sl T ≤ sl T') (hav : (lg_sl av).length ≤ nL)
    (body : ∀ X : Fx, Cx X B cc nL y.cls d (tp T, sl T, tp T', sl T') → Rx X ret → X.2.1 = l → X.2.2.2.2.2.2.2.2.1.name = y.name → G X B nL (tp T, sl T, tp T', sl T') (Qf X B (tp T, sl T, tp T', sl T') v T' M') 0 (lv_args 0 av) [] T M) : Kt l B y cc nL ret d av T M v T' M' := by
  refine ⟨h1, h2, ?_⟩
  refine met_ofW (cc := cc) (maxL := nL) (ret := ret) w.2.2.2.2.2 rfl ?_
  intro p e s m args below meth c s₁ Bd hml hv
  obtain ⟨rfl, hP, hK, hR, hT, hA⟩ := hv
  have hts := atoms_spec (ws := .code y cc nL ret :: lw_gd) Bd.pre
  have hown : s.vm.findClass y.cls = some m.cls := findClass_of_methodNamed Bd.named
  have hnm := (name_of_methodNamed Bd.named Bd.method).1
  have hl := lv_entry av (n := nL) hav
  rw [lg_entry_eq]
  have hG := body (p, l, e, rmD d (tp T' - tp T) (sl T' - sl T), s, m, av.toArray, below, meth, c) ⟨Bd.exec, Bd.bytes, hml, hown, fun w hw => hts w (List.mem_cons_of_mem _ hw), hK, hR, hT, hA, by rw [hP.1]; exact hP.2.1, Nat.le_refl _, Nat.le_refl _, rfl, rfl⟩ ⟨Bd.returns, Bd.notSynchronized⟩ rfl hnm
  have hW := hG s.heap [] _ hl hP va_S.rf (Nat.le_refl _) h1 (Nat.le_refl _) h2
  dsimp only at hW
  rw [Nat.sub_self, Nat.sub_self] at hW
  exact hW
