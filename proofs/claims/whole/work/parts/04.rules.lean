theorem g_iconst {X : Fx} {B : Bx} {cc : ByteArray} {nL : Nat} {own : String} {d : Nat} {Z : Nat × Nat × Nat × Nat} {Q : State → Prop} {pc : Nat} {lo : List (Nat × Value)} {st : List Value} {T : Sh} {M : Me} {n : Int} {v : Int32} (C : Cx X B cc nL own d Z) (hd : decode cc pc = .ok (.iconst n, 1)) (hv : Int32.ofInt n = v)
    (kk : G X B nL Z Q (pc + 1) lo (.int v :: st) T M) : G X B nL Z Q (pc) lo st T M := by
  obtain ⟨p, l, e, R, s, m, args, below, meth, c⟩ := X
  intro H locs ls hl hP hS h1 h2 h3 h4
  exact lv_iconst C.1 C.2.1 hd hv (kk H locs ls hl hP hS h1 h2 h3 h4)
theorem g_bipush {X : Fx} {B : Bx} {cc : ByteArray} {nL : Nat} {own : String} {d : Nat} {Z : Nat × Nat × Nat × Nat} {Q : State → Prop} {pc : Nat} {lo : List (Nat × Value)} {st : List Value} {T : Sh} {M : Me} {n : Int} {v : Int32} (C : Cx X B cc nL own d Z) (hd : decode cc pc = .ok (.bipush n, 2)) (hv : (Int8.ofInt n).toInt32 = v)
    (kk : G X B nL Z Q (pc + 2) lo (.int v :: st) T M) : G X B nL Z Q (pc) lo st T M := by
  obtain ⟨p, l, e, R, s, m, args, below, meth, c⟩ := X
  intro H locs ls hl hP hS h1 h2 h3 h4
  exact lv_bipush C.1 C.2.1 hd hv (kk H locs ls hl hP hS h1 h2 h3 h4)
theorem g_sipush {X : Fx} {B : Bx} {cc : ByteArray} {nL : Nat} {own : String} {d : Nat} {Z : Nat × Nat × Nat × Nat} {Q : State → Prop} {pc : Nat} {lo : List (Nat × Value)} {st : List Value} {T : Sh} {M : Me} {n : Int} {v : Int32} (C : Cx X B cc nL own d Z) (hd : decode cc pc = .ok (.sipush n, 3)) (hv : (Int16.ofInt n).toInt32 = v)
    (kk : G X B nL Z Q (pc + 3) lo (.int v :: st) T M) : G X B nL Z Q (pc) lo st T M := by
  obtain ⟨p, l, e, R, s, m, args, below, meth, c⟩ := X
  intro H locs ls hl hP hS h1 h2 h3 h4
  exact lv_sipush C.1 C.2.1 hd hv (kk H locs ls hl hP hS h1 h2 h3 h4)
theorem g_lconst {X : Fx} {B : Bx} {cc : ByteArray} {nL : Nat} {own : String} {d : Nat} {Z : Nat × Nat × Nat × Nat} {Q : State → Prop} {pc : Nat} {lo : List (Nat × Value)} {st : List Value} {T : Sh} {M : Me} {n : Fin 2} {v : Int64} (C : Cx X B cc nL own d Z) (hd : decode cc pc = .ok (.lconst n, 1)) (hv : Int64.ofNat (n : Nat) = v)
    (kk : G X B nL Z Q (pc + 1) lo (.long v :: st) T M) : G X B nL Z Q (pc) lo st T M := by
  obtain ⟨p, l, e, R, s, m, args, below, meth, c⟩ := X
  intro H locs ls hl hP hS h1 h2 h3 h4
  exact lv_lconst C.1 C.2.1 hd hv (kk H locs ls hl hP hS h1 h2 h3 h4)
theorem g_null {X : Fx} {B : Bx} {cc : ByteArray} {nL : Nat} {own : String} {d : Nat} {Z : Nat × Nat × Nat × Nat} {Q : State → Prop} {pc : Nat} {lo : List (Nat × Value)} {st : List Value} {T : Sh} {M : Me}  (C : Cx X B cc nL own d Z) (hd : decode cc pc = .ok (.aconst_null, 1)) 
    (kk : G X B nL Z Q (pc + 1) lo (.null :: st) T M) : G X B nL Z Q (pc) lo st T M := by
  obtain ⟨p, l, e, R, s, m, args, below, meth, c⟩ := X
  intro H locs ls hl hP hS h1 h2 h3 h4
  exact lv_null C.1 C.2.1 hd (kk H locs ls hl hP hS h1 h2 h3 h4)
theorem g_iload_n {X : Fx} {B : Bx} {cc : ByteArray} {nL : Nat} {own : String} {d : Nat} {Z : Nat × Nat × Nat × Nat} {Q : State → Prop} {pc : Nat} {lo : List (Nat × Value)} {st : List Value} {T : Sh} {M : Me} {k : Fin 4} {i : Nat} {x : Int32} (C : Cx X B cc nL own d Z) (hd : decode cc pc = .ok (.iload_n k, 1)) (hi : (k : Nat) = i) (j : Nat) (hj : lo[j]? = some (i, .int x))
    (kk : G X B nL Z Q (pc + 1) lo (.int x :: st) T M) : G X B nL Z Q (pc) lo st T M := by
  obtain ⟨p, l, e, R, s, m, args, below, meth, c⟩ := X
  intro H locs ls hl hP hS h1 h2 h3 h4
  exact lv_iload_n C.1 C.2.1 hd hi (lv_at hl j hj) (kk H locs ls hl hP hS h1 h2 h3 h4)
theorem g_iload {X : Fx} {B : Bx} {cc : ByteArray} {nL : Nat} {own : String} {d : Nat} {Z : Nat × Nat × Nat × Nat} {Q : State → Prop} {pc : Nat} {lo : List (Nat × Value)} {st : List Value} {T : Sh} {M : Me} {i : Nat} {x : Int32} (C : Cx X B cc nL own d Z) (hd : decode cc pc = .ok (.iload i, 2)) (j : Nat) (hj : lo[j]? = some (i, .int x))
    (kk : G X B nL Z Q (pc + 2) lo (.int x :: st) T M) : G X B nL Z Q (pc) lo st T M := by
  obtain ⟨p, l, e, R, s, m, args, below, meth, c⟩ := X
  intro H locs ls hl hP hS h1 h2 h3 h4
  exact lv_iload C.1 C.2.1 hd (lv_at hl j hj) (kk H locs ls hl hP hS h1 h2 h3 h4)
theorem g_lload_n {X : Fx} {B : Bx} {cc : ByteArray} {nL : Nat} {own : String} {d : Nat} {Z : Nat × Nat × Nat × Nat} {Q : State → Prop} {pc : Nat} {lo : List (Nat × Value)} {st : List Value} {T : Sh} {M : Me} {k : Fin 4} {i : Nat} {x : Int64} (C : Cx X B cc nL own d Z) (hd : decode cc pc = .ok (.lload_n k, 1)) (hi : (k : Nat) = i) (j : Nat) (hj : lo[j]? = some (i, .long x))
    (kk : G X B nL Z Q (pc + 1) lo (.long x :: st) T M) : G X B nL Z Q (pc) lo st T M := by
  obtain ⟨p, l, e, R, s, m, args, below, meth, c⟩ := X
  intro H locs ls hl hP hS h1 h2 h3 h4
  exact lv_lload_n C.1 C.2.1 hd hi (lv_at hl j hj) (kk H locs ls hl hP hS h1 h2 h3 h4)
theorem g_lload {X : Fx} {B : Bx} {cc : ByteArray} {nL : Nat} {own : String} {d : Nat} {Z : Nat × Nat × Nat × Nat} {Q : State → Prop} {pc : Nat} {lo : List (Nat × Value)} {st : List Value} {T : Sh} {M : Me} {i : Nat} {x : Int64} (C : Cx X B cc nL own d Z) (hd : decode cc pc = .ok (.lload i, 2)) (j : Nat) (hj : lo[j]? = some (i, .long x))
    (kk : G X B nL Z Q (pc + 2) lo (.long x :: st) T M) : G X B nL Z Q (pc) lo st T M := by
  obtain ⟨p, l, e, R, s, m, args, below, meth, c⟩ := X
  intro H locs ls hl hP hS h1 h2 h3 h4
  exact lv_lload C.1 C.2.1 hd (lv_at hl j hj) (kk H locs ls hl hP hS h1 h2 h3 h4)
theorem g_aload_n {X : Fx} {B : Bx} {cc : ByteArray} {nL : Nat} {own : String} {d : Nat} {Z : Nat × Nat × Nat × Nat} {Q : State → Prop} {pc : Nat} {lo : List (Nat × Value)} {st : List Value} {T : Sh} {M : Me} {k : Fin 4} {i : Nat} {x : Nat} (C : Cx X B cc nL own d Z) (hd : decode cc pc = .ok (.aload_n k, 1)) (hi : (k : Nat) = i) (j : Nat) (hj : lo[j]? = some (i, .ref x))
    (kk : G X B nL Z Q (pc + 1) lo (.ref x :: st) T M) : G X B nL Z Q (pc) lo st T M := by
  obtain ⟨p, l, e, R, s, m, args, below, meth, c⟩ := X
  intro H locs ls hl hP hS h1 h2 h3 h4
  exact lv_aload_n C.1 C.2.1 hd hi (lv_at hl j hj) (kk H locs ls hl hP hS h1 h2 h3 h4)
theorem g_aload {X : Fx} {B : Bx} {cc : ByteArray} {nL : Nat} {own : String} {d : Nat} {Z : Nat × Nat × Nat × Nat} {Q : State → Prop} {pc : Nat} {lo : List (Nat × Value)} {st : List Value} {T : Sh} {M : Me} {i : Nat} {x : Nat} (C : Cx X B cc nL own d Z) (hd : decode cc pc = .ok (.aload i, 2)) (j : Nat) (hj : lo[j]? = some (i, .ref x))
    (kk : G X B nL Z Q (pc + 2) lo (.ref x :: st) T M) : G X B nL Z Q (pc) lo st T M := by
  obtain ⟨p, l, e, R, s, m, args, below, meth, c⟩ := X
  intro H locs ls hl hP hS h1 h2 h3 h4
  exact lv_aload C.1 C.2.1 hd (lv_at hl j hj) (kk H locs ls hl hP hS h1 h2 h3 h4)
theorem g_aload_nQ {X : Fx} {B : Bx} {cc : ByteArray} {nL : Nat} {own : String} {d : Nat} {Z : Nat × Nat × Nat × Nat} {Q : State → Prop} {pc : Nat} {lo : List (Nat × Value)} {st : List Value} {T : Sh} {M : Me} {k : Fin 4} {i : Nat} {x : Option Nat} (C : Cx X B cc nL own d Z) (hd : decode cc pc = .ok (.aload_n k, 1)) (hi : (k : Nat) = i) (j : Nat) (hj : lo[j]? = some (i, va_rf x))
    (kk : G X B nL Z Q (pc + 1) lo (va_rf x :: st) T M) : G X B nL Z Q (pc) lo st T M := by
  cases x with
  | none => 
    obtain ⟨p, l, e, R, s, m, args, below, meth, c⟩ := X
    intro H locs ls hl hP hS h1 h2 h3 h4
    exact lv_aload_nN C.1 C.2.1 hd hi (lv_at hl j hj) (kk H locs ls hl hP hS h1 h2 h3 h4)
  | some x => exact g_aload_n C hd hi j hj kk
theorem g_aloadQ {X : Fx} {B : Bx} {cc : ByteArray} {nL : Nat} {own : String} {d : Nat} {Z : Nat × Nat × Nat × Nat} {Q : State → Prop} {pc : Nat} {lo : List (Nat × Value)} {st : List Value} {T : Sh} {M : Me} {i : Nat} {x : Option Nat} (C : Cx X B cc nL own d Z) (hd : decode cc pc = .ok (.aload i, 2)) (j : Nat) (hj : lo[j]? = some (i, va_rf x))
    (kk : G X B nL Z Q (pc + 2) lo (va_rf x :: st) T M) : G X B nL Z Q (pc) lo st T M := by
  cases x with
  | none => 
    obtain ⟨p, l, e, R, s, m, args, below, meth, c⟩ := X
    intro H locs ls hl hP hS h1 h2 h3 h4
    exact lv_aloadN C.1 C.2.1 hd (lv_at hl j hj) (kk H locs ls hl hP hS h1 h2 h3 h4)
  | some x => exact g_aload C hd j hj kk
theorem g_istore_n {X : Fx} {B : Bx} {cc : ByteArray} {nL : Nat} {own : String} {d : Nat} {Z : Nat × Nat × Nat × Nat} {Q : State → Prop} {pc : Nat} {lo : List (Nat × Value)} {st : List Value} {T : Sh} {M : Me} {k : Fin 4} {i : Nat} {x : Int32} {lo2 : List (Nat × Value)} (C : Cx X B cc nL own d Z) (hd : decode cc pc = .ok (.istore_n k, 1)) (hi : (k : Nat) = i) (hn : i < nL) (hl2 : (i, Value.int x) :: lo.filter (fun q => !(q.1 == i) && !(q.1 + 1 == i && q.2.category == 2)) = lo2)
    (kk : G X B nL Z Q (pc + 1) lo2 st T M) : G X B nL Z Q (pc) lo (Value.int x :: st) T M := by
  obtain ⟨p, l, e, R, s, m, args, below, meth, c⟩ := X
  intro H locs ls hl hP hS h1 h2 h3 h4
  exact lv_istore_n C.1 C.2.1 hd hi hl hn hl2 (fun ls hl => kk H locs ls hl hP hS h1 h2 h3 h4)
theorem g_istore {X : Fx} {B : Bx} {cc : ByteArray} {nL : Nat} {own : String} {d : Nat} {Z : Nat × Nat × Nat × Nat} {Q : State → Prop} {pc : Nat} {lo : List (Nat × Value)} {st : List Value} {T : Sh} {M : Me} {i : Nat} {x : Int32} {lo2 : List (Nat × Value)} (C : Cx X B cc nL own d Z) (hd : decode cc pc = .ok (.istore i, 2))  (hn : i < nL) (hl2 : (i, Value.int x) :: lo.filter (fun q => !(q.1 == i) && !(q.1 + 1 == i && q.2.category == 2)) = lo2)
    (kk : G X B nL Z Q (pc + 2) lo2 st T M) : G X B nL Z Q (pc) lo (Value.int x :: st) T M := by
  obtain ⟨p, l, e, R, s, m, args, below, meth, c⟩ := X
  intro H locs ls hl hP hS h1 h2 h3 h4
  exact lv_istore C.1 C.2.1 hd  hl hn hl2 (fun ls hl => kk H locs ls hl hP hS h1 h2 h3 h4)
theorem g_lstore_n {X : Fx} {B : Bx} {cc : ByteArray} {nL : Nat} {own : String} {d : Nat} {Z : Nat × Nat × Nat × Nat} {Q : State → Prop} {pc : Nat} {lo : List (Nat × Value)} {st : List Value} {T : Sh} {M : Me} {k : Fin 4} {i : Nat} {x : Int64} {lo2 : List (Nat × Value)} (C : Cx X B cc nL own d Z) (hd : decode cc pc = .ok (.lstore_n k, 1)) (hi : (k : Nat) = i) (hn : i + 1 < nL) (hl2 : (i, Value.long x) :: lo.filter (fun q => !(q.1 == i) && (!(q.1 == i + 1) && !(q.1 + 1 == i && q.2.category == 2))) = lo2)
    (kk : G X B nL Z Q (pc + 1) lo2 st T M) : G X B nL Z Q (pc) lo (Value.long x :: st) T M := by
  obtain ⟨p, l, e, R, s, m, args, below, meth, c⟩ := X
  intro H locs ls hl hP hS h1 h2 h3 h4
  exact lv_lstore_n C.1 C.2.1 hd hi hl hn hl2 (fun ls hl => kk H locs ls hl hP hS h1 h2 h3 h4)
theorem g_lstore {X : Fx} {B : Bx} {cc : ByteArray} {nL : Nat} {own : String} {d : Nat} {Z : Nat × Nat × Nat × Nat} {Q : State → Prop} {pc : Nat} {lo : List (Nat × Value)} {st : List Value} {T : Sh} {M : Me} {i : Nat} {x : Int64} {lo2 : List (Nat × Value)} (C : Cx X B cc nL own d Z) (hd : decode cc pc = .ok (.lstore i, 2))  (hn : i + 1 < nL) (hl2 : (i, Value.long x) :: lo.filter (fun q => !(q.1 == i) && (!(q.1 == i + 1) && !(q.1 + 1 == i && q.2.category == 2))) = lo2)
    (kk : G X B nL Z Q (pc + 2) lo2 st T M) : G X B nL Z Q (pc) lo (Value.long x :: st) T M := by
  obtain ⟨p, l, e, R, s, m, args, below, meth, c⟩ := X
  intro H locs ls hl hP hS h1 h2 h3 h4
  exact lv_lstore C.1 C.2.1 hd  hl hn hl2 (fun ls hl => kk H locs ls hl hP hS h1 h2 h3 h4)
theorem g_astore_n {X : Fx} {B : Bx} {cc : ByteArray} {nL : Nat} {own : String} {d : Nat} {Z : Nat × Nat × Nat × Nat} {Q : State → Prop} {pc : Nat} {lo : List (Nat × Value)} {st : List Value} {T : Sh} {M : Me} {k : Fin 4} {i : Nat} {x : Nat} {lo2 : List (Nat × Value)} (C : Cx X B cc nL own d Z) (hd : decode cc pc = .ok (.astore_n k, 1)) (hi : (k : Nat) = i) (hn : i < nL) (hl2 : (i, Value.ref x) :: lo.filter (fun q => !(q.1 == i) && !(q.1 + 1 == i && q.2.category == 2)) = lo2)
    (kk : G X B nL Z Q (pc + 1) lo2 st T M) : G X B nL Z Q (pc) lo (Value.ref x :: st) T M := by
  obtain ⟨p, l, e, R, s, m, args, below, meth, c⟩ := X
  intro H locs ls hl hP hS h1 h2 h3 h4
  exact lv_astore_n C.1 C.2.1 hd hi hl hn hl2 (fun ls hl => kk H locs ls hl hP hS h1 h2 h3 h4)
theorem g_astore {X : Fx} {B : Bx} {cc : ByteArray} {nL : Nat} {own : String} {d : Nat} {Z : Nat × Nat × Nat × Nat} {Q : State → Prop} {pc : Nat} {lo : List (Nat × Value)} {st : List Value} {T : Sh} {M : Me} {i : Nat} {x : Nat} {lo2 : List (Nat × Value)} (C : Cx X B cc nL own d Z) (hd : decode cc pc = .ok (.astore i, 2))  (hn : i < nL) (hl2 : (i, Value.ref x) :: lo.filter (fun q => !(q.1 == i) && !(q.1 + 1 == i && q.2.category == 2)) = lo2)
    (kk : G X B nL Z Q (pc + 2) lo2 st T M) : G X B nL Z Q (pc) lo (Value.ref x :: st) T M := by
  obtain ⟨p, l, e, R, s, m, args, below, meth, c⟩ := X
  intro H locs ls hl hP hS h1 h2 h3 h4
  exact lv_astore C.1 C.2.1 hd  hl hn hl2 (fun ls hl => kk H locs ls hl hP hS h1 h2 h3 h4)
theorem g_astore_nQ {X : Fx} {B : Bx} {cc : ByteArray} {nL : Nat} {own : String} {d : Nat} {Z : Nat × Nat × Nat × Nat} {Q : State → Prop} {pc : Nat} {lo : List (Nat × Value)} {st : List Value} {T : Sh} {M : Me} {k : Fin 4} {i : Nat} {x : Option Nat} {lo2 : List (Nat × Value)} (C : Cx X B cc nL own d Z) (hd : decode cc pc = .ok (.astore_n k, 1)) (hi : (k : Nat) = i) (hn : i < nL) (hl2 : (i, va_rf x) :: lo.filter (fun q => !(q.1 == i) && !(q.1 + 1 == i && q.2.category == 2)) = lo2)
    (kk : G X B nL Z Q (pc + 1) lo2 st T M) : G X B nL Z Q (pc) lo (va_rf x :: st) T M := by
  cases x with
  | some x => exact g_astore_n C hd hi hn hl2 kk
  | none =>
    obtain ⟨p, l, e, R, s, m, args, below, meth, c⟩ := X
    intro H locs ls hl hP hS h1 h2 h3 h4
    exact lv_astore_nN C.1 C.2.1 hd hi hl hn hl2 (fun ls hl => kk H locs ls hl hP hS h1 h2 h3 h4)
theorem g_astoreQ {X : Fx} {B : Bx} {cc : ByteArray} {nL : Nat} {own : String} {d : Nat} {Z : Nat × Nat × Nat × Nat} {Q : State → Prop} {pc : Nat} {lo : List (Nat × Value)} {st : List Value} {T : Sh} {M : Me} {i : Nat} {x : Option Nat} {lo2 : List (Nat × Value)} (C : Cx X B cc nL own d Z) (hd : decode cc pc = .ok (.astore i, 2))  (hn : i < nL) (hl2 : (i, va_rf x) :: lo.filter (fun q => !(q.1 == i) && !(q.1 + 1 == i && q.2.category == 2)) = lo2)
    (kk : G X B nL Z Q (pc + 2) lo2 st T M) : G X B nL Z Q (pc) lo (va_rf x :: st) T M := by
  cases x with
  | some x => exact g_astore C hd  hn hl2 kk
  | none =>
    obtain ⟨p, l, e, R, s, m, args, below, meth, c⟩ := X
    intro H locs ls hl hP hS h1 h2 h3 h4
    exact lv_astoreN C.1 C.2.1 hd  hl hn hl2 (fun ls hl => kk H locs ls hl hP hS h1 h2 h3 h4)
theorem g_iinc {X : Fx} {B : Bx} {cc : ByteArray} {nL : Nat} {own : String} {d : Nat} {Z : Nat × Nat × Nat × Nat} {Q : State → Prop} {pc : Nat} {lo : List (Nat × Value)} {st : List Value} {T : Sh} {M : Me} {i k : Nat} {n : Int} {x v : Int32} {lo2 : List (Nat × Value)} (C : Cx X B cc nL own d Z) (hd : decode cc pc = .ok (.iinc i n, 3)) (hk : lo[k]? = some (i, .int x)) (hv : x + Int32.ofInt n = v) (hn : i < nL) (hl2 : (i, Value.int v) :: lo.filter (fun q => !(q.1 == i) && !(q.1 + 1 == i && q.2.category == 2)) = lo2)
    (kk : G X B nL Z Q (pc + 3) lo2 st T M) : G X B nL Z Q (pc) lo st T M := by
  obtain ⟨p, l, e, R, s, m, args, below, meth, c⟩ := X
  intro H locs ls hl hP hS h1 h2 h3 h4
  exact lv_iinc C.1 C.2.1 hd hl hk hv hn hl2 (fun ls hl => kk H locs ls hl hP hS h1 h2 h3 h4)
theorem g_iadd {X : Fx} {B : Bx} {cc : ByteArray} {nL : Nat} {own : String} {d : Nat} {Z : Nat × Nat × Nat × Nat} {Q : State → Prop} {pc : Nat} {lo : List (Nat × Value)} {st : List Value} {T : Sh} {M : Me} {x y : Int32} (C : Cx X B cc nL own d Z) (hd : decode cc pc = .ok (.iadd, 1)) 
    (kk : G X B nL Z Q (pc + 1) lo (.int (x + y) :: st) T M) : G X B nL Z Q (pc) lo (.int y :: .int x :: st) T M := by
  obtain ⟨p, l, e, R, s, m, args, below, meth, c⟩ := X
  intro H locs ls hl hP hS h1 h2 h3 h4
  exact lv_iadd C.1 C.2.1 hd (kk H locs ls hl hP hS h1 h2 h3 h4)
theorem g_isub {X : Fx} {B : Bx} {cc : ByteArray} {nL : Nat} {own : String} {d : Nat} {Z : Nat × Nat × Nat × Nat} {Q : State → Prop} {pc : Nat} {lo : List (Nat × Value)} {st : List Value} {T : Sh} {M : Me} {x y : Int32} (C : Cx X B cc nL own d Z) (hd : decode cc pc = .ok (.isub, 1)) 
    (kk : G X B nL Z Q (pc + 1) lo (.int (x - y) :: st) T M) : G X B nL Z Q (pc) lo (.int y :: .int x :: st) T M := by
  obtain ⟨p, l, e, R, s, m, args, below, meth, c⟩ := X
  intro H locs ls hl hP hS h1 h2 h3 h4
  exact lv_isub C.1 C.2.1 hd (kk H locs ls hl hP hS h1 h2 h3 h4)
theorem g_imul {X : Fx} {B : Bx} {cc : ByteArray} {nL : Nat} {own : String} {d : Nat} {Z : Nat × Nat × Nat × Nat} {Q : State → Prop} {pc : Nat} {lo : List (Nat × Value)} {st : List Value} {T : Sh} {M : Me} {x y : Int32} (C : Cx X B cc nL own d Z) (hd : decode cc pc = .ok (.imul, 1)) 
    (kk : G X B nL Z Q (pc + 1) lo (.int (x * y) :: st) T M) : G X B nL Z Q (pc) lo (.int y :: .int x :: st) T M := by
  obtain ⟨p, l, e, R, s, m, args, below, meth, c⟩ := X
  intro H locs ls hl hP hS h1 h2 h3 h4
  exact lv_imul C.1 C.2.1 hd (kk H locs ls hl hP hS h1 h2 h3 h4)
theorem g_iand {X : Fx} {B : Bx} {cc : ByteArray} {nL : Nat} {own : String} {d : Nat} {Z : Nat × Nat × Nat × Nat} {Q : State → Prop} {pc : Nat} {lo : List (Nat × Value)} {st : List Value} {T : Sh} {M : Me} {x y : Int32} (C : Cx X B cc nL own d Z) (hd : decode cc pc = .ok (.iand, 1)) 
    (kk : G X B nL Z Q (pc + 1) lo (.int (x &&& y) :: st) T M) : G X B nL Z Q (pc) lo (.int y :: .int x :: st) T M := by
  obtain ⟨p, l, e, R, s, m, args, below, meth, c⟩ := X
  intro H locs ls hl hP hS h1 h2 h3 h4
  exact lv_iand C.1 C.2.1 hd (kk H locs ls hl hP hS h1 h2 h3 h4)
theorem g_ior {X : Fx} {B : Bx} {cc : ByteArray} {nL : Nat} {own : String} {d : Nat} {Z : Nat × Nat × Nat × Nat} {Q : State → Prop} {pc : Nat} {lo : List (Nat × Value)} {st : List Value} {T : Sh} {M : Me} {x y : Int32} (C : Cx X B cc nL own d Z) (hd : decode cc pc = .ok (.ior, 1)) 
    (kk : G X B nL Z Q (pc + 1) lo (.int (x ||| y) :: st) T M) : G X B nL Z Q (pc) lo (.int y :: .int x :: st) T M := by
  obtain ⟨p, l, e, R, s, m, args, below, meth, c⟩ := X
  intro H locs ls hl hP hS h1 h2 h3 h4
  exact lv_ior C.1 C.2.1 hd (kk H locs ls hl hP hS h1 h2 h3 h4)
theorem g_ixor {X : Fx} {B : Bx} {cc : ByteArray} {nL : Nat} {own : String} {d : Nat} {Z : Nat × Nat × Nat × Nat} {Q : State → Prop} {pc : Nat} {lo : List (Nat × Value)} {st : List Value} {T : Sh} {M : Me} {x y : Int32} (C : Cx X B cc nL own d Z) (hd : decode cc pc = .ok (.ixor, 1)) 
    (kk : G X B nL Z Q (pc + 1) lo (.int (x ^^^ y) :: st) T M) : G X B nL Z Q (pc) lo (.int y :: .int x :: st) T M := by
  obtain ⟨p, l, e, R, s, m, args, below, meth, c⟩ := X
  intro H locs ls hl hP hS h1 h2 h3 h4
  exact lv_ixor C.1 C.2.1 hd (kk H locs ls hl hP hS h1 h2 h3 h4)
theorem g_ishl {X : Fx} {B : Bx} {cc : ByteArray} {nL : Nat} {own : String} {d : Nat} {Z : Nat × Nat × Nat × Nat} {Q : State → Prop} {pc : Nat} {lo : List (Nat × Value)} {st : List Value} {T : Sh} {M : Me} {x y : Int32} (C : Cx X B cc nL own d Z) (hd : decode cc pc = .ok (.ishl, 1)) 
    (kk : G X B nL Z Q (pc + 1) lo (.int (x <<< (y &&& 31)) :: st) T M) : G X B nL Z Q (pc) lo (.int y :: .int x :: st) T M := by
  obtain ⟨p, l, e, R, s, m, args, below, meth, c⟩ := X
  intro H locs ls hl hP hS h1 h2 h3 h4
  exact lv_ishl C.1 C.2.1 hd (kk H locs ls hl hP hS h1 h2 h3 h4)
theorem g_ishr {X : Fx} {B : Bx} {cc : ByteArray} {nL : Nat} {own : String} {d : Nat} {Z : Nat × Nat × Nat × Nat} {Q : State → Prop} {pc : Nat} {lo : List (Nat × Value)} {st : List Value} {T : Sh} {M : Me} {x y : Int32} (C : Cx X B cc nL own d Z) (hd : decode cc pc = .ok (.ishr, 1)) 
    (kk : G X B nL Z Q (pc + 1) lo (.int (x >>> (y &&& 31)) :: st) T M) : G X B nL Z Q (pc) lo (.int y :: .int x :: st) T M := by
  obtain ⟨p, l, e, R, s, m, args, below, meth, c⟩ := X
  intro H locs ls hl hP hS h1 h2 h3 h4
  exact lv_ishr C.1 C.2.1 hd (kk H locs ls hl hP hS h1 h2 h3 h4)
theorem g_idiv {X : Fx} {B : Bx} {cc : ByteArray} {nL : Nat} {own : String} {d : Nat} {Z : Nat × Nat × Nat × Nat} {Q : State → Prop} {pc : Nat} {lo : List (Nat × Value)} {st : List Value} {T : Sh} {M : Me} {x y : Int32} (C : Cx X B cc nL own d Z) (hd : decode cc pc = .ok (.idiv, 1)) (hy : ¬ y = 0)
    (kk : G X B nL Z Q (pc + 1) lo (.int (x / y) :: st) T M) : G X B nL Z Q (pc) lo (.int y :: .int x :: st) T M := by
  obtain ⟨p, l, e, R, s, m, args, below, meth, c⟩ := X
  intro H locs ls hl hP hS h1 h2 h3 h4
  exact lv_idiv C.1 C.2.1 hd hy (kk H locs ls hl hP hS h1 h2 h3 h4)
theorem g_irem {X : Fx} {B : Bx} {cc : ByteArray} {nL : Nat} {own : String} {d : Nat} {Z : Nat × Nat × Nat × Nat} {Q : State → Prop} {pc : Nat} {lo : List (Nat × Value)} {st : List Value} {T : Sh} {M : Me} {x y : Int32} (C : Cx X B cc nL own d Z) (hd : decode cc pc = .ok (.irem, 1)) (hy : ¬ y = 0)
    (kk : G X B nL Z Q (pc + 1) lo (.int (x - x / y * y) :: st) T M) : G X B nL Z Q (pc) lo (.int y :: .int x :: st) T M := by
  obtain ⟨p, l, e, R, s, m, args, below, meth, c⟩ := X
  intro H locs ls hl hP hS h1 h2 h3 h4
  exact lv_irem C.1 C.2.1 hd hy (kk H locs ls hl hP hS h1 h2 h3 h4)
theorem g_ineg {X : Fx} {B : Bx} {cc : ByteArray} {nL : Nat} {own : String} {d : Nat} {Z : Nat × Nat × Nat × Nat} {Q : State → Prop} {pc : Nat} {lo : List (Nat × Value)} {st : List Value} {T : Sh} {M : Me} {x : Int32} (C : Cx X B cc nL own d Z) (hd : decode cc pc = .ok (.ineg, 1)) 
    (kk : G X B nL Z Q (pc + 1) lo (.int (-x) :: st) T M) : G X B nL Z Q (pc) lo (.int x :: st) T M := by
  obtain ⟨p, l, e, R, s, m, args, below, meth, c⟩ := X
  intro H locs ls hl hP hS h1 h2 h3 h4
  exact lv_ineg C.1 C.2.1 hd (kk H locs ls hl hP hS h1 h2 h3 h4)
theorem g_iushr {X : Fx} {B : Bx} {cc : ByteArray} {nL : Nat} {own : String} {d : Nat} {Z : Nat × Nat × Nat × Nat} {Q : State → Prop} {pc : Nat} {lo : List (Nat × Value)} {st : List Value} {T : Sh} {M : Me} {x y : Int32} (C : Cx X B cc nL own d Z) (hd : decode cc pc = .ok (.iushr, 1)) 
    (kk : G X B nL Z Q (pc + 1) lo (.int ((x.toUInt32 >>> (y.toUInt32 &&& Int32.toUInt32 31)).toInt32) :: st) T M) : G X B nL Z Q (pc) lo (.int y :: .int x :: st) T M := by
  obtain ⟨p, l, e, R, s, m, args, below, meth, c⟩ := X
  intro H locs ls hl hP hS h1 h2 h3 h4
  exact lv_iushr C.1 C.2.1 hd rfl (kk H locs ls hl hP hS h1 h2 h3 h4)
theorem g_ladd {X : Fx} {B : Bx} {cc : ByteArray} {nL : Nat} {own : String} {d : Nat} {Z : Nat × Nat × Nat × Nat} {Q : State → Prop} {pc : Nat} {lo : List (Nat × Value)} {st : List Value} {T : Sh} {M : Me} {x y : Int64} (C : Cx X B cc nL own d Z) (hd : decode cc pc = .ok (.ladd, 1)) 
    (kk : G X B nL Z Q (pc + 1) lo (.long (x + y) :: st) T M) : G X B nL Z Q (pc) lo (.long y :: .long x :: st) T M := by
  obtain ⟨p, l, e, R, s, m, args, below, meth, c⟩ := X
  intro H locs ls hl hP hS h1 h2 h3 h4
  exact lv_ladd C.1 C.2.1 hd (kk H locs ls hl hP hS h1 h2 h3 h4)
theorem g_lsub {X : Fx} {B : Bx} {cc : ByteArray} {nL : Nat} {own : String} {d : Nat} {Z : Nat × Nat × Nat × Nat} {Q : State → Prop} {pc : Nat} {lo : List (Nat × Value)} {st : List Value} {T : Sh} {M : Me} {x y : Int64} (C : Cx X B cc nL own d Z) (hd : decode cc pc = .ok (.lsub, 1)) 
    (kk : G X B nL Z Q (pc + 1) lo (.long (x - y) :: st) T M) : G X B nL Z Q (pc) lo (.long y :: .long x :: st) T M := by
  obtain ⟨p, l, e, R, s, m, args, below, meth, c⟩ := X
  intro H locs ls hl hP hS h1 h2 h3 h4
  exact lv_lsub C.1 C.2.1 hd (kk H locs ls hl hP hS h1 h2 h3 h4)
theorem g_lmul {X : Fx} {B : Bx} {cc : ByteArray} {nL : Nat} {own : String} {d : Nat} {Z : Nat × Nat × Nat × Nat} {Q : State → Prop} {pc : Nat} {lo : List (Nat × Value)} {st : List Value} {T : Sh} {M : Me} {x y : Int64} (C : Cx X B cc nL own d Z) (hd : decode cc pc = .ok (.lmul, 1)) 
    (kk : G X B nL Z Q (pc + 1) lo (.long (x * y) :: st) T M) : G X B nL Z Q (pc) lo (.long y :: .long x :: st) T M := by
  obtain ⟨p, l, e, R, s, m, args, below, meth, c⟩ := X
  intro H locs ls hl hP hS h1 h2 h3 h4
  exact lv_lmul C.1 C.2.1 hd (kk H locs ls hl hP hS h1 h2 h3 h4)
theorem g_land {X : Fx} {B : Bx} {cc : ByteArray} {nL : Nat} {own : String} {d : Nat} {Z : Nat × Nat × Nat × Nat} {Q : State → Prop} {pc : Nat} {lo : List (Nat × Value)} {st : List Value} {T : Sh} {M : Me} {x y : Int64} (C : Cx X B cc nL own d Z) (hd : decode cc pc = .ok (.land, 1)) 
    (kk : G X B nL Z Q (pc + 1) lo (.long (x &&& y) :: st) T M) : G X B nL Z Q (pc) lo (.long y :: .long x :: st) T M := by
  obtain ⟨p, l, e, R, s, m, args, below, meth, c⟩ := X
  intro H locs ls hl hP hS h1 h2 h3 h4
  exact lv_land C.1 C.2.1 hd (kk H locs ls hl hP hS h1 h2 h3 h4)
theorem g_lor {X : Fx} {B : Bx} {cc : ByteArray} {nL : Nat} {own : String} {d : Nat} {Z : Nat × Nat × Nat × Nat} {Q : State → Prop} {pc : Nat} {lo : List (Nat × Value)} {st : List Value} {T : Sh} {M : Me} {x y : Int64} (C : Cx X B cc nL own d Z) (hd : decode cc pc = .ok (.lor, 1)) 
    (kk : G X B nL Z Q (pc + 1) lo (.long (x ||| y) :: st) T M) : G X B nL Z Q (pc) lo (.long y :: .long x :: st) T M := by
  obtain ⟨p, l, e, R, s, m, args, below, meth, c⟩ := X
  intro H locs ls hl hP hS h1 h2 h3 h4
  exact lv_lor C.1 C.2.1 hd (kk H locs ls hl hP hS h1 h2 h3 h4)
theorem g_ldiv {X : Fx} {B : Bx} {cc : ByteArray} {nL : Nat} {own : String} {d : Nat} {Z : Nat × Nat × Nat × Nat} {Q : State → Prop} {pc : Nat} {lo : List (Nat × Value)} {st : List Value} {T : Sh} {M : Me} {x y : Int64} (C : Cx X B cc nL own d Z) (hd : decode cc pc = .ok (.ldiv, 1)) (hy : ¬ y = 0)
    (kk : G X B nL Z Q (pc + 1) lo (.long (x / y) :: st) T M) : G X B nL Z Q (pc) lo (.long y :: .long x :: st) T M := by
  obtain ⟨p, l, e, R, s, m, args, below, meth, c⟩ := X
  intro H locs ls hl hP hS h1 h2 h3 h4
  exact lv_ldiv C.1 C.2.1 hd hy (kk H locs ls hl hP hS h1 h2 h3 h4)
theorem g_lrem {X : Fx} {B : Bx} {cc : ByteArray} {nL : Nat} {own : String} {d : Nat} {Z : Nat × Nat × Nat × Nat} {Q : State → Prop} {pc : Nat} {lo : List (Nat × Value)} {st : List Value} {T : Sh} {M : Me} {x y : Int64} (C : Cx X B cc nL own d Z) (hd : decode cc pc = .ok (.lrem, 1)) (hy : ¬ y = 0)
    (kk : G X B nL Z Q (pc + 1) lo (.long (x - x / y * y) :: st) T M) : G X B nL Z Q (pc) lo (.long y :: .long x :: st) T M := by
  obtain ⟨p, l, e, R, s, m, args, below, meth, c⟩ := X
  intro H locs ls hl hP hS h1 h2 h3 h4
  exact lv_lrem C.1 C.2.1 hd hy (kk H locs ls hl hP hS h1 h2 h3 h4)
theorem g_lneg {X : Fx} {B : Bx} {cc : ByteArray} {nL : Nat} {own : String} {d : Nat} {Z : Nat × Nat × Nat × Nat} {Q : State → Prop} {pc : Nat} {lo : List (Nat × Value)} {st : List Value} {T : Sh} {M : Me} {x : Int64} (C : Cx X B cc nL own d Z) (hd : decode cc pc = .ok (.lneg, 1)) 
    (kk : G X B nL Z Q (pc + 1) lo (.long (-x) :: st) T M) : G X B nL Z Q (pc) lo (.long x :: st) T M := by
  obtain ⟨p, l, e, R, s, m, args, below, meth, c⟩ := X
  intro H locs ls hl hP hS h1 h2 h3 h4
  exact lv_lneg C.1 C.2.1 hd (kk H locs ls hl hP hS h1 h2 h3 h4)
theorem g_lshl {X : Fx} {B : Bx} {cc : ByteArray} {nL : Nat} {own : String} {d : Nat} {Z : Nat × Nat × Nat × Nat} {Q : State → Prop} {pc : Nat} {lo : List (Nat × Value)} {st : List Value} {T : Sh} {M : Me} {x : Int64} {y : Int32} (C : Cx X B cc nL own d Z) (hd : decode cc pc = .ok (.lshl, 1)) 
    (kk : G X B nL Z Q (pc + 1) lo (.long (x <<< (y.toInt64 &&& 63)) :: st) T M) : G X B nL Z Q (pc) lo (.int y :: .long x :: st) T M := by
  obtain ⟨p, l, e, R, s, m, args, below, meth, c⟩ := X
  intro H locs ls hl hP hS h1 h2 h3 h4
  exact lv_lshl C.1 C.2.1 hd rfl (kk H locs ls hl hP hS h1 h2 h3 h4)
theorem g_lshr {X : Fx} {B : Bx} {cc : ByteArray} {nL : Nat} {own : String} {d : Nat} {Z : Nat × Nat × Nat × Nat} {Q : State → Prop} {pc : Nat} {lo : List (Nat × Value)} {st : List Value} {T : Sh} {M : Me} {x : Int64} {y : Int32} (C : Cx X B cc nL own d Z) (hd : decode cc pc = .ok (.lshr, 1)) 
    (kk : G X B nL Z Q (pc + 1) lo (.long (x >>> (y.toInt64 &&& 63)) :: st) T M) : G X B nL Z Q (pc) lo (.int y :: .long x :: st) T M := by
  obtain ⟨p, l, e, R, s, m, args, below, meth, c⟩ := X
  intro H locs ls hl hP hS h1 h2 h3 h4
  exact lv_lshr C.1 C.2.1 hd rfl (kk H locs ls hl hP hS h1 h2 h3 h4)
theorem g_i2l {X : Fx} {B : Bx} {cc : ByteArray} {nL : Nat} {own : String} {d : Nat} {Z : Nat × Nat × Nat × Nat} {Q : State → Prop} {pc : Nat} {lo : List (Nat × Value)} {st : List Value} {T : Sh} {M : Me} {x : Int32} (C : Cx X B cc nL own d Z) (hd : decode cc pc = .ok (.i2l, 1)) 
    (kk : G X B nL Z Q (pc + 1) lo (.long x.toInt64 :: st) T M) : G X B nL Z Q (pc) lo (.int x :: st) T M := by
  obtain ⟨p, l, e, R, s, m, args, below, meth, c⟩ := X
  intro H locs ls hl hP hS h1 h2 h3 h4
  exact lv_i2l C.1 C.2.1 hd rfl (kk H locs ls hl hP hS h1 h2 h3 h4)
theorem g_l2i {X : Fx} {B : Bx} {cc : ByteArray} {nL : Nat} {own : String} {d : Nat} {Z : Nat × Nat × Nat × Nat} {Q : State → Prop} {pc : Nat} {lo : List (Nat × Value)} {st : List Value} {T : Sh} {M : Me} {x : Int64} (C : Cx X B cc nL own d Z) (hd : decode cc pc = .ok (.l2i, 1)) 
    (kk : G X B nL Z Q (pc + 1) lo (.int x.toInt32 :: st) T M) : G X B nL Z Q (pc) lo (.long x :: st) T M := by
  obtain ⟨p, l, e, R, s, m, args, below, meth, c⟩ := X
  intro H locs ls hl hP hS h1 h2 h3 h4
  exact lv_l2i C.1 C.2.1 hd rfl (kk H locs ls hl hP hS h1 h2 h3 h4)
theorem g_i2b {X : Fx} {B : Bx} {cc : ByteArray} {nL : Nat} {own : String} {d : Nat} {Z : Nat × Nat × Nat × Nat} {Q : State → Prop} {pc : Nat} {lo : List (Nat × Value)} {st : List Value} {T : Sh} {M : Me} {x : Int32} (C : Cx X B cc nL own d Z) (hd : decode cc pc = .ok (.i2b, 1)) 
    (kk : G X B nL Z Q (pc + 1) lo (.int x.toInt8.toInt32 :: st) T M) : G X B nL Z Q (pc) lo (.int x :: st) T M := by
  obtain ⟨p, l, e, R, s, m, args, below, meth, c⟩ := X
  intro H locs ls hl hP hS h1 h2 h3 h4
  exact lv_i2b C.1 C.2.1 hd rfl (kk H locs ls hl hP hS h1 h2 h3 h4)
theorem g_i2s {X : Fx} {B : Bx} {cc : ByteArray} {nL : Nat} {own : String} {d : Nat} {Z : Nat × Nat × Nat × Nat} {Q : State → Prop} {pc : Nat} {lo : List (Nat × Value)} {st : List Value} {T : Sh} {M : Me} {x : Int32} (C : Cx X B cc nL own d Z) (hd : decode cc pc = .ok (.i2s, 1)) 
    (kk : G X B nL Z Q (pc + 1) lo (.int x.toInt16.toInt32 :: st) T M) : G X B nL Z Q (pc) lo (.int x :: st) T M := by
  obtain ⟨p, l, e, R, s, m, args, below, meth, c⟩ := X
  intro H locs ls hl hP hS h1 h2 h3 h4
  exact lv_i2s C.1 C.2.1 hd rfl (kk H locs ls hl hP hS h1 h2 h3 h4)
theorem g_i2c {X : Fx} {B : Bx} {cc : ByteArray} {nL : Nat} {own : String} {d : Nat} {Z : Nat × Nat × Nat × Nat} {Q : State → Prop} {pc : Nat} {lo : List (Nat × Value)} {st : List Value} {T : Sh} {M : Me} {x : Int32} (C : Cx X B cc nL own d Z) (hd : decode cc pc = .ok (.i2c, 1)) 
    (kk : G X B nL Z Q (pc + 1) lo (.int (x.toUInt32 % 65536).toInt32 :: st) T M) : G X B nL Z Q (pc) lo (.int x :: st) T M := by
  obtain ⟨p, l, e, R, s, m, args, below, meth, c⟩ := X
  intro H locs ls hl hP hS h1 h2 h3 h4
  exact lv_i2c C.1 C.2.1 hd rfl (kk H locs ls hl hP hS h1 h2 h3 h4)
theorem g_lcmp {X : Fx} {B : Bx} {cc : ByteArray} {nL : Nat} {own : String} {d : Nat} {Z : Nat × Nat × Nat × Nat} {Q : State → Prop} {pc : Nat} {lo : List (Nat × Value)} {st : List Value} {T : Sh} {M : Me} {x y : Int64} (C : Cx X B cc nL own d Z) (hd : decode cc pc = .ok (.lcmp, 1)) 
    (kk : G X B nL Z Q (pc + 1) lo (.int (lg_cmp x y) :: st) T M) : G X B nL Z Q (pc) lo (.long y :: .long x :: st) T M := by
  obtain ⟨p, l, e, R, s, m, args, below, meth, c⟩ := X
  intro H locs ls hl hP hS h1 h2 h3 h4
  exact W.lcmp C.1 C.2.1 hd (kk H locs ls hl hP hS h1 h2 h3 h4)
theorem g_dup {X : Fx} {B : Bx} {cc : ByteArray} {nL : Nat} {own : String} {d : Nat} {Z : Nat × Nat × Nat × Nat} {Q : State → Prop} {pc : Nat} {lo : List (Nat × Value)} {st : List Value} {T : Sh} {M : Me} {va : Value} (C : Cx X B cc nL own d Z) (hd : decode cc pc = .ok (.dup, 1)) (ha : va.category = 1)
    (kk : G X B nL Z Q (pc + 1) lo (va :: va :: st) T M) : G X B nL Z Q (pc) lo (va :: st) T M := by
  obtain ⟨p, l, e, R, s, m, args, below, meth, c⟩ := X
  intro H locs ls hl hP hS h1 h2 h3 h4
  exact lv_dup C.1 C.2.1 hd ha (kk H locs ls hl hP hS h1 h2 h3 h4)
theorem g_pop {X : Fx} {B : Bx} {cc : ByteArray} {nL : Nat} {own : String} {d : Nat} {Z : Nat × Nat × Nat × Nat} {Q : State → Prop} {pc : Nat} {lo : List (Nat × Value)} {st : List Value} {T : Sh} {M : Me} {va : Value} (C : Cx X B cc nL own d Z) (hd : decode cc pc = .ok (.pop, 1)) (ha : va.category = 1)
    (kk : G X B nL Z Q (pc + 1) lo st T M) : G X B nL Z Q (pc) lo (va :: st) T M := by
  obtain ⟨p, l, e, R, s, m, args, below, meth, c⟩ := X
  intro H locs ls hl hP hS h1 h2 h3 h4
  exact lv_pop C.1 C.2.1 hd ha (kk H locs ls hl hP hS h1 h2 h3 h4)
theorem g_dup_x1 {X : Fx} {B : Bx} {cc : ByteArray} {nL : Nat} {own : String} {d : Nat} {Z : Nat × Nat × Nat × Nat} {Q : State → Prop} {pc : Nat} {lo : List (Nat × Value)} {st : List Value} {T : Sh} {M : Me} {va vb : Value} (C : Cx X B cc nL own d Z) (hd : decode cc pc = .ok (.dup_x1, 1)) (ha : va.category = 1) (hb : vb.category = 1)
    (kk : G X B nL Z Q (pc + 1) lo (va :: vb :: va :: st) T M) : G X B nL Z Q (pc) lo (va :: vb :: st) T M := by
  obtain ⟨p, l, e, R, s, m, args, below, meth, c⟩ := X
  intro H locs ls hl hP hS h1 h2 h3 h4
  exact lv_dup_x1 C.1 C.2.1 hd ha hb (kk H locs ls hl hP hS h1 h2 h3 h4)
theorem g_dup2 {X : Fx} {B : Bx} {cc : ByteArray} {nL : Nat} {own : String} {d : Nat} {Z : Nat × Nat × Nat × Nat} {Q : State → Prop} {pc : Nat} {lo : List (Nat × Value)} {st : List Value} {T : Sh} {M : Me} {va vb : Value} (C : Cx X B cc nL own d Z) (hd : decode cc pc = .ok (.dup2, 1)) (ha : va.category = 1) (hb : vb.category = 1)
    (kk : G X B nL Z Q (pc + 1) lo (va :: vb :: va :: vb :: st) T M) : G X B nL Z Q (pc) lo (va :: vb :: st) T M := by
  obtain ⟨p, l, e, R, s, m, args, below, meth, c⟩ := X
  intro H locs ls hl hP hS h1 h2 h3 h4
  exact lv_dup2_11 C.1 C.2.1 hd ha hb (kk H locs ls hl hP hS h1 h2 h3 h4)
theorem g_ldc {X : Fx} {B : Bx} {cc : ByteArray} {nL : Nat} {own : String} {d : Nat} {Z : Nat × Nat × Nat × Nat} {Q : State → Prop} {pc : Nat} {lo : List (Nat × Value)} {st : List Value} {T : Sh} {M : Me} {i : Nat} {v : Int32} (C : Cx X B cc nL own d Z) (hd : decode cc pc = .ok (.ldc i, 2)) (hw : Cond.constant own i v ∈ lw_gd)
    (kk : G X B nL Z Q (pc + 2) lo (.int v :: st) T M) : G X B nL Z Q (pc) lo st T M := by
  obtain ⟨p, l, e, R, s, m, args, below, meth, c⟩ := X
  intro H locs ls hl hP hS h1 h2 h3 h4
  exact lv_ldc C.1 C.2.1 C.2.2.2.1 (C.2.2.2.2.1 _ hw) hd (kk H locs ls hl hP hS h1 h2 h3 h4)
theorem g_ldcw {X : Fx} {B : Bx} {cc : ByteArray} {nL : Nat} {own : String} {d : Nat} {Z : Nat × Nat × Nat × Nat} {Q : State → Prop} {pc : Nat} {lo : List (Nat × Value)} {st : List Value} {T : Sh} {M : Me} {i : Nat} {v : Int32} (C : Cx X B cc nL own d Z) (hd : decode cc pc = .ok (.ldc_w i, 3)) (hw : Cond.constant own i v ∈ lw_gd)
    (kk : G X B nL Z Q (pc + 3) lo (.int v :: st) T M) : G X B nL Z Q (pc) lo st T M := by
  obtain ⟨p, l, e, R, s, m, args, below, meth, c⟩ := X
  intro H locs ls hl hP hS h1 h2 h3 h4
  exact lv_ldcw C.1 C.2.1 C.2.2.2.1 (C.2.2.2.2.1 _ hw) hd (kk H locs ls hl hP hS h1 h2 h3 h4)
theorem g_ldc2 {X : Fx} {B : Bx} {cc : ByteArray} {nL : Nat} {own : String} {d : Nat} {Z : Nat × Nat × Nat × Nat} {Q : State → Prop} {pc : Nat} {lo : List (Nat × Value)} {st : List Value} {T : Sh} {M : Me} {i : Nat} {v : Int64} (C : Cx X B cc nL own d Z) (hd : decode cc pc = .ok (.ldc2_w i, 3)) (hw : Cond.constantLong own i v ∈ lw_gd)
    (kk : G X B nL Z Q (pc + 3) lo (.long v :: st) T M) : G X B nL Z Q (pc) lo st T M := by
  obtain ⟨p, l, e, R, s, m, args, below, meth, c⟩ := X
  intro H locs ls hl hP hS h1 h2 h3 h4
  exact lv_ldc2 C.1 C.2.1 C.2.2.2.1 (C.2.2.2.2.1 _ hw) hd (kk H locs ls hl hP hS h1 h2 h3 h4)
theorem g_if_eq {X : Fx} {B : Bx} {cc : ByteArray} {nL : Nat} {own : String} {d : Nat} {Z : Nat × Nat × Nat × Nat} {Q : State → Prop} {pc : Nat} {lo : List (Nat × Value)} {st : List Value} {T : Sh} {M : Me} {x : Int32} {off : Int} {tgt : Nat} (C : Cx X B cc nL own d Z) (hd : decode cc pc = .ok (.ifCond .eq off, 3)) (ht : (pc : Int) + off = (tgt : Int))
    (kt : (x = 0) → G X B nL Z Q (tgt) lo st T M) (kf : ¬ (x = 0) → G X B nL Z Q (pc + 3) lo st T M) : G X B nL Z Q (pc) lo (.int x :: st) T M := by
  obtain ⟨p, l, e, R, s, m, args, below, meth, c⟩ := X
  intro H locs ls hl hP hS h1 h2 h3 h4
  exact lv_if_eq C.1 C.2.1 hd ht (fun q => kt q H locs ls hl hP hS h1 h2 h3 h4) (fun q => kf q H locs ls hl hP hS h1 h2 h3 h4)
theorem g_icmp_eq {X : Fx} {B : Bx} {cc : ByteArray} {nL : Nat} {own : String} {d : Nat} {Z : Nat × Nat × Nat × Nat} {Q : State → Prop} {pc : Nat} {lo : List (Nat × Value)} {st : List Value} {T : Sh} {M : Me} {x y : Int32} {off : Int} {tgt : Nat} (C : Cx X B cc nL own d Z) (hd : decode cc pc = .ok (.if_icmp .eq off, 3)) (ht : (pc : Int) + off = (tgt : Int))
    (kt : (x = y) → G X B nL Z Q (tgt) lo st T M) (kf : ¬ (x = y) → G X B nL Z Q (pc + 3) lo st T M) : G X B nL Z Q (pc) lo (.int y :: .int x :: st) T M := by
  obtain ⟨p, l, e, R, s, m, args, below, meth, c⟩ := X
  intro H locs ls hl hP hS h1 h2 h3 h4
  exact lv_icmp_eq C.1 C.2.1 hd ht (fun q => kt q H locs ls hl hP hS h1 h2 h3 h4) (fun q => kf q H locs ls hl hP hS h1 h2 h3 h4)
theorem g_if_ne {X : Fx} {B : Bx} {cc : ByteArray} {nL : Nat} {own : String} {d : Nat} {Z : Nat × Nat × Nat × Nat} {Q : State → Prop} {pc : Nat} {lo : List (Nat × Value)} {st : List Value} {T : Sh} {M : Me} {x : Int32} {off : Int} {tgt : Nat} (C : Cx X B cc nL own d Z) (hd : decode cc pc = .ok (.ifCond .ne off, 3)) (ht : (pc : Int) + off = (tgt : Int))
    (kt : (¬ x = 0) → G X B nL Z Q (tgt) lo st T M) (kf : (x = 0) → G X B nL Z Q (pc + 3) lo st T M) : G X B nL Z Q (pc) lo (.int x :: st) T M := by
  obtain ⟨p, l, e, R, s, m, args, below, meth, c⟩ := X
  intro H locs ls hl hP hS h1 h2 h3 h4
  exact lv_if_ne C.1 C.2.1 hd ht (fun q => kt q H locs ls hl hP hS h1 h2 h3 h4) (fun q => kf q H locs ls hl hP hS h1 h2 h3 h4)
theorem g_icmp_ne {X : Fx} {B : Bx} {cc : ByteArray} {nL : Nat} {own : String} {d : Nat} {Z : Nat × Nat × Nat × Nat} {Q : State → Prop} {pc : Nat} {lo : List (Nat × Value)} {st : List Value} {T : Sh} {M : Me} {x y : Int32} {off : Int} {tgt : Nat} (C : Cx X B cc nL own d Z) (hd : decode cc pc = .ok (.if_icmp .ne off, 3)) (ht : (pc : Int) + off = (tgt : Int))
    (kt : (¬ x = y) → G X B nL Z Q (tgt) lo st T M) (kf : (x = y) → G X B nL Z Q (pc + 3) lo st T M) : G X B nL Z Q (pc) lo (.int y :: .int x :: st) T M := by
  obtain ⟨p, l, e, R, s, m, args, below, meth, c⟩ := X
  intro H locs ls hl hP hS h1 h2 h3 h4
  exact lv_icmp_ne C.1 C.2.1 hd ht (fun q => kt q H locs ls hl hP hS h1 h2 h3 h4) (fun q => kf q H locs ls hl hP hS h1 h2 h3 h4)
theorem g_if_lt {X : Fx} {B : Bx} {cc : ByteArray} {nL : Nat} {own : String} {d : Nat} {Z : Nat × Nat × Nat × Nat} {Q : State → Prop} {pc : Nat} {lo : List (Nat × Value)} {st : List Value} {T : Sh} {M : Me} {x : Int32} {off : Int} {tgt : Nat} (C : Cx X B cc nL own d Z) (hd : decode cc pc = .ok (.ifCond .lt off, 3)) (ht : (pc : Int) + off = (tgt : Int))
    (kt : (x < 0) → G X B nL Z Q (tgt) lo st T M) (kf : ¬ (x < 0) → G X B nL Z Q (pc + 3) lo st T M) : G X B nL Z Q (pc) lo (.int x :: st) T M := by
  obtain ⟨p, l, e, R, s, m, args, below, meth, c⟩ := X
  intro H locs ls hl hP hS h1 h2 h3 h4
  exact lv_if_lt C.1 C.2.1 hd ht (fun q => kt q H locs ls hl hP hS h1 h2 h3 h4) (fun q => kf q H locs ls hl hP hS h1 h2 h3 h4)
theorem g_icmp_lt {X : Fx} {B : Bx} {cc : ByteArray} {nL : Nat} {own : String} {d : Nat} {Z : Nat × Nat × Nat × Nat} {Q : State → Prop} {pc : Nat} {lo : List (Nat × Value)} {st : List Value} {T : Sh} {M : Me} {x y : Int32} {off : Int} {tgt : Nat} (C : Cx X B cc nL own d Z) (hd : decode cc pc = .ok (.if_icmp .lt off, 3)) (ht : (pc : Int) + off = (tgt : Int))
    (kt : (x < y) → G X B nL Z Q (tgt) lo st T M) (kf : ¬ (x < y) → G X B nL Z Q (pc + 3) lo st T M) : G X B nL Z Q (pc) lo (.int y :: .int x :: st) T M := by
  obtain ⟨p, l, e, R, s, m, args, below, meth, c⟩ := X
  intro H locs ls hl hP hS h1 h2 h3 h4
  exact lv_icmp_lt C.1 C.2.1 hd ht (fun q => kt q H locs ls hl hP hS h1 h2 h3 h4) (fun q => kf q H locs ls hl hP hS h1 h2 h3 h4)
theorem g_if_ge {X : Fx} {B : Bx} {cc : ByteArray} {nL : Nat} {own : String} {d : Nat} {Z : Nat × Nat × Nat × Nat} {Q : State → Prop} {pc : Nat} {lo : List (Nat × Value)} {st : List Value} {T : Sh} {M : Me} {x : Int32} {off : Int} {tgt : Nat} (C : Cx X B cc nL own d Z) (hd : decode cc pc = .ok (.ifCond .ge off, 3)) (ht : (pc : Int) + off = (tgt : Int))
    (kt : (0 ≤ x) → G X B nL Z Q (tgt) lo st T M) (kf : ¬ (0 ≤ x) → G X B nL Z Q (pc + 3) lo st T M) : G X B nL Z Q (pc) lo (.int x :: st) T M := by
  obtain ⟨p, l, e, R, s, m, args, below, meth, c⟩ := X
  intro H locs ls hl hP hS h1 h2 h3 h4
  exact lv_if_ge C.1 C.2.1 hd ht (fun q => kt q H locs ls hl hP hS h1 h2 h3 h4) (fun q => kf q H locs ls hl hP hS h1 h2 h3 h4)
theorem g_icmp_ge {X : Fx} {B : Bx} {cc : ByteArray} {nL : Nat} {own : String} {d : Nat} {Z : Nat × Nat × Nat × Nat} {Q : State → Prop} {pc : Nat} {lo : List (Nat × Value)} {st : List Value} {T : Sh} {M : Me} {x y : Int32} {off : Int} {tgt : Nat} (C : Cx X B cc nL own d Z) (hd : decode cc pc = .ok (.if_icmp .ge off, 3)) (ht : (pc : Int) + off = (tgt : Int))
    (kt : (y ≤ x) → G X B nL Z Q (tgt) lo st T M) (kf : ¬ (y ≤ x) → G X B nL Z Q (pc + 3) lo st T M) : G X B nL Z Q (pc) lo (.int y :: .int x :: st) T M := by
  obtain ⟨p, l, e, R, s, m, args, below, meth, c⟩ := X
  intro H locs ls hl hP hS h1 h2 h3 h4
  exact lv_icmp_ge C.1 C.2.1 hd ht (fun q => kt q H locs ls hl hP hS h1 h2 h3 h4) (fun q => kf q H locs ls hl hP hS h1 h2 h3 h4)
theorem g_if_gt {X : Fx} {B : Bx} {cc : ByteArray} {nL : Nat} {own : String} {d : Nat} {Z : Nat × Nat × Nat × Nat} {Q : State → Prop} {pc : Nat} {lo : List (Nat × Value)} {st : List Value} {T : Sh} {M : Me} {x : Int32} {off : Int} {tgt : Nat} (C : Cx X B cc nL own d Z) (hd : decode cc pc = .ok (.ifCond .gt off, 3)) (ht : (pc : Int) + off = (tgt : Int))
    (kt : (0 < x) → G X B nL Z Q (tgt) lo st T M) (kf : ¬ (0 < x) → G X B nL Z Q (pc + 3) lo st T M) : G X B nL Z Q (pc) lo (.int x :: st) T M := by
  obtain ⟨p, l, e, R, s, m, args, below, meth, c⟩ := X
  intro H locs ls hl hP hS h1 h2 h3 h4
  exact lv_if_gt C.1 C.2.1 hd ht (fun q => kt q H locs ls hl hP hS h1 h2 h3 h4) (fun q => kf q H locs ls hl hP hS h1 h2 h3 h4)
theorem g_icmp_gt {X : Fx} {B : Bx} {cc : ByteArray} {nL : Nat} {own : String} {d : Nat} {Z : Nat × Nat × Nat × Nat} {Q : State → Prop} {pc : Nat} {lo : List (Nat × Value)} {st : List Value} {T : Sh} {M : Me} {x y : Int32} {off : Int} {tgt : Nat} (C : Cx X B cc nL own d Z) (hd : decode cc pc = .ok (.if_icmp .gt off, 3)) (ht : (pc : Int) + off = (tgt : Int))
    (kt : (y < x) → G X B nL Z Q (tgt) lo st T M) (kf : ¬ (y < x) → G X B nL Z Q (pc + 3) lo st T M) : G X B nL Z Q (pc) lo (.int y :: .int x :: st) T M := by
  obtain ⟨p, l, e, R, s, m, args, below, meth, c⟩ := X
  intro H locs ls hl hP hS h1 h2 h3 h4
  exact lv_icmp_gt C.1 C.2.1 hd ht (fun q => kt q H locs ls hl hP hS h1 h2 h3 h4) (fun q => kf q H locs ls hl hP hS h1 h2 h3 h4)
theorem g_if_le {X : Fx} {B : Bx} {cc : ByteArray} {nL : Nat} {own : String} {d : Nat} {Z : Nat × Nat × Nat × Nat} {Q : State → Prop} {pc : Nat} {lo : List (Nat × Value)} {st : List Value} {T : Sh} {M : Me} {x : Int32} {off : Int} {tgt : Nat} (C : Cx X B cc nL own d Z) (hd : decode cc pc = .ok (.ifCond .le off, 3)) (ht : (pc : Int) + off = (tgt : Int))
    (kt : (x ≤ 0) → G X B nL Z Q (tgt) lo st T M) (kf : ¬ (x ≤ 0) → G X B nL Z Q (pc + 3) lo st T M) : G X B nL Z Q (pc) lo (.int x :: st) T M := by
  obtain ⟨p, l, e, R, s, m, args, below, meth, c⟩ := X
  intro H locs ls hl hP hS h1 h2 h3 h4
  exact lv_if_le C.1 C.2.1 hd ht (fun q => kt q H locs ls hl hP hS h1 h2 h3 h4) (fun q => kf q H locs ls hl hP hS h1 h2 h3 h4)
theorem g_icmp_le {X : Fx} {B : Bx} {cc : ByteArray} {nL : Nat} {own : String} {d : Nat} {Z : Nat × Nat × Nat × Nat} {Q : State → Prop} {pc : Nat} {lo : List (Nat × Value)} {st : List Value} {T : Sh} {M : Me} {x y : Int32} {off : Int} {tgt : Nat} (C : Cx X B cc nL own d Z) (hd : decode cc pc = .ok (.if_icmp .le off, 3)) (ht : (pc : Int) + off = (tgt : Int))
    (kt : (x ≤ y) → G X B nL Z Q (tgt) lo st T M) (kf : ¬ (x ≤ y) → G X B nL Z Q (pc + 3) lo st T M) : G X B nL Z Q (pc) lo (.int y :: .int x :: st) T M := by
  obtain ⟨p, l, e, R, s, m, args, below, meth, c⟩ := X
  intro H locs ls hl hP hS h1 h2 h3 h4
  exact lv_icmp_le C.1 C.2.1 hd ht (fun q => kt q H locs ls hl hP hS h1 h2 h3 h4) (fun q => kf q H locs ls hl hP hS h1 h2 h3 h4)
theorem g_goto {X : Fx} {B : Bx} {cc : ByteArray} {nL : Nat} {own : String} {d : Nat} {Z : Nat × Nat × Nat × Nat} {Q : State → Prop} {pc : Nat} {lo : List (Nat × Value)} {st : List Value} {T : Sh} {M : Me} {off : Int} {tgt : Nat} (C : Cx X B cc nL own d Z) (hd : decode cc pc = .ok (.goto off, 3)) (ht : (pc : Int) + off = (tgt : Int))
    (kk : G X B nL Z Q (tgt) lo st T M) : G X B nL Z Q (pc) lo st T M := by
  obtain ⟨p, l, e, R, s, m, args, below, meth, c⟩ := X
  intro H locs ls hl hP hS h1 h2 h3 h4
  exact lv_goto C.1 C.2.1 hd ht (kk H locs ls hl hP hS h1 h2 h3 h4)
theorem g_ifnull {X : Fx} {B : Bx} {cc : ByteArray} {nL : Nat} {own : String} {d : Nat} {Z : Nat × Nat × Nat × Nat} {Q : State → Prop} {pc : Nat} {lo : List (Nat × Value)} {st : List Value} {T : Sh} {M : Me} {x : Option Nat} {off : Int} {tgt : Nat} (C : Cx X B cc nL own d Z) (hd : decode cc pc = .ok (.ifnull off, 3)) (ht : (pc : Int) + off = (tgt : Int))
    (kt : x = none → G X B nL Z Q (tgt) lo st T M) (kf : ∀ q, x = some q → G X B nL Z Q (pc + 3) lo st T M) : G X B nL Z Q (pc) lo (va_rf x :: st) T M := by
  obtain ⟨p, l, e, R, s, m, args, below, meth, c⟩ := X
  intro H locs ls hl hP hS h1 h2 h3 h4
  cases x with
  | none => exact lv_ifnullN C.1 C.2.1 hd ht (kt rfl H locs ls hl hP hS h1 h2 h3 h4)
  | some q => exact lv_ifnull C.1 C.2.1 hd (kf q rfl H locs ls hl hP hS h1 h2 h3 h4)
theorem g_ifnonnull {X : Fx} {B : Bx} {cc : ByteArray} {nL : Nat} {own : String} {d : Nat} {Z : Nat × Nat × Nat × Nat} {Q : State → Prop} {pc : Nat} {lo : List (Nat × Value)} {st : List Value} {T : Sh} {M : Me} {x : Option Nat} {off : Int} {tgt : Nat} (C : Cx X B cc nL own d Z) (hd : decode cc pc = .ok (.ifnonnull off, 3)) (ht : (pc : Int) + off = (tgt : Int))
    (kt : ∀ q, x = some q → G X B nL Z Q (tgt) lo st T M) (kf : x = none → G X B nL Z Q (pc + 3) lo st T M) : G X B nL Z Q (pc) lo (va_rf x :: st) T M := by
  obtain ⟨p, l, e, R, s, m, args, below, meth, c⟩ := X
  intro H locs ls hl hP hS h1 h2 h3 h4
  cases x with
  | none => exact lv_ifnonnullN C.1 C.2.1 hd (kf rfl H locs ls hl hP hS h1 h2 h3 h4)
  | some q => exact lv_ifnonnull C.1 C.2.1 hd ht (kt q rfl H locs ls hl hP hS h1 h2 h3 h4)
theorem g_tswOut {X : Fx} {B : Bx} {cc : ByteArray} {nL : Nat} {own : String} {d : Nat} {Z : Nat × Nat × Nat × Nat} {Q : State → Prop} {pc : Nat} {lo : List (Nat × Value)} {st : List Value} {T : Sh} {M : Me} {dflt a b : Int} {offs : Array Int} {len : Nat} {x : Int32} {tgt : Nat} (C : Cx X B cc nL own d Z) (hd : decode cc pc = .ok (.tableswitch dflt a b offs, len)) (h : x.toInt < a ∨ b < x.toInt) (ht : (pc : Int) + dflt = (tgt : Int))
    (kk : G X B nL Z Q (tgt) lo st T M) : G X B nL Z Q (pc) lo (.int x :: st) T M := by
  obtain ⟨p, l, e, R, s, m, args, below, meth, c⟩ := X
  intro H locs ls hl hP hS h1 h2 h3 h4
  exact lv_tableOut C.1 C.2.1 hd h ht (kk H locs ls hl hP hS h1 h2 h3 h4)
theorem g_tswIn {X : Fx} {B : Bx} {cc : ByteArray} {nL : Nat} {own : String} {d : Nat} {Z : Nat × Nat × Nat × Nat} {Q : State → Prop} {pc : Nat} {lo : List (Nat × Value)} {st : List Value} {T : Sh} {M : Me} {dflt a b : Int} {offs : Array Int} {len : Nat} {x : Int32} {off : Int} {tgt : Nat} (C : Cx X B cc nL own d Z) (hd : decode cc pc = .ok (.tableswitch dflt a b offs, len)) (g1 : ¬ x.toInt < a) (g2 : ¬ b < x.toInt) (ho : offs[(x.toInt - a).toNat]? = some off) (ht : (pc : Int) + off = (tgt : Int))
    (kk : G X B nL Z Q (tgt) lo st T M) : G X B nL Z Q (pc) lo (.int x :: st) T M := by
  obtain ⟨p, l, e, R, s, m, args, below, meth, c⟩ := X
  intro H locs ls hl hP hS h1 h2 h3 h4
  exact lv_tableIn C.1 C.2.1 hd g1 g2 ho ht (kk H locs ls hl hP hS h1 h2 h3 h4)
theorem g_lsw {X : Fx} {B : Bx} {cc : ByteArray} {nL : Nat} {own : String} {d : Nat} {Z : Nat × Nat × Nat × Nat} {Q : State → Prop} {pc : Nat} {lo : List (Nat × Value)} {st : List Value} {T : Sh} {M : Me} {dflt : Int} {ps : Array (Int × Int)} {len : Nat} {x : Int32} {off : Int} {tgt : Nat} (C : Cx X B cc nL own d Z) (hd : decode cc pc = .ok (.lookupswitch dflt ps, len)) (hp : (ps.toList.zip (ps.toList.drop 1)).all (fun (a, next) => a.1 < next.1) = true) (ho : Op.lookupswitch.offset ps.toList dflt x.toInt = off) (ht : (pc : Int) + off = (tgt : Int))
    (kk : G X B nL Z Q (tgt) lo st T M) : G X B nL Z Q (pc) lo (.int x :: st) T M := by
  obtain ⟨p, l, e, R, s, m, args, below, meth, c⟩ := X
  intro H locs ls hl hP hS h1 h2 h3 h4
  exact lv_lookup C.1 C.2.1 hd hp ho ht (kk H locs ls hl hP hS h1 h2 h3 h4)
