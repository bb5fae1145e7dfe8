def R_law : String := "EyeTrainerLaw"
def lw_P (b : Addr) (xs : List Int32) (args : Array Value) (s : State) : Prop := args = #[.ref b] ∧ s.IntsAt b xs ∧ xs.length ≤ 3072 ∧ (Jvm.Cond.and given_1 narrow_1).before args s = true
def lw_Q (_ : Array Value) (s : State) (o : Outcome) (t : State) : Prop := o = .returned (some (.int 1)) ∧ Framed s o t [] 600000 7302250
def lw_Z (below : List Frame) (a : Array Value) (s : State) : State → Prop := fun t => ∃ o, t.status = .running ∧ Ended t below o ∧ lw_Q a s o t
/-- the law's own end, with 1 on the stack, nothing written that was there before, its room as the claim has it -/
theorem lw_ret {p : Program} {l : Launch} {e : Env} {s : State} {m : MethodId} {below : List Frame} {meth : Method} {c : Code} {b : Nat} (hx : p.tables.exec = Jvm.exec) (hb : c.code = code) (hr : meth.sig.returnType = ret) (hlocks : meth.locks = false) {pc : Nat} {H : Heap} {ls : Array Slot} (hdg : decode code pc = .ok (.ireturn, 1)) : W p l e room_1 s m #[Value.ref b] below meth c H [] 600000 7302250 (lw_Z below #[Value.ref b] s) (F0 m pc ls [.int 1]) := by
  intro T hT X
  obtain ⟨fs, hret, hrun, hended, hW, hframe⟩ := X.leave (v := some (.int 1)) (hlocks := hlocks) (fun h => by rw [hr] at h; cases h)
  have hmeth' : T.vm.method? m = some meth := X.method'
  refine ⟨T.setFrames fs, ?_, .returned (some (.int 1)), hrun, hended, rfl, ⟨_, rfl⟩, hW, hframe⟩
  jvm_step X.here [X.here.top, hx, hb, hdg, hmeth', hr, ret, narrow_b1]
  (try refine ⟨rfl, ?_⟩); (try refine ⟨rfl, ?_⟩)
  first | (intro acts; rw [hret _ acts rfl rfl rfl]) | rw [hret _ _ rfl rfl rfl]
  exact Steps.refl _
/-- what holds at the law's entry: the machine, the code, the tables' words (any of lw_tbl by 'hts w (by decide +kernel)'), the script of L ints xs at the cell b, what the Statement gives of the start (any of its parts by flat_of_before) -/
def lw_At (p : Program) (s : State) (m : MethodId) (meth : Method) (c : Code) (b L : Nat) (xs : Nat → Int32) : Prop :=
  p.tables.exec = Jvm.exec ∧ c.code = code ∧ meth.sig.returnType = ret ∧ c.maxLocals = 4 ∧ s.vm.findClass R_law = some m.cls ∧ (∀ w ∈ lw_tbl, w.before #[Value.ref b] s = true) ∧ va_X b L xs s s.heap ∧ b < s.heap.size ∧ meth.locks = false ∧ (Jvm.Cond.and given_1 narrow_1).before #[Value.ref b] s = true
def Lw (X : Fx) (B : Bx) (b : Nat) : Prop := ¬ B.2.2.1 ≤ b ∧ b < X.2.2.2.2.1.heap.size ∧ X.2.2.2.1 = room_1 ∧ X.2.2.2.2.2.2.1 = #[Value.ref b] ∧ X.2.2.2.2.2.2.2.2.1.sig.returnType = ret ∧ X.2.2.2.2.2.2.2.2.1.locks = false ∧ B.2.2.1 = X.2.2.2.2.1.heap.size
def QL (X : Fx) (b : Nat) : State → Prop := lw_Z X.2.2.2.2.2.2.2.1 #[Value.ref b] X.2.2.2.2.1
theorem g_xlen {X : Fx} {B : Bx} {cc : ByteArray} {nL : Nat} {own : String} {d : Nat} {Z : Nat × Nat × Nat × Nat} {Q : State → Prop} {pc : Nat} {lo : List (Nat × Value)} {st : List Value} {T : Sh} {M : Me} {b L : Nat} {xs : Nat → Int32} (C : Cx X B cc nL own d Z) (hX : va_X b L xs X.2.2.2.2.1 X.2.2.2.2.1.heap) (hbl : Lw X B b) (hd : decode cc pc = .ok (.arraylength, 1))
    (kk : G X B nL Z Q (pc + 1) lo (.int (nI L) :: st) T M) : G X B nL Z Q pc lo (.ref b :: st) T M := by
  obtain ⟨p, l, e, R, s, m, args, below, meth, c⟩ := X
  intro H locs ls hl hP hS h1 h2 h3 h4
  exact va_slen C.1 C.2.1 hX hbl.2.1 hbl.1 hS hd (kk H locs ls hl hP hS h1 h2 h3 h4)
theorem g_xld {X : Fx} {B : Bx} {cc : ByteArray} {nL : Nat} {own : String} {d : Nat} {Z : Nat × Nat × Nat × Nat} {Q : State → Prop} {pc : Nat} {lo : List (Nat × Value)} {st : List Value} {T : Sh} {M : Me} {b L : Nat} {xs : Nat → Int32} {i : Int32} (C : Cx X B cc nL own d Z) (hX : va_X b L xs X.2.2.2.2.1 X.2.2.2.2.1.heap) (hbl : Lw X B b) (hd : decode cc pc = .ok (.iaload, 1)) (hi : vp_in i L)
    (kk : G X B nL Z Q (pc + 1) lo (.int (xs (Int32.toNatClampNeg i)) :: st) T M) : G X B nL Z Q pc lo (.int i :: .ref b :: st) T M := by
  obtain ⟨p, l, e, R, s, m, args, below, meth, c⟩ := X
  intro H locs ls hl hP hS h1 h2 h3 h4
  exact va_sld C.1 C.2.1 hX hbl.2.1 hbl.1 hS hi hd (kk H locs ls hl hP hS h1 h2 h3 h4)
theorem g_lawret {X : Fx} {B : Bx} {d : Nat} {Z : Nat × Nat × Nat × Nat} {pc : Nat} {lo : List (Nat × Value)} {T : Sh} {M : Me} {b : Nat} (C : Cx X B cL_law 4 RL d Z) (hbl : Lw X B b) (hd : decode cL_law pc = .ok (.ireturn, 1)) : G X B 4 Z (QL X b) pc lo [.int 1] T M := by
  obtain ⟨p, l, e, R, s, m, args, below, meth, c⟩ := X
  obtain ⟨-, -, hR, hA, hr, hk, hB⟩ := hbl
  dsimp only at hR hA hr hk hB
  subst hR
  subst hA
  intro H locs ls hl hP hS h1 h2 h3 h4
  have hcz := C.2.2.2.2.2.2.2.2.2.2.2.2
  dsimp only at hcz h1 h2 h3 h4
  have hc1 : (600000 : Nat) = Z.2.2.1 - Z.1 := hcz.1
  have hc2 : (7302250 : Nat) = Z.2.2.2 - Z.2.1 := hcz.2
  refine va_forget (fun q hq => by have := hS.2.2 q hq; rw [← hB]; exact this) ?_
  refine W.widen (k := 600000) (n := 7302250) (by omega) (by omega) ?_
  exact lw_ret C.1 C.2.1 hr hk hd
