set_option maxRecDepth 20000 in
theorem q_139 : Cond.initialized RJ6 ∈ lw_gd := mem_gd (List.mem_of_getElem? (i := 139) (by decide +kernel)) rfl
set_option maxRecDepth 20000 in
theorem q_140 : Cond.initialized RX0 ∈ lw_gd := mem_gd (List.mem_of_getElem? (i := 140) (by decide +kernel)) rfl
set_option maxRecDepth 20000 in
theorem q_875 : Cond.code yJ6_bitCount_0f7a4 cJ6_bitCount_0f7a4 1 (some .int) ∈ lw_gd := mem_gd (List.mem_of_getElem? (i := 875) (by decide +kernel)) rfl
set_option maxRecDepth 20000 in
theorem q_876 : Cond.constant RJ6 265 (1431655765) ∈ lw_gd := mem_gd (List.mem_of_getElem? (i := 876) (by decide +kernel)) rfl
set_option maxRecDepth 20000 in
theorem q_877 : Cond.constant RJ6 266 (858993459) ∈ lw_gd := mem_gd (List.mem_of_getElem? (i := 877) (by decide +kernel)) rfl
set_option maxRecDepth 20000 in
theorem q_878 : Cond.constant RJ6 267 (252645135) ∈ lw_gd := mem_gd (List.mem_of_getElem? (i := 878) (by decide +kernel)) rfl
set_option maxRecDepth 20000 in
theorem q_886 : Cond.code yX0_longest cX0_longest 3 (some .int) ∈ lw_gd := mem_gd (List.mem_of_getElem? (i := 886) (by decide +kernel)) rfl
set_option maxRecDepth 20000 in
theorem q_889 : Cond.code yX0_firstRun cX0_firstRun 4 (some .int) ∈ lw_gd := mem_gd (List.mem_of_getElem? (i := 889) (by decide +kernel)) rfl
set_option maxRecDepth 20000 in
theorem q_934 : Cond.code yX0_followed cX0_followed 5 (some .int) ∈ lw_gd := mem_gd (List.mem_of_getElem? (i := 934) (by decide +kernel)) rfl
theorem dX0_longest_0 : decode cX0_longest 0 = .ok (.iconst 0, 1) := by decide +kernel
theorem dX0_longest_1 : decode cX0_longest 1 = .ok (.istore_n 1, 1) := by decide +kernel
theorem dX0_longest_2 : decode cX0_longest 2 = .ok (.iload_n 0, 1) := by decide +kernel
theorem dX0_longest_3 : decode cX0_longest 3 = .ok (.istore_n 2, 1) := by decide +kernel
theorem dX0_longest_4 : decode cX0_longest 4 = .ok (.iload_n 2, 1) := by decide +kernel
theorem dX0_longest_5 : decode cX0_longest 5 = .ok (.ifCond .eq 21, 3) := by decide +kernel
theorem dX0_longest_8 : decode cX0_longest 8 = .ok (.iload_n 1, 1) := by decide +kernel
theorem dX0_longest_9 : decode cX0_longest 9 = .ok (.bipush 24, 2) := by decide +kernel
theorem dX0_longest_11 : decode cX0_longest 11 = .ok (.if_icmp .ge 15, 3) := by decide +kernel
theorem dX0_longest_14 : decode cX0_longest 14 = .ok (.iload_n 2, 1) := by decide +kernel
theorem dX0_longest_15 : decode cX0_longest 15 = .ok (.iload_n 2, 1) := by decide +kernel
theorem dX0_longest_16 : decode cX0_longest 16 = .ok (.iconst 1, 1) := by decide +kernel
theorem dX0_longest_17 : decode cX0_longest 17 = .ok (.iushr, 1) := by decide +kernel
theorem dX0_longest_18 : decode cX0_longest 18 = .ok (.iand, 1) := by decide +kernel
theorem dX0_longest_19 : decode cX0_longest 19 = .ok (.istore_n 2, 1) := by decide +kernel
theorem dX0_longest_20 : decode cX0_longest 20 = .ok (.iinc 1 1, 3) := by decide +kernel
theorem dX0_longest_23 : decode cX0_longest 23 = .ok (.goto (-19), 3) := by decide +kernel
theorem dX0_longest_26 : decode cX0_longest 26 = .ok (.iload_n 1, 1) := by decide +kernel
theorem dX0_longest_27 : decode cX0_longest 27 = .ok (.ireturn, 1) := by decide +kernel
theorem wX0_longest : Mw yX0_longest cX0_longest 3 (some .int) 1 := ⟨q_886, q_140, by decide, ⟨by decide +kernel, by decide +kernel⟩, by decide +kernel, by decide +kernel⟩
-- a loop of EyeTrainer$Bits.longest at 4
def bX0_longest_4 (x1 : Int32) (x2 : Int32) : Option ((Int32 × Int32) ⊕ (Int32)) :=
  if x2 = 0 then (some (.inr x1)) else (if (24 : Int32) ≤ x1 then (some (.inr x1)) else (lt (x2 &&& ((Int32.toUInt32 x2 >>> (Int32.toUInt32 (1 : Int32) &&& Int32.toUInt32 31)).toInt32)) fun v3 => lt (x1 + (1 : Int32)) fun v4 => some (.inl (v4, v3))))
def PX0_longest_4 (X : Fx) (B : Bx) (Z : Nat × Nat × Nat × Nat) (Q : State → Prop) (T : Sh) (M : Me) (s : Int32 × Int32) : Prop := G X B 3 Z Q 4 [(1, .int (s.1)), (2, .int (s.2))] [] T M
def EX0_longest_4 (X : Fx) (B : Bx) (Z : Nat × Nat × Nat × Nat) (Q : State → Prop) (T : Sh) (M : Me) (r : Int32) : Prop := G X B 3 Z Q 26 [(1, .int (r))] [] T M
set_option maxHeartbeats 4000000 in
theorem tbX0_longest_4 {X : Fx} {B : Bx} {Z : Nat × Nat × Nat × Nat} {Q : State → Prop} {d : Nat} {T : Sh} {M : Me} (C : Cx X B cX0_longest 3 RX0 d Z) (hd : 0 ≤ d) : ∀ (s : Int32 × Int32) (o : (Int32 × Int32) ⊕ (Int32)), bX0_longest_4  s.1 s.2 = some o → lpE (PX0_longest_4 X B Z Q T M) (EX0_longest_4 X B Z Q T M) o → PX0_longest_4 X B Z Q T M s := by
  rintro ⟨x1, x2⟩ o h hE
  replace h : bX0_longest_4  x1 x2 = some o := h
  unfold bX0_longest_4 at h
  show G X B 3 Z Q 4 [(1, .int (x1)), (2, .int (x2))] [] T M
  refine g_iload_n (pc := 4) C dX0_longest_4 rfl 1 rfl ?_
  refine g_if_eq (pc := 5) (tgt := 26) C dX0_longest_5 (by decide) (fun c1 => ?_) (fun c1 => ?_)
  · replace h := ifp c1 h
    obtain rfl := Option.some.inj h
    exact g_sub [0] rfl (show G X B 3 Z Q 26 [(1, .int (x1))] [] T M from hE)
  · replace h := ifn c1 h
    refine g_iload_n (pc := 8) C dX0_longest_8 rfl 0 rfl ?_
    refine g_bipush (pc := 9) (v := 24) C dX0_longest_9 (by decide) ?_
    refine g_icmp_ge (pc := 11) (tgt := 26) C dX0_longest_11 (by decide) (fun c2 => ?_) (fun c2 => ?_)
    · replace h := ifp c2 h
      obtain rfl := Option.some.inj h
      exact g_sub [0] rfl (show G X B 3 Z Q 26 [(1, .int (x1))] [] T M from hE)
    · replace h := ifn c2 h
      refine g_iload_n (pc := 14) C dX0_longest_14 rfl 1 rfl ?_
      refine g_iload_n (pc := 15) C dX0_longest_15 rfl 1 rfl ?_
      refine g_iconst (pc := 16) (v := 1) C dX0_longest_16 (by decide) ?_
      refine g_iushr (pc := 17) C dX0_longest_17 ?_
      refine g_iand (pc := 18) C dX0_longest_18 ?_
      refine g_topi (fun v3 ev3 => ?_)
      replace h := lt_at ev3 h
      refine g_istore_n (pc := 19) (lo2 := [(2, .int (v3)), (1, .int (x1))]) C dX0_longest_19 rfl (by decide) rfl ?_
      obtain ⟨v4, ev4⟩ : ∃ y : Int32, y = x1 + (1 : Int32) := ⟨_, rfl⟩
      replace h := lt_at ev4 h
      refine g_iinc (pc := 20) (v := v4) (k := 1) (lo2 := [(1, .int (v4)), (2, .int (v3))]) C dX0_longest_20 rfl (by rw [ev4]; rfl) (by decide) rfl ?_
      refine g_goto (pc := 23) (tgt := 4) C dX0_longest_23 (by decide) ?_
      obtain rfl := Option.some.inj h
      exact g_sub [0, 1] rfl (show G X B 3 Z Q 4 [(1, .int (v4)), (2, .int (v3))] [] T M from hE)
/-- EyeTrainer$Bits.longest(I)I -/
def fX0_longest (x0 : Int32) : Option (Int32) :=
  (lp FU (fun s => bX0_longest_4  s.1 s.2) ((0 : Int32), x0)).bind (fun x1_5 => some x1_5)
set_option maxHeartbeats 4000000 in
theorem kX0_longest {l : Launch} {B : Bx} {d : Nat} (hd : 0 ≤ d) {T : Sh} {M : Me} {x0 : Int32} {r : Int32} (h : fX0_longest  x0 = some r) : Kt l B yX0_longest cX0_longest 3 (some .int) d [.int (x0)] T M (some (.int r)) T M := by
  refine kt_of wX0_longest (Nat.le_refl _) (Nat.le_refl _) (Nat.le_of_ble_eq_true rfl) (fun X C hR hlx hin => ?_)
  subst hlx
  replace C : Cx X B cX0_longest 3 RX0 d (tp T, sl T, tp T, sl T) := C
  unfold fX0_longest at h
  show G X B 3 _ _ 0 [(0, .int (x0))] [] T M
  refine g_iconst (pc := 0) (v := 0) C dX0_longest_0 (by decide) ?_
  refine g_istore_n (pc := 1) (lo2 := [(1, .int ((0 : Int32))), (0, .int (x0))]) C dX0_longest_1 rfl (by decide) rfl ?_
  refine g_iload_n (pc := 2) C dX0_longest_2 rfl 1 rfl ?_
  refine g_istore_n (pc := 3) (lo2 := [(2, .int (x0)), (1, .int ((0 : Int32))), (0, .int (x0))]) C dX0_longest_3 rfl (by decide) rfl ?_
  replace h := bnd h; obtain ⟨x1_5, h1, h⟩ := h
  refine g_sub [1, 0] rfl ?_
  refine lp_G2 (P := PX0_longest_4 X B _ _ T M) (E := EX0_longest_4 X B _ _ T M) (tbX0_longest_4 C hd) h1 ?_
  show G X B 3 _ _ 26 [(1, .int (x1_5))] [] T M
  refine g_iload_n (pc := 26) C dX0_longest_26 rfl 0 rfl ?_
  obtain rfl := Option.some.inj h
  exact g_iret C hR dX0_longest_27
theorem dX0_firstRun_0 : decode cX0_firstRun 0 = .ok (.iconst 1, 1) := by decide +kernel
theorem dX0_firstRun_1 : decode cX0_firstRun 1 = .ok (.iload_n 1, 1) := by decide +kernel
theorem dX0_firstRun_2 : decode cX0_firstRun 2 = .ok (.ishl, 1) := by decide +kernel
theorem dX0_firstRun_3 : decode cX0_firstRun 3 = .ok (.iconst 1, 1) := by decide +kernel
theorem dX0_firstRun_4 : decode cX0_firstRun 4 = .ok (.isub, 1) := by decide +kernel
theorem dX0_firstRun_5 : decode cX0_firstRun 5 = .ok (.istore_n 2, 1) := by decide +kernel
theorem dX0_firstRun_6 : decode cX0_firstRun 6 = .ok (.iconst 0, 1) := by decide +kernel
theorem dX0_firstRun_7 : decode cX0_firstRun 7 = .ok (.istore_n 3, 1) := by decide +kernel
theorem dX0_firstRun_8 : decode cX0_firstRun 8 = .ok (.iload_n 3, 1) := by decide +kernel
theorem dX0_firstRun_9 : decode cX0_firstRun 9 = .ok (.iload_n 1, 1) := by decide +kernel
theorem dX0_firstRun_10 : decode cX0_firstRun 10 = .ok (.iadd, 1) := by decide +kernel
theorem dX0_firstRun_11 : decode cX0_firstRun 11 = .ok (.bipush 24, 2) := by decide +kernel
theorem dX0_firstRun_13 : decode cX0_firstRun 13 = .ok (.if_icmp .gt 20, 3) := by decide +kernel
theorem dX0_firstRun_16 : decode cX0_firstRun 16 = .ok (.iload_n 0, 1) := by decide +kernel
theorem dX0_firstRun_17 : decode cX0_firstRun 17 = .ok (.iload_n 3, 1) := by decide +kernel
theorem dX0_firstRun_18 : decode cX0_firstRun 18 = .ok (.ishr, 1) := by decide +kernel
theorem dX0_firstRun_19 : decode cX0_firstRun 19 = .ok (.iload_n 2, 1) := by decide +kernel
theorem dX0_firstRun_20 : decode cX0_firstRun 20 = .ok (.iand, 1) := by decide +kernel
theorem dX0_firstRun_21 : decode cX0_firstRun 21 = .ok (.iload_n 2, 1) := by decide +kernel
theorem dX0_firstRun_22 : decode cX0_firstRun 22 = .ok (.if_icmp .ne 5, 3) := by decide +kernel
theorem dX0_firstRun_25 : decode cX0_firstRun 25 = .ok (.iload_n 3, 1) := by decide +kernel
theorem dX0_firstRun_26 : decode cX0_firstRun 26 = .ok (.ireturn, 1) := by decide +kernel
theorem dX0_firstRun_27 : decode cX0_firstRun 27 = .ok (.iinc 3 1, 3) := by decide +kernel
theorem dX0_firstRun_30 : decode cX0_firstRun 30 = .ok (.goto (-22), 3) := by decide +kernel
theorem dX0_firstRun_33 : decode cX0_firstRun 33 = .ok (.iconst (-1), 1) := by decide +kernel
theorem dX0_firstRun_34 : decode cX0_firstRun 34 = .ok (.ireturn, 1) := by decide +kernel
theorem wX0_firstRun : Mw yX0_firstRun cX0_firstRun 4 (some .int) 2 := ⟨q_889, q_140, by decide, ⟨by decide +kernel, by decide +kernel⟩, by decide +kernel, by decide +kernel⟩
-- a loop of EyeTrainer$Bits.firstRun at 8
def bX0_firstRun_8 (x0 : Int32) (x1 : Int32) (x2 : Int32) (x3 : Int32) : Option ((Int32) ⊕ (Int32 ⊕ Unit)) :=
  if (24 : Int32) < (x3 + x1) then (some (.inr (.inr ()))) else (if ((x0 >>> (x3 &&& 31)) &&& x2) = x2 then (some (.inr (.inl x3))) else (lt (x3 + (1 : Int32)) fun v4 => some (.inl v4)))
def PX0_firstRun_8 (X : Fx) (B : Bx) (Z : Nat × Nat × Nat × Nat) (Q : State → Prop) (T : Sh) (M : Me) (x0 : Int32) (x1 : Int32) (x2 : Int32) (s : Int32) : Prop := G X B 4 Z Q 8 [(0, .int (x0)), (1, .int (x1)), (2, .int (x2)), (3, .int (s))] [] T M
def EX0_firstRun_8 (X : Fx) (B : Bx) (Z : Nat × Nat × Nat × Nat) (Q : State → Prop) (T : Sh) (M : Me) (x0 : Int32) (x1 : Int32) (x2 : Int32) (r : Int32 ⊕ Unit) : Prop := Sum.elim (fun r => G X B 4 Z Q 25 [(3, .int (r))] [] T M) (fun r => G X B 4 Z Q 33 [] [] T M) r
set_option maxHeartbeats 4000000 in
theorem tbX0_firstRun_8 {X : Fx} {B : Bx} {Z : Nat × Nat × Nat × Nat} {Q : State → Prop} {d : Nat} {T : Sh} {M : Me} (C : Cx X B cX0_firstRun 4 RX0 d Z) (hd : 0 ≤ d) {x0 : Int32} {x1 : Int32} {x2 : Int32} : ∀ (s : Int32) (o : (Int32) ⊕ (Int32 ⊕ Unit)), bX0_firstRun_8 x0 x1 x2 s = some o → lpE (PX0_firstRun_8 X B Z Q T M x0 x1 x2) (EX0_firstRun_8 X B Z Q T M x0 x1 x2) o → PX0_firstRun_8 X B Z Q T M x0 x1 x2 s := by
  rintro x3 o h hE
  replace h : bX0_firstRun_8 x0 x1 x2 x3 = some o := h
  unfold bX0_firstRun_8 at h
  show G X B 4 Z Q 8 [(0, .int (x0)), (1, .int (x1)), (2, .int (x2)), (3, .int (x3))] [] T M
  refine g_iload_n (pc := 8) C dX0_firstRun_8 rfl 3 rfl ?_
  refine g_iload_n (pc := 9) C dX0_firstRun_9 rfl 1 rfl ?_
  refine g_iadd (pc := 10) C dX0_firstRun_10 ?_
  refine g_bipush (pc := 11) (v := 24) C dX0_firstRun_11 (by decide) ?_
  refine g_icmp_gt (pc := 13) (tgt := 33) C dX0_firstRun_13 (by decide) (fun c2 => ?_) (fun c2 => ?_)
  · replace h := ifp c2 h
    obtain rfl := Option.some.inj h
    exact g_sub [] rfl (show G X B 4 Z Q 33 [] [] T M from hE)
  · replace h := ifn c2 h
    refine g_iload_n (pc := 16) C dX0_firstRun_16 rfl 0 rfl ?_
    refine g_iload_n (pc := 17) C dX0_firstRun_17 rfl 3 rfl ?_
    refine g_ishr (pc := 18) C dX0_firstRun_18 ?_
    refine g_iload_n (pc := 19) C dX0_firstRun_19 rfl 2 rfl ?_
    refine g_iand (pc := 20) C dX0_firstRun_20 ?_
    refine g_iload_n (pc := 21) C dX0_firstRun_21 rfl 2 rfl ?_
    refine g_icmp_ne (pc := 22) (tgt := 27) C dX0_firstRun_22 (by decide) (fun c3 => ?_) (fun c3 => ?_)
    · replace h := ifn c3 h
      obtain ⟨v4, ev4⟩ : ∃ y : Int32, y = x3 + (1 : Int32) := ⟨_, rfl⟩
      replace h := lt_at ev4 h
      refine g_iinc (pc := 27) (v := v4) (k := 3) (lo2 := [(3, .int (v4)), (0, .int (x0)), (1, .int (x1)), (2, .int (x2))]) C dX0_firstRun_27 rfl (by rw [ev4]; rfl) (by decide) rfl ?_
      refine g_goto (pc := 30) (tgt := 8) C dX0_firstRun_30 (by decide) ?_
      obtain rfl := Option.some.inj h
      exact g_sub [1, 2, 3, 0] rfl (show G X B 4 Z Q 8 [(0, .int (x0)), (1, .int (x1)), (2, .int (x2)), (3, .int (v4))] [] T M from hE)
    · replace h := ifp c3 h
      obtain rfl := Option.some.inj h
      exact g_sub [3] rfl (show G X B 4 Z Q 25 [(3, .int (x3))] [] T M from hE)
/-- EyeTrainer$Bits.firstRun(II)I -/
def fX0_firstRun (x0 : Int32) (x1 : Int32) : Option (Int32) :=
  lt (((1 : Int32) <<< (x1 &&& 31)) - (1 : Int32)) fun v1 => (lp FU (fun s => bX0_firstRun_8 x0 x1 v1 s) (0 : Int32)).bind (Sum.elim (fun x3_5 => some x3_5) (fun _ => some (-1 : Int32)))
set_option maxHeartbeats 4000000 in
theorem kX0_firstRun {l : Launch} {B : Bx} {d : Nat} (hd : 0 ≤ d) {T : Sh} {M : Me} {x0 : Int32} {x1 : Int32} {r : Int32} (h : fX0_firstRun  x0 x1 = some r) : Kt l B yX0_firstRun cX0_firstRun 4 (some .int) d [.int (x0), .int (x1)] T M (some (.int r)) T M := by
  refine kt_of wX0_firstRun (Nat.le_refl _) (Nat.le_refl _) (Nat.le_of_ble_eq_true rfl) (fun X C hR hlx hin => ?_)
  subst hlx
  replace C : Cx X B cX0_firstRun 4 RX0 d (tp T, sl T, tp T, sl T) := C
  unfold fX0_firstRun at h
  show G X B 4 _ _ 0 [(0, .int (x0)), (1, .int (x1))] [] T M
  refine g_iconst (pc := 0) (v := 1) C dX0_firstRun_0 (by decide) ?_
  refine g_iload_n (pc := 1) C dX0_firstRun_1 rfl 1 rfl ?_
  refine g_ishl (pc := 2) C dX0_firstRun_2 ?_
  refine g_iconst (pc := 3) (v := 1) C dX0_firstRun_3 (by decide) ?_
  refine g_isub (pc := 4) C dX0_firstRun_4 ?_
  refine g_topi (fun v1 ev1 => ?_)
  replace h := lt_at ev1 h
  refine g_istore_n (pc := 5) (lo2 := [(2, .int (v1)), (0, .int (x0)), (1, .int (x1))]) C dX0_firstRun_5 rfl (by decide) rfl ?_
  refine g_iconst (pc := 6) (v := 0) C dX0_firstRun_6 (by decide) ?_
  refine g_istore_n (pc := 7) (lo2 := [(3, .int ((0 : Int32))), (2, .int (v1)), (0, .int (x0)), (1, .int (x1))]) C dX0_firstRun_7 rfl (by decide) rfl ?_
  replace h := bndE h; rcases h with ⟨x3_5, h1, h⟩ | ⟨a1, h1, h⟩
  · refine g_sub [2, 3, 1, 0] rfl ?_
    refine lp_G2 (P := PX0_firstRun_8 X B _ _ T M x0 x1 v1) (E := EX0_firstRun_8 X B _ _ T M x0 x1 v1) (tbX0_firstRun_8 C hd) h1 ?_
    show G X B 4 _ _ 25 [(3, .int (x3_5))] [] T M
    refine g_iload_n (pc := 25) C dX0_firstRun_25 rfl 0 rfl ?_
    obtain rfl := Option.some.inj h
    exact g_iret C hR dX0_firstRun_26
  · refine g_sub [2, 3, 1, 0] rfl ?_
    refine lp_G2 (P := PX0_firstRun_8 X B _ _ T M x0 x1 v1) (E := EX0_firstRun_8 X B _ _ T M x0 x1 v1) (tbX0_firstRun_8 C hd) h1 ?_
    show G X B 4 _ _ 33 [] [] T M
    refine g_iconst (pc := 33) (v := (-1)) C dX0_firstRun_33 (by decide) ?_
    obtain rfl := Option.some.inj h
    exact g_iret C hR dX0_firstRun_34
theorem dX0_followed_0 : decode cX0_followed 0 = .ok (.iload_n 0, 1) := by decide +kernel
theorem dX0_followed_1 : decode cX0_followed 1 = .ok (.iload_n 1, 1) := by decide +kernel
theorem dX0_followed_2 : decode cX0_followed 2 = .ok (.ishr, 1) := by decide +kernel
theorem dX0_followed_3 : decode cX0_followed 3 = .ok (.iconst 1, 1) := by decide +kernel
theorem dX0_followed_4 : decode cX0_followed 4 = .ok (.iand, 1) := by decide +kernel
theorem dX0_followed_5 : decode cX0_followed 5 = .ok (.ifCond .ne 5, 3) := by decide +kernel
theorem dX0_followed_8 : decode cX0_followed 8 = .ok (.iload_n 1, 1) := by decide +kernel
theorem dX0_followed_9 : decode cX0_followed 9 = .ok (.ireturn, 1) := by decide +kernel
theorem dX0_followed_10 : decode cX0_followed 10 = .ok (.iload_n 1, 1) := by decide +kernel
theorem dX0_followed_11 : decode cX0_followed 11 = .ok (.istore_n 2, 1) := by decide +kernel
theorem dX0_followed_12 : decode cX0_followed 12 = .ok (.iload_n 2, 1) := by decide +kernel
theorem dX0_followed_13 : decode cX0_followed 13 = .ok (.ifCond .le 19, 3) := by decide +kernel
theorem dX0_followed_16 : decode cX0_followed 16 = .ok (.iload_n 0, 1) := by decide +kernel
theorem dX0_followed_17 : decode cX0_followed 17 = .ok (.iload_n 2, 1) := by decide +kernel
theorem dX0_followed_18 : decode cX0_followed 18 = .ok (.iconst 1, 1) := by decide +kernel
theorem dX0_followed_19 : decode cX0_followed 19 = .ok (.isub, 1) := by decide +kernel
theorem dX0_followed_20 : decode cX0_followed 20 = .ok (.ishr, 1) := by decide +kernel
theorem dX0_followed_21 : decode cX0_followed 21 = .ok (.iconst 1, 1) := by decide +kernel
theorem dX0_followed_22 : decode cX0_followed 22 = .ok (.iand, 1) := by decide +kernel
theorem dX0_followed_23 : decode cX0_followed 23 = .ok (.ifCond .eq 9, 3) := by decide +kernel
theorem dX0_followed_26 : decode cX0_followed 26 = .ok (.iinc 2 (-1), 3) := by decide +kernel
theorem dX0_followed_29 : decode cX0_followed 29 = .ok (.goto (-17), 3) := by decide +kernel
theorem dX0_followed_32 : decode cX0_followed 32 = .ok (.iload_n 1, 1) := by decide +kernel
theorem dX0_followed_33 : decode cX0_followed 33 = .ok (.istore_n 3, 1) := by decide +kernel
theorem dX0_followed_34 : decode cX0_followed 34 = .ok (.iload_n 3, 1) := by decide +kernel
theorem dX0_followed_35 : decode cX0_followed 35 = .ok (.bipush 23, 2) := by decide +kernel
theorem dX0_followed_37 : decode cX0_followed 37 = .ok (.if_icmp .ge 19, 3) := by decide +kernel
theorem dX0_followed_40 : decode cX0_followed 40 = .ok (.iload_n 0, 1) := by decide +kernel
theorem dX0_followed_41 : decode cX0_followed 41 = .ok (.iload_n 3, 1) := by decide +kernel
theorem dX0_followed_42 : decode cX0_followed 42 = .ok (.iconst 1, 1) := by decide +kernel
theorem dX0_followed_43 : decode cX0_followed 43 = .ok (.iadd, 1) := by decide +kernel
theorem dX0_followed_44 : decode cX0_followed 44 = .ok (.ishr, 1) := by decide +kernel
theorem dX0_followed_45 : decode cX0_followed 45 = .ok (.iconst 1, 1) := by decide +kernel
theorem dX0_followed_46 : decode cX0_followed 46 = .ok (.iand, 1) := by decide +kernel
theorem dX0_followed_47 : decode cX0_followed 47 = .ok (.ifCond .eq 9, 3) := by decide +kernel
theorem dX0_followed_50 : decode cX0_followed 50 = .ok (.iinc 3 1, 3) := by decide +kernel
theorem dX0_followed_53 : decode cX0_followed 53 = .ok (.goto (-19), 3) := by decide +kernel
theorem dX0_followed_56 : decode cX0_followed 56 = .ok (.iload_n 2, 1) := by decide +kernel
theorem dX0_followed_57 : decode cX0_followed 57 = .ok (.iload_n 3, 1) := by decide +kernel
theorem dX0_followed_58 : decode cX0_followed 58 = .ok (.iadd, 1) := by decide +kernel
theorem dX0_followed_59 : decode cX0_followed 59 = .ok (.iconst 2, 1) := by decide +kernel
theorem dX0_followed_60 : decode cX0_followed 60 = .ok (.idiv, 1) := by decide +kernel
theorem dX0_followed_61 : decode cX0_followed 61 = .ok (.istore 4, 2) := by decide +kernel
theorem dX0_followed_63 : decode cX0_followed 63 = .ok (.iload 4, 2) := by decide +kernel
theorem dX0_followed_65 : decode cX0_followed 65 = .ok (.iload_n 1, 1) := by decide +kernel
theorem dX0_followed_66 : decode cX0_followed 66 = .ok (.if_icmp .ne 5, 3) := by decide +kernel
theorem dX0_followed_69 : decode cX0_followed 69 = .ok (.iload_n 1, 1) := by decide +kernel
theorem dX0_followed_70 : decode cX0_followed 70 = .ok (.ireturn, 1) := by decide +kernel
theorem dX0_followed_71 : decode cX0_followed 71 = .ok (.iload 4, 2) := by decide +kernel
theorem dX0_followed_73 : decode cX0_followed 73 = .ok (.iload_n 1, 1) := by decide +kernel
theorem dX0_followed_74 : decode cX0_followed 74 = .ok (.if_icmp .ge 9, 3) := by decide +kernel
theorem dX0_followed_77 : decode cX0_followed 77 = .ok (.iload_n 1, 1) := by decide +kernel
theorem dX0_followed_78 : decode cX0_followed 78 = .ok (.iconst 1, 1) := by decide +kernel
theorem dX0_followed_79 : decode cX0_followed 79 = .ok (.isub, 1) := by decide +kernel
theorem dX0_followed_80 : decode cX0_followed 80 = .ok (.goto 6, 3) := by decide +kernel
theorem dX0_followed_83 : decode cX0_followed 83 = .ok (.iload_n 1, 1) := by decide +kernel
theorem dX0_followed_84 : decode cX0_followed 84 = .ok (.iconst 1, 1) := by decide +kernel
theorem dX0_followed_85 : decode cX0_followed 85 = .ok (.iadd, 1) := by decide +kernel
theorem dX0_followed_86 : decode cX0_followed 86 = .ok (.ireturn, 1) := by decide +kernel
theorem wX0_followed : Mw yX0_followed cX0_followed 5 (some .int) 2 := ⟨q_934, q_140, by decide, ⟨by decide +kernel, by decide +kernel⟩, by decide +kernel, by decide +kernel⟩
-- a loop of EyeTrainer$Bits.followed at 12
def bX0_followed_12 (x0 : Int32) (x1 : Int32) (x2 : Int32) : Option ((Int32) ⊕ (Int32)) :=
  if x2 ≤ 0 then (some (.inr x2)) else (if ((x0 >>> ((x2 - (1 : Int32)) &&& 31)) &&& (1 : Int32)) = 0 then (some (.inr x2)) else (lt (x2 + (-1 : Int32)) fun v4 => some (.inl v4)))
def PX0_followed_12 (X : Fx) (B : Bx) (Z : Nat × Nat × Nat × Nat) (Q : State → Prop) (T : Sh) (M : Me) (x0 : Int32) (x1 : Int32) (s : Int32) : Prop := G X B 5 Z Q 12 [(0, .int (x0)), (1, .int (x1)), (2, .int (s))] [] T M
def EX0_followed_12 (X : Fx) (B : Bx) (Z : Nat × Nat × Nat × Nat) (Q : State → Prop) (T : Sh) (M : Me) (x0 : Int32) (x1 : Int32) (r : Int32) : Prop := G X B 5 Z Q 32 [(0, .int (x0)), (1, .int (x1)), (2, .int (r))] [] T M
set_option maxHeartbeats 4000000 in
theorem tbX0_followed_12 {X : Fx} {B : Bx} {Z : Nat × Nat × Nat × Nat} {Q : State → Prop} {d : Nat} {T : Sh} {M : Me} (C : Cx X B cX0_followed 5 RX0 d Z) (hd : 0 ≤ d) {x0 : Int32} {x1 : Int32} : ∀ (s : Int32) (o : (Int32) ⊕ (Int32)), bX0_followed_12 x0 x1 s = some o → lpE (PX0_followed_12 X B Z Q T M x0 x1) (EX0_followed_12 X B Z Q T M x0 x1) o → PX0_followed_12 X B Z Q T M x0 x1 s := by
  rintro x2 o h hE
  replace h : bX0_followed_12 x0 x1 x2 = some o := h
  unfold bX0_followed_12 at h
  show G X B 5 Z Q 12 [(0, .int (x0)), (1, .int (x1)), (2, .int (x2))] [] T M
  refine g_iload_n (pc := 12) C dX0_followed_12 rfl 2 rfl ?_
  refine g_if_le (pc := 13) (tgt := 32) C dX0_followed_13 (by decide) (fun c2 => ?_) (fun c2 => ?_)
  · replace h := ifp c2 h
    obtain rfl := Option.some.inj h
    exact g_sub [0, 1, 2] rfl (show G X B 5 Z Q 32 [(0, .int (x0)), (1, .int (x1)), (2, .int (x2))] [] T M from hE)
  · replace h := ifn c2 h
    refine g_iload_n (pc := 16) C dX0_followed_16 rfl 0 rfl ?_
    refine g_iload_n (pc := 17) C dX0_followed_17 rfl 2 rfl ?_
    refine g_iconst (pc := 18) (v := 1) C dX0_followed_18 (by decide) ?_
    refine g_isub (pc := 19) C dX0_followed_19 ?_
    refine g_ishr (pc := 20) C dX0_followed_20 ?_
    refine g_iconst (pc := 21) (v := 1) C dX0_followed_21 (by decide) ?_
    refine g_iand (pc := 22) C dX0_followed_22 ?_
    refine g_if_eq (pc := 23) (tgt := 32) C dX0_followed_23 (by decide) (fun c3 => ?_) (fun c3 => ?_)
    · replace h := ifp c3 h
      obtain rfl := Option.some.inj h
      exact g_sub [0, 1, 2] rfl (show G X B 5 Z Q 32 [(0, .int (x0)), (1, .int (x1)), (2, .int (x2))] [] T M from hE)
    · replace h := ifn c3 h
      obtain ⟨v4, ev4⟩ : ∃ y : Int32, y = x2 + (-1 : Int32) := ⟨_, rfl⟩
      replace h := lt_at ev4 h
      refine g_iinc (pc := 26) (v := v4) (k := 2) (lo2 := [(2, .int (v4)), (0, .int (x0)), (1, .int (x1))]) C dX0_followed_26 rfl (by rw [ev4]; rfl) (by decide) rfl ?_
      refine g_goto (pc := 29) (tgt := 12) C dX0_followed_29 (by decide) ?_
      obtain rfl := Option.some.inj h
      exact g_sub [1, 2, 0] rfl (show G X B 5 Z Q 12 [(0, .int (x0)), (1, .int (x1)), (2, .int (v4))] [] T M from hE)
-- a loop of EyeTrainer$Bits.followed at 34
def bX0_followed_34 (x0 : Int32) (x1 : Int32) (x2 : Int32) (x3 : Int32) : Option ((Int32) ⊕ (Int32)) :=
  if (23 : Int32) ≤ x3 then (some (.inr x3)) else (if ((x0 >>> ((x3 + (1 : Int32)) &&& 31)) &&& (1 : Int32)) = 0 then (some (.inr x3)) else (lt (x3 + (1 : Int32)) fun v8 => some (.inl v8)))
def PX0_followed_34 (X : Fx) (B : Bx) (Z : Nat × Nat × Nat × Nat) (Q : State → Prop) (T : Sh) (M : Me) (x0 : Int32) (x1 : Int32) (x2 : Int32) (s : Int32) : Prop := G X B 5 Z Q 34 [(0, .int (x0)), (1, .int (x1)), (2, .int (x2)), (3, .int (s))] [] T M
def EX0_followed_34 (X : Fx) (B : Bx) (Z : Nat × Nat × Nat × Nat) (Q : State → Prop) (T : Sh) (M : Me) (x0 : Int32) (x1 : Int32) (x2 : Int32) (r : Int32) : Prop := G X B 5 Z Q 56 [(1, .int (x1)), (2, .int (x2)), (3, .int (r))] [] T M
set_option maxHeartbeats 4000000 in
theorem tbX0_followed_34 {X : Fx} {B : Bx} {Z : Nat × Nat × Nat × Nat} {Q : State → Prop} {d : Nat} {T : Sh} {M : Me} (C : Cx X B cX0_followed 5 RX0 d Z) (hd : 0 ≤ d) {x0 : Int32} {x1 : Int32} {x2 : Int32} : ∀ (s : Int32) (o : (Int32) ⊕ (Int32)), bX0_followed_34 x0 x1 x2 s = some o → lpE (PX0_followed_34 X B Z Q T M x0 x1 x2) (EX0_followed_34 X B Z Q T M x0 x1 x2) o → PX0_followed_34 X B Z Q T M x0 x1 x2 s := by
  rintro x3 o h hE
  replace h : bX0_followed_34 x0 x1 x2 x3 = some o := h
  unfold bX0_followed_34 at h
  show G X B 5 Z Q 34 [(0, .int (x0)), (1, .int (x1)), (2, .int (x2)), (3, .int (x3))] [] T M
  refine g_iload_n (pc := 34) C dX0_followed_34 rfl 3 rfl ?_
  refine g_bipush (pc := 35) (v := 23) C dX0_followed_35 (by decide) ?_
  refine g_icmp_ge (pc := 37) (tgt := 56) C dX0_followed_37 (by decide) (fun c6 => ?_) (fun c6 => ?_)
  · replace h := ifp c6 h
    obtain rfl := Option.some.inj h
    exact g_sub [1, 2, 3] rfl (show G X B 5 Z Q 56 [(1, .int (x1)), (2, .int (x2)), (3, .int (x3))] [] T M from hE)
  · replace h := ifn c6 h
    refine g_iload_n (pc := 40) C dX0_followed_40 rfl 0 rfl ?_
    refine g_iload_n (pc := 41) C dX0_followed_41 rfl 3 rfl ?_
    refine g_iconst (pc := 42) (v := 1) C dX0_followed_42 (by decide) ?_
    refine g_iadd (pc := 43) C dX0_followed_43 ?_
    refine g_ishr (pc := 44) C dX0_followed_44 ?_
    refine g_iconst (pc := 45) (v := 1) C dX0_followed_45 (by decide) ?_
    refine g_iand (pc := 46) C dX0_followed_46 ?_
    refine g_if_eq (pc := 47) (tgt := 56) C dX0_followed_47 (by decide) (fun c7 => ?_) (fun c7 => ?_)
    · replace h := ifp c7 h
      obtain rfl := Option.some.inj h
      exact g_sub [1, 2, 3] rfl (show G X B 5 Z Q 56 [(1, .int (x1)), (2, .int (x2)), (3, .int (x3))] [] T M from hE)
    · replace h := ifn c7 h
      obtain ⟨v8, ev8⟩ : ∃ y : Int32, y = x3 + (1 : Int32) := ⟨_, rfl⟩
      replace h := lt_at ev8 h
      refine g_iinc (pc := 50) (v := v8) (k := 3) (lo2 := [(3, .int (v8)), (0, .int (x0)), (1, .int (x1)), (2, .int (x2))]) C dX0_followed_50 rfl (by rw [ev8]; rfl) (by decide) rfl ?_
      refine g_goto (pc := 53) (tgt := 34) C dX0_followed_53 (by decide) ?_
      obtain rfl := Option.some.inj h
      exact g_sub [1, 2, 3, 0] rfl (show G X B 5 Z Q 34 [(0, .int (x0)), (1, .int (x1)), (2, .int (x2)), (3, .int (v8))] [] T M from hE)
/-- EyeTrainer$Bits.followed(II)I -/
def fX0_followed (x0 : Int32) (x1 : Int32) : Option (Int32) :=
  if ((x0 >>> (x1 &&& 31)) &&& (1 : Int32)) = 0 then (some x1) else ((lp FU (fun s => bX0_followed_12 x0 x1 s) x1).bind (fun x2_5 => (lp FU (fun s => bX0_followed_34 x0 x1 x2_5 s) x1).bind (fun x3_9 => lt ((x2_5 + x3_9) / (2 : Int32)) fun v10 => if v10 = x1 then (some x1) else (if x1 ≤ v10 then (some (x1 + (1 : Int32))) else (some (x1 - (1 : Int32)))))))
set_option maxHeartbeats 4000000 in
theorem kX0_followed {l : Launch} {B : Bx} {d : Nat} (hd : 0 ≤ d) {T : Sh} {M : Me} {x0 : Int32} {x1 : Int32} {r : Int32} (h : fX0_followed  x0 x1 = some r) : Kt l B yX0_followed cX0_followed 5 (some .int) d [.int (x0), .int (x1)] T M (some (.int r)) T M := by
  refine kt_of wX0_followed (Nat.le_refl _) (Nat.le_refl _) (Nat.le_of_ble_eq_true rfl) (fun X C hR hlx hin => ?_)
  subst hlx
  replace C : Cx X B cX0_followed 5 RX0 d (tp T, sl T, tp T, sl T) := C
  unfold fX0_followed at h
  show G X B 5 _ _ 0 [(0, .int (x0)), (1, .int (x1))] [] T M
  refine g_iload_n (pc := 0) C dX0_followed_0 rfl 0 rfl ?_
  refine g_iload_n (pc := 1) C dX0_followed_1 rfl 1 rfl ?_
  refine g_ishr (pc := 2) C dX0_followed_2 ?_
  refine g_iconst (pc := 3) (v := 1) C dX0_followed_3 (by decide) ?_
  refine g_iand (pc := 4) C dX0_followed_4 ?_
  refine g_if_ne (pc := 5) (tgt := 10) C dX0_followed_5 (by decide) (fun c1 => ?_) (fun c1 => ?_)
  · replace h := ifn c1 h
    refine g_iload_n (pc := 10) C dX0_followed_10 rfl 1 rfl ?_
    refine g_istore_n (pc := 11) (lo2 := [(2, .int (x1)), (0, .int (x0)), (1, .int (x1))]) C dX0_followed_11 rfl (by decide) rfl ?_
    replace h := bnd h; obtain ⟨x2_5, h1, h⟩ := h
    refine g_sub [1, 2, 0] rfl ?_
    refine lp_G2 (P := PX0_followed_12 X B _ _ T M x0 x1) (E := EX0_followed_12 X B _ _ T M x0 x1) (tbX0_followed_12 C hd) h1 ?_
    show G X B 5 _ _ 32 [(0, .int (x0)), (1, .int (x1)), (2, .int (x2_5))] [] T M
    refine g_iload_n (pc := 32) C dX0_followed_32 rfl 1 rfl ?_
    refine g_istore_n (pc := 33) (lo2 := [(3, .int (x1)), (0, .int (x0)), (1, .int (x1)), (2, .int (x2_5))]) C dX0_followed_33 rfl (by decide) rfl ?_
    replace h := bnd h; obtain ⟨x3_9, h1, h⟩ := h
    refine g_sub [1, 2, 3, 0] rfl ?_
    refine lp_G2 (P := PX0_followed_34 X B _ _ T M x0 x1 x2_5) (E := EX0_followed_34 X B _ _ T M x0 x1 x2_5) (tbX0_followed_34 C hd) h1 ?_
    show G X B 5 _ _ 56 [(1, .int (x1)), (2, .int (x2_5)), (3, .int (x3_9))] [] T M
    refine g_iload_n (pc := 56) C dX0_followed_56 rfl 1 rfl ?_
    refine g_iload_n (pc := 57) C dX0_followed_57 rfl 2 rfl ?_
    refine g_iadd (pc := 58) C dX0_followed_58 ?_
    refine g_iconst (pc := 59) (v := 2) C dX0_followed_59 (by decide) ?_
    refine g_idiv (pc := 60) C dX0_followed_60 (by decide) ?_
    refine g_topi (fun v10 ev10 => ?_)
    replace h := lt_at ev10 h
    refine g_istore (pc := 61) (lo2 := [(4, .int (v10)), (1, .int (x1)), (2, .int (x2_5)), (3, .int (x3_9))]) C dX0_followed_61 (by decide) rfl ?_
    refine g_iload (pc := 63) C dX0_followed_63 0 rfl ?_
    refine g_iload_n (pc := 65) C dX0_followed_65 rfl 1 rfl ?_
    refine g_icmp_ne (pc := 66) (tgt := 71) C dX0_followed_66 (by decide) (fun c11 => ?_) (fun c11 => ?_)
    · replace h := ifn c11 h
      refine g_iload (pc := 71) C dX0_followed_71 0 rfl ?_
      refine g_iload_n (pc := 73) C dX0_followed_73 rfl 1 rfl ?_
      refine g_icmp_ge (pc := 74) (tgt := 83) C dX0_followed_74 (by decide) (fun c12 => ?_) (fun c12 => ?_)
      · replace h := ifp c12 h
        refine g_iload_n (pc := 83) C dX0_followed_83 rfl 1 rfl ?_
        refine g_iconst (pc := 84) (v := 1) C dX0_followed_84 (by decide) ?_
        refine g_iadd (pc := 85) C dX0_followed_85 ?_
        obtain rfl := Option.some.inj h
        exact g_iret C hR dX0_followed_86
      · replace h := ifn c12 h
        refine g_iload_n (pc := 77) C dX0_followed_77 rfl 1 rfl ?_
        refine g_iconst (pc := 78) (v := 1) C dX0_followed_78 (by decide) ?_
        refine g_isub (pc := 79) C dX0_followed_79 ?_
        refine g_goto (pc := 80) (tgt := 86) C dX0_followed_80 (by decide) ?_
        obtain rfl := Option.some.inj h
        exact g_iret C hR dX0_followed_86
    · replace h := ifp c11 h
      refine g_iload_n (pc := 69) C dX0_followed_69 rfl 1 rfl ?_
      obtain rfl := Option.some.inj h
      exact g_iret C hR dX0_followed_70
  · replace h := ifp c1 h
    refine g_iload_n (pc := 8) C dX0_followed_8 rfl 1 rfl ?_
    obtain rfl := Option.some.inj h
    exact g_iret C hR dX0_followed_9
theorem dJ6_bitCount_0f7a4_0 : decode cJ6_bitCount_0f7a4 0 = .ok (.iload_n 0, 1) := by decide +kernel
theorem dJ6_bitCount_0f7a4_1 : decode cJ6_bitCount_0f7a4 1 = .ok (.iload_n 0, 1) := by decide +kernel
theorem dJ6_bitCount_0f7a4_2 : decode cJ6_bitCount_0f7a4 2 = .ok (.iconst 1, 1) := by decide +kernel
theorem dJ6_bitCount_0f7a4_3 : decode cJ6_bitCount_0f7a4 3 = .ok (.iushr, 1) := by decide +kernel
theorem dJ6_bitCount_0f7a4_4 : decode cJ6_bitCount_0f7a4 4 = .ok (.ldc_w 265, 3) := by decide +kernel
theorem dJ6_bitCount_0f7a4_7 : decode cJ6_bitCount_0f7a4 7 = .ok (.iand, 1) := by decide +kernel
theorem dJ6_bitCount_0f7a4_8 : decode cJ6_bitCount_0f7a4 8 = .ok (.isub, 1) := by decide +kernel
theorem dJ6_bitCount_0f7a4_9 : decode cJ6_bitCount_0f7a4 9 = .ok (.istore_n 0, 1) := by decide +kernel
theorem dJ6_bitCount_0f7a4_10 : decode cJ6_bitCount_0f7a4 10 = .ok (.iload_n 0, 1) := by decide +kernel
theorem dJ6_bitCount_0f7a4_11 : decode cJ6_bitCount_0f7a4 11 = .ok (.ldc_w 266, 3) := by decide +kernel
theorem dJ6_bitCount_0f7a4_14 : decode cJ6_bitCount_0f7a4 14 = .ok (.iand, 1) := by decide +kernel
theorem dJ6_bitCount_0f7a4_15 : decode cJ6_bitCount_0f7a4 15 = .ok (.iload_n 0, 1) := by decide +kernel
theorem dJ6_bitCount_0f7a4_16 : decode cJ6_bitCount_0f7a4 16 = .ok (.iconst 2, 1) := by decide +kernel
theorem dJ6_bitCount_0f7a4_17 : decode cJ6_bitCount_0f7a4 17 = .ok (.iushr, 1) := by decide +kernel
theorem dJ6_bitCount_0f7a4_18 : decode cJ6_bitCount_0f7a4 18 = .ok (.ldc_w 266, 3) := by decide +kernel
theorem dJ6_bitCount_0f7a4_21 : decode cJ6_bitCount_0f7a4 21 = .ok (.iand, 1) := by decide +kernel
theorem dJ6_bitCount_0f7a4_22 : decode cJ6_bitCount_0f7a4 22 = .ok (.iadd, 1) := by decide +kernel
theorem dJ6_bitCount_0f7a4_23 : decode cJ6_bitCount_0f7a4 23 = .ok (.istore_n 0, 1) := by decide +kernel
theorem dJ6_bitCount_0f7a4_24 : decode cJ6_bitCount_0f7a4 24 = .ok (.iload_n 0, 1) := by decide +kernel
theorem dJ6_bitCount_0f7a4_25 : decode cJ6_bitCount_0f7a4 25 = .ok (.iload_n 0, 1) := by decide +kernel
theorem dJ6_bitCount_0f7a4_26 : decode cJ6_bitCount_0f7a4 26 = .ok (.iconst 4, 1) := by decide +kernel
theorem dJ6_bitCount_0f7a4_27 : decode cJ6_bitCount_0f7a4 27 = .ok (.iushr, 1) := by decide +kernel
theorem dJ6_bitCount_0f7a4_28 : decode cJ6_bitCount_0f7a4 28 = .ok (.iadd, 1) := by decide +kernel
theorem dJ6_bitCount_0f7a4_29 : decode cJ6_bitCount_0f7a4 29 = .ok (.ldc_w 267, 3) := by decide +kernel
theorem dJ6_bitCount_0f7a4_32 : decode cJ6_bitCount_0f7a4 32 = .ok (.iand, 1) := by decide +kernel
theorem dJ6_bitCount_0f7a4_33 : decode cJ6_bitCount_0f7a4 33 = .ok (.istore_n 0, 1) := by decide +kernel
theorem dJ6_bitCount_0f7a4_34 : decode cJ6_bitCount_0f7a4 34 = .ok (.iload_n 0, 1) := by decide +kernel
theorem dJ6_bitCount_0f7a4_35 : decode cJ6_bitCount_0f7a4 35 = .ok (.iload_n 0, 1) := by decide +kernel
theorem dJ6_bitCount_0f7a4_36 : decode cJ6_bitCount_0f7a4 36 = .ok (.bipush 8, 2) := by decide +kernel
theorem dJ6_bitCount_0f7a4_38 : decode cJ6_bitCount_0f7a4 38 = .ok (.iushr, 1) := by decide +kernel
theorem dJ6_bitCount_0f7a4_39 : decode cJ6_bitCount_0f7a4 39 = .ok (.iadd, 1) := by decide +kernel
theorem dJ6_bitCount_0f7a4_40 : decode cJ6_bitCount_0f7a4 40 = .ok (.istore_n 0, 1) := by decide +kernel
theorem dJ6_bitCount_0f7a4_41 : decode cJ6_bitCount_0f7a4 41 = .ok (.iload_n 0, 1) := by decide +kernel
theorem dJ6_bitCount_0f7a4_42 : decode cJ6_bitCount_0f7a4 42 = .ok (.iload_n 0, 1) := by decide +kernel
theorem dJ6_bitCount_0f7a4_43 : decode cJ6_bitCount_0f7a4 43 = .ok (.bipush 16, 2) := by decide +kernel
theorem dJ6_bitCount_0f7a4_45 : decode cJ6_bitCount_0f7a4 45 = .ok (.iushr, 1) := by decide +kernel
theorem dJ6_bitCount_0f7a4_46 : decode cJ6_bitCount_0f7a4 46 = .ok (.iadd, 1) := by decide +kernel
theorem dJ6_bitCount_0f7a4_47 : decode cJ6_bitCount_0f7a4 47 = .ok (.istore_n 0, 1) := by decide +kernel
theorem dJ6_bitCount_0f7a4_48 : decode cJ6_bitCount_0f7a4 48 = .ok (.iload_n 0, 1) := by decide +kernel
theorem dJ6_bitCount_0f7a4_49 : decode cJ6_bitCount_0f7a4 49 = .ok (.bipush 63, 2) := by decide +kernel
theorem dJ6_bitCount_0f7a4_51 : decode cJ6_bitCount_0f7a4 51 = .ok (.iand, 1) := by decide +kernel
theorem dJ6_bitCount_0f7a4_52 : decode cJ6_bitCount_0f7a4 52 = .ok (.ireturn, 1) := by decide +kernel
theorem wJ6_bitCount_0f7a4 : Mw yJ6_bitCount_0f7a4 cJ6_bitCount_0f7a4 1 (some .int) 1 := ⟨q_875, q_139, by decide, ⟨by decide +kernel, by decide +kernel⟩, by decide +kernel, by decide +kernel⟩
/-- java/lang/Integer.bitCount(I)I -/
def fJ6_bitCount_0f7a4 (x0 : Int32) : Option (Int32) :=
  lt (x0 - (((Int32.toUInt32 x0 >>> (Int32.toUInt32 (1 : Int32) &&& Int32.toUInt32 31)).toInt32) &&& (1431655765 : Int32))) fun v1 => lt ((v1 &&& (858993459 : Int32)) + (((Int32.toUInt32 v1 >>> (Int32.toUInt32 (2 : Int32) &&& Int32.toUInt32 31)).toInt32) &&& (858993459 : Int32))) fun v2 => lt ((v2 + ((Int32.toUInt32 v2 >>> (Int32.toUInt32 (4 : Int32) &&& Int32.toUInt32 31)).toInt32)) &&& (252645135 : Int32)) fun v3 => lt (v3 + ((Int32.toUInt32 v3 >>> (Int32.toUInt32 (8 : Int32) &&& Int32.toUInt32 31)).toInt32)) fun v4 => lt (v4 + ((Int32.toUInt32 v4 >>> (Int32.toUInt32 (16 : Int32) &&& Int32.toUInt32 31)).toInt32)) fun v5 => some (v5 &&& (63 : Int32))
set_option maxHeartbeats 4000000 in
theorem kJ6_bitCount_0f7a4 {l : Launch} {B : Bx} {d : Nat} (hd : 0 ≤ d) {T : Sh} {M : Me} {x0 : Int32} {r : Int32} (h : fJ6_bitCount_0f7a4  x0 = some r) : Kt l B yJ6_bitCount_0f7a4 cJ6_bitCount_0f7a4 1 (some .int) d [.int (x0)] T M (some (.int r)) T M := by
  refine kt_of wJ6_bitCount_0f7a4 (Nat.le_refl _) (Nat.le_refl _) (Nat.le_of_ble_eq_true rfl) (fun X C hR hlx hin => ?_)
  subst hlx
  replace C : Cx X B cJ6_bitCount_0f7a4 1 RJ6 d (tp T, sl T, tp T, sl T) := C
  unfold fJ6_bitCount_0f7a4 at h
  show G X B 1 _ _ 0 [(0, .int (x0))] [] T M
  refine g_iload_n (pc := 0) C dJ6_bitCount_0f7a4_0 rfl 0 rfl ?_
  refine g_iload_n (pc := 1) C dJ6_bitCount_0f7a4_1 rfl 0 rfl ?_
  refine g_iconst (pc := 2) (v := 1) C dJ6_bitCount_0f7a4_2 (by decide) ?_
  refine g_iushr (pc := 3) C dJ6_bitCount_0f7a4_3 ?_
  refine g_ldcw (pc := 4) C dJ6_bitCount_0f7a4_4 q_876 ?_
  refine g_iand (pc := 7) C dJ6_bitCount_0f7a4_7 ?_
  refine g_isub (pc := 8) C dJ6_bitCount_0f7a4_8 ?_
  refine g_topi (fun v1 ev1 => ?_)
  replace h := lt_at ev1 h
  refine g_istore_n (pc := 9) (lo2 := [(0, .int (v1))]) C dJ6_bitCount_0f7a4_9 rfl (by decide) rfl ?_
  refine g_iload_n (pc := 10) C dJ6_bitCount_0f7a4_10 rfl 0 rfl ?_
  refine g_ldcw (pc := 11) C dJ6_bitCount_0f7a4_11 q_877 ?_
  refine g_iand (pc := 14) C dJ6_bitCount_0f7a4_14 ?_
  refine g_iload_n (pc := 15) C dJ6_bitCount_0f7a4_15 rfl 0 rfl ?_
  refine g_iconst (pc := 16) (v := 2) C dJ6_bitCount_0f7a4_16 (by decide) ?_
  refine g_iushr (pc := 17) C dJ6_bitCount_0f7a4_17 ?_
  refine g_ldcw (pc := 18) C dJ6_bitCount_0f7a4_18 q_877 ?_
  refine g_iand (pc := 21) C dJ6_bitCount_0f7a4_21 ?_
  refine g_iadd (pc := 22) C dJ6_bitCount_0f7a4_22 ?_
  refine g_topi (fun v2 ev2 => ?_)
  replace h := lt_at ev2 h
  refine g_istore_n (pc := 23) (lo2 := [(0, .int (v2))]) C dJ6_bitCount_0f7a4_23 rfl (by decide) rfl ?_
  refine g_iload_n (pc := 24) C dJ6_bitCount_0f7a4_24 rfl 0 rfl ?_
  refine g_iload_n (pc := 25) C dJ6_bitCount_0f7a4_25 rfl 0 rfl ?_
  refine g_iconst (pc := 26) (v := 4) C dJ6_bitCount_0f7a4_26 (by decide) ?_
  refine g_iushr (pc := 27) C dJ6_bitCount_0f7a4_27 ?_
  refine g_iadd (pc := 28) C dJ6_bitCount_0f7a4_28 ?_
  refine g_ldcw (pc := 29) C dJ6_bitCount_0f7a4_29 q_878 ?_
  refine g_iand (pc := 32) C dJ6_bitCount_0f7a4_32 ?_
  refine g_topi (fun v3 ev3 => ?_)
  replace h := lt_at ev3 h
  refine g_istore_n (pc := 33) (lo2 := [(0, .int (v3))]) C dJ6_bitCount_0f7a4_33 rfl (by decide) rfl ?_
  refine g_iload_n (pc := 34) C dJ6_bitCount_0f7a4_34 rfl 0 rfl ?_
  refine g_iload_n (pc := 35) C dJ6_bitCount_0f7a4_35 rfl 0 rfl ?_
  refine g_bipush (pc := 36) (v := 8) C dJ6_bitCount_0f7a4_36 (by decide) ?_
  refine g_iushr (pc := 38) C dJ6_bitCount_0f7a4_38 ?_
  refine g_iadd (pc := 39) C dJ6_bitCount_0f7a4_39 ?_
  refine g_topi (fun v4 ev4 => ?_)
  replace h := lt_at ev4 h
  refine g_istore_n (pc := 40) (lo2 := [(0, .int (v4))]) C dJ6_bitCount_0f7a4_40 rfl (by decide) rfl ?_
  refine g_iload_n (pc := 41) C dJ6_bitCount_0f7a4_41 rfl 0 rfl ?_
  refine g_iload_n (pc := 42) C dJ6_bitCount_0f7a4_42 rfl 0 rfl ?_
  refine g_bipush (pc := 43) (v := 16) C dJ6_bitCount_0f7a4_43 (by decide) ?_
  refine g_iushr (pc := 45) C dJ6_bitCount_0f7a4_45 ?_
  refine g_iadd (pc := 46) C dJ6_bitCount_0f7a4_46 ?_
  refine g_topi (fun v5 ev5 => ?_)
  replace h := lt_at ev5 h
  refine g_istore_n (pc := 47) (lo2 := [(0, .int (v5))]) C dJ6_bitCount_0f7a4_47 rfl (by decide) rfl ?_
  refine g_iload_n (pc := 48) C dJ6_bitCount_0f7a4_48 rfl 0 rfl ?_
  refine g_bipush (pc := 49) (v := 63) C dJ6_bitCount_0f7a4_49 (by decide) ?_
  refine g_iand (pc := 51) C dJ6_bitCount_0f7a4_51 ?_
  obtain rfl := Option.some.inj h
  exact g_iret C hR dJ6_bitCount_0f7a4_52
