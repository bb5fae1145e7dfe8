set_option maxRecDepth 20000 in
theorem q_1 : Cond.selects RX9 yX9_add yX9_add ∈ lw_gd := mem_gd (List.mem_of_getElem? (i := 1) (by decide +kernel)) rfl
set_option maxRecDepth 20000 in
theorem q_122 : Cond.initialized RX9 ∈ lw_gd := mem_gd (List.mem_of_getElem? (i := 122) (by decide +kernel)) rfl
set_option maxRecDepth 20000 in
theorem q_162 : Cond.fieldLink RX9 9 "EyeTrainer$Tokens" "kinds" "[I" ∈ lw_gd := mem_gd (List.mem_of_getElem? (i := 162) (by decide +kernel)) rfl
set_option maxRecDepth 20000 in
theorem q_164 : Cond.fieldLink RX9 15 "EyeTrainer$Tokens" "places" "[I" ∈ lw_gd := mem_gd (List.mem_of_getElem? (i := 164) (by decide +kernel)) rfl
set_option maxRecDepth 20000 in
theorem q_166 : Cond.fieldLink RX9 18 "EyeTrainer$Tokens" "values" "[I" ∈ lw_gd := mem_gd (List.mem_of_getElem? (i := 166) (by decide +kernel)) rfl
set_option maxRecDepth 20000 in
theorem q_168 : Cond.fieldLink RX9 21 "EyeTrainer$Tokens" "size" "I" ∈ lw_gd := mem_gd (List.mem_of_getElem? (i := 168) (by decide +kernel)) rfl
set_option maxRecDepth 20000 in
theorem q_486 : Cond.code yX9_cut cX9_cut 7 none ∈ lw_gd := mem_gd (List.mem_of_getElem? (i := 486) (by decide +kernel)) rfl
set_option maxRecDepth 20000 in
theorem q_487 : Cond.methodLink RX9 25 yX9_isLetter ∈ lw_gd := mem_gd (List.mem_of_getElem? (i := 487) (by decide +kernel)) rfl
set_option maxRecDepth 20000 in
theorem q_488 : Cond.static yX9_isLetter ∈ lw_gd := mem_gd (List.mem_of_getElem? (i := 488) (by decide +kernel)) rfl
set_option maxRecDepth 20000 in
theorem q_489 : Cond.code yX9_isLetter cX9_isLetter 1 (some .boolean) ∈ lw_gd := mem_gd (List.mem_of_getElem? (i := 489) (by decide +kernel)) rfl
set_option maxRecDepth 20000 in
theorem q_490 : Cond.methodLink RX9 29 yX9_endOfWord ∈ lw_gd := mem_gd (List.mem_of_getElem? (i := 490) (by decide +kernel)) rfl
set_option maxRecDepth 20000 in
theorem q_491 : Cond.static yX9_endOfWord ∈ lw_gd := mem_gd (List.mem_of_getElem? (i := 491) (by decide +kernel)) rfl
set_option maxRecDepth 20000 in
theorem q_492 : Cond.code yX9_endOfWord cX9_endOfWord 4 (some .int) ∈ lw_gd := mem_gd (List.mem_of_getElem? (i := 492) (by decide +kernel)) rfl
set_option maxRecDepth 20000 in
theorem q_493 : Cond.methodLink RX9 33 yX9_kindOfWord ∈ lw_gd := mem_gd (List.mem_of_getElem? (i := 493) (by decide +kernel)) rfl
set_option maxRecDepth 20000 in
theorem q_494 : Cond.static yX9_kindOfWord ∈ lw_gd := mem_gd (List.mem_of_getElem? (i := 494) (by decide +kernel)) rfl
set_option maxRecDepth 20000 in
theorem q_495 : Cond.code yX9_kindOfWord cX9_kindOfWord 3 (some .int) ∈ lw_gd := mem_gd (List.mem_of_getElem? (i := 495) (by decide +kernel)) rfl
set_option maxRecDepth 20000 in
theorem q_497 : Cond.methodLink RX9 68 yX9_is ∈ lw_gd := mem_gd (List.mem_of_getElem? (i := 497) (by decide +kernel)) rfl
set_option maxRecDepth 20000 in
theorem q_498 : Cond.static yX9_is ∈ lw_gd := mem_gd (List.mem_of_getElem? (i := 498) (by decide +kernel)) rfl
set_option maxRecDepth 20000 in
theorem q_499 : Cond.code yX9_is cX9_is 4 (some .boolean) ∈ lw_gd := mem_gd (List.mem_of_getElem? (i := 499) (by decide +kernel)) rfl
set_option maxRecDepth 20000 in
theorem q_500 : Cond.methodLink RX9 120 yJ0_length_8abf5 ∈ lw_gd := mem_gd (List.mem_of_getElem? (i := 500) (by decide +kernel)) rfl
set_option maxRecDepth 20000 in
theorem q_510 : Cond.methodLink RX9 124 yJ0_charAt_5068e ∈ lw_gd := mem_gd (List.mem_of_getElem? (i := 510) (by decide +kernel)) rfl
set_option maxRecDepth 20000 in
theorem q_511 : Cond.instanceMethod yJ0_charAt_5068e ∈ lw_gd := mem_gd (List.mem_of_getElem? (i := 511) (by decide +kernel)) rfl
set_option maxRecDepth 20000 in
theorem q_512 : Cond.selects RJ0 yJ0_charAt_5068e yJ0_charAt_5068e ∈ lw_gd := mem_gd (List.mem_of_getElem? (i := 512) (by decide +kernel)) rfl
set_option maxRecDepth 20000 in
theorem q_554 : Cond.methodLink RX9 84 yX9_kindOfFour ∈ lw_gd := mem_gd (List.mem_of_getElem? (i := 554) (by decide +kernel)) rfl
set_option maxRecDepth 20000 in
theorem q_555 : Cond.static yX9_kindOfFour ∈ lw_gd := mem_gd (List.mem_of_getElem? (i := 555) (by decide +kernel)) rfl
set_option maxRecDepth 20000 in
theorem q_556 : Cond.code yX9_kindOfFour cX9_kindOfFour 2 (some .int) ∈ lw_gd := mem_gd (List.mem_of_getElem? (i := 556) (by decide +kernel)) rfl
set_option maxRecDepth 20000 in
theorem q_573 : Cond.methodLink RX9 36 yX9_add ∈ lw_gd := mem_gd (List.mem_of_getElem? (i := 573) (by decide +kernel)) rfl
set_option maxRecDepth 20000 in
theorem q_575 : Cond.instanceMethod yX9_add ∈ lw_gd := mem_gd (List.mem_of_getElem? (i := 575) (by decide +kernel)) rfl
set_option maxRecDepth 20000 in
theorem q_576 : Cond.code yX9_add cX9_add 4 none ∈ lw_gd := mem_gd (List.mem_of_getElem? (i := 576) (by decide +kernel)) rfl
set_option maxRecDepth 20000 in
theorem q_577 : Cond.methodLink RX9 40 yX9_isDigit ∈ lw_gd := mem_gd (List.mem_of_getElem? (i := 577) (by decide +kernel)) rfl
set_option maxRecDepth 20000 in
theorem q_578 : Cond.static yX9_isDigit ∈ lw_gd := mem_gd (List.mem_of_getElem? (i := 578) (by decide +kernel)) rfl
set_option maxRecDepth 20000 in
theorem q_579 : Cond.code yX9_isDigit cX9_isDigit 1 (some .boolean) ∈ lw_gd := mem_gd (List.mem_of_getElem? (i := 579) (by decide +kernel)) rfl
set_option maxRecDepth 20000 in
theorem q_580 : Cond.methodLink RX9 43 yX9_endOfDigits ∈ lw_gd := mem_gd (List.mem_of_getElem? (i := 580) (by decide +kernel)) rfl
set_option maxRecDepth 20000 in
theorem q_581 : Cond.static yX9_endOfDigits ∈ lw_gd := mem_gd (List.mem_of_getElem? (i := 581) (by decide +kernel)) rfl
set_option maxRecDepth 20000 in
theorem q_582 : Cond.code yX9_endOfDigits cX9_endOfDigits 4 (some .int) ∈ lw_gd := mem_gd (List.mem_of_getElem? (i := 582) (by decide +kernel)) rfl
set_option maxRecDepth 20000 in
theorem q_583 : Cond.methodLink RX9 46 yJ9_min_7cf53 ∈ lw_gd := mem_gd (List.mem_of_getElem? (i := 583) (by decide +kernel)) rfl
set_option maxRecDepth 20000 in
theorem q_586 : Cond.methodLink RX9 52 yX9_valueOf ∈ lw_gd := mem_gd (List.mem_of_getElem? (i := 586) (by decide +kernel)) rfl
set_option maxRecDepth 20000 in
theorem q_587 : Cond.static yX9_valueOf ∈ lw_gd := mem_gd (List.mem_of_getElem? (i := 587) (by decide +kernel)) rfl
set_option maxRecDepth 20000 in
theorem q_588 : Cond.code yX9_valueOf cX9_valueOf 5 (some .int) ∈ lw_gd := mem_gd (List.mem_of_getElem? (i := 588) (by decide +kernel)) rfl
set_option maxRecDepth 20000 in
theorem q_590 : Cond.methodLink RX9 57 yJ0_indexOf_0f7a4 ∈ lw_gd := mem_gd (List.mem_of_getElem? (i := 590) (by decide +kernel)) rfl
set_option maxRecDepth 20000 in
theorem q_591 : Cond.instanceMethod yJ0_indexOf_0f7a4 ∈ lw_gd := mem_gd (List.mem_of_getElem? (i := 591) (by decide +kernel)) rfl
set_option maxRecDepth 20000 in
theorem q_592 : Cond.selects RJ0 yJ0_indexOf_0f7a4 yJ0_indexOf_0f7a4 ∈ lw_gd := mem_gd (List.mem_of_getElem? (i := 592) (by decide +kernel)) rfl
set_option maxRecDepth 20000 in
theorem q_647 : Cond.methodLink RX9 63 yJ9_max_7cf53 ∈ lw_gd := mem_gd (List.mem_of_getElem? (i := 647) (by decide +kernel)) rfl
theorem dX9_add_0 : decode cX9_add 0 = .ok (.aload_n 0, 1) := by decide +kernel
theorem dX9_add_1 : decode cX9_add 1 = .ok (.getfield 21, 3) := by decide +kernel
theorem dX9_add_4 : decode cX9_add 4 = .ok (.aload_n 0, 1) := by decide +kernel
theorem dX9_add_5 : decode cX9_add 5 = .ok (.getfield 9, 3) := by decide +kernel
theorem dX9_add_8 : decode cX9_add 8 = .ok (.arraylength, 1) := by decide +kernel
theorem dX9_add_9 : decode cX9_add 9 = .ok (.if_icmp .ge 43, 3) := by decide +kernel
theorem dX9_add_12 : decode cX9_add 12 = .ok (.aload_n 0, 1) := by decide +kernel
theorem dX9_add_13 : decode cX9_add 13 = .ok (.getfield 9, 3) := by decide +kernel
theorem dX9_add_16 : decode cX9_add 16 = .ok (.aload_n 0, 1) := by decide +kernel
theorem dX9_add_17 : decode cX9_add 17 = .ok (.getfield 21, 3) := by decide +kernel
theorem dX9_add_20 : decode cX9_add 20 = .ok (.iload_n 1, 1) := by decide +kernel
theorem dX9_add_21 : decode cX9_add 21 = .ok (.iastore, 1) := by decide +kernel
theorem dX9_add_22 : decode cX9_add 22 = .ok (.aload_n 0, 1) := by decide +kernel
theorem dX9_add_23 : decode cX9_add 23 = .ok (.getfield 15, 3) := by decide +kernel
theorem dX9_add_26 : decode cX9_add 26 = .ok (.aload_n 0, 1) := by decide +kernel
theorem dX9_add_27 : decode cX9_add 27 = .ok (.getfield 21, 3) := by decide +kernel
theorem dX9_add_30 : decode cX9_add 30 = .ok (.iload_n 2, 1) := by decide +kernel
theorem dX9_add_31 : decode cX9_add 31 = .ok (.iastore, 1) := by decide +kernel
theorem dX9_add_32 : decode cX9_add 32 = .ok (.aload_n 0, 1) := by decide +kernel
theorem dX9_add_33 : decode cX9_add 33 = .ok (.getfield 18, 3) := by decide +kernel
theorem dX9_add_36 : decode cX9_add 36 = .ok (.aload_n 0, 1) := by decide +kernel
theorem dX9_add_37 : decode cX9_add 37 = .ok (.getfield 21, 3) := by decide +kernel
theorem dX9_add_40 : decode cX9_add 40 = .ok (.iload_n 3, 1) := by decide +kernel
theorem dX9_add_41 : decode cX9_add 41 = .ok (.iastore, 1) := by decide +kernel
theorem dX9_add_42 : decode cX9_add 42 = .ok (.aload_n 0, 1) := by decide +kernel
theorem dX9_add_43 : decode cX9_add 43 = .ok (.dup, 1) := by decide +kernel
theorem dX9_add_44 : decode cX9_add 44 = .ok (.getfield 21, 3) := by decide +kernel
theorem dX9_add_47 : decode cX9_add 47 = .ok (.iconst 1, 1) := by decide +kernel
theorem dX9_add_48 : decode cX9_add 48 = .ok (.iadd, 1) := by decide +kernel
theorem dX9_add_49 : decode cX9_add 49 = .ok (.putfield 21, 3) := by decide +kernel
theorem dX9_add_52 : decode cX9_add 52 = .ok (.return_, 1) := by decide +kernel
theorem wX9_add : Mw yX9_add cX9_add 4 none 3 := ⟨q_576, q_122, by decide, ⟨by decide +kernel, by decide +kernel⟩, by decide +kernel, by decide +kernel⟩
/-- EyeTrainer$Tokens.add(III)V -/
def fX9_add (T : Sh) (M : Me) (x0 : Nat) (x1 : Int32) (x2 : Int32) (x3 : Int32) : Option (Unit × Me) :=
  gd (kd T x0 = 8) <| Option.bind (gR M x0 0) fun a2 => gd (kd T a2 = 13) <| if (nI (ln T a2)) ≤ (gI M x0 3) then (some ((), M)) else (Option.bind (gR M x0 0) fun a5 => gd (kd T a5 = 13) <| gv (gI M x0 3) (ln T a5) <| lt (pI M a5 (Int32.toNatClampNeg (gI M x0 3)) x1) fun M8 => Option.bind (gR M8 x0 1) fun a9 => gd (kd T a9 = 13) <| gv (gI M8 x0 3) (ln T a9) <| lt (pI M8 a9 (Int32.toNatClampNeg (gI M8 x0 3)) x2) fun M12 => Option.bind (gR M12 x0 2) fun a13 => gd (kd T a13 = 13) <| gv (gI M12 x0 3) (ln T a13) <| lt (pI M12 a13 (Int32.toNatClampNeg (gI M12 x0 3)) x3) fun M16 => lt (pI M16 x0 3 ((gI M16 x0 3) + (1 : Int32))) fun M17 => some ((), M17))
set_option maxHeartbeats 4000000 in
theorem kX9_add {l : Launch} {B : Bx} {d : Nat} (hd : 0 ≤ d) {T : Sh} {M : Me} {x0 : Nat} {x1 : Int32} {x2 : Int32} {x3 : Int32} {M' : Me} (h : fX9_add T M x0 x1 x2 x3 = some ((), M')) : Kt l B yX9_add cX9_add 4 none d [.ref (x0), .int (x1), .int (x2), .int (x3)] T M none T M' := by
  refine kt_of wX9_add (Nat.le_refl _) (Nat.le_refl _) (Nat.le_of_ble_eq_true rfl) (fun X C hR hlx hin => ?_)
  subst hlx
  replace C : Cx X B cX9_add 4 RX9 d (tp T, sl T, tp T, sl T) := C
  unfold fX9_add at h
  show G X B 4 _ _ 0 [(0, .ref (x0)), (1, .int (x1)), (2, .int (x2)), (3, .int (x3))] [] T M
  refine g_aload_n (pc := 0) C dX9_add_0 rfl 0 rfl ?_
  replace h := gd_some h; obtain ⟨hk1, h⟩ := h
  refine g_get (pc := 1) (v := .int (gI M x0 3)) C dX9_add_1 kX9 hk1 3 (by decide) q_168 rfl ?_
  refine g_aload_n (pc := 4) C dX9_add_4 rfl 0 rfl ?_
  refine g_get (pc := 5) (v := va_rf (gR M x0 0)) C dX9_add_5 kX9 hk1 0 (by decide) q_162 rfl ?_
  replace h := bnd h; obtain ⟨a2, ea2, h⟩ := h
  refine g_refq ea2 ?_
  replace h := gd_some h; obtain ⟨hk3, h⟩ := h
  refine g_alen13 (pc := 8) C dX9_add_8 hk3 ?_
  refine g_icmp_ge (pc := 9) (tgt := 52) C dX9_add_9 (by decide) (fun c4 => ?_) (fun c4 => ?_)
  · replace h := ifp c4 h
    obtain ⟨-, rfl⟩ := Prod.mk.inj (Option.some.inj h)
    exact g_vret C hR dX9_add_52
  · replace h := ifn c4 h
    refine g_aload_n (pc := 12) C dX9_add_12 rfl 0 rfl ?_
    refine g_get (pc := 13) (v := va_rf (gR M x0 0)) C dX9_add_13 kX9 hk1 0 (by decide) q_162 rfl ?_
    replace h := bnd h; obtain ⟨a5, ea5, h⟩ := h
    refine g_refq ea5 ?_
    refine g_aload_n (pc := 16) C dX9_add_16 rfl 0 rfl ?_
    refine g_get (pc := 17) (v := .int (gI M x0 3)) C dX9_add_17 kX9 hk1 3 (by decide) q_168 rfl ?_
    refine g_iload_n (pc := 20) C dX9_add_20 rfl 1 rfl ?_
    replace h := gd_some h; obtain ⟨hk6, h⟩ := h
    replace h := gv_some h; obtain ⟨hi7, h⟩ := h
    refine g_iast (pc := 21) C dX9_add_21 hk6 hi7 ?_
    refine g_mem (fun M8 eM8 => ?_)
    replace h := lt_at eM8 h
    refine g_aload_n (pc := 22) C dX9_add_22 rfl 0 rfl ?_
    refine g_get (pc := 23) (v := va_rf (gR M8 x0 1)) C dX9_add_23 kX9 hk1 1 (by decide) q_164 rfl ?_
    replace h := bnd h; obtain ⟨a9, ea9, h⟩ := h
    refine g_refq ea9 ?_
    refine g_aload_n (pc := 26) C dX9_add_26 rfl 0 rfl ?_
    refine g_get (pc := 27) (v := .int (gI M8 x0 3)) C dX9_add_27 kX9 hk1 3 (by decide) q_168 rfl ?_
    refine g_iload_n (pc := 30) C dX9_add_30 rfl 2 rfl ?_
    replace h := gd_some h; obtain ⟨hk10, h⟩ := h
    replace h := gv_some h; obtain ⟨hi11, h⟩ := h
    refine g_iast (pc := 31) C dX9_add_31 hk10 hi11 ?_
    refine g_mem (fun M12 eM12 => ?_)
    replace h := lt_at eM12 h
    refine g_aload_n (pc := 32) C dX9_add_32 rfl 0 rfl ?_
    refine g_get (pc := 33) (v := va_rf (gR M12 x0 2)) C dX9_add_33 kX9 hk1 2 (by decide) q_166 rfl ?_
    replace h := bnd h; obtain ⟨a13, ea13, h⟩ := h
    refine g_refq ea13 ?_
    refine g_aload_n (pc := 36) C dX9_add_36 rfl 0 rfl ?_
    refine g_get (pc := 37) (v := .int (gI M12 x0 3)) C dX9_add_37 kX9 hk1 3 (by decide) q_168 rfl ?_
    refine g_iload_n (pc := 40) C dX9_add_40 rfl 3 rfl ?_
    replace h := gd_some h; obtain ⟨hk14, h⟩ := h
    replace h := gv_some h; obtain ⟨hi15, h⟩ := h
    refine g_iast (pc := 41) C dX9_add_41 hk14 hi15 ?_
    refine g_mem (fun M16 eM16 => ?_)
    replace h := lt_at eM16 h
    refine g_aload_n (pc := 42) C dX9_add_42 rfl 0 rfl ?_
    refine g_dup (pc := 43) C dX9_add_43 rfl ?_
    refine g_get (pc := 44) (v := .int (gI M16 x0 3)) C dX9_add_44 kX9 hk1 3 (by decide) q_168 rfl ?_
    refine g_iconst (pc := 47) (v := 1) C dX9_add_47 (by decide) ?_
    refine g_iadd (pc := 48) C dX9_add_48 ?_
    refine g_putI (pc := 49) C dX9_add_49 kX9 hk1 3 (by decide) rfl rfl rfl q_168 ?_
    refine g_mem (fun M17 eM17 => ?_)
    replace h := lt_at eM17 h
    obtain ⟨-, rfl⟩ := Prod.mk.inj (Option.some.inj h)
    exact g_vret C hR dX9_add_52
theorem dX9_isLetter_0 : decode cX9_isLetter 0 = .ok (.iload_n 0, 1) := by decide +kernel
theorem dX9_isLetter_1 : decode cX9_isLetter 1 = .ok (.bipush 97, 2) := by decide +kernel
theorem dX9_isLetter_3 : decode cX9_isLetter 3 = .ok (.if_icmp .lt 13, 3) := by decide +kernel
theorem dX9_isLetter_6 : decode cX9_isLetter 6 = .ok (.iload_n 0, 1) := by decide +kernel
theorem dX9_isLetter_7 : decode cX9_isLetter 7 = .ok (.bipush 122, 2) := by decide +kernel
theorem dX9_isLetter_9 : decode cX9_isLetter 9 = .ok (.if_icmp .gt 7, 3) := by decide +kernel
theorem dX9_isLetter_12 : decode cX9_isLetter 12 = .ok (.iconst 1, 1) := by decide +kernel
theorem dX9_isLetter_13 : decode cX9_isLetter 13 = .ok (.goto 4, 3) := by decide +kernel
theorem dX9_isLetter_16 : decode cX9_isLetter 16 = .ok (.iconst 0, 1) := by decide +kernel
theorem dX9_isLetter_17 : decode cX9_isLetter 17 = .ok (.ireturn, 1) := by decide +kernel
theorem wX9_isLetter : Mw yX9_isLetter cX9_isLetter 1 (some .boolean) 1 := ⟨q_489, q_122, by decide, ⟨by decide +kernel, by decide +kernel⟩, by decide +kernel, by decide +kernel⟩
/-- EyeTrainer$Tokens.isLetter(I)Z -/
def fX9_isLetter (x0 : Int32) : Option (Int32) :=
  if x0 < (97 : Int32) then (some (0 : Int32)) else (if (122 : Int32) < x0 then (some (0 : Int32)) else (some (1 : Int32)))
set_option maxHeartbeats 4000000 in
theorem kX9_isLetter {l : Launch} {B : Bx} {d : Nat} (hd : 0 ≤ d) {T : Sh} {M : Me} {x0 : Int32} {r : Int32} (h : fX9_isLetter  x0 = some r) : Kt l B yX9_isLetter cX9_isLetter 1 (some .boolean) d [.int (x0)] T M (some (.int r)) T M := by
  refine kt_of wX9_isLetter (Nat.le_refl _) (Nat.le_refl _) (Nat.le_of_ble_eq_true rfl) (fun X C hR hlx hin => ?_)
  subst hlx
  replace C : Cx X B cX9_isLetter 1 RX9 d (tp T, sl T, tp T, sl T) := C
  unfold fX9_isLetter at h
  show G X B 1 _ _ 0 [(0, .int (x0))] [] T M
  refine g_iload_n (pc := 0) C dX9_isLetter_0 rfl 0 rfl ?_
  refine g_bipush (pc := 1) (v := 97) C dX9_isLetter_1 (by decide) ?_
  refine g_icmp_lt (pc := 3) (tgt := 16) C dX9_isLetter_3 (by decide) (fun c1 => ?_) (fun c1 => ?_)
  · replace h := ifp c1 h
    refine g_iconst (pc := 16) (v := 0) C dX9_isLetter_16 (by decide) ?_
    obtain rfl := Option.some.inj h
    exact g_zret C hR dX9_isLetter_17 rfl
  · replace h := ifn c1 h
    refine g_iload_n (pc := 6) C dX9_isLetter_6 rfl 0 rfl ?_
    refine g_bipush (pc := 7) (v := 122) C dX9_isLetter_7 (by decide) ?_
    refine g_icmp_gt (pc := 9) (tgt := 16) C dX9_isLetter_9 (by decide) (fun c2 => ?_) (fun c2 => ?_)
    · replace h := ifp c2 h
      refine g_iconst (pc := 16) (v := 0) C dX9_isLetter_16 (by decide) ?_
      obtain rfl := Option.some.inj h
      exact g_zret C hR dX9_isLetter_17 rfl
    · replace h := ifn c2 h
      refine g_iconst (pc := 12) (v := 1) C dX9_isLetter_12 (by decide) ?_
      refine g_goto (pc := 13) (tgt := 17) C dX9_isLetter_13 (by decide) ?_
      obtain rfl := Option.some.inj h
      exact g_zret C hR dX9_isLetter_17 rfl
theorem dX9_isDigit_0 : decode cX9_isDigit 0 = .ok (.iload_n 0, 1) := by decide +kernel
theorem dX9_isDigit_1 : decode cX9_isDigit 1 = .ok (.bipush 48, 2) := by decide +kernel
theorem dX9_isDigit_3 : decode cX9_isDigit 3 = .ok (.if_icmp .lt 13, 3) := by decide +kernel
theorem dX9_isDigit_6 : decode cX9_isDigit 6 = .ok (.iload_n 0, 1) := by decide +kernel
theorem dX9_isDigit_7 : decode cX9_isDigit 7 = .ok (.bipush 57, 2) := by decide +kernel
theorem dX9_isDigit_9 : decode cX9_isDigit 9 = .ok (.if_icmp .gt 7, 3) := by decide +kernel
theorem dX9_isDigit_12 : decode cX9_isDigit 12 = .ok (.iconst 1, 1) := by decide +kernel
theorem dX9_isDigit_13 : decode cX9_isDigit 13 = .ok (.goto 4, 3) := by decide +kernel
theorem dX9_isDigit_16 : decode cX9_isDigit 16 = .ok (.iconst 0, 1) := by decide +kernel
theorem dX9_isDigit_17 : decode cX9_isDigit 17 = .ok (.ireturn, 1) := by decide +kernel
theorem wX9_isDigit : Mw yX9_isDigit cX9_isDigit 1 (some .boolean) 1 := ⟨q_579, q_122, by decide, ⟨by decide +kernel, by decide +kernel⟩, by decide +kernel, by decide +kernel⟩
/-- EyeTrainer$Tokens.isDigit(I)Z -/
def fX9_isDigit (x0 : Int32) : Option (Int32) :=
  if x0 < (48 : Int32) then (some (0 : Int32)) else (if (57 : Int32) < x0 then (some (0 : Int32)) else (some (1 : Int32)))
set_option maxHeartbeats 4000000 in
theorem kX9_isDigit {l : Launch} {B : Bx} {d : Nat} (hd : 0 ≤ d) {T : Sh} {M : Me} {x0 : Int32} {r : Int32} (h : fX9_isDigit  x0 = some r) : Kt l B yX9_isDigit cX9_isDigit 1 (some .boolean) d [.int (x0)] T M (some (.int r)) T M := by
  refine kt_of wX9_isDigit (Nat.le_refl _) (Nat.le_refl _) (Nat.le_of_ble_eq_true rfl) (fun X C hR hlx hin => ?_)
  subst hlx
  replace C : Cx X B cX9_isDigit 1 RX9 d (tp T, sl T, tp T, sl T) := C
  unfold fX9_isDigit at h
  show G X B 1 _ _ 0 [(0, .int (x0))] [] T M
  refine g_iload_n (pc := 0) C dX9_isDigit_0 rfl 0 rfl ?_
  refine g_bipush (pc := 1) (v := 48) C dX9_isDigit_1 (by decide) ?_
  refine g_icmp_lt (pc := 3) (tgt := 16) C dX9_isDigit_3 (by decide) (fun c1 => ?_) (fun c1 => ?_)
  · replace h := ifp c1 h
    refine g_iconst (pc := 16) (v := 0) C dX9_isDigit_16 (by decide) ?_
    obtain rfl := Option.some.inj h
    exact g_zret C hR dX9_isDigit_17 rfl
  · replace h := ifn c1 h
    refine g_iload_n (pc := 6) C dX9_isDigit_6 rfl 0 rfl ?_
    refine g_bipush (pc := 7) (v := 57) C dX9_isDigit_7 (by decide) ?_
    refine g_icmp_gt (pc := 9) (tgt := 16) C dX9_isDigit_9 (by decide) (fun c2 => ?_) (fun c2 => ?_)
    · replace h := ifp c2 h
      refine g_iconst (pc := 16) (v := 0) C dX9_isDigit_16 (by decide) ?_
      obtain rfl := Option.some.inj h
      exact g_zret C hR dX9_isDigit_17 rfl
    · replace h := ifn c2 h
      refine g_iconst (pc := 12) (v := 1) C dX9_isDigit_12 (by decide) ?_
      refine g_goto (pc := 13) (tgt := 17) C dX9_isDigit_13 (by decide) ?_
      obtain rfl := Option.some.inj h
      exact g_zret C hR dX9_isDigit_17 rfl
theorem dX9_endOfWord_0 : decode cX9_endOfWord 0 = .ok (.iload_n 1, 1) := by decide +kernel
theorem dX9_endOfWord_1 : decode cX9_endOfWord 1 = .ok (.istore_n 3, 1) := by decide +kernel
theorem dX9_endOfWord_2 : decode cX9_endOfWord 2 = .ok (.iload_n 3, 1) := by decide +kernel
theorem dX9_endOfWord_3 : decode cX9_endOfWord 3 = .ok (.iload_n 2, 1) := by decide +kernel
theorem dX9_endOfWord_4 : decode cX9_endOfWord 4 = .ok (.if_icmp .ge 18, 3) := by decide +kernel
theorem dX9_endOfWord_7 : decode cX9_endOfWord 7 = .ok (.aload_n 0, 1) := by decide +kernel
theorem dX9_endOfWord_8 : decode cX9_endOfWord 8 = .ok (.iload_n 3, 1) := by decide +kernel
theorem dX9_endOfWord_9 : decode cX9_endOfWord 9 = .ok (.baload, 1) := by decide +kernel
theorem dX9_endOfWord_10 : decode cX9_endOfWord 10 = .ok (.invokestatic 25, 3) := by decide +kernel
theorem dX9_endOfWord_13 : decode cX9_endOfWord 13 = .ok (.ifCond .eq 9, 3) := by decide +kernel
theorem dX9_endOfWord_16 : decode cX9_endOfWord 16 = .ok (.iinc 3 1, 3) := by decide +kernel
theorem dX9_endOfWord_19 : decode cX9_endOfWord 19 = .ok (.goto (-17), 3) := by decide +kernel
theorem dX9_endOfWord_22 : decode cX9_endOfWord 22 = .ok (.iload_n 3, 1) := by decide +kernel
theorem dX9_endOfWord_23 : decode cX9_endOfWord 23 = .ok (.ireturn, 1) := by decide +kernel
theorem wX9_endOfWord : Mw yX9_endOfWord cX9_endOfWord 4 (some .int) 3 := ⟨q_492, q_122, by decide, ⟨by decide +kernel, by decide +kernel⟩, by decide +kernel, by decide +kernel⟩
-- a loop of EyeTrainer$Tokens.endOfWord at 2
def bX9_endOfWord_2 (T : Sh) (M : Me) (x0 : Nat) (x2 : Int32) (x3 : Int32) : Option ((Int32) ⊕ (Int32)) :=
  if x2 ≤ x3 then (some (.inr x3)) else (gd (kd T x0 = 12) <| gv x3 (ln T x0) <| Option.bind (fX9_isLetter (gI M x0 (Int32.toNatClampNeg x3))) fun r4 => if r4 = 0 then (some (.inr x3)) else (lt (x3 + (1 : Int32)) fun v6 => some (.inl v6)))
def PX9_endOfWord_2 (X : Fx) (B : Bx) (Z : Nat × Nat × Nat × Nat) (Q : State → Prop) (T : Sh) (M : Me) (x0 : Nat) (x2 : Int32) (s : Int32) : Prop := G X B 4 Z Q 2 [(0, .ref (x0)), (2, .int (x2)), (3, .int (s))] [] T M
def EX9_endOfWord_2 (X : Fx) (B : Bx) (Z : Nat × Nat × Nat × Nat) (Q : State → Prop) (T : Sh) (M : Me) (x0 : Nat) (x2 : Int32) (r : Int32) : Prop := G X B 4 Z Q 22 [(3, .int (r))] [] T M
set_option maxHeartbeats 4000000 in
theorem tbX9_endOfWord_2 {X : Fx} {B : Bx} {Z : Nat × Nat × Nat × Nat} {Q : State → Prop} {d : Nat} {T : Sh} {M : Me} (C : Cx X B cX9_endOfWord 4 RX9 d Z) (hd : 1 ≤ d) {x0 : Nat} {x2 : Int32} : ∀ (s : Int32) (o : (Int32) ⊕ (Int32)), bX9_endOfWord_2 T M x0 x2 s = some o → lpE (PX9_endOfWord_2 X B Z Q T M x0 x2) (EX9_endOfWord_2 X B Z Q T M x0 x2) o → PX9_endOfWord_2 X B Z Q T M x0 x2 s := by
  rintro x3 o h hE
  replace h : bX9_endOfWord_2 T M x0 x2 x3 = some o := h
  unfold bX9_endOfWord_2 at h
  show G X B 4 Z Q 2 [(0, .ref (x0)), (2, .int (x2)), (3, .int (x3))] [] T M
  refine g_iload_n (pc := 2) C dX9_endOfWord_2 rfl 2 rfl ?_
  refine g_iload_n (pc := 3) C dX9_endOfWord_3 rfl 1 rfl ?_
  refine g_icmp_ge (pc := 4) (tgt := 22) C dX9_endOfWord_4 (by decide) (fun c1 => ?_) (fun c1 => ?_)
  · replace h := ifp c1 h
    obtain rfl := Option.some.inj h
    exact g_sub [2] rfl (show G X B 4 Z Q 22 [(3, .int (x3))] [] T M from hE)
  · replace h := ifn c1 h
    refine g_aload_n (pc := 7) C dX9_endOfWord_7 rfl 0 rfl ?_
    refine g_iload_n (pc := 8) C dX9_endOfWord_8 rfl 2 rfl ?_
    replace h := gd_some h; obtain ⟨hk2, h⟩ := h
    replace h := gv_some h; obtain ⟨hi3, h⟩ := h
    refine g_bald (pc := 9) C dX9_endOfWord_9 hk2 hi3 ?_
    replace h := bnd h; obtain ⟨r4, h1, h⟩ := h
    refine g_callSi (pc := 10) (As := [.int (gI M x0 (Int32.toNatClampNeg x3))]) (st := []) C dX9_endOfWord_10 wX9_isLetter q_488 q_487 (by omega) rfl (Nat.le_of_ble_eq_true rfl) (kX9_isLetter (d := 0) (Nat.le_refl _) h1) ?_
    refine g_if_eq (pc := 13) (tgt := 22) C dX9_endOfWord_13 (by decide) (fun c5 => ?_) (fun c5 => ?_)
    · replace h := ifp c5 h
      obtain rfl := Option.some.inj h
      exact g_sub [2] rfl (show G X B 4 Z Q 22 [(3, .int (x3))] [] T M from hE)
    · replace h := ifn c5 h
      obtain ⟨v6, ev6⟩ : ∃ y : Int32, y = x3 + (1 : Int32) := ⟨_, rfl⟩
      replace h := lt_at ev6 h
      refine g_iinc (pc := 16) (v := v6) (k := 2) (lo2 := [(3, .int (v6)), (0, .ref (x0)), (2, .int (x2))]) C dX9_endOfWord_16 rfl (by rw [ev6]; rfl) (by decide) rfl ?_
      refine g_goto (pc := 19) (tgt := 2) C dX9_endOfWord_19 (by decide) ?_
      obtain rfl := Option.some.inj h
      exact g_sub [1, 2, 0] rfl (show G X B 4 Z Q 2 [(0, .ref (x0)), (2, .int (x2)), (3, .int (v6))] [] T M from hE)
/-- EyeTrainer$Tokens.endOfWord([BII)I -/
def fX9_endOfWord (T : Sh) (M : Me) (x0 : Nat) (x1 : Int32) (x2 : Int32) : Option (Int32) :=
  (lp FU (fun s => bX9_endOfWord_2 T M x0 x2 s) x1).bind (fun x3_7 => some x3_7)
set_option maxHeartbeats 4000000 in
theorem kX9_endOfWord {l : Launch} {B : Bx} {d : Nat} (hd : 1 ≤ d) {T : Sh} {M : Me} {x0 : Nat} {x1 : Int32} {x2 : Int32} {r : Int32} (h : fX9_endOfWord T M x0 x1 x2 = some r) : Kt l B yX9_endOfWord cX9_endOfWord 4 (some .int) d [.ref (x0), .int (x1), .int (x2)] T M (some (.int r)) T M := by
  refine kt_of wX9_endOfWord (Nat.le_refl _) (Nat.le_refl _) (Nat.le_of_ble_eq_true rfl) (fun X C hR hlx hin => ?_)
  subst hlx
  replace C : Cx X B cX9_endOfWord 4 RX9 d (tp T, sl T, tp T, sl T) := C
  unfold fX9_endOfWord at h
  show G X B 4 _ _ 0 [(0, .ref (x0)), (1, .int (x1)), (2, .int (x2))] [] T M
  refine g_iload_n (pc := 0) C dX9_endOfWord_0 rfl 1 rfl ?_
  refine g_istore_n (pc := 1) (lo2 := [(3, .int (x1)), (0, .ref (x0)), (1, .int (x1)), (2, .int (x2))]) C dX9_endOfWord_1 rfl (by decide) rfl ?_
  replace h := bnd h; obtain ⟨x3_7, h1, h⟩ := h
  refine g_sub [1, 3, 0] rfl ?_
  refine lp_G2 (P := PX9_endOfWord_2 X B _ _ T M x0 x2) (E := EX9_endOfWord_2 X B _ _ T M x0 x2) (tbX9_endOfWord_2 C hd) h1 ?_
  show G X B 4 _ _ 22 [(3, .int (x3_7))] [] T M
  refine g_iload_n (pc := 22) C dX9_endOfWord_22 rfl 0 rfl ?_
  obtain rfl := Option.some.inj h
  exact g_iret C hR dX9_endOfWord_23
theorem dX9_endOfDigits_0 : decode cX9_endOfDigits 0 = .ok (.iload_n 1, 1) := by decide +kernel
theorem dX9_endOfDigits_1 : decode cX9_endOfDigits 1 = .ok (.istore_n 3, 1) := by decide +kernel
theorem dX9_endOfDigits_2 : decode cX9_endOfDigits 2 = .ok (.iload_n 3, 1) := by decide +kernel
theorem dX9_endOfDigits_3 : decode cX9_endOfDigits 3 = .ok (.iload_n 2, 1) := by decide +kernel
theorem dX9_endOfDigits_4 : decode cX9_endOfDigits 4 = .ok (.if_icmp .ge 18, 3) := by decide +kernel
theorem dX9_endOfDigits_7 : decode cX9_endOfDigits 7 = .ok (.aload_n 0, 1) := by decide +kernel
theorem dX9_endOfDigits_8 : decode cX9_endOfDigits 8 = .ok (.iload_n 3, 1) := by decide +kernel
theorem dX9_endOfDigits_9 : decode cX9_endOfDigits 9 = .ok (.baload, 1) := by decide +kernel
theorem dX9_endOfDigits_10 : decode cX9_endOfDigits 10 = .ok (.invokestatic 40, 3) := by decide +kernel
theorem dX9_endOfDigits_13 : decode cX9_endOfDigits 13 = .ok (.ifCond .eq 9, 3) := by decide +kernel
theorem dX9_endOfDigits_16 : decode cX9_endOfDigits 16 = .ok (.iinc 3 1, 3) := by decide +kernel
theorem dX9_endOfDigits_19 : decode cX9_endOfDigits 19 = .ok (.goto (-17), 3) := by decide +kernel
theorem dX9_endOfDigits_22 : decode cX9_endOfDigits 22 = .ok (.iload_n 3, 1) := by decide +kernel
theorem dX9_endOfDigits_23 : decode cX9_endOfDigits 23 = .ok (.ireturn, 1) := by decide +kernel
theorem wX9_endOfDigits : Mw yX9_endOfDigits cX9_endOfDigits 4 (some .int) 3 := ⟨q_582, q_122, by decide, ⟨by decide +kernel, by decide +kernel⟩, by decide +kernel, by decide +kernel⟩
-- a loop of EyeTrainer$Tokens.endOfDigits at 2
def bX9_endOfDigits_2 (T : Sh) (M : Me) (x0 : Nat) (x2 : Int32) (x3 : Int32) : Option ((Int32) ⊕ (Int32)) :=
  if x2 ≤ x3 then (some (.inr x3)) else (gd (kd T x0 = 12) <| gv x3 (ln T x0) <| Option.bind (fX9_isDigit (gI M x0 (Int32.toNatClampNeg x3))) fun r4 => if r4 = 0 then (some (.inr x3)) else (lt (x3 + (1 : Int32)) fun v6 => some (.inl v6)))
def PX9_endOfDigits_2 (X : Fx) (B : Bx) (Z : Nat × Nat × Nat × Nat) (Q : State → Prop) (T : Sh) (M : Me) (x0 : Nat) (x2 : Int32) (s : Int32) : Prop := G X B 4 Z Q 2 [(0, .ref (x0)), (2, .int (x2)), (3, .int (s))] [] T M
def EX9_endOfDigits_2 (X : Fx) (B : Bx) (Z : Nat × Nat × Nat × Nat) (Q : State → Prop) (T : Sh) (M : Me) (x0 : Nat) (x2 : Int32) (r : Int32) : Prop := G X B 4 Z Q 22 [(3, .int (r))] [] T M
set_option maxHeartbeats 4000000 in
theorem tbX9_endOfDigits_2 {X : Fx} {B : Bx} {Z : Nat × Nat × Nat × Nat} {Q : State → Prop} {d : Nat} {T : Sh} {M : Me} (C : Cx X B cX9_endOfDigits 4 RX9 d Z) (hd : 1 ≤ d) {x0 : Nat} {x2 : Int32} : ∀ (s : Int32) (o : (Int32) ⊕ (Int32)), bX9_endOfDigits_2 T M x0 x2 s = some o → lpE (PX9_endOfDigits_2 X B Z Q T M x0 x2) (EX9_endOfDigits_2 X B Z Q T M x0 x2) o → PX9_endOfDigits_2 X B Z Q T M x0 x2 s := by
  rintro x3 o h hE
  replace h : bX9_endOfDigits_2 T M x0 x2 x3 = some o := h
  unfold bX9_endOfDigits_2 at h
  show G X B 4 Z Q 2 [(0, .ref (x0)), (2, .int (x2)), (3, .int (x3))] [] T M
  refine g_iload_n (pc := 2) C dX9_endOfDigits_2 rfl 2 rfl ?_
  refine g_iload_n (pc := 3) C dX9_endOfDigits_3 rfl 1 rfl ?_
  refine g_icmp_ge (pc := 4) (tgt := 22) C dX9_endOfDigits_4 (by decide) (fun c1 => ?_) (fun c1 => ?_)
  · replace h := ifp c1 h
    obtain rfl := Option.some.inj h
    exact g_sub [2] rfl (show G X B 4 Z Q 22 [(3, .int (x3))] [] T M from hE)
  · replace h := ifn c1 h
    refine g_aload_n (pc := 7) C dX9_endOfDigits_7 rfl 0 rfl ?_
    refine g_iload_n (pc := 8) C dX9_endOfDigits_8 rfl 2 rfl ?_
    replace h := gd_some h; obtain ⟨hk2, h⟩ := h
    replace h := gv_some h; obtain ⟨hi3, h⟩ := h
    refine g_bald (pc := 9) C dX9_endOfDigits_9 hk2 hi3 ?_
    replace h := bnd h; obtain ⟨r4, h1, h⟩ := h
    refine g_callSi (pc := 10) (As := [.int (gI M x0 (Int32.toNatClampNeg x3))]) (st := []) C dX9_endOfDigits_10 wX9_isDigit q_578 q_577 (by omega) rfl (Nat.le_of_ble_eq_true rfl) (kX9_isDigit (d := 0) (Nat.le_refl _) h1) ?_
    refine g_if_eq (pc := 13) (tgt := 22) C dX9_endOfDigits_13 (by decide) (fun c5 => ?_) (fun c5 => ?_)
    · replace h := ifp c5 h
      obtain rfl := Option.some.inj h
      exact g_sub [2] rfl (show G X B 4 Z Q 22 [(3, .int (x3))] [] T M from hE)
    · replace h := ifn c5 h
      obtain ⟨v6, ev6⟩ : ∃ y : Int32, y = x3 + (1 : Int32) := ⟨_, rfl⟩
      replace h := lt_at ev6 h
      refine g_iinc (pc := 16) (v := v6) (k := 2) (lo2 := [(3, .int (v6)), (0, .ref (x0)), (2, .int (x2))]) C dX9_endOfDigits_16 rfl (by rw [ev6]; rfl) (by decide) rfl ?_
      refine g_goto (pc := 19) (tgt := 2) C dX9_endOfDigits_19 (by decide) ?_
      obtain rfl := Option.some.inj h
      exact g_sub [1, 2, 0] rfl (show G X B 4 Z Q 2 [(0, .ref (x0)), (2, .int (x2)), (3, .int (v6))] [] T M from hE)
/-- EyeTrainer$Tokens.endOfDigits([BII)I -/
def fX9_endOfDigits (T : Sh) (M : Me) (x0 : Nat) (x1 : Int32) (x2 : Int32) : Option (Int32) :=
  (lp FU (fun s => bX9_endOfDigits_2 T M x0 x2 s) x1).bind (fun x3_7 => some x3_7)
set_option maxHeartbeats 4000000 in
theorem kX9_endOfDigits {l : Launch} {B : Bx} {d : Nat} (hd : 1 ≤ d) {T : Sh} {M : Me} {x0 : Nat} {x1 : Int32} {x2 : Int32} {r : Int32} (h : fX9_endOfDigits T M x0 x1 x2 = some r) : Kt l B yX9_endOfDigits cX9_endOfDigits 4 (some .int) d [.ref (x0), .int (x1), .int (x2)] T M (some (.int r)) T M := by
  refine kt_of wX9_endOfDigits (Nat.le_refl _) (Nat.le_refl _) (Nat.le_of_ble_eq_true rfl) (fun X C hR hlx hin => ?_)
  subst hlx
  replace C : Cx X B cX9_endOfDigits 4 RX9 d (tp T, sl T, tp T, sl T) := C
  unfold fX9_endOfDigits at h
  show G X B 4 _ _ 0 [(0, .ref (x0)), (1, .int (x1)), (2, .int (x2))] [] T M
  refine g_iload_n (pc := 0) C dX9_endOfDigits_0 rfl 1 rfl ?_
  refine g_istore_n (pc := 1) (lo2 := [(3, .int (x1)), (0, .ref (x0)), (1, .int (x1)), (2, .int (x2))]) C dX9_endOfDigits_1 rfl (by decide) rfl ?_
  replace h := bnd h; obtain ⟨x3_7, h1, h⟩ := h
  refine g_sub [1, 3, 0] rfl ?_
  refine lp_G2 (P := PX9_endOfDigits_2 X B _ _ T M x0 x2) (E := EX9_endOfDigits_2 X B _ _ T M x0 x2) (tbX9_endOfDigits_2 C hd) h1 ?_
  show G X B 4 _ _ 22 [(3, .int (x3_7))] [] T M
  refine g_iload_n (pc := 22) C dX9_endOfDigits_22 rfl 0 rfl ?_
  obtain rfl := Option.some.inj h
  exact g_iret C hR dX9_endOfDigits_23
theorem dX9_valueOf_0 : decode cX9_valueOf 0 = .ok (.iconst 0, 1) := by decide +kernel
theorem dX9_valueOf_1 : decode cX9_valueOf 1 = .ok (.istore_n 3, 1) := by decide +kernel
theorem dX9_valueOf_2 : decode cX9_valueOf 2 = .ok (.iload_n 1, 1) := by decide +kernel
theorem dX9_valueOf_3 : decode cX9_valueOf 3 = .ok (.istore 4, 2) := by decide +kernel
theorem dX9_valueOf_5 : decode cX9_valueOf 5 = .ok (.iload 4, 2) := by decide +kernel
theorem dX9_valueOf_7 : decode cX9_valueOf 7 = .ok (.iload_n 2, 1) := by decide +kernel
theorem dX9_valueOf_8 : decode cX9_valueOf 8 = .ok (.if_icmp .ge 22, 3) := by decide +kernel
theorem dX9_valueOf_11 : decode cX9_valueOf 11 = .ok (.bipush 10, 2) := by decide +kernel
theorem dX9_valueOf_13 : decode cX9_valueOf 13 = .ok (.iload_n 3, 1) := by decide +kernel
theorem dX9_valueOf_14 : decode cX9_valueOf 14 = .ok (.imul, 1) := by decide +kernel
theorem dX9_valueOf_15 : decode cX9_valueOf 15 = .ok (.aload_n 0, 1) := by decide +kernel
theorem dX9_valueOf_16 : decode cX9_valueOf 16 = .ok (.iload 4, 2) := by decide +kernel
theorem dX9_valueOf_18 : decode cX9_valueOf 18 = .ok (.baload, 1) := by decide +kernel
theorem dX9_valueOf_19 : decode cX9_valueOf 19 = .ok (.iadd, 1) := by decide +kernel
theorem dX9_valueOf_20 : decode cX9_valueOf 20 = .ok (.bipush 48, 2) := by decide +kernel
theorem dX9_valueOf_22 : decode cX9_valueOf 22 = .ok (.isub, 1) := by decide +kernel
theorem dX9_valueOf_23 : decode cX9_valueOf 23 = .ok (.istore_n 3, 1) := by decide +kernel
theorem dX9_valueOf_24 : decode cX9_valueOf 24 = .ok (.iinc 4 1, 3) := by decide +kernel
theorem dX9_valueOf_27 : decode cX9_valueOf 27 = .ok (.goto (-22), 3) := by decide +kernel
theorem dX9_valueOf_30 : decode cX9_valueOf 30 = .ok (.iload_n 3, 1) := by decide +kernel
theorem dX9_valueOf_31 : decode cX9_valueOf 31 = .ok (.ireturn, 1) := by decide +kernel
theorem wX9_valueOf : Mw yX9_valueOf cX9_valueOf 5 (some .int) 3 := ⟨q_588, q_122, by decide, ⟨by decide +kernel, by decide +kernel⟩, by decide +kernel, by decide +kernel⟩
-- a loop of EyeTrainer$Tokens.valueOf at 5
def bX9_valueOf_5 (T : Sh) (M : Me) (x0 : Nat) (x2 : Int32) (x3 : Int32) (x4 : Int32) : Option ((Int32 × Int32) ⊕ (Int32)) :=
  if x2 ≤ x4 then (some (.inr x3)) else (gd (kd T x0 = 12) <| gv x4 (ln T x0) <| lt ((((10 : Int32) * x3) + (gI M x0 (Int32.toNatClampNeg x4))) - (48 : Int32)) fun v4 => lt (x4 + (1 : Int32)) fun v5 => some (.inl (v4, v5)))
def PX9_valueOf_5 (X : Fx) (B : Bx) (Z : Nat × Nat × Nat × Nat) (Q : State → Prop) (T : Sh) (M : Me) (x0 : Nat) (x2 : Int32) (s : Int32 × Int32) : Prop := G X B 5 Z Q 5 [(0, .ref (x0)), (2, .int (x2)), (3, .int (s.1)), (4, .int (s.2))] [] T M
def EX9_valueOf_5 (X : Fx) (B : Bx) (Z : Nat × Nat × Nat × Nat) (Q : State → Prop) (T : Sh) (M : Me) (x0 : Nat) (x2 : Int32) (r : Int32) : Prop := G X B 5 Z Q 30 [(3, .int (r))] [] T M
set_option maxHeartbeats 4000000 in
theorem tbX9_valueOf_5 {X : Fx} {B : Bx} {Z : Nat × Nat × Nat × Nat} {Q : State → Prop} {d : Nat} {T : Sh} {M : Me} (C : Cx X B cX9_valueOf 5 RX9 d Z) (hd : 0 ≤ d) {x0 : Nat} {x2 : Int32} : ∀ (s : Int32 × Int32) (o : (Int32 × Int32) ⊕ (Int32)), bX9_valueOf_5 T M x0 x2 s.1 s.2 = some o → lpE (PX9_valueOf_5 X B Z Q T M x0 x2) (EX9_valueOf_5 X B Z Q T M x0 x2) o → PX9_valueOf_5 X B Z Q T M x0 x2 s := by
  rintro ⟨x3, x4⟩ o h hE
  replace h : bX9_valueOf_5 T M x0 x2 x3 x4 = some o := h
  unfold bX9_valueOf_5 at h
  show G X B 5 Z Q 5 [(0, .ref (x0)), (2, .int (x2)), (3, .int (x3)), (4, .int (x4))] [] T M
  refine g_iload (pc := 5) C dX9_valueOf_5 3 rfl ?_
  refine g_iload_n (pc := 7) C dX9_valueOf_7 rfl 1 rfl ?_
  refine g_icmp_ge (pc := 8) (tgt := 30) C dX9_valueOf_8 (by decide) (fun c1 => ?_) (fun c1 => ?_)
  · replace h := ifp c1 h
    obtain rfl := Option.some.inj h
    exact g_sub [2] rfl (show G X B 5 Z Q 30 [(3, .int (x3))] [] T M from hE)
  · replace h := ifn c1 h
    refine g_bipush (pc := 11) (v := 10) C dX9_valueOf_11 (by decide) ?_
    refine g_iload_n (pc := 13) C dX9_valueOf_13 rfl 2 rfl ?_
    refine g_imul (pc := 14) C dX9_valueOf_14 ?_
    refine g_aload_n (pc := 15) C dX9_valueOf_15 rfl 0 rfl ?_
    refine g_iload (pc := 16) C dX9_valueOf_16 3 rfl ?_
    replace h := gd_some h; obtain ⟨hk2, h⟩ := h
    replace h := gv_some h; obtain ⟨hi3, h⟩ := h
    refine g_bald (pc := 18) C dX9_valueOf_18 hk2 hi3 ?_
    refine g_iadd (pc := 19) C dX9_valueOf_19 ?_
    refine g_bipush (pc := 20) (v := 48) C dX9_valueOf_20 (by decide) ?_
    refine g_isub (pc := 22) C dX9_valueOf_22 ?_
    refine g_topi (fun v4 ev4 => ?_)
    replace h := lt_at ev4 h
    refine g_istore_n (pc := 23) (lo2 := [(3, .int (v4)), (0, .ref (x0)), (2, .int (x2)), (4, .int (x4))]) C dX9_valueOf_23 rfl (by decide) rfl ?_
    obtain ⟨v5, ev5⟩ : ∃ y : Int32, y = x4 + (1 : Int32) := ⟨_, rfl⟩
    replace h := lt_at ev5 h
    refine g_iinc (pc := 24) (v := v5) (k := 3) (lo2 := [(4, .int (v5)), (3, .int (v4)), (0, .ref (x0)), (2, .int (x2))]) C dX9_valueOf_24 rfl (by rw [ev5]; rfl) (by decide) rfl ?_
    refine g_goto (pc := 27) (tgt := 5) C dX9_valueOf_27 (by decide) ?_
    obtain rfl := Option.some.inj h
    exact g_sub [2, 3, 1, 0] rfl (show G X B 5 Z Q 5 [(0, .ref (x0)), (2, .int (x2)), (3, .int (v4)), (4, .int (v5))] [] T M from hE)
/-- EyeTrainer$Tokens.valueOf([BII)I -/
def fX9_valueOf (T : Sh) (M : Me) (x0 : Nat) (x1 : Int32) (x2 : Int32) : Option (Int32) :=
  (lp FU (fun s => bX9_valueOf_5 T M x0 x2 s.1 s.2) ((0 : Int32), x1)).bind (fun x3_6 => some x3_6)
set_option maxHeartbeats 4000000 in
theorem kX9_valueOf {l : Launch} {B : Bx} {d : Nat} (hd : 0 ≤ d) {T : Sh} {M : Me} {x0 : Nat} {x1 : Int32} {x2 : Int32} {r : Int32} (h : fX9_valueOf T M x0 x1 x2 = some r) : Kt l B yX9_valueOf cX9_valueOf 5 (some .int) d [.ref (x0), .int (x1), .int (x2)] T M (some (.int r)) T M := by
  refine kt_of wX9_valueOf (Nat.le_refl _) (Nat.le_refl _) (Nat.le_of_ble_eq_true rfl) (fun X C hR hlx hin => ?_)
  subst hlx
  replace C : Cx X B cX9_valueOf 5 RX9 d (tp T, sl T, tp T, sl T) := C
  unfold fX9_valueOf at h
  show G X B 5 _ _ 0 [(0, .ref (x0)), (1, .int (x1)), (2, .int (x2))] [] T M
  refine g_iconst (pc := 0) (v := 0) C dX9_valueOf_0 (by decide) ?_
  refine g_istore_n (pc := 1) (lo2 := [(3, .int ((0 : Int32))), (0, .ref (x0)), (1, .int (x1)), (2, .int (x2))]) C dX9_valueOf_1 rfl (by decide) rfl ?_
  refine g_iload_n (pc := 2) C dX9_valueOf_2 rfl 2 rfl ?_
  refine g_istore (pc := 3) (lo2 := [(4, .int (x1)), (3, .int ((0 : Int32))), (0, .ref (x0)), (1, .int (x1)), (2, .int (x2))]) C dX9_valueOf_3 (by decide) rfl ?_
  replace h := bnd h; obtain ⟨x3_6, h1, h⟩ := h
  refine g_sub [2, 4, 1, 0] rfl ?_
  refine lp_G2 (P := PX9_valueOf_5 X B _ _ T M x0 x2) (E := EX9_valueOf_5 X B _ _ T M x0 x2) (tbX9_valueOf_5 C hd) h1 ?_
  show G X B 5 _ _ 30 [(3, .int (x3_6))] [] T M
  refine g_iload_n (pc := 30) C dX9_valueOf_30 rfl 0 rfl ?_
  obtain rfl := Option.some.inj h
  exact g_iret C hR dX9_valueOf_31
theorem dX9_is_0 : decode cX9_is 0 = .ok (.iconst 0, 1) := by decide +kernel
theorem dX9_is_1 : decode cX9_is 1 = .ok (.istore_n 3, 1) := by decide +kernel
theorem dX9_is_2 : decode cX9_is 2 = .ok (.iload_n 3, 1) := by decide +kernel
theorem dX9_is_3 : decode cX9_is 3 = .ok (.aload_n 0, 1) := by decide +kernel
theorem dX9_is_4 : decode cX9_is 4 = .ok (.invokevirtual 120, 3) := by decide +kernel
theorem dX9_is_7 : decode cX9_is 7 = .ok (.if_icmp .ge 32, 3) := by decide +kernel
theorem dX9_is_10 : decode cX9_is 10 = .ok (.iload_n 2, 1) := by decide +kernel
theorem dX9_is_11 : decode cX9_is 11 = .ok (.iload_n 3, 1) := by decide +kernel
theorem dX9_is_12 : decode cX9_is 12 = .ok (.iadd, 1) := by decide +kernel
theorem dX9_is_13 : decode cX9_is 13 = .ok (.aload_n 1, 1) := by decide +kernel
theorem dX9_is_14 : decode cX9_is 14 = .ok (.arraylength, 1) := by decide +kernel
theorem dX9_is_15 : decode cX9_is 15 = .ok (.if_icmp .ge 16, 3) := by decide +kernel
theorem dX9_is_18 : decode cX9_is 18 = .ok (.aload_n 0, 1) := by decide +kernel
theorem dX9_is_19 : decode cX9_is 19 = .ok (.iload_n 3, 1) := by decide +kernel
theorem dX9_is_20 : decode cX9_is 20 = .ok (.invokevirtual 124, 3) := by decide +kernel
theorem dX9_is_23 : decode cX9_is 23 = .ok (.aload_n 1, 1) := by decide +kernel
theorem dX9_is_24 : decode cX9_is 24 = .ok (.iload_n 2, 1) := by decide +kernel
theorem dX9_is_25 : decode cX9_is 25 = .ok (.iload_n 3, 1) := by decide +kernel
theorem dX9_is_26 : decode cX9_is 26 = .ok (.iadd, 1) := by decide +kernel
theorem dX9_is_27 : decode cX9_is 27 = .ok (.baload, 1) := by decide +kernel
theorem dX9_is_28 : decode cX9_is 28 = .ok (.if_icmp .eq 5, 3) := by decide +kernel
theorem dX9_is_31 : decode cX9_is 31 = .ok (.iconst 0, 1) := by decide +kernel
theorem dX9_is_32 : decode cX9_is 32 = .ok (.ireturn, 1) := by decide +kernel
theorem dX9_is_33 : decode cX9_is 33 = .ok (.iinc 3 1, 3) := by decide +kernel
theorem dX9_is_36 : decode cX9_is 36 = .ok (.goto (-34), 3) := by decide +kernel
theorem dX9_is_39 : decode cX9_is 39 = .ok (.iconst 1, 1) := by decide +kernel
theorem dX9_is_40 : decode cX9_is 40 = .ok (.ireturn, 1) := by decide +kernel
theorem wX9_is : Mw yX9_is cX9_is 4 (some .boolean) 3 := ⟨q_499, q_122, by decide, ⟨by decide +kernel, by decide +kernel⟩, by decide +kernel, by decide +kernel⟩
-- a loop of EyeTrainer$Tokens.is at 2
def bX9_is_2 (T : Sh) (M : Me) (x0 : Nat) (x1 : Nat) (x2 : Int32) (x3 : Int32) : Option ((Int32) ⊕ (Unit ⊕ Unit)) :=
  gd (x0 < 25) <| Option.bind (fJ0_length_8abf5 x0) fun r2 => if r2 ≤ x3 then (some (.inr (.inr ()))) else (gd (kd T x1 = 12) <| if (nI (ln T x1)) ≤ (x2 + x3) then (some (.inr (.inl ()))) else (Option.bind (fJ0_charAt_5068e x0 x3) fun r6 => gv (x2 + x3) (ln T x1) <| if r6 = (gI M x1 (Int32.toNatClampNeg (x2 + x3))) then (lt (x3 + (1 : Int32)) fun v9 => some (.inl v9)) else (some (.inr (.inl ())))))
def PX9_is_2 (X : Fx) (B : Bx) (Z : Nat × Nat × Nat × Nat) (Q : State → Prop) (T : Sh) (M : Me) (x0 : Nat) (x1 : Nat) (x2 : Int32) (s : Int32) : Prop := G X B 4 Z Q 2 [(0, .ref (B.2.2.2.1 (x0))), (1, .ref (x1)), (2, .int (x2)), (3, .int (s))] [] T M
def EX9_is_2 (X : Fx) (B : Bx) (Z : Nat × Nat × Nat × Nat) (Q : State → Prop) (T : Sh) (M : Me) (x0 : Nat) (x1 : Nat) (x2 : Int32) (r : Unit ⊕ Unit) : Prop := Sum.elim (fun r => G X B 4 Z Q 31 [] [] T M) (fun r => G X B 4 Z Q 39 [] [] T M) r
set_option maxHeartbeats 4000000 in
theorem tbX9_is_2 {X : Fx} {B : Bx} {Z : Nat × Nat × Nat × Nat} {Q : State → Prop} {d : Nat} {T : Sh} {M : Me} (C : Cx X B cX9_is 4 RX9 d Z) (hd : 4 ≤ d) {x0 : Nat} {x1 : Nat} {x2 : Int32} : ∀ (s : Int32) (o : (Int32) ⊕ (Unit ⊕ Unit)), bX9_is_2 T M x0 x1 x2 s = some o → lpE (PX9_is_2 X B Z Q T M x0 x1 x2) (EX9_is_2 X B Z Q T M x0 x1 x2) o → PX9_is_2 X B Z Q T M x0 x1 x2 s := by
  rintro x3 o h hE
  replace h : bX9_is_2 T M x0 x1 x2 x3 = some o := h
  unfold bX9_is_2 at h
  show G X B 4 Z Q 2 [(0, .ref (B.2.2.2.1 (x0))), (1, .ref (x1)), (2, .int (x2)), (3, .int (x3))] [] T M
  refine g_iload_n (pc := 2) C dX9_is_2 rfl 3 rfl ?_
  refine g_aload_n (pc := 3) C dX9_is_3 rfl 0 rfl ?_
  replace h := gd_some h; obtain ⟨hw1, h⟩ := h
  replace h := bnd h; obtain ⟨r2, h1, h⟩ := h
  refine g_callTi (pc := 4) (As := []) (st := [.int (x3)]) C dX9_is_4 wJ0_length_8abf5 hw1 rfl q_501 q_502 q_500 (by omega) rfl (Nat.le_of_ble_eq_true rfl) (kJ0_length_8abf5 (d := 1) (Nat.le_refl _) h1) ?_
  refine g_icmp_ge (pc := 7) (tgt := 39) C dX9_is_7 (by decide) (fun c3 => ?_) (fun c3 => ?_)
  · replace h := ifp c3 h
    obtain rfl := Option.some.inj h
    exact g_sub [] rfl (show G X B 4 Z Q 39 [] [] T M from hE)
  · replace h := ifn c3 h
    refine g_iload_n (pc := 10) C dX9_is_10 rfl 2 rfl ?_
    refine g_iload_n (pc := 11) C dX9_is_11 rfl 3 rfl ?_
    refine g_iadd (pc := 12) C dX9_is_12 ?_
    refine g_aload_n (pc := 13) C dX9_is_13 rfl 1 rfl ?_
    replace h := gd_some h; obtain ⟨hk4, h⟩ := h
    refine g_alen12 (pc := 14) C dX9_is_14 hk4 ?_
    refine g_icmp_ge (pc := 15) (tgt := 31) C dX9_is_15 (by decide) (fun c5 => ?_) (fun c5 => ?_)
    · replace h := ifp c5 h
      obtain rfl := Option.some.inj h
      exact g_sub [] rfl (show G X B 4 Z Q 31 [] [] T M from hE)
    · replace h := ifn c5 h
      refine g_aload_n (pc := 18) C dX9_is_18 rfl 0 rfl ?_
      refine g_iload_n (pc := 19) C dX9_is_19 rfl 3 rfl ?_
      replace h := bnd h; obtain ⟨r6, h1, h⟩ := h
      refine g_callTi (pc := 20) (As := [.int (x3)]) (st := []) C dX9_is_20 wJ0_charAt_5068e hw1 rfl q_511 q_512 q_510 (by omega) rfl (Nat.le_of_ble_eq_true rfl) (kJ0_charAt_5068e (d := 3) (Nat.le_refl _) h1) ?_
      refine g_aload_n (pc := 23) C dX9_is_23 rfl 1 rfl ?_
      refine g_iload_n (pc := 24) C dX9_is_24 rfl 2 rfl ?_
      refine g_iload_n (pc := 25) C dX9_is_25 rfl 3 rfl ?_
      refine g_iadd (pc := 26) C dX9_is_26 ?_
      replace h := gv_some h; obtain ⟨hi7, h⟩ := h
      refine g_bald (pc := 27) C dX9_is_27 hk4 hi7 ?_
      refine g_icmp_eq (pc := 28) (tgt := 33) C dX9_is_28 (by decide) (fun c8 => ?_) (fun c8 => ?_)
      · replace h := ifp c8 h
        obtain ⟨v9, ev9⟩ : ∃ y : Int32, y = x3 + (1 : Int32) := ⟨_, rfl⟩
        replace h := lt_at ev9 h
        refine g_iinc (pc := 33) (v := v9) (k := 3) (lo2 := [(3, .int (v9)), (0, .ref (B.2.2.2.1 (x0))), (1, .ref (x1)), (2, .int (x2))]) C dX9_is_33 rfl (by rw [ev9]; rfl) (by decide) rfl ?_
        refine g_goto (pc := 36) (tgt := 2) C dX9_is_36 (by decide) ?_
        obtain rfl := Option.some.inj h
        exact g_sub [1, 2, 3, 0] rfl (show G X B 4 Z Q 2 [(0, .ref (B.2.2.2.1 (x0))), (1, .ref (x1)), (2, .int (x2)), (3, .int (v9))] [] T M from hE)
      · replace h := ifn c8 h
        obtain rfl := Option.some.inj h
        exact g_sub [] rfl (show G X B 4 Z Q 31 [] [] T M from hE)
/-- EyeTrainer$Tokens.is(Ljava/lang/String;[BI)Z -/
def fX9_is (T : Sh) (M : Me) (x0 : Nat) (x1 : Nat) (x2 : Int32) : Option (Int32) :=
  (lp FU (fun s => bX9_is_2 T M x0 x1 x2 s) (0 : Int32)).bind (Sum.elim (fun _ => some (0 : Int32)) (fun _ => some (1 : Int32)))
set_option maxHeartbeats 4000000 in
theorem kX9_is {l : Launch} {B : Bx} {d : Nat} (hd : 4 ≤ d) {T : Sh} {M : Me} {x0 : Nat} {x1 : Nat} {x2 : Int32} {r : Int32} (h : fX9_is T M x0 x1 x2 = some r) : Kt l B yX9_is cX9_is 4 (some .boolean) d [.ref (B.2.2.2.1 (x0)), .ref (x1), .int (x2)] T M (some (.int r)) T M := by
  refine kt_of wX9_is (Nat.le_refl _) (Nat.le_refl _) (Nat.le_of_ble_eq_true rfl) (fun X C hR hlx hin => ?_)
  subst hlx
  replace C : Cx X B cX9_is 4 RX9 d (tp T, sl T, tp T, sl T) := C
  unfold fX9_is at h
  show G X B 4 _ _ 0 [(0, .ref (B.2.2.2.1 (x0))), (1, .ref (x1)), (2, .int (x2))] [] T M
  refine g_iconst (pc := 0) (v := 0) C dX9_is_0 (by decide) ?_
  refine g_istore_n (pc := 1) (lo2 := [(3, .int ((0 : Int32))), (0, .ref (B.2.2.2.1 (x0))), (1, .ref (x1)), (2, .int (x2))]) C dX9_is_1 rfl (by decide) rfl ?_
  replace h := bndE h; rcases h with ⟨a1, h1, h⟩ | ⟨a1, h1, h⟩
  · refine g_sub [1, 2, 3, 0] rfl ?_
    refine lp_G2 (P := PX9_is_2 X B _ _ T M x0 x1 x2) (E := EX9_is_2 X B _ _ T M x0 x1 x2) (tbX9_is_2 C hd) h1 ?_
    show G X B 4 _ _ 31 [] [] T M
    refine g_iconst (pc := 31) (v := 0) C dX9_is_31 (by decide) ?_
    obtain rfl := Option.some.inj h
    exact g_zret C hR dX9_is_32 rfl
  · refine g_sub [1, 2, 3, 0] rfl ?_
    refine lp_G2 (P := PX9_is_2 X B _ _ T M x0 x1 x2) (E := EX9_is_2 X B _ _ T M x0 x1 x2) (tbX9_is_2 C hd) h1 ?_
    show G X B 4 _ _ 39 [] [] T M
    refine g_iconst (pc := 39) (v := 1) C dX9_is_39 (by decide) ?_
    obtain rfl := Option.some.inj h
    exact g_zret C hR dX9_is_40 rfl
theorem dX9_kindOfFour_0 : decode cX9_kindOfFour 0 = .ok (.ldc 104, 2) := by decide +kernel
theorem dX9_kindOfFour_2 : decode cX9_kindOfFour 2 = .ok (.aload_n 0, 1) := by decide +kernel
theorem dX9_kindOfFour_3 : decode cX9_kindOfFour 3 = .ok (.iload_n 1, 1) := by decide +kernel
theorem dX9_kindOfFour_4 : decode cX9_kindOfFour 4 = .ok (.invokestatic 68, 3) := by decide +kernel
theorem dX9_kindOfFour_7 : decode cX9_kindOfFour 7 = .ok (.ifCond .eq 7, 3) := by decide +kernel
theorem dX9_kindOfFour_10 : decode cX9_kindOfFour 10 = .ok (.sipush 202, 3) := by decide +kernel
theorem dX9_kindOfFour_13 : decode cX9_kindOfFour 13 = .ok (.ireturn, 1) := by decide +kernel
theorem dX9_kindOfFour_14 : decode cX9_kindOfFour 14 = .ok (.ldc 106, 2) := by decide +kernel
theorem dX9_kindOfFour_16 : decode cX9_kindOfFour 16 = .ok (.aload_n 0, 1) := by decide +kernel
theorem dX9_kindOfFour_17 : decode cX9_kindOfFour 17 = .ok (.iload_n 1, 1) := by decide +kernel
theorem dX9_kindOfFour_18 : decode cX9_kindOfFour 18 = .ok (.invokestatic 68, 3) := by decide +kernel
theorem dX9_kindOfFour_21 : decode cX9_kindOfFour 21 = .ok (.ifCond .eq 7, 3) := by decide +kernel
theorem dX9_kindOfFour_24 : decode cX9_kindOfFour 24 = .ok (.sipush 205, 3) := by decide +kernel
theorem dX9_kindOfFour_27 : decode cX9_kindOfFour 27 = .ok (.ireturn, 1) := by decide +kernel
theorem dX9_kindOfFour_28 : decode cX9_kindOfFour 28 = .ok (.ldc 108, 2) := by decide +kernel
theorem dX9_kindOfFour_30 : decode cX9_kindOfFour 30 = .ok (.aload_n 0, 1) := by decide +kernel
theorem dX9_kindOfFour_31 : decode cX9_kindOfFour 31 = .ok (.iload_n 1, 1) := by decide +kernel
theorem dX9_kindOfFour_32 : decode cX9_kindOfFour 32 = .ok (.invokestatic 68, 3) := by decide +kernel
theorem dX9_kindOfFour_35 : decode cX9_kindOfFour 35 = .ok (.ifCond .eq 7, 3) := by decide +kernel
theorem dX9_kindOfFour_38 : decode cX9_kindOfFour 38 = .ok (.sipush 217, 3) := by decide +kernel
theorem dX9_kindOfFour_41 : decode cX9_kindOfFour 41 = .ok (.ireturn, 1) := by decide +kernel
theorem dX9_kindOfFour_42 : decode cX9_kindOfFour 42 = .ok (.ldc 110, 2) := by decide +kernel
theorem dX9_kindOfFour_44 : decode cX9_kindOfFour 44 = .ok (.aload_n 0, 1) := by decide +kernel
theorem dX9_kindOfFour_45 : decode cX9_kindOfFour 45 = .ok (.iload_n 1, 1) := by decide +kernel
theorem dX9_kindOfFour_46 : decode cX9_kindOfFour 46 = .ok (.invokestatic 68, 3) := by decide +kernel
theorem dX9_kindOfFour_49 : decode cX9_kindOfFour 49 = .ok (.ifCond .eq 7, 3) := by decide +kernel
theorem dX9_kindOfFour_52 : decode cX9_kindOfFour 52 = .ok (.sipush 218, 3) := by decide +kernel
theorem dX9_kindOfFour_55 : decode cX9_kindOfFour 55 = .ok (.ireturn, 1) := by decide +kernel
theorem dX9_kindOfFour_56 : decode cX9_kindOfFour 56 = .ok (.ldc 112, 2) := by decide +kernel
theorem dX9_kindOfFour_58 : decode cX9_kindOfFour 58 = .ok (.aload_n 0, 1) := by decide +kernel
theorem dX9_kindOfFour_59 : decode cX9_kindOfFour 59 = .ok (.iload_n 1, 1) := by decide +kernel
theorem dX9_kindOfFour_60 : decode cX9_kindOfFour 60 = .ok (.invokestatic 68, 3) := by decide +kernel
theorem dX9_kindOfFour_63 : decode cX9_kindOfFour 63 = .ok (.ifCond .eq 7, 3) := by decide +kernel
theorem dX9_kindOfFour_66 : decode cX9_kindOfFour 66 = .ok (.sipush 208, 3) := by decide +kernel
theorem dX9_kindOfFour_69 : decode cX9_kindOfFour 69 = .ok (.ireturn, 1) := by decide +kernel
theorem dX9_kindOfFour_70 : decode cX9_kindOfFour 70 = .ok (.ldc 114, 2) := by decide +kernel
theorem dX9_kindOfFour_72 : decode cX9_kindOfFour 72 = .ok (.aload_n 0, 1) := by decide +kernel
theorem dX9_kindOfFour_73 : decode cX9_kindOfFour 73 = .ok (.iload_n 1, 1) := by decide +kernel
theorem dX9_kindOfFour_74 : decode cX9_kindOfFour 74 = .ok (.invokestatic 68, 3) := by decide +kernel
theorem dX9_kindOfFour_77 : decode cX9_kindOfFour 77 = .ok (.ifCond .eq 7, 3) := by decide +kernel
theorem dX9_kindOfFour_80 : decode cX9_kindOfFour 80 = .ok (.sipush 210, 3) := by decide +kernel
theorem dX9_kindOfFour_83 : decode cX9_kindOfFour 83 = .ok (.ireturn, 1) := by decide +kernel
theorem dX9_kindOfFour_84 : decode cX9_kindOfFour 84 = .ok (.ldc 116, 2) := by decide +kernel
theorem dX9_kindOfFour_86 : decode cX9_kindOfFour 86 = .ok (.aload_n 0, 1) := by decide +kernel
theorem dX9_kindOfFour_87 : decode cX9_kindOfFour 87 = .ok (.iload_n 1, 1) := by decide +kernel
theorem dX9_kindOfFour_88 : decode cX9_kindOfFour 88 = .ok (.invokestatic 68, 3) := by decide +kernel
theorem dX9_kindOfFour_91 : decode cX9_kindOfFour 91 = .ok (.ifCond .eq 7, 3) := by decide +kernel
theorem dX9_kindOfFour_94 : decode cX9_kindOfFour 94 = .ok (.sipush 211, 3) := by decide +kernel
theorem dX9_kindOfFour_97 : decode cX9_kindOfFour 97 = .ok (.ireturn, 1) := by decide +kernel
theorem dX9_kindOfFour_98 : decode cX9_kindOfFour 98 = .ok (.ldc 118, 2) := by decide +kernel
theorem dX9_kindOfFour_100 : decode cX9_kindOfFour 100 = .ok (.aload_n 0, 1) := by decide +kernel
theorem dX9_kindOfFour_101 : decode cX9_kindOfFour 101 = .ok (.iload_n 1, 1) := by decide +kernel
theorem dX9_kindOfFour_102 : decode cX9_kindOfFour 102 = .ok (.invokestatic 68, 3) := by decide +kernel
theorem dX9_kindOfFour_105 : decode cX9_kindOfFour 105 = .ok (.ifCond .eq 9, 3) := by decide +kernel
theorem dX9_kindOfFour_108 : decode cX9_kindOfFour 108 = .ok (.sipush 214, 3) := by decide +kernel
theorem dX9_kindOfFour_111 : decode cX9_kindOfFour 111 = .ok (.goto 6, 3) := by decide +kernel
theorem dX9_kindOfFour_114 : decode cX9_kindOfFour 114 = .ok (.sipush 223, 3) := by decide +kernel
theorem dX9_kindOfFour_117 : decode cX9_kindOfFour 117 = .ok (.ireturn, 1) := by decide +kernel
theorem wX9_kindOfFour : Mw yX9_kindOfFour cX9_kindOfFour 2 (some .int) 2 := ⟨q_556, q_122, by decide, ⟨by decide +kernel, by decide +kernel⟩, by decide +kernel, by decide +kernel⟩
/-- EyeTrainer$Tokens.kindOfFour([BI)I -/
def fX9_kindOfFour (T : Sh) (M : Me) (x0 : Nat) (x1 : Int32) : Option (Int32) :=
  Option.bind (fX9_is T M 7 x0 x1) fun r1 => if r1 = 0 then (Option.bind (fX9_is T M 8 x0 x1) fun r3 => if r3 = 0 then (Option.bind (fX9_is T M 9 x0 x1) fun r5 => if r5 = 0 then (Option.bind (fX9_is T M 10 x0 x1) fun r7 => if r7 = 0 then (Option.bind (fX9_is T M 11 x0 x1) fun r9 => if r9 = 0 then (Option.bind (fX9_is T M 12 x0 x1) fun r11 => if r11 = 0 then (Option.bind (fX9_is T M 13 x0 x1) fun r13 => if r13 = 0 then (Option.bind (fX9_is T M 14 x0 x1) fun r15 => if r15 = 0 then (some (223 : Int32)) else (some (214 : Int32))) else (some (211 : Int32))) else (some (210 : Int32))) else (some (208 : Int32))) else (some (218 : Int32))) else (some (217 : Int32))) else (some (205 : Int32))) else (some (202 : Int32))
set_option maxHeartbeats 4000000 in
theorem kX9_kindOfFour {l : Launch} {B : Bx} {d : Nat} (hd : 5 ≤ d) {T : Sh} {M : Me} {x0 : Nat} {x1 : Int32} {r : Int32} (h : fX9_kindOfFour T M x0 x1 = some r) : Kt l B yX9_kindOfFour cX9_kindOfFour 2 (some .int) d [.ref (x0), .int (x1)] T M (some (.int r)) T M := by
  refine kt_of wX9_kindOfFour (Nat.le_refl _) (Nat.le_refl _) (Nat.le_of_ble_eq_true rfl) (fun X C hR hlx hin => ?_)
  subst hlx
  replace C : Cx X B cX9_kindOfFour 2 RX9 d (tp T, sl T, tp T, sl T) := C
  unfold fX9_kindOfFour at h
  show G X B 2 _ _ 0 [(0, .ref (x0)), (1, .int (x1))] [] T M
  refine g_ldcS (pc := 0) (tx := "lane") (w := 7) C dX9_kindOfFour_0 (by decide +kernel) ?_
  refine g_aload_n (pc := 2) C dX9_kindOfFour_2 rfl 0 rfl ?_
  refine g_iload_n (pc := 3) C dX9_kindOfFour_3 rfl 1 rfl ?_
  replace h := bnd h; obtain ⟨r1, h1, h⟩ := h
  refine g_callSi (pc := 4) (As := [.ref (B.2.2.2.1 (7)), .ref (x0), .int (x1)]) (st := []) C dX9_kindOfFour_4 wX9_is q_498 q_497 (by omega) rfl (Nat.le_of_ble_eq_true rfl) (kX9_is (d := 4) (Nat.le_refl _) h1) ?_
  refine g_if_eq (pc := 7) (tgt := 14) C dX9_kindOfFour_7 (by decide) (fun c2 => ?_) (fun c2 => ?_)
  · replace h := ifp c2 h
    refine g_ldcS (pc := 14) (tx := "time") (w := 8) C dX9_kindOfFour_14 (by decide +kernel) ?_
    refine g_aload_n (pc := 16) C dX9_kindOfFour_16 rfl 0 rfl ?_
    refine g_iload_n (pc := 17) C dX9_kindOfFour_17 rfl 1 rfl ?_
    replace h := bnd h; obtain ⟨r3, h1, h⟩ := h
    refine g_callSi (pc := 18) (As := [.ref (B.2.2.2.1 (8)), .ref (x0), .int (x1)]) (st := []) C dX9_kindOfFour_18 wX9_is q_498 q_497 (by omega) rfl (Nat.le_of_ble_eq_true rfl) (kX9_is (d := 4) (Nat.le_refl _) h1) ?_
    refine g_if_eq (pc := 21) (tgt := 28) C dX9_kindOfFour_21 (by decide) (fun c4 => ?_) (fun c4 => ?_)
    · replace h := ifp c4 h
      refine g_ldcS (pc := 28) (tx := "then") (w := 9) C dX9_kindOfFour_28 (by decide +kernel) ?_
      refine g_aload_n (pc := 30) C dX9_kindOfFour_30 rfl 0 rfl ?_
      refine g_iload_n (pc := 31) C dX9_kindOfFour_31 rfl 1 rfl ?_
      replace h := bnd h; obtain ⟨r5, h1, h⟩ := h
      refine g_callSi (pc := 32) (As := [.ref (B.2.2.2.1 (9)), .ref (x0), .int (x1)]) (st := []) C dX9_kindOfFour_32 wX9_is q_498 q_497 (by omega) rfl (Nat.le_of_ble_eq_true rfl) (kX9_is (d := 4) (Nat.le_refl _) h1) ?_
      refine g_if_eq (pc := 35) (tgt := 42) C dX9_kindOfFour_35 (by decide) (fun c6 => ?_) (fun c6 => ?_)
      · replace h := ifp c6 h
        refine g_ldcS (pc := 42) (tx := "else") (w := 10) C dX9_kindOfFour_42 (by decide +kernel) ?_
        refine g_aload_n (pc := 44) C dX9_kindOfFour_44 rfl 0 rfl ?_
        refine g_iload_n (pc := 45) C dX9_kindOfFour_45 rfl 1 rfl ?_
        replace h := bnd h; obtain ⟨r7, h1, h⟩ := h
        refine g_callSi (pc := 46) (As := [.ref (B.2.2.2.1 (10)), .ref (x0), .int (x1)]) (st := []) C dX9_kindOfFour_46 wX9_is q_498 q_497 (by omega) rfl (Nat.le_of_ble_eq_true rfl) (kX9_is (d := 4) (Nat.le_refl _) h1) ?_
        refine g_if_eq (pc := 49) (tgt := 56) C dX9_kindOfFour_49 (by decide) (fun c8 => ?_) (fun c8 => ?_)
        · replace h := ifp c8 h
          refine g_ldcS (pc := 56) (tx := "hold") (w := 11) C dX9_kindOfFour_56 (by decide +kernel) ?_
          refine g_aload_n (pc := 58) C dX9_kindOfFour_58 rfl 0 rfl ?_
          refine g_iload_n (pc := 59) C dX9_kindOfFour_59 rfl 1 rfl ?_
          replace h := bnd h; obtain ⟨r9, h1, h⟩ := h
          refine g_callSi (pc := 60) (As := [.ref (B.2.2.2.1 (11)), .ref (x0), .int (x1)]) (st := []) C dX9_kindOfFour_60 wX9_is q_498 q_497 (by omega) rfl (Nat.le_of_ble_eq_true rfl) (kX9_is (d := 4) (Nat.le_refl _) h1) ?_
          refine g_if_eq (pc := 63) (tgt := 70) C dX9_kindOfFour_63 (by decide) (fun c10 => ?_) (fun c10 => ?_)
          · replace h := ifp c10 h
            refine g_ldcS (pc := 70) (tx := "wide") (w := 12) C dX9_kindOfFour_70 (by decide +kernel) ?_
            refine g_aload_n (pc := 72) C dX9_kindOfFour_72 rfl 0 rfl ?_
            refine g_iload_n (pc := 73) C dX9_kindOfFour_73 rfl 1 rfl ?_
            replace h := bnd h; obtain ⟨r11, h1, h⟩ := h
            refine g_callSi (pc := 74) (As := [.ref (B.2.2.2.1 (12)), .ref (x0), .int (x1)]) (st := []) C dX9_kindOfFour_74 wX9_is q_498 q_497 (by omega) rfl (Nat.le_of_ble_eq_true rfl) (kX9_is (d := 4) (Nat.le_refl _) h1) ?_
            refine g_if_eq (pc := 77) (tgt := 84) C dX9_kindOfFour_77 (by decide) (fun c12 => ?_) (fun c12 => ?_)
            · replace h := ifp c12 h
              refine g_ldcS (pc := 84) (tx := "high") (w := 13) C dX9_kindOfFour_84 (by decide +kernel) ?_
              refine g_aload_n (pc := 86) C dX9_kindOfFour_86 rfl 0 rfl ?_
              refine g_iload_n (pc := 87) C dX9_kindOfFour_87 rfl 1 rfl ?_
              replace h := bnd h; obtain ⟨r13, h1, h⟩ := h
              refine g_callSi (pc := 88) (As := [.ref (B.2.2.2.1 (13)), .ref (x0), .int (x1)]) (st := []) C dX9_kindOfFour_88 wX9_is q_498 q_497 (by omega) rfl (Nat.le_of_ble_eq_true rfl) (kX9_is (d := 4) (Nat.le_refl _) h1) ?_
              refine g_if_eq (pc := 91) (tgt := 98) C dX9_kindOfFour_91 (by decide) (fun c14 => ?_) (fun c14 => ?_)
              · replace h := ifp c14 h
                refine g_ldcS (pc := 98) (tx := "edge") (w := 14) C dX9_kindOfFour_98 (by decide +kernel) ?_
                refine g_aload_n (pc := 100) C dX9_kindOfFour_100 rfl 0 rfl ?_
                refine g_iload_n (pc := 101) C dX9_kindOfFour_101 rfl 1 rfl ?_
                replace h := bnd h; obtain ⟨r15, h1, h⟩ := h
                refine g_callSi (pc := 102) (As := [.ref (B.2.2.2.1 (14)), .ref (x0), .int (x1)]) (st := []) C dX9_kindOfFour_102 wX9_is q_498 q_497 (by omega) rfl (Nat.le_of_ble_eq_true rfl) (kX9_is (d := 4) (Nat.le_refl _) h1) ?_
                refine g_if_eq (pc := 105) (tgt := 114) C dX9_kindOfFour_105 (by decide) (fun c16 => ?_) (fun c16 => ?_)
                · replace h := ifp c16 h
                  refine g_sipush (pc := 114) (v := 223) C dX9_kindOfFour_114 (by decide) ?_
                  obtain rfl := Option.some.inj h
                  exact g_iret C hR dX9_kindOfFour_117
                · replace h := ifn c16 h
                  refine g_sipush (pc := 108) (v := 214) C dX9_kindOfFour_108 (by decide) ?_
                  refine g_goto (pc := 111) (tgt := 117) C dX9_kindOfFour_111 (by decide) ?_
                  obtain rfl := Option.some.inj h
                  exact g_iret C hR dX9_kindOfFour_117
              · replace h := ifn c14 h
                refine g_sipush (pc := 94) (v := 211) C dX9_kindOfFour_94 (by decide) ?_
                obtain rfl := Option.some.inj h
                exact g_iret C hR dX9_kindOfFour_97
            · replace h := ifn c12 h
              refine g_sipush (pc := 80) (v := 210) C dX9_kindOfFour_80 (by decide) ?_
              obtain rfl := Option.some.inj h
              exact g_iret C hR dX9_kindOfFour_83
          · replace h := ifn c10 h
            refine g_sipush (pc := 66) (v := 208) C dX9_kindOfFour_66 (by decide) ?_
            obtain rfl := Option.some.inj h
            exact g_iret C hR dX9_kindOfFour_69
        · replace h := ifn c8 h
          refine g_sipush (pc := 52) (v := 218) C dX9_kindOfFour_52 (by decide) ?_
          obtain rfl := Option.some.inj h
          exact g_iret C hR dX9_kindOfFour_55
      · replace h := ifn c6 h
        refine g_sipush (pc := 38) (v := 217) C dX9_kindOfFour_38 (by decide) ?_
        obtain rfl := Option.some.inj h
        exact g_iret C hR dX9_kindOfFour_41
    · replace h := ifn c4 h
      refine g_sipush (pc := 24) (v := 205) C dX9_kindOfFour_24 (by decide) ?_
      obtain rfl := Option.some.inj h
      exact g_iret C hR dX9_kindOfFour_27
  · replace h := ifn c2 h
    refine g_sipush (pc := 10) (v := 202) C dX9_kindOfFour_10 (by decide) ?_
    obtain rfl := Option.some.inj h
    exact g_iret C hR dX9_kindOfFour_13
theorem dX9_kindOfWord_0 : decode cX9_kindOfWord 0 = .ok (.iload_n 2, 1) := by decide +kernel
theorem dX9_kindOfWord_1 : decode cX9_kindOfWord 1 = .ok (.tableswitch 305 2 7 #[39, 91, 159, 165, 217, 285], 39) := by decide +kernel
theorem dX9_kindOfWord_40 : decode cX9_kindOfWord 40 = .ok (.ldc 66, 2) := by decide +kernel
theorem dX9_kindOfWord_42 : decode cX9_kindOfWord 42 = .ok (.aload_n 0, 1) := by decide +kernel
theorem dX9_kindOfWord_43 : decode cX9_kindOfWord 43 = .ok (.iload_n 1, 1) := by decide +kernel
theorem dX9_kindOfWord_44 : decode cX9_kindOfWord 44 = .ok (.invokestatic 68, 3) := by decide +kernel
theorem dX9_kindOfWord_47 : decode cX9_kindOfWord 47 = .ok (.ifCond .eq 9, 3) := by decide +kernel
theorem dX9_kindOfWord_50 : decode cX9_kindOfWord 50 = .ok (.sipush 216, 3) := by decide +kernel
theorem dX9_kindOfWord_53 : decode cX9_kindOfWord 53 = .ok (.goto 38, 3) := by decide +kernel
theorem dX9_kindOfWord_56 : decode cX9_kindOfWord 56 = .ok (.ldc 72, 2) := by decide +kernel
theorem dX9_kindOfWord_58 : decode cX9_kindOfWord 58 = .ok (.aload_n 0, 1) := by decide +kernel
theorem dX9_kindOfWord_59 : decode cX9_kindOfWord 59 = .ok (.iload_n 1, 1) := by decide +kernel
theorem dX9_kindOfWord_60 : decode cX9_kindOfWord 60 = .ok (.invokestatic 68, 3) := by decide +kernel
theorem dX9_kindOfWord_63 : decode cX9_kindOfWord 63 = .ok (.ifCond .eq 9, 3) := by decide +kernel
theorem dX9_kindOfWord_66 : decode cX9_kindOfWord 66 = .ok (.sipush 220, 3) := by decide +kernel
theorem dX9_kindOfWord_69 : decode cX9_kindOfWord 69 = .ok (.goto 22, 3) := by decide +kernel
theorem dX9_kindOfWord_72 : decode cX9_kindOfWord 72 = .ok (.ldc 74, 2) := by decide +kernel
theorem dX9_kindOfWord_74 : decode cX9_kindOfWord 74 = .ok (.aload_n 0, 1) := by decide +kernel
theorem dX9_kindOfWord_75 : decode cX9_kindOfWord 75 = .ok (.iload_n 1, 1) := by decide +kernel
theorem dX9_kindOfWord_76 : decode cX9_kindOfWord 76 = .ok (.invokestatic 68, 3) := by decide +kernel
theorem dX9_kindOfWord_79 : decode cX9_kindOfWord 79 = .ok (.ifCond .eq 9, 3) := by decide +kernel
theorem dX9_kindOfWord_82 : decode cX9_kindOfWord 82 = .ok (.sipush 209, 3) := by decide +kernel
theorem dX9_kindOfWord_85 : decode cX9_kindOfWord 85 = .ok (.goto 6, 3) := by decide +kernel
theorem dX9_kindOfWord_88 : decode cX9_kindOfWord 88 = .ok (.sipush 223, 3) := by decide +kernel
theorem dX9_kindOfWord_91 : decode cX9_kindOfWord 91 = .ok (.ireturn, 1) := by decide +kernel
theorem dX9_kindOfWord_92 : decode cX9_kindOfWord 92 = .ok (.ldc 76, 2) := by decide +kernel
theorem dX9_kindOfWord_94 : decode cX9_kindOfWord 94 = .ok (.aload_n 0, 1) := by decide +kernel
theorem dX9_kindOfWord_95 : decode cX9_kindOfWord 95 = .ok (.iload_n 1, 1) := by decide +kernel
theorem dX9_kindOfWord_96 : decode cX9_kindOfWord 96 = .ok (.invokestatic 68, 3) := by decide +kernel
theorem dX9_kindOfWord_99 : decode cX9_kindOfWord 99 = .ok (.ifCond .eq 9, 3) := by decide +kernel
theorem dX9_kindOfWord_102 : decode cX9_kindOfWord 102 = .ok (.sipush 221, 3) := by decide +kernel
theorem dX9_kindOfWord_105 : decode cX9_kindOfWord 105 = .ok (.goto 54, 3) := by decide +kernel
theorem dX9_kindOfWord_108 : decode cX9_kindOfWord 108 = .ok (.ldc 78, 2) := by decide +kernel
theorem dX9_kindOfWord_110 : decode cX9_kindOfWord 110 = .ok (.aload_n 0, 1) := by decide +kernel
theorem dX9_kindOfWord_111 : decode cX9_kindOfWord 111 = .ok (.iload_n 1, 1) := by decide +kernel
theorem dX9_kindOfWord_112 : decode cX9_kindOfWord 112 = .ok (.invokestatic 68, 3) := by decide +kernel
theorem dX9_kindOfWord_115 : decode cX9_kindOfWord 115 = .ok (.ifCond .eq 9, 3) := by decide +kernel
theorem dX9_kindOfWord_118 : decode cX9_kindOfWord 118 = .ok (.sipush 222, 3) := by decide +kernel
theorem dX9_kindOfWord_121 : decode cX9_kindOfWord 121 = .ok (.goto 38, 3) := by decide +kernel
theorem dX9_kindOfWord_124 : decode cX9_kindOfWord 124 = .ok (.ldc 80, 2) := by decide +kernel
theorem dX9_kindOfWord_126 : decode cX9_kindOfWord 126 = .ok (.aload_n 0, 1) := by decide +kernel
theorem dX9_kindOfWord_127 : decode cX9_kindOfWord 127 = .ok (.iload_n 1, 1) := by decide +kernel
theorem dX9_kindOfWord_128 : decode cX9_kindOfWord 128 = .ok (.invokestatic 68, 3) := by decide +kernel
theorem dX9_kindOfWord_131 : decode cX9_kindOfWord 131 = .ok (.ifCond .eq 9, 3) := by decide +kernel
theorem dX9_kindOfWord_134 : decode cX9_kindOfWord 134 = .ok (.sipush 219, 3) := by decide +kernel
theorem dX9_kindOfWord_137 : decode cX9_kindOfWord 137 = .ok (.goto 22, 3) := by decide +kernel
theorem dX9_kindOfWord_140 : decode cX9_kindOfWord 140 = .ok (.ldc 82, 2) := by decide +kernel
theorem dX9_kindOfWord_142 : decode cX9_kindOfWord 142 = .ok (.aload_n 0, 1) := by decide +kernel
theorem dX9_kindOfWord_143 : decode cX9_kindOfWord 143 = .ok (.iload_n 1, 1) := by decide +kernel
theorem dX9_kindOfWord_144 : decode cX9_kindOfWord 144 = .ok (.invokestatic 68, 3) := by decide +kernel
theorem dX9_kindOfWord_147 : decode cX9_kindOfWord 147 = .ok (.ifCond .eq 9, 3) := by decide +kernel
theorem dX9_kindOfWord_150 : decode cX9_kindOfWord 150 = .ok (.sipush 206, 3) := by decide +kernel
theorem dX9_kindOfWord_153 : decode cX9_kindOfWord 153 = .ok (.goto 6, 3) := by decide +kernel
theorem dX9_kindOfWord_156 : decode cX9_kindOfWord 156 = .ok (.sipush 223, 3) := by decide +kernel
theorem dX9_kindOfWord_159 : decode cX9_kindOfWord 159 = .ok (.ireturn, 1) := by decide +kernel
theorem dX9_kindOfWord_160 : decode cX9_kindOfWord 160 = .ok (.aload_n 0, 1) := by decide +kernel
theorem dX9_kindOfWord_161 : decode cX9_kindOfWord 161 = .ok (.iload_n 1, 1) := by decide +kernel
theorem dX9_kindOfWord_162 : decode cX9_kindOfWord 162 = .ok (.invokestatic 84, 3) := by decide +kernel
theorem dX9_kindOfWord_165 : decode cX9_kindOfWord 165 = .ok (.ireturn, 1) := by decide +kernel
theorem dX9_kindOfWord_166 : decode cX9_kindOfWord 166 = .ok (.ldc 88, 2) := by decide +kernel
theorem dX9_kindOfWord_168 : decode cX9_kindOfWord 168 = .ok (.aload_n 0, 1) := by decide +kernel
theorem dX9_kindOfWord_169 : decode cX9_kindOfWord 169 = .ok (.iload_n 1, 1) := by decide +kernel
theorem dX9_kindOfWord_170 : decode cX9_kindOfWord 170 = .ok (.invokestatic 68, 3) := by decide +kernel
theorem dX9_kindOfWord_173 : decode cX9_kindOfWord 173 = .ok (.ifCond .eq 9, 3) := by decide +kernel
theorem dX9_kindOfWord_176 : decode cX9_kindOfWord 176 = .ok (.sipush 200, 3) := by decide +kernel
theorem dX9_kindOfWord_179 : decode cX9_kindOfWord 179 = .ok (.goto 38, 3) := by decide +kernel
theorem dX9_kindOfWord_182 : decode cX9_kindOfWord 182 = .ok (.ldc 90, 2) := by decide +kernel
theorem dX9_kindOfWord_184 : decode cX9_kindOfWord 184 = .ok (.aload_n 0, 1) := by decide +kernel
theorem dX9_kindOfWord_185 : decode cX9_kindOfWord 185 = .ok (.iload_n 1, 1) := by decide +kernel
theorem dX9_kindOfWord_186 : decode cX9_kindOfWord 186 = .ok (.invokestatic 68, 3) := by decide +kernel
theorem dX9_kindOfWord_189 : decode cX9_kindOfWord 189 = .ok (.ifCond .eq 9, 3) := by decide +kernel
theorem dX9_kindOfWord_192 : decode cX9_kindOfWord 192 = .ok (.sipush 201, 3) := by decide +kernel
theorem dX9_kindOfWord_195 : decode cX9_kindOfWord 195 = .ok (.goto 22, 3) := by decide +kernel
theorem dX9_kindOfWord_198 : decode cX9_kindOfWord 198 = .ok (.ldc 92, 2) := by decide +kernel
theorem dX9_kindOfWord_200 : decode cX9_kindOfWord 200 = .ok (.aload_n 0, 1) := by decide +kernel
theorem dX9_kindOfWord_201 : decode cX9_kindOfWord 201 = .ok (.iload_n 1, 1) := by decide +kernel
theorem dX9_kindOfWord_202 : decode cX9_kindOfWord 202 = .ok (.invokestatic 68, 3) := by decide +kernel
theorem dX9_kindOfWord_205 : decode cX9_kindOfWord 205 = .ok (.ifCond .eq 9, 3) := by decide +kernel
theorem dX9_kindOfWord_208 : decode cX9_kindOfWord 208 = .ok (.sipush 204, 3) := by decide +kernel
theorem dX9_kindOfWord_211 : decode cX9_kindOfWord 211 = .ok (.goto 6, 3) := by decide +kernel
theorem dX9_kindOfWord_214 : decode cX9_kindOfWord 214 = .ok (.sipush 223, 3) := by decide +kernel
theorem dX9_kindOfWord_217 : decode cX9_kindOfWord 217 = .ok (.ireturn, 1) := by decide +kernel
theorem dX9_kindOfWord_218 : decode cX9_kindOfWord 218 = .ok (.ldc 94, 2) := by decide +kernel
theorem dX9_kindOfWord_220 : decode cX9_kindOfWord 220 = .ok (.aload_n 0, 1) := by decide +kernel
theorem dX9_kindOfWord_221 : decode cX9_kindOfWord 221 = .ok (.iload_n 1, 1) := by decide +kernel
theorem dX9_kindOfWord_222 : decode cX9_kindOfWord 222 = .ok (.invokestatic 68, 3) := by decide +kernel
theorem dX9_kindOfWord_225 : decode cX9_kindOfWord 225 = .ok (.ifCond .eq 9, 3) := by decide +kernel
theorem dX9_kindOfWord_228 : decode cX9_kindOfWord 228 = .ok (.sipush 203, 3) := by decide +kernel
theorem dX9_kindOfWord_231 : decode cX9_kindOfWord 231 = .ok (.goto 54, 3) := by decide +kernel
theorem dX9_kindOfWord_234 : decode cX9_kindOfWord 234 = .ok (.ldc 96, 2) := by decide +kernel
theorem dX9_kindOfWord_236 : decode cX9_kindOfWord 236 = .ok (.aload_n 0, 1) := by decide +kernel
theorem dX9_kindOfWord_237 : decode cX9_kindOfWord 237 = .ok (.iload_n 1, 1) := by decide +kernel
theorem dX9_kindOfWord_238 : decode cX9_kindOfWord 238 = .ok (.invokestatic 68, 3) := by decide +kernel
theorem dX9_kindOfWord_241 : decode cX9_kindOfWord 241 = .ok (.ifCond .eq 9, 3) := by decide +kernel
theorem dX9_kindOfWord_244 : decode cX9_kindOfWord 244 = .ok (.sipush 213, 3) := by decide +kernel
theorem dX9_kindOfWord_247 : decode cX9_kindOfWord 247 = .ok (.goto 38, 3) := by decide +kernel
theorem dX9_kindOfWord_250 : decode cX9_kindOfWord 250 = .ok (.ldc 98, 2) := by decide +kernel
theorem dX9_kindOfWord_252 : decode cX9_kindOfWord 252 = .ok (.aload_n 0, 1) := by decide +kernel
theorem dX9_kindOfWord_253 : decode cX9_kindOfWord 253 = .ok (.iload_n 1, 1) := by decide +kernel
theorem dX9_kindOfWord_254 : decode cX9_kindOfWord 254 = .ok (.invokestatic 68, 3) := by decide +kernel
theorem dX9_kindOfWord_257 : decode cX9_kindOfWord 257 = .ok (.ifCond .eq 9, 3) := by decide +kernel
theorem dX9_kindOfWord_260 : decode cX9_kindOfWord 260 = .ok (.sipush 215, 3) := by decide +kernel
theorem dX9_kindOfWord_263 : decode cX9_kindOfWord 263 = .ok (.goto 22, 3) := by decide +kernel
theorem dX9_kindOfWord_266 : decode cX9_kindOfWord 266 = .ok (.ldc 100, 2) := by decide +kernel
theorem dX9_kindOfWord_268 : decode cX9_kindOfWord 268 = .ok (.aload_n 0, 1) := by decide +kernel
theorem dX9_kindOfWord_269 : decode cX9_kindOfWord 269 = .ok (.iload_n 1, 1) := by decide +kernel
theorem dX9_kindOfWord_270 : decode cX9_kindOfWord 270 = .ok (.invokestatic 68, 3) := by decide +kernel
theorem dX9_kindOfWord_273 : decode cX9_kindOfWord 273 = .ok (.ifCond .eq 9, 3) := by decide +kernel
theorem dX9_kindOfWord_276 : decode cX9_kindOfWord 276 = .ok (.sipush 207, 3) := by decide +kernel
theorem dX9_kindOfWord_279 : decode cX9_kindOfWord 279 = .ok (.goto 6, 3) := by decide +kernel
theorem dX9_kindOfWord_282 : decode cX9_kindOfWord 282 = .ok (.sipush 223, 3) := by decide +kernel
theorem dX9_kindOfWord_285 : decode cX9_kindOfWord 285 = .ok (.ireturn, 1) := by decide +kernel
theorem dX9_kindOfWord_286 : decode cX9_kindOfWord 286 = .ok (.ldc 102, 2) := by decide +kernel
theorem dX9_kindOfWord_288 : decode cX9_kindOfWord 288 = .ok (.aload_n 0, 1) := by decide +kernel
theorem dX9_kindOfWord_289 : decode cX9_kindOfWord 289 = .ok (.iload_n 1, 1) := by decide +kernel
theorem dX9_kindOfWord_290 : decode cX9_kindOfWord 290 = .ok (.invokestatic 68, 3) := by decide +kernel
theorem dX9_kindOfWord_293 : decode cX9_kindOfWord 293 = .ok (.ifCond .eq 9, 3) := by decide +kernel
theorem dX9_kindOfWord_296 : decode cX9_kindOfWord 296 = .ok (.sipush 212, 3) := by decide +kernel
theorem dX9_kindOfWord_299 : decode cX9_kindOfWord 299 = .ok (.goto 6, 3) := by decide +kernel
theorem dX9_kindOfWord_302 : decode cX9_kindOfWord 302 = .ok (.sipush 223, 3) := by decide +kernel
theorem dX9_kindOfWord_305 : decode cX9_kindOfWord 305 = .ok (.ireturn, 1) := by decide +kernel
theorem dX9_kindOfWord_306 : decode cX9_kindOfWord 306 = .ok (.sipush 223, 3) := by decide +kernel
theorem dX9_kindOfWord_309 : decode cX9_kindOfWord 309 = .ok (.ireturn, 1) := by decide +kernel
theorem wX9_kindOfWord : Mw yX9_kindOfWord cX9_kindOfWord 3 (some .int) 3 := ⟨q_495, q_122, by decide, ⟨by decide +kernel, by decide +kernel⟩, by decide +kernel, by decide +kernel⟩
/-- EyeTrainer$Tokens.kindOfWord([BII)I -/
def fX9_kindOfWord (T : Sh) (M : Me) (x0 : Nat) (x1 : Int32) (x2 : Int32) : Option (Int32) :=
  if x2 = (2 : Int32) then (Option.bind (fX9_is T M 0 x0 x1) fun r1 => if r1 = 0 then (Option.bind (fX9_is T M 1 x0 x1) fun r3 => if r3 = 0 then (Option.bind (fX9_is T M 2 x0 x1) fun r5 => if r5 = 0 then (some (223 : Int32)) else (some (209 : Int32))) else (some (220 : Int32))) else (some (216 : Int32))) else (if x2 = (3 : Int32) then (Option.bind (fX9_is T M 3 x0 x1) fun r7 => if r7 = 0 then (Option.bind (fX9_is T M 4 x0 x1) fun r9 => if r9 = 0 then (Option.bind (fX9_is T M 5 x0 x1) fun r11 => if r11 = 0 then (Option.bind (fX9_is T M 6 x0 x1) fun r13 => if r13 = 0 then (some (223 : Int32)) else (some (206 : Int32))) else (some (219 : Int32))) else (some (222 : Int32))) else (some (221 : Int32))) else (if x2 = (4 : Int32) then (Option.bind (fX9_kindOfFour T M x0 x1) fun r15 => some r15) else (if x2 = (5 : Int32) then (Option.bind (fX9_is T M 15 x0 x1) fun r16 => if r16 = 0 then (Option.bind (fX9_is T M 16 x0 x1) fun r18 => if r18 = 0 then (Option.bind (fX9_is T M 17 x0 x1) fun r20 => if r20 = 0 then (some (223 : Int32)) else (some (204 : Int32))) else (some (201 : Int32))) else (some (200 : Int32))) else (if x2 = (6 : Int32) then (Option.bind (fX9_is T M 18 x0 x1) fun r22 => if r22 = 0 then (Option.bind (fX9_is T M 19 x0 x1) fun r24 => if r24 = 0 then (Option.bind (fX9_is T M 20 x0 x1) fun r26 => if r26 = 0 then (Option.bind (fX9_is T M 21 x0 x1) fun r28 => if r28 = 0 then (some (223 : Int32)) else (some (207 : Int32))) else (some (215 : Int32))) else (some (213 : Int32))) else (some (203 : Int32))) else (if x2 = (7 : Int32) then (Option.bind (fX9_is T M 22 x0 x1) fun r30 => if r30 = 0 then (some (223 : Int32)) else (some (212 : Int32))) else (some (223 : Int32)))))))
set_option maxHeartbeats 4000000 in
theorem kX9_kindOfWord {l : Launch} {B : Bx} {d : Nat} (hd : 6 ≤ d) {T : Sh} {M : Me} {x0 : Nat} {x1 : Int32} {x2 : Int32} {r : Int32} (h : fX9_kindOfWord T M x0 x1 x2 = some r) : Kt l B yX9_kindOfWord cX9_kindOfWord 3 (some .int) d [.ref (x0), .int (x1), .int (x2)] T M (some (.int r)) T M := by
  refine kt_of wX9_kindOfWord (Nat.le_refl _) (Nat.le_refl _) (Nat.le_of_ble_eq_true rfl) (fun X C hR hlx hin => ?_)
  subst hlx
  replace C : Cx X B cX9_kindOfWord 3 RX9 d (tp T, sl T, tp T, sl T) := C
  unfold fX9_kindOfWord at h
  show G X B 3 _ _ 0 [(0, .ref (x0)), (1, .int (x1)), (2, .int (x2))] [] T M
  refine g_iload_n (pc := 0) C dX9_kindOfWord_0 rfl 2 rfl ?_
  by_cases cw32_0 : x2 = (2 : Int32)
  · replace h := ifp cw32_0 h
    have hq : x2.toInt = 2 := by rw [cw32_0]; rfl
    refine g_tswIn (off := 39) (tgt := 40) C dX9_kindOfWord_1 (by rw [hq]; decide) (by rw [hq]; decide) (by rw [hq]; rfl) (by decide) ?_
    refine g_ldcS (pc := 40) (tx := "if") (w := 0) C dX9_kindOfWord_40 (by decide +kernel) ?_
    refine g_aload_n (pc := 42) C dX9_kindOfWord_42 rfl 0 rfl ?_
    refine g_iload_n (pc := 43) C dX9_kindOfWord_43 rfl 1 rfl ?_
    replace h := bnd h; obtain ⟨r1, h1, h⟩ := h
    refine g_callSi (pc := 44) (As := [.ref (B.2.2.2.1 (0)), .ref (x0), .int (x1)]) (st := []) C dX9_kindOfWord_44 wX9_is q_498 q_497 (by omega) rfl (Nat.le_of_ble_eq_true rfl) (kX9_is (d := 4) (Nat.le_refl _) h1) ?_
    refine g_if_eq (pc := 47) (tgt := 56) C dX9_kindOfWord_47 (by decide) (fun c2 => ?_) (fun c2 => ?_)
    · replace h := ifp c2 h
      refine g_ldcS (pc := 56) (tx := "or") (w := 1) C dX9_kindOfWord_56 (by decide +kernel) ?_
      refine g_aload_n (pc := 58) C dX9_kindOfWord_58 rfl 0 rfl ?_
      refine g_iload_n (pc := 59) C dX9_kindOfWord_59 rfl 1 rfl ?_
      replace h := bnd h; obtain ⟨r3, h1, h⟩ := h
      refine g_callSi (pc := 60) (As := [.ref (B.2.2.2.1 (1)), .ref (x0), .int (x1)]) (st := []) C dX9_kindOfWord_60 wX9_is q_498 q_497 (by omega) rfl (Nat.le_of_ble_eq_true rfl) (kX9_is (d := 4) (Nat.le_refl _) h1) ?_
      refine g_if_eq (pc := 63) (tgt := 72) C dX9_kindOfWord_63 (by decide) (fun c4 => ?_) (fun c4 => ?_)
      · replace h := ifp c4 h
        refine g_ldcS (pc := 72) (tx := "at") (w := 2) C dX9_kindOfWord_72 (by decide +kernel) ?_
        refine g_aload_n (pc := 74) C dX9_kindOfWord_74 rfl 0 rfl ?_
        refine g_iload_n (pc := 75) C dX9_kindOfWord_75 rfl 1 rfl ?_
        replace h := bnd h; obtain ⟨r5, h1, h⟩ := h
        refine g_callSi (pc := 76) (As := [.ref (B.2.2.2.1 (2)), .ref (x0), .int (x1)]) (st := []) C dX9_kindOfWord_76 wX9_is q_498 q_497 (by omega) rfl (Nat.le_of_ble_eq_true rfl) (kX9_is (d := 4) (Nat.le_refl _) h1) ?_
        refine g_if_eq (pc := 79) (tgt := 88) C dX9_kindOfWord_79 (by decide) (fun c6 => ?_) (fun c6 => ?_)
        · replace h := ifp c6 h
          refine g_sipush (pc := 88) (v := 223) C dX9_kindOfWord_88 (by decide) ?_
          obtain rfl := Option.some.inj h
          exact g_iret C hR dX9_kindOfWord_91
        · replace h := ifn c6 h
          refine g_sipush (pc := 82) (v := 209) C dX9_kindOfWord_82 (by decide) ?_
          refine g_goto (pc := 85) (tgt := 91) C dX9_kindOfWord_85 (by decide) ?_
          obtain rfl := Option.some.inj h
          exact g_iret C hR dX9_kindOfWord_91
      · replace h := ifn c4 h
        refine g_sipush (pc := 66) (v := 220) C dX9_kindOfWord_66 (by decide) ?_
        refine g_goto (pc := 69) (tgt := 91) C dX9_kindOfWord_69 (by decide) ?_
        obtain rfl := Option.some.inj h
        exact g_iret C hR dX9_kindOfWord_91
    · replace h := ifn c2 h
      refine g_sipush (pc := 50) (v := 216) C dX9_kindOfWord_50 (by decide) ?_
      refine g_goto (pc := 53) (tgt := 91) C dX9_kindOfWord_53 (by decide) ?_
      obtain rfl := Option.some.inj h
      exact g_iret C hR dX9_kindOfWord_91
  · replace h := ifn cw32_0 h
    by_cases cw32_1 : x2 = (3 : Int32)
    · replace h := ifp cw32_1 h
      have hq : x2.toInt = 3 := by rw [cw32_1]; rfl
      refine g_tswIn (off := 91) (tgt := 92) C dX9_kindOfWord_1 (by rw [hq]; decide) (by rw [hq]; decide) (by rw [hq]; rfl) (by decide) ?_
      refine g_ldcS (pc := 92) (tx := "and") (w := 3) C dX9_kindOfWord_92 (by decide +kernel) ?_
      refine g_aload_n (pc := 94) C dX9_kindOfWord_94 rfl 0 rfl ?_
      refine g_iload_n (pc := 95) C dX9_kindOfWord_95 rfl 1 rfl ?_
      replace h := bnd h; obtain ⟨r7, h1, h⟩ := h
      refine g_callSi (pc := 96) (As := [.ref (B.2.2.2.1 (3)), .ref (x0), .int (x1)]) (st := []) C dX9_kindOfWord_96 wX9_is q_498 q_497 (by omega) rfl (Nat.le_of_ble_eq_true rfl) (kX9_is (d := 4) (Nat.le_refl _) h1) ?_
      refine g_if_eq (pc := 99) (tgt := 108) C dX9_kindOfWord_99 (by decide) (fun c8 => ?_) (fun c8 => ?_)
      · replace h := ifp c8 h
        refine g_ldcS (pc := 108) (tx := "not") (w := 4) C dX9_kindOfWord_108 (by decide +kernel) ?_
        refine g_aload_n (pc := 110) C dX9_kindOfWord_110 rfl 0 rfl ?_
        refine g_iload_n (pc := 111) C dX9_kindOfWord_111 rfl 1 rfl ?_
        replace h := bnd h; obtain ⟨r9, h1, h⟩ := h
        refine g_callSi (pc := 112) (As := [.ref (B.2.2.2.1 (4)), .ref (x0), .int (x1)]) (st := []) C dX9_kindOfWord_112 wX9_is q_498 q_497 (by omega) rfl (Nat.le_of_ble_eq_true rfl) (kX9_is (d := 4) (Nat.le_refl _) h1) ?_
        refine g_if_eq (pc := 115) (tgt := 124) C dX9_kindOfWord_115 (by decide) (fun c10 => ?_) (fun c10 => ?_)
        · replace h := ifp c10 h
          refine g_ldcS (pc := 124) (tx := "end") (w := 5) C dX9_kindOfWord_124 (by decide +kernel) ?_
          refine g_aload_n (pc := 126) C dX9_kindOfWord_126 rfl 0 rfl ?_
          refine g_iload_n (pc := 127) C dX9_kindOfWord_127 rfl 1 rfl ?_
          replace h := bnd h; obtain ⟨r11, h1, h⟩ := h
          refine g_callSi (pc := 128) (As := [.ref (B.2.2.2.1 (5)), .ref (x0), .int (x1)]) (st := []) C dX9_kindOfWord_128 wX9_is q_498 q_497 (by omega) rfl (Nat.le_of_ble_eq_true rfl) (kX9_is (d := 4) (Nat.le_refl _) h1) ?_
          refine g_if_eq (pc := 131) (tgt := 140) C dX9_kindOfWord_131 (by decide) (fun c12 => ?_) (fun c12 => ?_)
          · replace h := ifp c12 h
            refine g_ldcS (pc := 140) (tx := "lab") (w := 6) C dX9_kindOfWord_140 (by decide +kernel) ?_
            refine g_aload_n (pc := 142) C dX9_kindOfWord_142 rfl 0 rfl ?_
            refine g_iload_n (pc := 143) C dX9_kindOfWord_143 rfl 1 rfl ?_
            replace h := bnd h; obtain ⟨r13, h1, h⟩ := h
            refine g_callSi (pc := 144) (As := [.ref (B.2.2.2.1 (6)), .ref (x0), .int (x1)]) (st := []) C dX9_kindOfWord_144 wX9_is q_498 q_497 (by omega) rfl (Nat.le_of_ble_eq_true rfl) (kX9_is (d := 4) (Nat.le_refl _) h1) ?_
            refine g_if_eq (pc := 147) (tgt := 156) C dX9_kindOfWord_147 (by decide) (fun c14 => ?_) (fun c14 => ?_)
            · replace h := ifp c14 h
              refine g_sipush (pc := 156) (v := 223) C dX9_kindOfWord_156 (by decide) ?_
              obtain rfl := Option.some.inj h
              exact g_iret C hR dX9_kindOfWord_159
            · replace h := ifn c14 h
              refine g_sipush (pc := 150) (v := 206) C dX9_kindOfWord_150 (by decide) ?_
              refine g_goto (pc := 153) (tgt := 159) C dX9_kindOfWord_153 (by decide) ?_
              obtain rfl := Option.some.inj h
              exact g_iret C hR dX9_kindOfWord_159
          · replace h := ifn c12 h
            refine g_sipush (pc := 134) (v := 219) C dX9_kindOfWord_134 (by decide) ?_
            refine g_goto (pc := 137) (tgt := 159) C dX9_kindOfWord_137 (by decide) ?_
            obtain rfl := Option.some.inj h
            exact g_iret C hR dX9_kindOfWord_159
        · replace h := ifn c10 h
          refine g_sipush (pc := 118) (v := 222) C dX9_kindOfWord_118 (by decide) ?_
          refine g_goto (pc := 121) (tgt := 159) C dX9_kindOfWord_121 (by decide) ?_
          obtain rfl := Option.some.inj h
          exact g_iret C hR dX9_kindOfWord_159
      · replace h := ifn c8 h
        refine g_sipush (pc := 102) (v := 221) C dX9_kindOfWord_102 (by decide) ?_
        refine g_goto (pc := 105) (tgt := 159) C dX9_kindOfWord_105 (by decide) ?_
        obtain rfl := Option.some.inj h
        exact g_iret C hR dX9_kindOfWord_159
    · replace h := ifn cw32_1 h
      by_cases cw32_2 : x2 = (4 : Int32)
      · replace h := ifp cw32_2 h
        have hq : x2.toInt = 4 := by rw [cw32_2]; rfl
        refine g_tswIn (off := 159) (tgt := 160) C dX9_kindOfWord_1 (by rw [hq]; decide) (by rw [hq]; decide) (by rw [hq]; rfl) (by decide) ?_
        refine g_aload_n (pc := 160) C dX9_kindOfWord_160 rfl 0 rfl ?_
        refine g_iload_n (pc := 161) C dX9_kindOfWord_161 rfl 1 rfl ?_
        replace h := bnd h; obtain ⟨r15, h1, h⟩ := h
        refine g_callSi (pc := 162) (As := [.ref (x0), .int (x1)]) (st := []) C dX9_kindOfWord_162 wX9_kindOfFour q_555 q_554 (by omega) rfl (Nat.le_of_ble_eq_true rfl) (kX9_kindOfFour (d := 5) (Nat.le_refl _) h1) ?_
        obtain rfl := Option.some.inj h
        exact g_iret C hR dX9_kindOfWord_165
      · replace h := ifn cw32_2 h
        by_cases cw32_3 : x2 = (5 : Int32)
        · replace h := ifp cw32_3 h
          have hq : x2.toInt = 5 := by rw [cw32_3]; rfl
          refine g_tswIn (off := 165) (tgt := 166) C dX9_kindOfWord_1 (by rw [hq]; decide) (by rw [hq]; decide) (by rw [hq]; rfl) (by decide) ?_
          refine g_ldcS (pc := 166) (tx := "delay") (w := 15) C dX9_kindOfWord_166 (by decide +kernel) ?_
          refine g_aload_n (pc := 168) C dX9_kindOfWord_168 rfl 0 rfl ?_
          refine g_iload_n (pc := 169) C dX9_kindOfWord_169 rfl 1 rfl ?_
          replace h := bnd h; obtain ⟨r16, h1, h⟩ := h
          refine g_callSi (pc := 170) (As := [.ref (B.2.2.2.1 (15)), .ref (x0), .int (x1)]) (st := []) C dX9_kindOfWord_170 wX9_is q_498 q_497 (by omega) rfl (Nat.le_of_ble_eq_true rfl) (kX9_is (d := 4) (Nat.le_refl _) h1) ?_
          refine g_if_eq (pc := 173) (tgt := 182) C dX9_kindOfWord_173 (by decide) (fun c17 => ?_) (fun c17 => ?_)
          · replace h := ifp c17 h
            refine g_ldcS (pc := 182) (tx := "level") (w := 16) C dX9_kindOfWord_182 (by decide +kernel) ?_
            refine g_aload_n (pc := 184) C dX9_kindOfWord_184 rfl 0 rfl ?_
            refine g_iload_n (pc := 185) C dX9_kindOfWord_185 rfl 1 rfl ?_
            replace h := bnd h; obtain ⟨r18, h1, h⟩ := h
            refine g_callSi (pc := 186) (As := [.ref (B.2.2.2.1 (16)), .ref (x0), .int (x1)]) (st := []) C dX9_kindOfWord_186 wX9_is q_498 q_497 (by omega) rfl (Nat.le_of_ble_eq_true rfl) (kX9_is (d := 4) (Nat.le_refl _) h1) ?_
            refine g_if_eq (pc := 189) (tgt := 198) C dX9_kindOfWord_189 (by decide) (fun c19 => ?_) (fun c19 => ?_)
            · replace h := ifp c19 h
              refine g_ldcS (pc := 198) (tx := "drift") (w := 17) C dX9_kindOfWord_198 (by decide +kernel) ?_
              refine g_aload_n (pc := 200) C dX9_kindOfWord_200 rfl 0 rfl ?_
              refine g_iload_n (pc := 201) C dX9_kindOfWord_201 rfl 1 rfl ?_
              replace h := bnd h; obtain ⟨r20, h1, h⟩ := h
              refine g_callSi (pc := 202) (As := [.ref (B.2.2.2.1 (17)), .ref (x0), .int (x1)]) (st := []) C dX9_kindOfWord_202 wX9_is q_498 q_497 (by omega) rfl (Nat.le_of_ble_eq_true rfl) (kX9_is (d := 4) (Nat.le_refl _) h1) ?_
              refine g_if_eq (pc := 205) (tgt := 214) C dX9_kindOfWord_205 (by decide) (fun c21 => ?_) (fun c21 => ?_)
              · replace h := ifp c21 h
                refine g_sipush (pc := 214) (v := 223) C dX9_kindOfWord_214 (by decide) ?_
                obtain rfl := Option.some.inj h
                exact g_iret C hR dX9_kindOfWord_217
              · replace h := ifn c21 h
                refine g_sipush (pc := 208) (v := 204) C dX9_kindOfWord_208 (by decide) ?_
                refine g_goto (pc := 211) (tgt := 217) C dX9_kindOfWord_211 (by decide) ?_
                obtain rfl := Option.some.inj h
                exact g_iret C hR dX9_kindOfWord_217
            · replace h := ifn c19 h
              refine g_sipush (pc := 192) (v := 201) C dX9_kindOfWord_192 (by decide) ?_
              refine g_goto (pc := 195) (tgt := 217) C dX9_kindOfWord_195 (by decide) ?_
              obtain rfl := Option.some.inj h
              exact g_iret C hR dX9_kindOfWord_217
          · replace h := ifn c17 h
            refine g_sipush (pc := 176) (v := 200) C dX9_kindOfWord_176 (by decide) ?_
            refine g_goto (pc := 179) (tgt := 217) C dX9_kindOfWord_179 (by decide) ?_
            obtain rfl := Option.some.inj h
            exact g_iret C hR dX9_kindOfWord_217
        · replace h := ifn cw32_3 h
          by_cases cw32_4 : x2 = (6 : Int32)
          · replace h := ifp cw32_4 h
            have hq : x2.toInt = 6 := by rw [cw32_4]; rfl
            refine g_tswIn (off := 217) (tgt := 218) C dX9_kindOfWord_1 (by rw [hq]; decide) (by rw [hq]; decide) (by rw [hq]; rfl) (by decide) ?_
            refine g_ldcS (pc := 218) (tx := "stress") (w := 18) C dX9_kindOfWord_218 (by decide +kernel) ?_
            refine g_aload_n (pc := 220) C dX9_kindOfWord_220 rfl 0 rfl ?_
            refine g_iload_n (pc := 221) C dX9_kindOfWord_221 rfl 1 rfl ?_
            replace h := bnd h; obtain ⟨r22, h1, h⟩ := h
            refine g_callSi (pc := 222) (As := [.ref (B.2.2.2.1 (18)), .ref (x0), .int (x1)]) (st := []) C dX9_kindOfWord_222 wX9_is q_498 q_497 (by omega) rfl (Nat.le_of_ble_eq_true rfl) (kX9_is (d := 4) (Nat.le_refl _) h1) ?_
            refine g_if_eq (pc := 225) (tgt := 234) C dX9_kindOfWord_225 (by decide) (fun c23 => ?_) (fun c23 => ?_)
            · replace h := ifp c23 h
              refine g_ldcS (pc := 234) (tx := "passes") (w := 19) C dX9_kindOfWord_234 (by decide +kernel) ?_
              refine g_aload_n (pc := 236) C dX9_kindOfWord_236 rfl 0 rfl ?_
              refine g_iload_n (pc := 237) C dX9_kindOfWord_237 rfl 1 rfl ?_
              replace h := bnd h; obtain ⟨r24, h1, h⟩ := h
              refine g_callSi (pc := 238) (As := [.ref (B.2.2.2.1 (19)), .ref (x0), .int (x1)]) (st := []) C dX9_kindOfWord_238 wX9_is q_498 q_497 (by omega) rfl (Nat.le_of_ble_eq_true rfl) (kX9_is (d := 4) (Nat.le_refl _) h1) ?_
              refine g_if_eq (pc := 241) (tgt := 250) C dX9_kindOfWord_241 (by decide) (fun c25 => ?_) (fun c25 => ?_)
              · replace h := ifp c25 h
                refine g_ldcS (pc := 250) (tx := "drifts") (w := 20) C dX9_kindOfWord_250 (by decide +kernel) ?_
                refine g_aload_n (pc := 252) C dX9_kindOfWord_252 rfl 0 rfl ?_
                refine g_iload_n (pc := 253) C dX9_kindOfWord_253 rfl 1 rfl ?_
                replace h := bnd h; obtain ⟨r26, h1, h⟩ := h
                refine g_callSi (pc := 254) (As := [.ref (B.2.2.2.1 (20)), .ref (x0), .int (x1)]) (st := []) C dX9_kindOfWord_254 wX9_is q_498 q_497 (by omega) rfl (Nat.le_of_ble_eq_true rfl) (kX9_is (d := 4) (Nat.le_refl _) h1) ?_
                refine g_if_eq (pc := 257) (tgt := 266) C dX9_kindOfWord_257 (by decide) (fun c27 => ?_) (fun c27 => ?_)
                · replace h := ifp c27 h
                  refine g_ldcS (pc := 266) (tx := "aspect") (w := 21) C dX9_kindOfWord_266 (by decide +kernel) ?_
                  refine g_aload_n (pc := 268) C dX9_kindOfWord_268 rfl 0 rfl ?_
                  refine g_iload_n (pc := 269) C dX9_kindOfWord_269 rfl 1 rfl ?_
                  replace h := bnd h; obtain ⟨r28, h1, h⟩ := h
                  refine g_callSi (pc := 270) (As := [.ref (B.2.2.2.1 (21)), .ref (x0), .int (x1)]) (st := []) C dX9_kindOfWord_270 wX9_is q_498 q_497 (by omega) rfl (Nat.le_of_ble_eq_true rfl) (kX9_is (d := 4) (Nat.le_refl _) h1) ?_
                  refine g_if_eq (pc := 273) (tgt := 282) C dX9_kindOfWord_273 (by decide) (fun c29 => ?_) (fun c29 => ?_)
                  · replace h := ifp c29 h
                    refine g_sipush (pc := 282) (v := 223) C dX9_kindOfWord_282 (by decide) ?_
                    obtain rfl := Option.some.inj h
                    exact g_iret C hR dX9_kindOfWord_285
                  · replace h := ifn c29 h
                    refine g_sipush (pc := 276) (v := 207) C dX9_kindOfWord_276 (by decide) ?_
                    refine g_goto (pc := 279) (tgt := 285) C dX9_kindOfWord_279 (by decide) ?_
                    obtain rfl := Option.some.inj h
                    exact g_iret C hR dX9_kindOfWord_285
                · replace h := ifn c27 h
                  refine g_sipush (pc := 260) (v := 215) C dX9_kindOfWord_260 (by decide) ?_
                  refine g_goto (pc := 263) (tgt := 285) C dX9_kindOfWord_263 (by decide) ?_
                  obtain rfl := Option.some.inj h
                  exact g_iret C hR dX9_kindOfWord_285
              · replace h := ifn c25 h
                refine g_sipush (pc := 244) (v := 213) C dX9_kindOfWord_244 (by decide) ?_
                refine g_goto (pc := 247) (tgt := 285) C dX9_kindOfWord_247 (by decide) ?_
                obtain rfl := Option.some.inj h
                exact g_iret C hR dX9_kindOfWord_285
            · replace h := ifn c23 h
              refine g_sipush (pc := 228) (v := 203) C dX9_kindOfWord_228 (by decide) ?_
              refine g_goto (pc := 231) (tgt := 285) C dX9_kindOfWord_231 (by decide) ?_
              obtain rfl := Option.some.inj h
              exact g_iret C hR dX9_kindOfWord_285
          · replace h := ifn cw32_4 h
            by_cases cw32_5 : x2 = (7 : Int32)
            · replace h := ifp cw32_5 h
              have hq : x2.toInt = 7 := by rw [cw32_5]; rfl
              refine g_tswIn (off := 285) (tgt := 286) C dX9_kindOfWord_1 (by rw [hq]; decide) (by rw [hq]; decide) (by rw [hq]; rfl) (by decide) ?_
              refine g_ldcS (pc := 286) (tx := "pattern") (w := 22) C dX9_kindOfWord_286 (by decide +kernel) ?_
              refine g_aload_n (pc := 288) C dX9_kindOfWord_288 rfl 0 rfl ?_
              refine g_iload_n (pc := 289) C dX9_kindOfWord_289 rfl 1 rfl ?_
              replace h := bnd h; obtain ⟨r30, h1, h⟩ := h
              refine g_callSi (pc := 290) (As := [.ref (B.2.2.2.1 (22)), .ref (x0), .int (x1)]) (st := []) C dX9_kindOfWord_290 wX9_is q_498 q_497 (by omega) rfl (Nat.le_of_ble_eq_true rfl) (kX9_is (d := 4) (Nat.le_refl _) h1) ?_
              refine g_if_eq (pc := 293) (tgt := 302) C dX9_kindOfWord_293 (by decide) (fun c31 => ?_) (fun c31 => ?_)
              · replace h := ifp c31 h
                refine g_sipush (pc := 302) (v := 223) C dX9_kindOfWord_302 (by decide) ?_
                obtain rfl := Option.some.inj h
                exact g_iret C hR dX9_kindOfWord_305
              · replace h := ifn c31 h
                refine g_sipush (pc := 296) (v := 212) C dX9_kindOfWord_296 (by decide) ?_
                refine g_goto (pc := 299) (tgt := 305) C dX9_kindOfWord_299 (by decide) ?_
                obtain rfl := Option.some.inj h
                exact g_iret C hR dX9_kindOfWord_305
            · replace h := ifn cw32_5 h
              refine g_tswOut (tgt := 306) C dX9_kindOfWord_1 (by
                  have := sw_ne cw32_0 (i := 2) rfl
                  have := sw_ne cw32_1 (i := 3) rfl
                  have := sw_ne cw32_2 (i := 4) rfl
                  have := sw_ne cw32_3 (i := 5) rfl
                  have := sw_ne cw32_4 (i := 6) rfl
                  have := sw_ne cw32_5 (i := 7) rfl
                  omega) (by decide) ?_
              refine g_sipush (pc := 306) (v := 223) C dX9_kindOfWord_306 (by decide) ?_
              obtain rfl := Option.some.inj h
              exact g_iret C hR dX9_kindOfWord_309
theorem dX9_cut_0 : decode cX9_cut 0 = .ok (.aload_n 0, 1) := by decide +kernel
theorem dX9_cut_1 : decode cX9_cut 1 = .ok (.iconst 0, 1) := by decide +kernel
theorem dX9_cut_2 : decode cX9_cut 2 = .ok (.putfield 21, 3) := by decide +kernel
theorem dX9_cut_5 : decode cX9_cut 5 = .ok (.iconst 0, 1) := by decide +kernel
theorem dX9_cut_6 : decode cX9_cut 6 = .ok (.istore_n 3, 1) := by decide +kernel
theorem dX9_cut_7 : decode cX9_cut 7 = .ok (.iconst 1, 1) := by decide +kernel
theorem dX9_cut_8 : decode cX9_cut 8 = .ok (.istore 4, 2) := by decide +kernel
theorem dX9_cut_10 : decode cX9_cut 10 = .ok (.iconst 0, 1) := by decide +kernel
theorem dX9_cut_11 : decode cX9_cut 11 = .ok (.istore 5, 2) := by decide +kernel
theorem dX9_cut_13 : decode cX9_cut 13 = .ok (.iload 5, 2) := by decide +kernel
theorem dX9_cut_15 : decode cX9_cut 15 = .ok (.iload_n 2, 1) := by decide +kernel
theorem dX9_cut_16 : decode cX9_cut 16 = .ok (.if_icmp .ge 182, 3) := by decide +kernel
theorem dX9_cut_19 : decode cX9_cut 19 = .ok (.iload 4, 2) := by decide +kernel
theorem dX9_cut_21 : decode cX9_cut 21 = .ok (.ifCond .eq 177, 3) := by decide +kernel
theorem dX9_cut_24 : decode cX9_cut 24 = .ok (.aload_n 1, 1) := by decide +kernel
theorem dX9_cut_25 : decode cX9_cut 25 = .ok (.iload 5, 2) := by decide +kernel
theorem dX9_cut_27 : decode cX9_cut 27 = .ok (.baload, 1) := by decide +kernel
theorem dX9_cut_28 : decode cX9_cut 28 = .ok (.istore 6, 2) := by decide +kernel
theorem dX9_cut_30 : decode cX9_cut 30 = .ok (.iload 6, 2) := by decide +kernel
theorem dX9_cut_32 : decode cX9_cut 32 = .ok (.invokestatic 25, 3) := by decide +kernel
theorem dX9_cut_35 : decode cX9_cut 35 = .ok (.ifCond .eq 31, 3) := by decide +kernel
theorem dX9_cut_38 : decode cX9_cut 38 = .ok (.aload_n 1, 1) := by decide +kernel
theorem dX9_cut_39 : decode cX9_cut 39 = .ok (.iload 5, 2) := by decide +kernel
theorem dX9_cut_41 : decode cX9_cut 41 = .ok (.iload_n 2, 1) := by decide +kernel
theorem dX9_cut_42 : decode cX9_cut 42 = .ok (.invokestatic 29, 3) := by decide +kernel
theorem dX9_cut_45 : decode cX9_cut 45 = .ok (.istore_n 3, 1) := by decide +kernel
theorem dX9_cut_46 : decode cX9_cut 46 = .ok (.aload_n 0, 1) := by decide +kernel
theorem dX9_cut_47 : decode cX9_cut 47 = .ok (.aload_n 1, 1) := by decide +kernel
theorem dX9_cut_48 : decode cX9_cut 48 = .ok (.iload 5, 2) := by decide +kernel
theorem dX9_cut_50 : decode cX9_cut 50 = .ok (.iload_n 3, 1) := by decide +kernel
theorem dX9_cut_51 : decode cX9_cut 51 = .ok (.iload 5, 2) := by decide +kernel
theorem dX9_cut_53 : decode cX9_cut 53 = .ok (.isub, 1) := by decide +kernel
theorem dX9_cut_54 : decode cX9_cut 54 = .ok (.invokestatic 33, 3) := by decide +kernel
theorem dX9_cut_57 : decode cX9_cut 57 = .ok (.iload 5, 2) := by decide +kernel
theorem dX9_cut_59 : decode cX9_cut 59 = .ok (.iconst 0, 1) := by decide +kernel
theorem dX9_cut_60 : decode cX9_cut 60 = .ok (.invokevirtual 36, 3) := by decide +kernel
theorem dX9_cut_63 : decode cX9_cut 63 = .ok (.goto 122, 3) := by decide +kernel
theorem dX9_cut_66 : decode cX9_cut 66 = .ok (.iload 6, 2) := by decide +kernel
theorem dX9_cut_68 : decode cX9_cut 68 = .ok (.invokestatic 40, 3) := by decide +kernel
theorem dX9_cut_71 : decode cX9_cut 71 = .ok (.ifCond .eq 59, 3) := by decide +kernel
theorem dX9_cut_74 : decode cX9_cut 74 = .ok (.aload_n 1, 1) := by decide +kernel
theorem dX9_cut_75 : decode cX9_cut 75 = .ok (.iload 5, 2) := by decide +kernel
theorem dX9_cut_77 : decode cX9_cut 77 = .ok (.iload_n 2, 1) := by decide +kernel
theorem dX9_cut_78 : decode cX9_cut 78 = .ok (.invokestatic 43, 3) := by decide +kernel
theorem dX9_cut_81 : decode cX9_cut 81 = .ok (.istore_n 3, 1) := by decide +kernel
theorem dX9_cut_82 : decode cX9_cut 82 = .ok (.iload_n 3, 1) := by decide +kernel
theorem dX9_cut_83 : decode cX9_cut 83 = .ok (.iload 5, 2) := by decide +kernel
theorem dX9_cut_85 : decode cX9_cut 85 = .ok (.isub, 1) := by decide +kernel
theorem dX9_cut_86 : decode cX9_cut 86 = .ok (.iconst 3, 1) := by decide +kernel
theorem dX9_cut_87 : decode cX9_cut 87 = .ok (.if_icmp .gt 7, 3) := by decide +kernel
theorem dX9_cut_90 : decode cX9_cut 90 = .ok (.iconst 1, 1) := by decide +kernel
theorem dX9_cut_91 : decode cX9_cut 91 = .ok (.goto 4, 3) := by decide +kernel
theorem dX9_cut_94 : decode cX9_cut 94 = .ok (.iconst 0, 1) := by decide +kernel
theorem dX9_cut_95 : decode cX9_cut 95 = .ok (.istore 4, 2) := by decide +kernel
theorem dX9_cut_97 : decode cX9_cut 97 = .ok (.aload_n 0, 1) := by decide +kernel
theorem dX9_cut_98 : decode cX9_cut 98 = .ok (.iload 4, 2) := by decide +kernel
theorem dX9_cut_100 : decode cX9_cut 100 = .ok (.ifCond .eq 7, 3) := by decide +kernel
theorem dX9_cut_103 : decode cX9_cut 103 = .ok (.iconst 1, 1) := by decide +kernel
theorem dX9_cut_104 : decode cX9_cut 104 = .ok (.goto 4, 3) := by decide +kernel
theorem dX9_cut_107 : decode cX9_cut 107 = .ok (.iconst (-1), 1) := by decide +kernel
theorem dX9_cut_108 : decode cX9_cut 108 = .ok (.iload 5, 2) := by decide +kernel
theorem dX9_cut_110 : decode cX9_cut 110 = .ok (.aload_n 1, 1) := by decide +kernel
theorem dX9_cut_111 : decode cX9_cut 111 = .ok (.iload 5, 2) := by decide +kernel
theorem dX9_cut_113 : decode cX9_cut 113 = .ok (.iload_n 3, 1) := by decide +kernel
theorem dX9_cut_114 : decode cX9_cut 114 = .ok (.iload 5, 2) := by decide +kernel
theorem dX9_cut_116 : decode cX9_cut 116 = .ok (.iconst 3, 1) := by decide +kernel
theorem dX9_cut_117 : decode cX9_cut 117 = .ok (.iadd, 1) := by decide +kernel
theorem dX9_cut_118 : decode cX9_cut 118 = .ok (.invokestatic 46, 3) := by decide +kernel
theorem dX9_cut_121 : decode cX9_cut 121 = .ok (.invokestatic 52, 3) := by decide +kernel
theorem dX9_cut_124 : decode cX9_cut 124 = .ok (.invokevirtual 36, 3) := by decide +kernel
theorem dX9_cut_127 : decode cX9_cut 127 = .ok (.goto 58, 3) := by decide +kernel
theorem dX9_cut_130 : decode cX9_cut 130 = .ok (.iload 6, 2) := by decide +kernel
theorem dX9_cut_132 : decode cX9_cut 132 = .ok (.bipush 10, 2) := by decide +kernel
theorem dX9_cut_134 : decode cX9_cut 134 = .ok (.if_icmp .eq 51, 3) := by decide +kernel
theorem dX9_cut_137 : decode cX9_cut 137 = .ok (.iload 6, 2) := by decide +kernel
theorem dX9_cut_139 : decode cX9_cut 139 = .ok (.bipush 32, 2) := by decide +kernel
theorem dX9_cut_141 : decode cX9_cut 141 = .ok (.if_icmp .eq 44, 3) := by decide +kernel
theorem dX9_cut_144 : decode cX9_cut 144 = .ok (.iload 6, 2) := by decide +kernel
theorem dX9_cut_146 : decode cX9_cut 146 = .ok (.ifCond .le 18, 3) := by decide +kernel
theorem dX9_cut_149 : decode cX9_cut 149 = .ok (.ldc 55, 2) := by decide +kernel
theorem dX9_cut_151 : decode cX9_cut 151 = .ok (.iload 6, 2) := by decide +kernel
theorem dX9_cut_153 : decode cX9_cut 153 = .ok (.i2c, 1) := by decide +kernel
theorem dX9_cut_154 : decode cX9_cut 154 = .ok (.invokevirtual 57, 3) := by decide +kernel
theorem dX9_cut_157 : decode cX9_cut 157 = .ok (.ifCond .lt 7, 3) := by decide +kernel
theorem dX9_cut_160 : decode cX9_cut 160 = .ok (.iconst 1, 1) := by decide +kernel
theorem dX9_cut_161 : decode cX9_cut 161 = .ok (.goto 4, 3) := by decide +kernel
theorem dX9_cut_164 : decode cX9_cut 164 = .ok (.iconst 0, 1) := by decide +kernel
theorem dX9_cut_165 : decode cX9_cut 165 = .ok (.istore 4, 2) := by decide +kernel
theorem dX9_cut_167 : decode cX9_cut 167 = .ok (.aload_n 0, 1) := by decide +kernel
theorem dX9_cut_168 : decode cX9_cut 168 = .ok (.iload 4, 2) := by decide +kernel
theorem dX9_cut_170 : decode cX9_cut 170 = .ok (.ifCond .eq 8, 3) := by decide +kernel
theorem dX9_cut_173 : decode cX9_cut 173 = .ok (.iload 6, 2) := by decide +kernel
theorem dX9_cut_175 : decode cX9_cut 175 = .ok (.goto 4, 3) := by decide +kernel
theorem dX9_cut_178 : decode cX9_cut 178 = .ok (.iconst (-1), 1) := by decide +kernel
theorem dX9_cut_179 : decode cX9_cut 179 = .ok (.iload 5, 2) := by decide +kernel
theorem dX9_cut_181 : decode cX9_cut 181 = .ok (.iconst 0, 1) := by decide +kernel
theorem dX9_cut_182 : decode cX9_cut 182 = .ok (.invokevirtual 36, 3) := by decide +kernel
theorem dX9_cut_185 : decode cX9_cut 185 = .ok (.iload 5, 2) := by decide +kernel
theorem dX9_cut_187 : decode cX9_cut 187 = .ok (.iconst 1, 1) := by decide +kernel
theorem dX9_cut_188 : decode cX9_cut 188 = .ok (.iadd, 1) := by decide +kernel
theorem dX9_cut_189 : decode cX9_cut 189 = .ok (.iload_n 3, 1) := by decide +kernel
theorem dX9_cut_190 : decode cX9_cut 190 = .ok (.invokestatic 63, 3) := by decide +kernel
theorem dX9_cut_193 : decode cX9_cut 193 = .ok (.istore 5, 2) := by decide +kernel
theorem dX9_cut_195 : decode cX9_cut 195 = .ok (.goto (-182), 3) := by decide +kernel
theorem dX9_cut_198 : decode cX9_cut 198 = .ok (.aload_n 0, 1) := by decide +kernel
theorem dX9_cut_199 : decode cX9_cut 199 = .ok (.iconst 0, 1) := by decide +kernel
theorem dX9_cut_200 : decode cX9_cut 200 = .ok (.iload_n 2, 1) := by decide +kernel
theorem dX9_cut_201 : decode cX9_cut 201 = .ok (.iconst 0, 1) := by decide +kernel
theorem dX9_cut_202 : decode cX9_cut 202 = .ok (.invokevirtual 36, 3) := by decide +kernel
theorem dX9_cut_205 : decode cX9_cut 205 = .ok (.return_, 1) := by decide +kernel
theorem wX9_cut : Mw yX9_cut cX9_cut 7 none 2 := ⟨q_486, q_122, by decide, ⟨by decide +kernel, by decide +kernel⟩, by decide +kernel, by decide +kernel⟩
-- a loop of EyeTrainer$Tokens.cut at 13
def jX9_cut_165 (T : Sh) (M : Me) (x0 : Nat) (x1 : Nat) (x2 : Int32) (x3 : Int32) (x5 : Int32) (x6 : Int32) (s0 : Int32) : Option ((Int32 × Int32 × Int32 × Me) ⊕ (Me)) :=
  if s0 = 0 then (gd (kd T x0 = 8) <| Option.bind (fX9_add T M x0 (-1 : Int32) x5 (0 : Int32)) <| un2 fun _u M19 => Option.bind (fJ9_max_7cf53 (x5 + (1 : Int32)) x3) fun r20 => some (.inl (x3, s0, r20, M19))) else (gd (kd T x0 = 8) <| Option.bind (fX9_add T M x0 x6 x5 (0 : Int32)) <| un2 fun _u M22 => Option.bind (fJ9_max_7cf53 (x5 + (1 : Int32)) x3) fun r23 => some (.inl (x3, s0, r23, M22)))
def jX9_cut_164 (T : Sh) (M : Me) (x0 : Nat) (x1 : Nat) (x2 : Int32) (x3 : Int32) (x5 : Int32) (x6 : Int32) : Option ((Int32 × Int32 × Int32 × Me) ⊕ (Me)) :=
  jX9_cut_165 T M x0 x1 x2 x3 x5 x6 (0 : Int32)
def jX9_cut_108 (T : Sh) (M : Me) (x0 : Nat) (x1 : Nat) (x2 : Int32) (x3 : Int32) (x4 : Int32) (x5 : Int32) (s0 : Int32) (s1 : Nat) : Option ((Int32 × Int32 × Int32 × Me) ⊕ (Me)) :=
  Option.bind (fJ9_min_7cf53 x3 (x5 + (3 : Int32))) fun r30 => Option.bind (fX9_valueOf T M x1 x5 r30) fun r31 => gd (kd T s1 = 8) <| Option.bind (fX9_add T M s1 s0 x5 r31) <| un2 fun _u M33 => Option.bind (fJ9_max_7cf53 (x5 + (1 : Int32)) x3) fun r34 => some (.inl (x3, x4, r34, M33))
def jX9_cut_95 (T : Sh) (M : Me) (x0 : Nat) (x1 : Nat) (x2 : Int32) (x3 : Int32) (x5 : Int32) (s0 : Int32) : Option ((Int32 × Int32 × Int32 × Me) ⊕ (Me)) :=
  if s0 = 0 then (jX9_cut_108 T M x0 x1 x2 x3 s0 x5 (-1 : Int32) x0) else (jX9_cut_108 T M x0 x1 x2 x3 s0 x5 (1 : Int32) x0)
def bX9_cut_13 (T : Sh) (x0 : Nat) (x1 : Nat) (x2 : Int32) (x3 : Int32) (x4 : Int32) (x5 : Int32) (M : Me) : Option ((Int32 × Int32 × Int32 × Me) ⊕ (Me)) :=
  if x2 ≤ x5 then (some (.inr M)) else (if x4 = 0 then (some (.inr M)) else (gd (kd T x1 = 12) <| gv x5 (ln T x1) <| lt (gI M x1 (Int32.toNatClampNeg x5)) fun v7 => Option.bind (fX9_isLetter v7) fun r8 => if r8 = 0 then (Option.bind (fX9_isDigit v7) fun r10 => if r10 = 0 then (if v7 = (10 : Int32) then (Option.bind (fJ9_max_7cf53 (x5 + (1 : Int32)) x3) fun r13 => some (.inl (x3, x4, r13, M))) else (if v7 = (32 : Int32) then (Option.bind (fJ9_max_7cf53 (x5 + (1 : Int32)) x3) fun r15 => some (.inl (x3, x4, r15, M))) else (if v7 ≤ 0 then (jX9_cut_164 T M x0 x1 x2 x3 x5 v7) else (gd (23 < 25) <| Option.bind (fJ0_indexOf_0f7a4 23 (UInt32.toInt32 (Int32.toUInt32 v7 % 65536))) fun r25 => if r25 < 0 then (jX9_cut_164 T M x0 x1 x2 x3 x5 v7) else (jX9_cut_165 T M x0 x1 x2 x3 x5 v7 (1 : Int32)))))) else (Option.bind (fX9_endOfDigits T M x1 x5 x2) fun r27 => if (3 : Int32) < (r27 - x5) then (jX9_cut_95 T M x0 x1 x2 r27 x5 (0 : Int32)) else (jX9_cut_95 T M x0 x1 x2 r27 x5 (1 : Int32)))) else (Option.bind (fX9_endOfWord T M x1 x5 x2) fun r35 => Option.bind (fX9_kindOfWord T M x1 x5 (r35 - x5)) fun r36 => gd (kd T x0 = 8) <| Option.bind (fX9_add T M x0 r36 x5 (0 : Int32)) <| un2 fun _u M38 => Option.bind (fJ9_max_7cf53 (x5 + (1 : Int32)) r35) fun r39 => some (.inl (r35, x4, r39, M38)))))
def PX9_cut_13 (X : Fx) (B : Bx) (Z : Nat × Nat × Nat × Nat) (Q : State → Prop) (T : Sh) (x0 : Nat) (x1 : Nat) (x2 : Int32) (s : Int32 × Int32 × Int32 × Me) : Prop := G X B 7 Z Q 13 [(0, .ref (x0)), (1, .ref (x1)), (2, .int (x2)), (3, .int (s.1)), (4, .int (s.2.1)), (5, .int (s.2.2.1))] [] T s.2.2.2
def EX9_cut_13 (X : Fx) (B : Bx) (Z : Nat × Nat × Nat × Nat) (Q : State → Prop) (T : Sh) (x0 : Nat) (x1 : Nat) (x2 : Int32) (r : Me) : Prop := G X B 7 Z Q 198 [(0, .ref (x0)), (2, .int (x2))] [] T r
set_option maxHeartbeats 4000000 in
theorem tjX9_cut_165 {X : Fx} {B : Bx} {Z : Nat × Nat × Nat × Nat} {Q : State → Prop} {d : Nat} {T : Sh} {M : Me} {x0 : Nat} {x1 : Nat} {x2 : Int32} {x3 : Int32} {x5 : Int32} {x6 : Int32} {s0 : Int32} {o : (Int32 × Int32 × Int32 × Me) ⊕ (Me)} (C : Cx X B cX9_cut 7 RX9 d Z) (hd : 7 ≤ d) (h : jX9_cut_165 T M x0 x1 x2 x3 x5 x6 s0 = some o) (hE : lpE (PX9_cut_13 X B Z Q T x0 x1 x2) (EX9_cut_13 X B Z Q T x0 x1 x2) o) : G X B 7 Z Q 165 [(0, .ref (x0)), (1, .ref (x1)), (2, .int (x2)), (3, .int (x3)), (5, .int (x5)), (6, .int (x6))] [.int (s0)] T M := by
  unfold jX9_cut_165 at h
  refine g_istore (pc := 165) (lo2 := [(4, .int (s0)), (0, .ref (x0)), (1, .ref (x1)), (2, .int (x2)), (3, .int (x3)), (5, .int (x5)), (6, .int (x6))]) C dX9_cut_165 (by decide) rfl ?_
  refine g_aload_n (pc := 167) C dX9_cut_167 rfl 1 rfl ?_
  refine g_iload (pc := 168) C dX9_cut_168 0 rfl ?_
  refine g_if_eq (pc := 170) (tgt := 178) C dX9_cut_170 (by decide) (fun c17 => ?_) (fun c17 => ?_)
  · replace h := ifp c17 h
    refine g_iconst (pc := 178) (v := (-1)) C dX9_cut_178 (by decide) ?_
    refine g_iload (pc := 179) C dX9_cut_179 5 rfl ?_
    refine g_iconst (pc := 181) (v := 0) C dX9_cut_181 (by decide) ?_
    replace h := gd_some h; obtain ⟨hk18, h⟩ := h
    replace h := bnd2 h; obtain ⟨_u, M19, h1, h⟩ := h
    refine g_callVv (pc := 182) (As := [.int ((-1 : Int32)), .int (x5), .int ((0 : Int32))]) (st := []) C dX9_cut_182 wX9_add hk18 rfl (by decide) q_575 q_1 q_573 (by omega) rfl (Nat.le_of_ble_eq_true rfl) (kX9_add (d := 0) (Nat.le_refl _) h1) ?_
    refine g_iload (pc := 185) C dX9_cut_185 5 rfl ?_
    refine g_iconst (pc := 187) (v := 1) C dX9_cut_187 (by decide) ?_
    refine g_iadd (pc := 188) C dX9_cut_188 ?_
    refine g_iload_n (pc := 189) C dX9_cut_189 rfl 4 rfl ?_
    replace h := bnd h; obtain ⟨r20, h1, h⟩ := h
    refine g_callSi (pc := 190) (As := [.int (x5 + (1 : Int32)), .int (x3)]) (st := []) C dX9_cut_190 wJ9_max_7cf53 q_606 q_647 (by omega) rfl (Nat.le_of_ble_eq_true rfl) (kJ9_max_7cf53 (d := 0) (Nat.le_refl _) h1) ?_
    refine g_istore (pc := 193) (lo2 := [(5, .int (r20)), (4, .int (s0)), (0, .ref (x0)), (1, .ref (x1)), (2, .int (x2)), (3, .int (x3)), (6, .int (x6))]) C dX9_cut_193 (by decide) rfl ?_
    refine g_goto (pc := 195) (tgt := 13) C dX9_cut_195 (by decide) ?_
    obtain rfl := Option.some.inj h
    exact g_sub [2, 3, 4, 5, 1, 0] rfl (show G X B 7 Z Q 13 [(0, .ref (x0)), (1, .ref (x1)), (2, .int (x2)), (3, .int (x3)), (4, .int (s0)), (5, .int (r20))] [] T M19 from hE)
  · replace h := ifn c17 h
    refine g_iload (pc := 173) C dX9_cut_173 6 rfl ?_
    refine g_goto (pc := 175) (tgt := 179) C dX9_cut_175 (by decide) ?_
    refine g_iload (pc := 179) C dX9_cut_179 5 rfl ?_
    refine g_iconst (pc := 181) (v := 0) C dX9_cut_181 (by decide) ?_
    replace h := gd_some h; obtain ⟨hk21, h⟩ := h
    replace h := bnd2 h; obtain ⟨_u, M22, h1, h⟩ := h
    refine g_callVv (pc := 182) (As := [.int (x6), .int (x5), .int ((0 : Int32))]) (st := []) C dX9_cut_182 wX9_add hk21 rfl (by decide) q_575 q_1 q_573 (by omega) rfl (Nat.le_of_ble_eq_true rfl) (kX9_add (d := 0) (Nat.le_refl _) h1) ?_
    refine g_iload (pc := 185) C dX9_cut_185 5 rfl ?_
    refine g_iconst (pc := 187) (v := 1) C dX9_cut_187 (by decide) ?_
    refine g_iadd (pc := 188) C dX9_cut_188 ?_
    refine g_iload_n (pc := 189) C dX9_cut_189 rfl 4 rfl ?_
    replace h := bnd h; obtain ⟨r23, h1, h⟩ := h
    refine g_callSi (pc := 190) (As := [.int (x5 + (1 : Int32)), .int (x3)]) (st := []) C dX9_cut_190 wJ9_max_7cf53 q_606 q_647 (by omega) rfl (Nat.le_of_ble_eq_true rfl) (kJ9_max_7cf53 (d := 0) (Nat.le_refl _) h1) ?_
    refine g_istore (pc := 193) (lo2 := [(5, .int (r23)), (4, .int (s0)), (0, .ref (x0)), (1, .ref (x1)), (2, .int (x2)), (3, .int (x3)), (6, .int (x6))]) C dX9_cut_193 (by decide) rfl ?_
    refine g_goto (pc := 195) (tgt := 13) C dX9_cut_195 (by decide) ?_
    obtain rfl := Option.some.inj h
    exact g_sub [2, 3, 4, 5, 1, 0] rfl (show G X B 7 Z Q 13 [(0, .ref (x0)), (1, .ref (x1)), (2, .int (x2)), (3, .int (x3)), (4, .int (s0)), (5, .int (r23))] [] T M22 from hE)
set_option maxHeartbeats 4000000 in
theorem tjX9_cut_164 {X : Fx} {B : Bx} {Z : Nat × Nat × Nat × Nat} {Q : State → Prop} {d : Nat} {T : Sh} {M : Me} {x0 : Nat} {x1 : Nat} {x2 : Int32} {x3 : Int32} {x5 : Int32} {x6 : Int32} {o : (Int32 × Int32 × Int32 × Me) ⊕ (Me)} (C : Cx X B cX9_cut 7 RX9 d Z) (hd : 7 ≤ d) (h : jX9_cut_164 T M x0 x1 x2 x3 x5 x6 = some o) (hE : lpE (PX9_cut_13 X B Z Q T x0 x1 x2) (EX9_cut_13 X B Z Q T x0 x1 x2) o) : G X B 7 Z Q 164 [(0, .ref (x0)), (1, .ref (x1)), (2, .int (x2)), (3, .int (x3)), (5, .int (x5)), (6, .int (x6))] [] T M := by
  unfold jX9_cut_164 at h
  refine g_iconst (pc := 164) (v := 0) C dX9_cut_164 (by decide) ?_
  exact g_sub [0, 1, 2, 3, 4, 5] rfl (tjX9_cut_165 C hd h hE)
set_option maxHeartbeats 4000000 in
theorem tjX9_cut_108 {X : Fx} {B : Bx} {Z : Nat × Nat × Nat × Nat} {Q : State → Prop} {d : Nat} {T : Sh} {M : Me} {x0 : Nat} {x1 : Nat} {x2 : Int32} {x3 : Int32} {x4 : Int32} {x5 : Int32} {s0 : Int32} {s1 : Nat} {o : (Int32 × Int32 × Int32 × Me) ⊕ (Me)} (C : Cx X B cX9_cut 7 RX9 d Z) (hd : 7 ≤ d) (h : jX9_cut_108 T M x0 x1 x2 x3 x4 x5 s0 s1 = some o) (hE : lpE (PX9_cut_13 X B Z Q T x0 x1 x2) (EX9_cut_13 X B Z Q T x0 x1 x2) o) : G X B 7 Z Q 108 [(0, .ref (x0)), (1, .ref (x1)), (2, .int (x2)), (3, .int (x3)), (4, .int (x4)), (5, .int (x5))] [.int (s0), .ref (s1)] T M := by
  unfold jX9_cut_108 at h
  refine g_iload (pc := 108) C dX9_cut_108 5 rfl ?_
  refine g_aload_n (pc := 110) C dX9_cut_110 rfl 1 rfl ?_
  refine g_iload (pc := 111) C dX9_cut_111 5 rfl ?_
  refine g_iload_n (pc := 113) C dX9_cut_113 rfl 3 rfl ?_
  refine g_iload (pc := 114) C dX9_cut_114 5 rfl ?_
  refine g_iconst (pc := 116) (v := 3) C dX9_cut_116 (by decide) ?_
  refine g_iadd (pc := 117) C dX9_cut_117 ?_
  replace h := bnd h; obtain ⟨r30, h1, h⟩ := h
  refine g_callSi (pc := 118) (As := [.int (x3), .int (x5 + (3 : Int32))]) (st := [.int (x5), .ref (x1), .int (x5), .int (s0), .ref (s1)]) C dX9_cut_118 wJ9_min_7cf53 q_584 q_583 (by omega) rfl (Nat.le_of_ble_eq_true rfl) (kJ9_min_7cf53 (d := 0) (Nat.le_refl _) h1) ?_
  replace h := bnd h; obtain ⟨r31, h1, h⟩ := h
  refine g_callSi (pc := 121) (As := [.ref (x1), .int (x5), .int (r30)]) (st := [.int (x5), .int (s0), .ref (s1)]) C dX9_cut_121 wX9_valueOf q_587 q_586 (by omega) rfl (Nat.le_of_ble_eq_true rfl) (kX9_valueOf (d := 0) (Nat.le_refl _) h1) ?_
  replace h := gd_some h; obtain ⟨hk32, h⟩ := h
  replace h := bnd2 h; obtain ⟨_u, M33, h1, h⟩ := h
  refine g_callVv (pc := 124) (As := [.int (s0), .int (x5), .int (r31)]) (st := []) C dX9_cut_124 wX9_add hk32 rfl (by decide) q_575 q_1 q_573 (by omega) rfl (Nat.le_of_ble_eq_true rfl) (kX9_add (d := 0) (Nat.le_refl _) h1) ?_
  refine g_goto (pc := 127) (tgt := 185) C dX9_cut_127 (by decide) ?_
  refine g_iload (pc := 185) C dX9_cut_185 5 rfl ?_
  refine g_iconst (pc := 187) (v := 1) C dX9_cut_187 (by decide) ?_
  refine g_iadd (pc := 188) C dX9_cut_188 ?_
  refine g_iload_n (pc := 189) C dX9_cut_189 rfl 3 rfl ?_
  replace h := bnd h; obtain ⟨r34, h1, h⟩ := h
  refine g_callSi (pc := 190) (As := [.int (x5 + (1 : Int32)), .int (x3)]) (st := []) C dX9_cut_190 wJ9_max_7cf53 q_606 q_647 (by omega) rfl (Nat.le_of_ble_eq_true rfl) (kJ9_max_7cf53 (d := 0) (Nat.le_refl _) h1) ?_
  refine g_istore (pc := 193) (lo2 := [(5, .int (r34)), (0, .ref (x0)), (1, .ref (x1)), (2, .int (x2)), (3, .int (x3)), (4, .int (x4))]) C dX9_cut_193 (by decide) rfl ?_
  refine g_goto (pc := 195) (tgt := 13) C dX9_cut_195 (by decide) ?_
  obtain rfl := Option.some.inj h
  exact g_sub [1, 2, 3, 4, 5, 0] rfl (show G X B 7 Z Q 13 [(0, .ref (x0)), (1, .ref (x1)), (2, .int (x2)), (3, .int (x3)), (4, .int (x4)), (5, .int (r34))] [] T M33 from hE)
set_option maxHeartbeats 4000000 in
theorem tjX9_cut_95 {X : Fx} {B : Bx} {Z : Nat × Nat × Nat × Nat} {Q : State → Prop} {d : Nat} {T : Sh} {M : Me} {x0 : Nat} {x1 : Nat} {x2 : Int32} {x3 : Int32} {x5 : Int32} {s0 : Int32} {o : (Int32 × Int32 × Int32 × Me) ⊕ (Me)} (C : Cx X B cX9_cut 7 RX9 d Z) (hd : 7 ≤ d) (h : jX9_cut_95 T M x0 x1 x2 x3 x5 s0 = some o) (hE : lpE (PX9_cut_13 X B Z Q T x0 x1 x2) (EX9_cut_13 X B Z Q T x0 x1 x2) o) : G X B 7 Z Q 95 [(0, .ref (x0)), (1, .ref (x1)), (2, .int (x2)), (3, .int (x3)), (5, .int (x5))] [.int (s0)] T M := by
  unfold jX9_cut_95 at h
  refine g_istore (pc := 95) (lo2 := [(4, .int (s0)), (0, .ref (x0)), (1, .ref (x1)), (2, .int (x2)), (3, .int (x3)), (5, .int (x5))]) C dX9_cut_95 (by decide) rfl ?_
  refine g_aload_n (pc := 97) C dX9_cut_97 rfl 1 rfl ?_
  refine g_iload (pc := 98) C dX9_cut_98 0 rfl ?_
  refine g_if_eq (pc := 100) (tgt := 107) C dX9_cut_100 (by decide) (fun c29 => ?_) (fun c29 => ?_)
  · replace h := ifp c29 h
    refine g_iconst (pc := 107) (v := (-1)) C dX9_cut_107 (by decide) ?_
    exact g_sub [1, 2, 3, 4, 0, 5] rfl (tjX9_cut_108 C hd h hE)
  · replace h := ifn c29 h
    refine g_iconst (pc := 103) (v := 1) C dX9_cut_103 (by decide) ?_
    refine g_goto (pc := 104) (tgt := 108) C dX9_cut_104 (by decide) ?_
    exact g_sub [1, 2, 3, 4, 0, 5] rfl (tjX9_cut_108 C hd h hE)
set_option maxHeartbeats 4000000 in
theorem tbX9_cut_13 {X : Fx} {B : Bx} {Z : Nat × Nat × Nat × Nat} {Q : State → Prop} {d : Nat} {T : Sh} (C : Cx X B cX9_cut 7 RX9 d Z) (hd : 7 ≤ d) {x0 : Nat} {x1 : Nat} {x2 : Int32} : ∀ (s : Int32 × Int32 × Int32 × Me) (o : (Int32 × Int32 × Int32 × Me) ⊕ (Me)), bX9_cut_13 T x0 x1 x2 s.1 s.2.1 s.2.2.1 s.2.2.2 = some o → lpE (PX9_cut_13 X B Z Q T x0 x1 x2) (EX9_cut_13 X B Z Q T x0 x1 x2) o → PX9_cut_13 X B Z Q T x0 x1 x2 s := by
  rintro ⟨x3, x4, x5, M⟩ o h hE
  replace h : bX9_cut_13 T x0 x1 x2 x3 x4 x5 M = some o := h
  unfold bX9_cut_13 at h
  show G X B 7 Z Q 13 [(0, .ref (x0)), (1, .ref (x1)), (2, .int (x2)), (3, .int (x3)), (4, .int (x4)), (5, .int (x5))] [] T M
  refine g_iload (pc := 13) C dX9_cut_13 5 rfl ?_
  refine g_iload_n (pc := 15) C dX9_cut_15 rfl 2 rfl ?_
  refine g_icmp_ge (pc := 16) (tgt := 198) C dX9_cut_16 (by decide) (fun c3 => ?_) (fun c3 => ?_)
  · replace h := ifp c3 h
    obtain rfl := Option.some.inj h
    exact g_sub [0, 2] rfl (show G X B 7 Z Q 198 [(0, .ref (x0)), (2, .int (x2))] [] T M from hE)
  · replace h := ifn c3 h
    refine g_iload (pc := 19) C dX9_cut_19 4 rfl ?_
    refine g_if_eq (pc := 21) (tgt := 198) C dX9_cut_21 (by decide) (fun c4 => ?_) (fun c4 => ?_)
    · replace h := ifp c4 h
      obtain rfl := Option.some.inj h
      exact g_sub [0, 2] rfl (show G X B 7 Z Q 198 [(0, .ref (x0)), (2, .int (x2))] [] T M from hE)
    · replace h := ifn c4 h
      refine g_aload_n (pc := 24) C dX9_cut_24 rfl 1 rfl ?_
      refine g_iload (pc := 25) C dX9_cut_25 5 rfl ?_
      replace h := gd_some h; obtain ⟨hk5, h⟩ := h
      replace h := gv_some h; obtain ⟨hi6, h⟩ := h
      refine g_bald (pc := 27) C dX9_cut_27 hk5 hi6 ?_
      refine g_topi (fun v7 ev7 => ?_)
      replace h := lt_at ev7 h
      refine g_istore (pc := 28) (lo2 := [(6, .int (v7)), (0, .ref (x0)), (1, .ref (x1)), (2, .int (x2)), (3, .int (x3)), (4, .int (x4)), (5, .int (x5))]) C dX9_cut_28 (by decide) rfl ?_
      refine g_iload (pc := 30) C dX9_cut_30 0 rfl ?_
      replace h := bnd h; obtain ⟨r8, h1, h⟩ := h
      refine g_callSi (pc := 32) (As := [.int (v7)]) (st := []) C dX9_cut_32 wX9_isLetter q_488 q_487 (by omega) rfl (Nat.le_of_ble_eq_true rfl) (kX9_isLetter (d := 0) (Nat.le_refl _) h1) ?_
      refine g_if_eq (pc := 35) (tgt := 66) C dX9_cut_35 (by decide) (fun c9 => ?_) (fun c9 => ?_)
      · replace h := ifp c9 h
        refine g_iload (pc := 66) C dX9_cut_66 0 rfl ?_
        replace h := bnd h; obtain ⟨r10, h1, h⟩ := h
        refine g_callSi (pc := 68) (As := [.int (v7)]) (st := []) C dX9_cut_68 wX9_isDigit q_578 q_577 (by omega) rfl (Nat.le_of_ble_eq_true rfl) (kX9_isDigit (d := 0) (Nat.le_refl _) h1) ?_
        refine g_if_eq (pc := 71) (tgt := 130) C dX9_cut_71 (by decide) (fun c11 => ?_) (fun c11 => ?_)
        · replace h := ifp c11 h
          refine g_iload (pc := 130) C dX9_cut_130 0 rfl ?_
          refine g_bipush (pc := 132) (v := 10) C dX9_cut_132 (by decide) ?_
          refine g_icmp_eq (pc := 134) (tgt := 185) C dX9_cut_134 (by decide) (fun c12 => ?_) (fun c12 => ?_)
          · replace h := ifp c12 h
            refine g_iload (pc := 185) C dX9_cut_185 6 rfl ?_
            refine g_iconst (pc := 187) (v := 1) C dX9_cut_187 (by decide) ?_
            refine g_iadd (pc := 188) C dX9_cut_188 ?_
            refine g_iload_n (pc := 189) C dX9_cut_189 rfl 4 rfl ?_
            replace h := bnd h; obtain ⟨r13, h1, h⟩ := h
            refine g_callSi (pc := 190) (As := [.int (x5 + (1 : Int32)), .int (x3)]) (st := []) C dX9_cut_190 wJ9_max_7cf53 q_606 q_647 (by omega) rfl (Nat.le_of_ble_eq_true rfl) (kJ9_max_7cf53 (d := 0) (Nat.le_refl _) h1) ?_
            refine g_istore (pc := 193) (lo2 := [(5, .int (r13)), (6, .int (v7)), (0, .ref (x0)), (1, .ref (x1)), (2, .int (x2)), (3, .int (x3)), (4, .int (x4))]) C dX9_cut_193 (by decide) rfl ?_
            refine g_goto (pc := 195) (tgt := 13) C dX9_cut_195 (by decide) ?_
            obtain rfl := Option.some.inj h
            exact g_sub [2, 3, 4, 5, 6, 0] rfl (show G X B 7 Z Q 13 [(0, .ref (x0)), (1, .ref (x1)), (2, .int (x2)), (3, .int (x3)), (4, .int (x4)), (5, .int (r13))] [] T M from hE)
          · replace h := ifn c12 h
            refine g_iload (pc := 137) C dX9_cut_137 0 rfl ?_
            refine g_bipush (pc := 139) (v := 32) C dX9_cut_139 (by decide) ?_
            refine g_icmp_eq (pc := 141) (tgt := 185) C dX9_cut_141 (by decide) (fun c14 => ?_) (fun c14 => ?_)
            · replace h := ifp c14 h
              refine g_iload (pc := 185) C dX9_cut_185 6 rfl ?_
              refine g_iconst (pc := 187) (v := 1) C dX9_cut_187 (by decide) ?_
              refine g_iadd (pc := 188) C dX9_cut_188 ?_
              refine g_iload_n (pc := 189) C dX9_cut_189 rfl 4 rfl ?_
              replace h := bnd h; obtain ⟨r15, h1, h⟩ := h
              refine g_callSi (pc := 190) (As := [.int (x5 + (1 : Int32)), .int (x3)]) (st := []) C dX9_cut_190 wJ9_max_7cf53 q_606 q_647 (by omega) rfl (Nat.le_of_ble_eq_true rfl) (kJ9_max_7cf53 (d := 0) (Nat.le_refl _) h1) ?_
              refine g_istore (pc := 193) (lo2 := [(5, .int (r15)), (6, .int (v7)), (0, .ref (x0)), (1, .ref (x1)), (2, .int (x2)), (3, .int (x3)), (4, .int (x4))]) C dX9_cut_193 (by decide) rfl ?_
              refine g_goto (pc := 195) (tgt := 13) C dX9_cut_195 (by decide) ?_
              obtain rfl := Option.some.inj h
              exact g_sub [2, 3, 4, 5, 6, 0] rfl (show G X B 7 Z Q 13 [(0, .ref (x0)), (1, .ref (x1)), (2, .int (x2)), (3, .int (x3)), (4, .int (x4)), (5, .int (r15))] [] T M from hE)
            · replace h := ifn c14 h
              refine g_iload (pc := 144) C dX9_cut_144 0 rfl ?_
              refine g_if_le (pc := 146) (tgt := 164) C dX9_cut_146 (by decide) (fun c16 => ?_) (fun c16 => ?_)
              · replace h := ifp c16 h
                exact g_sub [1, 2, 3, 4, 6, 0] rfl (tjX9_cut_164 C hd h hE)
              · replace h := ifn c16 h
                refine g_ldcS (pc := 149) (tx := ";:+-*()[]=<>") (w := 23) C dX9_cut_149 (by decide +kernel) ?_
                refine g_iload (pc := 151) C dX9_cut_151 0 rfl ?_
                refine g_i2c (pc := 153) C dX9_cut_153 ?_
                replace h := gd_some h; obtain ⟨hw24, h⟩ := h
                replace h := bnd h; obtain ⟨r25, h1, h⟩ := h
                refine g_callTi (pc := 154) (As := [.int (UInt32.toInt32 (Int32.toUInt32 v7 % 65536))]) (st := []) C dX9_cut_154 wJ0_indexOf_0f7a4 hw24 rfl q_591 q_592 q_590 (by omega) rfl (Nat.le_of_ble_eq_true rfl) (kJ0_indexOf_0f7a4 (d := 5) (Nat.le_refl _) h1) ?_
                refine g_if_lt (pc := 157) (tgt := 164) C dX9_cut_157 (by decide) (fun c26 => ?_) (fun c26 => ?_)
                · replace h := ifp c26 h
                  exact g_sub [1, 2, 3, 4, 6, 0] rfl (tjX9_cut_164 C hd h hE)
                · replace h := ifn c26 h
                  refine g_iconst (pc := 160) (v := 1) C dX9_cut_160 (by decide) ?_
                  refine g_goto (pc := 161) (tgt := 165) C dX9_cut_161 (by decide) ?_
                  exact g_sub [1, 2, 3, 4, 6, 0] rfl (tjX9_cut_165 C hd h hE)
        · replace h := ifn c11 h
          refine g_aload_n (pc := 74) C dX9_cut_74 rfl 2 rfl ?_
          refine g_iload (pc := 75) C dX9_cut_75 6 rfl ?_
          refine g_iload_n (pc := 77) C dX9_cut_77 rfl 3 rfl ?_
          replace h := bnd h; obtain ⟨r27, h1, h⟩ := h
          refine g_callSi (pc := 78) (As := [.ref (x1), .int (x5), .int (x2)]) (st := []) C dX9_cut_78 wX9_endOfDigits q_581 q_580 (by omega) rfl (Nat.le_of_ble_eq_true rfl) (kX9_endOfDigits (d := 1) (Nat.le_refl _) h1) ?_
          refine g_istore_n (pc := 81) (lo2 := [(3, .int (r27)), (6, .int (v7)), (0, .ref (x0)), (1, .ref (x1)), (2, .int (x2)), (4, .int (x4)), (5, .int (x5))]) C dX9_cut_81 rfl (by decide) rfl ?_
          refine g_iload_n (pc := 82) C dX9_cut_82 rfl 0 rfl ?_
          refine g_iload (pc := 83) C dX9_cut_83 6 rfl ?_
          refine g_isub (pc := 85) C dX9_cut_85 ?_
          refine g_iconst (pc := 86) (v := 3) C dX9_cut_86 (by decide) ?_
          refine g_icmp_gt (pc := 87) (tgt := 94) C dX9_cut_87 (by decide) (fun c28 => ?_) (fun c28 => ?_)
          · replace h := ifp c28 h
            refine g_iconst (pc := 94) (v := 0) C dX9_cut_94 (by decide) ?_
            exact g_sub [2, 3, 4, 0, 6] rfl (tjX9_cut_95 C hd h hE)
          · replace h := ifn c28 h
            refine g_iconst (pc := 90) (v := 1) C dX9_cut_90 (by decide) ?_
            refine g_goto (pc := 91) (tgt := 95) C dX9_cut_91 (by decide) ?_
            exact g_sub [2, 3, 4, 0, 6] rfl (tjX9_cut_95 C hd h hE)
      · replace h := ifn c9 h
        refine g_aload_n (pc := 38) C dX9_cut_38 rfl 2 rfl ?_
        refine g_iload (pc := 39) C dX9_cut_39 6 rfl ?_
        refine g_iload_n (pc := 41) C dX9_cut_41 rfl 3 rfl ?_
        replace h := bnd h; obtain ⟨r35, h1, h⟩ := h
        refine g_callSi (pc := 42) (As := [.ref (x1), .int (x5), .int (x2)]) (st := []) C dX9_cut_42 wX9_endOfWord q_491 q_490 (by omega) rfl (Nat.le_of_ble_eq_true rfl) (kX9_endOfWord (d := 1) (Nat.le_refl _) h1) ?_
        refine g_istore_n (pc := 45) (lo2 := [(3, .int (r35)), (6, .int (v7)), (0, .ref (x0)), (1, .ref (x1)), (2, .int (x2)), (4, .int (x4)), (5, .int (x5))]) C dX9_cut_45 rfl (by decide) rfl ?_
        refine g_aload_n (pc := 46) C dX9_cut_46 rfl 2 rfl ?_
        refine g_aload_n (pc := 47) C dX9_cut_47 rfl 3 rfl ?_
        refine g_iload (pc := 48) C dX9_cut_48 6 rfl ?_
        refine g_iload_n (pc := 50) C dX9_cut_50 rfl 0 rfl ?_
        refine g_iload (pc := 51) C dX9_cut_51 6 rfl ?_
        refine g_isub (pc := 53) C dX9_cut_53 ?_
        replace h := bnd h; obtain ⟨r36, h1, h⟩ := h
        refine g_callSi (pc := 54) (As := [.ref (x1), .int (x5), .int (r35 - x5)]) (st := [.ref (x0)]) C dX9_cut_54 wX9_kindOfWord q_494 q_493 (by omega) rfl (Nat.le_of_ble_eq_true rfl) (kX9_kindOfWord (d := 6) (Nat.le_refl _) h1) ?_
        refine g_iload (pc := 57) C dX9_cut_57 6 rfl ?_
        refine g_iconst (pc := 59) (v := 0) C dX9_cut_59 (by decide) ?_
        replace h := gd_some h; obtain ⟨hk37, h⟩ := h
        replace h := bnd2 h; obtain ⟨_u, M38, h1, h⟩ := h
        refine g_callVv (pc := 60) (As := [.int (r36), .int (x5), .int ((0 : Int32))]) (st := []) C dX9_cut_60 wX9_add hk37 rfl (by decide) q_575 q_1 q_573 (by omega) rfl (Nat.le_of_ble_eq_true rfl) (kX9_add (d := 0) (Nat.le_refl _) h1) ?_
        refine g_goto (pc := 63) (tgt := 185) C dX9_cut_63 (by decide) ?_
        refine g_iload (pc := 185) C dX9_cut_185 6 rfl ?_
        refine g_iconst (pc := 187) (v := 1) C dX9_cut_187 (by decide) ?_
        refine g_iadd (pc := 188) C dX9_cut_188 ?_
        refine g_iload_n (pc := 189) C dX9_cut_189 rfl 0 rfl ?_
        replace h := bnd h; obtain ⟨r39, h1, h⟩ := h
        refine g_callSi (pc := 190) (As := [.int (x5 + (1 : Int32)), .int (r35)]) (st := []) C dX9_cut_190 wJ9_max_7cf53 q_606 q_647 (by omega) rfl (Nat.le_of_ble_eq_true rfl) (kJ9_max_7cf53 (d := 0) (Nat.le_refl _) h1) ?_
        refine g_istore (pc := 193) (lo2 := [(5, .int (r39)), (3, .int (r35)), (6, .int (v7)), (0, .ref (x0)), (1, .ref (x1)), (2, .int (x2)), (4, .int (x4))]) C dX9_cut_193 (by decide) rfl ?_
        refine g_goto (pc := 195) (tgt := 13) C dX9_cut_195 (by decide) ?_
        obtain rfl := Option.some.inj h
        exact g_sub [3, 4, 5, 1, 6, 0] rfl (show G X B 7 Z Q 13 [(0, .ref (x0)), (1, .ref (x1)), (2, .int (x2)), (3, .int (r35)), (4, .int (x4)), (5, .int (r39))] [] T M38 from hE)
/-- EyeTrainer$Tokens.cut([BI)V -/
def fX9_cut (T : Sh) (M : Me) (x0 : Nat) (x1 : Nat) (x2 : Int32) : Option (Unit × Me) :=
  gd (kd T x0 = 8) <| lt (pI M x0 3 (0 : Int32)) fun M2 => (lp FU (fun s => bX9_cut_13 T x0 x1 x2 s.1 s.2.1 s.2.2.1 s.2.2.2) ((0 : Int32), (1 : Int32), (0 : Int32), M2)).bind (fun M40 => Option.bind (fX9_add T M40 x0 (0 : Int32) x2 (0 : Int32)) <| un2 fun _u M41 => some ((), M41))
set_option maxHeartbeats 4000000 in
theorem kX9_cut {l : Launch} {B : Bx} {d : Nat} (hd : 7 ≤ d) {T : Sh} {M : Me} {x0 : Nat} {x1 : Nat} {x2 : Int32} {M' : Me} (h : fX9_cut T M x0 x1 x2 = some ((), M')) : Kt l B yX9_cut cX9_cut 7 none d [.ref (x0), .ref (x1), .int (x2)] T M none T M' := by
  refine kt_of wX9_cut (Nat.le_refl _) (Nat.le_refl _) (Nat.le_of_ble_eq_true rfl) (fun X C hR hlx hin => ?_)
  subst hlx
  replace C : Cx X B cX9_cut 7 RX9 d (tp T, sl T, tp T, sl T) := C
  unfold fX9_cut at h
  show G X B 7 _ _ 0 [(0, .ref (x0)), (1, .ref (x1)), (2, .int (x2))] [] T M
  refine g_aload_n (pc := 0) C dX9_cut_0 rfl 0 rfl ?_
  refine g_iconst (pc := 1) (v := 0) C dX9_cut_1 (by decide) ?_
  replace h := gd_some h; obtain ⟨hk1, h⟩ := h
  refine g_putI (pc := 2) C dX9_cut_2 kX9 hk1 3 (by decide) rfl rfl rfl q_168 ?_
  refine g_mem (fun M2 eM2 => ?_)
  replace h := lt_at eM2 h
  refine g_iconst (pc := 5) (v := 0) C dX9_cut_5 (by decide) ?_
  refine g_istore_n (pc := 6) (lo2 := [(3, .int ((0 : Int32))), (0, .ref (x0)), (1, .ref (x1)), (2, .int (x2))]) C dX9_cut_6 rfl (by decide) rfl ?_
  refine g_iconst (pc := 7) (v := 1) C dX9_cut_7 (by decide) ?_
  refine g_istore (pc := 8) (lo2 := [(4, .int ((1 : Int32))), (3, .int ((0 : Int32))), (0, .ref (x0)), (1, .ref (x1)), (2, .int (x2))]) C dX9_cut_8 (by decide) rfl ?_
  refine g_iconst (pc := 10) (v := 0) C dX9_cut_10 (by decide) ?_
  refine g_istore (pc := 11) (lo2 := [(5, .int ((0 : Int32))), (4, .int ((1 : Int32))), (3, .int ((0 : Int32))), (0, .ref (x0)), (1, .ref (x1)), (2, .int (x2))]) C dX9_cut_11 (by decide) rfl ?_
  replace h := bnd h; obtain ⟨M40, h1, h⟩ := h
  refine g_sub [3, 4, 5, 2, 1, 0] rfl ?_
  refine lp_G2 (P := PX9_cut_13 X B _ _ T x0 x1 x2) (E := EX9_cut_13 X B _ _ T x0 x1 x2) (tbX9_cut_13 C hd) h1 ?_
  show G X B 7 _ _ 198 [(0, .ref (x0)), (2, .int (x2))] [] T M40
  refine g_aload_n (pc := 198) C dX9_cut_198 rfl 0 rfl ?_
  refine g_iconst (pc := 199) (v := 0) C dX9_cut_199 (by decide) ?_
  refine g_iload_n (pc := 200) C dX9_cut_200 rfl 1 rfl ?_
  refine g_iconst (pc := 201) (v := 0) C dX9_cut_201 (by decide) ?_
  replace h := bnd2 h; obtain ⟨_u, M41, h1, h⟩ := h
  refine g_callVv (pc := 202) (As := [.int ((0 : Int32)), .int (x2), .int ((0 : Int32))]) (st := []) C dX9_cut_202 wX9_add hk1 rfl (by decide) q_575 q_1 q_573 (by omega) rfl (Nat.le_of_ble_eq_true rfl) (kX9_add (d := 0) (Nat.le_refl _) h1) ?_
  obtain ⟨-, rfl⟩ := Prod.mk.inj (Option.some.inj h)
  exact g_vret C hR dX9_cut_205
