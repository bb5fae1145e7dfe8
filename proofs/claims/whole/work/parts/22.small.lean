set_option maxRecDepth 20000 in
theorem q_39 : Cond.selects RX1 yX1_draw yX1_draw ∈ lw_gd := mem_gd (List.mem_of_getElem? (i := 39) (by decide +kernel)) rfl
set_option maxRecDepth 20000 in
theorem q_127 : Cond.initialized RX8 ∈ lw_gd := mem_gd (List.mem_of_getElem? (i := 127) (by decide +kernel)) rfl
set_option maxRecDepth 20000 in
theorem q_128 : Cond.initialized RX10 ∈ lw_gd := mem_gd (List.mem_of_getElem? (i := 128) (by decide +kernel)) rfl
set_option maxRecDepth 20000 in
theorem q_141 : Cond.initialized RX1 ∈ lw_gd := mem_gd (List.mem_of_getElem? (i := 141) (by decide +kernel)) rfl
set_option maxRecDepth 20000 in
theorem q_285 : Cond.static yJ7_fill_53178 ∈ lw_gd := mem_gd (List.mem_of_getElem? (i := 285) (by decide +kernel)) rfl
set_option maxRecDepth 20000 in
theorem q_374 : Cond.fieldLink RX8 9 "EyeTrainer$Stand" "points" "[I" ∈ lw_gd := mem_gd (List.mem_of_getElem? (i := 374) (by decide +kernel)) rfl
set_option maxRecDepth 20000 in
theorem q_376 : Cond.fieldLink RX8 25 "EyeTrainer$Stand" "time" "I" ∈ lw_gd := mem_gd (List.mem_of_getElem? (i := 376) (by decide +kernel)) rfl
set_option maxRecDepth 20000 in
theorem q_378 : Cond.fieldLink RX8 15 "EyeTrainer$Stand" "pattern" "I" ∈ lw_gd := mem_gd (List.mem_of_getElem? (i := 378) (by decide +kernel)) rfl
set_option maxRecDepth 20000 in
theorem q_395 : Cond.fieldLink RX10 9 "EyeTrainer$Tray" "numbers" "[J" ∈ lw_gd := mem_gd (List.mem_of_getElem? (i := 395) (by decide +kernel)) rfl
set_option maxRecDepth 20000 in
theorem q_397 : Cond.fieldLink RX10 19 "EyeTrainer$Tray" "sort" "I" ∈ lw_gd := mem_gd (List.mem_of_getElem? (i := 397) (by decide +kernel)) rfl
set_option maxRecDepth 20000 in
theorem q_398 : Cond.fieldLink RX10 15 "EyeTrainer$Tray" "size" "I" ∈ lw_gd := mem_gd (List.mem_of_getElem? (i := 398) (by decide +kernel)) rfl
set_option maxRecDepth 20000 in
theorem q_757 : Cond.code yX8_clear cX8_clear 1 none ∈ lw_gd := mem_gd (List.mem_of_getElem? (i := 757) (by decide +kernel)) rfl
set_option maxRecDepth 20000 in
theorem q_758 : Cond.methodLink RX8 19 yJ7_fill_53178 ∈ lw_gd := mem_gd (List.mem_of_getElem? (i := 758) (by decide +kernel)) rfl
set_option maxRecDepth 20000 in
theorem q_852 : Cond.code yX8_copy cX8_copy 3 none ∈ lw_gd := mem_gd (List.mem_of_getElem? (i := 852) (by decide +kernel)) rfl
set_option maxRecDepth 20000 in
theorem q_957 : Cond.code yX10_isMissing cX10_isMissing 1 (some .boolean) ∈ lw_gd := mem_gd (List.mem_of_getElem? (i := 957) (by decide +kernel)) rfl
set_option maxRecDepth 20000 in
theorem q_990 : Cond.fieldLink RX1 9 "EyeTrainer$Draws" "x" "I" ∈ lw_gd := mem_gd (List.mem_of_getElem? (i := 990) (by decide +kernel)) rfl
set_option maxRecDepth 20000 in
theorem q_997 : Cond.code yX1_nextDeed cX1_nextDeed 3 (some .int) ∈ lw_gd := mem_gd (List.mem_of_getElem? (i := 997) (by decide +kernel)) rfl
set_option maxRecDepth 20000 in
theorem q_998 : Cond.methodLink RX1 16 yX1_draw ∈ lw_gd := mem_gd (List.mem_of_getElem? (i := 998) (by decide +kernel)) rfl
set_option maxRecDepth 20000 in
theorem q_1000 : Cond.instanceMethod yX1_draw ∈ lw_gd := mem_gd (List.mem_of_getElem? (i := 1000) (by decide +kernel)) rfl
set_option maxRecDepth 20000 in
theorem q_1001 : Cond.code yX1_draw cX1_draw 1 (some .int) ∈ lw_gd := mem_gd (List.mem_of_getElem? (i := 1001) (by decide +kernel)) rfl
set_option maxRecDepth 20000 in
theorem q_1002 : Cond.constant RX1 15 (1103515245) ∈ lw_gd := mem_gd (List.mem_of_getElem? (i := 1002) (by decide +kernel)) rfl
set_option maxRecDepth 20000 in
theorem q_1126 : Cond.static yJ7_fill_d0a16 ∈ lw_gd := mem_gd (List.mem_of_getElem? (i := 1126) (by decide +kernel)) rfl
set_option maxRecDepth 20000 in
theorem q_1188 : Cond.code yX10_hold cX10_hold 3 none ∈ lw_gd := mem_gd (List.mem_of_getElem? (i := 1188) (by decide +kernel)) rfl
set_option maxRecDepth 20000 in
theorem q_1189 : Cond.methodLink RX10 22 yJ7_fill_d0a16 ∈ lw_gd := mem_gd (List.mem_of_getElem? (i := 1189) (by decide +kernel)) rfl
set_option maxRecDepth 20000 in
theorem q_1199 : Cond.code yX10_put cX10_put 4 none ∈ lw_gd := mem_gd (List.mem_of_getElem? (i := 1199) (by decide +kernel)) rfl
theorem dX8_clear_0 : decode cX8_clear 0 = .ok (.aload_n 0, 1) := by decide +kernel
theorem dX8_clear_1 : decode cX8_clear 1 = .ok (.getfield 9, 3) := by decide +kernel
theorem dX8_clear_4 : decode cX8_clear 4 = .ok (.iconst 0, 1) := by decide +kernel
theorem dX8_clear_5 : decode cX8_clear 5 = .ok (.invokestatic 19, 3) := by decide +kernel
theorem dX8_clear_8 : decode cX8_clear 8 = .ok (.aload_n 0, 1) := by decide +kernel
theorem dX8_clear_9 : decode cX8_clear 9 = .ok (.iconst 0, 1) := by decide +kernel
theorem dX8_clear_10 : decode cX8_clear 10 = .ok (.putfield 25, 3) := by decide +kernel
theorem dX8_clear_13 : decode cX8_clear 13 = .ok (.aload_n 0, 1) := by decide +kernel
theorem dX8_clear_14 : decode cX8_clear 14 = .ok (.iconst (-1), 1) := by decide +kernel
theorem dX8_clear_15 : decode cX8_clear 15 = .ok (.putfield 15, 3) := by decide +kernel
theorem dX8_clear_18 : decode cX8_clear 18 = .ok (.return_, 1) := by decide +kernel
theorem wX8_clear : Mw yX8_clear cX8_clear 1 none 0 := ⟨q_757, q_127, by decide, ⟨by decide +kernel, by decide +kernel⟩, by decide +kernel, by decide +kernel⟩
/-- EyeTrainer$Stand.clear()V -/
def fX8_clear (T : Sh) (M : Me) (x0 : Nat) : Option (Unit × Me) :=
  gd (kd T x0 = 7) <| Option.bind (gR M x0 0) fun a2 => Option.bind (fJ7_fill_53178 T M a2 (0 : Int32)) <| un2 fun _u M3 => lt (pI M3 x0 1 (0 : Int32)) fun M4 => lt (pI M4 x0 2 (-1 : Int32)) fun M5 => some ((), M5)
set_option maxHeartbeats 4000000 in
theorem kX8_clear {l : Launch} {B : Bx} {d : Nat} (hd : 1 ≤ d) {T : Sh} {M : Me} {x0 : Nat} {M' : Me} (h : fX8_clear T M x0 = some ((), M')) : Kt l B yX8_clear cX8_clear 1 none d [.ref (x0)] T M none T M' := by
  refine kt_of wX8_clear (Nat.le_refl _) (Nat.le_refl _) (Nat.le_of_ble_eq_true rfl) (fun X C hR hlx hin => ?_)
  subst hlx
  replace C : Cx X B cX8_clear 1 RX8 d (tp T, sl T, tp T, sl T) := C
  unfold fX8_clear at h
  show G X B 1 _ _ 0 [(0, .ref (x0))] [] T M
  refine g_aload_n (pc := 0) C dX8_clear_0 rfl 0 rfl ?_
  replace h := gd_some h; obtain ⟨hk1, h⟩ := h
  refine g_get (pc := 1) (v := va_rf (gR M x0 0)) C dX8_clear_1 kX8 hk1 0 (by decide) q_374 rfl ?_
  replace h := bnd h; obtain ⟨a2, ea2, h⟩ := h
  refine g_refq ea2 ?_
  refine g_iconst (pc := 4) (v := 0) C dX8_clear_4 (by decide) ?_
  replace h := bnd2 h; obtain ⟨_u, M3, h1, h⟩ := h
  refine g_callSv (pc := 5) (As := [.ref (a2), .int ((0 : Int32))]) (st := []) C dX8_clear_5 wJ7_fill_53178 q_285 q_758 (by omega) rfl (Nat.le_of_ble_eq_true rfl) (kJ7_fill_53178 (d := 0) (Nat.le_refl _) h1) ?_
  refine g_aload_n (pc := 8) C dX8_clear_8 rfl 0 rfl ?_
  refine g_iconst (pc := 9) (v := 0) C dX8_clear_9 (by decide) ?_
  refine g_putI (pc := 10) C dX8_clear_10 kX8 hk1 1 (by decide) rfl rfl rfl q_376 ?_
  refine g_mem (fun M4 eM4 => ?_)
  replace h := lt_at eM4 h
  refine g_aload_n (pc := 13) C dX8_clear_13 rfl 0 rfl ?_
  refine g_iconst (pc := 14) (v := (-1)) C dX8_clear_14 (by decide) ?_
  refine g_putI (pc := 15) C dX8_clear_15 kX8 hk1 2 (by decide) rfl rfl rfl q_378 ?_
  refine g_mem (fun M5 eM5 => ?_)
  replace h := lt_at eM5 h
  obtain ⟨-, rfl⟩ := Prod.mk.inj (Option.some.inj h)
  exact g_vret C hR dX8_clear_18
theorem dX8_copy_0 : decode cX8_copy 0 = .ok (.iconst 0, 1) := by decide +kernel
theorem dX8_copy_1 : decode cX8_copy 1 = .ok (.istore_n 2, 1) := by decide +kernel
theorem dX8_copy_2 : decode cX8_copy 2 = .ok (.iload_n 2, 1) := by decide +kernel
theorem dX8_copy_3 : decode cX8_copy 3 = .ok (.bipush 6, 2) := by decide +kernel
theorem dX8_copy_5 : decode cX8_copy 5 = .ok (.if_icmp .ge 21, 3) := by decide +kernel
theorem dX8_copy_8 : decode cX8_copy 8 = .ok (.aload_n 0, 1) := by decide +kernel
theorem dX8_copy_9 : decode cX8_copy 9 = .ok (.getfield 9, 3) := by decide +kernel
theorem dX8_copy_12 : decode cX8_copy 12 = .ok (.iload_n 2, 1) := by decide +kernel
theorem dX8_copy_13 : decode cX8_copy 13 = .ok (.aload_n 1, 1) := by decide +kernel
theorem dX8_copy_14 : decode cX8_copy 14 = .ok (.getfield 9, 3) := by decide +kernel
theorem dX8_copy_17 : decode cX8_copy 17 = .ok (.iload_n 2, 1) := by decide +kernel
theorem dX8_copy_18 : decode cX8_copy 18 = .ok (.iaload, 1) := by decide +kernel
theorem dX8_copy_19 : decode cX8_copy 19 = .ok (.iastore, 1) := by decide +kernel
theorem dX8_copy_20 : decode cX8_copy 20 = .ok (.iinc 2 1, 3) := by decide +kernel
theorem dX8_copy_23 : decode cX8_copy 23 = .ok (.goto (-21), 3) := by decide +kernel
theorem dX8_copy_26 : decode cX8_copy 26 = .ok (.aload_n 0, 1) := by decide +kernel
theorem dX8_copy_27 : decode cX8_copy 27 = .ok (.aload_n 1, 1) := by decide +kernel
theorem dX8_copy_28 : decode cX8_copy 28 = .ok (.getfield 25, 3) := by decide +kernel
theorem dX8_copy_31 : decode cX8_copy 31 = .ok (.putfield 25, 3) := by decide +kernel
theorem dX8_copy_34 : decode cX8_copy 34 = .ok (.aload_n 0, 1) := by decide +kernel
theorem dX8_copy_35 : decode cX8_copy 35 = .ok (.aload_n 1, 1) := by decide +kernel
theorem dX8_copy_36 : decode cX8_copy 36 = .ok (.getfield 15, 3) := by decide +kernel
theorem dX8_copy_39 : decode cX8_copy 39 = .ok (.putfield 15, 3) := by decide +kernel
theorem dX8_copy_42 : decode cX8_copy 42 = .ok (.return_, 1) := by decide +kernel
theorem wX8_copy : Mw yX8_copy cX8_copy 3 none 1 := ⟨q_852, q_127, by decide, ⟨by decide +kernel, by decide +kernel⟩, by decide +kernel, by decide +kernel⟩
-- a loop of EyeTrainer$Stand.copy at 2
def bX8_copy_2 (T : Sh) (x0 : Nat) (x1 : Nat) (x2 : Int32) (M : Me) : Option ((Int32 × Me) ⊕ (Me)) :=
  if (6 : Int32) ≤ x2 then (some (.inr M)) else (gd (kd T x0 = 7) <| Option.bind (gR M x0 0) fun a3 => gd (kd T x1 = 7) <| Option.bind (gR M x1 0) fun a5 => gd (kd T a5 = 13) <| gv x2 (ln T a5) <| gd (kd T a3 = 13) <| gv x2 (ln T a3) <| lt (pI M a3 (Int32.toNatClampNeg x2) (gI M a5 (Int32.toNatClampNeg x2))) fun M10 => lt (x2 + (1 : Int32)) fun v11 => some (.inl (v11, M10)))
def PX8_copy_2 (X : Fx) (B : Bx) (Z : Nat × Nat × Nat × Nat) (Q : State → Prop) (T : Sh) (x0 : Nat) (x1 : Nat) (s : Int32 × Me) : Prop := G X B 3 Z Q 2 [(0, .ref (x0)), (1, .ref (x1)), (2, .int (s.1))] [] T s.2
def EX8_copy_2 (X : Fx) (B : Bx) (Z : Nat × Nat × Nat × Nat) (Q : State → Prop) (T : Sh) (x0 : Nat) (x1 : Nat) (r : Me) : Prop := G X B 3 Z Q 26 [(0, .ref (x0)), (1, .ref (x1))] [] T r
set_option maxHeartbeats 4000000 in
theorem tbX8_copy_2 {X : Fx} {B : Bx} {Z : Nat × Nat × Nat × Nat} {Q : State → Prop} {d : Nat} {T : Sh} (C : Cx X B cX8_copy 3 RX8 d Z) (hd : 0 ≤ d) {x0 : Nat} {x1 : Nat} : ∀ (s : Int32 × Me) (o : (Int32 × Me) ⊕ (Me)), bX8_copy_2 T x0 x1 s.1 s.2 = some o → lpE (PX8_copy_2 X B Z Q T x0 x1) (EX8_copy_2 X B Z Q T x0 x1) o → PX8_copy_2 X B Z Q T x0 x1 s := by
  rintro ⟨x2, M⟩ o h hE
  replace h : bX8_copy_2 T x0 x1 x2 M = some o := h
  unfold bX8_copy_2 at h
  show G X B 3 Z Q 2 [(0, .ref (x0)), (1, .ref (x1)), (2, .int (x2))] [] T M
  refine g_iload_n (pc := 2) C dX8_copy_2 rfl 2 rfl ?_
  refine g_bipush (pc := 3) (v := 6) C dX8_copy_3 (by decide) ?_
  refine g_icmp_ge (pc := 5) (tgt := 26) C dX8_copy_5 (by decide) (fun c1 => ?_) (fun c1 => ?_)
  · replace h := ifp c1 h
    obtain rfl := Option.some.inj h
    exact g_sub [0, 1] rfl (show G X B 3 Z Q 26 [(0, .ref (x0)), (1, .ref (x1))] [] T M from hE)
  · replace h := ifn c1 h
    refine g_aload_n (pc := 8) C dX8_copy_8 rfl 0 rfl ?_
    replace h := gd_some h; obtain ⟨hk2, h⟩ := h
    refine g_get (pc := 9) (v := va_rf (gR M x0 0)) C dX8_copy_9 kX8 hk2 0 (by decide) q_374 rfl ?_
    replace h := bnd h; obtain ⟨a3, ea3, h⟩ := h
    refine g_refq ea3 ?_
    refine g_iload_n (pc := 12) C dX8_copy_12 rfl 2 rfl ?_
    refine g_aload_n (pc := 13) C dX8_copy_13 rfl 1 rfl ?_
    replace h := gd_some h; obtain ⟨hk4, h⟩ := h
    refine g_get (pc := 14) (v := va_rf (gR M x1 0)) C dX8_copy_14 kX8 hk4 0 (by decide) q_374 rfl ?_
    replace h := bnd h; obtain ⟨a5, ea5, h⟩ := h
    refine g_refq ea5 ?_
    refine g_iload_n (pc := 17) C dX8_copy_17 rfl 2 rfl ?_
    replace h := gd_some h; obtain ⟨hk6, h⟩ := h
    replace h := gv_some h; obtain ⟨hi7, h⟩ := h
    refine g_iald (pc := 18) C dX8_copy_18 hk6 hi7 ?_
    replace h := gd_some h; obtain ⟨hk8, h⟩ := h
    replace h := gv_some h; obtain ⟨hi9, h⟩ := h
    refine g_iast (pc := 19) C dX8_copy_19 hk8 hi9 ?_
    refine g_mem (fun M10 eM10 => ?_)
    replace h := lt_at eM10 h
    obtain ⟨v11, ev11⟩ : ∃ y : Int32, y = x2 + (1 : Int32) := ⟨_, rfl⟩
    replace h := lt_at ev11 h
    refine g_iinc (pc := 20) (v := v11) (k := 2) (lo2 := [(2, .int (v11)), (0, .ref (x0)), (1, .ref (x1))]) C dX8_copy_20 rfl (by rw [ev11]; rfl) (by decide) rfl ?_
    refine g_goto (pc := 23) (tgt := 2) C dX8_copy_23 (by decide) ?_
    obtain rfl := Option.some.inj h
    exact g_sub [1, 2, 0] rfl (show G X B 3 Z Q 2 [(0, .ref (x0)), (1, .ref (x1)), (2, .int (v11))] [] T M10 from hE)
/-- EyeTrainer$Stand.copy(LEyeTrainer$Stand;)V -/
def fX8_copy (T : Sh) (M : Me) (x0 : Nat) (x1 : Nat) : Option (Unit × Me) :=
  (lp FU (fun s => bX8_copy_2 T x0 x1 s.1 s.2) ((0 : Int32), M)).bind (fun M12 => gd (kd T x1 = 7) <| gd (kd T x0 = 7) <| lt (pI M12 x0 1 (gI M12 x1 1)) fun M15 => lt (pI M15 x0 2 (gI M15 x1 2)) fun M16 => some ((), M16))
set_option maxHeartbeats 4000000 in
theorem kX8_copy {l : Launch} {B : Bx} {d : Nat} (hd : 0 ≤ d) {T : Sh} {M : Me} {x0 : Nat} {x1 : Nat} {M' : Me} (h : fX8_copy T M x0 x1 = some ((), M')) : Kt l B yX8_copy cX8_copy 3 none d [.ref (x0), .ref (x1)] T M none T M' := by
  refine kt_of wX8_copy (Nat.le_refl _) (Nat.le_refl _) (Nat.le_of_ble_eq_true rfl) (fun X C hR hlx hin => ?_)
  subst hlx
  replace C : Cx X B cX8_copy 3 RX8 d (tp T, sl T, tp T, sl T) := C
  unfold fX8_copy at h
  show G X B 3 _ _ 0 [(0, .ref (x0)), (1, .ref (x1))] [] T M
  refine g_iconst (pc := 0) (v := 0) C dX8_copy_0 (by decide) ?_
  refine g_istore_n (pc := 1) (lo2 := [(2, .int ((0 : Int32))), (0, .ref (x0)), (1, .ref (x1))]) C dX8_copy_1 rfl (by decide) rfl ?_
  replace h := bnd h; obtain ⟨M12, h1, h⟩ := h
  refine g_sub [1, 2, 0] rfl ?_
  refine lp_G2 (P := PX8_copy_2 X B _ _ T x0 x1) (E := EX8_copy_2 X B _ _ T x0 x1) (tbX8_copy_2 C hd) h1 ?_
  show G X B 3 _ _ 26 [(0, .ref (x0)), (1, .ref (x1))] [] T M12
  refine g_aload_n (pc := 26) C dX8_copy_26 rfl 0 rfl ?_
  refine g_aload_n (pc := 27) C dX8_copy_27 rfl 1 rfl ?_
  replace h := gd_some h; obtain ⟨hk13, h⟩ := h
  refine g_get (pc := 28) (v := .int (gI M12 x1 1)) C dX8_copy_28 kX8 hk13 1 (by decide) q_376 rfl ?_
  replace h := gd_some h; obtain ⟨hk14, h⟩ := h
  refine g_putI (pc := 31) C dX8_copy_31 kX8 hk14 1 (by decide) rfl rfl rfl q_376 ?_
  refine g_mem (fun M15 eM15 => ?_)
  replace h := lt_at eM15 h
  refine g_aload_n (pc := 34) C dX8_copy_34 rfl 0 rfl ?_
  refine g_aload_n (pc := 35) C dX8_copy_35 rfl 1 rfl ?_
  refine g_get (pc := 36) (v := .int (gI M15 x1 2)) C dX8_copy_36 kX8 hk13 2 (by decide) q_378 rfl ?_
  refine g_putI (pc := 39) C dX8_copy_39 kX8 hk14 2 (by decide) rfl rfl rfl q_378 ?_
  refine g_mem (fun M16 eM16 => ?_)
  replace h := lt_at eM16 h
  obtain ⟨-, rfl⟩ := Prod.mk.inj (Option.some.inj h)
  exact g_vret C hR dX8_copy_42
theorem dX10_isMissing_0 : decode cX10_isMissing 0 = .ok (.aload_n 0, 1) := by decide +kernel
theorem dX10_isMissing_1 : decode cX10_isMissing 1 = .ok (.getfield 15, 3) := by decide +kernel
theorem dX10_isMissing_4 : decode cX10_isMissing 4 = .ok (.iconst (-1), 1) := by decide +kernel
theorem dX10_isMissing_5 : decode cX10_isMissing 5 = .ok (.if_icmp .ne 7, 3) := by decide +kernel
theorem dX10_isMissing_8 : decode cX10_isMissing 8 = .ok (.iconst 1, 1) := by decide +kernel
theorem dX10_isMissing_9 : decode cX10_isMissing 9 = .ok (.goto 4, 3) := by decide +kernel
theorem dX10_isMissing_12 : decode cX10_isMissing 12 = .ok (.iconst 0, 1) := by decide +kernel
theorem dX10_isMissing_13 : decode cX10_isMissing 13 = .ok (.ireturn, 1) := by decide +kernel
theorem wX10_isMissing : Mw yX10_isMissing cX10_isMissing 1 (some .boolean) 0 := ⟨q_957, q_128, by decide, ⟨by decide +kernel, by decide +kernel⟩, by decide +kernel, by decide +kernel⟩
/-- EyeTrainer$Tray.isMissing()Z -/
def fX10_isMissing (T : Sh) (M : Me) (x0 : Nat) : Option (Int32) :=
  gd (kd T x0 = 9) <| if (gI M x0 2) = (-1 : Int32) then (some (1 : Int32)) else (some (0 : Int32))
set_option maxHeartbeats 4000000 in
theorem kX10_isMissing {l : Launch} {B : Bx} {d : Nat} (hd : 0 ≤ d) {T : Sh} {M : Me} {x0 : Nat} {r : Int32} (h : fX10_isMissing T M x0 = some r) : Kt l B yX10_isMissing cX10_isMissing 1 (some .boolean) d [.ref (x0)] T M (some (.int r)) T M := by
  refine kt_of wX10_isMissing (Nat.le_refl _) (Nat.le_refl _) (Nat.le_of_ble_eq_true rfl) (fun X C hR hlx hin => ?_)
  subst hlx
  replace C : Cx X B cX10_isMissing 1 RX10 d (tp T, sl T, tp T, sl T) := C
  unfold fX10_isMissing at h
  show G X B 1 _ _ 0 [(0, .ref (x0))] [] T M
  refine g_aload_n (pc := 0) C dX10_isMissing_0 rfl 0 rfl ?_
  replace h := gd_some h; obtain ⟨hk1, h⟩ := h
  refine g_get (pc := 1) (v := .int (gI M x0 2)) C dX10_isMissing_1 kX10 hk1 2 (by decide) q_398 rfl ?_
  refine g_iconst (pc := 4) (v := (-1)) C dX10_isMissing_4 (by decide) ?_
  refine g_icmp_ne (pc := 5) (tgt := 12) C dX10_isMissing_5 (by decide) (fun c2 => ?_) (fun c2 => ?_)
  · replace h := ifn c2 h
    refine g_iconst (pc := 12) (v := 0) C dX10_isMissing_12 (by decide) ?_
    obtain rfl := Option.some.inj h
    exact g_zret C hR dX10_isMissing_13 rfl
  · replace h := ifp c2 h
    refine g_iconst (pc := 8) (v := 1) C dX10_isMissing_8 (by decide) ?_
    refine g_goto (pc := 9) (tgt := 13) C dX10_isMissing_9 (by decide) ?_
    obtain rfl := Option.some.inj h
    exact g_zret C hR dX10_isMissing_13 rfl
theorem dX10_hold_0 : decode cX10_hold 0 = .ok (.aload_n 0, 1) := by decide +kernel
theorem dX10_hold_1 : decode cX10_hold 1 = .ok (.iload_n 1, 1) := by decide +kernel
theorem dX10_hold_2 : decode cX10_hold 2 = .ok (.putfield 19, 3) := by decide +kernel
theorem dX10_hold_5 : decode cX10_hold 5 = .ok (.aload_n 0, 1) := by decide +kernel
theorem dX10_hold_6 : decode cX10_hold 6 = .ok (.iload_n 2, 1) := by decide +kernel
theorem dX10_hold_7 : decode cX10_hold 7 = .ok (.putfield 15, 3) := by decide +kernel
theorem dX10_hold_10 : decode cX10_hold 10 = .ok (.aload_n 0, 1) := by decide +kernel
theorem dX10_hold_11 : decode cX10_hold 11 = .ok (.getfield 9, 3) := by decide +kernel
theorem dX10_hold_14 : decode cX10_hold 14 = .ok (.lconst 0, 1) := by decide +kernel
theorem dX10_hold_15 : decode cX10_hold 15 = .ok (.invokestatic 22, 3) := by decide +kernel
theorem dX10_hold_18 : decode cX10_hold 18 = .ok (.return_, 1) := by decide +kernel
theorem wX10_hold : Mw yX10_hold cX10_hold 3 none 2 := ⟨q_1188, q_128, by decide, ⟨by decide +kernel, by decide +kernel⟩, by decide +kernel, by decide +kernel⟩
/-- EyeTrainer$Tray.hold(II)V -/
def fX10_hold (T : Sh) (M : Me) (x0 : Nat) (x1 : Int32) (x2 : Int32) : Option (Unit × Me) :=
  gd (kd T x0 = 9) <| lt (pI M x0 1 x1) fun M2 => lt (pI M2 x0 2 x2) fun M3 => Option.bind (gR M3 x0 0) fun a4 => Option.bind (fJ7_fill_d0a16 T M3 a4 (0 : Int64)) <| un2 fun _u M5 => some ((), M5)
set_option maxHeartbeats 4000000 in
theorem kX10_hold {l : Launch} {B : Bx} {d : Nat} (hd : 1 ≤ d) {T : Sh} {M : Me} {x0 : Nat} {x1 : Int32} {x2 : Int32} {M' : Me} (h : fX10_hold T M x0 x1 x2 = some ((), M')) : Kt l B yX10_hold cX10_hold 3 none d [.ref (x0), .int (x1), .int (x2)] T M none T M' := by
  refine kt_of wX10_hold (Nat.le_refl _) (Nat.le_refl _) (Nat.le_of_ble_eq_true rfl) (fun X C hR hlx hin => ?_)
  subst hlx
  replace C : Cx X B cX10_hold 3 RX10 d (tp T, sl T, tp T, sl T) := C
  unfold fX10_hold at h
  show G X B 3 _ _ 0 [(0, .ref (x0)), (1, .int (x1)), (2, .int (x2))] [] T M
  refine g_aload_n (pc := 0) C dX10_hold_0 rfl 0 rfl ?_
  refine g_iload_n (pc := 1) C dX10_hold_1 rfl 1 rfl ?_
  replace h := gd_some h; obtain ⟨hk1, h⟩ := h
  refine g_putI (pc := 2) C dX10_hold_2 kX10 hk1 1 (by decide) rfl rfl rfl q_397 ?_
  refine g_mem (fun M2 eM2 => ?_)
  replace h := lt_at eM2 h
  refine g_aload_n (pc := 5) C dX10_hold_5 rfl 0 rfl ?_
  refine g_iload_n (pc := 6) C dX10_hold_6 rfl 2 rfl ?_
  refine g_putI (pc := 7) C dX10_hold_7 kX10 hk1 2 (by decide) rfl rfl rfl q_398 ?_
  refine g_mem (fun M3 eM3 => ?_)
  replace h := lt_at eM3 h
  refine g_aload_n (pc := 10) C dX10_hold_10 rfl 0 rfl ?_
  refine g_get (pc := 11) (v := va_rf (gR M3 x0 0)) C dX10_hold_11 kX10 hk1 0 (by decide) q_395 rfl ?_
  replace h := bnd h; obtain ⟨a4, ea4, h⟩ := h
  refine g_refq ea4 ?_
  refine g_lconst (pc := 14) (v := 0) C dX10_hold_14 rfl ?_
  replace h := bnd2 h; obtain ⟨_u, M5, h1, h⟩ := h
  refine g_callSv (pc := 15) (As := [.ref (a4), .long ((0 : Int64))]) (st := []) C dX10_hold_15 wJ7_fill_d0a16 q_1126 q_1189 (by omega) rfl (Nat.le_of_ble_eq_true rfl) (kJ7_fill_d0a16 (d := 0) (Nat.le_refl _) h1) ?_
  obtain ⟨-, rfl⟩ := Prod.mk.inj (Option.some.inj h)
  exact g_vret C hR dX10_hold_18
theorem dX10_put_0 : decode cX10_put 0 = .ok (.aload_n 0, 1) := by decide +kernel
theorem dX10_put_1 : decode cX10_put 1 = .ok (.getfield 19, 3) := by decide +kernel
theorem dX10_put_4 : decode cX10_put 4 = .ok (.tableswitch 66 0 2 #[28, 41, 54], 28) := by decide +kernel
theorem dX10_put_32 : decode cX10_put 32 = .ok (.aload_n 0, 1) := by decide +kernel
theorem dX10_put_33 : decode cX10_put 33 = .ok (.getfield 9, 3) := by decide +kernel
theorem dX10_put_36 : decode cX10_put 36 = .ok (.iload_n 1, 1) := by decide +kernel
theorem dX10_put_37 : decode cX10_put 37 = .ok (.lload_n 2, 1) := by decide +kernel
theorem dX10_put_38 : decode cX10_put 38 = .ok (.l2i, 1) := by decide +kernel
theorem dX10_put_39 : decode cX10_put 39 = .ok (.i2b, 1) := by decide +kernel
theorem dX10_put_40 : decode cX10_put 40 = .ok (.i2l, 1) := by decide +kernel
theorem dX10_put_41 : decode cX10_put 41 = .ok (.lastore, 1) := by decide +kernel
theorem dX10_put_42 : decode cX10_put 42 = .ok (.goto 35, 3) := by decide +kernel
theorem dX10_put_45 : decode cX10_put 45 = .ok (.aload_n 0, 1) := by decide +kernel
theorem dX10_put_46 : decode cX10_put 46 = .ok (.getfield 9, 3) := by decide +kernel
theorem dX10_put_49 : decode cX10_put 49 = .ok (.iload_n 1, 1) := by decide +kernel
theorem dX10_put_50 : decode cX10_put 50 = .ok (.lload_n 2, 1) := by decide +kernel
theorem dX10_put_51 : decode cX10_put 51 = .ok (.l2i, 1) := by decide +kernel
theorem dX10_put_52 : decode cX10_put 52 = .ok (.i2s, 1) := by decide +kernel
theorem dX10_put_53 : decode cX10_put 53 = .ok (.i2l, 1) := by decide +kernel
theorem dX10_put_54 : decode cX10_put 54 = .ok (.lastore, 1) := by decide +kernel
theorem dX10_put_55 : decode cX10_put 55 = .ok (.goto 22, 3) := by decide +kernel
theorem dX10_put_58 : decode cX10_put 58 = .ok (.aload_n 0, 1) := by decide +kernel
theorem dX10_put_59 : decode cX10_put 59 = .ok (.getfield 9, 3) := by decide +kernel
theorem dX10_put_62 : decode cX10_put 62 = .ok (.iload_n 1, 1) := by decide +kernel
theorem dX10_put_63 : decode cX10_put 63 = .ok (.lload_n 2, 1) := by decide +kernel
theorem dX10_put_64 : decode cX10_put 64 = .ok (.l2i, 1) := by decide +kernel
theorem dX10_put_65 : decode cX10_put 65 = .ok (.i2l, 1) := by decide +kernel
theorem dX10_put_66 : decode cX10_put 66 = .ok (.lastore, 1) := by decide +kernel
theorem dX10_put_67 : decode cX10_put 67 = .ok (.goto 10, 3) := by decide +kernel
theorem dX10_put_70 : decode cX10_put 70 = .ok (.aload_n 0, 1) := by decide +kernel
theorem dX10_put_71 : decode cX10_put 71 = .ok (.getfield 9, 3) := by decide +kernel
theorem dX10_put_74 : decode cX10_put 74 = .ok (.iload_n 1, 1) := by decide +kernel
theorem dX10_put_75 : decode cX10_put 75 = .ok (.lload_n 2, 1) := by decide +kernel
theorem dX10_put_76 : decode cX10_put 76 = .ok (.lastore, 1) := by decide +kernel
theorem dX10_put_77 : decode cX10_put 77 = .ok (.return_, 1) := by decide +kernel
theorem wX10_put : Mw yX10_put cX10_put 4 none 2 := ⟨q_1199, q_128, by decide, ⟨by decide +kernel, by decide +kernel⟩, by decide +kernel, by decide +kernel⟩
/-- EyeTrainer$Tray.put(IJ)V -/
def fX10_put (T : Sh) (M : Me) (x0 : Nat) (x1 : Int32) (x2 : Int64) : Option (Unit × Me) :=
  gd (kd T x0 = 9) <| lt (gI M x0 1) fun v2 => if v2 = (0 : Int32) then (Option.bind (gR M x0 0) fun a3 => gd (kd T a3 = 14) <| gv x1 (ln T a3) <| lt (pJ M a3 (Int32.toNatClampNeg x1) (Int32.toInt64 (Int8.toInt32 (Int32.toInt8 (Int64.toInt32 x2))))) fun M6 => some ((), M6)) else (if v2 = (1 : Int32) then (Option.bind (gR M x0 0) fun a7 => gd (kd T a7 = 14) <| gv x1 (ln T a7) <| lt (pJ M a7 (Int32.toNatClampNeg x1) (Int32.toInt64 (Int16.toInt32 (Int32.toInt16 (Int64.toInt32 x2))))) fun M10 => some ((), M10)) else (if v2 = (2 : Int32) then (Option.bind (gR M x0 0) fun a11 => gd (kd T a11 = 14) <| gv x1 (ln T a11) <| lt (pJ M a11 (Int32.toNatClampNeg x1) (Int32.toInt64 (Int64.toInt32 x2))) fun M14 => some ((), M14)) else (Option.bind (gR M x0 0) fun a15 => gd (kd T a15 = 14) <| gv x1 (ln T a15) <| lt (pJ M a15 (Int32.toNatClampNeg x1) x2) fun M18 => some ((), M18))))
set_option maxHeartbeats 4000000 in
theorem kX10_put {l : Launch} {B : Bx} {d : Nat} (hd : 0 ≤ d) {T : Sh} {M : Me} {x0 : Nat} {x1 : Int32} {x2 : Int64} {M' : Me} (h : fX10_put T M x0 x1 x2 = some ((), M')) : Kt l B yX10_put cX10_put 4 none d [.ref (x0), .int (x1), .long (x2)] T M none T M' := by
  refine kt_of wX10_put (Nat.le_refl _) (Nat.le_refl _) (Nat.le_of_ble_eq_true rfl) (fun X C hR hlx hin => ?_)
  subst hlx
  replace C : Cx X B cX10_put 4 RX10 d (tp T, sl T, tp T, sl T) := C
  unfold fX10_put at h
  show G X B 4 _ _ 0 [(0, .ref (x0)), (1, .int (x1)), (2, .long (x2))] [] T M
  refine g_aload_n (pc := 0) C dX10_put_0 rfl 0 rfl ?_
  replace h := gd_some h; obtain ⟨hk1, h⟩ := h
  refine g_get (pc := 1) (v := .int (gI M x0 1)) C dX10_put_1 kX10 hk1 1 (by decide) q_397 rfl ?_
  refine g_topi (fun v2 ev2 => ?_)
  replace h := lt_at ev2 h
  by_cases cw19_0 : v2 = (0 : Int32)
  · replace h := ifp cw19_0 h
    have hq : v2.toInt = 0 := by rw [cw19_0]; rfl
    refine g_tswIn (off := 28) (tgt := 32) C dX10_put_4 (by rw [hq]; decide) (by rw [hq]; decide) (by rw [hq]; rfl) (by decide) ?_
    refine g_aload_n (pc := 32) C dX10_put_32 rfl 0 rfl ?_
    refine g_get (pc := 33) (v := va_rf (gR M x0 0)) C dX10_put_33 kX10 hk1 0 (by decide) q_395 rfl ?_
    replace h := bnd h; obtain ⟨a3, ea3, h⟩ := h
    refine g_refq ea3 ?_
    refine g_iload_n (pc := 36) C dX10_put_36 rfl 1 rfl ?_
    refine g_lload_n (pc := 37) C dX10_put_37 rfl 2 rfl ?_
    refine g_l2i (pc := 38) C dX10_put_38 ?_
    refine g_i2b (pc := 39) C dX10_put_39 ?_
    refine g_i2l (pc := 40) C dX10_put_40 ?_
    replace h := gd_some h; obtain ⟨hk4, h⟩ := h
    replace h := gv_some h; obtain ⟨hi5, h⟩ := h
    refine g_last (pc := 41) C dX10_put_41 hk4 hi5 ?_
    refine g_mem (fun M6 eM6 => ?_)
    replace h := lt_at eM6 h
    refine g_goto (pc := 42) (tgt := 77) C dX10_put_42 (by decide) ?_
    obtain ⟨-, rfl⟩ := Prod.mk.inj (Option.some.inj h)
    exact g_vret C hR dX10_put_77
  · replace h := ifn cw19_0 h
    by_cases cw19_1 : v2 = (1 : Int32)
    · replace h := ifp cw19_1 h
      have hq : v2.toInt = 1 := by rw [cw19_1]; rfl
      refine g_tswIn (off := 41) (tgt := 45) C dX10_put_4 (by rw [hq]; decide) (by rw [hq]; decide) (by rw [hq]; rfl) (by decide) ?_
      refine g_aload_n (pc := 45) C dX10_put_45 rfl 0 rfl ?_
      refine g_get (pc := 46) (v := va_rf (gR M x0 0)) C dX10_put_46 kX10 hk1 0 (by decide) q_395 rfl ?_
      replace h := bnd h; obtain ⟨a7, ea7, h⟩ := h
      refine g_refq ea7 ?_
      refine g_iload_n (pc := 49) C dX10_put_49 rfl 1 rfl ?_
      refine g_lload_n (pc := 50) C dX10_put_50 rfl 2 rfl ?_
      refine g_l2i (pc := 51) C dX10_put_51 ?_
      refine g_i2s (pc := 52) C dX10_put_52 ?_
      refine g_i2l (pc := 53) C dX10_put_53 ?_
      replace h := gd_some h; obtain ⟨hk8, h⟩ := h
      replace h := gv_some h; obtain ⟨hi9, h⟩ := h
      refine g_last (pc := 54) C dX10_put_54 hk8 hi9 ?_
      refine g_mem (fun M10 eM10 => ?_)
      replace h := lt_at eM10 h
      refine g_goto (pc := 55) (tgt := 77) C dX10_put_55 (by decide) ?_
      obtain ⟨-, rfl⟩ := Prod.mk.inj (Option.some.inj h)
      exact g_vret C hR dX10_put_77
    · replace h := ifn cw19_1 h
      by_cases cw19_2 : v2 = (2 : Int32)
      · replace h := ifp cw19_2 h
        have hq : v2.toInt = 2 := by rw [cw19_2]; rfl
        refine g_tswIn (off := 54) (tgt := 58) C dX10_put_4 (by rw [hq]; decide) (by rw [hq]; decide) (by rw [hq]; rfl) (by decide) ?_
        refine g_aload_n (pc := 58) C dX10_put_58 rfl 0 rfl ?_
        refine g_get (pc := 59) (v := va_rf (gR M x0 0)) C dX10_put_59 kX10 hk1 0 (by decide) q_395 rfl ?_
        replace h := bnd h; obtain ⟨a11, ea11, h⟩ := h
        refine g_refq ea11 ?_
        refine g_iload_n (pc := 62) C dX10_put_62 rfl 1 rfl ?_
        refine g_lload_n (pc := 63) C dX10_put_63 rfl 2 rfl ?_
        refine g_l2i (pc := 64) C dX10_put_64 ?_
        refine g_i2l (pc := 65) C dX10_put_65 ?_
        replace h := gd_some h; obtain ⟨hk12, h⟩ := h
        replace h := gv_some h; obtain ⟨hi13, h⟩ := h
        refine g_last (pc := 66) C dX10_put_66 hk12 hi13 ?_
        refine g_mem (fun M14 eM14 => ?_)
        replace h := lt_at eM14 h
        refine g_goto (pc := 67) (tgt := 77) C dX10_put_67 (by decide) ?_
        obtain ⟨-, rfl⟩ := Prod.mk.inj (Option.some.inj h)
        exact g_vret C hR dX10_put_77
      · replace h := ifn cw19_2 h
        refine g_tswOut (tgt := 70) C dX10_put_4 (by
            have := sw_ne cw19_0 (i := 0) rfl
            have := sw_ne cw19_1 (i := 1) rfl
            have := sw_ne cw19_2 (i := 2) rfl
            omega) (by decide) ?_
        refine g_aload_n (pc := 70) C dX10_put_70 rfl 0 rfl ?_
        refine g_get (pc := 71) (v := va_rf (gR M x0 0)) C dX10_put_71 kX10 hk1 0 (by decide) q_395 rfl ?_
        replace h := bnd h; obtain ⟨a15, ea15, h⟩ := h
        refine g_refq ea15 ?_
        refine g_iload_n (pc := 74) C dX10_put_74 rfl 1 rfl ?_
        refine g_lload_n (pc := 75) C dX10_put_75 rfl 2 rfl ?_
        replace h := gd_some h; obtain ⟨hk16, h⟩ := h
        replace h := gv_some h; obtain ⟨hi17, h⟩ := h
        refine g_last (pc := 76) C dX10_put_76 hk16 hi17 ?_
        refine g_mem (fun M18 eM18 => ?_)
        replace h := lt_at eM18 h
        obtain ⟨-, rfl⟩ := Prod.mk.inj (Option.some.inj h)
        exact g_vret C hR dX10_put_77
theorem dX1_draw_0 : decode cX1_draw 0 = .ok (.aload_n 0, 1) := by decide +kernel
theorem dX1_draw_1 : decode cX1_draw 1 = .ok (.ldc 15, 2) := by decide +kernel
theorem dX1_draw_3 : decode cX1_draw 3 = .ok (.aload_n 0, 1) := by decide +kernel
theorem dX1_draw_4 : decode cX1_draw 4 = .ok (.getfield 9, 3) := by decide +kernel
theorem dX1_draw_7 : decode cX1_draw 7 = .ok (.imul, 1) := by decide +kernel
theorem dX1_draw_8 : decode cX1_draw 8 = .ok (.sipush 12345, 3) := by decide +kernel
theorem dX1_draw_11 : decode cX1_draw 11 = .ok (.iadd, 1) := by decide +kernel
theorem dX1_draw_12 : decode cX1_draw 12 = .ok (.putfield 9, 3) := by decide +kernel
theorem dX1_draw_15 : decode cX1_draw 15 = .ok (.aload_n 0, 1) := by decide +kernel
theorem dX1_draw_16 : decode cX1_draw 16 = .ok (.getfield 9, 3) := by decide +kernel
theorem dX1_draw_19 : decode cX1_draw 19 = .ok (.bipush 16, 2) := by decide +kernel
theorem dX1_draw_21 : decode cX1_draw 21 = .ok (.iushr, 1) := by decide +kernel
theorem dX1_draw_22 : decode cX1_draw 22 = .ok (.ireturn, 1) := by decide +kernel
theorem wX1_draw : Mw yX1_draw cX1_draw 1 (some .int) 0 := ⟨q_1001, q_141, by decide, ⟨by decide +kernel, by decide +kernel⟩, by decide +kernel, by decide +kernel⟩
/-- EyeTrainer$Draws.draw()I -/
def fX1_draw (T : Sh) (M : Me) (x0 : Nat) : Option (Int32 × Me) :=
  gd (kd T x0 = 0) <| lt (pI M x0 0 (((1103515245 : Int32) * (gI M x0 0)) + (12345 : Int32))) fun M2 => some (((Int32.toUInt32 (gI M2 x0 0) >>> (Int32.toUInt32 (16 : Int32) &&& Int32.toUInt32 31)).toInt32), M2)
set_option maxHeartbeats 4000000 in
theorem kX1_draw {l : Launch} {B : Bx} {d : Nat} (hd : 0 ≤ d) {T : Sh} {M : Me} {x0 : Nat} {r : Int32} {M' : Me} (h : fX1_draw T M x0 = some (r, M')) : Kt l B yX1_draw cX1_draw 1 (some .int) d [.ref (x0)] T M (some (.int r)) T M' := by
  refine kt_of wX1_draw (Nat.le_refl _) (Nat.le_refl _) (Nat.le_of_ble_eq_true rfl) (fun X C hR hlx hin => ?_)
  subst hlx
  replace C : Cx X B cX1_draw 1 RX1 d (tp T, sl T, tp T, sl T) := C
  unfold fX1_draw at h
  show G X B 1 _ _ 0 [(0, .ref (x0))] [] T M
  refine g_aload_n (pc := 0) C dX1_draw_0 rfl 0 rfl ?_
  refine g_ldc (pc := 1) C dX1_draw_1 q_1002 ?_
  refine g_aload_n (pc := 3) C dX1_draw_3 rfl 0 rfl ?_
  replace h := gd_some h; obtain ⟨hk1, h⟩ := h
  refine g_get (pc := 4) (v := .int (gI M x0 0)) C dX1_draw_4 kX1 hk1 0 (by decide) q_990 rfl ?_
  refine g_imul (pc := 7) C dX1_draw_7 ?_
  refine g_sipush (pc := 8) (v := 12345) C dX1_draw_8 (by decide) ?_
  refine g_iadd (pc := 11) C dX1_draw_11 ?_
  refine g_putI (pc := 12) C dX1_draw_12 kX1 hk1 0 (by decide) rfl rfl rfl q_990 ?_
  refine g_mem (fun M2 eM2 => ?_)
  replace h := lt_at eM2 h
  refine g_aload_n (pc := 15) C dX1_draw_15 rfl 0 rfl ?_
  refine g_get (pc := 16) (v := .int (gI M2 x0 0)) C dX1_draw_16 kX1 hk1 0 (by decide) q_990 rfl ?_
  refine g_bipush (pc := 19) (v := 16) C dX1_draw_19 (by decide) ?_
  refine g_iushr (pc := 21) C dX1_draw_21 ?_
  obtain ⟨rfl, rfl⟩ := Prod.mk.inj (Option.some.inj h)
  exact g_iret C hR dX1_draw_22
theorem dX1_nextDeed_0 : decode cX1_nextDeed 0 = .ok (.aload_n 0, 1) := by decide +kernel
theorem dX1_nextDeed_1 : decode cX1_nextDeed 1 = .ok (.invokevirtual 16, 3) := by decide +kernel
theorem dX1_nextDeed_4 : decode cX1_nextDeed 4 = .ok (.bipush 6, 2) := by decide +kernel
theorem dX1_nextDeed_6 : decode cX1_nextDeed 6 = .ok (.irem, 1) := by decide +kernel
theorem dX1_nextDeed_7 : decode cX1_nextDeed 7 = .ok (.tableswitch 70 0 4 #[33, 35, 35, 37, 47], 33) := by decide +kernel
theorem dX1_nextDeed_40 : decode cX1_nextDeed 40 = .ok (.iconst 0, 1) := by decide +kernel
theorem dX1_nextDeed_41 : decode cX1_nextDeed 41 = .ok (.ireturn, 1) := by decide +kernel
theorem dX1_nextDeed_42 : decode cX1_nextDeed 42 = .ok (.iconst 1, 1) := by decide +kernel
theorem dX1_nextDeed_43 : decode cX1_nextDeed 43 = .ok (.ireturn, 1) := by decide +kernel
theorem dX1_nextDeed_44 : decode cX1_nextDeed 44 = .ok (.bipush 10, 2) := by decide +kernel
theorem dX1_nextDeed_46 : decode cX1_nextDeed 46 = .ok (.aload_n 0, 1) := by decide +kernel
theorem dX1_nextDeed_47 : decode cX1_nextDeed 47 = .ok (.invokevirtual 16, 3) := by decide +kernel
theorem dX1_nextDeed_50 : decode cX1_nextDeed 50 = .ok (.iconst 5, 1) := by decide +kernel
theorem dX1_nextDeed_51 : decode cX1_nextDeed 51 = .ok (.irem, 1) := by decide +kernel
theorem dX1_nextDeed_52 : decode cX1_nextDeed 52 = .ok (.iadd, 1) := by decide +kernel
theorem dX1_nextDeed_53 : decode cX1_nextDeed 53 = .ok (.ireturn, 1) := by decide +kernel
theorem dX1_nextDeed_54 : decode cX1_nextDeed 54 = .ok (.bipush 100, 2) := by decide +kernel
theorem dX1_nextDeed_56 : decode cX1_nextDeed 56 = .ok (.bipush 10, 2) := by decide +kernel
theorem dX1_nextDeed_58 : decode cX1_nextDeed 58 = .ok (.aload_n 0, 1) := by decide +kernel
theorem dX1_nextDeed_59 : decode cX1_nextDeed 59 = .ok (.invokevirtual 16, 3) := by decide +kernel
theorem dX1_nextDeed_62 : decode cX1_nextDeed 62 = .ok (.bipush 6, 2) := by decide +kernel
theorem dX1_nextDeed_64 : decode cX1_nextDeed 64 = .ok (.irem, 1) := by decide +kernel
theorem dX1_nextDeed_65 : decode cX1_nextDeed 65 = .ok (.imul, 1) := by decide +kernel
theorem dX1_nextDeed_66 : decode cX1_nextDeed 66 = .ok (.iadd, 1) := by decide +kernel
theorem dX1_nextDeed_67 : decode cX1_nextDeed 67 = .ok (.istore_n 1, 1) := by decide +kernel
theorem dX1_nextDeed_68 : decode cX1_nextDeed 68 = .ok (.iload_n 1, 1) := by decide +kernel
theorem dX1_nextDeed_69 : decode cX1_nextDeed 69 = .ok (.aload_n 0, 1) := by decide +kernel
theorem dX1_nextDeed_70 : decode cX1_nextDeed 70 = .ok (.invokevirtual 16, 3) := by decide +kernel
theorem dX1_nextDeed_73 : decode cX1_nextDeed 73 = .ok (.iconst 3, 1) := by decide +kernel
theorem dX1_nextDeed_74 : decode cX1_nextDeed 74 = .ok (.irem, 1) := by decide +kernel
theorem dX1_nextDeed_75 : decode cX1_nextDeed 75 = .ok (.iadd, 1) := by decide +kernel
theorem dX1_nextDeed_76 : decode cX1_nextDeed 76 = .ok (.ireturn, 1) := by decide +kernel
theorem dX1_nextDeed_77 : decode cX1_nextDeed 77 = .ok (.sipush 10000, 3) := by decide +kernel
theorem dX1_nextDeed_80 : decode cX1_nextDeed 80 = .ok (.sipush 1000, 3) := by decide +kernel
theorem dX1_nextDeed_83 : decode cX1_nextDeed 83 = .ok (.aload_n 0, 1) := by decide +kernel
theorem dX1_nextDeed_84 : decode cX1_nextDeed 84 = .ok (.invokevirtual 16, 3) := by decide +kernel
theorem dX1_nextDeed_87 : decode cX1_nextDeed 87 = .ok (.bipush 6, 2) := by decide +kernel
theorem dX1_nextDeed_89 : decode cX1_nextDeed 89 = .ok (.irem, 1) := by decide +kernel
theorem dX1_nextDeed_90 : decode cX1_nextDeed 90 = .ok (.imul, 1) := by decide +kernel
theorem dX1_nextDeed_91 : decode cX1_nextDeed 91 = .ok (.iadd, 1) := by decide +kernel
theorem dX1_nextDeed_92 : decode cX1_nextDeed 92 = .ok (.istore_n 2, 1) := by decide +kernel
theorem dX1_nextDeed_93 : decode cX1_nextDeed 93 = .ok (.iload_n 2, 1) := by decide +kernel
theorem dX1_nextDeed_94 : decode cX1_nextDeed 94 = .ok (.aload_n 0, 1) := by decide +kernel
theorem dX1_nextDeed_95 : decode cX1_nextDeed 95 = .ok (.invokevirtual 16, 3) := by decide +kernel
theorem dX1_nextDeed_98 : decode cX1_nextDeed 98 = .ok (.sipush 384, 3) := by decide +kernel
theorem dX1_nextDeed_101 : decode cX1_nextDeed 101 = .ok (.irem, 1) := by decide +kernel
theorem dX1_nextDeed_102 : decode cX1_nextDeed 102 = .ok (.iadd, 1) := by decide +kernel
theorem dX1_nextDeed_103 : decode cX1_nextDeed 103 = .ok (.ireturn, 1) := by decide +kernel
theorem wX1_nextDeed : Mw yX1_nextDeed cX1_nextDeed 3 (some .int) 0 := ⟨q_997, q_141, by decide, ⟨by decide +kernel, by decide +kernel⟩, by decide +kernel, by decide +kernel⟩
/-- EyeTrainer$Draws.nextDeed()I -/
def fX1_nextDeed (T : Sh) (M : Me) (x0 : Nat) : Option (Int32 × Me) :=
  gd (kd T x0 = 0) <| Option.bind (fX1_draw T M x0) <| un2 fun r2 M3 => lt (r2 - r2 / (6 : Int32) * (6 : Int32)) fun v4 => if v4 = (0 : Int32) then (some ((0 : Int32), M3)) else (if v4 = (1 : Int32) then (some ((1 : Int32), M3)) else (if v4 = (2 : Int32) then (some ((1 : Int32), M3)) else (if v4 = (3 : Int32) then (Option.bind (fX1_draw T M3 x0) <| un2 fun r5 M6 => some (((10 : Int32) + (r5 - r5 / (5 : Int32) * (5 : Int32))), M6)) else (if v4 = (4 : Int32) then (Option.bind (fX1_draw T M3 x0) <| un2 fun r7 M8 => lt ((100 : Int32) + ((10 : Int32) * (r7 - r7 / (6 : Int32) * (6 : Int32)))) fun v9 => Option.bind (fX1_draw T M8 x0) <| un2 fun r10 M11 => some ((v9 + (r10 - r10 / (3 : Int32) * (3 : Int32))), M11)) else (Option.bind (fX1_draw T M3 x0) <| un2 fun r12 M13 => lt ((10000 : Int32) + ((1000 : Int32) * (r12 - r12 / (6 : Int32) * (6 : Int32)))) fun v14 => Option.bind (fX1_draw T M13 x0) <| un2 fun r15 M16 => some ((v14 + (r15 - r15 / (384 : Int32) * (384 : Int32))), M16))))))
set_option maxHeartbeats 4000000 in
theorem kX1_nextDeed {l : Launch} {B : Bx} {d : Nat} (hd : 1 ≤ d) {T : Sh} {M : Me} {x0 : Nat} {r : Int32} {M' : Me} (h : fX1_nextDeed T M x0 = some (r, M')) : Kt l B yX1_nextDeed cX1_nextDeed 3 (some .int) d [.ref (x0)] T M (some (.int r)) T M' := by
  refine kt_of wX1_nextDeed (Nat.le_refl _) (Nat.le_refl _) (Nat.le_of_ble_eq_true rfl) (fun X C hR hlx hin => ?_)
  subst hlx
  replace C : Cx X B cX1_nextDeed 3 RX1 d (tp T, sl T, tp T, sl T) := C
  unfold fX1_nextDeed at h
  show G X B 3 _ _ 0 [(0, .ref (x0))] [] T M
  refine g_aload_n (pc := 0) C dX1_nextDeed_0 rfl 0 rfl ?_
  replace h := gd_some h; obtain ⟨hk1, h⟩ := h
  replace h := bnd2 h; obtain ⟨r2, M3, h1, h⟩ := h
  refine g_callVi (pc := 1) (As := []) (st := []) C dX1_nextDeed_1 wX1_draw hk1 rfl (by decide) q_1000 q_39 q_998 (by omega) rfl (Nat.le_of_ble_eq_true rfl) (kX1_draw (d := 0) (Nat.le_refl _) h1) ?_
  refine g_bipush (pc := 4) (v := 6) C dX1_nextDeed_4 (by decide) ?_
  refine g_irem (pc := 6) C dX1_nextDeed_6 (by decide) ?_
  refine g_topi (fun v4 ev4 => ?_)
  replace h := lt_at ev4 h
  by_cases cw17_0 : v4 = (0 : Int32)
  · replace h := ifp cw17_0 h
    have hq : v4.toInt = 0 := by rw [cw17_0]; rfl
    refine g_tswIn (off := 33) (tgt := 40) C dX1_nextDeed_7 (by rw [hq]; decide) (by rw [hq]; decide) (by rw [hq]; rfl) (by decide) ?_
    refine g_iconst (pc := 40) (v := 0) C dX1_nextDeed_40 (by decide) ?_
    obtain ⟨rfl, rfl⟩ := Prod.mk.inj (Option.some.inj h)
    exact g_iret C hR dX1_nextDeed_41
  · replace h := ifn cw17_0 h
    by_cases cw17_1 : v4 = (1 : Int32)
    · replace h := ifp cw17_1 h
      have hq : v4.toInt = 1 := by rw [cw17_1]; rfl
      refine g_tswIn (off := 35) (tgt := 42) C dX1_nextDeed_7 (by rw [hq]; decide) (by rw [hq]; decide) (by rw [hq]; rfl) (by decide) ?_
      refine g_iconst (pc := 42) (v := 1) C dX1_nextDeed_42 (by decide) ?_
      obtain ⟨rfl, rfl⟩ := Prod.mk.inj (Option.some.inj h)
      exact g_iret C hR dX1_nextDeed_43
    · replace h := ifn cw17_1 h
      by_cases cw17_2 : v4 = (2 : Int32)
      · replace h := ifp cw17_2 h
        have hq : v4.toInt = 2 := by rw [cw17_2]; rfl
        refine g_tswIn (off := 35) (tgt := 42) C dX1_nextDeed_7 (by rw [hq]; decide) (by rw [hq]; decide) (by rw [hq]; rfl) (by decide) ?_
        refine g_iconst (pc := 42) (v := 1) C dX1_nextDeed_42 (by decide) ?_
        obtain ⟨rfl, rfl⟩ := Prod.mk.inj (Option.some.inj h)
        exact g_iret C hR dX1_nextDeed_43
      · replace h := ifn cw17_2 h
        by_cases cw17_3 : v4 = (3 : Int32)
        · replace h := ifp cw17_3 h
          have hq : v4.toInt = 3 := by rw [cw17_3]; rfl
          refine g_tswIn (off := 37) (tgt := 44) C dX1_nextDeed_7 (by rw [hq]; decide) (by rw [hq]; decide) (by rw [hq]; rfl) (by decide) ?_
          refine g_bipush (pc := 44) (v := 10) C dX1_nextDeed_44 (by decide) ?_
          refine g_aload_n (pc := 46) C dX1_nextDeed_46 rfl 0 rfl ?_
          replace h := bnd2 h; obtain ⟨r5, M6, h1, h⟩ := h
          refine g_callVi (pc := 47) (As := []) (st := [.int ((10 : Int32))]) C dX1_nextDeed_47 wX1_draw hk1 rfl (by decide) q_1000 q_39 q_998 (by omega) rfl (Nat.le_of_ble_eq_true rfl) (kX1_draw (d := 0) (Nat.le_refl _) h1) ?_
          refine g_iconst (pc := 50) (v := 5) C dX1_nextDeed_50 (by decide) ?_
          refine g_irem (pc := 51) C dX1_nextDeed_51 (by decide) ?_
          refine g_iadd (pc := 52) C dX1_nextDeed_52 ?_
          obtain ⟨rfl, rfl⟩ := Prod.mk.inj (Option.some.inj h)
          exact g_iret C hR dX1_nextDeed_53
        · replace h := ifn cw17_3 h
          by_cases cw17_4 : v4 = (4 : Int32)
          · replace h := ifp cw17_4 h
            have hq : v4.toInt = 4 := by rw [cw17_4]; rfl
            refine g_tswIn (off := 47) (tgt := 54) C dX1_nextDeed_7 (by rw [hq]; decide) (by rw [hq]; decide) (by rw [hq]; rfl) (by decide) ?_
            refine g_bipush (pc := 54) (v := 100) C dX1_nextDeed_54 (by decide) ?_
            refine g_bipush (pc := 56) (v := 10) C dX1_nextDeed_56 (by decide) ?_
            refine g_aload_n (pc := 58) C dX1_nextDeed_58 rfl 0 rfl ?_
            replace h := bnd2 h; obtain ⟨r7, M8, h1, h⟩ := h
            refine g_callVi (pc := 59) (As := []) (st := [.int ((10 : Int32)), .int ((100 : Int32))]) C dX1_nextDeed_59 wX1_draw hk1 rfl (by decide) q_1000 q_39 q_998 (by omega) rfl (Nat.le_of_ble_eq_true rfl) (kX1_draw (d := 0) (Nat.le_refl _) h1) ?_
            refine g_bipush (pc := 62) (v := 6) C dX1_nextDeed_62 (by decide) ?_
            refine g_irem (pc := 64) C dX1_nextDeed_64 (by decide) ?_
            refine g_imul (pc := 65) C dX1_nextDeed_65 ?_
            refine g_iadd (pc := 66) C dX1_nextDeed_66 ?_
            refine g_topi (fun v9 ev9 => ?_)
            replace h := lt_at ev9 h
            refine g_istore_n (pc := 67) (lo2 := [(1, .int (v9)), (0, .ref (x0))]) C dX1_nextDeed_67 rfl (by decide) rfl ?_
            refine g_iload_n (pc := 68) C dX1_nextDeed_68 rfl 0 rfl ?_
            refine g_aload_n (pc := 69) C dX1_nextDeed_69 rfl 1 rfl ?_
            replace h := bnd2 h; obtain ⟨r10, M11, h1, h⟩ := h
            refine g_callVi (pc := 70) (As := []) (st := [.int (v9)]) C dX1_nextDeed_70 wX1_draw hk1 rfl (by decide) q_1000 q_39 q_998 (by omega) rfl (Nat.le_of_ble_eq_true rfl) (kX1_draw (d := 0) (Nat.le_refl _) h1) ?_
            refine g_iconst (pc := 73) (v := 3) C dX1_nextDeed_73 (by decide) ?_
            refine g_irem (pc := 74) C dX1_nextDeed_74 (by decide) ?_
            refine g_iadd (pc := 75) C dX1_nextDeed_75 ?_
            obtain ⟨rfl, rfl⟩ := Prod.mk.inj (Option.some.inj h)
            exact g_iret C hR dX1_nextDeed_76
          · replace h := ifn cw17_4 h
            refine g_tswOut (tgt := 77) C dX1_nextDeed_7 (by
                have := sw_ne cw17_0 (i := 0) rfl
                have := sw_ne cw17_1 (i := 1) rfl
                have := sw_ne cw17_2 (i := 2) rfl
                have := sw_ne cw17_3 (i := 3) rfl
                have := sw_ne cw17_4 (i := 4) rfl
                omega) (by decide) ?_
            refine g_sipush (pc := 77) (v := 10000) C dX1_nextDeed_77 (by decide) ?_
            refine g_sipush (pc := 80) (v := 1000) C dX1_nextDeed_80 (by decide) ?_
            refine g_aload_n (pc := 83) C dX1_nextDeed_83 rfl 0 rfl ?_
            replace h := bnd2 h; obtain ⟨r12, M13, h1, h⟩ := h
            refine g_callVi (pc := 84) (As := []) (st := [.int ((1000 : Int32)), .int ((10000 : Int32))]) C dX1_nextDeed_84 wX1_draw hk1 rfl (by decide) q_1000 q_39 q_998 (by omega) rfl (Nat.le_of_ble_eq_true rfl) (kX1_draw (d := 0) (Nat.le_refl _) h1) ?_
            refine g_bipush (pc := 87) (v := 6) C dX1_nextDeed_87 (by decide) ?_
            refine g_irem (pc := 89) C dX1_nextDeed_89 (by decide) ?_
            refine g_imul (pc := 90) C dX1_nextDeed_90 ?_
            refine g_iadd (pc := 91) C dX1_nextDeed_91 ?_
            refine g_topi (fun v14 ev14 => ?_)
            replace h := lt_at ev14 h
            refine g_istore_n (pc := 92) (lo2 := [(2, .int (v14)), (0, .ref (x0))]) C dX1_nextDeed_92 rfl (by decide) rfl ?_
            refine g_iload_n (pc := 93) C dX1_nextDeed_93 rfl 0 rfl ?_
            refine g_aload_n (pc := 94) C dX1_nextDeed_94 rfl 1 rfl ?_
            replace h := bnd2 h; obtain ⟨r15, M16, h1, h⟩ := h
            refine g_callVi (pc := 95) (As := []) (st := [.int (v14)]) C dX1_nextDeed_95 wX1_draw hk1 rfl (by decide) q_1000 q_39 q_998 (by omega) rfl (Nat.le_of_ble_eq_true rfl) (kX1_draw (d := 0) (Nat.le_refl _) h1) ?_
            refine g_sipush (pc := 98) (v := 384) C dX1_nextDeed_98 (by decide) ?_
            refine g_irem (pc := 101) C dX1_nextDeed_101 (by decide) ?_
            refine g_iadd (pc := 102) C dX1_nextDeed_102 ?_
            obtain ⟨rfl, rfl⟩ := Prod.mk.inj (Option.some.inj h)
            exact g_iret C hR dX1_nextDeed_103
