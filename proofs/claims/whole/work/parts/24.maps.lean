set_option maxRecDepth 20000 in
theorem q_23 : Cond.selects RX5 yX5_isInPlainEye yX5_isInPlainEye ∈ lw_gd := mem_gd (List.mem_of_getElem? (i := 23) (by decide +kernel)) rfl
set_option maxRecDepth 20000 in
theorem q_123 : Cond.initialized RX5 ∈ lw_gd := mem_gd (List.mem_of_getElem? (i := 123) (by decide +kernel)) rfl
set_option maxRecDepth 20000 in
theorem q_217 : Cond.fieldLink RX5 84 "EyeTrainer$Lab" "ats" "[I" ∈ lw_gd := mem_gd (List.mem_of_getElem? (i := 217) (by decide +kernel)) rfl
set_option maxRecDepth 20000 in
theorem q_222 : Cond.fieldLink RX5 91 "EyeTrainer$Lab" "mids" "[I" ∈ lw_gd := mem_gd (List.mem_of_getElem? (i := 222) (by decide +kernel)) rfl
set_option maxRecDepth 20000 in
theorem q_225 : Cond.fieldLink RX5 78 "EyeTrainer$Lab" "wides" "[I" ∈ lw_gd := mem_gd (List.mem_of_getElem? (i := 225) (by decide +kernel)) rfl
set_option maxRecDepth 20000 in
theorem q_229 : Cond.fieldLink RX5 81 "EyeTrainer$Lab" "highs" "[I" ∈ lw_gd := mem_gd (List.mem_of_getElem? (i := 229) (by decide +kernel)) rfl
set_option maxRecDepth 20000 in
theorem q_232 : Cond.fieldLink RX5 71 "EyeTrainer$Lab" "stresses" "[I" ∈ lw_gd := mem_gd (List.mem_of_getElem? (i := 232) (by decide +kernel)) rfl
set_option maxRecDepth 20000 in
theorem q_248 : Cond.fieldLink RX5 63 "EyeTrainer$Lab" "passesLaw" "LEyeTrainer$Law;" ∈ lw_gd := mem_gd (List.mem_of_getElem? (i := 248) (by decide +kernel)) rfl
set_option maxRecDepth 20000 in
theorem q_250 : Cond.fieldLink RX5 94 "EyeTrainer$Lab" "edgeLaw" "LEyeTrainer$Law;" ∈ lw_gd := mem_gd (List.mem_of_getElem? (i := 250) (by decide +kernel)) rfl
set_option maxRecDepth 20000 in
theorem q_251 : Cond.fieldLink RX5 45 "EyeTrainer$Lab" "driftsLaw" "LEyeTrainer$Law;" ∈ lw_gd := mem_gd (List.mem_of_getElem? (i := 251) (by decide +kernel)) rfl
set_option maxRecDepth 20000 in
theorem q_284 : Cond.methodLink RX5 19 yJ7_fill_53178 ∈ lw_gd := mem_gd (List.mem_of_getElem? (i := 284) (by decide +kernel)) rfl
set_option maxRecDepth 20000 in
theorem q_287 : Cond.fieldLink RX5 9 "EyeTrainer$Maps" "lab" "LEyeTrainer$Lab;" ∈ lw_gd := mem_gd (List.mem_of_getElem? (i := 287) (by decide +kernel)) rfl
set_option maxRecDepth 20000 in
theorem q_289 : Cond.fieldLink RX5 15 "EyeTrainer$Maps" "drifts" "[I" ∈ lw_gd := mem_gd (List.mem_of_getElem? (i := 289) (by decide +kernel)) rfl
set_option maxRecDepth 20000 in
theorem q_290 : Cond.fieldLink RX5 25 "EyeTrainer$Maps" "rows" "[J" ∈ lw_gd := mem_gd (List.mem_of_getElem? (i := 290) (by decide +kernel)) rfl
set_option maxRecDepth 20000 in
theorem q_291 : Cond.fieldLink RX5 29 "EyeTrainer$Maps" "age" "J" ∈ lw_gd := mem_gd (List.mem_of_getElem? (i := 291) (by decide +kernel)) rfl
set_option maxRecDepth 20000 in
theorem q_292 : Cond.fieldLink RX5 33 "EyeTrainer$Maps" "values" "[I" ∈ lw_gd := mem_gd (List.mem_of_getElem? (i := 292) (by decide +kernel)) rfl
set_option maxRecDepth 20000 in
theorem q_293 : Cond.fieldLink RX5 36 "EyeTrainer$Maps" "stack" "[I" ∈ lw_gd := mem_gd (List.mem_of_getElem? (i := 293) (by decide +kernel)) rfl
set_option maxRecDepth 20000 in
theorem q_584 : Cond.static yJ9_min_7cf53 ∈ lw_gd := mem_gd (List.mem_of_getElem? (i := 584) (by decide +kernel)) rfl
set_option maxRecDepth 20000 in
theorem q_606 : Cond.static yJ9_max_7cf53 ∈ lw_gd := mem_gd (List.mem_of_getElem? (i := 606) (by decide +kernel)) rfl
set_option maxRecDepth 20000 in
theorem q_744 : Cond.fieldLink RX5 66 "EyeTrainer$Law" "used" "I" ∈ lw_gd := mem_gd (List.mem_of_getElem? (i := 744) (by decide +kernel)) rfl
set_option maxRecDepth 20000 in
theorem q_753 : Cond.code yX5_useLab cX5_useLab 2 none ∈ lw_gd := mem_gd (List.mem_of_getElem? (i := 753) (by decide +kernel)) rfl
set_option maxRecDepth 20000 in
theorem q_782 : Cond.code yX5_driftAt cX5_driftAt 4 (some .int) ∈ lw_gd := mem_gd (List.mem_of_getElem? (i := 782) (by decide +kernel)) rfl
set_option maxRecDepth 20000 in
theorem q_783 : Cond.methodLink RX5 39 yJ9_floorMod_7cf53 ∈ lw_gd := mem_gd (List.mem_of_getElem? (i := 783) (by decide +kernel)) rfl
set_option maxRecDepth 20000 in
theorem q_784 : Cond.static yJ9_floorMod_7cf53 ∈ lw_gd := mem_gd (List.mem_of_getElem? (i := 784) (by decide +kernel)) rfl
set_option maxRecDepth 20000 in
theorem q_786 : Cond.methodLink RX5 51 yX4_valueBy ∈ lw_gd := mem_gd (List.mem_of_getElem? (i := 786) (by decide +kernel)) rfl
set_option maxRecDepth 20000 in
theorem q_787 : Cond.instanceMethod yX4_valueBy ∈ lw_gd := mem_gd (List.mem_of_getElem? (i := 787) (by decide +kernel)) rfl
set_option maxRecDepth 20000 in
theorem q_788 : Cond.selects RX4 yX4_valueBy yX4_valueBy ∈ lw_gd := mem_gd (List.mem_of_getElem? (i := 788) (by decide +kernel)) rfl
set_option maxRecDepth 20000 in
theorem q_794 : Cond.methodLink RX5 57 yJ9_min_7cf53 ∈ lw_gd := mem_gd (List.mem_of_getElem? (i := 794) (by decide +kernel)) rfl
set_option maxRecDepth 20000 in
theorem q_795 : Cond.methodLink RX5 60 yJ9_max_7cf53 ∈ lw_gd := mem_gd (List.mem_of_getElem? (i := 795) (by decide +kernel)) rfl
set_option maxRecDepth 20000 in
theorem q_799 : Cond.code yX5_passing cX5_passing 11 (some .int) ∈ lw_gd := mem_gd (List.mem_of_getElem? (i := 799) (by decide +kernel)) rfl
set_option maxRecDepth 20000 in
theorem q_800 : Cond.constant RX5 70 (16777215) ∈ lw_gd := mem_gd (List.mem_of_getElem? (i := 800) (by decide +kernel)) rfl
set_option maxRecDepth 20000 in
theorem q_801 : Cond.methodLink RX5 74 yX5_isInPlainEye ∈ lw_gd := mem_gd (List.mem_of_getElem? (i := 801) (by decide +kernel)) rfl
set_option maxRecDepth 20000 in
theorem q_803 : Cond.instanceMethod yX5_isInPlainEye ∈ lw_gd := mem_gd (List.mem_of_getElem? (i := 803) (by decide +kernel)) rfl
set_option maxRecDepth 20000 in
theorem q_804 : Cond.code yX5_isInPlainEye cX5_isInPlainEye 6 (some .boolean) ∈ lw_gd := mem_gd (List.mem_of_getElem? (i := 804) (by decide +kernel)) rfl
set_option maxRecDepth 20000 in
theorem q_805 : Cond.methodLink RX5 87 yJ9_abs_0f7a4 ∈ lw_gd := mem_gd (List.mem_of_getElem? (i := 805) (by decide +kernel)) rfl
set_option maxRecDepth 20000 in
theorem q_806 : Cond.static yJ9_abs_0f7a4 ∈ lw_gd := mem_gd (List.mem_of_getElem? (i := 806) (by decide +kernel)) rfl
set_option maxRecDepth 20000 in
theorem q_839 : Cond.code yX5_risenAt cX5_risenAt 7 (some .int) ∈ lw_gd := mem_gd (List.mem_of_getElem? (i := 839) (by decide +kernel)) rfl
theorem dX5_useLab_0 : decode cX5_useLab 0 = .ok (.aload_n 0, 1) := by decide +kernel
theorem dX5_useLab_1 : decode cX5_useLab 1 = .ok (.aload_n 1, 1) := by decide +kernel
theorem dX5_useLab_2 : decode cX5_useLab 2 = .ok (.putfield 9, 3) := by decide +kernel
theorem dX5_useLab_5 : decode cX5_useLab 5 = .ok (.aload_n 0, 1) := by decide +kernel
theorem dX5_useLab_6 : decode cX5_useLab 6 = .ok (.dup, 1) := by decide +kernel
theorem dX5_useLab_7 : decode cX5_useLab 7 = .ok (.getfield 29, 3) := by decide +kernel
theorem dX5_useLab_10 : decode cX5_useLab 10 = .ok (.lconst 1, 1) := by decide +kernel
theorem dX5_useLab_11 : decode cX5_useLab 11 = .ok (.ladd, 1) := by decide +kernel
theorem dX5_useLab_12 : decode cX5_useLab 12 = .ok (.putfield 29, 3) := by decide +kernel
theorem dX5_useLab_15 : decode cX5_useLab 15 = .ok (.aload_n 0, 1) := by decide +kernel
theorem dX5_useLab_16 : decode cX5_useLab 16 = .ok (.getfield 15, 3) := by decide +kernel
theorem dX5_useLab_19 : decode cX5_useLab 19 = .ok (.bipush 99, 2) := by decide +kernel
theorem dX5_useLab_21 : decode cX5_useLab 21 = .ok (.invokestatic 19, 3) := by decide +kernel
theorem dX5_useLab_24 : decode cX5_useLab 24 = .ok (.return_, 1) := by decide +kernel
theorem wX5_useLab : Mw yX5_useLab cX5_useLab 2 none 1 := ⟨q_753, q_123, by decide, ⟨by decide +kernel, by decide +kernel⟩, by decide +kernel, by decide +kernel⟩
/-- EyeTrainer$Maps.useLab(LEyeTrainer$Lab;)V -/
def fX5_useLab (T : Sh) (M : Me) (x0 : Nat) (x1 : Nat) : Option (Unit × Me) :=
  gd (kd T x0 = 4) <| lt (pR M x0 0 (some x1)) fun M2 => lt (pJ M2 x0 3 ((gJ M2 x0 3) + (1 : Int64))) fun M3 => Option.bind (gR M3 x0 1) fun a4 => Option.bind (fJ7_fill_53178 T M3 a4 (99 : Int32)) <| un2 fun _u M5 => some ((), M5)
set_option maxHeartbeats 4000000 in
theorem kX5_useLab {l : Launch} {B : Bx} {d : Nat} (hd : 1 ≤ d) {T : Sh} {M : Me} {x0 : Nat} {x1 : Nat} {M' : Me} (h : fX5_useLab T M x0 x1 = some ((), M')) : Kt l B yX5_useLab cX5_useLab 2 none d [.ref (x0), .ref (x1)] T M none T M' := by
  refine kt_of wX5_useLab (Nat.le_refl _) (Nat.le_refl _) (Nat.le_of_ble_eq_true rfl) (fun X C hR hlx hin => ?_)
  subst hlx
  replace C : Cx X B cX5_useLab 2 RX5 d (tp T, sl T, tp T, sl T) := C
  unfold fX5_useLab at h
  show G X B 2 _ _ 0 [(0, .ref (x0)), (1, .ref (x1))] [] T M
  refine g_aload_n (pc := 0) C dX5_useLab_0 rfl 0 rfl ?_
  refine g_aload_n (pc := 1) C dX5_useLab_1 rfl 1 rfl ?_
  replace h := gd_some h; obtain ⟨hk1, h⟩ := h
  refine g_putR (pc := 2) (x := (some x1)) (ft := .object "EyeTrainer$Lab") C dX5_useLab_2 kX5 hk1 0 (by decide) rfl rfl rfl (Or.inl ⟨_, rfl⟩) q_287 ?_
  refine g_mem (fun M2 eM2 => ?_)
  replace h := lt_at eM2 h
  refine g_aload_n (pc := 5) C dX5_useLab_5 rfl 0 rfl ?_
  refine g_dup (pc := 6) C dX5_useLab_6 rfl ?_
  refine g_get (pc := 7) (v := .long (gJ M2 x0 3)) C dX5_useLab_7 kX5 hk1 3 (by decide) q_291 rfl ?_
  refine g_lconst (pc := 10) (v := 1) C dX5_useLab_10 rfl ?_
  refine g_ladd (pc := 11) C dX5_useLab_11 ?_
  refine g_putJ (pc := 12) C dX5_useLab_12 kX5 hk1 3 (by decide) rfl rfl rfl q_291 ?_
  refine g_mem (fun M3 eM3 => ?_)
  replace h := lt_at eM3 h
  refine g_aload_n (pc := 15) C dX5_useLab_15 rfl 0 rfl ?_
  refine g_get (pc := 16) (v := va_rf (gR M3 x0 1)) C dX5_useLab_16 kX5 hk1 1 (by decide) q_289 rfl ?_
  replace h := bnd h; obtain ⟨a4, ea4, h⟩ := h
  refine g_refq ea4 ?_
  refine g_bipush (pc := 19) (v := 99) C dX5_useLab_19 (by decide) ?_
  replace h := bnd2 h; obtain ⟨_u, M5, h1, h⟩ := h
  refine g_callSv (pc := 21) (As := [.ref (a4), .int ((99 : Int32))]) (st := []) C dX5_useLab_21 wJ7_fill_53178 q_285 q_284 (by omega) rfl (Nat.le_of_ble_eq_true rfl) (kJ7_fill_53178 (d := 0) (Nat.le_refl _) h1) ?_
  obtain ⟨-, rfl⟩ := Prod.mk.inj (Option.some.inj h)
  exact g_vret C hR dX5_useLab_24
theorem dX5_driftAt_0 : decode cX5_driftAt 0 = .ok (.iload_n 1, 1) := by decide +kernel
theorem dX5_driftAt_1 : decode cX5_driftAt 1 = .ok (.bipush 100, 2) := by decide +kernel
theorem dX5_driftAt_3 : decode cX5_driftAt 3 = .ok (.invokestatic 39, 3) := by decide +kernel
theorem dX5_driftAt_6 : decode cX5_driftAt 6 = .ok (.istore_n 2, 1) := by decide +kernel
theorem dX5_driftAt_7 : decode cX5_driftAt 7 = .ok (.aload_n 0, 1) := by decide +kernel
theorem dX5_driftAt_8 : decode cX5_driftAt 8 = .ok (.getfield 9, 3) := by decide +kernel
theorem dX5_driftAt_11 : decode cX5_driftAt 11 = .ok (.getfield 45, 3) := by decide +kernel
theorem dX5_driftAt_14 : decode cX5_driftAt 14 = .ok (.ifnonnull 5, 3) := by decide +kernel
theorem dX5_driftAt_17 : decode cX5_driftAt 17 = .ok (.iconst 0, 1) := by decide +kernel
theorem dX5_driftAt_18 : decode cX5_driftAt 18 = .ok (.ireturn, 1) := by decide +kernel
theorem dX5_driftAt_19 : decode cX5_driftAt 19 = .ok (.aload_n 0, 1) := by decide +kernel
theorem dX5_driftAt_20 : decode cX5_driftAt 20 = .ok (.getfield 15, 3) := by decide +kernel
theorem dX5_driftAt_23 : decode cX5_driftAt 23 = .ok (.iload_n 2, 1) := by decide +kernel
theorem dX5_driftAt_24 : decode cX5_driftAt 24 = .ok (.iaload, 1) := by decide +kernel
theorem dX5_driftAt_25 : decode cX5_driftAt 25 = .ok (.bipush 99, 2) := by decide +kernel
theorem dX5_driftAt_27 : decode cX5_driftAt 27 = .ok (.if_icmp .ne 46, 3) := by decide +kernel
theorem dX5_driftAt_30 : decode cX5_driftAt 30 = .ok (.aload_n 0, 1) := by decide +kernel
theorem dX5_driftAt_31 : decode cX5_driftAt 31 = .ok (.getfield 33, 3) := by decide +kernel
theorem dX5_driftAt_34 : decode cX5_driftAt 34 = .ok (.iconst 5, 1) := by decide +kernel
theorem dX5_driftAt_35 : decode cX5_driftAt 35 = .ok (.iload_n 2, 1) := by decide +kernel
theorem dX5_driftAt_36 : decode cX5_driftAt 36 = .ok (.iastore, 1) := by decide +kernel
theorem dX5_driftAt_37 : decode cX5_driftAt 37 = .ok (.aload_n 0, 1) := by decide +kernel
theorem dX5_driftAt_38 : decode cX5_driftAt 38 = .ok (.getfield 9, 3) := by decide +kernel
theorem dX5_driftAt_41 : decode cX5_driftAt 41 = .ok (.getfield 45, 3) := by decide +kernel
theorem dX5_driftAt_44 : decode cX5_driftAt 44 = .ok (.aload_n 0, 1) := by decide +kernel
theorem dX5_driftAt_45 : decode cX5_driftAt 45 = .ok (.getfield 33, 3) := by decide +kernel
theorem dX5_driftAt_48 : decode cX5_driftAt 48 = .ok (.aload_n 0, 1) := by decide +kernel
theorem dX5_driftAt_49 : decode cX5_driftAt 49 = .ok (.getfield 36, 3) := by decide +kernel
theorem dX5_driftAt_52 : decode cX5_driftAt 52 = .ok (.invokevirtual 51, 3) := by decide +kernel
theorem dX5_driftAt_55 : decode cX5_driftAt 55 = .ok (.istore_n 3, 1) := by decide +kernel
theorem dX5_driftAt_56 : decode cX5_driftAt 56 = .ok (.aload_n 0, 1) := by decide +kernel
theorem dX5_driftAt_57 : decode cX5_driftAt 57 = .ok (.getfield 15, 3) := by decide +kernel
theorem dX5_driftAt_60 : decode cX5_driftAt 60 = .ok (.iload_n 2, 1) := by decide +kernel
theorem dX5_driftAt_61 : decode cX5_driftAt 61 = .ok (.bipush (-15), 2) := by decide +kernel
theorem dX5_driftAt_63 : decode cX5_driftAt 63 = .ok (.bipush 15, 2) := by decide +kernel
theorem dX5_driftAt_65 : decode cX5_driftAt 65 = .ok (.iload_n 3, 1) := by decide +kernel
theorem dX5_driftAt_66 : decode cX5_driftAt 66 = .ok (.invokestatic 57, 3) := by decide +kernel
theorem dX5_driftAt_69 : decode cX5_driftAt 69 = .ok (.invokestatic 60, 3) := by decide +kernel
theorem dX5_driftAt_72 : decode cX5_driftAt 72 = .ok (.iastore, 1) := by decide +kernel
theorem dX5_driftAt_73 : decode cX5_driftAt 73 = .ok (.aload_n 0, 1) := by decide +kernel
theorem dX5_driftAt_74 : decode cX5_driftAt 74 = .ok (.getfield 15, 3) := by decide +kernel
theorem dX5_driftAt_77 : decode cX5_driftAt 77 = .ok (.iload_n 2, 1) := by decide +kernel
theorem dX5_driftAt_78 : decode cX5_driftAt 78 = .ok (.iaload, 1) := by decide +kernel
theorem dX5_driftAt_79 : decode cX5_driftAt 79 = .ok (.ireturn, 1) := by decide +kernel
theorem wX5_driftAt : Mw yX5_driftAt cX5_driftAt 4 (some .int) 1 := ⟨q_782, q_123, by decide, ⟨by decide +kernel, by decide +kernel⟩, by decide +kernel, by decide +kernel⟩
/-- EyeTrainer$Maps.driftAt(I)I -/
def fX5_driftAt (T : Sh) (M : Me) (x0 : Nat) (x1 : Int32) : Option (Int32 × Me) :=
  Option.bind (fJ9_floorMod_7cf53 x1 (100 : Int32)) fun r1 => gd (kd T x0 = 4) <| Option.bind (gR M x0 0) fun a3 => gd (kd T a3 = 2) <| mo (gR M a3 12) (some ((0 : Int32), M)) (fun a5 => Option.bind (gR M x0 1) fun a6 => gd (kd T a6 = 13) <| gv r1 (ln T a6) <| if (gI M a6 (Int32.toNatClampNeg r1)) = (99 : Int32) then (Option.bind (gR M x0 4) fun a13 => gd (kd T a13 = 13) <| gv (5 : Int32) (ln T a13) <| lt (pI M a13 (Int32.toNatClampNeg (5 : Int32)) r1) fun M16 => Option.bind (gR M16 x0 0) fun a17 => gd (kd T a17 = 2) <| Option.bind (gR M16 a17 12) fun a19 => Option.bind (gR M16 x0 4) fun a20 => Option.bind (gR M16 x0 5) fun a21 => gd (kd T a19 = 3) <| Option.bind (fX4_valueBy T M16 a19 a20 a21) <| un2 fun r23 M24 => Option.bind (gR M24 x0 1) fun a25 => Option.bind (fJ9_min_7cf53 (15 : Int32) r23) fun r26 => Option.bind (fJ9_max_7cf53 (-15 : Int32) r26) fun r27 => gd (kd T a25 = 13) <| gv r1 (ln T a25) <| lt (pI M24 a25 (Int32.toNatClampNeg r1) r27) fun M30 => Option.bind (gR M30 x0 1) fun a31 => gd (kd T a31 = 13) <| gv r1 (ln T a31) <| some ((gI M30 a31 (Int32.toNatClampNeg r1)), M30)) else (Option.bind (gR M x0 1) fun a10 => gd (kd T a10 = 13) <| gv r1 (ln T a10) <| some ((gI M a10 (Int32.toNatClampNeg r1)), M)))
set_option maxHeartbeats 4000000 in
theorem kX5_driftAt {l : Launch} {B : Bx} {d : Nat} (hd : 1 ≤ d) {T : Sh} {M : Me} {x0 : Nat} {x1 : Int32} {r : Int32} {M' : Me} (h : fX5_driftAt T M x0 x1 = some (r, M')) : Kt l B yX5_driftAt cX5_driftAt 4 (some .int) d [.ref (x0), .int (x1)] T M (some (.int r)) T M' := by
  refine kt_of wX5_driftAt (Nat.le_refl _) (Nat.le_refl _) (Nat.le_of_ble_eq_true rfl) (fun X C hR hlx hin => ?_)
  subst hlx
  replace C : Cx X B cX5_driftAt 4 RX5 d (tp T, sl T, tp T, sl T) := C
  unfold fX5_driftAt at h
  show G X B 4 _ _ 0 [(0, .ref (x0)), (1, .int (x1))] [] T M
  refine g_iload_n (pc := 0) C dX5_driftAt_0 rfl 1 rfl ?_
  refine g_bipush (pc := 1) (v := 100) C dX5_driftAt_1 (by decide) ?_
  replace h := bnd h; obtain ⟨r1, h1, h⟩ := h
  refine g_callSi (pc := 3) (As := [.int (x1), .int ((100 : Int32))]) (st := []) C dX5_driftAt_3 wJ9_floorMod_7cf53 q_784 q_783 (by omega) rfl (Nat.le_of_ble_eq_true rfl) (kJ9_floorMod_7cf53 (d := 0) (Nat.le_refl _) h1) ?_
  refine g_istore_n (pc := 6) (lo2 := [(2, .int (r1)), (0, .ref (x0)), (1, .int (x1))]) C dX5_driftAt_6 rfl (by decide) rfl ?_
  refine g_aload_n (pc := 7) C dX5_driftAt_7 rfl 1 rfl ?_
  replace h := gd_some h; obtain ⟨hk2, h⟩ := h
  refine g_get (pc := 8) (v := va_rf (gR M x0 0)) C dX5_driftAt_8 kX5 hk2 0 (by decide) q_287 rfl ?_
  replace h := bnd h; obtain ⟨a3, ea3, h⟩ := h
  refine g_refq ea3 ?_
  replace h := gd_some h; obtain ⟨hk4, h⟩ := h
  refine g_get (pc := 11) (v := va_rf (gR M a3 12)) C dX5_driftAt_11 kX3 hk4 12 (by decide) q_251 rfl ?_
  refine g_ifnonnull (pc := 14) (tgt := 19) C dX5_driftAt_14 (by decide) (fun a5 ea5 => ?_) (fun ea5 => ?_)
  · replace h := mo_some2 ea5 h
    refine g_aload_n (pc := 19) C dX5_driftAt_19 rfl 1 rfl ?_
    refine g_get (pc := 20) (v := va_rf (gR M x0 1)) C dX5_driftAt_20 kX5 hk2 1 (by decide) q_289 rfl ?_
    replace h := bnd h; obtain ⟨a6, ea6, h⟩ := h
    refine g_refq ea6 ?_
    refine g_iload_n (pc := 23) C dX5_driftAt_23 rfl 0 rfl ?_
    replace h := gd_some h; obtain ⟨hk7, h⟩ := h
    replace h := gv_some h; obtain ⟨hi8, h⟩ := h
    refine g_iald (pc := 24) C dX5_driftAt_24 hk7 hi8 ?_
    refine g_bipush (pc := 25) (v := 99) C dX5_driftAt_25 (by decide) ?_
    refine g_icmp_ne (pc := 27) (tgt := 73) C dX5_driftAt_27 (by decide) (fun c9 => ?_) (fun c9 => ?_)
    · replace h := ifn c9 h
      refine g_aload_n (pc := 73) C dX5_driftAt_73 rfl 1 rfl ?_
      refine g_get (pc := 74) (v := va_rf (gR M x0 1)) C dX5_driftAt_74 kX5 hk2 1 (by decide) q_289 rfl ?_
      replace h := bnd h; obtain ⟨a10, ea10, h⟩ := h
      refine g_refq ea10 ?_
      refine g_iload_n (pc := 77) C dX5_driftAt_77 rfl 0 rfl ?_
      replace h := gd_some h; obtain ⟨hk11, h⟩ := h
      replace h := gv_some h; obtain ⟨hi12, h⟩ := h
      refine g_iald (pc := 78) C dX5_driftAt_78 hk11 hi12 ?_
      obtain ⟨rfl, rfl⟩ := Prod.mk.inj (Option.some.inj h)
      exact g_iret C hR dX5_driftAt_79
    · replace h := ifp c9 h
      refine g_aload_n (pc := 30) C dX5_driftAt_30 rfl 1 rfl ?_
      refine g_get (pc := 31) (v := va_rf (gR M x0 4)) C dX5_driftAt_31 kX5 hk2 4 (by decide) q_292 rfl ?_
      replace h := bnd h; obtain ⟨a13, ea13, h⟩ := h
      refine g_refq ea13 ?_
      refine g_iconst (pc := 34) (v := 5) C dX5_driftAt_34 (by decide) ?_
      refine g_iload_n (pc := 35) C dX5_driftAt_35 rfl 0 rfl ?_
      replace h := gd_some h; obtain ⟨hk14, h⟩ := h
      replace h := gv_some h; obtain ⟨hi15, h⟩ := h
      refine g_iast (pc := 36) C dX5_driftAt_36 hk14 hi15 ?_
      refine g_mem (fun M16 eM16 => ?_)
      replace h := lt_at eM16 h
      refine g_aload_n (pc := 37) C dX5_driftAt_37 rfl 1 rfl ?_
      refine g_get (pc := 38) (v := va_rf (gR M16 x0 0)) C dX5_driftAt_38 kX5 hk2 0 (by decide) q_287 rfl ?_
      replace h := bnd h; obtain ⟨a17, ea17, h⟩ := h
      refine g_refq ea17 ?_
      replace h := gd_some h; obtain ⟨hk18, h⟩ := h
      refine g_get (pc := 41) (v := va_rf (gR M16 a17 12)) C dX5_driftAt_41 kX3 hk18 12 (by decide) q_251 rfl ?_
      replace h := bnd h; obtain ⟨a19, ea19, h⟩ := h
      refine g_refq ea19 ?_
      refine g_aload_n (pc := 44) C dX5_driftAt_44 rfl 1 rfl ?_
      refine g_get (pc := 45) (v := va_rf (gR M16 x0 4)) C dX5_driftAt_45 kX5 hk2 4 (by decide) q_292 rfl ?_
      replace h := bnd h; obtain ⟨a20, ea20, h⟩ := h
      refine g_refq ea20 ?_
      refine g_aload_n (pc := 48) C dX5_driftAt_48 rfl 1 rfl ?_
      refine g_get (pc := 49) (v := va_rf (gR M16 x0 5)) C dX5_driftAt_49 kX5 hk2 5 (by decide) q_293 rfl ?_
      replace h := bnd h; obtain ⟨a21, ea21, h⟩ := h
      refine g_refq ea21 ?_
      replace h := gd_some h; obtain ⟨hk22, h⟩ := h
      replace h := bnd2 h; obtain ⟨r23, M24, h1, h⟩ := h
      refine g_callVi (pc := 52) (As := [.ref (a20), .ref (a21)]) (st := []) C dX5_driftAt_52 wX4_valueBy hk22 rfl (by decide) q_787 q_788 q_786 (by omega) rfl (Nat.le_of_ble_eq_true rfl) (kX4_valueBy (d := 0) (Nat.le_refl _) h1) ?_
      refine g_istore_n (pc := 55) (lo2 := [(3, .int (r23)), (2, .int (r1)), (0, .ref (x0)), (1, .int (x1))]) C dX5_driftAt_55 rfl (by decide) rfl ?_
      refine g_aload_n (pc := 56) C dX5_driftAt_56 rfl 2 rfl ?_
      refine g_get (pc := 57) (v := va_rf (gR M24 x0 1)) C dX5_driftAt_57 kX5 hk2 1 (by decide) q_289 rfl ?_
      replace h := bnd h; obtain ⟨a25, ea25, h⟩ := h
      refine g_refq ea25 ?_
      refine g_iload_n (pc := 60) C dX5_driftAt_60 rfl 1 rfl ?_
      refine g_bipush (pc := 61) (v := (-15)) C dX5_driftAt_61 (by decide) ?_
      refine g_bipush (pc := 63) (v := 15) C dX5_driftAt_63 (by decide) ?_
      refine g_iload_n (pc := 65) C dX5_driftAt_65 rfl 0 rfl ?_
      replace h := bnd h; obtain ⟨r26, h1, h⟩ := h
      refine g_callSi (pc := 66) (As := [.int ((15 : Int32)), .int (r23)]) (st := [.int ((-15 : Int32)), .int (r1), .ref (a25)]) C dX5_driftAt_66 wJ9_min_7cf53 q_584 q_794 (by omega) rfl (Nat.le_of_ble_eq_true rfl) (kJ9_min_7cf53 (d := 0) (Nat.le_refl _) h1) ?_
      replace h := bnd h; obtain ⟨r27, h1, h⟩ := h
      refine g_callSi (pc := 69) (As := [.int ((-15 : Int32)), .int (r26)]) (st := [.int (r1), .ref (a25)]) C dX5_driftAt_69 wJ9_max_7cf53 q_606 q_795 (by omega) rfl (Nat.le_of_ble_eq_true rfl) (kJ9_max_7cf53 (d := 0) (Nat.le_refl _) h1) ?_
      replace h := gd_some h; obtain ⟨hk28, h⟩ := h
      replace h := gv_some h; obtain ⟨hi29, h⟩ := h
      refine g_iast (pc := 72) C dX5_driftAt_72 hk28 hi29 ?_
      refine g_mem (fun M30 eM30 => ?_)
      replace h := lt_at eM30 h
      refine g_aload_n (pc := 73) C dX5_driftAt_73 rfl 2 rfl ?_
      refine g_get (pc := 74) (v := va_rf (gR M30 x0 1)) C dX5_driftAt_74 kX5 hk2 1 (by decide) q_289 rfl ?_
      replace h := bnd h; obtain ⟨a31, ea31, h⟩ := h
      refine g_refq ea31 ?_
      refine g_iload_n (pc := 77) C dX5_driftAt_77 rfl 1 rfl ?_
      replace h := gd_some h; obtain ⟨hk32, h⟩ := h
      replace h := gv_some h; obtain ⟨hi33, h⟩ := h
      refine g_iald (pc := 78) C dX5_driftAt_78 hk32 hi33 ?_
      obtain ⟨rfl, rfl⟩ := Prod.mk.inj (Option.some.inj h)
      exact g_iret C hR dX5_driftAt_79
  · replace h := mo_none2 ea5 h
    refine g_iconst (pc := 17) (v := 0) C dX5_driftAt_17 (by decide) ?_
    obtain ⟨rfl, rfl⟩ := Prod.mk.inj (Option.some.inj h)
    exact g_iret C hR dX5_driftAt_18
theorem dX5_isInPlainEye_0 : decode cX5_isInPlainEye 0 = .ok (.aload_n 0, 1) := by decide +kernel
theorem dX5_isInPlainEye_1 : decode cX5_isInPlainEye 1 = .ok (.getfield 33, 3) := by decide +kernel
theorem dX5_isInPlainEye_4 : decode cX5_isInPlainEye 4 = .ok (.iconst 2, 1) := by decide +kernel
theorem dX5_isInPlainEye_5 : decode cX5_isInPlainEye 5 = .ok (.iaload, 1) := by decide +kernel
theorem dX5_isInPlainEye_6 : decode cX5_isInPlainEye 6 = .ok (.istore_n 1, 1) := by decide +kernel
theorem dX5_isInPlainEye_7 : decode cX5_isInPlainEye 7 = .ok (.aload_n 0, 1) := by decide +kernel
theorem dX5_isInPlainEye_8 : decode cX5_isInPlainEye 8 = .ok (.getfield 9, 3) := by decide +kernel
theorem dX5_isInPlainEye_11 : decode cX5_isInPlainEye 11 = .ok (.getfield 78, 3) := by decide +kernel
theorem dX5_isInPlainEye_14 : decode cX5_isInPlainEye 14 = .ok (.iload_n 1, 1) := by decide +kernel
theorem dX5_isInPlainEye_15 : decode cX5_isInPlainEye 15 = .ok (.iaload, 1) := by decide +kernel
theorem dX5_isInPlainEye_16 : decode cX5_isInPlainEye 16 = .ok (.aload_n 0, 1) := by decide +kernel
theorem dX5_isInPlainEye_17 : decode cX5_isInPlainEye 17 = .ok (.getfield 33, 3) := by decide +kernel
theorem dX5_isInPlainEye_20 : decode cX5_isInPlainEye 20 = .ok (.iconst 3, 1) := by decide +kernel
theorem dX5_isInPlainEye_21 : decode cX5_isInPlainEye 21 = .ok (.iaload, 1) := by decide +kernel
theorem dX5_isInPlainEye_22 : decode cX5_isInPlainEye 22 = .ok (.isub, 1) := by decide +kernel
theorem dX5_isInPlainEye_23 : decode cX5_isInPlainEye 23 = .ok (.istore_n 2, 1) := by decide +kernel
theorem dX5_isInPlainEye_24 : decode cX5_isInPlainEye 24 = .ok (.aload_n 0, 1) := by decide +kernel
theorem dX5_isInPlainEye_25 : decode cX5_isInPlainEye 25 = .ok (.getfield 9, 3) := by decide +kernel
theorem dX5_isInPlainEye_28 : decode cX5_isInPlainEye 28 = .ok (.getfield 81, 3) := by decide +kernel
theorem dX5_isInPlainEye_31 : decode cX5_isInPlainEye 31 = .ok (.iload_n 1, 1) := by decide +kernel
theorem dX5_isInPlainEye_32 : decode cX5_isInPlainEye 32 = .ok (.iaload, 1) := by decide +kernel
theorem dX5_isInPlainEye_33 : decode cX5_isInPlainEye 33 = .ok (.istore_n 3, 1) := by decide +kernel
theorem dX5_isInPlainEye_34 : decode cX5_isInPlainEye 34 = .ok (.aload_n 0, 1) := by decide +kernel
theorem dX5_isInPlainEye_35 : decode cX5_isInPlainEye 35 = .ok (.getfield 33, 3) := by decide +kernel
theorem dX5_isInPlainEye_38 : decode cX5_isInPlainEye 38 = .ok (.iconst 0, 1) := by decide +kernel
theorem dX5_isInPlainEye_39 : decode cX5_isInPlainEye 39 = .ok (.iaload, 1) := by decide +kernel
theorem dX5_isInPlainEye_40 : decode cX5_isInPlainEye 40 = .ok (.aload_n 0, 1) := by decide +kernel
theorem dX5_isInPlainEye_41 : decode cX5_isInPlainEye 41 = .ok (.getfield 9, 3) := by decide +kernel
theorem dX5_isInPlainEye_44 : decode cX5_isInPlainEye 44 = .ok (.getfield 84, 3) := by decide +kernel
theorem dX5_isInPlainEye_47 : decode cX5_isInPlainEye 47 = .ok (.iload_n 1, 1) := by decide +kernel
theorem dX5_isInPlainEye_48 : decode cX5_isInPlainEye 48 = .ok (.iaload, 1) := by decide +kernel
theorem dX5_isInPlainEye_49 : decode cX5_isInPlainEye 49 = .ok (.isub, 1) := by decide +kernel
theorem dX5_isInPlainEye_50 : decode cX5_isInPlainEye 50 = .ok (.aload_n 0, 1) := by decide +kernel
theorem dX5_isInPlainEye_51 : decode cX5_isInPlainEye 51 = .ok (.getfield 33, 3) := by decide +kernel
theorem dX5_isInPlainEye_54 : decode cX5_isInPlainEye 54 = .ok (.iconst 4, 1) := by decide +kernel
theorem dX5_isInPlainEye_55 : decode cX5_isInPlainEye 55 = .ok (.iaload, 1) := by decide +kernel
theorem dX5_isInPlainEye_56 : decode cX5_isInPlainEye 56 = .ok (.isub, 1) := by decide +kernel
theorem dX5_isInPlainEye_57 : decode cX5_isInPlainEye 57 = .ok (.invokestatic 87, 3) := by decide +kernel
theorem dX5_isInPlainEye_60 : decode cX5_isInPlainEye 60 = .ok (.istore 4, 2) := by decide +kernel
theorem dX5_isInPlainEye_62 : decode cX5_isInPlainEye 62 = .ok (.aload_n 0, 1) := by decide +kernel
theorem dX5_isInPlainEye_63 : decode cX5_isInPlainEye 63 = .ok (.getfield 33, 3) := by decide +kernel
theorem dX5_isInPlainEye_66 : decode cX5_isInPlainEye 66 = .ok (.iconst 1, 1) := by decide +kernel
theorem dX5_isInPlainEye_67 : decode cX5_isInPlainEye 67 = .ok (.iaload, 1) := by decide +kernel
theorem dX5_isInPlainEye_68 : decode cX5_isInPlainEye 68 = .ok (.aload_n 0, 1) := by decide +kernel
theorem dX5_isInPlainEye_69 : decode cX5_isInPlainEye 69 = .ok (.getfield 9, 3) := by decide +kernel
theorem dX5_isInPlainEye_72 : decode cX5_isInPlainEye 72 = .ok (.getfield 91, 3) := by decide +kernel
theorem dX5_isInPlainEye_75 : decode cX5_isInPlainEye 75 = .ok (.iload_n 1, 1) := by decide +kernel
theorem dX5_isInPlainEye_76 : decode cX5_isInPlainEye 76 = .ok (.iaload, 1) := by decide +kernel
theorem dX5_isInPlainEye_77 : decode cX5_isInPlainEye 77 = .ok (.isub, 1) := by decide +kernel
theorem dX5_isInPlainEye_78 : decode cX5_isInPlainEye 78 = .ok (.invokestatic 87, 3) := by decide +kernel
theorem dX5_isInPlainEye_81 : decode cX5_isInPlainEye 81 = .ok (.istore 5, 2) := by decide +kernel
theorem dX5_isInPlainEye_83 : decode cX5_isInPlainEye 83 = .ok (.iload_n 2, 1) := by decide +kernel
theorem dX5_isInPlainEye_84 : decode cX5_isInPlainEye 84 = .ok (.iconst 1, 1) := by decide +kernel
theorem dX5_isInPlainEye_85 : decode cX5_isInPlainEye 85 = .ok (.if_icmp .lt 22, 3) := by decide +kernel
theorem dX5_isInPlainEye_88 : decode cX5_isInPlainEye 88 = .ok (.iload 4, 2) := by decide +kernel
theorem dX5_isInPlainEye_90 : decode cX5_isInPlainEye 90 = .ok (.iload_n 3, 1) := by decide +kernel
theorem dX5_isInPlainEye_91 : decode cX5_isInPlainEye 91 = .ok (.imul, 1) := by decide +kernel
theorem dX5_isInPlainEye_92 : decode cX5_isInPlainEye 92 = .ok (.iload 5, 2) := by decide +kernel
theorem dX5_isInPlainEye_94 : decode cX5_isInPlainEye 94 = .ok (.iload_n 2, 1) := by decide +kernel
theorem dX5_isInPlainEye_95 : decode cX5_isInPlainEye 95 = .ok (.imul, 1) := by decide +kernel
theorem dX5_isInPlainEye_96 : decode cX5_isInPlainEye 96 = .ok (.iadd, 1) := by decide +kernel
theorem dX5_isInPlainEye_97 : decode cX5_isInPlainEye 97 = .ok (.iload_n 2, 1) := by decide +kernel
theorem dX5_isInPlainEye_98 : decode cX5_isInPlainEye 98 = .ok (.iload_n 3, 1) := by decide +kernel
theorem dX5_isInPlainEye_99 : decode cX5_isInPlainEye 99 = .ok (.imul, 1) := by decide +kernel
theorem dX5_isInPlainEye_100 : decode cX5_isInPlainEye 100 = .ok (.if_icmp .ge 7, 3) := by decide +kernel
theorem dX5_isInPlainEye_103 : decode cX5_isInPlainEye 103 = .ok (.iconst 1, 1) := by decide +kernel
theorem dX5_isInPlainEye_104 : decode cX5_isInPlainEye 104 = .ok (.goto 4, 3) := by decide +kernel
theorem dX5_isInPlainEye_107 : decode cX5_isInPlainEye 107 = .ok (.iconst 0, 1) := by decide +kernel
theorem dX5_isInPlainEye_108 : decode cX5_isInPlainEye 108 = .ok (.ireturn, 1) := by decide +kernel
theorem wX5_isInPlainEye : Mw yX5_isInPlainEye cX5_isInPlainEye 6 (some .boolean) 0 := ⟨q_804, q_123, by decide, ⟨by decide +kernel, by decide +kernel⟩, by decide +kernel, by decide +kernel⟩
/-- EyeTrainer$Maps.isInPlainEye()Z -/
def fX5_isInPlainEye (T : Sh) (M : Me) (x0 : Nat) : Option (Int32) :=
  gd (kd T x0 = 4) <| Option.bind (gR M x0 4) fun a2 => gd (kd T a2 = 13) <| gv (2 : Int32) (ln T a2) <| lt (gI M a2 (Int32.toNatClampNeg (2 : Int32))) fun v5 => Option.bind (gR M x0 0) fun a6 => gd (kd T a6 = 2) <| Option.bind (gR M a6 2) fun a8 => gd (kd T a8 = 13) <| gv v5 (ln T a8) <| Option.bind (gR M x0 4) fun a11 => gd (kd T a11 = 13) <| gv (3 : Int32) (ln T a11) <| lt ((gI M a8 (Int32.toNatClampNeg v5)) - (gI M a11 (Int32.toNatClampNeg (3 : Int32)))) fun v14 => Option.bind (gR M x0 0) fun a15 => gd (kd T a15 = 2) <| Option.bind (gR M a15 3) fun a17 => gd (kd T a17 = 13) <| gv v5 (ln T a17) <| lt (gI M a17 (Int32.toNatClampNeg v5)) fun v20 => Option.bind (gR M x0 4) fun a21 => gd (kd T a21 = 13) <| gv (0 : Int32) (ln T a21) <| Option.bind (gR M x0 0) fun a24 => gd (kd T a24 = 2) <| Option.bind (gR M a24 0) fun a26 => gd (kd T a26 = 13) <| gv v5 (ln T a26) <| Option.bind (gR M x0 4) fun a29 => gd (kd T a29 = 13) <| gv (4 : Int32) (ln T a29) <| Option.bind (fJ9_abs_0f7a4 (((gI M a21 (Int32.toNatClampNeg (0 : Int32))) - (gI M a26 (Int32.toNatClampNeg v5))) - (gI M a29 (Int32.toNatClampNeg (4 : Int32))))) fun r32 => Option.bind (gR M x0 4) fun a33 => gd (kd T a33 = 13) <| gv (1 : Int32) (ln T a33) <| Option.bind (gR M x0 0) fun a36 => gd (kd T a36 = 2) <| Option.bind (gR M a36 1) fun a38 => gd (kd T a38 = 13) <| gv v5 (ln T a38) <| Option.bind (fJ9_abs_0f7a4 ((gI M a33 (Int32.toNatClampNeg (1 : Int32))) - (gI M a38 (Int32.toNatClampNeg v5)))) fun r41 => if v14 < (1 : Int32) then (some (0 : Int32)) else (if (v14 * v20) ≤ ((r32 * v20) + (r41 * v14)) then (some (0 : Int32)) else (some (1 : Int32)))
set_option maxHeartbeats 4000000 in
theorem kX5_isInPlainEye {l : Launch} {B : Bx} {d : Nat} (hd : 1 ≤ d) {T : Sh} {M : Me} {x0 : Nat} {r : Int32} (h : fX5_isInPlainEye T M x0 = some r) : Kt l B yX5_isInPlainEye cX5_isInPlainEye 6 (some .boolean) d [.ref (x0)] T M (some (.int r)) T M := by
  refine kt_of wX5_isInPlainEye (Nat.le_refl _) (Nat.le_refl _) (Nat.le_of_ble_eq_true rfl) (fun X C hR hlx hin => ?_)
  subst hlx
  replace C : Cx X B cX5_isInPlainEye 6 RX5 d (tp T, sl T, tp T, sl T) := C
  unfold fX5_isInPlainEye at h
  show G X B 6 _ _ 0 [(0, .ref (x0))] [] T M
  refine g_aload_n (pc := 0) C dX5_isInPlainEye_0 rfl 0 rfl ?_
  replace h := gd_some h; obtain ⟨hk1, h⟩ := h
  refine g_get (pc := 1) (v := va_rf (gR M x0 4)) C dX5_isInPlainEye_1 kX5 hk1 4 (by decide) q_292 rfl ?_
  replace h := bnd h; obtain ⟨a2, ea2, h⟩ := h
  refine g_refq ea2 ?_
  refine g_iconst (pc := 4) (v := 2) C dX5_isInPlainEye_4 (by decide) ?_
  replace h := gd_some h; obtain ⟨hk3, h⟩ := h
  replace h := gv_some h; obtain ⟨hi4, h⟩ := h
  refine g_iald (pc := 5) C dX5_isInPlainEye_5 hk3 hi4 ?_
  refine g_topi (fun v5 ev5 => ?_)
  replace h := lt_at ev5 h
  refine g_istore_n (pc := 6) (lo2 := [(1, .int (v5)), (0, .ref (x0))]) C dX5_isInPlainEye_6 rfl (by decide) rfl ?_
  refine g_aload_n (pc := 7) C dX5_isInPlainEye_7 rfl 1 rfl ?_
  refine g_get (pc := 8) (v := va_rf (gR M x0 0)) C dX5_isInPlainEye_8 kX5 hk1 0 (by decide) q_287 rfl ?_
  replace h := bnd h; obtain ⟨a6, ea6, h⟩ := h
  refine g_refq ea6 ?_
  replace h := gd_some h; obtain ⟨hk7, h⟩ := h
  refine g_get (pc := 11) (v := va_rf (gR M a6 2)) C dX5_isInPlainEye_11 kX3 hk7 2 (by decide) q_225 rfl ?_
  replace h := bnd h; obtain ⟨a8, ea8, h⟩ := h
  refine g_refq ea8 ?_
  refine g_iload_n (pc := 14) C dX5_isInPlainEye_14 rfl 0 rfl ?_
  replace h := gd_some h; obtain ⟨hk9, h⟩ := h
  replace h := gv_some h; obtain ⟨hi10, h⟩ := h
  refine g_iald (pc := 15) C dX5_isInPlainEye_15 hk9 hi10 ?_
  refine g_aload_n (pc := 16) C dX5_isInPlainEye_16 rfl 1 rfl ?_
  refine g_get (pc := 17) (v := va_rf (gR M x0 4)) C dX5_isInPlainEye_17 kX5 hk1 4 (by decide) q_292 rfl ?_
  replace h := bnd h; obtain ⟨a11, ea11, h⟩ := h
  refine g_refq ea11 ?_
  refine g_iconst (pc := 20) (v := 3) C dX5_isInPlainEye_20 (by decide) ?_
  replace h := gd_some h; obtain ⟨hk12, h⟩ := h
  replace h := gv_some h; obtain ⟨hi13, h⟩ := h
  refine g_iald (pc := 21) C dX5_isInPlainEye_21 hk12 hi13 ?_
  refine g_isub (pc := 22) C dX5_isInPlainEye_22 ?_
  refine g_topi (fun v14 ev14 => ?_)
  replace h := lt_at ev14 h
  refine g_istore_n (pc := 23) (lo2 := [(2, .int (v14)), (1, .int (v5)), (0, .ref (x0))]) C dX5_isInPlainEye_23 rfl (by decide) rfl ?_
  refine g_aload_n (pc := 24) C dX5_isInPlainEye_24 rfl 2 rfl ?_
  refine g_get (pc := 25) (v := va_rf (gR M x0 0)) C dX5_isInPlainEye_25 kX5 hk1 0 (by decide) q_287 rfl ?_
  replace h := bnd h; obtain ⟨a15, ea15, h⟩ := h
  refine g_refq ea15 ?_
  replace h := gd_some h; obtain ⟨hk16, h⟩ := h
  refine g_get (pc := 28) (v := va_rf (gR M a15 3)) C dX5_isInPlainEye_28 kX3 hk16 3 (by decide) q_229 rfl ?_
  replace h := bnd h; obtain ⟨a17, ea17, h⟩ := h
  refine g_refq ea17 ?_
  refine g_iload_n (pc := 31) C dX5_isInPlainEye_31 rfl 1 rfl ?_
  replace h := gd_some h; obtain ⟨hk18, h⟩ := h
  replace h := gv_some h; obtain ⟨hi19, h⟩ := h
  refine g_iald (pc := 32) C dX5_isInPlainEye_32 hk18 hi19 ?_
  refine g_topi (fun v20 ev20 => ?_)
  replace h := lt_at ev20 h
  refine g_istore_n (pc := 33) (lo2 := [(3, .int (v20)), (2, .int (v14)), (1, .int (v5)), (0, .ref (x0))]) C dX5_isInPlainEye_33 rfl (by decide) rfl ?_
  refine g_aload_n (pc := 34) C dX5_isInPlainEye_34 rfl 3 rfl ?_
  refine g_get (pc := 35) (v := va_rf (gR M x0 4)) C dX5_isInPlainEye_35 kX5 hk1 4 (by decide) q_292 rfl ?_
  replace h := bnd h; obtain ⟨a21, ea21, h⟩ := h
  refine g_refq ea21 ?_
  refine g_iconst (pc := 38) (v := 0) C dX5_isInPlainEye_38 (by decide) ?_
  replace h := gd_some h; obtain ⟨hk22, h⟩ := h
  replace h := gv_some h; obtain ⟨hi23, h⟩ := h
  refine g_iald (pc := 39) C dX5_isInPlainEye_39 hk22 hi23 ?_
  refine g_aload_n (pc := 40) C dX5_isInPlainEye_40 rfl 3 rfl ?_
  refine g_get (pc := 41) (v := va_rf (gR M x0 0)) C dX5_isInPlainEye_41 kX5 hk1 0 (by decide) q_287 rfl ?_
  replace h := bnd h; obtain ⟨a24, ea24, h⟩ := h
  refine g_refq ea24 ?_
  replace h := gd_some h; obtain ⟨hk25, h⟩ := h
  refine g_get (pc := 44) (v := va_rf (gR M a24 0)) C dX5_isInPlainEye_44 kX3 hk25 0 (by decide) q_217 rfl ?_
  replace h := bnd h; obtain ⟨a26, ea26, h⟩ := h
  refine g_refq ea26 ?_
  refine g_iload_n (pc := 47) C dX5_isInPlainEye_47 rfl 2 rfl ?_
  replace h := gd_some h; obtain ⟨hk27, h⟩ := h
  replace h := gv_some h; obtain ⟨hi28, h⟩ := h
  refine g_iald (pc := 48) C dX5_isInPlainEye_48 hk27 hi28 ?_
  refine g_isub (pc := 49) C dX5_isInPlainEye_49 ?_
  refine g_aload_n (pc := 50) C dX5_isInPlainEye_50 rfl 3 rfl ?_
  refine g_get (pc := 51) (v := va_rf (gR M x0 4)) C dX5_isInPlainEye_51 kX5 hk1 4 (by decide) q_292 rfl ?_
  replace h := bnd h; obtain ⟨a29, ea29, h⟩ := h
  refine g_refq ea29 ?_
  refine g_iconst (pc := 54) (v := 4) C dX5_isInPlainEye_54 (by decide) ?_
  replace h := gd_some h; obtain ⟨hk30, h⟩ := h
  replace h := gv_some h; obtain ⟨hi31, h⟩ := h
  refine g_iald (pc := 55) C dX5_isInPlainEye_55 hk30 hi31 ?_
  refine g_isub (pc := 56) C dX5_isInPlainEye_56 ?_
  replace h := bnd h; obtain ⟨r32, h1, h⟩ := h
  refine g_callSi (pc := 57) (As := [.int (((gI M a21 (Int32.toNatClampNeg (0 : Int32))) - (gI M a26 (Int32.toNatClampNeg v5))) - (gI M a29 (Int32.toNatClampNeg (4 : Int32))))]) (st := []) C dX5_isInPlainEye_57 wJ9_abs_0f7a4 q_806 q_805 (by omega) rfl (Nat.le_of_ble_eq_true rfl) (kJ9_abs_0f7a4 (d := 0) (Nat.le_refl _) h1) ?_
  refine g_istore (pc := 60) (lo2 := [(4, .int (r32)), (3, .int (v20)), (2, .int (v14)), (1, .int (v5)), (0, .ref (x0))]) C dX5_isInPlainEye_60 (by decide) rfl ?_
  refine g_aload_n (pc := 62) C dX5_isInPlainEye_62 rfl 4 rfl ?_
  refine g_get (pc := 63) (v := va_rf (gR M x0 4)) C dX5_isInPlainEye_63 kX5 hk1 4 (by decide) q_292 rfl ?_
  replace h := bnd h; obtain ⟨a33, ea33, h⟩ := h
  refine g_refq ea33 ?_
  refine g_iconst (pc := 66) (v := 1) C dX5_isInPlainEye_66 (by decide) ?_
  replace h := gd_some h; obtain ⟨hk34, h⟩ := h
  replace h := gv_some h; obtain ⟨hi35, h⟩ := h
  refine g_iald (pc := 67) C dX5_isInPlainEye_67 hk34 hi35 ?_
  refine g_aload_n (pc := 68) C dX5_isInPlainEye_68 rfl 4 rfl ?_
  refine g_get (pc := 69) (v := va_rf (gR M x0 0)) C dX5_isInPlainEye_69 kX5 hk1 0 (by decide) q_287 rfl ?_
  replace h := bnd h; obtain ⟨a36, ea36, h⟩ := h
  refine g_refq ea36 ?_
  replace h := gd_some h; obtain ⟨hk37, h⟩ := h
  refine g_get (pc := 72) (v := va_rf (gR M a36 1)) C dX5_isInPlainEye_72 kX3 hk37 1 (by decide) q_222 rfl ?_
  replace h := bnd h; obtain ⟨a38, ea38, h⟩ := h
  refine g_refq ea38 ?_
  refine g_iload_n (pc := 75) C dX5_isInPlainEye_75 rfl 3 rfl ?_
  replace h := gd_some h; obtain ⟨hk39, h⟩ := h
  replace h := gv_some h; obtain ⟨hi40, h⟩ := h
  refine g_iald (pc := 76) C dX5_isInPlainEye_76 hk39 hi40 ?_
  refine g_isub (pc := 77) C dX5_isInPlainEye_77 ?_
  replace h := bnd h; obtain ⟨r41, h1, h⟩ := h
  refine g_callSi (pc := 78) (As := [.int ((gI M a33 (Int32.toNatClampNeg (1 : Int32))) - (gI M a38 (Int32.toNatClampNeg v5)))]) (st := []) C dX5_isInPlainEye_78 wJ9_abs_0f7a4 q_806 q_805 (by omega) rfl (Nat.le_of_ble_eq_true rfl) (kJ9_abs_0f7a4 (d := 0) (Nat.le_refl _) h1) ?_
  refine g_istore (pc := 81) (lo2 := [(5, .int (r41)), (4, .int (r32)), (3, .int (v20)), (2, .int (v14)), (1, .int (v5)), (0, .ref (x0))]) C dX5_isInPlainEye_81 (by decide) rfl ?_
  refine g_iload_n (pc := 83) C dX5_isInPlainEye_83 rfl 3 rfl ?_
  refine g_iconst (pc := 84) (v := 1) C dX5_isInPlainEye_84 (by decide) ?_
  refine g_icmp_lt (pc := 85) (tgt := 107) C dX5_isInPlainEye_85 (by decide) (fun c42 => ?_) (fun c42 => ?_)
  · replace h := ifp c42 h
    refine g_iconst (pc := 107) (v := 0) C dX5_isInPlainEye_107 (by decide) ?_
    obtain rfl := Option.some.inj h
    exact g_zret C hR dX5_isInPlainEye_108 rfl
  · replace h := ifn c42 h
    refine g_iload (pc := 88) C dX5_isInPlainEye_88 1 rfl ?_
    refine g_iload_n (pc := 90) C dX5_isInPlainEye_90 rfl 2 rfl ?_
    refine g_imul (pc := 91) C dX5_isInPlainEye_91 ?_
    refine g_iload (pc := 92) C dX5_isInPlainEye_92 0 rfl ?_
    refine g_iload_n (pc := 94) C dX5_isInPlainEye_94 rfl 3 rfl ?_
    refine g_imul (pc := 95) C dX5_isInPlainEye_95 ?_
    refine g_iadd (pc := 96) C dX5_isInPlainEye_96 ?_
    refine g_iload_n (pc := 97) C dX5_isInPlainEye_97 rfl 3 rfl ?_
    refine g_iload_n (pc := 98) C dX5_isInPlainEye_98 rfl 2 rfl ?_
    refine g_imul (pc := 99) C dX5_isInPlainEye_99 ?_
    refine g_icmp_ge (pc := 100) (tgt := 107) C dX5_isInPlainEye_100 (by decide) (fun c43 => ?_) (fun c43 => ?_)
    · replace h := ifp c43 h
      refine g_iconst (pc := 107) (v := 0) C dX5_isInPlainEye_107 (by decide) ?_
      obtain rfl := Option.some.inj h
      exact g_zret C hR dX5_isInPlainEye_108 rfl
    · replace h := ifn c43 h
      refine g_iconst (pc := 103) (v := 1) C dX5_isInPlainEye_103 (by decide) ?_
      refine g_goto (pc := 104) (tgt := 108) C dX5_isInPlainEye_104 (by decide) ?_
      obtain rfl := Option.some.inj h
      exact g_zret C hR dX5_isInPlainEye_108 rfl
theorem dX5_passing_0 : decode cX5_passing 0 = .ok (.aload_n 0, 1) := by decide +kernel
theorem dX5_passing_1 : decode cX5_passing 1 = .ok (.getfield 9, 3) := by decide +kernel
theorem dX5_passing_4 : decode cX5_passing 4 = .ok (.getfield 63, 3) := by decide +kernel
theorem dX5_passing_7 : decode cX5_passing 7 = .ok (.astore 5, 2) := by decide +kernel
theorem dX5_passing_9 : decode cX5_passing 9 = .ok (.aload 5, 2) := by decide +kernel
theorem dX5_passing_11 : decode cX5_passing 11 = .ok (.ifnonnull 7, 3) := by decide +kernel
theorem dX5_passing_14 : decode cX5_passing 14 = .ok (.iconst (-1), 1) := by decide +kernel
theorem dX5_passing_15 : decode cX5_passing 15 = .ok (.goto 8, 3) := by decide +kernel
theorem dX5_passing_18 : decode cX5_passing 18 = .ok (.aload 5, 2) := by decide +kernel
theorem dX5_passing_20 : decode cX5_passing 20 = .ok (.getfield 66, 3) := by decide +kernel
theorem dX5_passing_23 : decode cX5_passing 23 = .ok (.istore 6, 2) := by decide +kernel
theorem dX5_passing_25 : decode cX5_passing 25 = .ok (.iload 6, 2) := by decide +kernel
theorem dX5_passing_27 : decode cX5_passing 27 = .ok (.iconst 2, 1) := by decide +kernel
theorem dX5_passing_28 : decode cX5_passing 28 = .ok (.ishr, 1) := by decide +kernel
theorem dX5_passing_29 : decode cX5_passing 29 = .ok (.iconst 1, 1) := by decide +kernel
theorem dX5_passing_30 : decode cX5_passing 30 = .ok (.iand, 1) := by decide +kernel
theorem dX5_passing_31 : decode cX5_passing 31 = .ok (.ifCond .ne 7, 3) := by decide +kernel
theorem dX5_passing_34 : decode cX5_passing 34 = .ok (.iconst 0, 1) := by decide +kernel
theorem dX5_passing_35 : decode cX5_passing 35 = .ok (.goto 4, 3) := by decide +kernel
theorem dX5_passing_38 : decode cX5_passing 38 = .ok (.iload_n 1, 1) := by decide +kernel
theorem dX5_passing_39 : decode cX5_passing 39 = .ok (.istore 7, 2) := by decide +kernel
theorem dX5_passing_41 : decode cX5_passing 41 = .ok (.iload 7, 2) := by decide +kernel
theorem dX5_passing_43 : decode cX5_passing 43 = .ok (.iconst 5, 1) := by decide +kernel
theorem dX5_passing_44 : decode cX5_passing 44 = .ok (.imul, 1) := by decide +kernel
theorem dX5_passing_45 : decode cX5_passing 45 = .ok (.iload 6, 2) := by decide +kernel
theorem dX5_passing_47 : decode cX5_passing 47 = .ok (.iconst 3, 1) := by decide +kernel
theorem dX5_passing_48 : decode cX5_passing 48 = .ok (.ishr, 1) := by decide +kernel
theorem dX5_passing_49 : decode cX5_passing 49 = .ok (.iconst 1, 1) := by decide +kernel
theorem dX5_passing_50 : decode cX5_passing 50 = .ok (.iand, 1) := by decide +kernel
theorem dX5_passing_51 : decode cX5_passing 51 = .ok (.ifCond .ne 7, 3) := by decide +kernel
theorem dX5_passing_54 : decode cX5_passing 54 = .ok (.iconst 0, 1) := by decide +kernel
theorem dX5_passing_55 : decode cX5_passing 55 = .ok (.goto 6, 3) := by decide +kernel
theorem dX5_passing_58 : decode cX5_passing 58 = .ok (.iload_n 2, 1) := by decide +kernel
theorem dX5_passing_59 : decode cX5_passing 59 = .ok (.iconst 1, 1) := by decide +kernel
theorem dX5_passing_60 : decode cX5_passing 60 = .ok (.iadd, 1) := by decide +kernel
theorem dX5_passing_61 : decode cX5_passing 61 = .ok (.iadd, 1) := by decide +kernel
theorem dX5_passing_62 : decode cX5_passing 62 = .ok (.istore 7, 2) := by decide +kernel
theorem dX5_passing_64 : decode cX5_passing 64 = .ok (.iload 7, 2) := by decide +kernel
theorem dX5_passing_66 : decode cX5_passing 66 = .ok (.bipush 31, 2) := by decide +kernel
theorem dX5_passing_68 : decode cX5_passing 68 = .ok (.imul, 1) := by decide +kernel
theorem dX5_passing_69 : decode cX5_passing 69 = .ok (.iload 6, 2) := by decide +kernel
theorem dX5_passing_71 : decode cX5_passing 71 = .ok (.iconst 4, 1) := by decide +kernel
theorem dX5_passing_72 : decode cX5_passing 72 = .ok (.ishr, 1) := by decide +kernel
theorem dX5_passing_73 : decode cX5_passing 73 = .ok (.iconst 1, 1) := by decide +kernel
theorem dX5_passing_74 : decode cX5_passing 74 = .ok (.iand, 1) := by decide +kernel
theorem dX5_passing_75 : decode cX5_passing 75 = .ok (.ifCond .ne 7, 3) := by decide +kernel
theorem dX5_passing_78 : decode cX5_passing 78 = .ok (.iconst 0, 1) := by decide +kernel
theorem dX5_passing_79 : decode cX5_passing 79 = .ok (.goto 7, 3) := by decide +kernel
theorem dX5_passing_82 : decode cX5_passing 82 = .ok (.iload_n 3, 1) := by decide +kernel
theorem dX5_passing_83 : decode cX5_passing 83 = .ok (.bipush 15, 2) := by decide +kernel
theorem dX5_passing_85 : decode cX5_passing 85 = .ok (.iadd, 1) := by decide +kernel
theorem dX5_passing_86 : decode cX5_passing 86 = .ok (.iadd, 1) := by decide +kernel
theorem dX5_passing_87 : decode cX5_passing 87 = .ok (.istore 7, 2) := by decide +kernel
theorem dX5_passing_89 : decode cX5_passing 89 = .ok (.iload 7, 2) := by decide +kernel
theorem dX5_passing_91 : decode cX5_passing 91 = .ok (.bipush 16, 2) := by decide +kernel
theorem dX5_passing_93 : decode cX5_passing 93 = .ok (.imul, 1) := by decide +kernel
theorem dX5_passing_94 : decode cX5_passing 94 = .ok (.iload 6, 2) := by decide +kernel
theorem dX5_passing_96 : decode cX5_passing 96 = .ok (.iconst 1, 1) := by decide +kernel
theorem dX5_passing_97 : decode cX5_passing 97 = .ok (.ishr, 1) := by decide +kernel
theorem dX5_passing_98 : decode cX5_passing 98 = .ok (.iconst 1, 1) := by decide +kernel
theorem dX5_passing_99 : decode cX5_passing 99 = .ok (.iand, 1) := by decide +kernel
theorem dX5_passing_100 : decode cX5_passing 100 = .ok (.ifCond .ne 7, 3) := by decide +kernel
theorem dX5_passing_103 : decode cX5_passing 103 = .ok (.iconst 0, 1) := by decide +kernel
theorem dX5_passing_104 : decode cX5_passing 104 = .ok (.goto 5, 3) := by decide +kernel
theorem dX5_passing_107 : decode cX5_passing 107 = .ok (.iload 4, 2) := by decide +kernel
theorem dX5_passing_109 : decode cX5_passing 109 = .ok (.iadd, 1) := by decide +kernel
theorem dX5_passing_110 : decode cX5_passing 110 = .ok (.istore 7, 2) := by decide +kernel
theorem dX5_passing_112 : decode cX5_passing 112 = .ok (.aload_n 0, 1) := by decide +kernel
theorem dX5_passing_113 : decode cX5_passing 113 = .ok (.getfield 25, 3) := by decide +kernel
theorem dX5_passing_116 : decode cX5_passing 116 = .ok (.iload 7, 2) := by decide +kernel
theorem dX5_passing_118 : decode cX5_passing 118 = .ok (.laload, 1) := by decide +kernel
theorem dX5_passing_119 : decode cX5_passing 119 = .ok (.bipush 24, 2) := by decide +kernel
theorem dX5_passing_121 : decode cX5_passing 121 = .ok (.lshr, 1) := by decide +kernel
theorem dX5_passing_122 : decode cX5_passing 122 = .ok (.aload_n 0, 1) := by decide +kernel
theorem dX5_passing_123 : decode cX5_passing 123 = .ok (.getfield 29, 3) := by decide +kernel
theorem dX5_passing_126 : decode cX5_passing 126 = .ok (.lcmp, 1) := by decide +kernel
theorem dX5_passing_127 : decode cX5_passing 127 = .ok (.ifCond .ne 15, 3) := by decide +kernel
theorem dX5_passing_130 : decode cX5_passing 130 = .ok (.aload_n 0, 1) := by decide +kernel
theorem dX5_passing_131 : decode cX5_passing 131 = .ok (.getfield 25, 3) := by decide +kernel
theorem dX5_passing_134 : decode cX5_passing 134 = .ok (.iload 7, 2) := by decide +kernel
theorem dX5_passing_136 : decode cX5_passing 136 = .ok (.laload, 1) := by decide +kernel
theorem dX5_passing_137 : decode cX5_passing 137 = .ok (.l2i, 1) := by decide +kernel
theorem dX5_passing_138 : decode cX5_passing 138 = .ok (.ldc 70, 2) := by decide +kernel
theorem dX5_passing_140 : decode cX5_passing 140 = .ok (.iand, 1) := by decide +kernel
theorem dX5_passing_141 : decode cX5_passing 141 = .ok (.ireturn, 1) := by decide +kernel
theorem dX5_passing_142 : decode cX5_passing 142 = .ok (.aload_n 0, 1) := by decide +kernel
theorem dX5_passing_143 : decode cX5_passing 143 = .ok (.getfield 33, 3) := by decide +kernel
theorem dX5_passing_146 : decode cX5_passing 146 = .ok (.iconst 1, 1) := by decide +kernel
theorem dX5_passing_147 : decode cX5_passing 147 = .ok (.iload 4, 2) := by decide +kernel
theorem dX5_passing_149 : decode cX5_passing 149 = .ok (.iastore, 1) := by decide +kernel
theorem dX5_passing_150 : decode cX5_passing 150 = .ok (.aload_n 0, 1) := by decide +kernel
theorem dX5_passing_151 : decode cX5_passing 151 = .ok (.getfield 33, 3) := by decide +kernel
theorem dX5_passing_154 : decode cX5_passing 154 = .ok (.iconst 2, 1) := by decide +kernel
theorem dX5_passing_155 : decode cX5_passing 155 = .ok (.iload_n 1, 1) := by decide +kernel
theorem dX5_passing_156 : decode cX5_passing 156 = .ok (.iastore, 1) := by decide +kernel
theorem dX5_passing_157 : decode cX5_passing 157 = .ok (.aload_n 0, 1) := by decide +kernel
theorem dX5_passing_158 : decode cX5_passing 158 = .ok (.getfield 33, 3) := by decide +kernel
theorem dX5_passing_161 : decode cX5_passing 161 = .ok (.iconst 3, 1) := by decide +kernel
theorem dX5_passing_162 : decode cX5_passing 162 = .ok (.aload_n 0, 1) := by decide +kernel
theorem dX5_passing_163 : decode cX5_passing 163 = .ok (.getfield 9, 3) := by decide +kernel
theorem dX5_passing_166 : decode cX5_passing 166 = .ok (.getfield 71, 3) := by decide +kernel
theorem dX5_passing_169 : decode cX5_passing 169 = .ok (.iload_n 2, 1) := by decide +kernel
theorem dX5_passing_170 : decode cX5_passing 170 = .ok (.iconst 1, 1) := by decide +kernel
theorem dX5_passing_171 : decode cX5_passing 171 = .ok (.iadd, 1) := by decide +kernel
theorem dX5_passing_172 : decode cX5_passing 172 = .ok (.iaload, 1) := by decide +kernel
theorem dX5_passing_173 : decode cX5_passing 173 = .ok (.iastore, 1) := by decide +kernel
theorem dX5_passing_174 : decode cX5_passing 174 = .ok (.aload_n 0, 1) := by decide +kernel
theorem dX5_passing_175 : decode cX5_passing 175 = .ok (.getfield 33, 3) := by decide +kernel
theorem dX5_passing_178 : decode cX5_passing 178 = .ok (.iconst 4, 1) := by decide +kernel
theorem dX5_passing_179 : decode cX5_passing 179 = .ok (.iload_n 3, 1) := by decide +kernel
theorem dX5_passing_180 : decode cX5_passing 180 = .ok (.iastore, 1) := by decide +kernel
theorem dX5_passing_181 : decode cX5_passing 181 = .ok (.iconst 0, 1) := by decide +kernel
theorem dX5_passing_182 : decode cX5_passing 182 = .ok (.istore 8, 2) := by decide +kernel
theorem dX5_passing_184 : decode cX5_passing 184 = .ok (.iconst 0, 1) := by decide +kernel
theorem dX5_passing_185 : decode cX5_passing 185 = .ok (.istore 9, 2) := by decide +kernel
theorem dX5_passing_187 : decode cX5_passing 187 = .ok (.iload 9, 2) := by decide +kernel
theorem dX5_passing_189 : decode cX5_passing 189 = .ok (.bipush 24, 2) := by decide +kernel
theorem dX5_passing_191 : decode cX5_passing 191 = .ok (.if_icmp .ge 70, 3) := by decide +kernel
theorem dX5_passing_194 : decode cX5_passing 194 = .ok (.aload_n 0, 1) := by decide +kernel
theorem dX5_passing_195 : decode cX5_passing 195 = .ok (.getfield 33, 3) := by decide +kernel
theorem dX5_passing_198 : decode cX5_passing 198 = .ok (.iconst 0, 1) := by decide +kernel
theorem dX5_passing_199 : decode cX5_passing 199 = .ok (.iload 9, 2) := by decide +kernel
theorem dX5_passing_201 : decode cX5_passing 201 = .ok (.iastore, 1) := by decide +kernel
theorem dX5_passing_202 : decode cX5_passing 202 = .ok (.aload 5, 2) := by decide +kernel
theorem dX5_passing_204 : decode cX5_passing 204 = .ok (.ifnonnull 10, 3) := by decide +kernel
theorem dX5_passing_207 : decode cX5_passing 207 = .ok (.aload_n 0, 1) := by decide +kernel
theorem dX5_passing_208 : decode cX5_passing 208 = .ok (.invokevirtual 74, 3) := by decide +kernel
theorem dX5_passing_211 : decode cX5_passing 211 = .ok (.goto 24, 3) := by decide +kernel
theorem dX5_passing_214 : decode cX5_passing 214 = .ok (.aload 5, 2) := by decide +kernel
theorem dX5_passing_216 : decode cX5_passing 216 = .ok (.aload_n 0, 1) := by decide +kernel
theorem dX5_passing_217 : decode cX5_passing 217 = .ok (.getfield 33, 3) := by decide +kernel
theorem dX5_passing_220 : decode cX5_passing 220 = .ok (.aload_n 0, 1) := by decide +kernel
theorem dX5_passing_221 : decode cX5_passing 221 = .ok (.getfield 36, 3) := by decide +kernel
theorem dX5_passing_224 : decode cX5_passing 224 = .ok (.invokevirtual 51, 3) := by decide +kernel
theorem dX5_passing_227 : decode cX5_passing 227 = .ok (.ifCond .eq 7, 3) := by decide +kernel
theorem dX5_passing_230 : decode cX5_passing 230 = .ok (.iconst 1, 1) := by decide +kernel
theorem dX5_passing_231 : decode cX5_passing 231 = .ok (.goto 4, 3) := by decide +kernel
theorem dX5_passing_234 : decode cX5_passing 234 = .ok (.iconst 0, 1) := by decide +kernel
theorem dX5_passing_235 : decode cX5_passing 235 = .ok (.istore 10, 2) := by decide +kernel
theorem dX5_passing_237 : decode cX5_passing 237 = .ok (.iload 8, 2) := by decide +kernel
theorem dX5_passing_239 : decode cX5_passing 239 = .ok (.iload 10, 2) := by decide +kernel
theorem dX5_passing_241 : decode cX5_passing 241 = .ok (.ifCond .eq 10, 3) := by decide +kernel
theorem dX5_passing_244 : decode cX5_passing 244 = .ok (.iconst 1, 1) := by decide +kernel
theorem dX5_passing_245 : decode cX5_passing 245 = .ok (.iload 9, 2) := by decide +kernel
theorem dX5_passing_247 : decode cX5_passing 247 = .ok (.ishl, 1) := by decide +kernel
theorem dX5_passing_248 : decode cX5_passing 248 = .ok (.goto 4, 3) := by decide +kernel
theorem dX5_passing_251 : decode cX5_passing 251 = .ok (.iconst 0, 1) := by decide +kernel
theorem dX5_passing_252 : decode cX5_passing 252 = .ok (.ior, 1) := by decide +kernel
theorem dX5_passing_253 : decode cX5_passing 253 = .ok (.istore 8, 2) := by decide +kernel
theorem dX5_passing_255 : decode cX5_passing 255 = .ok (.iinc 9 1, 3) := by decide +kernel
theorem dX5_passing_258 : decode cX5_passing 258 = .ok (.goto (-71), 3) := by decide +kernel
theorem dX5_passing_261 : decode cX5_passing 261 = .ok (.aload_n 0, 1) := by decide +kernel
theorem dX5_passing_262 : decode cX5_passing 262 = .ok (.getfield 25, 3) := by decide +kernel
theorem dX5_passing_265 : decode cX5_passing 265 = .ok (.iload 7, 2) := by decide +kernel
theorem dX5_passing_267 : decode cX5_passing 267 = .ok (.aload_n 0, 1) := by decide +kernel
theorem dX5_passing_268 : decode cX5_passing 268 = .ok (.getfield 29, 3) := by decide +kernel
theorem dX5_passing_271 : decode cX5_passing 271 = .ok (.bipush 24, 2) := by decide +kernel
theorem dX5_passing_273 : decode cX5_passing 273 = .ok (.lshl, 1) := by decide +kernel
theorem dX5_passing_274 : decode cX5_passing 274 = .ok (.iload 8, 2) := by decide +kernel
theorem dX5_passing_276 : decode cX5_passing 276 = .ok (.i2l, 1) := by decide +kernel
theorem dX5_passing_277 : decode cX5_passing 277 = .ok (.lor, 1) := by decide +kernel
theorem dX5_passing_278 : decode cX5_passing 278 = .ok (.lastore, 1) := by decide +kernel
theorem dX5_passing_279 : decode cX5_passing 279 = .ok (.iload 8, 2) := by decide +kernel
theorem dX5_passing_281 : decode cX5_passing 281 = .ok (.ireturn, 1) := by decide +kernel
theorem wX5_passing : Mw yX5_passing cX5_passing 11 (some .int) 4 := ⟨q_799, q_123, by decide, ⟨by decide +kernel, by decide +kernel⟩, by decide +kernel, by decide +kernel⟩
-- a loop of EyeTrainer$Maps.passing at 187
def bX5_passing_187 (T : Sh) (x0 : Nat) (x5 : Option Nat) (x7 : Int32) (x8 : Int32) (x9 : Int32) (M : Me) : Option ((Int32 × Int32 × Me) ⊕ ((Int32 × Me))) :=
  if (24 : Int32) ≤ x9 then (some (.inr (x8, M))) else (gd (kd T x0 = 4) <| Option.bind (gR M x0 4) fun a41 => gd (kd T a41 = 13) <| gv (0 : Int32) (ln T a41) <| lt (pI M a41 (Int32.toNatClampNeg (0 : Int32)) x9) fun M44 => mo (x5) (Option.bind (fX5_isInPlainEye T M44 x0) fun r46 => if r46 = 0 then (lt (x8 ||| (0 : Int32)) fun v48 => lt (x9 + (1 : Int32)) fun v49 => some (.inl (v48, v49, M44))) else (lt (x8 ||| ((1 : Int32) <<< (x9 &&& 31))) fun v50 => lt (x9 + (1 : Int32)) fun v51 => some (.inl (v50, v51, M44)))) (fun a45 => Option.bind (gR M44 x0 4) fun a52 => Option.bind (gR M44 x0 5) fun a53 => gd (kd T a45 = 3) <| Option.bind (fX4_valueBy T M44 a45 a52 a53) <| un2 fun r55 M56 => if r55 = 0 then (if (0 : Int32) = 0 then (lt (x8 ||| (0 : Int32)) fun v59 => lt (x9 + (1 : Int32)) fun v60 => some (.inl (v59, v60, M56))) else (lt (x8 ||| ((1 : Int32) <<< (x9 &&& 31))) fun v61 => lt (x9 + (1 : Int32)) fun v62 => some (.inl (v61, v62, M56)))) else (if (1 : Int32) = 0 then (lt (x8 ||| (0 : Int32)) fun v64 => lt (x9 + (1 : Int32)) fun v65 => some (.inl (v64, v65, M56))) else (lt (x8 ||| ((1 : Int32) <<< (x9 &&& 31))) fun v66 => lt (x9 + (1 : Int32)) fun v67 => some (.inl (v66, v67, M56))))))
def PX5_passing_187 (X : Fx) (B : Bx) (Z : Nat × Nat × Nat × Nat) (Q : State → Prop) (T : Sh) (x0 : Nat) (x5 : Option Nat) (x7 : Int32) (s : Int32 × Int32 × Me) : Prop := G X B 11 Z Q 187 [(0, .ref (x0)), (5, va_rf (x5)), (7, .int (x7)), (8, .int (s.1)), (9, .int (s.2.1))] [] T s.2.2
def EX5_passing_187 (X : Fx) (B : Bx) (Z : Nat × Nat × Nat × Nat) (Q : State → Prop) (T : Sh) (x0 : Nat) (x5 : Option Nat) (x7 : Int32) (r : (Int32 × Me)) : Prop := G X B 11 Z Q 261 [(0, .ref (x0)), (7, .int (x7)), (8, .int (r.1))] [] T r.2
set_option maxHeartbeats 4000000 in
theorem tbX5_passing_187 {X : Fx} {B : Bx} {Z : Nat × Nat × Nat × Nat} {Q : State → Prop} {d : Nat} {T : Sh} (C : Cx X B cX5_passing 11 RX5 d Z) (hd : 2 ≤ d) {x0 : Nat} {x5 : Option Nat} {x7 : Int32} : ∀ (s : Int32 × Int32 × Me) (o : (Int32 × Int32 × Me) ⊕ ((Int32 × Me))), bX5_passing_187 T x0 x5 x7 s.1 s.2.1 s.2.2 = some o → lpE (PX5_passing_187 X B Z Q T x0 x5 x7) (EX5_passing_187 X B Z Q T x0 x5 x7) o → PX5_passing_187 X B Z Q T x0 x5 x7 s := by
  rintro ⟨x8, x9, M⟩ o h hE
  replace h : bX5_passing_187 T x0 x5 x7 x8 x9 M = some o := h
  unfold bX5_passing_187 at h
  show G X B 11 Z Q 187 [(0, .ref (x0)), (5, va_rf (x5)), (7, .int (x7)), (8, .int (x8)), (9, .int (x9))] [] T M
  refine g_iload (pc := 187) C dX5_passing_187 4 rfl ?_
  refine g_bipush (pc := 189) (v := 24) C dX5_passing_189 (by decide) ?_
  refine g_icmp_ge (pc := 191) (tgt := 261) C dX5_passing_191 (by decide) (fun c39 => ?_) (fun c39 => ?_)
  · replace h := ifp c39 h
    obtain rfl := Option.some.inj h
    exact g_sub [0, 2, 3] rfl (show G X B 11 Z Q 261 [(0, .ref (x0)), (7, .int (x7)), (8, .int (x8))] [] T M from hE)
  · replace h := ifn c39 h
    refine g_aload_n (pc := 194) C dX5_passing_194 rfl 0 rfl ?_
    replace h := gd_some h; obtain ⟨hk40, h⟩ := h
    refine g_get (pc := 195) (v := va_rf (gR M x0 4)) C dX5_passing_195 kX5 hk40 4 (by decide) q_292 rfl ?_
    replace h := bnd h; obtain ⟨a41, ea41, h⟩ := h
    refine g_refq ea41 ?_
    refine g_iconst (pc := 198) (v := 0) C dX5_passing_198 (by decide) ?_
    refine g_iload (pc := 199) C dX5_passing_199 4 rfl ?_
    replace h := gd_some h; obtain ⟨hk42, h⟩ := h
    replace h := gv_some h; obtain ⟨hi43, h⟩ := h
    refine g_iast (pc := 201) C dX5_passing_201 hk42 hi43 ?_
    refine g_mem (fun M44 eM44 => ?_)
    replace h := lt_at eM44 h
    refine g_aloadQ (pc := 202) C dX5_passing_202 1 rfl ?_
    refine g_ifnonnull (pc := 204) (tgt := 214) C dX5_passing_204 (by decide) (fun a45 ea45 => ?_) (fun ea45 => ?_)
    · replace h := mo_some2 ea45 h
      subst ea45
      refine g_aload (pc := 214) C dX5_passing_214 1 rfl ?_
      refine g_aload_n (pc := 216) C dX5_passing_216 rfl 0 rfl ?_
      refine g_get (pc := 217) (v := va_rf (gR M44 x0 4)) C dX5_passing_217 kX5 hk40 4 (by decide) q_292 rfl ?_
      replace h := bnd h; obtain ⟨a52, ea52, h⟩ := h
      refine g_refq ea52 ?_
      refine g_aload_n (pc := 220) C dX5_passing_220 rfl 0 rfl ?_
      refine g_get (pc := 221) (v := va_rf (gR M44 x0 5)) C dX5_passing_221 kX5 hk40 5 (by decide) q_293 rfl ?_
      replace h := bnd h; obtain ⟨a53, ea53, h⟩ := h
      refine g_refq ea53 ?_
      replace h := gd_some h; obtain ⟨hk54, h⟩ := h
      replace h := bnd2 h; obtain ⟨r55, M56, h1, h⟩ := h
      refine g_callVi (pc := 224) (As := [.ref (a52), .ref (a53)]) (st := []) C dX5_passing_224 wX4_valueBy hk54 rfl (by decide) q_787 q_788 q_786 (by omega) rfl (Nat.le_of_ble_eq_true rfl) (kX4_valueBy (d := 0) (Nat.le_refl _) h1) ?_
      refine g_if_eq (pc := 227) (tgt := 234) C dX5_passing_227 (by decide) (fun c57 => ?_) (fun c57 => ?_)
      · replace h := ifp c57 h
        refine g_iconst (pc := 234) (v := 0) C dX5_passing_234 (by decide) ?_
        refine g_istore (pc := 235) (lo2 := [(10, .int ((0 : Int32))), (0, .ref (x0)), (5, .ref (a45)), (7, .int (x7)), (8, .int (x8)), (9, .int (x9))]) C dX5_passing_235 (by decide) rfl ?_
        refine g_iload (pc := 237) C dX5_passing_237 4 rfl ?_
        refine g_iload (pc := 239) C dX5_passing_239 0 rfl ?_
        refine g_if_eq (pc := 241) (tgt := 251) C dX5_passing_241 (by decide) (fun c58 => ?_) (fun c58 => ?_)
        · replace h := ifp c58 h
          refine g_iconst (pc := 251) (v := 0) C dX5_passing_251 (by decide) ?_
          refine g_ior (pc := 252) C dX5_passing_252 ?_
          refine g_topi (fun v59 ev59 => ?_)
          replace h := lt_at ev59 h
          refine g_istore (pc := 253) (lo2 := [(8, .int (v59)), (10, .int ((0 : Int32))), (0, .ref (x0)), (5, .ref (a45)), (7, .int (x7)), (9, .int (x9))]) C dX5_passing_253 (by decide) rfl ?_
          obtain ⟨v60, ev60⟩ : ∃ y : Int32, y = x9 + (1 : Int32) := ⟨_, rfl⟩
          replace h := lt_at ev60 h
          refine g_iinc (pc := 255) (v := v60) (k := 5) (lo2 := [(9, .int (v60)), (8, .int (v59)), (10, .int ((0 : Int32))), (0, .ref (x0)), (5, .ref (a45)), (7, .int (x7))]) C dX5_passing_255 rfl (by rw [ev60]; rfl) (by decide) rfl ?_
          refine g_goto (pc := 258) (tgt := 187) C dX5_passing_258 (by decide) ?_
          obtain rfl := Option.some.inj h
          exact g_sub [3, 4, 5, 1, 0] rfl (show G X B 11 Z Q 187 [(0, .ref (x0)), (5, .ref (a45)), (7, .int (x7)), (8, .int (v59)), (9, .int (v60))] [] T M56 from hE)
        · replace h := ifn c58 h
          refine g_iconst (pc := 244) (v := 1) C dX5_passing_244 (by decide) ?_
          refine g_iload (pc := 245) C dX5_passing_245 5 rfl ?_
          refine g_ishl (pc := 247) C dX5_passing_247 ?_
          refine g_goto (pc := 248) (tgt := 252) C dX5_passing_248 (by decide) ?_
          refine g_ior (pc := 252) C dX5_passing_252 ?_
          refine g_topi (fun v61 ev61 => ?_)
          replace h := lt_at ev61 h
          refine g_istore (pc := 253) (lo2 := [(8, .int (v61)), (10, .int ((0 : Int32))), (0, .ref (x0)), (5, .ref (a45)), (7, .int (x7)), (9, .int (x9))]) C dX5_passing_253 (by decide) rfl ?_
          obtain ⟨v62, ev62⟩ : ∃ y : Int32, y = x9 + (1 : Int32) := ⟨_, rfl⟩
          replace h := lt_at ev62 h
          refine g_iinc (pc := 255) (v := v62) (k := 5) (lo2 := [(9, .int (v62)), (8, .int (v61)), (10, .int ((0 : Int32))), (0, .ref (x0)), (5, .ref (a45)), (7, .int (x7))]) C dX5_passing_255 rfl (by rw [ev62]; rfl) (by decide) rfl ?_
          refine g_goto (pc := 258) (tgt := 187) C dX5_passing_258 (by decide) ?_
          obtain rfl := Option.some.inj h
          exact g_sub [3, 4, 5, 1, 0] rfl (show G X B 11 Z Q 187 [(0, .ref (x0)), (5, .ref (a45)), (7, .int (x7)), (8, .int (v61)), (9, .int (v62))] [] T M56 from hE)
      · replace h := ifn c57 h
        refine g_iconst (pc := 230) (v := 1) C dX5_passing_230 (by decide) ?_
        refine g_goto (pc := 231) (tgt := 235) C dX5_passing_231 (by decide) ?_
        refine g_istore (pc := 235) (lo2 := [(10, .int ((1 : Int32))), (0, .ref (x0)), (5, .ref (a45)), (7, .int (x7)), (8, .int (x8)), (9, .int (x9))]) C dX5_passing_235 (by decide) rfl ?_
        refine g_iload (pc := 237) C dX5_passing_237 4 rfl ?_
        refine g_iload (pc := 239) C dX5_passing_239 0 rfl ?_
        refine g_if_eq (pc := 241) (tgt := 251) C dX5_passing_241 (by decide) (fun c63 => ?_) (fun c63 => ?_)
        · replace h := ifp c63 h
          refine g_iconst (pc := 251) (v := 0) C dX5_passing_251 (by decide) ?_
          refine g_ior (pc := 252) C dX5_passing_252 ?_
          refine g_topi (fun v64 ev64 => ?_)
          replace h := lt_at ev64 h
          refine g_istore (pc := 253) (lo2 := [(8, .int (v64)), (10, .int ((1 : Int32))), (0, .ref (x0)), (5, .ref (a45)), (7, .int (x7)), (9, .int (x9))]) C dX5_passing_253 (by decide) rfl ?_
          obtain ⟨v65, ev65⟩ : ∃ y : Int32, y = x9 + (1 : Int32) := ⟨_, rfl⟩
          replace h := lt_at ev65 h
          refine g_iinc (pc := 255) (v := v65) (k := 5) (lo2 := [(9, .int (v65)), (8, .int (v64)), (10, .int ((1 : Int32))), (0, .ref (x0)), (5, .ref (a45)), (7, .int (x7))]) C dX5_passing_255 rfl (by rw [ev65]; rfl) (by decide) rfl ?_
          refine g_goto (pc := 258) (tgt := 187) C dX5_passing_258 (by decide) ?_
          obtain rfl := Option.some.inj h
          exact g_sub [3, 4, 5, 1, 0] rfl (show G X B 11 Z Q 187 [(0, .ref (x0)), (5, .ref (a45)), (7, .int (x7)), (8, .int (v64)), (9, .int (v65))] [] T M56 from hE)
        · replace h := ifn c63 h
          refine g_iconst (pc := 244) (v := 1) C dX5_passing_244 (by decide) ?_
          refine g_iload (pc := 245) C dX5_passing_245 5 rfl ?_
          refine g_ishl (pc := 247) C dX5_passing_247 ?_
          refine g_goto (pc := 248) (tgt := 252) C dX5_passing_248 (by decide) ?_
          refine g_ior (pc := 252) C dX5_passing_252 ?_
          refine g_topi (fun v66 ev66 => ?_)
          replace h := lt_at ev66 h
          refine g_istore (pc := 253) (lo2 := [(8, .int (v66)), (10, .int ((1 : Int32))), (0, .ref (x0)), (5, .ref (a45)), (7, .int (x7)), (9, .int (x9))]) C dX5_passing_253 (by decide) rfl ?_
          obtain ⟨v67, ev67⟩ : ∃ y : Int32, y = x9 + (1 : Int32) := ⟨_, rfl⟩
          replace h := lt_at ev67 h
          refine g_iinc (pc := 255) (v := v67) (k := 5) (lo2 := [(9, .int (v67)), (8, .int (v66)), (10, .int ((1 : Int32))), (0, .ref (x0)), (5, .ref (a45)), (7, .int (x7))]) C dX5_passing_255 rfl (by rw [ev67]; rfl) (by decide) rfl ?_
          refine g_goto (pc := 258) (tgt := 187) C dX5_passing_258 (by decide) ?_
          obtain rfl := Option.some.inj h
          exact g_sub [3, 4, 5, 1, 0] rfl (show G X B 11 Z Q 187 [(0, .ref (x0)), (5, .ref (a45)), (7, .int (x7)), (8, .int (v66)), (9, .int (v67))] [] T M56 from hE)
    · replace h := mo_none2 ea45 h
      subst ea45
      refine g_aload_n (pc := 207) C dX5_passing_207 rfl 0 rfl ?_
      replace h := bnd h; obtain ⟨r46, h1, h⟩ := h
      refine g_callVi (pc := 208) (As := []) (st := []) C dX5_passing_208 wX5_isInPlainEye hk40 rfl (by decide) q_803 q_23 q_801 (by omega) rfl (Nat.le_of_ble_eq_true rfl) (kX5_isInPlainEye (d := 1) (Nat.le_refl _) h1) ?_
      refine g_goto (pc := 211) (tgt := 235) C dX5_passing_211 (by decide) ?_
      refine g_istore (pc := 235) (lo2 := [(10, .int (r46)), (0, .ref (x0)), (5, va_rf (none)), (7, .int (x7)), (8, .int (x8)), (9, .int (x9))]) C dX5_passing_235 (by decide) rfl ?_
      refine g_iload (pc := 237) C dX5_passing_237 4 rfl ?_
      refine g_iload (pc := 239) C dX5_passing_239 0 rfl ?_
      refine g_if_eq (pc := 241) (tgt := 251) C dX5_passing_241 (by decide) (fun c47 => ?_) (fun c47 => ?_)
      · replace h := ifp c47 h
        refine g_iconst (pc := 251) (v := 0) C dX5_passing_251 (by decide) ?_
        refine g_ior (pc := 252) C dX5_passing_252 ?_
        refine g_topi (fun v48 ev48 => ?_)
        replace h := lt_at ev48 h
        refine g_istore (pc := 253) (lo2 := [(8, .int (v48)), (10, .int (r46)), (0, .ref (x0)), (5, va_rf (none)), (7, .int (x7)), (9, .int (x9))]) C dX5_passing_253 (by decide) rfl ?_
        obtain ⟨v49, ev49⟩ : ∃ y : Int32, y = x9 + (1 : Int32) := ⟨_, rfl⟩
        replace h := lt_at ev49 h
        refine g_iinc (pc := 255) (v := v49) (k := 5) (lo2 := [(9, .int (v49)), (8, .int (v48)), (10, .int (r46)), (0, .ref (x0)), (5, va_rf (none)), (7, .int (x7))]) C dX5_passing_255 rfl (by rw [ev49]; rfl) (by decide) rfl ?_
        refine g_goto (pc := 258) (tgt := 187) C dX5_passing_258 (by decide) ?_
        obtain rfl := Option.some.inj h
        exact g_sub [3, 4, 5, 1, 0] rfl (show G X B 11 Z Q 187 [(0, .ref (x0)), (5, va_rf (none)), (7, .int (x7)), (8, .int (v48)), (9, .int (v49))] [] T M44 from hE)
      · replace h := ifn c47 h
        refine g_iconst (pc := 244) (v := 1) C dX5_passing_244 (by decide) ?_
        refine g_iload (pc := 245) C dX5_passing_245 5 rfl ?_
        refine g_ishl (pc := 247) C dX5_passing_247 ?_
        refine g_goto (pc := 248) (tgt := 252) C dX5_passing_248 (by decide) ?_
        refine g_ior (pc := 252) C dX5_passing_252 ?_
        refine g_topi (fun v50 ev50 => ?_)
        replace h := lt_at ev50 h
        refine g_istore (pc := 253) (lo2 := [(8, .int (v50)), (10, .int (r46)), (0, .ref (x0)), (5, va_rf (none)), (7, .int (x7)), (9, .int (x9))]) C dX5_passing_253 (by decide) rfl ?_
        obtain ⟨v51, ev51⟩ : ∃ y : Int32, y = x9 + (1 : Int32) := ⟨_, rfl⟩
        replace h := lt_at ev51 h
        refine g_iinc (pc := 255) (v := v51) (k := 5) (lo2 := [(9, .int (v51)), (8, .int (v50)), (10, .int (r46)), (0, .ref (x0)), (5, va_rf (none)), (7, .int (x7))]) C dX5_passing_255 rfl (by rw [ev51]; rfl) (by decide) rfl ?_
        refine g_goto (pc := 258) (tgt := 187) C dX5_passing_258 (by decide) ?_
        obtain rfl := Option.some.inj h
        exact g_sub [3, 4, 5, 1, 0] rfl (show G X B 11 Z Q 187 [(0, .ref (x0)), (5, va_rf (none)), (7, .int (x7)), (8, .int (v50)), (9, .int (v51))] [] T M44 from hE)
def jX5_passing_109 (T : Sh) (M : Me) (x0 : Nat) (x1 : Int32) (x2 : Int32) (x3 : Int32) (x4 : Int32) (x5 : Option Nat) (s0 : Int32) (s1 : Int32) : Option (Int32 × Me) :=
  lt (s1 + s0) fun v12 => gd (kd T x0 = 4) <| Option.bind (gR M x0 2) fun a14 => gd (kd T a14 = 14) <| gv v12 (ln T a14) <| if (lg_cmp ((gJ M a14 (Int32.toNatClampNeg v12)) >>> (Int32.toInt64 (24 : Int32) &&& 63)) (gJ M x0 3)) = 0 then (Option.bind (gR M x0 2) fun a74 => gd (kd T a74 = 14) <| gv v12 (ln T a74) <| some (((Int64.toInt32 (gJ M a74 (Int32.toNatClampNeg v12))) &&& (16777215 : Int32)), M)) else (Option.bind (gR M x0 4) fun a18 => gd (kd T a18 = 13) <| gv (1 : Int32) (ln T a18) <| lt (pI M a18 (Int32.toNatClampNeg (1 : Int32)) x4) fun M21 => Option.bind (gR M21 x0 4) fun a22 => gd (kd T a22 = 13) <| gv (2 : Int32) (ln T a22) <| lt (pI M21 a22 (Int32.toNatClampNeg (2 : Int32)) x1) fun M25 => Option.bind (gR M25 x0 4) fun a26 => Option.bind (gR M25 x0 0) fun a27 => gd (kd T a27 = 2) <| Option.bind (gR M25 a27 4) fun a29 => gd (kd T a29 = 13) <| gv (x2 + (1 : Int32)) (ln T a29) <| gd (kd T a26 = 13) <| gv (3 : Int32) (ln T a26) <| lt (pI M25 a26 (Int32.toNatClampNeg (3 : Int32)) (gI M25 a29 (Int32.toNatClampNeg (x2 + (1 : Int32))))) fun M34 => Option.bind (gR M34 x0 4) fun a35 => gd (kd T a35 = 13) <| gv (4 : Int32) (ln T a35) <| lt (pI M34 a35 (Int32.toNatClampNeg (4 : Int32)) x3) fun M38 => (lp FU (fun s => bX5_passing_187 T x0 x5 v12 s.1 s.2.1 s.2.2) ((0 : Int32), (0 : Int32), M38)).bind (un2 fun x8_68 M69 => Option.bind (gR M69 x0 2) fun a70 => gd (kd T a70 = 14) <| gv v12 (ln T a70) <| lt (pJ M69 a70 (Int32.toNatClampNeg v12) (((gJ M69 x0 3) <<< (Int32.toInt64 (24 : Int32) &&& 63)) ||| (Int32.toInt64 x8_68))) fun M73 => some (x8_68, M73)))
set_option maxHeartbeats 4000000 in
theorem tjX5_passing_109 {X : Fx} {B : Bx} {Z : Nat × Nat × Nat × Nat} {d : Nat} {T : Sh} {M : Me} {x0 : Nat} {x1 : Int32} {x2 : Int32} {x3 : Int32} {x4 : Int32} {x5 : Option Nat} {s0 : Int32} {s1 : Int32} {r : Int32} {M' : Me} (C : Cx X B cX5_passing 11 RX5 d Z) (hR : Rx X (some .int)) (hd : 2 ≤ d) (h : jX5_passing_109 T M x0 x1 x2 x3 x4 x5 s0 s1 = some (r, M')) : G X B 11 Z (Qf X B Z (some (.int r)) T M') 109 [(0, .ref (x0)), (1, .int (x1)), (2, .int (x2)), (3, .int (x3)), (4, .int (x4)), (5, va_rf (x5))] [.int (s0), .int (s1)] T M := by
  unfold jX5_passing_109 at h
  refine g_iadd (pc := 109) C dX5_passing_109 ?_
  refine g_topi (fun v12 ev12 => ?_)
  replace h := lt_at ev12 h
  refine g_istore (pc := 110) (lo2 := [(7, .int (v12)), (0, .ref (x0)), (1, .int (x1)), (2, .int (x2)), (3, .int (x3)), (4, .int (x4)), (5, va_rf (x5))]) C dX5_passing_110 (by decide) rfl ?_
  refine g_aload_n (pc := 112) C dX5_passing_112 rfl 1 rfl ?_
  replace h := gd_some h; obtain ⟨hk13, h⟩ := h
  refine g_get (pc := 113) (v := va_rf (gR M x0 2)) C dX5_passing_113 kX5 hk13 2 (by decide) q_290 rfl ?_
  replace h := bnd h; obtain ⟨a14, ea14, h⟩ := h
  refine g_refq ea14 ?_
  refine g_iload (pc := 116) C dX5_passing_116 0 rfl ?_
  replace h := gd_some h; obtain ⟨hk15, h⟩ := h
  replace h := gv_some h; obtain ⟨hi16, h⟩ := h
  refine g_lald (pc := 118) C dX5_passing_118 hk15 hi16 ?_
  refine g_bipush (pc := 119) (v := 24) C dX5_passing_119 (by decide) ?_
  refine g_lshr (pc := 121) C dX5_passing_121 ?_
  refine g_aload_n (pc := 122) C dX5_passing_122 rfl 1 rfl ?_
  refine g_get (pc := 123) (v := .long (gJ M x0 3)) C dX5_passing_123 kX5 hk13 3 (by decide) q_291 rfl ?_
  refine g_lcmp (pc := 126) C dX5_passing_126 ?_
  refine g_if_ne (pc := 127) (tgt := 142) C dX5_passing_127 (by decide) (fun c17 => ?_) (fun c17 => ?_)
  · replace h := ifn c17 h
    refine g_aload_n (pc := 142) C dX5_passing_142 rfl 1 rfl ?_
    refine g_get (pc := 143) (v := va_rf (gR M x0 4)) C dX5_passing_143 kX5 hk13 4 (by decide) q_292 rfl ?_
    replace h := bnd h; obtain ⟨a18, ea18, h⟩ := h
    refine g_refq ea18 ?_
    refine g_iconst (pc := 146) (v := 1) C dX5_passing_146 (by decide) ?_
    refine g_iload (pc := 147) C dX5_passing_147 5 rfl ?_
    replace h := gd_some h; obtain ⟨hk19, h⟩ := h
    replace h := gv_some h; obtain ⟨hi20, h⟩ := h
    refine g_iast (pc := 149) C dX5_passing_149 hk19 hi20 ?_
    refine g_mem (fun M21 eM21 => ?_)
    replace h := lt_at eM21 h
    refine g_aload_n (pc := 150) C dX5_passing_150 rfl 1 rfl ?_
    refine g_get (pc := 151) (v := va_rf (gR M21 x0 4)) C dX5_passing_151 kX5 hk13 4 (by decide) q_292 rfl ?_
    replace h := bnd h; obtain ⟨a22, ea22, h⟩ := h
    refine g_refq ea22 ?_
    refine g_iconst (pc := 154) (v := 2) C dX5_passing_154 (by decide) ?_
    refine g_iload_n (pc := 155) C dX5_passing_155 rfl 2 rfl ?_
    replace h := gd_some h; obtain ⟨hk23, h⟩ := h
    replace h := gv_some h; obtain ⟨hi24, h⟩ := h
    refine g_iast (pc := 156) C dX5_passing_156 hk23 hi24 ?_
    refine g_mem (fun M25 eM25 => ?_)
    replace h := lt_at eM25 h
    refine g_aload_n (pc := 157) C dX5_passing_157 rfl 1 rfl ?_
    refine g_get (pc := 158) (v := va_rf (gR M25 x0 4)) C dX5_passing_158 kX5 hk13 4 (by decide) q_292 rfl ?_
    replace h := bnd h; obtain ⟨a26, ea26, h⟩ := h
    refine g_refq ea26 ?_
    refine g_iconst (pc := 161) (v := 3) C dX5_passing_161 (by decide) ?_
    refine g_aload_n (pc := 162) C dX5_passing_162 rfl 1 rfl ?_
    refine g_get (pc := 163) (v := va_rf (gR M25 x0 0)) C dX5_passing_163 kX5 hk13 0 (by decide) q_287 rfl ?_
    replace h := bnd h; obtain ⟨a27, ea27, h⟩ := h
    refine g_refq ea27 ?_
    replace h := gd_some h; obtain ⟨hk28, h⟩ := h
    refine g_get (pc := 166) (v := va_rf (gR M25 a27 4)) C dX5_passing_166 kX3 hk28 4 (by decide) q_232 rfl ?_
    replace h := bnd h; obtain ⟨a29, ea29, h⟩ := h
    refine g_refq ea29 ?_
    refine g_iload_n (pc := 169) C dX5_passing_169 rfl 3 rfl ?_
    refine g_iconst (pc := 170) (v := 1) C dX5_passing_170 (by decide) ?_
    refine g_iadd (pc := 171) C dX5_passing_171 ?_
    replace h := gd_some h; obtain ⟨hk30, h⟩ := h
    replace h := gv_some h; obtain ⟨hi31, h⟩ := h
    refine g_iald (pc := 172) C dX5_passing_172 hk30 hi31 ?_
    replace h := gd_some h; obtain ⟨hk32, h⟩ := h
    replace h := gv_some h; obtain ⟨hi33, h⟩ := h
    refine g_iast (pc := 173) C dX5_passing_173 hk32 hi33 ?_
    refine g_mem (fun M34 eM34 => ?_)
    replace h := lt_at eM34 h
    refine g_aload_n (pc := 174) C dX5_passing_174 rfl 1 rfl ?_
    refine g_get (pc := 175) (v := va_rf (gR M34 x0 4)) C dX5_passing_175 kX5 hk13 4 (by decide) q_292 rfl ?_
    replace h := bnd h; obtain ⟨a35, ea35, h⟩ := h
    refine g_refq ea35 ?_
    refine g_iconst (pc := 178) (v := 4) C dX5_passing_178 (by decide) ?_
    refine g_iload_n (pc := 179) C dX5_passing_179 rfl 4 rfl ?_
    replace h := gd_some h; obtain ⟨hk36, h⟩ := h
    replace h := gv_some h; obtain ⟨hi37, h⟩ := h
    refine g_iast (pc := 180) C dX5_passing_180 hk36 hi37 ?_
    refine g_mem (fun M38 eM38 => ?_)
    replace h := lt_at eM38 h
    refine g_iconst (pc := 181) (v := 0) C dX5_passing_181 (by decide) ?_
    refine g_istore (pc := 182) (lo2 := [(8, .int ((0 : Int32))), (7, .int (v12)), (0, .ref (x0)), (1, .int (x1)), (2, .int (x2)), (3, .int (x3)), (4, .int (x4)), (5, va_rf (x5))]) C dX5_passing_182 (by decide) rfl ?_
    refine g_iconst (pc := 184) (v := 0) C dX5_passing_184 (by decide) ?_
    refine g_istore (pc := 185) (lo2 := [(9, .int ((0 : Int32))), (8, .int ((0 : Int32))), (7, .int (v12)), (0, .ref (x0)), (1, .int (x1)), (2, .int (x2)), (3, .int (x3)), (4, .int (x4)), (5, va_rf (x5))]) C dX5_passing_185 (by decide) rfl ?_
    replace h := bnd2 h; obtain ⟨x8_68, M69, h1, h⟩ := h
    refine g_sub [3, 8, 2, 1, 0] rfl ?_
    refine lp_G2 (P := PX5_passing_187 X B _ _ T x0 x5 v12) (E := EX5_passing_187 X B _ _ T x0 x5 v12) (tbX5_passing_187 C hd) h1 ?_
    show G X B 11 _ _ 261 [(0, .ref (x0)), (7, .int (v12)), (8, .int (x8_68))] [] T M69
    refine g_aload_n (pc := 261) C dX5_passing_261 rfl 0 rfl ?_
    refine g_get (pc := 262) (v := va_rf (gR M69 x0 2)) C dX5_passing_262 kX5 hk13 2 (by decide) q_290 rfl ?_
    replace h := bnd h; obtain ⟨a70, ea70, h⟩ := h
    refine g_refq ea70 ?_
    refine g_iload (pc := 265) C dX5_passing_265 1 rfl ?_
    refine g_aload_n (pc := 267) C dX5_passing_267 rfl 0 rfl ?_
    refine g_get (pc := 268) (v := .long (gJ M69 x0 3)) C dX5_passing_268 kX5 hk13 3 (by decide) q_291 rfl ?_
    refine g_bipush (pc := 271) (v := 24) C dX5_passing_271 (by decide) ?_
    refine g_lshl (pc := 273) C dX5_passing_273 ?_
    refine g_iload (pc := 274) C dX5_passing_274 2 rfl ?_
    refine g_i2l (pc := 276) C dX5_passing_276 ?_
    refine g_lor (pc := 277) C dX5_passing_277 ?_
    replace h := gd_some h; obtain ⟨hk71, h⟩ := h
    replace h := gv_some h; obtain ⟨hi72, h⟩ := h
    refine g_last (pc := 278) C dX5_passing_278 hk71 hi72 ?_
    refine g_mem (fun M73 eM73 => ?_)
    replace h := lt_at eM73 h
    refine g_iload (pc := 279) C dX5_passing_279 2 rfl ?_
    obtain ⟨rfl, rfl⟩ := Prod.mk.inj (Option.some.inj h)
    exact g_iret C hR dX5_passing_281
  · replace h := ifp c17 h
    refine g_aload_n (pc := 130) C dX5_passing_130 rfl 1 rfl ?_
    refine g_get (pc := 131) (v := va_rf (gR M x0 2)) C dX5_passing_131 kX5 hk13 2 (by decide) q_290 rfl ?_
    replace h := bnd h; obtain ⟨a74, ea74, h⟩ := h
    refine g_refq ea74 ?_
    refine g_iload (pc := 134) C dX5_passing_134 0 rfl ?_
    replace h := gd_some h; obtain ⟨hk75, h⟩ := h
    replace h := gv_some h; obtain ⟨hi76, h⟩ := h
    refine g_lald (pc := 136) C dX5_passing_136 hk75 hi76 ?_
    refine g_l2i (pc := 137) C dX5_passing_137 ?_
    refine g_ldc (pc := 138) C dX5_passing_138 q_800 ?_
    refine g_iand (pc := 140) C dX5_passing_140 ?_
    obtain ⟨rfl, rfl⟩ := Prod.mk.inj (Option.some.inj h)
    exact g_iret C hR dX5_passing_141
def jX5_passing_86 (T : Sh) (M : Me) (x0 : Nat) (x1 : Int32) (x2 : Int32) (x3 : Int32) (x4 : Int32) (x5 : Option Nat) (x6 : Int32) (s0 : Int32) (s1 : Int32) : Option (Int32 × Me) :=
  lt (s1 + s0) fun v10 => if ((x6 >>> ((1 : Int32) &&& 31)) &&& (1 : Int32)) = 0 then (jX5_passing_109 T M x0 x1 x2 x3 x4 x5 (0 : Int32) (v10 * (16 : Int32))) else (jX5_passing_109 T M x0 x1 x2 x3 x4 x5 x4 (v10 * (16 : Int32)))
set_option maxHeartbeats 4000000 in
theorem tjX5_passing_86 {X : Fx} {B : Bx} {Z : Nat × Nat × Nat × Nat} {d : Nat} {T : Sh} {M : Me} {x0 : Nat} {x1 : Int32} {x2 : Int32} {x3 : Int32} {x4 : Int32} {x5 : Option Nat} {x6 : Int32} {s0 : Int32} {s1 : Int32} {r : Int32} {M' : Me} (C : Cx X B cX5_passing 11 RX5 d Z) (hR : Rx X (some .int)) (hd : 2 ≤ d) (h : jX5_passing_86 T M x0 x1 x2 x3 x4 x5 x6 s0 s1 = some (r, M')) : G X B 11 Z (Qf X B Z (some (.int r)) T M') 86 [(0, .ref (x0)), (1, .int (x1)), (2, .int (x2)), (3, .int (x3)), (4, .int (x4)), (5, va_rf (x5)), (6, .int (x6))] [.int (s0), .int (s1)] T M := by
  unfold jX5_passing_86 at h
  refine g_iadd (pc := 86) C dX5_passing_86 ?_
  refine g_topi (fun v10 ev10 => ?_)
  replace h := lt_at ev10 h
  refine g_istore (pc := 87) (lo2 := [(7, .int (v10)), (0, .ref (x0)), (1, .int (x1)), (2, .int (x2)), (3, .int (x3)), (4, .int (x4)), (5, va_rf (x5)), (6, .int (x6))]) C dX5_passing_87 (by decide) rfl ?_
  refine g_iload (pc := 89) C dX5_passing_89 0 rfl ?_
  refine g_bipush (pc := 91) (v := 16) C dX5_passing_91 (by decide) ?_
  refine g_imul (pc := 93) C dX5_passing_93 ?_
  refine g_iload (pc := 94) C dX5_passing_94 7 rfl ?_
  refine g_iconst (pc := 96) (v := 1) C dX5_passing_96 (by decide) ?_
  refine g_ishr (pc := 97) C dX5_passing_97 ?_
  refine g_iconst (pc := 98) (v := 1) C dX5_passing_98 (by decide) ?_
  refine g_iand (pc := 99) C dX5_passing_99 ?_
  refine g_if_ne (pc := 100) (tgt := 107) C dX5_passing_100 (by decide) (fun c11 => ?_) (fun c11 => ?_)
  · replace h := ifn c11 h
    refine g_iload (pc := 107) C dX5_passing_107 5 rfl ?_
    exact g_sub [1, 2, 3, 4, 5, 6] rfl (tjX5_passing_109 C hR hd h)
  · replace h := ifp c11 h
    refine g_iconst (pc := 103) (v := 0) C dX5_passing_103 (by decide) ?_
    refine g_goto (pc := 104) (tgt := 109) C dX5_passing_104 (by decide) ?_
    exact g_sub [1, 2, 3, 4, 5, 6] rfl (tjX5_passing_109 C hR hd h)
def jX5_passing_61 (T : Sh) (M : Me) (x0 : Nat) (x1 : Int32) (x2 : Int32) (x3 : Int32) (x4 : Int32) (x5 : Option Nat) (x6 : Int32) (s0 : Int32) (s1 : Int32) : Option (Int32 × Me) :=
  lt (s1 + s0) fun v8 => if ((x6 >>> ((4 : Int32) &&& 31)) &&& (1 : Int32)) = 0 then (jX5_passing_86 T M x0 x1 x2 x3 x4 x5 x6 (0 : Int32) (v8 * (31 : Int32))) else (jX5_passing_86 T M x0 x1 x2 x3 x4 x5 x6 (x3 + (15 : Int32)) (v8 * (31 : Int32)))
set_option maxHeartbeats 4000000 in
theorem tjX5_passing_61 {X : Fx} {B : Bx} {Z : Nat × Nat × Nat × Nat} {d : Nat} {T : Sh} {M : Me} {x0 : Nat} {x1 : Int32} {x2 : Int32} {x3 : Int32} {x4 : Int32} {x5 : Option Nat} {x6 : Int32} {s0 : Int32} {s1 : Int32} {r : Int32} {M' : Me} (C : Cx X B cX5_passing 11 RX5 d Z) (hR : Rx X (some .int)) (hd : 2 ≤ d) (h : jX5_passing_61 T M x0 x1 x2 x3 x4 x5 x6 s0 s1 = some (r, M')) : G X B 11 Z (Qf X B Z (some (.int r)) T M') 61 [(0, .ref (x0)), (1, .int (x1)), (2, .int (x2)), (3, .int (x3)), (4, .int (x4)), (5, va_rf (x5)), (6, .int (x6))] [.int (s0), .int (s1)] T M := by
  unfold jX5_passing_61 at h
  refine g_iadd (pc := 61) C dX5_passing_61 ?_
  refine g_topi (fun v8 ev8 => ?_)
  replace h := lt_at ev8 h
  refine g_istore (pc := 62) (lo2 := [(7, .int (v8)), (0, .ref (x0)), (1, .int (x1)), (2, .int (x2)), (3, .int (x3)), (4, .int (x4)), (5, va_rf (x5)), (6, .int (x6))]) C dX5_passing_62 (by decide) rfl ?_
  refine g_iload (pc := 64) C dX5_passing_64 0 rfl ?_
  refine g_bipush (pc := 66) (v := 31) C dX5_passing_66 (by decide) ?_
  refine g_imul (pc := 68) C dX5_passing_68 ?_
  refine g_iload (pc := 69) C dX5_passing_69 7 rfl ?_
  refine g_iconst (pc := 71) (v := 4) C dX5_passing_71 (by decide) ?_
  refine g_ishr (pc := 72) C dX5_passing_72 ?_
  refine g_iconst (pc := 73) (v := 1) C dX5_passing_73 (by decide) ?_
  refine g_iand (pc := 74) C dX5_passing_74 ?_
  refine g_if_ne (pc := 75) (tgt := 82) C dX5_passing_75 (by decide) (fun c9 => ?_) (fun c9 => ?_)
  · replace h := ifn c9 h
    refine g_iload_n (pc := 82) C dX5_passing_82 rfl 4 rfl ?_
    refine g_bipush (pc := 83) (v := 15) C dX5_passing_83 (by decide) ?_
    refine g_iadd (pc := 85) C dX5_passing_85 ?_
    exact g_sub [1, 2, 3, 4, 5, 6, 7] rfl (tjX5_passing_86 C hR hd h)
  · replace h := ifp c9 h
    refine g_iconst (pc := 78) (v := 0) C dX5_passing_78 (by decide) ?_
    refine g_goto (pc := 79) (tgt := 86) C dX5_passing_79 (by decide) ?_
    exact g_sub [1, 2, 3, 4, 5, 6, 7] rfl (tjX5_passing_86 C hR hd h)
def jX5_passing_39 (T : Sh) (M : Me) (x0 : Nat) (x1 : Int32) (x2 : Int32) (x3 : Int32) (x4 : Int32) (x5 : Option Nat) (x6 : Int32) (s0 : Int32) : Option (Int32 × Me) :=
  if ((x6 >>> ((3 : Int32) &&& 31)) &&& (1 : Int32)) = 0 then (jX5_passing_61 T M x0 x1 x2 x3 x4 x5 x6 (0 : Int32) (s0 * (5 : Int32))) else (jX5_passing_61 T M x0 x1 x2 x3 x4 x5 x6 (x2 + (1 : Int32)) (s0 * (5 : Int32)))
set_option maxHeartbeats 4000000 in
theorem tjX5_passing_39 {X : Fx} {B : Bx} {Z : Nat × Nat × Nat × Nat} {d : Nat} {T : Sh} {M : Me} {x0 : Nat} {x1 : Int32} {x2 : Int32} {x3 : Int32} {x4 : Int32} {x5 : Option Nat} {x6 : Int32} {s0 : Int32} {r : Int32} {M' : Me} (C : Cx X B cX5_passing 11 RX5 d Z) (hR : Rx X (some .int)) (hd : 2 ≤ d) (h : jX5_passing_39 T M x0 x1 x2 x3 x4 x5 x6 s0 = some (r, M')) : G X B 11 Z (Qf X B Z (some (.int r)) T M') 39 [(0, .ref (x0)), (1, .int (x1)), (2, .int (x2)), (3, .int (x3)), (4, .int (x4)), (5, va_rf (x5)), (6, .int (x6))] [.int (s0)] T M := by
  unfold jX5_passing_39 at h
  refine g_istore (pc := 39) (lo2 := [(7, .int (s0)), (0, .ref (x0)), (1, .int (x1)), (2, .int (x2)), (3, .int (x3)), (4, .int (x4)), (5, va_rf (x5)), (6, .int (x6))]) C dX5_passing_39 (by decide) rfl ?_
  refine g_iload (pc := 41) C dX5_passing_41 0 rfl ?_
  refine g_iconst (pc := 43) (v := 5) C dX5_passing_43 (by decide) ?_
  refine g_imul (pc := 44) C dX5_passing_44 ?_
  refine g_iload (pc := 45) C dX5_passing_45 7 rfl ?_
  refine g_iconst (pc := 47) (v := 3) C dX5_passing_47 (by decide) ?_
  refine g_ishr (pc := 48) C dX5_passing_48 ?_
  refine g_iconst (pc := 49) (v := 1) C dX5_passing_49 (by decide) ?_
  refine g_iand (pc := 50) C dX5_passing_50 ?_
  refine g_if_ne (pc := 51) (tgt := 58) C dX5_passing_51 (by decide) (fun c7 => ?_) (fun c7 => ?_)
  · replace h := ifn c7 h
    refine g_iload_n (pc := 58) C dX5_passing_58 rfl 3 rfl ?_
    refine g_iconst (pc := 59) (v := 1) C dX5_passing_59 (by decide) ?_
    refine g_iadd (pc := 60) C dX5_passing_60 ?_
    exact g_sub [1, 2, 3, 4, 5, 6, 7] rfl (tjX5_passing_61 C hR hd h)
  · replace h := ifp c7 h
    refine g_iconst (pc := 54) (v := 0) C dX5_passing_54 (by decide) ?_
    refine g_goto (pc := 55) (tgt := 61) C dX5_passing_55 (by decide) ?_
    exact g_sub [1, 2, 3, 4, 5, 6, 7] rfl (tjX5_passing_61 C hR hd h)
def jX5_passing_23 (T : Sh) (M : Me) (x0 : Nat) (x1 : Int32) (x2 : Int32) (x3 : Int32) (x4 : Int32) (x5 : Option Nat) (s0 : Int32) : Option (Int32 × Me) :=
  if ((s0 >>> ((2 : Int32) &&& 31)) &&& (1 : Int32)) = 0 then (jX5_passing_39 T M x0 x1 x2 x3 x4 x5 s0 (0 : Int32)) else (jX5_passing_39 T M x0 x1 x2 x3 x4 x5 s0 x1)
set_option maxHeartbeats 4000000 in
theorem tjX5_passing_23 {X : Fx} {B : Bx} {Z : Nat × Nat × Nat × Nat} {d : Nat} {T : Sh} {M : Me} {x0 : Nat} {x1 : Int32} {x2 : Int32} {x3 : Int32} {x4 : Int32} {x5 : Option Nat} {s0 : Int32} {r : Int32} {M' : Me} (C : Cx X B cX5_passing 11 RX5 d Z) (hR : Rx X (some .int)) (hd : 2 ≤ d) (h : jX5_passing_23 T M x0 x1 x2 x3 x4 x5 s0 = some (r, M')) : G X B 11 Z (Qf X B Z (some (.int r)) T M') 23 [(0, .ref (x0)), (1, .int (x1)), (2, .int (x2)), (3, .int (x3)), (4, .int (x4)), (5, va_rf (x5))] [.int (s0)] T M := by
  unfold jX5_passing_23 at h
  refine g_istore (pc := 23) (lo2 := [(6, .int (s0)), (0, .ref (x0)), (1, .int (x1)), (2, .int (x2)), (3, .int (x3)), (4, .int (x4)), (5, va_rf (x5))]) C dX5_passing_23 (by decide) (by simp [cat_rf]) ?_
  refine g_iload (pc := 25) C dX5_passing_25 0 rfl ?_
  refine g_iconst (pc := 27) (v := 2) C dX5_passing_27 (by decide) ?_
  refine g_ishr (pc := 28) C dX5_passing_28 ?_
  refine g_iconst (pc := 29) (v := 1) C dX5_passing_29 (by decide) ?_
  refine g_iand (pc := 30) C dX5_passing_30 ?_
  refine g_if_ne (pc := 31) (tgt := 38) C dX5_passing_31 (by decide) (fun c6 => ?_) (fun c6 => ?_)
  · replace h := ifn c6 h
    refine g_iload_n (pc := 38) C dX5_passing_38 rfl 2 rfl ?_
    exact g_sub [1, 2, 3, 4, 5, 6, 0] rfl (tjX5_passing_39 C hR hd h)
  · replace h := ifp c6 h
    refine g_iconst (pc := 34) (v := 0) C dX5_passing_34 (by decide) ?_
    refine g_goto (pc := 35) (tgt := 39) C dX5_passing_35 (by decide) ?_
    exact g_sub [1, 2, 3, 4, 5, 6, 0] rfl (tjX5_passing_39 C hR hd h)
/-- EyeTrainer$Maps.passing(IIII)I -/
def fX5_passing (T : Sh) (M : Me) (x0 : Nat) (x1 : Int32) (x2 : Int32) (x3 : Int32) (x4 : Int32) : Option (Int32 × Me) :=
  gd (kd T x0 = 4) <| Option.bind (gR M x0 0) fun a2 => gd (kd T a2 = 2) <| lt (gR M a2 10) fun v4 => mo (v4) (jX5_passing_23 T M x0 x1 x2 x3 x4 none (-1 : Int32)) (fun a5 => gd (kd T a5 = 3) <| jX5_passing_23 T M x0 x1 x2 x3 x4 a5 (gI M a5 1))
set_option maxHeartbeats 4000000 in
theorem kX5_passing {l : Launch} {B : Bx} {d : Nat} (hd : 2 ≤ d) {T : Sh} {M : Me} {x0 : Nat} {x1 : Int32} {x2 : Int32} {x3 : Int32} {x4 : Int32} {r : Int32} {M' : Me} (h : fX5_passing T M x0 x1 x2 x3 x4 = some (r, M')) : Kt l B yX5_passing cX5_passing 11 (some .int) d [.ref (x0), .int (x1), .int (x2), .int (x3), .int (x4)] T M (some (.int r)) T M' := by
  refine kt_of wX5_passing (Nat.le_refl _) (Nat.le_refl _) (Nat.le_of_ble_eq_true rfl) (fun X C hR hlx hin => ?_)
  subst hlx
  replace C : Cx X B cX5_passing 11 RX5 d (tp T, sl T, tp T, sl T) := C
  unfold fX5_passing at h
  show G X B 11 _ _ 0 [(0, .ref (x0)), (1, .int (x1)), (2, .int (x2)), (3, .int (x3)), (4, .int (x4))] [] T M
  refine g_aload_n (pc := 0) C dX5_passing_0 rfl 0 rfl ?_
  replace h := gd_some h; obtain ⟨hk1, h⟩ := h
  refine g_get (pc := 1) (v := va_rf (gR M x0 0)) C dX5_passing_1 kX5 hk1 0 (by decide) q_287 rfl ?_
  replace h := bnd h; obtain ⟨a2, ea2, h⟩ := h
  refine g_refq ea2 ?_
  replace h := gd_some h; obtain ⟨hk3, h⟩ := h
  refine g_get (pc := 4) (v := va_rf (gR M a2 10)) C dX5_passing_4 kX3 hk3 10 (by decide) q_248 rfl ?_
  refine g_topq (fun v4 ev4 => ?_)
  replace h := lt_at ev4 h
  refine g_astoreQ (pc := 7) (lo2 := [(5, va_rf (v4)), (0, .ref (x0)), (1, .int (x1)), (2, .int (x2)), (3, .int (x3)), (4, .int (x4))]) C dX5_passing_7 (by decide) rfl ?_
  refine g_aloadQ (pc := 9) C dX5_passing_9 0 rfl ?_
  refine g_ifnonnull (pc := 11) (tgt := 18) C dX5_passing_11 (by decide) (fun a5 ea5 => ?_) (fun ea5 => ?_)
  · replace h := mo_some2 ea5 h
    subst ea5
    refine g_aload (pc := 18) C dX5_passing_18 0 rfl ?_
    replace h := gd_some h; obtain ⟨hk77, h⟩ := h
    refine g_get (pc := 20) (v := .int (gI M a5 1)) C dX5_passing_20 kX4 hk77 1 (by decide) q_744 rfl ?_
    exact g_sub [1, 2, 3, 4, 5, 0] rfl (tjX5_passing_23 C hR hd h)
  · replace h := mo_none2 ea5 h
    subst ea5
    refine g_iconst (pc := 14) (v := (-1)) C dX5_passing_14 (by decide) ?_
    refine g_goto (pc := 15) (tgt := 23) C dX5_passing_15 (by decide) ?_
    exact g_sub [1, 2, 3, 4, 5, 0] rfl (tjX5_passing_23 C hR hd h)
theorem dX5_risenAt_0 : decode cX5_risenAt 0 = .ok (.aload_n 0, 1) := by decide +kernel
theorem dX5_risenAt_1 : decode cX5_risenAt 1 = .ok (.getfield 9, 3) := by decide +kernel
theorem dX5_risenAt_4 : decode cX5_risenAt 4 = .ok (.getfield 94, 3) := by decide +kernel
theorem dX5_risenAt_7 : decode cX5_risenAt 7 = .ok (.astore_n 3, 1) := by decide +kernel
theorem dX5_risenAt_8 : decode cX5_risenAt 8 = .ok (.aload_n 0, 1) := by decide +kernel
theorem dX5_risenAt_9 : decode cX5_risenAt 9 = .ok (.getfield 33, 3) := by decide +kernel
theorem dX5_risenAt_12 : decode cX5_risenAt 12 = .ok (.iconst 2, 1) := by decide +kernel
theorem dX5_risenAt_13 : decode cX5_risenAt 13 = .ok (.iload_n 1, 1) := by decide +kernel
theorem dX5_risenAt_14 : decode cX5_risenAt 14 = .ok (.iastore, 1) := by decide +kernel
theorem dX5_risenAt_15 : decode cX5_risenAt 15 = .ok (.aload_n 0, 1) := by decide +kernel
theorem dX5_risenAt_16 : decode cX5_risenAt 16 = .ok (.getfield 33, 3) := by decide +kernel
theorem dX5_risenAt_19 : decode cX5_risenAt 19 = .ok (.iconst 4, 1) := by decide +kernel
theorem dX5_risenAt_20 : decode cX5_risenAt 20 = .ok (.iload_n 2, 1) := by decide +kernel
theorem dX5_risenAt_21 : decode cX5_risenAt 21 = .ok (.iastore, 1) := by decide +kernel
theorem dX5_risenAt_22 : decode cX5_risenAt 22 = .ok (.iconst 0, 1) := by decide +kernel
theorem dX5_risenAt_23 : decode cX5_risenAt 23 = .ok (.istore 4, 2) := by decide +kernel
theorem dX5_risenAt_25 : decode cX5_risenAt 25 = .ok (.iconst 0, 1) := by decide +kernel
theorem dX5_risenAt_26 : decode cX5_risenAt 26 = .ok (.istore 5, 2) := by decide +kernel
theorem dX5_risenAt_28 : decode cX5_risenAt 28 = .ok (.iload 5, 2) := by decide +kernel
theorem dX5_risenAt_30 : decode cX5_risenAt 30 = .ok (.bipush 24, 2) := by decide +kernel
theorem dX5_risenAt_32 : decode cX5_risenAt 32 = .ok (.if_icmp .ge 85, 3) := by decide +kernel
theorem dX5_risenAt_35 : decode cX5_risenAt 35 = .ok (.aload_n 0, 1) := by decide +kernel
theorem dX5_risenAt_36 : decode cX5_risenAt 36 = .ok (.getfield 33, 3) := by decide +kernel
theorem dX5_risenAt_39 : decode cX5_risenAt 39 = .ok (.iconst 0, 1) := by decide +kernel
theorem dX5_risenAt_40 : decode cX5_risenAt 40 = .ok (.iload 5, 2) := by decide +kernel
theorem dX5_risenAt_42 : decode cX5_risenAt 42 = .ok (.iastore, 1) := by decide +kernel
theorem dX5_risenAt_43 : decode cX5_risenAt 43 = .ok (.aload_n 3, 1) := by decide +kernel
theorem dX5_risenAt_44 : decode cX5_risenAt 44 = .ok (.ifnonnull 27, 3) := by decide +kernel
theorem dX5_risenAt_47 : decode cX5_risenAt 47 = .ok (.iload 5, 2) := by decide +kernel
theorem dX5_risenAt_49 : decode cX5_risenAt 49 = .ok (.aload_n 0, 1) := by decide +kernel
theorem dX5_risenAt_50 : decode cX5_risenAt 50 = .ok (.getfield 9, 3) := by decide +kernel
theorem dX5_risenAt_53 : decode cX5_risenAt 53 = .ok (.getfield 84, 3) := by decide +kernel
theorem dX5_risenAt_56 : decode cX5_risenAt 56 = .ok (.iload_n 1, 1) := by decide +kernel
theorem dX5_risenAt_57 : decode cX5_risenAt 57 = .ok (.iaload, 1) := by decide +kernel
theorem dX5_risenAt_58 : decode cX5_risenAt 58 = .ok (.iload_n 2, 1) := by decide +kernel
theorem dX5_risenAt_59 : decode cX5_risenAt 59 = .ok (.iadd, 1) := by decide +kernel
theorem dX5_risenAt_60 : decode cX5_risenAt 60 = .ok (.if_icmp .lt 7, 3) := by decide +kernel
theorem dX5_risenAt_63 : decode cX5_risenAt 63 = .ok (.iconst 1, 1) := by decide +kernel
theorem dX5_risenAt_64 : decode cX5_risenAt 64 = .ok (.goto 27, 3) := by decide +kernel
theorem dX5_risenAt_67 : decode cX5_risenAt 67 = .ok (.iconst 0, 1) := by decide +kernel
theorem dX5_risenAt_68 : decode cX5_risenAt 68 = .ok (.goto 23, 3) := by decide +kernel
theorem dX5_risenAt_71 : decode cX5_risenAt 71 = .ok (.aload_n 3, 1) := by decide +kernel
theorem dX5_risenAt_72 : decode cX5_risenAt 72 = .ok (.aload_n 0, 1) := by decide +kernel
theorem dX5_risenAt_73 : decode cX5_risenAt 73 = .ok (.getfield 33, 3) := by decide +kernel
theorem dX5_risenAt_76 : decode cX5_risenAt 76 = .ok (.aload_n 0, 1) := by decide +kernel
theorem dX5_risenAt_77 : decode cX5_risenAt 77 = .ok (.getfield 36, 3) := by decide +kernel
theorem dX5_risenAt_80 : decode cX5_risenAt 80 = .ok (.invokevirtual 51, 3) := by decide +kernel
theorem dX5_risenAt_83 : decode cX5_risenAt 83 = .ok (.ifCond .eq 7, 3) := by decide +kernel
theorem dX5_risenAt_86 : decode cX5_risenAt 86 = .ok (.iconst 1, 1) := by decide +kernel
theorem dX5_risenAt_87 : decode cX5_risenAt 87 = .ok (.goto 4, 3) := by decide +kernel
theorem dX5_risenAt_90 : decode cX5_risenAt 90 = .ok (.iconst 0, 1) := by decide +kernel
theorem dX5_risenAt_91 : decode cX5_risenAt 91 = .ok (.istore 6, 2) := by decide +kernel
theorem dX5_risenAt_93 : decode cX5_risenAt 93 = .ok (.iload 4, 2) := by decide +kernel
theorem dX5_risenAt_95 : decode cX5_risenAt 95 = .ok (.iload 6, 2) := by decide +kernel
theorem dX5_risenAt_97 : decode cX5_risenAt 97 = .ok (.ifCond .eq 10, 3) := by decide +kernel
theorem dX5_risenAt_100 : decode cX5_risenAt 100 = .ok (.iconst 1, 1) := by decide +kernel
theorem dX5_risenAt_101 : decode cX5_risenAt 101 = .ok (.iload 5, 2) := by decide +kernel
theorem dX5_risenAt_103 : decode cX5_risenAt 103 = .ok (.ishl, 1) := by decide +kernel
theorem dX5_risenAt_104 : decode cX5_risenAt 104 = .ok (.goto 4, 3) := by decide +kernel
theorem dX5_risenAt_107 : decode cX5_risenAt 107 = .ok (.iconst 0, 1) := by decide +kernel
theorem dX5_risenAt_108 : decode cX5_risenAt 108 = .ok (.ior, 1) := by decide +kernel
theorem dX5_risenAt_109 : decode cX5_risenAt 109 = .ok (.istore 4, 2) := by decide +kernel
theorem dX5_risenAt_111 : decode cX5_risenAt 111 = .ok (.iinc 5 1, 3) := by decide +kernel
theorem dX5_risenAt_114 : decode cX5_risenAt 114 = .ok (.goto (-86), 3) := by decide +kernel
theorem dX5_risenAt_117 : decode cX5_risenAt 117 = .ok (.iload 4, 2) := by decide +kernel
theorem dX5_risenAt_119 : decode cX5_risenAt 119 = .ok (.ireturn, 1) := by decide +kernel
theorem wX5_risenAt : Mw yX5_risenAt cX5_risenAt 7 (some .int) 2 := ⟨q_839, q_123, by decide, ⟨by decide +kernel, by decide +kernel⟩, by decide +kernel, by decide +kernel⟩
-- a loop of EyeTrainer$Maps.risenAt at 28
def bX5_risenAt_28 (T : Sh) (x0 : Nat) (x1 : Int32) (x2 : Int32) (x3 : Option Nat) (x4 : Int32) (x5 : Int32) (M : Me) : Option ((Int32 × Int32 × Me) ⊕ ((Int32 × Me))) :=
  if (24 : Int32) ≤ x5 then (some (.inr (x4, M))) else (gd (kd T x0 = 4) <| Option.bind (gR M x0 4) fun a15 => gd (kd T a15 = 13) <| gv (0 : Int32) (ln T a15) <| lt (pI M a15 (Int32.toNatClampNeg (0 : Int32)) x5) fun M18 => mo (x3) (Option.bind (gR M18 x0 0) fun a20 => gd (kd T a20 = 2) <| Option.bind (gR M18 a20 0) fun a22 => gd (kd T a22 = 13) <| gv x1 (ln T a22) <| if x5 < ((gI M18 a22 (Int32.toNatClampNeg x1)) + x2) then (if (0 : Int32) = 0 then (lt (x4 ||| (0 : Int32)) fun v27 => lt (x5 + (1 : Int32)) fun v28 => some (.inl (v27, v28, M18))) else (lt (x4 ||| ((1 : Int32) <<< (x5 &&& 31))) fun v29 => lt (x5 + (1 : Int32)) fun v30 => some (.inl (v29, v30, M18)))) else (if (1 : Int32) = 0 then (lt (x4 ||| (0 : Int32)) fun v32 => lt (x5 + (1 : Int32)) fun v33 => some (.inl (v32, v33, M18))) else (lt (x4 ||| ((1 : Int32) <<< (x5 &&& 31))) fun v34 => lt (x5 + (1 : Int32)) fun v35 => some (.inl (v34, v35, M18))))) (fun a19 => Option.bind (gR M18 x0 4) fun a36 => Option.bind (gR M18 x0 5) fun a37 => gd (kd T a19 = 3) <| Option.bind (fX4_valueBy T M18 a19 a36 a37) <| un2 fun r39 M40 => if r39 = 0 then (if (0 : Int32) = 0 then (lt (x4 ||| (0 : Int32)) fun v43 => lt (x5 + (1 : Int32)) fun v44 => some (.inl (v43, v44, M40))) else (lt (x4 ||| ((1 : Int32) <<< (x5 &&& 31))) fun v45 => lt (x5 + (1 : Int32)) fun v46 => some (.inl (v45, v46, M40)))) else (if (1 : Int32) = 0 then (lt (x4 ||| (0 : Int32)) fun v48 => lt (x5 + (1 : Int32)) fun v49 => some (.inl (v48, v49, M40))) else (lt (x4 ||| ((1 : Int32) <<< (x5 &&& 31))) fun v50 => lt (x5 + (1 : Int32)) fun v51 => some (.inl (v50, v51, M40))))))
def PX5_risenAt_28 (X : Fx) (B : Bx) (Z : Nat × Nat × Nat × Nat) (Q : State → Prop) (T : Sh) (x0 : Nat) (x1 : Int32) (x2 : Int32) (x3 : Option Nat) (s : Int32 × Int32 × Me) : Prop := G X B 7 Z Q 28 [(0, .ref (x0)), (1, .int (x1)), (2, .int (x2)), (3, va_rf (x3)), (4, .int (s.1)), (5, .int (s.2.1))] [] T s.2.2
def EX5_risenAt_28 (X : Fx) (B : Bx) (Z : Nat × Nat × Nat × Nat) (Q : State → Prop) (T : Sh) (x0 : Nat) (x1 : Int32) (x2 : Int32) (x3 : Option Nat) (r : (Int32 × Me)) : Prop := G X B 7 Z Q 117 [(4, .int (r.1))] [] T r.2
set_option maxHeartbeats 4000000 in
theorem tbX5_risenAt_28 {X : Fx} {B : Bx} {Z : Nat × Nat × Nat × Nat} {Q : State → Prop} {d : Nat} {T : Sh} (C : Cx X B cX5_risenAt 7 RX5 d Z) (hd : 1 ≤ d) {x0 : Nat} {x1 : Int32} {x2 : Int32} {x3 : Option Nat} : ∀ (s : Int32 × Int32 × Me) (o : (Int32 × Int32 × Me) ⊕ ((Int32 × Me))), bX5_risenAt_28 T x0 x1 x2 x3 s.1 s.2.1 s.2.2 = some o → lpE (PX5_risenAt_28 X B Z Q T x0 x1 x2 x3) (EX5_risenAt_28 X B Z Q T x0 x1 x2 x3) o → PX5_risenAt_28 X B Z Q T x0 x1 x2 x3 s := by
  rintro ⟨x4, x5, M⟩ o h hE
  replace h : bX5_risenAt_28 T x0 x1 x2 x3 x4 x5 M = some o := h
  unfold bX5_risenAt_28 at h
  show G X B 7 Z Q 28 [(0, .ref (x0)), (1, .int (x1)), (2, .int (x2)), (3, va_rf (x3)), (4, .int (x4)), (5, .int (x5))] [] T M
  refine g_iload (pc := 28) C dX5_risenAt_28 5 rfl ?_
  refine g_bipush (pc := 30) (v := 24) C dX5_risenAt_30 (by decide) ?_
  refine g_icmp_ge (pc := 32) (tgt := 117) C dX5_risenAt_32 (by decide) (fun c13 => ?_) (fun c13 => ?_)
  · replace h := ifp c13 h
    obtain rfl := Option.some.inj h
    exact g_sub [4] rfl (show G X B 7 Z Q 117 [(4, .int (x4))] [] T M from hE)
  · replace h := ifn c13 h
    refine g_aload_n (pc := 35) C dX5_risenAt_35 rfl 0 rfl ?_
    replace h := gd_some h; obtain ⟨hk14, h⟩ := h
    refine g_get (pc := 36) (v := va_rf (gR M x0 4)) C dX5_risenAt_36 kX5 hk14 4 (by decide) q_292 rfl ?_
    replace h := bnd h; obtain ⟨a15, ea15, h⟩ := h
    refine g_refq ea15 ?_
    refine g_iconst (pc := 39) (v := 0) C dX5_risenAt_39 (by decide) ?_
    refine g_iload (pc := 40) C dX5_risenAt_40 5 rfl ?_
    replace h := gd_some h; obtain ⟨hk16, h⟩ := h
    replace h := gv_some h; obtain ⟨hi17, h⟩ := h
    refine g_iast (pc := 42) C dX5_risenAt_42 hk16 hi17 ?_
    refine g_mem (fun M18 eM18 => ?_)
    replace h := lt_at eM18 h
    refine g_aload_nQ (pc := 43) C dX5_risenAt_43 rfl 3 rfl ?_
    refine g_ifnonnull (pc := 44) (tgt := 71) C dX5_risenAt_44 (by decide) (fun a19 ea19 => ?_) (fun ea19 => ?_)
    · replace h := mo_some2 ea19 h
      subst ea19
      refine g_aload_n (pc := 71) C dX5_risenAt_71 rfl 3 rfl ?_
      refine g_aload_n (pc := 72) C dX5_risenAt_72 rfl 0 rfl ?_
      refine g_get (pc := 73) (v := va_rf (gR M18 x0 4)) C dX5_risenAt_73 kX5 hk14 4 (by decide) q_292 rfl ?_
      replace h := bnd h; obtain ⟨a36, ea36, h⟩ := h
      refine g_refq ea36 ?_
      refine g_aload_n (pc := 76) C dX5_risenAt_76 rfl 0 rfl ?_
      refine g_get (pc := 77) (v := va_rf (gR M18 x0 5)) C dX5_risenAt_77 kX5 hk14 5 (by decide) q_293 rfl ?_
      replace h := bnd h; obtain ⟨a37, ea37, h⟩ := h
      refine g_refq ea37 ?_
      replace h := gd_some h; obtain ⟨hk38, h⟩ := h
      replace h := bnd2 h; obtain ⟨r39, M40, h1, h⟩ := h
      refine g_callVi (pc := 80) (As := [.ref (a36), .ref (a37)]) (st := []) C dX5_risenAt_80 wX4_valueBy hk38 rfl (by decide) q_787 q_788 q_786 (by omega) rfl (Nat.le_of_ble_eq_true rfl) (kX4_valueBy (d := 0) (Nat.le_refl _) h1) ?_
      refine g_if_eq (pc := 83) (tgt := 90) C dX5_risenAt_83 (by decide) (fun c41 => ?_) (fun c41 => ?_)
      · replace h := ifp c41 h
        refine g_iconst (pc := 90) (v := 0) C dX5_risenAt_90 (by decide) ?_
        refine g_istore (pc := 91) (lo2 := [(6, .int ((0 : Int32))), (0, .ref (x0)), (1, .int (x1)), (2, .int (x2)), (3, .ref (a19)), (4, .int (x4)), (5, .int (x5))]) C dX5_risenAt_91 (by decide) rfl ?_
        refine g_iload (pc := 93) C dX5_risenAt_93 5 rfl ?_
        refine g_iload (pc := 95) C dX5_risenAt_95 0 rfl ?_
        refine g_if_eq (pc := 97) (tgt := 107) C dX5_risenAt_97 (by decide) (fun c42 => ?_) (fun c42 => ?_)
        · replace h := ifp c42 h
          refine g_iconst (pc := 107) (v := 0) C dX5_risenAt_107 (by decide) ?_
          refine g_ior (pc := 108) C dX5_risenAt_108 ?_
          refine g_topi (fun v43 ev43 => ?_)
          replace h := lt_at ev43 h
          refine g_istore (pc := 109) (lo2 := [(4, .int (v43)), (6, .int ((0 : Int32))), (0, .ref (x0)), (1, .int (x1)), (2, .int (x2)), (3, .ref (a19)), (5, .int (x5))]) C dX5_risenAt_109 (by decide) rfl ?_
          obtain ⟨v44, ev44⟩ : ∃ y : Int32, y = x5 + (1 : Int32) := ⟨_, rfl⟩
          replace h := lt_at ev44 h
          refine g_iinc (pc := 111) (v := v44) (k := 6) (lo2 := [(5, .int (v44)), (4, .int (v43)), (6, .int ((0 : Int32))), (0, .ref (x0)), (1, .int (x1)), (2, .int (x2)), (3, .ref (a19))]) C dX5_risenAt_111 rfl (by rw [ev44]; rfl) (by decide) rfl ?_
          refine g_goto (pc := 114) (tgt := 28) C dX5_risenAt_114 (by decide) ?_
          obtain rfl := Option.some.inj h
          exact g_sub [3, 4, 5, 6, 1, 0] rfl (show G X B 7 Z Q 28 [(0, .ref (x0)), (1, .int (x1)), (2, .int (x2)), (3, .ref (a19)), (4, .int (v43)), (5, .int (v44))] [] T M40 from hE)
        · replace h := ifn c42 h
          refine g_iconst (pc := 100) (v := 1) C dX5_risenAt_100 (by decide) ?_
          refine g_iload (pc := 101) C dX5_risenAt_101 6 rfl ?_
          refine g_ishl (pc := 103) C dX5_risenAt_103 ?_
          refine g_goto (pc := 104) (tgt := 108) C dX5_risenAt_104 (by decide) ?_
          refine g_ior (pc := 108) C dX5_risenAt_108 ?_
          refine g_topi (fun v45 ev45 => ?_)
          replace h := lt_at ev45 h
          refine g_istore (pc := 109) (lo2 := [(4, .int (v45)), (6, .int ((0 : Int32))), (0, .ref (x0)), (1, .int (x1)), (2, .int (x2)), (3, .ref (a19)), (5, .int (x5))]) C dX5_risenAt_109 (by decide) rfl ?_
          obtain ⟨v46, ev46⟩ : ∃ y : Int32, y = x5 + (1 : Int32) := ⟨_, rfl⟩
          replace h := lt_at ev46 h
          refine g_iinc (pc := 111) (v := v46) (k := 6) (lo2 := [(5, .int (v46)), (4, .int (v45)), (6, .int ((0 : Int32))), (0, .ref (x0)), (1, .int (x1)), (2, .int (x2)), (3, .ref (a19))]) C dX5_risenAt_111 rfl (by rw [ev46]; rfl) (by decide) rfl ?_
          refine g_goto (pc := 114) (tgt := 28) C dX5_risenAt_114 (by decide) ?_
          obtain rfl := Option.some.inj h
          exact g_sub [3, 4, 5, 6, 1, 0] rfl (show G X B 7 Z Q 28 [(0, .ref (x0)), (1, .int (x1)), (2, .int (x2)), (3, .ref (a19)), (4, .int (v45)), (5, .int (v46))] [] T M40 from hE)
      · replace h := ifn c41 h
        refine g_iconst (pc := 86) (v := 1) C dX5_risenAt_86 (by decide) ?_
        refine g_goto (pc := 87) (tgt := 91) C dX5_risenAt_87 (by decide) ?_
        refine g_istore (pc := 91) (lo2 := [(6, .int ((1 : Int32))), (0, .ref (x0)), (1, .int (x1)), (2, .int (x2)), (3, .ref (a19)), (4, .int (x4)), (5, .int (x5))]) C dX5_risenAt_91 (by decide) rfl ?_
        refine g_iload (pc := 93) C dX5_risenAt_93 5 rfl ?_
        refine g_iload (pc := 95) C dX5_risenAt_95 0 rfl ?_
        refine g_if_eq (pc := 97) (tgt := 107) C dX5_risenAt_97 (by decide) (fun c47 => ?_) (fun c47 => ?_)
        · replace h := ifp c47 h
          refine g_iconst (pc := 107) (v := 0) C dX5_risenAt_107 (by decide) ?_
          refine g_ior (pc := 108) C dX5_risenAt_108 ?_
          refine g_topi (fun v48 ev48 => ?_)
          replace h := lt_at ev48 h
          refine g_istore (pc := 109) (lo2 := [(4, .int (v48)), (6, .int ((1 : Int32))), (0, .ref (x0)), (1, .int (x1)), (2, .int (x2)), (3, .ref (a19)), (5, .int (x5))]) C dX5_risenAt_109 (by decide) rfl ?_
          obtain ⟨v49, ev49⟩ : ∃ y : Int32, y = x5 + (1 : Int32) := ⟨_, rfl⟩
          replace h := lt_at ev49 h
          refine g_iinc (pc := 111) (v := v49) (k := 6) (lo2 := [(5, .int (v49)), (4, .int (v48)), (6, .int ((1 : Int32))), (0, .ref (x0)), (1, .int (x1)), (2, .int (x2)), (3, .ref (a19))]) C dX5_risenAt_111 rfl (by rw [ev49]; rfl) (by decide) rfl ?_
          refine g_goto (pc := 114) (tgt := 28) C dX5_risenAt_114 (by decide) ?_
          obtain rfl := Option.some.inj h
          exact g_sub [3, 4, 5, 6, 1, 0] rfl (show G X B 7 Z Q 28 [(0, .ref (x0)), (1, .int (x1)), (2, .int (x2)), (3, .ref (a19)), (4, .int (v48)), (5, .int (v49))] [] T M40 from hE)
        · replace h := ifn c47 h
          refine g_iconst (pc := 100) (v := 1) C dX5_risenAt_100 (by decide) ?_
          refine g_iload (pc := 101) C dX5_risenAt_101 6 rfl ?_
          refine g_ishl (pc := 103) C dX5_risenAt_103 ?_
          refine g_goto (pc := 104) (tgt := 108) C dX5_risenAt_104 (by decide) ?_
          refine g_ior (pc := 108) C dX5_risenAt_108 ?_
          refine g_topi (fun v50 ev50 => ?_)
          replace h := lt_at ev50 h
          refine g_istore (pc := 109) (lo2 := [(4, .int (v50)), (6, .int ((1 : Int32))), (0, .ref (x0)), (1, .int (x1)), (2, .int (x2)), (3, .ref (a19)), (5, .int (x5))]) C dX5_risenAt_109 (by decide) rfl ?_
          obtain ⟨v51, ev51⟩ : ∃ y : Int32, y = x5 + (1 : Int32) := ⟨_, rfl⟩
          replace h := lt_at ev51 h
          refine g_iinc (pc := 111) (v := v51) (k := 6) (lo2 := [(5, .int (v51)), (4, .int (v50)), (6, .int ((1 : Int32))), (0, .ref (x0)), (1, .int (x1)), (2, .int (x2)), (3, .ref (a19))]) C dX5_risenAt_111 rfl (by rw [ev51]; rfl) (by decide) rfl ?_
          refine g_goto (pc := 114) (tgt := 28) C dX5_risenAt_114 (by decide) ?_
          obtain rfl := Option.some.inj h
          exact g_sub [3, 4, 5, 6, 1, 0] rfl (show G X B 7 Z Q 28 [(0, .ref (x0)), (1, .int (x1)), (2, .int (x2)), (3, .ref (a19)), (4, .int (v50)), (5, .int (v51))] [] T M40 from hE)
    · replace h := mo_none2 ea19 h
      subst ea19
      refine g_iload (pc := 47) C dX5_risenAt_47 5 rfl ?_
      refine g_aload_n (pc := 49) C dX5_risenAt_49 rfl 0 rfl ?_
      refine g_get (pc := 50) (v := va_rf (gR M18 x0 0)) C dX5_risenAt_50 kX5 hk14 0 (by decide) q_287 rfl ?_
      replace h := bnd h; obtain ⟨a20, ea20, h⟩ := h
      refine g_refq ea20 ?_
      replace h := gd_some h; obtain ⟨hk21, h⟩ := h
      refine g_get (pc := 53) (v := va_rf (gR M18 a20 0)) C dX5_risenAt_53 kX3 hk21 0 (by decide) q_217 rfl ?_
      replace h := bnd h; obtain ⟨a22, ea22, h⟩ := h
      refine g_refq ea22 ?_
      refine g_iload_n (pc := 56) C dX5_risenAt_56 rfl 1 rfl ?_
      replace h := gd_some h; obtain ⟨hk23, h⟩ := h
      replace h := gv_some h; obtain ⟨hi24, h⟩ := h
      refine g_iald (pc := 57) C dX5_risenAt_57 hk23 hi24 ?_
      refine g_iload_n (pc := 58) C dX5_risenAt_58 rfl 2 rfl ?_
      refine g_iadd (pc := 59) C dX5_risenAt_59 ?_
      refine g_icmp_lt (pc := 60) (tgt := 67) C dX5_risenAt_60 (by decide) (fun c25 => ?_) (fun c25 => ?_)
      · replace h := ifp c25 h
        refine g_iconst (pc := 67) (v := 0) C dX5_risenAt_67 (by decide) ?_
        refine g_goto (pc := 68) (tgt := 91) C dX5_risenAt_68 (by decide) ?_
        refine g_istore (pc := 91) (lo2 := [(6, .int ((0 : Int32))), (0, .ref (x0)), (1, .int (x1)), (2, .int (x2)), (3, va_rf (none)), (4, .int (x4)), (5, .int (x5))]) C dX5_risenAt_91 (by decide) rfl ?_
        refine g_iload (pc := 93) C dX5_risenAt_93 5 rfl ?_
        refine g_iload (pc := 95) C dX5_risenAt_95 0 rfl ?_
        refine g_if_eq (pc := 97) (tgt := 107) C dX5_risenAt_97 (by decide) (fun c26 => ?_) (fun c26 => ?_)
        · replace h := ifp c26 h
          refine g_iconst (pc := 107) (v := 0) C dX5_risenAt_107 (by decide) ?_
          refine g_ior (pc := 108) C dX5_risenAt_108 ?_
          refine g_topi (fun v27 ev27 => ?_)
          replace h := lt_at ev27 h
          refine g_istore (pc := 109) (lo2 := [(4, .int (v27)), (6, .int ((0 : Int32))), (0, .ref (x0)), (1, .int (x1)), (2, .int (x2)), (3, va_rf (none)), (5, .int (x5))]) C dX5_risenAt_109 (by decide) (by simp [cat_rf]) ?_
          obtain ⟨v28, ev28⟩ : ∃ y : Int32, y = x5 + (1 : Int32) := ⟨_, rfl⟩
          replace h := lt_at ev28 h
          refine g_iinc (pc := 111) (v := v28) (k := 6) (lo2 := [(5, .int (v28)), (4, .int (v27)), (6, .int ((0 : Int32))), (0, .ref (x0)), (1, .int (x1)), (2, .int (x2)), (3, va_rf (none))]) C dX5_risenAt_111 rfl (by rw [ev28]; rfl) (by decide) rfl ?_
          refine g_goto (pc := 114) (tgt := 28) C dX5_risenAt_114 (by decide) ?_
          obtain rfl := Option.some.inj h
          exact g_sub [3, 4, 5, 6, 1, 0] rfl (show G X B 7 Z Q 28 [(0, .ref (x0)), (1, .int (x1)), (2, .int (x2)), (3, va_rf (none)), (4, .int (v27)), (5, .int (v28))] [] T M18 from hE)
        · replace h := ifn c26 h
          refine g_iconst (pc := 100) (v := 1) C dX5_risenAt_100 (by decide) ?_
          refine g_iload (pc := 101) C dX5_risenAt_101 6 rfl ?_
          refine g_ishl (pc := 103) C dX5_risenAt_103 ?_
          refine g_goto (pc := 104) (tgt := 108) C dX5_risenAt_104 (by decide) ?_
          refine g_ior (pc := 108) C dX5_risenAt_108 ?_
          refine g_topi (fun v29 ev29 => ?_)
          replace h := lt_at ev29 h
          refine g_istore (pc := 109) (lo2 := [(4, .int (v29)), (6, .int ((0 : Int32))), (0, .ref (x0)), (1, .int (x1)), (2, .int (x2)), (3, va_rf (none)), (5, .int (x5))]) C dX5_risenAt_109 (by decide) (by simp [cat_rf]) ?_
          obtain ⟨v30, ev30⟩ : ∃ y : Int32, y = x5 + (1 : Int32) := ⟨_, rfl⟩
          replace h := lt_at ev30 h
          refine g_iinc (pc := 111) (v := v30) (k := 6) (lo2 := [(5, .int (v30)), (4, .int (v29)), (6, .int ((0 : Int32))), (0, .ref (x0)), (1, .int (x1)), (2, .int (x2)), (3, va_rf (none))]) C dX5_risenAt_111 rfl (by rw [ev30]; rfl) (by decide) rfl ?_
          refine g_goto (pc := 114) (tgt := 28) C dX5_risenAt_114 (by decide) ?_
          obtain rfl := Option.some.inj h
          exact g_sub [3, 4, 5, 6, 1, 0] rfl (show G X B 7 Z Q 28 [(0, .ref (x0)), (1, .int (x1)), (2, .int (x2)), (3, va_rf (none)), (4, .int (v29)), (5, .int (v30))] [] T M18 from hE)
      · replace h := ifn c25 h
        refine g_iconst (pc := 63) (v := 1) C dX5_risenAt_63 (by decide) ?_
        refine g_goto (pc := 64) (tgt := 91) C dX5_risenAt_64 (by decide) ?_
        refine g_istore (pc := 91) (lo2 := [(6, .int ((1 : Int32))), (0, .ref (x0)), (1, .int (x1)), (2, .int (x2)), (3, va_rf (none)), (4, .int (x4)), (5, .int (x5))]) C dX5_risenAt_91 (by decide) rfl ?_
        refine g_iload (pc := 93) C dX5_risenAt_93 5 rfl ?_
        refine g_iload (pc := 95) C dX5_risenAt_95 0 rfl ?_
        refine g_if_eq (pc := 97) (tgt := 107) C dX5_risenAt_97 (by decide) (fun c31 => ?_) (fun c31 => ?_)
        · replace h := ifp c31 h
          refine g_iconst (pc := 107) (v := 0) C dX5_risenAt_107 (by decide) ?_
          refine g_ior (pc := 108) C dX5_risenAt_108 ?_
          refine g_topi (fun v32 ev32 => ?_)
          replace h := lt_at ev32 h
          refine g_istore (pc := 109) (lo2 := [(4, .int (v32)), (6, .int ((1 : Int32))), (0, .ref (x0)), (1, .int (x1)), (2, .int (x2)), (3, va_rf (none)), (5, .int (x5))]) C dX5_risenAt_109 (by decide) (by simp [cat_rf]) ?_
          obtain ⟨v33, ev33⟩ : ∃ y : Int32, y = x5 + (1 : Int32) := ⟨_, rfl⟩
          replace h := lt_at ev33 h
          refine g_iinc (pc := 111) (v := v33) (k := 6) (lo2 := [(5, .int (v33)), (4, .int (v32)), (6, .int ((1 : Int32))), (0, .ref (x0)), (1, .int (x1)), (2, .int (x2)), (3, va_rf (none))]) C dX5_risenAt_111 rfl (by rw [ev33]; rfl) (by decide) rfl ?_
          refine g_goto (pc := 114) (tgt := 28) C dX5_risenAt_114 (by decide) ?_
          obtain rfl := Option.some.inj h
          exact g_sub [3, 4, 5, 6, 1, 0] rfl (show G X B 7 Z Q 28 [(0, .ref (x0)), (1, .int (x1)), (2, .int (x2)), (3, va_rf (none)), (4, .int (v32)), (5, .int (v33))] [] T M18 from hE)
        · replace h := ifn c31 h
          refine g_iconst (pc := 100) (v := 1) C dX5_risenAt_100 (by decide) ?_
          refine g_iload (pc := 101) C dX5_risenAt_101 6 rfl ?_
          refine g_ishl (pc := 103) C dX5_risenAt_103 ?_
          refine g_goto (pc := 104) (tgt := 108) C dX5_risenAt_104 (by decide) ?_
          refine g_ior (pc := 108) C dX5_risenAt_108 ?_
          refine g_topi (fun v34 ev34 => ?_)
          replace h := lt_at ev34 h
          refine g_istore (pc := 109) (lo2 := [(4, .int (v34)), (6, .int ((1 : Int32))), (0, .ref (x0)), (1, .int (x1)), (2, .int (x2)), (3, va_rf (none)), (5, .int (x5))]) C dX5_risenAt_109 (by decide) (by simp [cat_rf]) ?_
          obtain ⟨v35, ev35⟩ : ∃ y : Int32, y = x5 + (1 : Int32) := ⟨_, rfl⟩
          replace h := lt_at ev35 h
          refine g_iinc (pc := 111) (v := v35) (k := 6) (lo2 := [(5, .int (v35)), (4, .int (v34)), (6, .int ((1 : Int32))), (0, .ref (x0)), (1, .int (x1)), (2, .int (x2)), (3, va_rf (none))]) C dX5_risenAt_111 rfl (by rw [ev35]; rfl) (by decide) rfl ?_
          refine g_goto (pc := 114) (tgt := 28) C dX5_risenAt_114 (by decide) ?_
          obtain rfl := Option.some.inj h
          exact g_sub [3, 4, 5, 6, 1, 0] rfl (show G X B 7 Z Q 28 [(0, .ref (x0)), (1, .int (x1)), (2, .int (x2)), (3, va_rf (none)), (4, .int (v34)), (5, .int (v35))] [] T M18 from hE)
/-- EyeTrainer$Maps.risenAt(II)I -/
def fX5_risenAt (T : Sh) (M : Me) (x0 : Nat) (x1 : Int32) (x2 : Int32) : Option (Int32 × Me) :=
  gd (kd T x0 = 4) <| Option.bind (gR M x0 0) fun a2 => gd (kd T a2 = 2) <| lt (gR M a2 11) fun v4 => Option.bind (gR M x0 4) fun a5 => gd (kd T a5 = 13) <| gv (2 : Int32) (ln T a5) <| lt (pI M a5 (Int32.toNatClampNeg (2 : Int32)) x1) fun M8 => Option.bind (gR M8 x0 4) fun a9 => gd (kd T a9 = 13) <| gv (4 : Int32) (ln T a9) <| lt (pI M8 a9 (Int32.toNatClampNeg (4 : Int32)) x2) fun M12 => (lp FU (fun s => bX5_risenAt_28 T x0 x1 x2 v4 s.1 s.2.1 s.2.2) ((0 : Int32), (0 : Int32), M12)).bind (un2 fun x4_52 M53 => some (x4_52, M53))
set_option maxHeartbeats 4000000 in
theorem kX5_risenAt {l : Launch} {B : Bx} {d : Nat} (hd : 1 ≤ d) {T : Sh} {M : Me} {x0 : Nat} {x1 : Int32} {x2 : Int32} {r : Int32} {M' : Me} (h : fX5_risenAt T M x0 x1 x2 = some (r, M')) : Kt l B yX5_risenAt cX5_risenAt 7 (some .int) d [.ref (x0), .int (x1), .int (x2)] T M (some (.int r)) T M' := by
  refine kt_of wX5_risenAt (Nat.le_refl _) (Nat.le_refl _) (Nat.le_of_ble_eq_true rfl) (fun X C hR hlx hin => ?_)
  subst hlx
  replace C : Cx X B cX5_risenAt 7 RX5 d (tp T, sl T, tp T, sl T) := C
  unfold fX5_risenAt at h
  show G X B 7 _ _ 0 [(0, .ref (x0)), (1, .int (x1)), (2, .int (x2))] [] T M
  refine g_aload_n (pc := 0) C dX5_risenAt_0 rfl 0 rfl ?_
  replace h := gd_some h; obtain ⟨hk1, h⟩ := h
  refine g_get (pc := 1) (v := va_rf (gR M x0 0)) C dX5_risenAt_1 kX5 hk1 0 (by decide) q_287 rfl ?_
  replace h := bnd h; obtain ⟨a2, ea2, h⟩ := h
  refine g_refq ea2 ?_
  replace h := gd_some h; obtain ⟨hk3, h⟩ := h
  refine g_get (pc := 4) (v := va_rf (gR M a2 11)) C dX5_risenAt_4 kX3 hk3 11 (by decide) q_250 rfl ?_
  refine g_topq (fun v4 ev4 => ?_)
  replace h := lt_at ev4 h
  refine g_astore_nQ (pc := 7) (lo2 := [(3, va_rf (v4)), (0, .ref (x0)), (1, .int (x1)), (2, .int (x2))]) C dX5_risenAt_7 rfl (by decide) rfl ?_
  refine g_aload_n (pc := 8) C dX5_risenAt_8 rfl 1 rfl ?_
  refine g_get (pc := 9) (v := va_rf (gR M x0 4)) C dX5_risenAt_9 kX5 hk1 4 (by decide) q_292 rfl ?_
  replace h := bnd h; obtain ⟨a5, ea5, h⟩ := h
  refine g_refq ea5 ?_
  refine g_iconst (pc := 12) (v := 2) C dX5_risenAt_12 (by decide) ?_
  refine g_iload_n (pc := 13) C dX5_risenAt_13 rfl 2 rfl ?_
  replace h := gd_some h; obtain ⟨hk6, h⟩ := h
  replace h := gv_some h; obtain ⟨hi7, h⟩ := h
  refine g_iast (pc := 14) C dX5_risenAt_14 hk6 hi7 ?_
  refine g_mem (fun M8 eM8 => ?_)
  replace h := lt_at eM8 h
  refine g_aload_n (pc := 15) C dX5_risenAt_15 rfl 1 rfl ?_
  refine g_get (pc := 16) (v := va_rf (gR M8 x0 4)) C dX5_risenAt_16 kX5 hk1 4 (by decide) q_292 rfl ?_
  replace h := bnd h; obtain ⟨a9, ea9, h⟩ := h
  refine g_refq ea9 ?_
  refine g_iconst (pc := 19) (v := 4) C dX5_risenAt_19 (by decide) ?_
  refine g_iload_n (pc := 20) C dX5_risenAt_20 rfl 3 rfl ?_
  replace h := gd_some h; obtain ⟨hk10, h⟩ := h
  replace h := gv_some h; obtain ⟨hi11, h⟩ := h
  refine g_iast (pc := 21) C dX5_risenAt_21 hk10 hi11 ?_
  refine g_mem (fun M12 eM12 => ?_)
  replace h := lt_at eM12 h
  refine g_iconst (pc := 22) (v := 0) C dX5_risenAt_22 (by decide) ?_
  refine g_istore (pc := 23) (lo2 := [(4, .int ((0 : Int32))), (3, va_rf (v4)), (0, .ref (x0)), (1, .int (x1)), (2, .int (x2))]) C dX5_risenAt_23 (by decide) (by simp [cat_rf]) ?_
  refine g_iconst (pc := 25) (v := 0) C dX5_risenAt_25 (by decide) ?_
  refine g_istore (pc := 26) (lo2 := [(5, .int ((0 : Int32))), (4, .int ((0 : Int32))), (3, va_rf (v4)), (0, .ref (x0)), (1, .int (x1)), (2, .int (x2))]) C dX5_risenAt_26 (by decide) rfl ?_
  replace h := bnd2 h; obtain ⟨x4_52, M53, h1, h⟩ := h
  refine g_sub [3, 4, 5, 2, 1, 0] rfl ?_
  refine lp_G2 (P := PX5_risenAt_28 X B _ _ T x0 x1 x2 v4) (E := EX5_risenAt_28 X B _ _ T x0 x1 x2 v4) (tbX5_risenAt_28 C hd) h1 ?_
  show G X B 7 _ _ 117 [(4, .int (x4_52))] [] T M53
  refine g_iload (pc := 117) C dX5_risenAt_117 0 rfl ?_
  obtain ⟨rfl, rfl⟩ := Prod.mk.inj (Option.some.inj h)
  exact g_iret C hR dX5_risenAt_119
