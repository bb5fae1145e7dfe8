set_option maxRecDepth 20000 in
theorem q_23 : Cond.selects RX5 yX5_isInPlainEye yX5_isInPlainEye ∈ lw_gd := mem_gd (List.mem_of_getElem? (i := 23) (by decide +kernel)) rfl
set_option maxRecDepth 20000 in
theorem q_123 : Cond.initialized RX5 ∈ lw_gd := mem_gd (List.mem_of_getElem? (i := 123) (by decide +kernel)) rfl
set_option maxRecDepth 20000 in
theorem q_217 : Cond.fieldLink RX5 86 "EyeTrainer$Lab" "ats" "[I" ∈ lw_gd := mem_gd (List.mem_of_getElem? (i := 217) (by decide +kernel)) rfl
set_option maxRecDepth 20000 in
theorem q_222 : Cond.fieldLink RX5 93 "EyeTrainer$Lab" "mids" "[I" ∈ lw_gd := mem_gd (List.mem_of_getElem? (i := 222) (by decide +kernel)) rfl
set_option maxRecDepth 20000 in
theorem q_225 : Cond.fieldLink RX5 80 "EyeTrainer$Lab" "wides" "[I" ∈ lw_gd := mem_gd (List.mem_of_getElem? (i := 225) (by decide +kernel)) rfl
set_option maxRecDepth 20000 in
theorem q_229 : Cond.fieldLink RX5 83 "EyeTrainer$Lab" "highs" "[I" ∈ lw_gd := mem_gd (List.mem_of_getElem? (i := 229) (by decide +kernel)) rfl
set_option maxRecDepth 20000 in
theorem q_232 : Cond.fieldLink RX5 73 "EyeTrainer$Lab" "stresses" "[I" ∈ lw_gd := mem_gd (List.mem_of_getElem? (i := 232) (by decide +kernel)) rfl
set_option maxRecDepth 20000 in
theorem q_248 : Cond.fieldLink RX5 63 "EyeTrainer$Lab" "passesLaw" "LEyeTrainer$Law;" ∈ lw_gd := mem_gd (List.mem_of_getElem? (i := 248) (by decide +kernel)) rfl
set_option maxRecDepth 20000 in
theorem q_250 : Cond.fieldLink RX5 96 "EyeTrainer$Lab" "edgeLaw" "LEyeTrainer$Law;" ∈ lw_gd := mem_gd (List.mem_of_getElem? (i := 250) (by decide +kernel)) rfl
set_option maxRecDepth 20000 in
theorem q_251 : Cond.fieldLink RX5 45 "EyeTrainer$Lab" "driftsLaw" "LEyeTrainer$Law;" ∈ lw_gd := mem_gd (List.mem_of_getElem? (i := 251) (by decide +kernel)) rfl
set_option maxRecDepth 20000 in
theorem q_284 : Cond.methodLink RX5 19 yJ7_fill_53178 ∈ lw_gd := mem_gd (List.mem_of_getElem? (i := 284) (by decide +kernel)) rfl
set_option maxRecDepth 20000 in
theorem q_287 : Cond.fieldLink RX5 9 "EyeTrainer$Maps" "lab" "LEyeTrainer$Lab;" ∈ lw_gd := mem_gd (List.mem_of_getElem? (i := 287) (by decide +kernel)) rfl
set_option maxRecDepth 20000 in
theorem q_289 : Cond.fieldLink RX5 15 "EyeTrainer$Maps" "drifts" "[I" ∈ lw_gd := mem_gd (List.mem_of_getElem? (i := 289) (by decide +kernel)) rfl
set_option maxRecDepth 20000 in
theorem q_290 : Cond.fieldLink RX5 25 "EyeTrainer$Maps" "rows" "[J" ∈ lw_gd := mem_gd (List.mem_of_getElem? (i := 290) (by decide +kernel)) rfl
set_option maxRecDepth 20000 in
theorem q_291 : Cond.fieldLink RX5 29 "EyeTrainer$Maps" "age" "J" ∈ lw_gd := mem_gd (List.mem_of_getElem? (i := 291) (by decide +kernel)) rfl
set_option maxRecDepth 20000 in
theorem q_292 : Cond.fieldLink RX5 33 "EyeTrainer$Maps" "values" "[I" ∈ lw_gd := mem_gd (List.mem_of_getElem? (i := 292) (by decide +kernel)) rfl
set_option maxRecDepth 20000 in
theorem q_293 : Cond.fieldLink RX5 36 "EyeTrainer$Maps" "stack" "[I" ∈ lw_gd := mem_gd (List.mem_of_getElem? (i := 293) (by decide +kernel)) rfl
set_option maxRecDepth 20000 in
theorem q_584 : Cond.static yJ9_min_7cf53 ∈ lw_gd := mem_gd (List.mem_of_getElem? (i := 584) (by decide +kernel)) rfl
set_option maxRecDepth 20000 in
theorem q_606 : Cond.static yJ9_max_7cf53 ∈ lw_gd := mem_gd (List.mem_of_getElem? (i := 606) (by decide +kernel)) rfl
set_option maxRecDepth 20000 in
theorem q_744 : Cond.fieldLink RX5 66 "EyeTrainer$Law" "used" "I" ∈ lw_gd := mem_gd (List.mem_of_getElem? (i := 744) (by decide +kernel)) rfl
set_option maxRecDepth 20000 in
theorem q_753 : Cond.code yX5_useLab cX5_useLab 2 none ∈ lw_gd := mem_gd (List.mem_of_getElem? (i := 753) (by decide +kernel)) rfl
set_option maxRecDepth 20000 in
theorem q_782 : Cond.code yX5_driftAt cX5_driftAt 4 (some .int) ∈ lw_gd := mem_gd (List.mem_of_getElem? (i := 782) (by decide +kernel)) rfl
set_option maxRecDepth 20000 in
theorem q_783 : Cond.methodLink RX5 39 yJ9_floorMod_7cf53 ∈ lw_gd := mem_gd (List.mem_of_getElem? (i := 783) (by decide +kernel)) rfl
set_option maxRecDepth 20000 in
theorem q_784 : Cond.static yJ9_floorMod_7cf53 ∈ lw_gd := mem_gd (List.mem_of_getElem? (i := 784) (by decide +kernel)) rfl
set_option maxRecDepth 20000 in
theorem q_786 : Cond.methodLink RX5 51 yX4_valueBy ∈ lw_gd := mem_gd (List.mem_of_getElem? (i := 786) (by decide +kernel)) rfl
set_option maxRecDepth 20000 in
theorem q_787 : Cond.instanceMethod yX4_valueBy ∈ lw_gd := mem_gd (List.mem_of_getElem? (i := 787) (by decide +kernel)) rfl
set_option maxRecDepth 20000 in
theorem q_788 : Cond.selects RX4 yX4_valueBy yX4_valueBy ∈ lw_gd := mem_gd (List.mem_of_getElem? (i := 788) (by decide +kernel)) rfl
set_option maxRecDepth 20000 in
theorem q_794 : Cond.methodLink RX5 57 yJ9_min_7cf53 ∈ lw_gd := mem_gd (List.mem_of_getElem? (i := 794) (by decide +kernel)) rfl
set_option maxRecDepth 20000 in
theorem q_795 : Cond.methodLink RX5 60 yJ9_max_7cf53 ∈ lw_gd := mem_gd (List.mem_of_getElem? (i := 795) (by decide +kernel)) rfl
set_option maxRecDepth 20000 in
theorem q_799 : Cond.code yX5_passing cX5_passing 13 (some .int) ∈ lw_gd := mem_gd (List.mem_of_getElem? (i := 799) (by decide +kernel)) rfl
set_option maxRecDepth 20000 in
theorem q_800 : Cond.constantLong RX5 70 (5) ∈ lw_gd := mem_gd (List.mem_of_getElem? (i := 800) (by decide +kernel)) rfl
set_option maxRecDepth 20000 in
theorem q_801 : Cond.constant RX5 72 (16777215) ∈ lw_gd := mem_gd (List.mem_of_getElem? (i := 801) (by decide +kernel)) rfl
set_option maxRecDepth 20000 in
theorem q_802 : Cond.methodLink RX5 76 yX5_isInPlainEye ∈ lw_gd := mem_gd (List.mem_of_getElem? (i := 802) (by decide +kernel)) rfl
set_option maxRecDepth 20000 in
theorem q_804 : Cond.instanceMethod yX5_isInPlainEye ∈ lw_gd := mem_gd (List.mem_of_getElem? (i := 804) (by decide +kernel)) rfl
set_option maxRecDepth 20000 in
theorem q_805 : Cond.code yX5_isInPlainEye cX5_isInPlainEye 6 (some .boolean) ∈ lw_gd := mem_gd (List.mem_of_getElem? (i := 805) (by decide +kernel)) rfl
set_option maxRecDepth 20000 in
theorem q_806 : Cond.methodLink RX5 89 yJ9_abs_0f7a4 ∈ lw_gd := mem_gd (List.mem_of_getElem? (i := 806) (by decide +kernel)) rfl
set_option maxRecDepth 20000 in
theorem q_807 : Cond.static yJ9_abs_0f7a4 ∈ lw_gd := mem_gd (List.mem_of_getElem? (i := 807) (by decide +kernel)) rfl
set_option maxRecDepth 20000 in
theorem q_840 : Cond.code yX5_risenAt cX5_risenAt 7 (some .int) ∈ lw_gd := mem_gd (List.mem_of_getElem? (i := 840) (by decide +kernel)) rfl
theorem dX5_useLab_0 : decode cX5_useLab 0 = .ok (.aload_n 0, 1) := by decide +kernel
theorem dX5_useLab_1 : decode cX5_useLab 1 = .ok (.aload_n 1, 1) := by decide +kernel
theorem dX5_useLab_2 : decode cX5_useLab 2 = .ok (.putfield 9, 3) := by decide +kernel
theorem dX5_useLab_5 : decode cX5_useLab 5 = .ok (.aload_n 0, 1) := by decide +kernel
theorem dX5_useLab_6 : decode cX5_useLab 6 = .ok (.dup, 1) := by decide +kernel
theorem dX5_useLab_7 : decode cX5_useLab 7 = .ok (.getfield 29, 3) := by decide +kernel
theorem dX5_useLab_10 : decode cX5_useLab 10 = .ok (.lconst 1, 1) := by decide +kernel
theorem dX5_useLab_11 : decode cX5_useLab 11 = .ok (.ladd, 1) := by decide +kernel
theorem dX5_useLab_12 : decode cX5_useLab 12 = .ok (.putfield 29, 3) := by decide +kernel
theorem dX5_useLab_15 : decode cX5_useLab 15 = .ok (.aload_n 0, 1) := by decide +kernel
theorem dX5_useLab_16 : decode cX5_useLab 16 = .ok (.getfield 15, 3) := by decide +kernel
theorem dX5_useLab_19 : decode cX5_useLab 19 = .ok (.bipush 99, 2) := by decide +kernel
theorem dX5_useLab_21 : decode cX5_useLab 21 = .ok (.invokestatic 19, 3) := by decide +kernel
theorem dX5_useLab_24 : decode cX5_useLab 24 = .ok (.return_, 1) := by decide +kernel
theorem wX5_useLab : Mw yX5_useLab cX5_useLab 2 none 1 := ⟨q_753, q_123, by decide, ⟨by decide +kernel, by decide +kernel⟩, by decide +kernel, by decide +kernel⟩
/-- EyeTrainer$Maps.useLab(LEyeTrainer$Lab;)V -/
def fX5_useLab (T : Sh) (M : Me) (x0 : Nat) (x1 : Nat) : Option (Unit × Me) :=
  gd (kd T x0 = 4) <| lt (pR M x0 0 (some x1)) fun M2 => lt (pJ M2 x0 3 ((gJ M2 x0 3) + (1 : Int64))) fun M3 => Option.bind (gR M3 x0 1) fun a4 => Option.bind (fJ7_fill_53178 T M3 a4 (99 : Int32)) <| un2 fun _u M5 => some ((), M5)
set_option maxHeartbeats 4000000 in
theorem kX5_useLab {l : Launch} {B : Bx} {d : Nat} (hd : 1 ≤ d) {T : Sh} {M : Me} {x0 : Nat} {x1 : Nat} {M' : Me} (h : fX5_useLab T M x0 x1 = some ((), M')) : Kt l B yX5_useLab cX5_useLab 2 none d [.ref (x0), .ref (x1)] T M none T M' := by
  refine kt_of wX5_useLab (Nat.le_refl _) (Nat.le_refl _) (Nat.le_of_ble_eq_true rfl) (fun X C hR hlx hin => ?_)
  subst hlx
  replace C : Cx X B cX5_useLab 2 RX5 d (tp T, sl T, tp T, sl T) := C
  unfold fX5_useLab at h
  show G X B 2 _ _ 0 [(0, .ref (x0)), (1, .ref (x1))] [] T M
  refine g_aload_n (pc := 0) C dX5_useLab_0 rfl 0 rfl ?_
  refine g_aload_n (pc := 1) C dX5_useLab_1 rfl 1 rfl ?_
  replace h := gd_some h; obtain ⟨hk1, h⟩ := h
  refine g_putR (pc := 2) (x := (some x1)) (ft := .object "EyeTrainer$Lab") C dX5_useLab_2 kX5 hk1 0 (by decide) rfl rfl rfl (Or.inl ⟨_, rfl⟩) q_287 ?_
  refine g_mem (fun M2 eM2 => ?_)
  replace h := lt_at eM2 h
  refine g_aload_n (pc := 5) C dX5_useLab_5 rfl 0 rfl ?_
  refine g_dup (pc := 6) C dX5_useLab_6 rfl ?_
  refine g_get (pc := 7) (v := .long (gJ M2 x0 3)) C dX5_useLab_7 kX5 hk1 3 (by decide) q_291 rfl ?_
  refine g_lconst (pc := 10) (v := 1) C dX5_useLab_10 rfl ?_
  refine g_ladd (pc := 11) C dX5_useLab_11 ?_
  refine g_putJ (pc := 12) C dX5_useLab_12 kX5 hk1 3 (by decide) rfl rfl rfl q_291 ?_
  refine g_mem (fun M3 eM3 => ?_)
  replace h := lt_at eM3 h
  refine g_aload_n (pc := 15) C dX5_useLab_15 rfl 0 rfl ?_
  refine g_get (pc := 16) (v := va_rf (gR M3 x0 1)) C dX5_useLab_16 kX5 hk1 1 (by decide) q_289 rfl ?_
  replace h := bnd h; obtain ⟨a4, ea4, h⟩ := h
  refine g_refq ea4 ?_
  refine g_bipush (pc := 19) (v := 99) C dX5_useLab_19 (by decide) ?_
  replace h := bnd2 h; obtain ⟨_u, M5, h1, h⟩ := h
  refine g_callSv (pc := 21) (As := [.ref (a4), .int ((99 : Int32))]) (st := []) C dX5_useLab_21 wJ7_fill_53178 q_285 q_284 (by omega) rfl (Nat.le_of_ble_eq_true rfl) (kJ7_fill_53178 (d := 0) (Nat.le_refl _) h1) ?_
  obtain ⟨-, rfl⟩ := Prod.mk.inj (Option.some.inj h)
  exact g_vret C hR dX5_useLab_24
theorem dX5_driftAt_0 : decode cX5_driftAt 0 = .ok (.iload_n 1, 1) := by decide +kernel
theorem dX5_driftAt_1 : decode cX5_driftAt 1 = .ok (.bipush 100, 2) := by decide +kernel
theorem dX5_driftAt_3 : decode cX5_driftAt 3 = .ok (.invokestatic 39, 3) := by decide +kernel
theorem dX5_driftAt_6 : decode cX5_driftAt 6 = .ok (.istore_n 2, 1) := by decide +kernel
theorem dX5_driftAt_7 : decode cX5_driftAt 7 = .ok (.aload_n 0, 1) := by decide +kernel
theorem dX5_driftAt_8 : decode cX5_driftAt 8 = .ok (.getfield 9, 3) := by decide +kernel
theorem dX5_driftAt_11 : decode cX5_driftAt 11 = .ok (.getfield 45, 3) := by decide +kernel
theorem dX5_driftAt_14 : decode cX5_driftAt 14 = .ok (.ifnonnull 5, 3) := by decide +kernel
theorem dX5_driftAt_17 : decode cX5_driftAt 17 = .ok (.iconst 0, 1) := by decide +kernel
theorem dX5_driftAt_18 : decode cX5_driftAt 18 = .ok (.ireturn, 1) := by decide +kernel
theorem dX5_driftAt_19 : decode cX5_driftAt 19 = .ok (.aload_n 0, 1) := by decide +kernel
theorem dX5_driftAt_20 : decode cX5_driftAt 20 = .ok (.getfield 15, 3) := by decide +kernel
theorem dX5_driftAt_23 : decode cX5_driftAt 23 = .ok (.iload_n 2, 1) := by decide +kernel
theorem dX5_driftAt_24 : decode cX5_driftAt 24 = .ok (.iaload, 1) := by decide +kernel
theorem dX5_driftAt_25 : decode cX5_driftAt 25 = .ok (.bipush 99, 2) := by decide +kernel
theorem dX5_driftAt_27 : decode cX5_driftAt 27 = .ok (.if_icmp .ne 46, 3) := by decide +kernel
theorem dX5_driftAt_30 : decode cX5_driftAt 30 = .ok (.aload_n 0, 1) := by decide +kernel
theorem dX5_driftAt_31 : decode cX5_driftAt 31 = .ok (.getfield 33, 3) := by decide +kernel
theorem dX5_driftAt_34 : decode cX5_driftAt 34 = .ok (.iconst 5, 1) := by decide +kernel
theorem dX5_driftAt_35 : decode cX5_driftAt 35 = .ok (.iload_n 2, 1) := by decide +kernel
theorem dX5_driftAt_36 : decode cX5_driftAt 36 = .ok (.iastore, 1) := by decide +kernel
theorem dX5_driftAt_37 : decode cX5_driftAt 37 = .ok (.aload_n 0, 1) := by decide +kernel
theorem dX5_driftAt_38 : decode cX5_driftAt 38 = .ok (.getfield 9, 3) := by decide +kernel
theorem dX5_driftAt_41 : decode cX5_driftAt 41 = .ok (.getfield 45, 3) := by decide +kernel
theorem dX5_driftAt_44 : decode cX5_driftAt 44 = .ok (.aload_n 0, 1) := by decide +kernel
theorem dX5_driftAt_45 : decode cX5_driftAt 45 = .ok (.getfield 33, 3) := by decide +kernel
theorem dX5_driftAt_48 : decode cX5_driftAt 48 = .ok (.aload_n 0, 1) := by decide +kernel
theorem dX5_driftAt_49 : decode cX5_driftAt 49 = .ok (.getfield 36, 3) := by decide +kernel
theorem dX5_driftAt_52 : decode cX5_driftAt 52 = .ok (.invokevirtual 51, 3) := by decide +kernel
theorem dX5_driftAt_55 : decode cX5_driftAt 55 = .ok (.istore_n 3, 1) := by decide +kernel
theorem dX5_driftAt_56 : decode cX5_driftAt 56 = .ok (.aload_n 0, 1) := by decide +kernel
theorem dX5_driftAt_57 : decode cX5_driftAt 57 = .ok (.getfield 15, 3) := by decide +kernel
theorem dX5_driftAt_60 : decode cX5_driftAt 60 = .ok (.iload_n 2, 1) := by decide +kernel
theorem dX5_driftAt_61 : decode cX5_driftAt 61 = .ok (.bipush (-15), 2) := by decide +kernel
theorem dX5_driftAt_63 : decode cX5_driftAt 63 = .ok (.bipush 15, 2) := by decide +kernel
theorem dX5_driftAt_65 : decode cX5_driftAt 65 = .ok (.iload_n 3, 1) := by decide +kernel
theorem dX5_driftAt_66 : decode cX5_driftAt 66 = .ok (.invokestatic 57, 3) := by decide +kernel
theorem dX5_driftAt_69 : decode cX5_driftAt 69 = .ok (.invokestatic 60, 3) := by decide +kernel
theorem dX5_driftAt_72 : decode cX5_driftAt 72 = .ok (.iastore, 1) := by decide +kernel
theorem dX5_driftAt_73 : decode cX5_driftAt 73 = .ok (.aload_n 0, 1) := by decide +kernel
theorem dX5_driftAt_74 : decode cX5_driftAt 74 = .ok (.getfield 15, 3) := by decide +kernel
theorem dX5_driftAt_77 : decode cX5_driftAt 77 = .ok (.iload_n 2, 1) := by decide +kernel
theorem dX5_driftAt_78 : decode cX5_driftAt 78 = .ok (.iaload, 1) := by decide +kernel
theorem dX5_driftAt_79 : decode cX5_driftAt 79 = .ok (.ireturn, 1) := by decide +kernel
theorem wX5_driftAt : Mw yX5_driftAt cX5_driftAt 4 (some .int) 1 := ⟨q_782, q_123, by decide, ⟨by decide +kernel, by decide +kernel⟩, by decide +kernel, by decide +kernel⟩
/-- EyeTrainer$Maps.driftAt(I)I -/
def fX5_driftAt (T : Sh) (M : Me) (x0 : Nat) (x1 : Int32) : Option (Int32 × Me) :=
  Option.bind (fJ9_floorMod_7cf53 x1 (100 : Int32)) fun r1 => gd (kd T x0 = 4) <| Option.bind (gR M x0 0) fun a3 => gd (kd T a3 = 2) <| mo (gR M a3 12) (some ((0 : Int32), M)) (fun a5 => Option.bind (gR M x0 1) fun a6 => gd (kd T a6 = 13) <| gv r1 (ln T a6) <| if (gI M a6 (Int32.toNatClampNeg r1)) = (99 : Int32) then (Option.bind (gR M x0 4) fun a13 => gd (kd T a13 = 13) <| gv (5 : Int32) (ln T a13) <| lt (pI M a13 (Int32.toNatClampNeg (5 : Int32)) r1) fun M16 => Option.bind (gR M16 x0 0) fun a17 => gd (kd T a17 = 2) <| Option.bind (gR M16 a17 12) fun a19 => Option.bind (gR M16 x0 4) fun a20 => Option.bind (gR M16 x0 5) fun a21 => gd (kd T a19 = 3) <| Option.bind (fX4_valueBy T M16 a19 a20 a21) <| un2 fun r23 M24 => Option.bind (gR M24 x0 1) fun a25 => Option.bind (fJ9_min_7cf53 (15 : Int32) r23) fun r26 => Option.bind (fJ9_max_7cf53 (-15 : Int32) r26) fun r27 => gd (kd T a25 = 13) <| gv r1 (ln T a25) <| lt (pI M24 a25 (Int32.toNatClampNeg r1) r27) fun M30 => Option.bind (gR M30 x0 1) fun a31 => gd (kd T a31 = 13) <| gv r1 (ln T a31) <| some ((gI M30 a31 (Int32.toNatClampNeg r1)), M30)) else (Option.bind (gR M x0 1) fun a10 => gd (kd T a10 = 13) <| gv r1 (ln T a10) <| some ((gI M a10 (Int32.toNatClampNeg r1)), M)))
set_option maxHeartbeats 4000000 in
theorem kX5_driftAt {l : Launch} {B : Bx} {d : Nat} (hd : 1 ≤ d) {T : Sh} {M : Me} {x0 : Nat} {x1 : Int32} {r : Int32} {M' : Me} (h : fX5_driftAt T M x0 x1 = some (r, M')) : Kt l B yX5_driftAt cX5_driftAt 4 (some .int) d [.ref (x0), .int (x1)] T M (some (.int r)) T M' := by
  refine kt_of wX5_driftAt (Nat.le_refl _) (Nat.le_refl _) (Nat.le_of_ble_eq_true rfl) (fun X C hR hlx hin => ?_)
  subst hlx
  replace C : Cx X B cX5_driftAt 4 RX5 d (tp T, sl T, tp T, sl T) := C
  unfold fX5_driftAt at h
  show G X B 4 _ _ 0 [(0, .ref (x0)), (1, .int (x1))] [] T M
  refine g_iload_n (pc := 0) C dX5_driftAt_0 rfl 1 rfl ?_
  refine g_bipush (pc := 1) (v := 100) C dX5_driftAt_1 (by decide) ?_
  replace h := bnd h; obtain ⟨r1, h1, h⟩ := h
  refine g_callSi (pc := 3) (As := [.int (x1), .int ((100 : Int32))]) (st := []) C dX5_driftAt_3 wJ9_floorMod_7cf53 q_784 q_783 (by omega) rfl (Nat.le_of_ble_eq_true rfl) (kJ9_floorMod_7cf53 (d := 0) (Nat.le_refl _) h1) ?_
  refine g_istore_n (pc := 6) (lo2 := [(2, .int (r1)), (0, .ref (x0)), (1, .int (x1))]) C dX5_driftAt_6 rfl (by decide) rfl ?_
  refine g_aload_n (pc := 7) C dX5_driftAt_7 rfl 1 rfl ?_
  replace h := gd_some h; obtain ⟨hk2, h⟩ := h
  refine g_get (pc := 8) (v := va_rf (gR M x0 0)) C dX5_driftAt_8 kX5 hk2 0 (by decide) q_287 rfl ?_
  replace h := bnd h; obtain ⟨a3, ea3, h⟩ := h
  refine g_refq ea3 ?_
  replace h := gd_some h; obtain ⟨hk4, h⟩ := h
  refine g_get (pc := 11) (v := va_rf (gR M a3 12)) C dX5_driftAt_11 kX3 hk4 12 (by decide) q_251 rfl ?_
  refine g_ifnonnull (pc := 14) (tgt := 19) C dX5_driftAt_14 (by decide) (fun a5 ea5 => ?_) (fun ea5 => ?_)
  · replace h := mo_some2 ea5 h
    refine g_aload_n (pc := 19) C dX5_driftAt_19 rfl 1 rfl ?_
    refine g_get (pc := 20) (v := va_rf (gR M x0 1)) C dX5_driftAt_20 kX5 hk2 1 (by decide) q_289 rfl ?_
    replace h := bnd h; obtain ⟨a6, ea6, h⟩ := h
    refine g_refq ea6 ?_
    refine g_iload_n (pc := 23) C dX5_driftAt_23 rfl 0 rfl ?_
    replace h := gd_some h; obtain ⟨hk7, h⟩ := h
    replace h := gv_some h; obtain ⟨hi8, h⟩ := h
    refine g_iald (pc := 24) C dX5_driftAt_24 hk7 hi8 ?_
    refine g_bipush (pc := 25) (v := 99) C dX5_driftAt_25 (by decide) ?_
    refine g_icmp_ne (pc := 27) (tgt := 73) C dX5_driftAt_27 (by decide) (fun c9 => ?_) (fun c9 => ?_)
    · replace h := ifn c9 h
      refine g_aload_n (pc := 73) C dX5_driftAt_73 rfl 1 rfl ?_
      refine g_get (pc := 74) (v := va_rf (gR M x0 1)) C dX5_driftAt_74 kX5 hk2 1 (by decide) q_289 rfl ?_
      replace h := bnd h; obtain ⟨a10, ea10, h⟩ := h
      refine g_refq ea10 ?_
      refine g_iload_n (pc := 77) C dX5_driftAt_77 rfl 0 rfl ?_
      replace h := gd_some h; obtain ⟨hk11, h⟩ := h
      replace h := gv_some h; obtain ⟨hi12, h⟩ := h
      refine g_iald (pc := 78) C dX5_driftAt_78 hk11 hi12 ?_
      obtain ⟨rfl, rfl⟩ := Prod.mk.inj (Option.some.inj h)
      exact g_iret C hR dX5_driftAt_79
    · replace h := ifp c9 h
      refine g_aload_n (pc := 30) C dX5_driftAt_30 rfl 1 rfl ?_
      refine g_get (pc := 31) (v := va_rf (gR M x0 4)) C dX5_driftAt_31 kX5 hk2 4 (by decide) q_292 rfl ?_
      replace h := bnd h; obtain ⟨a13, ea13, h⟩ := h
      refine g_refq ea13 ?_
      refine g_iconst (pc := 34) (v := 5) C dX5_driftAt_34 (by decide) ?_
      refine g_iload_n (pc := 35) C dX5_driftAt_35 rfl 0 rfl ?_
      replace h := gd_some h; obtain ⟨hk14, h⟩ := h
      replace h := gv_some h; obtain ⟨hi15, h⟩ := h
      refine g_iast (pc := 36) C dX5_driftAt_36 hk14 hi15 ?_
      refine g_mem (fun M16 eM16 => ?_)
      replace h := lt_at eM16 h
      refine g_aload_n (pc := 37) C dX5_driftAt_37 rfl 1 rfl ?_
      refine g_get (pc := 38) (v := va_rf (gR M16 x0 0)) C dX5_driftAt_38 kX5 hk2 0 (by decide) q_287 rfl ?_
      replace h := bnd h; obtain ⟨a17, ea17, h⟩ := h
      refine g_refq ea17 ?_
      replace h := gd_some h; obtain ⟨hk18, h⟩ := h
      refine g_get (pc := 41) (v := va_rf (gR M16 a17 12)) C dX5_driftAt_41 kX3 hk18 12 (by decide) q_251 rfl ?_
      replace h := bnd h; obtain ⟨a19, ea19, h⟩ := h
      refine g_refq ea19 ?_
      refine g_aload_n (pc := 44) C dX5_driftAt_44 rfl 1 rfl ?_
      refine g_get (pc := 45) (v := va_rf (gR M16 x0 4)) C dX5_driftAt_45 kX5 hk2 4 (by decide) q_292 rfl ?_
      replace h := bnd h; obtain ⟨a20, ea20, h⟩ := h
      refine g_refq ea20 ?_
      refine g_aload_n (pc := 48) C dX5_driftAt_48 rfl 1 rfl ?_
      refine g_get (pc := 49) (v := va_rf (gR M16 x0 5)) C dX5_driftAt_49 kX5 hk2 5 (by decide) q_293 rfl ?_
      replace h := bnd h; obtain ⟨a21, ea21, h⟩ := h
      refine g_refq ea21 ?_
      replace h := gd_some h; obtain ⟨hk22, h⟩ := h
      replace h := bnd2 h; obtain ⟨r23, M24, h1, h⟩ := h
      refine g_callVi (pc := 52) (As := [.ref (a20), .ref (a21)]) (st := []) C dX5_driftAt_52 wX4_valueBy hk22 rfl (by decide) q_787 q_788 q_786 (by omega) rfl (Nat.le_of_ble_eq_true rfl) (kX4_valueBy (d := 0) (Nat.le_refl _) h1) ?_
      refine g_istore_n (pc := 55) (lo2 := [(3, .int (r23)), (2, .int (r1)), (0, .ref (x0)), (1, .int (x1))]) C dX5_driftAt_55 rfl (by decide) rfl ?_
      refine g_aload_n (pc := 56) C dX5_driftAt_56 rfl 2 rfl ?_
      refine g_get (pc := 57) (v := va_rf (gR M24 x0 1)) C dX5_driftAt_57 kX5 hk2 1 (by decide) q_289 rfl ?_
      replace h := bnd h; obtain ⟨a25, ea25, h⟩ := h
      refine g_refq ea25 ?_
      refine g_iload_n (pc := 60) C dX5_driftAt_60 rfl 1 rfl ?_
      refine g_bipush (pc := 61) (v := (-15)) C dX5_driftAt_61 (by decide) ?_
      refine g_bipush (pc := 63) (v := 15) C dX5_driftAt_63 (by decide) ?_
      refine g_iload_n (pc := 65) C dX5_driftAt_65 rfl 0 rfl ?_
      replace h := bnd h; obtain ⟨r26, h1, h⟩ := h
      refine g_callSi (pc := 66) (As := [.int ((15 : Int32)), .int (r23)]) (st := [.int ((-15 : Int32)), .int (r1), .ref (a25)]) C dX5_driftAt_66 wJ9_min_7cf53 q_584 q_794 (by omega) rfl (Nat.le_of_ble_eq_true rfl) (kJ9_min_7cf53 (d := 0) (Nat.le_refl _) h1) ?_
      replace h := bnd h; obtain ⟨r27, h1, h⟩ := h
      refine g_callSi (pc := 69) (As := [.int ((-15 : Int32)), .int (r26)]) (st := [.int (r1), .ref (a25)]) C dX5_driftAt_69 wJ9_max_7cf53 q_606 q_795 (by omega) rfl (Nat.le_of_ble_eq_true rfl) (kJ9_max_7cf53 (d := 0) (Nat.le_refl _) h1) ?_
      replace h := gd_some h; obtain ⟨hk28, h⟩ := h
      replace h := gv_some h; obtain ⟨hi29, h⟩ := h
      refine g_iast (pc := 72) C dX5_driftAt_72 hk28 hi29 ?_
      refine g_mem (fun M30 eM30 => ?_)
      replace h := lt_at eM30 h
      refine g_aload_n (pc := 73) C dX5_driftAt_73 rfl 2 rfl ?_
      refine g_get (pc := 74) (v := va_rf (gR M30 x0 1)) C dX5_driftAt_74 kX5 hk2 1 (by decide) q_289 rfl ?_
      replace h := bnd h; obtain ⟨a31, ea31, h⟩ := h
      refine g_refq ea31 ?_
      refine g_iload_n (pc := 77) C dX5_driftAt_77 rfl 1 rfl ?_
      replace h := gd_some h; obtain ⟨hk32, h⟩ := h
      replace h := gv_some h; obtain ⟨hi33, h⟩ := h
      refine g_iald (pc := 78) C dX5_driftAt_78 hk32 hi33 ?_
      obtain ⟨rfl, rfl⟩ := Prod.mk.inj (Option.some.inj h)
      exact g_iret C hR dX5_driftAt_79
  · replace h := mo_none2 ea5 h
    refine g_iconst (pc := 17) (v := 0) C dX5_driftAt_17 (by decide) ?_
    obtain ⟨rfl, rfl⟩ := Prod.mk.inj (Option.some.inj h)
    exact g_iret C hR dX5_driftAt_18
theorem dX5_isInPlainEye_0 : decode cX5_isInPlainEye 0 = .ok (.aload_n 0, 1) := by decide +kernel
theorem dX5_isInPlainEye_1 : decode cX5_isInPlainEye 1 = .ok (.getfield 33, 3) := by decide +kernel
theorem dX5_isInPlainEye_4 : decode cX5_isInPlainEye 4 = .ok (.iconst 2, 1) := by decide +kernel
theorem dX5_isInPlainEye_5 : decode cX5_isInPlainEye 5 = .ok (.iaload, 1) := by decide +kernel
theorem dX5_isInPlainEye_6 : decode cX5_isInPlainEye 6 = .ok (.istore_n 1, 1) := by decide +kernel
theorem dX5_isInPlainEye_7 : decode cX5_isInPlainEye 7 = .ok (.aload_n 0, 1) := by decide +kernel
theorem dX5_isInPlainEye_8 : decode cX5_isInPlainEye 8 = .ok (.getfield 9, 3) := by decide +kernel
theorem dX5_isInPlainEye_11 : decode cX5_isInPlainEye 11 = .ok (.getfield 80, 3) := by decide +kernel
theorem dX5_isInPlainEye_14 : decode cX5_isInPlainEye 14 = .ok (.iload_n 1, 1) := by decide +kernel
theorem dX5_isInPlainEye_15 : decode cX5_isInPlainEye 15 = .ok (.iaload, 1) := by decide +kernel
theorem dX5_isInPlainEye_16 : decode cX5_isInPlainEye 16 = .ok (.aload_n 0, 1) := by decide +kernel
theorem dX5_isInPlainEye_17 : decode cX5_isInPlainEye 17 = .ok (.getfield 33, 3) := by decide +kernel
theorem dX5_isInPlainEye_20 : decode cX5_isInPlainEye 20 = .ok (.iconst 3, 1) := by decide +kernel
theorem dX5_isInPlainEye_21 : decode cX5_isInPlainEye 21 = .ok (.iaload, 1) := by decide +kernel
theorem dX5_isInPlainEye_22 : decode cX5_isInPlainEye 22 = .ok (.isub, 1) := by decide +kernel
theorem dX5_isInPlainEye_23 : decode cX5_isInPlainEye 23 = .ok (.istore_n 2, 1) := by decide +kernel
theorem dX5_isInPlainEye_24 : decode cX5_isInPlainEye 24 = .ok (.aload_n 0, 1) := by decide +kernel
theorem dX5_isInPlainEye_25 : decode cX5_isInPlainEye 25 = .ok (.getfield 9, 3) := by decide +kernel
theorem dX5_isInPlainEye_28 : decode cX5_isInPlainEye 28 = .ok (.getfield 83, 3) := by decide +kernel
theorem dX5_isInPlainEye_31 : decode cX5_isInPlainEye 31 = .ok (.iload_n 1, 1) := by decide +kernel
theorem dX5_isInPlainEye_32 : decode cX5_isInPlainEye 32 = .ok (.iaload, 1) := by decide +kernel
theorem dX5_isInPlainEye_33 : decode cX5_isInPlainEye 33 = .ok (.istore_n 3, 1) := by decide +kernel
theorem dX5_isInPlainEye_34 : decode cX5_isInPlainEye 34 = .ok (.aload_n 0, 1) := by decide +kernel
theorem dX5_isInPlainEye_35 : decode cX5_isInPlainEye 35 = .ok (.getfield 33, 3) := by decide +kernel
theorem dX5_isInPlainEye_38 : decode cX5_isInPlainEye 38 = .ok (.iconst 0, 1) := by decide +kernel
theorem dX5_isInPlainEye_39 : decode cX5_isInPlainEye 39 = .ok (.iaload, 1) := by decide +kernel
theorem dX5_isInPlainEye_40 : decode cX5_isInPlainEye 40 = .ok (.aload_n 0, 1) := by decide +kernel
theorem dX5_isInPlainEye_41 : decode cX5_isInPlainEye 41 = .ok (.getfield 9, 3) := by decide +kernel
theorem dX5_isInPlainEye_44 : decode cX5_isInPlainEye 44 = .ok (.getfield 86, 3) := by decide +kernel
theorem dX5_isInPlainEye_47 : decode cX5_isInPlainEye 47 = .ok (.iload_n 1, 1) := by decide +kernel
theorem dX5_isInPlainEye_48 : decode cX5_isInPlainEye 48 = .ok (.iaload, 1) := by decide +kernel
theorem dX5_isInPlainEye_49 : decode cX5_isInPlainEye 49 = .ok (.isub, 1) := by decide +kernel
theorem dX5_isInPlainEye_50 : decode cX5_isInPlainEye 50 = .ok (.aload_n 0, 1) := by decide +kernel
theorem dX5_isInPlainEye_51 : decode cX5_isInPlainEye 51 = .ok (.getfield 33, 3) := by decide +kernel
theorem dX5_isInPlainEye_54 : decode cX5_isInPlainEye 54 = .ok (.iconst 4, 1) := by decide +kernel
theorem dX5_isInPlainEye_55 : decode cX5_isInPlainEye 55 = .ok (.iaload, 1) := by decide +kernel
theorem dX5_isInPlainEye_56 : decode cX5_isInPlainEye 56 = .ok (.isub, 1) := by decide +kernel
theorem dX5_isInPlainEye_57 : decode cX5_isInPlainEye 57 = .ok (.invokestatic 89, 3) := by decide +kernel
theorem dX5_isInPlainEye_60 : decode cX5_isInPlainEye 60 = .ok (.istore 4, 2) := by decide +kernel
theorem dX5_isInPlainEye_62 : decode cX5_isInPlainEye 62 = .ok (.aload_n 0, 1) := by decide +kernel
theorem dX5_isInPlainEye_63 : decode cX5_isInPlainEye 63 = .ok (.getfield 33, 3) := by decide +kernel
theorem dX5_isInPlainEye_66 : decode cX5_isInPlainEye 66 = .ok (.iconst 1, 1) := by decide +kernel
theorem dX5_isInPlainEye_67 : decode cX5_isInPlainEye 67 = .ok (.iaload, 1) := by decide +kernel
theorem dX5_isInPlainEye_68 : decode cX5_isInPlainEye 68 = .ok (.aload_n 0, 1) := by decide +kernel
theorem dX5_isInPlainEye_69 : decode cX5_isInPlainEye 69 = .ok (.getfield 9, 3) := by decide +kernel
theorem dX5_isInPlainEye_72 : decode cX5_isInPlainEye 72 = .ok (.getfield 93, 3) := by decide +kernel
theorem dX5_isInPlainEye_75 : decode cX5_isInPlainEye 75 = .ok (.iload_n 1, 1) := by decide +kernel
theorem dX5_isInPlainEye_76 : decode cX5_isInPlainEye 76 = .ok (.iaload, 1) := by decide +kernel
theorem dX5_isInPlainEye_77 : decode cX5_isInPlainEye 77 = .ok (.isub, 1) := by decide +kernel
theorem dX5_isInPlainEye_78 : decode cX5_isInPlainEye 78 = .ok (.invokestatic 89, 3) := by decide +kernel
theorem dX5_isInPlainEye_81 : decode cX5_isInPlainEye 81 = .ok (.istore 5, 2) := by decide +kernel
theorem dX5_isInPlainEye_83 : decode cX5_isInPlainEye 83 = .ok (.iload_n 2, 1) := by decide +kernel
theorem dX5_isInPlainEye_84 : decode cX5_isInPlainEye 84 = .ok (.iconst 1, 1) := by decide +kernel
theorem dX5_isInPlainEye_85 : decode cX5_isInPlainEye 85 = .ok (.if_icmp .lt 22, 3) := by decide +kernel
theorem dX5_isInPlainEye_88 : decode cX5_isInPlainEye 88 = .ok (.iload 4, 2) := by decide +kernel
theorem dX5_isInPlainEye_90 : decode cX5_isInPlainEye 90 = .ok (.iload_n 3, 1) := by decide +kernel
theorem dX5_isInPlainEye_91 : decode cX5_isInPlainEye 91 = .ok (.imul, 1) := by decide +kernel
theorem dX5_isInPlainEye_92 : decode cX5_isInPlainEye 92 = .ok (.iload 5, 2) := by decide +kernel
theorem dX5_isInPlainEye_94 : decode cX5_isInPlainEye 94 = .ok (.iload_n 2, 1) := by decide +kernel
theorem dX5_isInPlainEye_95 : decode cX5_isInPlainEye 95 = .ok (.imul, 1) := by decide +kernel
theorem dX5_isInPlainEye_96 : decode cX5_isInPlainEye 96 = .ok (.iadd, 1) := by decide +kernel
theorem dX5_isInPlainEye_97 : decode cX5_isInPlainEye 97 = .ok (.iload_n 2, 1) := by decide +kernel
theorem dX5_isInPlainEye_98 : decode cX5_isInPlainEye 98 = .ok (.iload_n 3, 1) := by decide +kernel
theorem dX5_isInPlainEye_99 : decode cX5_isInPlainEye 99 = .ok (.imul, 1) := by decide +kernel
theorem dX5_isInPlainEye_100 : decode cX5_isInPlainEye 100 = .ok (.if_icmp .ge 7, 3) := by decide +kernel
theorem dX5_isInPlainEye_103 : decode cX5_isInPlainEye 103 = .ok (.iconst 1, 1) := by decide +kernel
theorem dX5_isInPlainEye_104 : decode cX5_isInPlainEye 104 = .ok (.goto 4, 3) := by decide +kernel
theorem dX5_isInPlainEye_107 : decode cX5_isInPlainEye 107 = .ok (.iconst 0, 1) := by decide +kernel
theorem dX5_isInPlainEye_108 : decode cX5_isInPlainEye 108 = .ok (.ireturn, 1) := by decide +kernel
theorem wX5_isInPlainEye : Mw yX5_isInPlainEye cX5_isInPlainEye 6 (some .boolean) 0 := ⟨q_805, q_123, by decide, ⟨by decide +kernel, by decide +kernel⟩, by decide +kernel, by decide +kernel⟩
/-- EyeTrainer$Maps.isInPlainEye()Z -/
def fX5_isInPlainEye (T : Sh) (M : Me) (x0 : Nat) : Option (Int32) :=
  gd (kd T x0 = 4) <| Option.bind (gR M x0 4) fun a2 => gd (kd T a2 = 13) <| gv (2 : Int32) (ln T a2) <| lt (gI M a2 (Int32.toNatClampNeg (2 : Int32))) fun v5 => Option.bind (gR M x0 0) fun a6 => gd (kd T a6 = 2) <| Option.bind (gR M a6 2) fun a8 => gd (kd T a8 = 13) <| gv v5 (ln T a8) <| Option.bind (gR M x0 4) fun a11 => gd (kd T a11 = 13) <| gv (3 : Int32) (ln T a11) <| lt ((gI M a8 (Int32.toNatClampNeg v5)) - (gI M a11 (Int32.toNatClampNeg (3 : Int32)))) fun v14 => Option.bind (gR M x0 0) fun a15 => gd (kd T a15 = 2) <| Option.bind (gR M a15 3) fun a17 => gd (kd T a17 = 13) <| gv v5 (ln T a17) <| lt (gI M a17 (Int32.toNatClampNeg v5)) fun v20 => Option.bind (gR M x0 4) fun a21 => gd (kd T a21 = 13) <| gv (0 : Int32) (ln T a21) <| Option.bind (gR M x0 0) fun a24 => gd (kd T a24 = 2) <| Option.bind (gR M a24 0) fun a26 => gd (kd T a26 = 13) <| gv v5 (ln T a26) <| Option.bind (gR M x0 4) fun a29 => gd (kd T a29 = 13) <| gv (4 : Int32) (ln T a29) <| Option.bind (fJ9_abs_0f7a4 (((gI M a21 (Int32.toNatClampNeg (0 : Int32))) - (gI M a26 (Int32.toNatClampNeg v5))) - (gI M a29 (Int32.toNatClampNeg (4 : Int32))))) fun r32 => Option.bind (gR M x0 4) fun a33 => gd (kd T a33 = 13) <| gv (1 : Int32) (ln T a33) <| Option.bind (gR M x0 0) fun a36 => gd (kd T a36 = 2) <| Option.bind (gR M a36 1) fun a38 => gd (kd T a38 = 13) <| gv v5 (ln T a38) <| Option.bind (fJ9_abs_0f7a4 ((gI M a33 (Int32.toNatClampNeg (1 : Int32))) - (gI M a38 (Int32.toNatClampNeg v5)))) fun r41 => if v14 < (1 : Int32) then (some (0 : Int32)) else (if (v14 * v20) ≤ ((r32 * v20) + (r41 * v14)) then (some (0 : Int32)) else (some (1 : Int32)))
set_option maxHeartbeats 4000000 in
theorem kX5_isInPlainEye {l : Launch} {B : Bx} {d : Nat} (hd : 1 ≤ d) {T : Sh} {M : Me} {x0 : Nat} {r : Int32} (h : fX5_isInPlainEye T M x0 = some r) : Kt l B yX5_isInPlainEye cX5_isInPlainEye 6 (some .boolean) d [.ref (x0)] T M (some (.int r)) T M := by
  refine kt_of wX5_isInPlainEye (Nat.le_refl _) (Nat.le_refl _) (Nat.le_of_ble_eq_true rfl) (fun X C hR hlx hin => ?_)
  subst hlx
  replace C : Cx X B cX5_isInPlainEye 6 RX5 d (tp T, sl T, tp T, sl T) := C
  unfold fX5_isInPlainEye at h
  show G X B 6 _ _ 0 [(0, .ref (x0))] [] T M
  refine g_aload_n (pc := 0) C dX5_isInPlainEye_0 rfl 0 rfl ?_
  replace h := gd_some h; obtain ⟨hk1, h⟩ := h
  refine g_get (pc := 1) (v := va_rf (gR M x0 4)) C dX5_isInPlainEye_1 kX5 hk1 4 (by decide) q_292 rfl ?_
  replace h := bnd h; obtain ⟨a2, ea2, h⟩ := h
  refine g_refq ea2 ?_
  refine g_iconst (pc := 4) (v := 2) C dX5_isInPlainEye_4 (by decide) ?_
  replace h := gd_some h; obtain ⟨hk3, h⟩ := h
  replace h := gv_some h; obtain ⟨hi4, h⟩ := h
  refine g_iald (pc := 5) C dX5_isInPlainEye_5 hk3 hi4 ?_
  refine g_topi (fun v5 ev5 => ?_)
  replace h := lt_at ev5 h
  refine g_istore_n (pc := 6) (lo2 := [(1, .int (v5)), (0, .ref (x0))]) C dX5_isInPlainEye_6 rfl (by decide) rfl ?_
  refine g_aload_n (pc := 7) C dX5_isInPlainEye_7 rfl 1 rfl ?_
  refine g_get (pc := 8) (v := va_rf (gR M x0 0)) C dX5_isInPlainEye_8 kX5 hk1 0 (by decide) q_287 rfl ?_
  replace h := bnd h; obtain ⟨a6, ea6, h⟩ := h
  refine g_refq ea6 ?_
  replace h := gd_some h; obtain ⟨hk7, h⟩ := h
  refine g_get (pc := 11) (v := va_rf (gR M a6 2)) C dX5_isInPlainEye_11 kX3 hk7 2 (by decide) q_225 rfl ?_
  replace h := bnd h; obtain ⟨a8, ea8, h⟩ := h
  refine g_refq ea8 ?_
  refine g_iload_n (pc := 14) C dX5_isInPlainEye_14 rfl 0 rfl ?_
  replace h := gd_some h; obtain ⟨hk9, h⟩ := h
  replace h := gv_some h; obtain ⟨hi10, h⟩ := h
  refine g_iald (pc := 15) C dX5_isInPlainEye_15 hk9 hi10 ?_
  refine g_aload_n (pc := 16) C dX5_isInPlainEye_16 rfl 1 rfl ?_
  refine g_get (pc := 17) (v := va_rf (gR M x0 4)) C dX5_isInPlainEye_17 kX5 hk1 4 (by decide) q_292 rfl ?_
  replace h := bnd h; obtain ⟨a11, ea11, h⟩ := h
  refine g_refq ea11 ?_
  refine g_iconst (pc := 20) (v := 3) C dX5_isInPlainEye_20 (by decide) ?_
  replace h := gd_some h; obtain ⟨hk12, h⟩ := h
  replace h := gv_some h; obtain ⟨hi13, h⟩ := h
  refine g_iald (pc := 21) C dX5_isInPlainEye_21 hk12 hi13 ?_
  refine g_isub (pc := 22) C dX5_isInPlainEye_22 ?_
  refine g_topi (fun v14 ev14 => ?_)
  replace h := lt_at ev14 h
  refine g_istore_n (pc := 23) (lo2 := [(2, .int (v14)), (1, .int (v5)), (0, .ref (x0))]) C dX5_isInPlainEye_23 rfl (by decide) rfl ?_
  refine g_aload_n (pc := 24) C dX5_isInPlainEye_24 rfl 2 rfl ?_
  refine g_get (pc := 25) (v := va_rf (gR M x0 0)) C dX5_isInPlainEye_25 kX5 hk1 0 (by decide) q_287 rfl ?_
  replace h := bnd h; obtain ⟨a15, ea15, h⟩ := h
  refine g_refq ea15 ?_
  replace h := gd_some h; obtain ⟨hk16, h⟩ := h
  refine g_get (pc := 28) (v := va_rf (gR M a15 3)) C dX5_isInPlainEye_28 kX3 hk16 3 (by decide) q_229 rfl ?_
  replace h := bnd h; obtain ⟨a17, ea17, h⟩ := h
  refine g_refq ea17 ?_
  refine g_iload_n (pc := 31) C dX5_isInPlainEye_31 rfl 1 rfl ?_
  replace h := gd_some h; obtain ⟨hk18, h⟩ := h
  replace h := gv_some h; obtain ⟨hi19, h⟩ := h
  refine g_iald (pc := 32) C dX5_isInPlainEye_32 hk18 hi19 ?_
  refine g_topi (fun v20 ev20 => ?_)
  replace h := lt_at ev20 h
  refine g_istore_n (pc := 33) (lo2 := [(3, .int (v20)), (2, .int (v14)), (1, .int (v5)), (0, .ref (x0))]) C dX5_isInPlainEye_33 rfl (by decide) rfl ?_
  refine g_aload_n (pc := 34) C dX5_isInPlainEye_34 rfl 3 rfl ?_
  refine g_get (pc := 35) (v := va_rf (gR M x0 4)) C dX5_isInPlainEye_35 kX5 hk1 4 (by decide) q_292 rfl ?_
  replace h := bnd h; obtain ⟨a21, ea21, h⟩ := h
  refine g_refq ea21 ?_
  refine g_iconst (pc := 38) (v := 0) C dX5_isInPlainEye_38 (by decide) ?_
  replace h := gd_some h; obtain ⟨hk22, h⟩ := h
  replace h := gv_some h; obtain ⟨hi23, h⟩ := h
  refine g_iald (pc := 39) C dX5_isInPlainEye_39 hk22 hi23 ?_
  refine g_aload_n (pc := 40) C dX5_isInPlainEye_40 rfl 3 rfl ?_
  refine g_get (pc := 41) (v := va_rf (gR M x0 0)) C dX5_isInPlainEye_41 kX5 hk1 0 (by decide) q_287 rfl ?_
  replace h := bnd h; obtain ⟨a24, ea24, h⟩ := h
  refine g_refq ea24 ?_
  replace h := gd_some h; obtain ⟨hk25, h⟩ := h
  refine g_get (pc := 44) (v := va_rf (gR M a24 0)) C dX5_isInPlainEye_44 kX3 hk25 0 (by decide) q_217 rfl ?_
  replace h := bnd h; obtain ⟨a26, ea26, h⟩ := h
  refine g_refq ea26 ?_
  refine g_iload_n (pc := 47) C dX5_isInPlainEye_47 rfl 2 rfl ?_
  replace h := gd_some h; obtain ⟨hk27, h⟩ := h
  replace h := gv_some h; obtain ⟨hi28, h⟩ := h
  refine g_iald (pc := 48) C dX5_isInPlainEye_48 hk27 hi28 ?_
  refine g_isub (pc := 49) C dX5_isInPlainEye_49 ?_
  refine g_aload_n (pc := 50) C dX5_isInPlainEye_50 rfl 3 rfl ?_
  refine g_get (pc := 51) (v := va_rf (gR M x0 4)) C dX5_isInPlainEye_51 kX5 hk1 4 (by decide) q_292 rfl ?_
  replace h := bnd h; obtain ⟨a29, ea29, h⟩ := h
  refine g_refq ea29 ?_
  refine g_iconst (pc := 54) (v := 4) C dX5_isInPlainEye_54 (by decide) ?_
  replace h := gd_some h; obtain ⟨hk30, h⟩ := h
  replace h := gv_some h; obtain ⟨hi31, h⟩ := h
  refine g_iald (pc := 55) C dX5_isInPlainEye_55 hk30 hi31 ?_
  refine g_isub (pc := 56) C dX5_isInPlainEye_56 ?_
  replace h := bnd h; obtain ⟨r32, h1, h⟩ := h
  refine g_callSi (pc := 57) (As := [.int (((gI M a21 (Int32.toNatClampNeg (0 : Int32))) - (gI M a26 (Int32.toNatClampNeg v5))) - (gI M a29 (Int32.toNatClampNeg (4 : Int32))))]) (st := []) C dX5_isInPlainEye_57 wJ9_abs_0f7a4 q_807 q_806 (by omega) rfl (Nat.le_of_ble_eq_true rfl) (kJ9_abs_0f7a4 (d := 0) (Nat.le_refl _) h1) ?_
  refine g_istore (pc := 60) (lo2 := [(4, .int (r32)), (3, .int (v20)), (2, .int (v14)), (1, .int (v5)), (0, .ref (x0))]) C dX5_isInPlainEye_60 (by decide) rfl ?_
  refine g_aload_n (pc := 62) C dX5_isInPlainEye_62 rfl 4 rfl ?_
  refine g_get (pc := 63) (v := va_rf (gR M x0 4)) C dX5_isInPlainEye_63 kX5 hk1 4 (by decide) q_292 rfl ?_
  replace h := bnd h; obtain ⟨a33, ea33, h⟩ := h
  refine g_refq ea33 ?_
  refine g_iconst (pc := 66) (v := 1) C dX5_isInPlainEye_66 (by decide) ?_
  replace h := gd_some h; obtain ⟨hk34, h⟩ := h
  replace h := gv_some h; obtain ⟨hi35, h⟩ := h
  refine g_iald (pc := 67) C dX5_isInPlainEye_67 hk34 hi35 ?_
  refine g_aload_n (pc := 68) C dX5_isInPlainEye_68 rfl 4 rfl ?_
  refine g_get (pc := 69) (v := va_rf (gR M x0 0)) C dX5_isInPlainEye_69 kX5 hk1 0 (by decide) q_287 rfl ?_
  replace h := bnd h; obtain ⟨a36, ea36, h⟩ := h
  refine g_refq ea36 ?_
  replace h := gd_some h; obtain ⟨hk37, h⟩ := h
  refine g_get (pc := 72) (v := va_rf (gR M a36 1)) C dX5_isInPlainEye_72 kX3 hk37 1 (by decide) q_222 rfl ?_
  replace h := bnd h; obtain ⟨a38, ea38, h⟩ := h
  refine g_refq ea38 ?_
  refine g_iload_n (pc := 75) C dX5_isInPlainEye_75 rfl 3 rfl ?_
  replace h := gd_some h; obtain ⟨hk39, h⟩ := h
  replace h := gv_some h; obtain ⟨hi40, h⟩ := h
  refine g_iald (pc := 76) C dX5_isInPlainEye_76 hk39 hi40 ?_
  refine g_isub (pc := 77) C dX5_isInPlainEye_77 ?_
  replace h := bnd h; obtain ⟨r41, h1, h⟩ := h
  refine g_callSi (pc := 78) (As := [.int ((gI M a33 (Int32.toNatClampNeg (1 : Int32))) - (gI M a38 (Int32.toNatClampNeg v5)))]) (st := []) C dX5_isInPlainEye_78 wJ9_abs_0f7a4 q_807 q_806 (by omega) rfl (Nat.le_of_ble_eq_true rfl) (kJ9_abs_0f7a4 (d := 0) (Nat.le_refl _) h1) ?_
  refine g_istore (pc := 81) (lo2 := [(5, .int (r41)), (4, .int (r32)), (3, .int (v20)), (2, .int (v14)), (1, .int (v5)), (0, .ref (x0))]) C dX5_isInPlainEye_81 (by decide) rfl ?_
  refine g_iload_n (pc := 83) C dX5_isInPlainEye_83 rfl 3 rfl ?_
  refine g_iconst (pc := 84) (v := 1) C dX5_isInPlainEye_84 (by decide) ?_
  refine g_icmp_lt (pc := 85) (tgt := 107) C dX5_isInPlainEye_85 (by decide) (fun c42 => ?_) (fun c42 => ?_)
  · replace h := ifp c42 h
    refine g_iconst (pc := 107) (v := 0) C dX5_isInPlainEye_107 (by decide) ?_
    obtain rfl := Option.some.inj h
    exact g_zret C hR dX5_isInPlainEye_108 rfl
  · replace h := ifn c42 h
    refine g_iload (pc := 88) C dX5_isInPlainEye_88 1 rfl ?_
    refine g_iload_n (pc := 90) C dX5_isInPlainEye_90 rfl 2 rfl ?_
    refine g_imul (pc := 91) C dX5_isInPlainEye_91 ?_
    refine g_iload (pc := 92) C dX5_isInPlainEye_92 0 rfl ?_
    refine g_iload_n (pc := 94) C dX5_isInPlainEye_94 rfl 3 rfl ?_
    refine g_imul (pc := 95) C dX5_isInPlainEye_95 ?_
    refine g_iadd (pc := 96) C dX5_isInPlainEye_96 ?_
    refine g_iload_n (pc := 97) C dX5_isInPlainEye_97 rfl 3 rfl ?_
    refine g_iload_n (pc := 98) C dX5_isInPlainEye_98 rfl 2 rfl ?_
    refine g_imul (pc := 99) C dX5_isInPlainEye_99 ?_
    refine g_icmp_ge (pc := 100) (tgt := 107) C dX5_isInPlainEye_100 (by decide) (fun c43 => ?_) (fun c43 => ?_)
    · replace h := ifp c43 h
      refine g_iconst (pc := 107) (v := 0) C dX5_isInPlainEye_107 (by decide) ?_
      obtain rfl := Option.some.inj h
      exact g_zret C hR dX5_isInPlainEye_108 rfl
    · replace h := ifn c43 h
      refine g_iconst (pc := 103) (v := 1) C dX5_isInPlainEye_103 (by decide) ?_
      refine g_goto (pc := 104) (tgt := 108) C dX5_isInPlainEye_104 (by decide) ?_
      obtain rfl := Option.some.inj h
      exact g_zret C hR dX5_isInPlainEye_108 rfl
theorem dX5_passing_0 : decode cX5_passing 0 = .ok (.aload_n 0, 1) := by decide +kernel
theorem dX5_passing_1 : decode cX5_passing 1 = .ok (.getfield 9, 3) := by decide +kernel
theorem dX5_passing_4 : decode cX5_passing 4 = .ok (.getfield 63, 3) := by decide +kernel
theorem dX5_passing_7 : decode cX5_passing 7 = .ok (.astore 5, 2) := by decide +kernel
theorem dX5_passing_9 : decode cX5_passing 9 = .ok (.aload 5, 2) := by decide +kernel
theorem dX5_passing_11 : decode cX5_passing 11 = .ok (.ifnonnull 7, 3) := by decide +kernel
theorem dX5_passing_14 : decode cX5_passing 14 = .ok (.iconst (-1), 1) := by decide +kernel
theorem dX5_passing_15 : decode cX5_passing 15 = .ok (.goto 8, 3) := by decide +kernel
theorem dX5_passing_18 : decode cX5_passing 18 = .ok (.aload 5, 2) := by decide +kernel
theorem dX5_passing_20 : decode cX5_passing 20 = .ok (.getfield 66, 3) := by decide +kernel
theorem dX5_passing_23 : decode cX5_passing 23 = .ok (.istore 6, 2) := by decide +kernel
theorem dX5_passing_25 : decode cX5_passing 25 = .ok (.iload 6, 2) := by decide +kernel
theorem dX5_passing_27 : decode cX5_passing 27 = .ok (.iconst 2, 1) := by decide +kernel
theorem dX5_passing_28 : decode cX5_passing 28 = .ok (.ishr, 1) := by decide +kernel
theorem dX5_passing_29 : decode cX5_passing 29 = .ok (.iconst 1, 1) := by decide +kernel
theorem dX5_passing_30 : decode cX5_passing 30 = .ok (.iand, 1) := by decide +kernel
theorem dX5_passing_31 : decode cX5_passing 31 = .ok (.ifCond .ne 7, 3) := by decide +kernel
theorem dX5_passing_34 : decode cX5_passing 34 = .ok (.iconst 0, 1) := by decide +kernel
theorem dX5_passing_35 : decode cX5_passing 35 = .ok (.goto 4, 3) := by decide +kernel
theorem dX5_passing_38 : decode cX5_passing 38 = .ok (.iload_n 1, 1) := by decide +kernel
theorem dX5_passing_39 : decode cX5_passing 39 = .ok (.istore 7, 2) := by decide +kernel
theorem dX5_passing_41 : decode cX5_passing 41 = .ok (.iload 7, 2) := by decide +kernel
theorem dX5_passing_43 : decode cX5_passing 43 = .ok (.bipush 31, 2) := by decide +kernel
theorem dX5_passing_45 : decode cX5_passing 45 = .ok (.imul, 1) := by decide +kernel
theorem dX5_passing_46 : decode cX5_passing 46 = .ok (.iload 6, 2) := by decide +kernel
theorem dX5_passing_48 : decode cX5_passing 48 = .ok (.iconst 4, 1) := by decide +kernel
theorem dX5_passing_49 : decode cX5_passing 49 = .ok (.ishr, 1) := by decide +kernel
theorem dX5_passing_50 : decode cX5_passing 50 = .ok (.iconst 1, 1) := by decide +kernel
theorem dX5_passing_51 : decode cX5_passing 51 = .ok (.iand, 1) := by decide +kernel
theorem dX5_passing_52 : decode cX5_passing 52 = .ok (.ifCond .ne 7, 3) := by decide +kernel
theorem dX5_passing_55 : decode cX5_passing 55 = .ok (.iconst 0, 1) := by decide +kernel
theorem dX5_passing_56 : decode cX5_passing 56 = .ok (.goto 7, 3) := by decide +kernel
theorem dX5_passing_59 : decode cX5_passing 59 = .ok (.iload_n 3, 1) := by decide +kernel
theorem dX5_passing_60 : decode cX5_passing 60 = .ok (.bipush 15, 2) := by decide +kernel
theorem dX5_passing_62 : decode cX5_passing 62 = .ok (.iadd, 1) := by decide +kernel
theorem dX5_passing_63 : decode cX5_passing 63 = .ok (.iadd, 1) := by decide +kernel
theorem dX5_passing_64 : decode cX5_passing 64 = .ok (.istore 7, 2) := by decide +kernel
theorem dX5_passing_66 : decode cX5_passing 66 = .ok (.iload 7, 2) := by decide +kernel
theorem dX5_passing_68 : decode cX5_passing 68 = .ok (.bipush 16, 2) := by decide +kernel
theorem dX5_passing_70 : decode cX5_passing 70 = .ok (.imul, 1) := by decide +kernel
theorem dX5_passing_71 : decode cX5_passing 71 = .ok (.iload 6, 2) := by decide +kernel
theorem dX5_passing_73 : decode cX5_passing 73 = .ok (.iconst 1, 1) := by decide +kernel
theorem dX5_passing_74 : decode cX5_passing 74 = .ok (.ishr, 1) := by decide +kernel
theorem dX5_passing_75 : decode cX5_passing 75 = .ok (.iconst 1, 1) := by decide +kernel
theorem dX5_passing_76 : decode cX5_passing 76 = .ok (.iand, 1) := by decide +kernel
theorem dX5_passing_77 : decode cX5_passing 77 = .ok (.ifCond .ne 7, 3) := by decide +kernel
theorem dX5_passing_80 : decode cX5_passing 80 = .ok (.iconst 0, 1) := by decide +kernel
theorem dX5_passing_81 : decode cX5_passing 81 = .ok (.goto 5, 3) := by decide +kernel
theorem dX5_passing_84 : decode cX5_passing 84 = .ok (.iload 4, 2) := by decide +kernel
theorem dX5_passing_86 : decode cX5_passing 86 = .ok (.iadd, 1) := by decide +kernel
theorem dX5_passing_87 : decode cX5_passing 87 = .ok (.istore 7, 2) := by decide +kernel
theorem dX5_passing_89 : decode cX5_passing 89 = .ok (.aload_n 0, 1) := by decide +kernel
theorem dX5_passing_90 : decode cX5_passing 90 = .ok (.getfield 29, 3) := by decide +kernel
theorem dX5_passing_93 : decode cX5_passing 93 = .ok (.ldc2_w 70, 3) := by decide +kernel
theorem dX5_passing_96 : decode cX5_passing 96 = .ok (.lmul, 1) := by decide +kernel
theorem dX5_passing_97 : decode cX5_passing 97 = .ok (.iload 6, 2) := by decide +kernel
theorem dX5_passing_99 : decode cX5_passing 99 = .ok (.iconst 3, 1) := by decide +kernel
theorem dX5_passing_100 : decode cX5_passing 100 = .ok (.ishr, 1) := by decide +kernel
theorem dX5_passing_101 : decode cX5_passing 101 = .ok (.iconst 1, 1) := by decide +kernel
theorem dX5_passing_102 : decode cX5_passing 102 = .ok (.iand, 1) := by decide +kernel
theorem dX5_passing_103 : decode cX5_passing 103 = .ok (.ifCond .ne 7, 3) := by decide +kernel
theorem dX5_passing_106 : decode cX5_passing 106 = .ok (.iconst 0, 1) := by decide +kernel
theorem dX5_passing_107 : decode cX5_passing 107 = .ok (.goto 6, 3) := by decide +kernel
theorem dX5_passing_110 : decode cX5_passing 110 = .ok (.iload_n 2, 1) := by decide +kernel
theorem dX5_passing_111 : decode cX5_passing 111 = .ok (.iconst 1, 1) := by decide +kernel
theorem dX5_passing_112 : decode cX5_passing 112 = .ok (.iadd, 1) := by decide +kernel
theorem dX5_passing_113 : decode cX5_passing 113 = .ok (.i2l, 1) := by decide +kernel
theorem dX5_passing_114 : decode cX5_passing 114 = .ok (.ladd, 1) := by decide +kernel
theorem dX5_passing_115 : decode cX5_passing 115 = .ok (.lstore 8, 2) := by decide +kernel
theorem dX5_passing_117 : decode cX5_passing 117 = .ok (.aload_n 0, 1) := by decide +kernel
theorem dX5_passing_118 : decode cX5_passing 118 = .ok (.getfield 25, 3) := by decide +kernel
theorem dX5_passing_121 : decode cX5_passing 121 = .ok (.iload 7, 2) := by decide +kernel
theorem dX5_passing_123 : decode cX5_passing 123 = .ok (.laload, 1) := by decide +kernel
theorem dX5_passing_124 : decode cX5_passing 124 = .ok (.bipush 24, 2) := by decide +kernel
theorem dX5_passing_126 : decode cX5_passing 126 = .ok (.lshr, 1) := by decide +kernel
theorem dX5_passing_127 : decode cX5_passing 127 = .ok (.lload 8, 2) := by decide +kernel
theorem dX5_passing_129 : decode cX5_passing 129 = .ok (.lcmp, 1) := by decide +kernel
theorem dX5_passing_130 : decode cX5_passing 130 = .ok (.ifCond .ne 15, 3) := by decide +kernel
theorem dX5_passing_133 : decode cX5_passing 133 = .ok (.aload_n 0, 1) := by decide +kernel
theorem dX5_passing_134 : decode cX5_passing 134 = .ok (.getfield 25, 3) := by decide +kernel
theorem dX5_passing_137 : decode cX5_passing 137 = .ok (.iload 7, 2) := by decide +kernel
theorem dX5_passing_139 : decode cX5_passing 139 = .ok (.laload, 1) := by decide +kernel
theorem dX5_passing_140 : decode cX5_passing 140 = .ok (.l2i, 1) := by decide +kernel
theorem dX5_passing_141 : decode cX5_passing 141 = .ok (.ldc 72, 2) := by decide +kernel
theorem dX5_passing_143 : decode cX5_passing 143 = .ok (.iand, 1) := by decide +kernel
theorem dX5_passing_144 : decode cX5_passing 144 = .ok (.ireturn, 1) := by decide +kernel
theorem dX5_passing_145 : decode cX5_passing 145 = .ok (.aload_n 0, 1) := by decide +kernel
theorem dX5_passing_146 : decode cX5_passing 146 = .ok (.getfield 33, 3) := by decide +kernel
theorem dX5_passing_149 : decode cX5_passing 149 = .ok (.iconst 1, 1) := by decide +kernel
theorem dX5_passing_150 : decode cX5_passing 150 = .ok (.iload 4, 2) := by decide +kernel
theorem dX5_passing_152 : decode cX5_passing 152 = .ok (.iastore, 1) := by decide +kernel
theorem dX5_passing_153 : decode cX5_passing 153 = .ok (.aload_n 0, 1) := by decide +kernel
theorem dX5_passing_154 : decode cX5_passing 154 = .ok (.getfield 33, 3) := by decide +kernel
theorem dX5_passing_157 : decode cX5_passing 157 = .ok (.iconst 2, 1) := by decide +kernel
theorem dX5_passing_158 : decode cX5_passing 158 = .ok (.iload_n 1, 1) := by decide +kernel
theorem dX5_passing_159 : decode cX5_passing 159 = .ok (.iastore, 1) := by decide +kernel
theorem dX5_passing_160 : decode cX5_passing 160 = .ok (.aload_n 0, 1) := by decide +kernel
theorem dX5_passing_161 : decode cX5_passing 161 = .ok (.getfield 33, 3) := by decide +kernel
theorem dX5_passing_164 : decode cX5_passing 164 = .ok (.iconst 3, 1) := by decide +kernel
theorem dX5_passing_165 : decode cX5_passing 165 = .ok (.aload_n 0, 1) := by decide +kernel
theorem dX5_passing_166 : decode cX5_passing 166 = .ok (.getfield 9, 3) := by decide +kernel
theorem dX5_passing_169 : decode cX5_passing 169 = .ok (.getfield 73, 3) := by decide +kernel
theorem dX5_passing_172 : decode cX5_passing 172 = .ok (.iload_n 2, 1) := by decide +kernel
theorem dX5_passing_173 : decode cX5_passing 173 = .ok (.iconst 1, 1) := by decide +kernel
theorem dX5_passing_174 : decode cX5_passing 174 = .ok (.iadd, 1) := by decide +kernel
theorem dX5_passing_175 : decode cX5_passing 175 = .ok (.iaload, 1) := by decide +kernel
theorem dX5_passing_176 : decode cX5_passing 176 = .ok (.iastore, 1) := by decide +kernel
theorem dX5_passing_177 : decode cX5_passing 177 = .ok (.aload_n 0, 1) := by decide +kernel
theorem dX5_passing_178 : decode cX5_passing 178 = .ok (.getfield 33, 3) := by decide +kernel
theorem dX5_passing_181 : decode cX5_passing 181 = .ok (.iconst 4, 1) := by decide +kernel
theorem dX5_passing_182 : decode cX5_passing 182 = .ok (.iload_n 3, 1) := by decide +kernel
theorem dX5_passing_183 : decode cX5_passing 183 = .ok (.iastore, 1) := by decide +kernel
theorem dX5_passing_184 : decode cX5_passing 184 = .ok (.iconst 0, 1) := by decide +kernel
theorem dX5_passing_185 : decode cX5_passing 185 = .ok (.istore 10, 2) := by decide +kernel
theorem dX5_passing_187 : decode cX5_passing 187 = .ok (.iconst 0, 1) := by decide +kernel
theorem dX5_passing_188 : decode cX5_passing 188 = .ok (.istore 11, 2) := by decide +kernel
theorem dX5_passing_190 : decode cX5_passing 190 = .ok (.iload 11, 2) := by decide +kernel
theorem dX5_passing_192 : decode cX5_passing 192 = .ok (.bipush 24, 2) := by decide +kernel
theorem dX5_passing_194 : decode cX5_passing 194 = .ok (.if_icmp .ge 70, 3) := by decide +kernel
theorem dX5_passing_197 : decode cX5_passing 197 = .ok (.aload_n 0, 1) := by decide +kernel
theorem dX5_passing_198 : decode cX5_passing 198 = .ok (.getfield 33, 3) := by decide +kernel
theorem dX5_passing_201 : decode cX5_passing 201 = .ok (.iconst 0, 1) := by decide +kernel
theorem dX5_passing_202 : decode cX5_passing 202 = .ok (.iload 11, 2) := by decide +kernel
theorem dX5_passing_204 : decode cX5_passing 204 = .ok (.iastore, 1) := by decide +kernel
theorem dX5_passing_205 : decode cX5_passing 205 = .ok (.aload 5, 2) := by decide +kernel
theorem dX5_passing_207 : decode cX5_passing 207 = .ok (.ifnonnull 10, 3) := by decide +kernel
theorem dX5_passing_210 : decode cX5_passing 210 = .ok (.aload_n 0, 1) := by decide +kernel
theorem dX5_passing_211 : decode cX5_passing 211 = .ok (.invokevirtual 76, 3) := by decide +kernel
theorem dX5_passing_214 : decode cX5_passing 214 = .ok (.goto 24, 3) := by decide +kernel
theorem dX5_passing_217 : decode cX5_passing 217 = .ok (.aload 5, 2) := by decide +kernel
theorem dX5_passing_219 : decode cX5_passing 219 = .ok (.aload_n 0, 1) := by decide +kernel
theorem dX5_passing_220 : decode cX5_passing 220 = .ok (.getfield 33, 3) := by decide +kernel
theorem dX5_passing_223 : decode cX5_passing 223 = .ok (.aload_n 0, 1) := by decide +kernel
theorem dX5_passing_224 : decode cX5_passing 224 = .ok (.getfield 36, 3) := by decide +kernel
theorem dX5_passing_227 : decode cX5_passing 227 = .ok (.invokevirtual 51, 3) := by decide +kernel
theorem dX5_passing_230 : decode cX5_passing 230 = .ok (.ifCond .eq 7, 3) := by decide +kernel
theorem dX5_passing_233 : decode cX5_passing 233 = .ok (.iconst 1, 1) := by decide +kernel
theorem dX5_passing_234 : decode cX5_passing 234 = .ok (.goto 4, 3) := by decide +kernel
theorem dX5_passing_237 : decode cX5_passing 237 = .ok (.iconst 0, 1) := by decide +kernel
theorem dX5_passing_238 : decode cX5_passing 238 = .ok (.istore 12, 2) := by decide +kernel
theorem dX5_passing_240 : decode cX5_passing 240 = .ok (.iload 10, 2) := by decide +kernel
theorem dX5_passing_242 : decode cX5_passing 242 = .ok (.iload 12, 2) := by decide +kernel
theorem dX5_passing_244 : decode cX5_passing 244 = .ok (.ifCond .eq 10, 3) := by decide +kernel
theorem dX5_passing_247 : decode cX5_passing 247 = .ok (.iconst 1, 1) := by decide +kernel
theorem dX5_passing_248 : decode cX5_passing 248 = .ok (.iload 11, 2) := by decide +kernel
theorem dX5_passing_250 : decode cX5_passing 250 = .ok (.ishl, 1) := by decide +kernel
theorem dX5_passing_251 : decode cX5_passing 251 = .ok (.goto 4, 3) := by decide +kernel
theorem dX5_passing_254 : decode cX5_passing 254 = .ok (.iconst 0, 1) := by decide +kernel
theorem dX5_passing_255 : decode cX5_passing 255 = .ok (.ior, 1) := by decide +kernel
theorem dX5_passing_256 : decode cX5_passing 256 = .ok (.istore 10, 2) := by decide +kernel
theorem dX5_passing_258 : decode cX5_passing 258 = .ok (.iinc 11 1, 3) := by decide +kernel
theorem dX5_passing_261 : decode cX5_passing 261 = .ok (.goto (-71), 3) := by decide +kernel
theorem dX5_passing_264 : decode cX5_passing 264 = .ok (.aload_n 0, 1) := by decide +kernel
theorem dX5_passing_265 : decode cX5_passing 265 = .ok (.getfield 25, 3) := by decide +kernel
theorem dX5_passing_268 : decode cX5_passing 268 = .ok (.iload 7, 2) := by decide +kernel
theorem dX5_passing_270 : decode cX5_passing 270 = .ok (.lload 8, 2) := by decide +kernel
theorem dX5_passing_272 : decode cX5_passing 272 = .ok (.bipush 24, 2) := by decide +kernel
theorem dX5_passing_274 : decode cX5_passing 274 = .ok (.lshl, 1) := by decide +kernel
theorem dX5_passing_275 : decode cX5_passing 275 = .ok (.iload 10, 2) := by decide +kernel
theorem dX5_passing_277 : decode cX5_passing 277 = .ok (.i2l, 1) := by decide +kernel
theorem dX5_passing_278 : decode cX5_passing 278 = .ok (.lor, 1) := by decide +kernel
theorem dX5_passing_279 : decode cX5_passing 279 = .ok (.lastore, 1) := by decide +kernel
theorem dX5_passing_280 : decode cX5_passing 280 = .ok (.iload 10, 2) := by decide +kernel
theorem dX5_passing_282 : decode cX5_passing 282 = .ok (.ireturn, 1) := by decide +kernel
theorem wX5_passing : Mw yX5_passing cX5_passing 13 (some .int) 4 := ⟨q_799, q_123, by decide, ⟨by decide +kernel, by decide +kernel⟩, by decide +kernel, by decide +kernel⟩
-- a loop of EyeTrainer$Maps.passing at 190
def bX5_passing_190 (T : Sh) (x0 : Nat) (x5 : Option Nat) (x7 : Int32) (x8 : Int64) (x10 : Int32) (x11 : Int32) (M : Me) : Option ((Int32 × Int32 × Me) ⊕ ((Int32 × Me))) :=
  if (24 : Int32) ≤ x11 then (some (.inr (x10, M))) else (gd (kd T x0 = 4) <| Option.bind (gR M x0 4) fun a42 => gd (kd T a42 = 13) <| gv (0 : Int32) (ln T a42) <| lt (pI M a42 (Int32.toNatClampNeg (0 : Int32)) x11) fun M45 => mo (x5) (Option.bind (fX5_isInPlainEye T M45 x0) fun r47 => if r47 = 0 then (lt (x10 ||| (0 : Int32)) fun v49 => lt (x11 + (1 : Int32)) fun v50 => some (.inl (v49, v50, M45))) else (lt (x10 ||| ((1 : Int32) <<< (x11 &&& 31))) fun v51 => lt (x11 + (1 : Int32)) fun v52 => some (.inl (v51, v52, M45)))) (fun a46 => Option.bind (gR M45 x0 4) fun a53 => Option.bind (gR M45 x0 5) fun a54 => gd (kd T a46 = 3) <| Option.bind (fX4_valueBy T M45 a46 a53 a54) <| un2 fun r56 M57 => if r56 = 0 then (if (0 : Int32) = 0 then (lt (x10 ||| (0 : Int32)) fun v60 => lt (x11 + (1 : Int32)) fun v61 => some (.inl (v60, v61, M57))) else (lt (x10 ||| ((1 : Int32) <<< (x11 &&& 31))) fun v62 => lt (x11 + (1 : Int32)) fun v63 => some (.inl (v62, v63, M57)))) else (if (1 : Int32) = 0 then (lt (x10 ||| (0 : Int32)) fun v65 => lt (x11 + (1 : Int32)) fun v66 => some (.inl (v65, v66, M57))) else (lt (x10 ||| ((1 : Int32) <<< (x11 &&& 31))) fun v67 => lt (x11 + (1 : Int32)) fun v68 => some (.inl (v67, v68, M57))))))
def PX5_passing_190 (X : Fx) (B : Bx) (Z : Nat × Nat × Nat × Nat) (Q : State → Prop) (T : Sh) (x0 : Nat) (x5 : Option Nat) (x7 : Int32) (x8 : Int64) (s : Int32 × Int32 × Me) : Prop := G X B 13 Z Q 190 [(0, .ref (x0)), (5, va_rf (x5)), (7, .int (x7)), (8, .long (x8)), (10, .int (s.1)), (11, .int (s.2.1))] [] T s.2.2
def EX5_passing_190 (X : Fx) (B : Bx) (Z : Nat × Nat × Nat × Nat) (Q : State → Prop) (T : Sh) (x0 : Nat) (x5 : Option Nat) (x7 : Int32) (x8 : Int64) (r : (Int32 × Me)) : Prop := G X B 13 Z Q 264 [(0, .ref (x0)), (7, .int (x7)), (8, .long (x8)), (10, .int (r.1))] [] T r.2
set_option maxHeartbeats 4000000 in
theorem tbX5_passing_190 {X : Fx} {B : Bx} {Z : Nat × Nat × Nat × Nat} {Q : State → Prop} {d : Nat} {T : Sh} (C : Cx X B cX5_passing 13 RX5 d Z) (hd : 2 ≤ d) {x0 : Nat} {x5 : Option Nat} {x7 : Int32} {x8 : Int64} : ∀ (s : Int32 × Int32 × Me) (o : (Int32 × Int32 × Me) ⊕ ((Int32 × Me))), bX5_passing_190 T x0 x5 x7 x8 s.1 s.2.1 s.2.2 = some o → lpE (PX5_passing_190 X B Z Q T x0 x5 x7 x8) (EX5_passing_190 X B Z Q T x0 x5 x7 x8) o → PX5_passing_190 X B Z Q T x0 x5 x7 x8 s := by
  rintro ⟨x10, x11, M⟩ o h hE
  replace h : bX5_passing_190 T x0 x5 x7 x8 x10 x11 M = some o := h
  unfold bX5_passing_190 at h
  show G X B 13 Z Q 190 [(0, .ref (x0)), (5, va_rf (x5)), (7, .int (x7)), (8, .long (x8)), (10, .int (x10)), (11, .int (x11))] [] T M
  refine g_iload (pc := 190) C dX5_passing_190 5 rfl ?_
  refine g_bipush (pc := 192) (v := 24) C dX5_passing_192 (by decide) ?_
  refine g_icmp_ge (pc := 194) (tgt := 264) C dX5_passing_194 (by decide) (fun c40 => ?_) (fun c40 => ?_)
  · replace h := ifp c40 h
    obtain rfl := Option.some.inj h
    exact g_sub [0, 2, 3, 4] rfl (show G X B 13 Z Q 264 [(0, .ref (x0)), (7, .int (x7)), (8, .long (x8)), (10, .int (x10))] [] T M from hE)
  · replace h := ifn c40 h
    refine g_aload_n (pc := 197) C dX5_passing_197 rfl 0 rfl ?_
    replace h := gd_some h; obtain ⟨hk41, h⟩ := h
    refine g_get (pc := 198) (v := va_rf (gR M x0 4)) C dX5_passing_198 kX5 hk41 4 (by decide) q_292 rfl ?_
    replace h := bnd h; obtain ⟨a42, ea42, h⟩ := h
    refine g_refq ea42 ?_
    refine g_iconst (pc := 201) (v := 0) C dX5_passing_201 (by decide) ?_
    refine g_iload (pc := 202) C dX5_passing_202 5 rfl ?_
    replace h := gd_some h; obtain ⟨hk43, h⟩ := h
    replace h := gv_some h; obtain ⟨hi44, h⟩ := h
    refine g_iast (pc := 204) C dX5_passing_204 hk43 hi44 ?_
    refine g_mem (fun M45 eM45 => ?_)
    replace h := lt_at eM45 h
    refine g_aloadQ (pc := 205) C dX5_passing_205 1 rfl ?_
    refine g_ifnonnull (pc := 207) (tgt := 217) C dX5_passing_207 (by decide) (fun a46 ea46 => ?_) (fun ea46 => ?_)
    · replace h := mo_some2 ea46 h
      subst ea46
      refine g_aload (pc := 217) C dX5_passing_217 1 rfl ?_
      refine g_aload_n (pc := 219) C dX5_passing_219 rfl 0 rfl ?_
      refine g_get (pc := 220) (v := va_rf (gR M45 x0 4)) C dX5_passing_220 kX5 hk41 4 (by decide) q_292 rfl ?_
      replace h := bnd h; obtain ⟨a53, ea53, h⟩ := h
      refine g_refq ea53 ?_
      refine g_aload_n (pc := 223) C dX5_passing_223 rfl 0 rfl ?_
      refine g_get (pc := 224) (v := va_rf (gR M45 x0 5)) C dX5_passing_224 kX5 hk41 5 (by decide) q_293 rfl ?_
      replace h := bnd h; obtain ⟨a54, ea54, h⟩ := h
      refine g_refq ea54 ?_
      replace h := gd_some h; obtain ⟨hk55, h⟩ := h
      replace h := bnd2 h; obtain ⟨r56, M57, h1, h⟩ := h
      refine g_callVi (pc := 227) (As := [.ref (a53), .ref (a54)]) (st := []) C dX5_passing_227 wX4_valueBy hk55 rfl (by decide) q_787 q_788 q_786 (by omega) rfl (Nat.le_of_ble_eq_true rfl) (kX4_valueBy (d := 0) (Nat.le_refl _) h1) ?_
      refine g_if_eq (pc := 230) (tgt := 237) C dX5_passing_230 (by decide) (fun c58 => ?_) (fun c58 => ?_)
      · replace h := ifp c58 h
        refine g_iconst (pc := 237) (v := 0) C dX5_passing_237 (by decide) ?_
        refine g_istore (pc := 238) (lo2 := [(12, .int ((0 : Int32))), (0, .ref (x0)), (5, .ref (a46)), (7, .int (x7)), (8, .long (x8)), (10, .int (x10)), (11, .int (x11))]) C dX5_passing_238 (by decide) rfl ?_
        refine g_iload (pc := 240) C dX5_passing_240 5 rfl ?_
        refine g_iload (pc := 242) C dX5_passing_242 0 rfl ?_
        refine g_if_eq (pc := 244) (tgt := 254) C dX5_passing_244 (by decide) (fun c59 => ?_) (fun c59 => ?_)
        · replace h := ifp c59 h
          refine g_iconst (pc := 254) (v := 0) C dX5_passing_254 (by decide) ?_
          refine g_ior (pc := 255) C dX5_passing_255 ?_
          refine g_topi (fun v60 ev60 => ?_)
          replace h := lt_at ev60 h
          refine g_istore (pc := 256) (lo2 := [(10, .int (v60)), (12, .int ((0 : Int32))), (0, .ref (x0)), (5, .ref (a46)), (7, .int (x7)), (8, .long (x8)), (11, .int (x11))]) C dX5_passing_256 (by decide) rfl ?_
          obtain ⟨v61, ev61⟩ : ∃ y : Int32, y = x11 + (1 : Int32) := ⟨_, rfl⟩
          replace h := lt_at ev61 h
          refine g_iinc (pc := 258) (v := v61) (k := 6) (lo2 := [(11, .int (v61)), (10, .int (v60)), (12, .int ((0 : Int32))), (0, .ref (x0)), (5, .ref (a46)), (7, .int (x7)), (8, .long (x8))]) C dX5_passing_258 rfl (by rw [ev61]; rfl) (by decide) rfl ?_
          refine g_goto (pc := 261) (tgt := 190) C dX5_passing_261 (by decide) ?_
          obtain rfl := Option.some.inj h
          exact g_sub [3, 4, 5, 6, 1, 0] rfl (show G X B 13 Z Q 190 [(0, .ref (x0)), (5, .ref (a46)), (7, .int (x7)), (8, .long (x8)), (10, .int (v60)), (11, .int (v61))] [] T M57 from hE)
        · replace h := ifn c59 h
          refine g_iconst (pc := 247) (v := 1) C dX5_passing_247 (by decide) ?_
          refine g_iload (pc := 248) C dX5_passing_248 6 rfl ?_
          refine g_ishl (pc := 250) C dX5_passing_250 ?_
          refine g_goto (pc := 251) (tgt := 255) C dX5_passing_251 (by decide) ?_
          refine g_ior (pc := 255) C dX5_passing_255 ?_
          refine g_topi (fun v62 ev62 => ?_)
          replace h := lt_at ev62 h
          refine g_istore (pc := 256) (lo2 := [(10, .int (v62)), (12, .int ((0 : Int32))), (0, .ref (x0)), (5, .ref (a46)), (7, .int (x7)), (8, .long (x8)), (11, .int (x11))]) C dX5_passing_256 (by decide) rfl ?_
          obtain ⟨v63, ev63⟩ : ∃ y : Int32, y = x11 + (1 : Int32) := ⟨_, rfl⟩
          replace h := lt_at ev63 h
          refine g_iinc (pc := 258) (v := v63) (k := 6) (lo2 := [(11, .int (v63)), (10, .int (v62)), (12, .int ((0 : Int32))), (0, .ref (x0)), (5, .ref (a46)), (7, .int (x7)), (8, .long (x8))]) C dX5_passing_258 rfl (by rw [ev63]; rfl) (by decide) rfl ?_
          refine g_goto (pc := 261) (tgt := 190) C dX5_passing_261 (by decide) ?_
          obtain rfl := Option.some.inj h
          exact g_sub [3, 4, 5, 6, 1, 0] rfl (show G X B 13 Z Q 190 [(0, .ref (x0)), (5, .ref (a46)), (7, .int (x7)), (8, .long (x8)), (10, .int (v62)), (11, .int (v63))] [] T M57 from hE)
      · replace h := ifn c58 h
        refine g_iconst (pc := 233) (v := 1) C dX5_passing_233 (by decide) ?_
        refine g_goto (pc := 234) (tgt := 238) C dX5_passing_234 (by decide) ?_
        refine g_istore (pc := 238) (lo2 := [(12, .int ((1 : Int32))), (0, .ref (x0)), (5, .ref (a46)), (7, .int (x7)), (8, .long (x8)), (10, .int (x10)), (11, .int (x11))]) C dX5_passing_238 (by decide) rfl ?_
        refine g_iload (pc := 240) C dX5_passing_240 5 rfl ?_
        refine g_iload (pc := 242) C dX5_passing_242 0 rfl ?_
        refine g_if_eq (pc := 244) (tgt := 254) C dX5_passing_244 (by decide) (fun c64 => ?_) (fun c64 => ?_)
        · replace h := ifp c64 h
          refine g_iconst (pc := 254) (v := 0) C dX5_passing_254 (by decide) ?_
          refine g_ior (pc := 255) C dX5_passing_255 ?_
          refine g_topi (fun v65 ev65 => ?_)
          replace h := lt_at ev65 h
          refine g_istore (pc := 256) (lo2 := [(10, .int (v65)), (12, .int ((1 : Int32))), (0, .ref (x0)), (5, .ref (a46)), (7, .int (x7)), (8, .long (x8)), (11, .int (x11))]) C dX5_passing_256 (by decide) rfl ?_
          obtain ⟨v66, ev66⟩ : ∃ y : Int32, y = x11 + (1 : Int32) := ⟨_, rfl⟩
          replace h := lt_at ev66 h
          refine g_iinc (pc := 258) (v := v66) (k := 6) (lo2 := [(11, .int (v66)), (10, .int (v65)), (12, .int ((1 : Int32))), (0, .ref (x0)), (5, .ref (a46)), (7, .int (x7)), (8, .long (x8))]) C dX5_passing_258 rfl (by rw [ev66]; rfl) (by decide) rfl ?_
          refine g_goto (pc := 261) (tgt := 190) C dX5_passing_261 (by decide) ?_
          obtain rfl := Option.some.inj h
          exact g_sub [3, 4, 5, 6, 1, 0] rfl (show G X B 13 Z Q 190 [(0, .ref (x0)), (5, .ref (a46)), (7, .int (x7)), (8, .long (x8)), (10, .int (v65)), (11, .int (v66))] [] T M57 from hE)
        · replace h := ifn c64 h
          refine g_iconst (pc := 247) (v := 1) C dX5_passing_247 (by decide) ?_
          refine g_iload (pc := 248) C dX5_passing_248 6 rfl ?_
          refine g_ishl (pc := 250) C dX5_passing_250 ?_
          refine g_goto (pc := 251) (tgt := 255) C dX5_passing_251 (by decide) ?_
          refine g_ior (pc := 255) C dX5_passing_255 ?_
          refine g_topi (fun v67 ev67 => ?_)
          replace h := lt_at ev67 h
          refine g_istore (pc := 256) (lo2 := [(10, .int (v67)), (12, .int ((1 : Int32))), (0, .ref (x0)), (5, .ref (a46)), (7, .int (x7)), (8, .long (x8)), (11, .int (x11))]) C dX5_passing_256 (by decide) rfl ?_
          obtain ⟨v68, ev68⟩ : ∃ y : Int32, y = x11 + (1 : Int32) := ⟨_, rfl⟩
          replace h := lt_at ev68 h
          refine g_iinc (pc := 258) (v := v68) (k := 6) (lo2 := [(11, .int (v68)), (10, .int (v67)), (12, .int ((1 : Int32))), (0, .ref (x0)), (5, .ref (a46)), (7, .int (x7)), (8, .long (x8))]) C dX5_passing_258 rfl (by rw [ev68]; rfl) (by decide) rfl ?_
          refine g_goto (pc := 261) (tgt := 190) C dX5_passing_261 (by decide) ?_
          obtain rfl := Option.some.inj h
          exact g_sub [3, 4, 5, 6, 1, 0] rfl (show G X B 13 Z Q 190 [(0, .ref (x0)), (5, .ref (a46)), (7, .int (x7)), (8, .long (x8)), (10, .int (v67)), (11, .int (v68))] [] T M57 from hE)
    · replace h := mo_none2 ea46 h
      subst ea46
      refine g_aload_n (pc := 210) C dX5_passing_210 rfl 0 rfl ?_
      replace h := bnd h; obtain ⟨r47, h1, h⟩ := h
      refine g_callVi (pc := 211) (As := []) (st := []) C dX5_passing_211 wX5_isInPlainEye hk41 rfl (by decide) q_804 q_23 q_802 (by omega) rfl (Nat.le_of_ble_eq_true rfl) (kX5_isInPlainEye (d := 1) (Nat.le_refl _) h1) ?_
      refine g_goto (pc := 214) (tgt := 238) C dX5_passing_214 (by decide) ?_
      refine g_istore (pc := 238) (lo2 := [(12, .int (r47)), (0, .ref (x0)), (5, va_rf (none)), (7, .int (x7)), (8, .long (x8)), (10, .int (x10)), (11, .int (x11))]) C dX5_passing_238 (by decide) rfl ?_
      refine g_iload (pc := 240) C dX5_passing_240 5 rfl ?_
      refine g_iload (pc := 242) C dX5_passing_242 0 rfl ?_
      refine g_if_eq (pc := 244) (tgt := 254) C dX5_passing_244 (by decide) (fun c48 => ?_) (fun c48 => ?_)
      · replace h := ifp c48 h
        refine g_iconst (pc := 254) (v := 0) C dX5_passing_254 (by decide) ?_
        refine g_ior (pc := 255) C dX5_passing_255 ?_
        refine g_topi (fun v49 ev49 => ?_)
        replace h := lt_at ev49 h
        refine g_istore (pc := 256) (lo2 := [(10, .int (v49)), (12, .int (r47)), (0, .ref (x0)), (5, va_rf (none)), (7, .int (x7)), (8, .long (x8)), (11, .int (x11))]) C dX5_passing_256 (by decide) rfl ?_
        obtain ⟨v50, ev50⟩ : ∃ y : Int32, y = x11 + (1 : Int32) := ⟨_, rfl⟩
        replace h := lt_at ev50 h
        refine g_iinc (pc := 258) (v := v50) (k := 6) (lo2 := [(11, .int (v50)), (10, .int (v49)), (12, .int (r47)), (0, .ref (x0)), (5, va_rf (none)), (7, .int (x7)), (8, .long (x8))]) C dX5_passing_258 rfl (by rw [ev50]; rfl) (by decide) rfl ?_
        refine g_goto (pc := 261) (tgt := 190) C dX5_passing_261 (by decide) ?_
        obtain rfl := Option.some.inj h
        exact g_sub [3, 4, 5, 6, 1, 0] rfl (show G X B 13 Z Q 190 [(0, .ref (x0)), (5, va_rf (none)), (7, .int (x7)), (8, .long (x8)), (10, .int (v49)), (11, .int (v50))] [] T M45 from hE)
      · replace h := ifn c48 h
        refine g_iconst (pc := 247) (v := 1) C dX5_passing_247 (by decide) ?_
        refine g_iload (pc := 248) C dX5_passing_248 6 rfl ?_
        refine g_ishl (pc := 250) C dX5_passing_250 ?_
        refine g_goto (pc := 251) (tgt := 255) C dX5_passing_251 (by decide) ?_
        refine g_ior (pc := 255) C dX5_passing_255 ?_
        refine g_topi (fun v51 ev51 => ?_)
        replace h := lt_at ev51 h
        refine g_istore (pc := 256) (lo2 := [(10, .int (v51)), (12, .int (r47)), (0, .ref (x0)), (5, va_rf (none)), (7, .int (x7)), (8, .long (x8)), (11, .int (x11))]) C dX5_passing_256 (by decide) rfl ?_
        obtain ⟨v52, ev52⟩ : ∃ y : Int32, y = x11 + (1 : Int32) := ⟨_, rfl⟩
        replace h := lt_at ev52 h
        refine g_iinc (pc := 258) (v := v52) (k := 6) (lo2 := [(11, .int (v52)), (10, .int (v51)), (12, .int (r47)), (0, .ref (x0)), (5, va_rf (none)), (7, .int (x7)), (8, .long (x8))]) C dX5_passing_258 rfl (by rw [ev52]; rfl) (by decide) rfl ?_
        refine g_goto (pc := 261) (tgt := 190) C dX5_passing_261 (by decide) ?_
        obtain rfl := Option.some.inj h
        exact g_sub [3, 4, 5, 6, 1, 0] rfl (show G X B 13 Z Q 190 [(0, .ref (x0)), (5, va_rf (none)), (7, .int (x7)), (8, .long (x8)), (10, .int (v51)), (11, .int (v52))] [] T M45 from hE)
def jX5_passing_113 (T : Sh) (M : Me) (x0 : Nat) (x1 : Int32) (x2 : Int32) (x3 : Int32) (x4 : Int32) (x5 : Option Nat) (x7 : Int32) (s0 : Int32) (s1 : Int64) : Option (Int32 × Me) :=
  lt (s1 + (Int32.toInt64 s0)) fun v13 => gd (kd T x0 = 4) <| Option.bind (gR M x0 2) fun a15 => gd (kd T a15 = 14) <| gv x7 (ln T a15) <| if (lg_cmp ((gJ M a15 (Int32.toNatClampNeg x7)) >>> (Int32.toInt64 (24 : Int32) &&& 63)) v13) = 0 then (Option.bind (gR M x0 2) fun a75 => gd (kd T a75 = 14) <| gv x7 (ln T a75) <| some (((Int64.toInt32 (gJ M a75 (Int32.toNatClampNeg x7))) &&& (16777215 : Int32)), M)) else (Option.bind (gR M x0 4) fun a19 => gd (kd T a19 = 13) <| gv (1 : Int32) (ln T a19) <| lt (pI M a19 (Int32.toNatClampNeg (1 : Int32)) x4) fun M22 => Option.bind (gR M22 x0 4) fun a23 => gd (kd T a23 = 13) <| gv (2 : Int32) (ln T a23) <| lt (pI M22 a23 (Int32.toNatClampNeg (2 : Int32)) x1) fun M26 => Option.bind (gR M26 x0 4) fun a27 => Option.bind (gR M26 x0 0) fun a28 => gd (kd T a28 = 2) <| Option.bind (gR M26 a28 4) fun a30 => gd (kd T a30 = 13) <| gv (x2 + (1 : Int32)) (ln T a30) <| gd (kd T a27 = 13) <| gv (3 : Int32) (ln T a27) <| lt (pI M26 a27 (Int32.toNatClampNeg (3 : Int32)) (gI M26 a30 (Int32.toNatClampNeg (x2 + (1 : Int32))))) fun M35 => Option.bind (gR M35 x0 4) fun a36 => gd (kd T a36 = 13) <| gv (4 : Int32) (ln T a36) <| lt (pI M35 a36 (Int32.toNatClampNeg (4 : Int32)) x3) fun M39 => (lp FU (fun s => bX5_passing_190 T x0 x5 x7 v13 s.1 s.2.1 s.2.2) ((0 : Int32), (0 : Int32), M39)).bind (un2 fun x10_69 M70 => Option.bind (gR M70 x0 2) fun a71 => gd (kd T a71 = 14) <| gv x7 (ln T a71) <| lt (pJ M70 a71 (Int32.toNatClampNeg x7) ((v13 <<< (Int32.toInt64 (24 : Int32) &&& 63)) ||| (Int32.toInt64 x10_69))) fun M74 => some (x10_69, M74)))
set_option maxHeartbeats 4000000 in
theorem tjX5_passing_113 {X : Fx} {B : Bx} {Z : Nat × Nat × Nat × Nat} {d : Nat} {T : Sh} {M : Me} {x0 : Nat} {x1 : Int32} {x2 : Int32} {x3 : Int32} {x4 : Int32} {x5 : Option Nat} {x7 : Int32} {s0 : Int32} {s1 : Int64} {r : Int32} {M' : Me} (C : Cx X B cX5_passing 13 RX5 d Z) (hR : Rx X (some .int)) (hd : 2 ≤ d) (h : jX5_passing_113 T M x0 x1 x2 x3 x4 x5 x7 s0 s1 = some (r, M')) : G X B 13 Z (Qf X B Z (some (.int r)) T M') 113 [(0, .ref (x0)), (1, .int (x1)), (2, .int (x2)), (3, .int (x3)), (4, .int (x4)), (5, va_rf (x5)), (7, .int (x7))] [.int (s0), .long (s1)] T M := by
  unfold jX5_passing_113 at h
  refine g_i2l (pc := 113) C dX5_passing_113 ?_
  refine g_ladd (pc := 114) C dX5_passing_114 ?_
  refine g_topl (fun v13 ev13 => ?_)
  replace h := lt_at ev13 h
  refine g_lstore (pc := 115) (lo2 := [(8, .long (v13)), (0, .ref (x0)), (1, .int (x1)), (2, .int (x2)), (3, .int (x3)), (4, .int (x4)), (5, va_rf (x5)), (7, .int (x7))]) C dX5_passing_115 (by decide) rfl ?_
  refine g_aload_n (pc := 117) C dX5_passing_117 rfl 1 rfl ?_
  replace h := gd_some h; obtain ⟨hk14, h⟩ := h
  refine g_get (pc := 118) (v := va_rf (gR M x0 2)) C dX5_passing_118 kX5 hk14 2 (by decide) q_290 rfl ?_
  replace h := bnd h; obtain ⟨a15, ea15, h⟩ := h
  refine g_refq ea15 ?_
  refine g_iload (pc := 121) C dX5_passing_121 7 rfl ?_
  replace h := gd_some h; obtain ⟨hk16, h⟩ := h
  replace h := gv_some h; obtain ⟨hi17, h⟩ := h
  refine g_lald (pc := 123) C dX5_passing_123 hk16 hi17 ?_
  refine g_bipush (pc := 124) (v := 24) C dX5_passing_124 (by decide) ?_
  refine g_lshr (pc := 126) C dX5_passing_126 ?_
  refine g_lload (pc := 127) C dX5_passing_127 0 rfl ?_
  refine g_lcmp (pc := 129) C dX5_passing_129 ?_
  refine g_if_ne (pc := 130) (tgt := 145) C dX5_passing_130 (by decide) (fun c18 => ?_) (fun c18 => ?_)
  · replace h := ifn c18 h
    refine g_aload_n (pc := 145) C dX5_passing_145 rfl 1 rfl ?_
    refine g_get (pc := 146) (v := va_rf (gR M x0 4)) C dX5_passing_146 kX5 hk14 4 (by decide) q_292 rfl ?_
    replace h := bnd h; obtain ⟨a19, ea19, h⟩ := h
    refine g_refq ea19 ?_
    refine g_iconst (pc := 149) (v := 1) C dX5_passing_149 (by decide) ?_
    refine g_iload (pc := 150) C dX5_passing_150 5 rfl ?_
    replace h := gd_some h; obtain ⟨hk20, h⟩ := h
    replace h := gv_some h; obtain ⟨hi21, h⟩ := h
    refine g_iast (pc := 152) C dX5_passing_152 hk20 hi21 ?_
    refine g_mem (fun M22 eM22 => ?_)
    replace h := lt_at eM22 h
    refine g_aload_n (pc := 153) C dX5_passing_153 rfl 1 rfl ?_
    refine g_get (pc := 154) (v := va_rf (gR M22 x0 4)) C dX5_passing_154 kX5 hk14 4 (by decide) q_292 rfl ?_
    replace h := bnd h; obtain ⟨a23, ea23, h⟩ := h
    refine g_refq ea23 ?_
    refine g_iconst (pc := 157) (v := 2) C dX5_passing_157 (by decide) ?_
    refine g_iload_n (pc := 158) C dX5_passing_158 rfl 2 rfl ?_
    replace h := gd_some h; obtain ⟨hk24, h⟩ := h
    replace h := gv_some h; obtain ⟨hi25, h⟩ := h
    refine g_iast (pc := 159) C dX5_passing_159 hk24 hi25 ?_
    refine g_mem (fun M26 eM26 => ?_)
    replace h := lt_at eM26 h
    refine g_aload_n (pc := 160) C dX5_passing_160 rfl 1 rfl ?_
    refine g_get (pc := 161) (v := va_rf (gR M26 x0 4)) C dX5_passing_161 kX5 hk14 4 (by decide) q_292 rfl ?_
    replace h := bnd h; obtain ⟨a27, ea27, h⟩ := h
    refine g_refq ea27 ?_
    refine g_iconst (pc := 164) (v := 3) C dX5_passing_164 (by decide) ?_
    refine g_aload_n (pc := 165) C dX5_passing_165 rfl 1 rfl ?_
    refine g_get (pc := 166) (v := va_rf (gR M26 x0 0)) C dX5_passing_166 kX5 hk14 0 (by decide) q_287 rfl ?_
    replace h := bnd h; obtain ⟨a28, ea28, h⟩ := h
    refine g_refq ea28 ?_
    replace h := gd_some h; obtain ⟨hk29, h⟩ := h
    refine g_get (pc := 169) (v := va_rf (gR M26 a28 4)) C dX5_passing_169 kX3 hk29 4 (by decide) q_232 rfl ?_
    replace h := bnd h; obtain ⟨a30, ea30, h⟩ := h
    refine g_refq ea30 ?_
    refine g_iload_n (pc := 172) C dX5_passing_172 rfl 3 rfl ?_
    refine g_iconst (pc := 173) (v := 1) C dX5_passing_173 (by decide) ?_
    refine g_iadd (pc := 174) C dX5_passing_174 ?_
    replace h := gd_some h; obtain ⟨hk31, h⟩ := h
    replace h := gv_some h; obtain ⟨hi32, h⟩ := h
    refine g_iald (pc := 175) C dX5_passing_175 hk31 hi32 ?_
    replace h := gd_some h; obtain ⟨hk33, h⟩ := h
    replace h := gv_some h; obtain ⟨hi34, h⟩ := h
    refine g_iast (pc := 176) C dX5_passing_176 hk33 hi34 ?_
    refine g_mem (fun M35 eM35 => ?_)
    replace h := lt_at eM35 h
    refine g_aload_n (pc := 177) C dX5_passing_177 rfl 1 rfl ?_
    refine g_get (pc := 178) (v := va_rf (gR M35 x0 4)) C dX5_passing_178 kX5 hk14 4 (by decide) q_292 rfl ?_
    replace h := bnd h; obtain ⟨a36, ea36, h⟩ := h
    refine g_refq ea36 ?_
    refine g_iconst (pc := 181) (v := 4) C dX5_passing_181 (by decide) ?_
    refine g_iload_n (pc := 182) C dX5_passing_182 rfl 4 rfl ?_
    replace h := gd_some h; obtain ⟨hk37, h⟩ := h
    replace h := gv_some h; obtain ⟨hi38, h⟩ := h
    refine g_iast (pc := 183) C dX5_passing_183 hk37 hi38 ?_
    refine g_mem (fun M39 eM39 => ?_)
    replace h := lt_at eM39 h
    refine g_iconst (pc := 184) (v := 0) C dX5_passing_184 (by decide) ?_
    refine g_istore (pc := 185) (lo2 := [(10, .int ((0 : Int32))), (8, .long (v13)), (0, .ref (x0)), (1, .int (x1)), (2, .int (x2)), (3, .int (x3)), (4, .int (x4)), (5, va_rf (x5)), (7, .int (x7))]) C dX5_passing_185 (by decide) rfl ?_
    refine g_iconst (pc := 187) (v := 0) C dX5_passing_187 (by decide) ?_
    refine g_istore (pc := 188) (lo2 := [(11, .int ((0 : Int32))), (10, .int ((0 : Int32))), (8, .long (v13)), (0, .ref (x0)), (1, .int (x1)), (2, .int (x2)), (3, .int (x3)), (4, .int (x4)), (5, va_rf (x5)), (7, .int (x7))]) C dX5_passing_188 (by decide) rfl ?_
    replace h := bnd2 h; obtain ⟨x10_69, M70, h1, h⟩ := h
    refine g_sub [3, 8, 9, 2, 1, 0] rfl ?_
    refine lp_G2 (P := PX5_passing_190 X B _ _ T x0 x5 x7 v13) (E := EX5_passing_190 X B _ _ T x0 x5 x7 v13) (tbX5_passing_190 C hd) h1 ?_
    show G X B 13 _ _ 264 [(0, .ref (x0)), (7, .int (x7)), (8, .long (v13)), (10, .int (x10_69))] [] T M70
    refine g_aload_n (pc := 264) C dX5_passing_264 rfl 0 rfl ?_
    refine g_get (pc := 265) (v := va_rf (gR M70 x0 2)) C dX5_passing_265 kX5 hk14 2 (by decide) q_290 rfl ?_
    replace h := bnd h; obtain ⟨a71, ea71, h⟩ := h
    refine g_refq ea71 ?_
    refine g_iload (pc := 268) C dX5_passing_268 1 rfl ?_
    refine g_lload (pc := 270) C dX5_passing_270 2 rfl ?_
    refine g_bipush (pc := 272) (v := 24) C dX5_passing_272 (by decide) ?_
    refine g_lshl (pc := 274) C dX5_passing_274 ?_
    refine g_iload (pc := 275) C dX5_passing_275 3 rfl ?_
    refine g_i2l (pc := 277) C dX5_passing_277 ?_
    refine g_lor (pc := 278) C dX5_passing_278 ?_
    replace h := gd_some h; obtain ⟨hk72, h⟩ := h
    replace h := gv_some h; obtain ⟨hi73, h⟩ := h
    refine g_last (pc := 279) C dX5_passing_279 hk72 hi73 ?_
    refine g_mem (fun M74 eM74 => ?_)
    replace h := lt_at eM74 h
    refine g_iload (pc := 280) C dX5_passing_280 3 rfl ?_
    obtain ⟨rfl, rfl⟩ := Prod.mk.inj (Option.some.inj h)
    exact g_iret C hR dX5_passing_282
  · replace h := ifp c18 h
    refine g_aload_n (pc := 133) C dX5_passing_133 rfl 1 rfl ?_
    refine g_get (pc := 134) (v := va_rf (gR M x0 2)) C dX5_passing_134 kX5 hk14 2 (by decide) q_290 rfl ?_
    replace h := bnd h; obtain ⟨a75, ea75, h⟩ := h
    refine g_refq ea75 ?_
    refine g_iload (pc := 137) C dX5_passing_137 7 rfl ?_
    replace h := gd_some h; obtain ⟨hk76, h⟩ := h
    replace h := gv_some h; obtain ⟨hi77, h⟩ := h
    refine g_lald (pc := 139) C dX5_passing_139 hk76 hi77 ?_
    refine g_l2i (pc := 140) C dX5_passing_140 ?_
    refine g_ldc (pc := 141) C dX5_passing_141 q_801 ?_
    refine g_iand (pc := 143) C dX5_passing_143 ?_
    obtain ⟨rfl, rfl⟩ := Prod.mk.inj (Option.some.inj h)
    exact g_iret C hR dX5_passing_144
def jX5_passing_86 (T : Sh) (M : Me) (x0 : Nat) (x1 : Int32) (x2 : Int32) (x3 : Int32) (x4 : Int32) (x5 : Option Nat) (x6 : Int32) (s0 : Int32) (s1 : Int32) : Option (Int32 × Me) :=
  lt (s1 + s0) fun v10 => gd (kd T x0 = 4) <| if ((x6 >>> ((3 : Int32) &&& 31)) &&& (1 : Int32)) = 0 then (jX5_passing_113 T M x0 x1 x2 x3 x4 x5 v10 (0 : Int32) ((gJ M x0 3) * (5 : Int64))) else (jX5_passing_113 T M x0 x1 x2 x3 x4 x5 v10 (x2 + (1 : Int32)) ((gJ M x0 3) * (5 : Int64)))
set_option maxHeartbeats 4000000 in
theorem tjX5_passing_86 {X : Fx} {B : Bx} {Z : Nat × Nat × Nat × Nat} {d : Nat} {T : Sh} {M : Me} {x0 : Nat} {x1 : Int32} {x2 : Int32} {x3 : Int32} {x4 : Int32} {x5 : Option Nat} {x6 : Int32} {s0 : Int32} {s1 : Int32} {r : Int32} {M' : Me} (C : Cx X B cX5_passing 13 RX5 d Z) (hR : Rx X (some .int)) (hd : 2 ≤ d) (h : jX5_passing_86 T M x0 x1 x2 x3 x4 x5 x6 s0 s1 = some (r, M')) : G X B 13 Z (Qf X B Z (some (.int r)) T M') 86 [(0, .ref (x0)), (1, .int (x1)), (2, .int (x2)), (3, .int (x3)), (4, .int (x4)), (5, va_rf (x5)), (6, .int (x6))] [.int (s0), .int (s1)] T M := by
  unfold jX5_passing_86 at h
  refine g_iadd (pc := 86) C dX5_passing_86 ?_
  refine g_topi (fun v10 ev10 => ?_)
  replace h := lt_at ev10 h
  refine g_istore (pc := 87) (lo2 := [(7, .int (v10)), (0, .ref (x0)), (1, .int (x1)), (2, .int (x2)), (3, .int (x3)), (4, .int (x4)), (5, va_rf (x5)), (6, .int (x6))]) C dX5_passing_87 (by decide) rfl ?_
  refine g_aload_n (pc := 89) C dX5_passing_89 rfl 1 rfl ?_
  replace h := gd_some h; obtain ⟨hk11, h⟩ := h
  refine g_get (pc := 90) (v := .long (gJ M x0 3)) C dX5_passing_90 kX5 hk11 3 (by decide) q_291 rfl ?_
  refine g_ldc2 (pc := 93) C dX5_passing_93 q_800 ?_
  refine g_lmul (pc := 96) C dX5_passing_96 ?_
  refine g_iload (pc := 97) C dX5_passing_97 7 rfl ?_
  refine g_iconst (pc := 99) (v := 3) C dX5_passing_99 (by decide) ?_
  refine g_ishr (pc := 100) C dX5_passing_100 ?_
  refine g_iconst (pc := 101) (v := 1) C dX5_passing_101 (by decide) ?_
  refine g_iand (pc := 102) C dX5_passing_102 ?_
  refine g_if_ne (pc := 103) (tgt := 110) C dX5_passing_103 (by decide) (fun c12 => ?_) (fun c12 => ?_)
  · replace h := ifn c12 h
    refine g_iload_n (pc := 110) C dX5_passing_110 rfl 3 rfl ?_
    refine g_iconst (pc := 111) (v := 1) C dX5_passing_111 (by decide) ?_
    refine g_iadd (pc := 112) C dX5_passing_112 ?_
    exact g_sub [1, 2, 3, 4, 5, 6, 0] rfl (tjX5_passing_113 C hR hd h)
  · replace h := ifp c12 h
    refine g_iconst (pc := 106) (v := 0) C dX5_passing_106 (by decide) ?_
    refine g_goto (pc := 107) (tgt := 113) C dX5_passing_107 (by decide) ?_
    exact g_sub [1, 2, 3, 4, 5, 6, 0] rfl (tjX5_passing_113 C hR hd h)
def jX5_passing_63 (T : Sh) (M : Me) (x0 : Nat) (x1 : Int32) (x2 : Int32) (x3 : Int32) (x4 : Int32) (x5 : Option Nat) (x6 : Int32) (s0 : Int32) (s1 : Int32) : Option (Int32 × Me) :=
  lt (s1 + s0) fun v8 => if ((x6 >>> ((1 : Int32) &&& 31)) &&& (1 : Int32)) = 0 then (jX5_passing_86 T M x0 x1 x2 x3 x4 x5 x6 (0 : Int32) (v8 * (16 : Int32))) else (jX5_passing_86 T M x0 x1 x2 x3 x4 x5 x6 x4 (v8 * (16 : Int32)))
set_option maxHeartbeats 4000000 in
theorem tjX5_passing_63 {X : Fx} {B : Bx} {Z : Nat × Nat × Nat × Nat} {d : Nat} {T : Sh} {M : Me} {x0 : Nat} {x1 : Int32} {x2 : Int32} {x3 : Int32} {x4 : Int32} {x5 : Option Nat} {x6 : Int32} {s0 : Int32} {s1 : Int32} {r : Int32} {M' : Me} (C : Cx X B cX5_passing 13 RX5 d Z) (hR : Rx X (some .int)) (hd : 2 ≤ d) (h : jX5_passing_63 T M x0 x1 x2 x3 x4 x5 x6 s0 s1 = some (r, M')) : G X B 13 Z (Qf X B Z (some (.int r)) T M') 63 [(0, .ref (x0)), (1, .int (x1)), (2, .int (x2)), (3, .int (x3)), (4, .int (x4)), (5, va_rf (x5)), (6, .int (x6))] [.int (s0), .int (s1)] T M := by
  unfold jX5_passing_63 at h
  refine g_iadd (pc := 63) C dX5_passing_63 ?_
  refine g_topi (fun v8 ev8 => ?_)
  replace h := lt_at ev8 h
  refine g_istore (pc := 64) (lo2 := [(7, .int (v8)), (0, .ref (x0)), (1, .int (x1)), (2, .int (x2)), (3, .int (x3)), (4, .int (x4)), (5, va_rf (x5)), (6, .int (x6))]) C dX5_passing_64 (by decide) rfl ?_
  refine g_iload (pc := 66) C dX5_passing_66 0 rfl ?_
  refine g_bipush (pc := 68) (v := 16) C dX5_passing_68 (by decide) ?_
  refine g_imul (pc := 70) C dX5_passing_70 ?_
  refine g_iload (pc := 71) C dX5_passing_71 7 rfl ?_
  refine g_iconst (pc := 73) (v := 1) C dX5_passing_73 (by decide) ?_
  refine g_ishr (pc := 74) C dX5_passing_74 ?_
  refine g_iconst (pc := 75) (v := 1) C dX5_passing_75 (by decide) ?_
  refine g_iand (pc := 76) C dX5_passing_76 ?_
  refine g_if_ne (pc := 77) (tgt := 84) C dX5_passing_77 (by decide) (fun c9 => ?_) (fun c9 => ?_)
  · replace h := ifn c9 h
    refine g_iload (pc := 84) C dX5_passing_84 5 rfl ?_
    exact g_sub [1, 2, 3, 4, 5, 6, 7] rfl (tjX5_passing_86 C hR hd h)
  · replace h := ifp c9 h
    refine g_iconst (pc := 80) (v := 0) C dX5_passing_80 (by decide) ?_
    refine g_goto (pc := 81) (tgt := 86) C dX5_passing_81 (by decide) ?_
    exact g_sub [1, 2, 3, 4, 5, 6, 7] rfl (tjX5_passing_86 C hR hd h)
def jX5_passing_39 (T : Sh) (M : Me) (x0 : Nat) (x1 : Int32) (x2 : Int32) (x3 : Int32) (x4 : Int32) (x5 : Option Nat) (x6 : Int32) (s0 : Int32) : Option (Int32 × Me) :=
  if ((x6 >>> ((4 : Int32) &&& 31)) &&& (1 : Int32)) = 0 then (jX5_passing_63 T M x0 x1 x2 x3 x4 x5 x6 (0 : Int32) (s0 * (31 : Int32))) else (jX5_passing_63 T M x0 x1 x2 x3 x4 x5 x6 (x3 + (15 : Int32)) (s0 * (31 : Int32)))
set_option maxHeartbeats 4000000 in
theorem tjX5_passing_39 {X : Fx} {B : Bx} {Z : Nat × Nat × Nat × Nat} {d : Nat} {T : Sh} {M : Me} {x0 : Nat} {x1 : Int32} {x2 : Int32} {x3 : Int32} {x4 : Int32} {x5 : Option Nat} {x6 : Int32} {s0 : Int32} {r : Int32} {M' : Me} (C : Cx X B cX5_passing 13 RX5 d Z) (hR : Rx X (some .int)) (hd : 2 ≤ d) (h : jX5_passing_39 T M x0 x1 x2 x3 x4 x5 x6 s0 = some (r, M')) : G X B 13 Z (Qf X B Z (some (.int r)) T M') 39 [(0, .ref (x0)), (1, .int (x1)), (2, .int (x2)), (3, .int (x3)), (4, .int (x4)), (5, va_rf (x5)), (6, .int (x6))] [.int (s0)] T M := by
  unfold jX5_passing_39 at h
  refine g_istore (pc := 39) (lo2 := [(7, .int (s0)), (0, .ref (x0)), (1, .int (x1)), (2, .int (x2)), (3, .int (x3)), (4, .int (x4)), (5, va_rf (x5)), (6, .int (x6))]) C dX5_passing_39 (by decide) rfl ?_
  refine g_iload (pc := 41) C dX5_passing_41 0 rfl ?_
  refine g_bipush (pc := 43) (v := 31) C dX5_passing_43 (by decide) ?_
  refine g_imul (pc := 45) C dX5_passing_45 ?_
  refine g_iload (pc := 46) C dX5_passing_46 7 rfl ?_
  refine g_iconst (pc := 48) (v := 4) C dX5_passing_48 (by decide) ?_
  refine g_ishr (pc := 49) C dX5_passing_49 ?_
  refine g_iconst (pc := 50) (v := 1) C dX5_passing_50 (by decide) ?_
  refine g_iand (pc := 51) C dX5_passing_51 ?_
  refine g_if_ne (pc := 52) (tgt := 59) C dX5_passing_52 (by decide) (fun c7 => ?_) (fun c7 => ?_)
  · replace h := ifn c7 h
    refine g_iload_n (pc := 59) C dX5_passing_59 rfl 4 rfl ?_
    refine g_bipush (pc := 60) (v := 15) C dX5_passing_60 (by decide) ?_
    refine g_iadd (pc := 62) C dX5_passing_62 ?_
    exact g_sub [1, 2, 3, 4, 5, 6, 7] rfl (tjX5_passing_63 C hR hd h)
  · replace h := ifp c7 h
    refine g_iconst (pc := 55) (v := 0) C dX5_passing_55 (by decide) ?_
    refine g_goto (pc := 56) (tgt := 63) C dX5_passing_56 (by decide) ?_
    exact g_sub [1, 2, 3, 4, 5, 6, 7] rfl (tjX5_passing_63 C hR hd h)
def jX5_passing_23 (T : Sh) (M : Me) (x0 : Nat) (x1 : Int32) (x2 : Int32) (x3 : Int32) (x4 : Int32) (x5 : Option Nat) (s0 : Int32) : Option (Int32 × Me) :=
  if ((s0 >>> ((2 : Int32) &&& 31)) &&& (1 : Int32)) = 0 then (jX5_passing_39 T M x0 x1 x2 x3 x4 x5 s0 (0 : Int32)) else (jX5_passing_39 T M x0 x1 x2 x3 x4 x5 s0 x1)
set_option maxHeartbeats 4000000 in
theorem tjX5_passing_23 {X : Fx} {B : Bx} {Z : Nat × Nat × Nat × Nat} {d : Nat} {T : Sh} {M : Me} {x0 : Nat} {x1 : Int32} {x2 : Int32} {x3 : Int32} {x4 : Int32} {x5 : Option Nat} {s0 : Int32} {r : Int32} {M' : Me} (C : Cx X B cX5_passing 13 RX5 d Z) (hR : Rx X (some .int)) (hd : 2 ≤ d) (h : jX5_passing_23 T M x0 x1 x2 x3 x4 x5 s0 = some (r, M')) : G X B 13 Z (Qf X B Z (some (.int r)) T M') 23 [(0, .ref (x0)), (1, .int (x1)), (2, .int (x2)), (3, .int (x3)), (4, .int (x4)), (5, va_rf (x5))] [.int (s0)] T M := by
  unfold jX5_passing_23 at h
  refine g_istore (pc := 23) (lo2 := [(6, .int (s0)), (0, .ref (x0)), (1, .int (x1)), (2, .int (x2)), (3, .int (x3)), (4, .int (x4)), (5, va_rf (x5))]) C dX5_passing_23 (by decide) (by simp [cat_rf]) ?_
  refine g_iload (pc := 25) C dX5_passing_25 0 rfl ?_
  refine g_iconst (pc := 27) (v := 2) C dX5_passing_27 (by decide) ?_
  refine g_ishr (pc := 28) C dX5_passing_28 ?_
  refine g_iconst (pc := 29) (v := 1) C dX5_passing_29 (by decide) ?_
  refine g_iand (pc := 30) C dX5_passing_30 ?_
  refine g_if_ne (pc := 31) (tgt := 38) C dX5_passing_31 (by decide) (fun c6 => ?_) (fun c6 => ?_)
  · replace h := ifn c6 h
    refine g_iload_n (pc := 38) C dX5_passing_38 rfl 2 rfl ?_
    exact g_sub [1, 2, 3, 4, 5, 6, 0] rfl (tjX5_passing_39 C hR hd h)
  · replace h := ifp c6 h
    refine g_iconst (pc := 34) (v := 0) C dX5_passing_34 (by decide) ?_
    refine g_goto (pc := 35) (tgt := 39) C dX5_passing_35 (by decide) ?_
    exact g_sub [1, 2, 3, 4, 5, 6, 0] rfl (tjX5_passing_39 C hR hd h)
/-- EyeTrainer$Maps.passing(IIII)I -/
def fX5_passing (T : Sh) (M : Me) (x0 : Nat) (x1 : Int32) (x2 : Int32) (x3 : Int32) (x4 : Int32) : Option (Int32 × Me) :=
  gd (kd T x0 = 4) <| Option.bind (gR M x0 0) fun a2 => gd (kd T a2 = 2) <| lt (gR M a2 10) fun v4 => mo (v4) (jX5_passing_23 T M x0 x1 x2 x3 x4 none (-1 : Int32)) (fun a5 => gd (kd T a5 = 3) <| jX5_passing_23 T M x0 x1 x2 x3 x4 a5 (gI M a5 1))
set_option maxHeartbeats 4000000 in
theorem kX5_passing {l : Launch} {B : Bx} {d : Nat} (hd : 2 ≤ d) {T : Sh} {M : Me} {x0 : Nat} {x1 : Int32} {x2 : Int32} {x3 : Int32} {x4 : Int32} {r : Int32} {M' : Me} (h : fX5_passing T M x0 x1 x2 x3 x4 = some (r, M')) : Kt l B yX5_passing cX5_passing 13 (some .int) d [.ref (x0), .int (x1), .int (x2), .int (x3), .int (x4)] T M (some (.int r)) T M' := by
  refine kt_of wX5_passing (Nat.le_refl _) (Nat.le_refl _) (Nat.le_of_ble_eq_true rfl) (fun X C hR hlx hin => ?_)
  subst hlx
  replace C : Cx X B cX5_passing 13 RX5 d (tp T, sl T, tp T, sl T) := C
  unfold fX5_passing at h
  show G X B 13 _ _ 0 [(0, .ref (x0)), (1, .int (x1)), (2, .int (x2)), (3, .int (x3)), (4, .int (x4))] [] T M
  refine g_aload_n (pc := 0) C dX5_passing_0 rfl 0 rfl ?_
  replace h := gd_some h; obtain ⟨hk1, h⟩ := h
  refine g_get (pc := 1) (v := va_rf (gR M x0 0)) C dX5_passing_1 kX5 hk1 0 (by decide) q_287 rfl ?_
  replace h := bnd h; obtain ⟨a2, ea2, h⟩ := h
  refine g_refq ea2 ?_
  replace h := gd_some h; obtain ⟨hk3, h⟩ := h
  refine g_get (pc := 4) (v := va_rf (gR M a2 10)) C dX5_passing_4 kX3 hk3 10 (by decide) q_248 rfl ?_
  refine g_topq (fun v4 ev4 => ?_)
  replace h := lt_at ev4 h
  refine g_astoreQ (pc := 7) (lo2 := [(5, va_rf (v4)), (0, .ref (x0)), (1, .int (x1)), (2, .int (x2)), (3, .int (x3)), (4, .int (x4))]) C dX5_passing_7 (by decide) rfl ?_
  refine g_aloadQ (pc := 9) C dX5_passing_9 0 rfl ?_
  refine g_ifnonnull (pc := 11) (tgt := 18) C dX5_passing_11 (by decide) (fun a5 ea5 => ?_) (fun ea5 => ?_)
  · replace h := mo_some2 ea5 h
    subst ea5
    refine g_aload (pc := 18) C dX5_passing_18 0 rfl ?_
    replace h := gd_some h; obtain ⟨hk78, h⟩ := h
    refine g_get (pc := 20) (v := .int (gI M a5 1)) C dX5_passing_20 kX4 hk78 1 (by decide) q_744 rfl ?_
    exact g_sub [1, 2, 3, 4, 5, 0] rfl (tjX5_passing_23 C hR hd h)
  · replace h := mo_none2 ea5 h
    subst ea5
    refine g_iconst (pc := 14) (v := (-1)) C dX5_passing_14 (by decide) ?_
    refine g_goto (pc := 15) (tgt := 23) C dX5_passing_15 (by decide) ?_
    exact g_sub [1, 2, 3, 4, 5, 0] rfl (tjX5_passing_23 C hR hd h)
theorem dX5_risenAt_0 : decode cX5_risenAt 0 = .ok (.aload_n 0, 1) := by decide +kernel
theorem dX5_risenAt_1 : decode cX5_risenAt 1 = .ok (.getfield 9, 3) := by decide +kernel
theorem dX5_risenAt_4 : decode cX5_risenAt 4 = .ok (.getfield 96, 3) := by decide +kernel
theorem dX5_risenAt_7 : decode cX5_risenAt 7 = .ok (.astore_n 3, 1) := by decide +kernel
theorem dX5_risenAt_8 : decode cX5_risenAt 8 = .ok (.aload_n 0, 1) := by decide +kernel
theorem dX5_risenAt_9 : decode cX5_risenAt 9 = .ok (.getfield 33, 3) := by decide +kernel
theorem dX5_risenAt_12 : decode cX5_risenAt 12 = .ok (.iconst 2, 1) := by decide +kernel
theorem dX5_risenAt_13 : decode cX5_risenAt 13 = .ok (.iload_n 1, 1) := by decide +kernel
theorem dX5_risenAt_14 : decode cX5_risenAt 14 = .ok (.iastore, 1) := by decide +kernel
theorem dX5_risenAt_15 : decode cX5_risenAt 15 = .ok (.aload_n 0, 1) := by decide +kernel
theorem dX5_risenAt_16 : decode cX5_risenAt 16 = .ok (.getfield 33, 3) := by decide +kernel
theorem dX5_risenAt_19 : decode cX5_risenAt 19 = .ok (.iconst 4, 1) := by decide +kernel
theorem dX5_risenAt_20 : decode cX5_risenAt 20 = .ok (.iload_n 2, 1) := by decide +kernel
theorem dX5_risenAt_21 : decode cX5_risenAt 21 = .ok (.iastore, 1) := by decide +kernel
theorem dX5_risenAt_22 : decode cX5_risenAt 22 = .ok (.iconst 0, 1) := by decide +kernel
theorem dX5_risenAt_23 : decode cX5_risenAt 23 = .ok (.istore 4, 2) := by decide +kernel
theorem dX5_risenAt_25 : decode cX5_risenAt 25 = .ok (.iconst 0, 1) := by decide +kernel
theorem dX5_risenAt_26 : decode cX5_risenAt 26 = .ok (.istore 5, 2) := by decide +kernel
theorem dX5_risenAt_28 : decode cX5_risenAt 28 = .ok (.iload 5, 2) := by decide +kernel
theorem dX5_risenAt_30 : decode cX5_risenAt 30 = .ok (.bipush 24, 2) := by decide +kernel
theorem dX5_risenAt_32 : decode cX5_risenAt 32 = .ok (.if_icmp .ge 85, 3) := by decide +kernel
theorem dX5_risenAt_35 : decode cX5_risenAt 35 = .ok (.aload_n 0, 1) := by decide +kernel
theorem dX5_risenAt_36 : decode cX5_risenAt 36 = .ok (.getfield 33, 3) := by decide +kernel
theorem dX5_risenAt_39 : decode cX5_risenAt 39 = .ok (.iconst 0, 1) := by decide +kernel
theorem dX5_risenAt_40 : decode cX5_risenAt 40 = .ok (.iload 5, 2) := by decide +kernel
theorem dX5_risenAt_42 : decode cX5_risenAt 42 = .ok (.iastore, 1) := by decide +kernel
theorem dX5_risenAt_43 : decode cX5_risenAt 43 = .ok (.aload_n 3, 1) := by decide +kernel
theorem dX5_risenAt_44 : decode cX5_risenAt 44 = .ok (.ifnonnull 27, 3) := by decide +kernel
theorem dX5_risenAt_47 : decode cX5_risenAt 47 = .ok (.iload 5, 2) := by decide +kernel
theorem dX5_risenAt_49 : decode cX5_risenAt 49 = .ok (.aload_n 0, 1) := by decide +kernel
theorem dX5_risenAt_50 : decode cX5_risenAt 50 = .ok (.getfield 9, 3) := by decide +kernel
theorem dX5_risenAt_53 : decode cX5_risenAt 53 = .ok (.getfield 86, 3) := by decide +kernel
theorem dX5_risenAt_56 : decode cX5_risenAt 56 = .ok (.iload_n 1, 1) := by decide +kernel
theorem dX5_risenAt_57 : decode cX5_risenAt 57 = .ok (.iaload, 1) := by decide +kernel
theorem dX5_risenAt_58 : decode cX5_risenAt 58 = .ok (.iload_n 2, 1) := by decide +kernel
theorem dX5_risenAt_59 : decode cX5_risenAt 59 = .ok (.iadd, 1) := by decide +kernel
theorem dX5_risenAt_60 : decode cX5_risenAt 60 = .ok (.if_icmp .lt 7, 3) := by decide +kernel
theorem dX5_risenAt_63 : decode cX5_risenAt 63 = .ok (.iconst 1, 1) := by decide +kernel
theorem dX5_risenAt_64 : decode cX5_risenAt 64 = .ok (.goto 27, 3) := by decide +kernel
theorem dX5_risenAt_67 : decode cX5_risenAt 67 = .ok (.iconst 0, 1) := by decide +kernel
theorem dX5_risenAt_68 : decode cX5_risenAt 68 = .ok (.goto 23, 3) := by decide +kernel
theorem dX5_risenAt_71 : decode cX5_risenAt 71 = .ok (.aload_n 3, 1) := by decide +kernel
theorem dX5_risenAt_72 : decode cX5_risenAt 72 = .ok (.aload_n 0, 1) := by decide +kernel
theorem dX5_risenAt_73 : decode cX5_risenAt 73 = .ok (.getfield 33, 3) := by decide +kernel
theorem dX5_risenAt_76 : decode cX5_risenAt 76 = .ok (.aload_n 0, 1) := by decide +kernel
theorem dX5_risenAt_77 : decode cX5_risenAt 77 = .ok (.getfield 36, 3) := by decide +kernel
theorem dX5_risenAt_80 : decode cX5_risenAt 80 = .ok (.invokevirtual 51, 3) := by decide +kernel
theorem dX5_risenAt_83 : decode cX5_risenAt 83 = .ok (.ifCond .eq 7, 3) := by decide +kernel
theorem dX5_risenAt_86 : decode cX5_risenAt 86 = .ok (.iconst 1, 1) := by decide +kernel
theorem dX5_risenAt_87 : decode cX5_risenAt 87 = .ok (.goto 4, 3) := by decide +kernel
theorem dX5_risenAt_90 : decode cX5_risenAt 90 = .ok (.iconst 0, 1) := by decide +kernel
theorem dX5_risenAt_91 : decode cX5_risenAt 91 = .ok (.istore 6, 2) := by decide +kernel
theorem dX5_risenAt_93 : decode cX5_risenAt 93 = .ok (.iload 4, 2) := by decide +kernel
theorem dX5_risenAt_95 : decode cX5_risenAt 95 = .ok (.iload 6, 2) := by decide +kernel
theorem dX5_risenAt_97 : decode cX5_risenAt 97 = .ok (.ifCond .eq 10, 3) := by decide +kernel
theorem dX5_risenAt_100 : decode cX5_risenAt 100 = .ok (.iconst 1, 1) := by decide +kernel
theorem dX5_risenAt_101 : decode cX5_risenAt 101 = .ok (.iload 5, 2) := by decide +kernel
theorem dX5_risenAt_103 : decode cX5_risenAt 103 = .ok (.ishl, 1) := by decide +kernel
theorem dX5_risenAt_104 : decode cX5_risenAt 104 = .ok (.goto 4, 3) := by decide +kernel
theorem dX5_risenAt_107 : decode cX5_risenAt 107 = .ok (.iconst 0, 1) := by decide +kernel
theorem dX5_risenAt_108 : decode cX5_risenAt 108 = .ok (.ior, 1) := by decide +kernel
theorem dX5_risenAt_109 : decode cX5_risenAt 109 = .ok (.istore 4, 2) := by decide +kernel
theorem dX5_risenAt_111 : decode cX5_risenAt 111 = .ok (.iinc 5 1, 3) := by decide +kernel
theorem dX5_risenAt_114 : decode cX5_risenAt 114 = .ok (.goto (-86), 3) := by decide +kernel
theorem dX5_risenAt_117 : decode cX5_risenAt 117 = .ok (.iload 4, 2) := by decide +kernel
theorem dX5_risenAt_119 : decode cX5_risenAt 119 = .ok (.ireturn, 1) := by decide +kernel
theorem wX5_risenAt : Mw yX5_risenAt cX5_risenAt 7 (some .int) 2 := ⟨q_840, q_123, by decide, ⟨by decide +kernel, by decide +kernel⟩, by decide +kernel, by decide +kernel⟩
-- a loop of EyeTrainer$Maps.risenAt at 28
def bX5_risenAt_28 (T : Sh) (x0 : Nat) (x1 : Int32) (x2 : Int32) (x3 : Option Nat) (x4 : Int32) (x5 : Int32) (M : Me) : Option ((Int32 × Int32 × Me) ⊕ ((Int32 × Me))) :=
  if (24 : Int32) ≤ x5 then (some (.inr (x4, M))) else (gd (kd T x0 = 4) <| Option.bind (gR M x0 4) fun a15 => gd (kd T a15 = 13) <| gv (0 : Int32) (ln T a15) <| lt (pI M a15 (Int32.toNatClampNeg (0 : Int32)) x5) fun M18 => mo (x3) (Option.bind (gR M18 x0 0) fun a20 => gd (kd T a20 = 2) <| Option.bind (gR M18 a20 0) fun a22 => gd (kd T a22 = 13) <| gv x1 (ln T a22) <| if x5 < ((gI M18 a22 (Int32.toNatClampNeg x1)) + x2) then (if (0 : Int32) = 0 then (lt (x4 ||| (0 : Int32)) fun v27 => lt (x5 + (1 : Int32)) fun v28 => some (.inl (v27, v28, M18))) else (lt (x4 ||| ((1 : Int32) <<< (x5 &&& 31))) fun v29 => lt (x5 + (1 : Int32)) fun v30 => some (.inl (v29, v30, M18)))) else (if (1 : Int32) = 0 then (lt (x4 ||| (0 : Int32)) fun v32 => lt (x5 + (1 : Int32)) fun v33 => some (.inl (v32, v33, M18))) else (lt (x4 ||| ((1 : Int32) <<< (x5 &&& 31))) fun v34 => lt (x5 + (1 : Int32)) fun v35 => some (.inl (v34, v35, M18))))) (fun a19 => Option.bind (gR M18 x0 4) fun a36 => Option.bind (gR M18 x0 5) fun a37 => gd (kd T a19 = 3) <| Option.bind (fX4_valueBy T M18 a19 a36 a37) <| un2 fun r39 M40 => if r39 = 0 then (if (0 : Int32) = 0 then (lt (x4 ||| (0 : Int32)) fun v43 => lt (x5 + (1 : Int32)) fun v44 => some (.inl (v43, v44, M40))) else (lt (x4 ||| ((1 : Int32) <<< (x5 &&& 31))) fun v45 => lt (x5 + (1 : Int32)) fun v46 => some (.inl (v45, v46, M40)))) else (if (1 : Int32) = 0 then (lt (x4 ||| (0 : Int32)) fun v48 => lt (x5 + (1 : Int32)) fun v49 => some (.inl (v48, v49, M40))) else (lt (x4 ||| ((1 : Int32) <<< (x5 &&& 31))) fun v50 => lt (x5 + (1 : Int32)) fun v51 => some (.inl (v50, v51, M40))))))
def PX5_risenAt_28 (X : Fx) (B : Bx) (Z : Nat × Nat × Nat × Nat) (Q : State → Prop) (T : Sh) (x0 : Nat) (x1 : Int32) (x2 : Int32) (x3 : Option Nat) (s : Int32 × Int32 × Me) : Prop := G X B 7 Z Q 28 [(0, .ref (x0)), (1, .int (x1)), (2, .int (x2)), (3, va_rf (x3)), (4, .int (s.1)), (5, .int (s.2.1))] [] T s.2.2
def EX5_risenAt_28 (X : Fx) (B : Bx) (Z : Nat × Nat × Nat × Nat) (Q : State → Prop) (T : Sh) (x0 : Nat) (x1 : Int32) (x2 : Int32) (x3 : Option Nat) (r : (Int32 × Me)) : Prop := G X B 7 Z Q 117 [(4, .int (r.1))] [] T r.2
set_option maxHeartbeats 4000000 in
theorem tbX5_risenAt_28 {X : Fx} {B : Bx} {Z : Nat × Nat × Nat × Nat} {Q : State → Prop} {d : Nat} {T : Sh} (C : Cx X B cX5_risenAt 7 RX5 d Z) (hd : 1 ≤ d) {x0 : Nat} {x1 : Int32} {x2 : Int32} {x3 : Option Nat} : ∀ (s : Int32 × Int32 × Me) (o : (Int32 × Int32 × Me) ⊕ ((Int32 × Me))), bX5_risenAt_28 T x0 x1 x2 x3 s.1 s.2.1 s.2.2 = some o → lpE (PX5_risenAt_28 X B Z Q T x0 x1 x2 x3) (EX5_risenAt_28 X B Z Q T x0 x1 x2 x3) o → PX5_risenAt_28 X B Z Q T x0 x1 x2 x3 s := by
  rintro ⟨x4, x5, M⟩ o h hE
  replace h : bX5_risenAt_28 T x0 x1 x2 x3 x4 x5 M = some o := h
  unfold bX5_risenAt_28 at h
  show G X B 7 Z Q 28 [(0, .ref (x0)), (1, .int (x1)), (2, .int (x2)), (3, va_rf (x3)), (4, .int (x4)), (5, .int (x5))] [] T M
  refine g_iload (pc := 28) C dX5_risenAt_28 5 rfl ?_
  refine g_bipush (pc := 30) (v := 24) C dX5_risenAt_30 (by decide) ?_
  refine g_icmp_ge (pc := 32) (tgt := 117) C dX5_risenAt_32 (by decide) (fun c13 => ?_) (fun c13 => ?_)
  · replace h := ifp c13 h
    obtain rfl := Option.some.inj h
    exact g_sub [4] rfl (show G X B 7 Z Q 117 [(4, .int (x4))] [] T M from hE)
  · replace h := ifn c13 h
    refine g_aload_n (pc := 35) C dX5_risenAt_35 rfl 0 rfl ?_
    replace h := gd_some h; obtain ⟨hk14, h⟩ := h
    refine g_get (pc := 36) (v := va_rf (gR M x0 4)) C dX5_risenAt_36 kX5 hk14 4 (by decide) q_292 rfl ?_
    replace h := bnd h; obtain ⟨a15, ea15, h⟩ := h
    refine g_refq ea15 ?_
    refine g_iconst (pc := 39) (v := 0) C dX5_risenAt_39 (by decide) ?_
    refine g_iload (pc := 40) C dX5_risenAt_40 5 rfl ?_
    replace h := gd_some h; obtain ⟨hk16, h⟩ := h
    replace h := gv_some h; obtain ⟨hi17, h⟩ := h
    refine g_iast (pc := 42) C dX5_risenAt_42 hk16 hi17 ?_
    refine g_mem (fun M18 eM18 => ?_)
    replace h := lt_at eM18 h
    refine g_aload_nQ (pc := 43) C dX5_risenAt_43 rfl 3 rfl ?_
    refine g_ifnonnull (pc := 44) (tgt := 71) C dX5_risenAt_44 (by decide) (fun a19 ea19 => ?_) (fun ea19 => ?_)
    · replace h := mo_some2 ea19 h
      subst ea19
      refine g_aload_n (pc := 71) C dX5_risenAt_71 rfl 3 rfl ?_
      refine g_aload_n (pc := 72) C dX5_risenAt_72 rfl 0 rfl ?_
      refine g_get (pc := 73) (v := va_rf (gR M18 x0 4)) C dX5_risenAt_73 kX5 hk14 4 (by decide) q_292 rfl ?_
      replace h := bnd h; obtain ⟨a36, ea36, h⟩ := h
      refine g_refq ea36 ?_
      refine g_aload_n (pc := 76) C dX5_risenAt_76 rfl 0 rfl ?_
      refine g_get (pc := 77) (v := va_rf (gR M18 x0 5)) C dX5_risenAt_77 kX5 hk14 5 (by decide) q_293 rfl ?_
      replace h := bnd h; obtain ⟨a37, ea37, h⟩ := h
      refine g_refq ea37 ?_
      replace h := gd_some h; obtain ⟨hk38, h⟩ := h
      replace h := bnd2 h; obtain ⟨r39, M40, h1, h⟩ := h
      refine g_callVi (pc := 80) (As := [.ref (a36), .ref (a37)]) (st := []) C dX5_risenAt_80 wX4_valueBy hk38 rfl (by decide) q_787 q_788 q_786 (by omega) rfl (Nat.le_of_ble_eq_true rfl) (kX4_valueBy (d := 0) (Nat.le_refl _) h1) ?_
      refine g_if_eq (pc := 83) (tgt := 90) C dX5_risenAt_83 (by decide) (fun c41 => ?_) (fun c41 => ?_)
      · replace h := ifp c41 h
        refine g_iconst (pc := 90) (v := 0) C dX5_risenAt_90 (by decide) ?_
        refine g_istore (pc := 91) (lo2 := [(6, .int ((0 : Int32))), (0, .ref (x0)), (1, .int (x1)), (2, .int (x2)), (3, .ref (a19)), (4, .int (x4)), (5, .int (x5))]) C dX5_risenAt_91 (by decide) rfl ?_
        refine g_iload (pc := 93) C dX5_risenAt_93 5 rfl ?_
        refine g_iload (pc := 95) C dX5_risenAt_95 0 rfl ?_
        refine g_if_eq (pc := 97) (tgt := 107) C dX5_risenAt_97 (by decide) (fun c42 => ?_) (fun c42 => ?_)
        · replace h := ifp c42 h
          refine g_iconst (pc := 107) (v := 0) C dX5_risenAt_107 (by decide) ?_
          refine g_ior (pc := 108) C dX5_risenAt_108 ?_
          refine g_topi (fun v43 ev43 => ?_)
          replace h := lt_at ev43 h
          refine g_istore (pc := 109) (lo2 := [(4, .int (v43)), (6, .int ((0 : Int32))), (0, .ref (x0)), (1, .int (x1)), (2, .int (x2)), (3, .ref (a19)), (5, .int (x5))]) C dX5_risenAt_109 (by decide) rfl ?_
          obtain ⟨v44, ev44⟩ : ∃ y : Int32, y = x5 + (1 : Int32) := ⟨_, rfl⟩
          replace h := lt_at ev44 h
          refine g_iinc (pc := 111) (v := v44) (k := 6) (lo2 := [(5, .int (v44)), (4, .int (v43)), (6, .int ((0 : Int32))), (0, .ref (x0)), (1, .int (x1)), (2, .int (x2)), (3, .ref (a19))]) C dX5_risenAt_111 rfl (by rw [ev44]; rfl) (by decide) rfl ?_
          refine g_goto (pc := 114) (tgt := 28) C dX5_risenAt_114 (by decide) ?_
          obtain rfl := Option.some.inj h
          exact g_sub [3, 4, 5, 6, 1, 0] rfl (show G X B 7 Z Q 28 [(0, .ref (x0)), (1, .int (x1)), (2, .int (x2)), (3, .ref (a19)), (4, .int (v43)), (5, .int (v44))] [] T M40 from hE)
        · replace h := ifn c42 h
          refine g_iconst (pc := 100) (v := 1) C dX5_risenAt_100 (by decide) ?_
          refine g_iload (pc := 101) C dX5_risenAt_101 6 rfl ?_
          refine g_ishl (pc := 103) C dX5_risenAt_103 ?_
          refine g_goto (pc := 104) (tgt := 108) C dX5_risenAt_104 (by decide) ?_
          refine g_ior (pc := 108) C dX5_risenAt_108 ?_
          refine g_topi (fun v45 ev45 => ?_)
          replace h := lt_at ev45 h
          refine g_istore (pc := 109) (lo2 := [(4, .int (v45)), (6, .int ((0 : Int32))), (0, .ref (x0)), (1, .int (x1)), (2, .int (x2)), (3, .ref (a19)), (5, .int (x5))]) C dX5_risenAt_109 (by decide) rfl ?_
          obtain ⟨v46, ev46⟩ : ∃ y : Int32, y = x5 + (1 : Int32) := ⟨_, rfl⟩
          replace h := lt_at ev46 h
          refine g_iinc (pc := 111) (v := v46) (k := 6) (lo2 := [(5, .int (v46)), (4, .int (v45)), (6, .int ((0 : Int32))), (0, .ref (x0)), (1, .int (x1)), (2, .int (x2)), (3, .ref (a19))]) C dX5_risenAt_111 rfl (by rw [ev46]; rfl) (by decide) rfl ?_
          refine g_goto (pc := 114) (tgt := 28) C dX5_risenAt_114 (by decide) ?_
          obtain rfl := Option.some.inj h
          exact g_sub [3, 4, 5, 6, 1, 0] rfl (show G X B 7 Z Q 28 [(0, .ref (x0)), (1, .int (x1)), (2, .int (x2)), (3, .ref (a19)), (4, .int (v45)), (5, .int (v46))] [] T M40 from hE)
      · replace h := ifn c41 h
        refine g_iconst (pc := 86) (v := 1) C dX5_risenAt_86 (by decide) ?_
        refine g_goto (pc := 87) (tgt := 91) C dX5_risenAt_87 (by decide) ?_
        refine g_istore (pc := 91) (lo2 := [(6, .int ((1 : Int32))), (0, .ref (x0)), (1, .int (x1)), (2, .int (x2)), (3, .ref (a19)), (4, .int (x4)), (5, .int (x5))]) C dX5_risenAt_91 (by decide) rfl ?_
        refine g_iload (pc := 93) C dX5_risenAt_93 5 rfl ?_
        refine g_iload (pc := 95) C dX5_risenAt_95 0 rfl ?_
        refine g_if_eq (pc := 97) (tgt := 107) C dX5_risenAt_97 (by decide) (fun c47 => ?_) (fun c47 => ?_)
        · replace h := ifp c47 h
          refine g_iconst (pc := 107) (v := 0) C dX5_risenAt_107 (by decide) ?_
          refine g_ior (pc := 108) C dX5_risenAt_108 ?_
          refine g_topi (fun v48 ev48 => ?_)
          replace h := lt_at ev48 h
          refine g_istore (pc := 109) (lo2 := [(4, .int (v48)), (6, .int ((1 : Int32))), (0, .ref (x0)), (1, .int (x1)), (2, .int (x2)), (3, .ref (a19)), (5, .int (x5))]) C dX5_risenAt_109 (by decide) rfl ?_
          obtain ⟨v49, ev49⟩ : ∃ y : Int32, y = x5 + (1 : Int32) := ⟨_, rfl⟩
          replace h := lt_at ev49 h
          refine g_iinc (pc := 111) (v := v49) (k := 6) (lo2 := [(5, .int (v49)), (4, .int (v48)), (6, .int ((1 : Int32))), (0, .ref (x0)), (1, .int (x1)), (2, .int (x2)), (3, .ref (a19))]) C dX5_risenAt_111 rfl (by rw [ev49]; rfl) (by decide) rfl ?_
          refine g_goto (pc := 114) (tgt := 28) C dX5_risenAt_114 (by decide) ?_
          obtain rfl := Option.some.inj h
          exact g_sub [3, 4, 5, 6, 1, 0] rfl (show G X B 7 Z Q 28 [(0, .ref (x0)), (1, .int (x1)), (2, .int (x2)), (3, .ref (a19)), (4, .int (v48)), (5, .int (v49))] [] T M40 from hE)
        · replace h := ifn c47 h
          refine g_iconst (pc := 100) (v := 1) C dX5_risenAt_100 (by decide) ?_
          refine g_iload (pc := 101) C dX5_risenAt_101 6 rfl ?_
          refine g_ishl (pc := 103) C dX5_risenAt_103 ?_
          refine g_goto (pc := 104) (tgt := 108) C dX5_risenAt_104 (by decide) ?_
          refine g_ior (pc := 108) C dX5_risenAt_108 ?_
          refine g_topi (fun v50 ev50 => ?_)
          replace h := lt_at ev50 h
          refine g_istore (pc := 109) (lo2 := [(4, .int (v50)), (6, .int ((1 : Int32))), (0, .ref (x0)), (1, .int (x1)), (2, .int (x2)), (3, .ref (a19)), (5, .int (x5))]) C dX5_risenAt_109 (by decide) rfl ?_
          obtain ⟨v51, ev51⟩ : ∃ y : Int32, y = x5 + (1 : Int32) := ⟨_, rfl⟩
          replace h := lt_at ev51 h
          refine g_iinc (pc := 111) (v := v51) (k := 6) (lo2 := [(5, .int (v51)), (4, .int (v50)), (6, .int ((1 : Int32))), (0, .ref (x0)), (1, .int (x1)), (2, .int (x2)), (3, .ref (a19))]) C dX5_risenAt_111 rfl (by rw [ev51]; rfl) (by decide) rfl ?_
          refine g_goto (pc := 114) (tgt := 28) C dX5_risenAt_114 (by decide) ?_
          obtain rfl := Option.some.inj h
          exact g_sub [3, 4, 5, 6, 1, 0] rfl (show G X B 7 Z Q 28 [(0, .ref (x0)), (1, .int (x1)), (2, .int (x2)), (3, .ref (a19)), (4, .int (v50)), (5, .int (v51))] [] T M40 from hE)
    · replace h := mo_none2 ea19 h
      subst ea19
      refine g_iload (pc := 47) C dX5_risenAt_47 5 rfl ?_
      refine g_aload_n (pc := 49) C dX5_risenAt_49 rfl 0 rfl ?_
      refine g_get (pc := 50) (v := va_rf (gR M18 x0 0)) C dX5_risenAt_50 kX5 hk14 0 (by decide) q_287 rfl ?_
      replace h := bnd h; obtain ⟨a20, ea20, h⟩ := h
      refine g_refq ea20 ?_
      replace h := gd_some h; obtain ⟨hk21, h⟩ := h
      refine g_get (pc := 53) (v := va_rf (gR M18 a20 0)) C dX5_risenAt_53 kX3 hk21 0 (by decide) q_217 rfl ?_
      replace h := bnd h; obtain ⟨a22, ea22, h⟩ := h
      refine g_refq ea22 ?_
      refine g_iload_n (pc := 56) C dX5_risenAt_56 rfl 1 rfl ?_
      replace h := gd_some h; obtain ⟨hk23, h⟩ := h
      replace h := gv_some h; obtain ⟨hi24, h⟩ := h
      refine g_iald (pc := 57) C dX5_risenAt_57 hk23 hi24 ?_
      refine g_iload_n (pc := 58) C dX5_risenAt_58 rfl 2 rfl ?_
      refine g_iadd (pc := 59) C dX5_risenAt_59 ?_
      refine g_icmp_lt (pc := 60) (tgt := 67) C dX5_risenAt_60 (by decide) (fun c25 => ?_) (fun c25 => ?_)
      · replace h := ifp c25 h
        refine g_iconst (pc := 67) (v := 0) C dX5_risenAt_67 (by decide) ?_
        refine g_goto (pc := 68) (tgt := 91) C dX5_risenAt_68 (by decide) ?_
        refine g_istore (pc := 91) (lo2 := [(6, .int ((0 : Int32))), (0, .ref (x0)), (1, .int (x1)), (2, .int (x2)), (3, va_rf (none)), (4, .int (x4)), (5, .int (x5))]) C dX5_risenAt_91 (by decide) rfl ?_
        refine g_iload (pc := 93) C dX5_risenAt_93 5 rfl ?_
        refine g_iload (pc := 95) C dX5_risenAt_95 0 rfl ?_
        refine g_if_eq (pc := 97) (tgt := 107) C dX5_risenAt_97 (by decide) (fun c26 => ?_) (fun c26 => ?_)
        · replace h := ifp c26 h
          refine g_iconst (pc := 107) (v := 0) C dX5_risenAt_107 (by decide) ?_
          refine g_ior (pc := 108) C dX5_risenAt_108 ?_
          refine g_topi (fun v27 ev27 => ?_)
          replace h := lt_at ev27 h
          refine g_istore (pc := 109) (lo2 := [(4, .int (v27)), (6, .int ((0 : Int32))), (0, .ref (x0)), (1, .int (x1)), (2, .int (x2)), (3, va_rf (none)), (5, .int (x5))]) C dX5_risenAt_109 (by decide) (by simp [cat_rf]) ?_
          obtain ⟨v28, ev28⟩ : ∃ y : Int32, y = x5 + (1 : Int32) := ⟨_, rfl⟩
          replace h := lt_at ev28 h
          refine g_iinc (pc := 111) (v := v28) (k := 6) (lo2 := [(5, .int (v28)), (4, .int (v27)), (6, .int ((0 : Int32))), (0, .ref (x0)), (1, .int (x1)), (2, .int (x2)), (3, va_rf (none))]) C dX5_risenAt_111 rfl (by rw [ev28]; rfl) (by decide) rfl ?_
          refine g_goto (pc := 114) (tgt := 28) C dX5_risenAt_114 (by decide) ?_
          obtain rfl := Option.some.inj h
          exact g_sub [3, 4, 5, 6, 1, 0] rfl (show G X B 7 Z Q 28 [(0, .ref (x0)), (1, .int (x1)), (2, .int (x2)), (3, va_rf (none)), (4, .int (v27)), (5, .int (v28))] [] T M18 from hE)
        · replace h := ifn c26 h
          refine g_iconst (pc := 100) (v := 1) C dX5_risenAt_100 (by decide) ?_
          refine g_iload (pc := 101) C dX5_risenAt_101 6 rfl ?_
          refine g_ishl (pc := 103) C dX5_risenAt_103 ?_
          refine g_goto (pc := 104) (tgt := 108) C dX5_risenAt_104 (by decide) ?_
          refine g_ior (pc := 108) C dX5_risenAt_108 ?_
          refine g_topi (fun v29 ev29 => ?_)
          replace h := lt_at ev29 h
          refine g_istore (pc := 109) (lo2 := [(4, .int (v29)), (6, .int ((0 : Int32))), (0, .ref (x0)), (1, .int (x1)), (2, .int (x2)), (3, va_rf (none)), (5, .int (x5))]) C dX5_risenAt_109 (by decide) (by simp [cat_rf]) ?_
          obtain ⟨v30, ev30⟩ : ∃ y : Int32, y = x5 + (1 : Int32) := ⟨_, rfl⟩
          replace h := lt_at ev30 h
          refine g_iinc (pc := 111) (v := v30) (k := 6) (lo2 := [(5, .int (v30)), (4, .int (v29)), (6, .int ((0 : Int32))), (0, .ref (x0)), (1, .int (x1)), (2, .int (x2)), (3, va_rf (none))]) C dX5_risenAt_111 rfl (by rw [ev30]; rfl) (by decide) rfl ?_
          refine g_goto (pc := 114) (tgt := 28) C dX5_risenAt_114 (by decide) ?_
          obtain rfl := Option.some.inj h
          exact g_sub [3, 4, 5, 6, 1, 0] rfl (show G X B 7 Z Q 28 [(0, .ref (x0)), (1, .int (x1)), (2, .int (x2)), (3, va_rf (none)), (4, .int (v29)), (5, .int (v30))] [] T M18 from hE)
      · replace h := ifn c25 h
        refine g_iconst (pc := 63) (v := 1) C dX5_risenAt_63 (by decide) ?_
        refine g_goto (pc := 64) (tgt := 91) C dX5_risenAt_64 (by decide) ?_
        refine g_istore (pc := 91) (lo2 := [(6, .int ((1 : Int32))), (0, .ref (x0)), (1, .int (x1)), (2, .int (x2)), (3, va_rf (none)), (4, .int (x4)), (5, .int (x5))]) C dX5_risenAt_91 (by decide) rfl ?_
        refine g_iload (pc := 93) C dX5_risenAt_93 5 rfl ?_
        refine g_iload (pc := 95) C dX5_risenAt_95 0 rfl ?_
        refine g_if_eq (pc := 97) (tgt := 107) C dX5_risenAt_97 (by decide) (fun c31 => ?_) (fun c31 => ?_)
        · replace h := ifp c31 h
          refine g_iconst (pc := 107) (v := 0) C dX5_risenAt_107 (by decide) ?_
          refine g_ior (pc := 108) C dX5_risenAt_108 ?_
          refine g_topi (fun v32 ev32 => ?_)
          replace h := lt_at ev32 h
          refine g_istore (pc := 109) (lo2 := [(4, .int (v32)), (6, .int ((1 : Int32))), (0, .ref (x0)), (1, .int (x1)), (2, .int (x2)), (3, va_rf (none)), (5, .int (x5))]) C dX5_risenAt_109 (by decide) (by simp [cat_rf]) ?_
          obtain ⟨v33, ev33⟩ : ∃ y : Int32, y = x5 + (1 : Int32) := ⟨_, rfl⟩
          replace h := lt_at ev33 h
          refine g_iinc (pc := 111) (v := v33) (k := 6) (lo2 := [(5, .int (v33)), (4, .int (v32)), (6, .int ((1 : Int32))), (0, .ref (x0)), (1, .int (x1)), (2, .int (x2)), (3, va_rf (none))]) C dX5_risenAt_111 rfl (by rw [ev33]; rfl) (by decide) rfl ?_
          refine g_goto (pc := 114) (tgt := 28) C dX5_risenAt_114 (by decide) ?_
          obtain rfl := Option.some.inj h
          exact g_sub [3, 4, 5, 6, 1, 0] rfl (show G X B 7 Z Q 28 [(0, .ref (x0)), (1, .int (x1)), (2, .int (x2)), (3, va_rf (none)), (4, .int (v32)), (5, .int (v33))] [] T M18 from hE)
        · replace h := ifn c31 h
          refine g_iconst (pc := 100) (v := 1) C dX5_risenAt_100 (by decide) ?_
          refine g_iload (pc := 101) C dX5_risenAt_101 6 rfl ?_
          refine g_ishl (pc := 103) C dX5_risenAt_103 ?_
          refine g_goto (pc := 104) (tgt := 108) C dX5_risenAt_104 (by decide) ?_
          refine g_ior (pc := 108) C dX5_risenAt_108 ?_
          refine g_topi (fun v34 ev34 => ?_)
          replace h := lt_at ev34 h
          refine g_istore (pc := 109) (lo2 := [(4, .int (v34)), (6, .int ((1 : Int32))), (0, .ref (x0)), (1, .int (x1)), (2, .int (x2)), (3, va_rf (none)), (5, .int (x5))]) C dX5_risenAt_109 (by decide) (by simp [cat_rf]) ?_
          obtain ⟨v35, ev35⟩ : ∃ y : Int32, y = x5 + (1 : Int32) := ⟨_, rfl⟩
          replace h := lt_at ev35 h
          refine g_iinc (pc := 111) (v := v35) (k := 6) (lo2 := [(5, .int (v35)), (4, .int (v34)), (6, .int ((1 : Int32))), (0, .ref (x0)), (1, .int (x1)), (2, .int (x2)), (3, va_rf (none))]) C dX5_risenAt_111 rfl (by rw [ev35]; rfl) (by decide) rfl ?_
          refine g_goto (pc := 114) (tgt := 28) C dX5_risenAt_114 (by decide) ?_
          obtain rfl := Option.some.inj h
          exact g_sub [3, 4, 5, 6, 1, 0] rfl (show G X B 7 Z Q 28 [(0, .ref (x0)), (1, .int (x1)), (2, .int (x2)), (3, va_rf (none)), (4, .int (v34)), (5, .int (v35))] [] T M18 from hE)
/-- EyeTrainer$Maps.risenAt(II)I -/
def fX5_risenAt (T : Sh) (M : Me) (x0 : Nat) (x1 : Int32) (x2 : Int32) : Option (Int32 × Me) :=
  gd (kd T x0 = 4) <| Option.bind (gR M x0 0) fun a2 => gd (kd T a2 = 2) <| lt (gR M a2 11) fun v4 => Option.bind (gR M x0 4) fun a5 => gd (kd T a5 = 13) <| gv (2 : Int32) (ln T a5) <| lt (pI M a5 (Int32.toNatClampNeg (2 : Int32)) x1) fun M8 => Option.bind (gR M8 x0 4) fun a9 => gd (kd T a9 = 13) <| gv (4 : Int32) (ln T a9) <| lt (pI M8 a9 (Int32.toNatClampNeg (4 : Int32)) x2) fun M12 => (lp FU (fun s => bX5_risenAt_28 T x0 x1 x2 v4 s.1 s.2.1 s.2.2) ((0 : Int32), (0 : Int32), M12)).bind (un2 fun x4_52 M53 => some (x4_52, M53))
set_option maxHeartbeats 4000000 in
theorem kX5_risenAt {l : Launch} {B : Bx} {d : Nat} (hd : 1 ≤ d) {T : Sh} {M : Me} {x0 : Nat} {x1 : Int32} {x2 : Int32} {r : Int32} {M' : Me} (h : fX5_risenAt T M x0 x1 x2 = some (r, M')) : Kt l B yX5_risenAt cX5_risenAt 7 (some .int) d [.ref (x0), .int (x1), .int (x2)] T M (some (.int r)) T M' := by
  refine kt_of wX5_risenAt (Nat.le_refl _) (Nat.le_refl _) (Nat.le_of_ble_eq_true rfl) (fun X C hR hlx hin => ?_)
  subst hlx
  replace C : Cx X B cX5_risenAt 7 RX5 d (tp T, sl T, tp T, sl T) := C
  unfold fX5_risenAt at h
  show G X B 7 _ _ 0 [(0, .ref (x0)), (1, .int (x1)), (2, .int (x2))] [] T M
  refine g_aload_n (pc := 0) C dX5_risenAt_0 rfl 0 rfl ?_
  replace h := gd_some h; obtain ⟨hk1, h⟩ := h
  refine g_get (pc := 1) (v := va_rf (gR M x0 0)) C dX5_risenAt_1 kX5 hk1 0 (by decide) q_287 rfl ?_
  replace h := bnd h; obtain ⟨a2, ea2, h⟩ := h
  refine g_refq ea2 ?_
  replace h := gd_some h; obtain ⟨hk3, h⟩ := h
  refine g_get (pc := 4) (v := va_rf (gR M a2 11)) C dX5_risenAt_4 kX3 hk3 11 (by decide) q_250 rfl ?_
  refine g_topq (fun v4 ev4 => ?_)
  replace h := lt_at ev4 h
  refine g_astore_nQ (pc := 7) (lo2 := [(3, va_rf (v4)), (0, .ref (x0)), (1, .int (x1)), (2, .int (x2))]) C dX5_risenAt_7 rfl (by decide) rfl ?_
  refine g_aload_n (pc := 8) C dX5_risenAt_8 rfl 1 rfl ?_
  refine g_get (pc := 9) (v := va_rf (gR M x0 4)) C dX5_risenAt_9 kX5 hk1 4 (by decide) q_292 rfl ?_
  replace h := bnd h; obtain ⟨a5, ea5, h⟩ := h
  refine g_refq ea5 ?_
  refine g_iconst (pc := 12) (v := 2) C dX5_risenAt_12 (by decide) ?_
  refine g_iload_n (pc := 13) C dX5_risenAt_13 rfl 2 rfl ?_
  replace h := gd_some h; obtain ⟨hk6, h⟩ := h
  replace h := gv_some h; obtain ⟨hi7, h⟩ := h
  refine g_iast (pc := 14) C dX5_risenAt_14 hk6 hi7 ?_
  refine g_mem (fun M8 eM8 => ?_)
  replace h := lt_at eM8 h
  refine g_aload_n (pc := 15) C dX5_risenAt_15 rfl 1 rfl ?_
  refine g_get (pc := 16) (v := va_rf (gR M8 x0 4)) C dX5_risenAt_16 kX5 hk1 4 (by decide) q_292 rfl ?_
  replace h := bnd h; obtain ⟨a9, ea9, h⟩ := h
  refine g_refq ea9 ?_
  refine g_iconst (pc := 19) (v := 4) C dX5_risenAt_19 (by decide) ?_
  refine g_iload_n (pc := 20) C dX5_risenAt_20 rfl 3 rfl ?_
  replace h := gd_some h; obtain ⟨hk10, h⟩ := h
  replace h := gv_some h; obtain ⟨hi11, h⟩ := h
  refine g_iast (pc := 21) C dX5_risenAt_21 hk10 hi11 ?_
  refine g_mem (fun M12 eM12 => ?_)
  replace h := lt_at eM12 h
  refine g_iconst (pc := 22) (v := 0) C dX5_risenAt_22 (by decide) ?_
  refine g_istore (pc := 23) (lo2 := [(4, .int ((0 : Int32))), (3, va_rf (v4)), (0, .ref (x0)), (1, .int (x1)), (2, .int (x2))]) C dX5_risenAt_23 (by decide) (by simp [cat_rf]) ?_
  refine g_iconst (pc := 25) (v := 0) C dX5_risenAt_25 (by decide) ?_
  refine g_istore (pc := 26) (lo2 := [(5, .int ((0 : Int32))), (4, .int ((0 : Int32))), (3, va_rf (v4)), (0, .ref (x0)), (1, .int (x1)), (2, .int (x2))]) C dX5_risenAt_26 (by decide) rfl ?_
  replace h := bnd2 h; obtain ⟨x4_52, M53, h1, h⟩ := h
  refine g_sub [3, 4, 5, 2, 1, 0] rfl ?_
  refine lp_G2 (P := PX5_risenAt_28 X B _ _ T x0 x1 x2 v4) (E := EX5_risenAt_28 X B _ _ T x0 x1 x2 v4) (tbX5_risenAt_28 C hd) h1 ?_
  show G X B 7 _ _ 117 [(4, .int (x4_52))] [] T M53
  refine g_iload (pc := 117) C dX5_risenAt_117 0 rfl ?_
  obtain ⟨rfl, rfl⟩ := Prod.mk.inj (Option.some.inj h)
  exact g_iret C hR dX5_risenAt_119
