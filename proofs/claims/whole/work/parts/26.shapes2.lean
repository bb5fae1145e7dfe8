set_option maxRecDepth 20000 in
theorem q_40 : Cond.selects RX7 yX7_takeFromRest yX7_takeFromRest ∈ lw_gd := mem_gd (List.mem_of_getElem? (i := 40) (by decide +kernel)) rfl
set_option maxRecDepth 20000 in
theorem q_41 : Cond.selects RX7 yX7_takeEye yX7_takeEye ∈ lw_gd := mem_gd (List.mem_of_getElem? (i := 41) (by decide +kernel)) rfl
set_option maxRecDepth 20000 in
theorem q_43 : Cond.selects RX7 yX7_stepsFrom yX7_stepsFrom ∈ lw_gd := mem_gd (List.mem_of_getElem? (i := 43) (by decide +kernel)) rfl
set_option maxRecDepth 20000 in
theorem q_44 : Cond.selects RX7 yX7_nearingStep yX7_nearingStep ∈ lw_gd := mem_gd (List.mem_of_getElem? (i := 44) (by decide +kernel)) rfl
set_option maxRecDepth 20000 in
theorem q_45 : Cond.selects RX7 yX7_stepAll yX7_stepAll ∈ lw_gd := mem_gd (List.mem_of_getElem? (i := 45) (by decide +kernel)) rfl
set_option maxRecDepth 20000 in
theorem q_318 : Cond.fieldLink RX7 18 "EyeTrainer$Shapes" "rest" "[I" ∈ lw_gd := mem_gd (List.mem_of_getElem? (i := 318) (by decide +kernel)) rfl
set_option maxRecDepth 20000 in
theorem q_319 : Cond.fieldLink RX7 21 "EyeTrainer$Shapes" "walks" "[J" ∈ lw_gd := mem_gd (List.mem_of_getElem? (i := 319) (by decide +kernel)) rfl
set_option maxRecDepth 20000 in
theorem q_320 : Cond.fieldLink RX7 25 "EyeTrainer$Shapes" "nextWalks" "[J" ∈ lw_gd := mem_gd (List.mem_of_getElem? (i := 320) (by decide +kernel)) rfl
set_option maxRecDepth 20000 in
theorem q_335 : Cond.fieldLink RX7 88 "EyeTrainer$Shapes" "eyesFound" "I" ∈ lw_gd := mem_gd (List.mem_of_getElem? (i := 335) (by decide +kernel)) rfl
set_option maxRecDepth 20000 in
theorem q_337 : Cond.fieldLink RX7 91 "EyeTrainer$Shapes" "greatestEye" "I" ∈ lw_gd := mem_gd (List.mem_of_getElem? (i := 337) (by decide +kernel)) rfl
set_option maxRecDepth 20000 in
theorem q_1014 : Cond.code yX7_findEyes cX7_findEyes 2 none ∈ lw_gd := mem_gd (List.mem_of_getElem? (i := 1014) (by decide +kernel)) rfl
set_option maxRecDepth 20000 in
theorem q_1015 : Cond.methodLink RX7 94 yX7_takeFromRest ∈ lw_gd := mem_gd (List.mem_of_getElem? (i := 1015) (by decide +kernel)) rfl
set_option maxRecDepth 20000 in
theorem q_1017 : Cond.instanceMethod yX7_takeFromRest ∈ lw_gd := mem_gd (List.mem_of_getElem? (i := 1017) (by decide +kernel)) rfl
set_option maxRecDepth 20000 in
theorem q_1018 : Cond.code yX7_takeFromRest cX7_takeFromRest 2 (some .boolean) ∈ lw_gd := mem_gd (List.mem_of_getElem? (i := 1018) (by decide +kernel)) rfl
set_option maxRecDepth 20000 in
theorem q_1019 : Cond.methodLink RX7 97 yX7_takeEye ∈ lw_gd := mem_gd (List.mem_of_getElem? (i := 1019) (by decide +kernel)) rfl
set_option maxRecDepth 20000 in
theorem q_1021 : Cond.instanceMethod yX7_takeEye ∈ lw_gd := mem_gd (List.mem_of_getElem? (i := 1021) (by decide +kernel)) rfl
set_option maxRecDepth 20000 in
theorem q_1022 : Cond.code yX7_takeEye cX7_takeEye 6 (some .int) ∈ lw_gd := mem_gd (List.mem_of_getElem? (i := 1022) (by decide +kernel)) rfl
set_option maxRecDepth 20000 in
theorem q_1026 : Cond.methodLink RX7 100 yJ9_max_7cf53 ∈ lw_gd := mem_gd (List.mem_of_getElem? (i := 1026) (by decide +kernel)) rfl
set_option maxRecDepth 20000 in
theorem q_1098 : Cond.code yX7_measureSteps cX7_measureSteps 3 none ∈ lw_gd := mem_gd (List.mem_of_getElem? (i := 1098) (by decide +kernel)) rfl
set_option maxRecDepth 20000 in
theorem q_1099 : Cond.methodLink RX7 103 yX7_stepsFrom ∈ lw_gd := mem_gd (List.mem_of_getElem? (i := 1099) (by decide +kernel)) rfl
set_option maxRecDepth 20000 in
theorem q_1101 : Cond.instanceMethod yX7_stepsFrom ∈ lw_gd := mem_gd (List.mem_of_getElem? (i := 1101) (by decide +kernel)) rfl
set_option maxRecDepth 20000 in
theorem q_1102 : Cond.code yX7_stepsFrom cX7_stepsFrom 4 (some .int) ∈ lw_gd := mem_gd (List.mem_of_getElem? (i := 1102) (by decide +kernel)) rfl
set_option maxRecDepth 20000 in
theorem q_1110 : Cond.code yX7_stepOfWay cX7_stepOfWay 5 (some .int) ∈ lw_gd := mem_gd (List.mem_of_getElem? (i := 1110) (by decide +kernel)) rfl
set_option maxRecDepth 20000 in
theorem q_1111 : Cond.methodLink RX7 106 yX7_nearingStep ∈ lw_gd := mem_gd (List.mem_of_getElem? (i := 1111) (by decide +kernel)) rfl
set_option maxRecDepth 20000 in
theorem q_1113 : Cond.instanceMethod yX7_nearingStep ∈ lw_gd := mem_gd (List.mem_of_getElem? (i := 1113) (by decide +kernel)) rfl
set_option maxRecDepth 20000 in
theorem q_1114 : Cond.code yX7_nearingStep cX7_nearingStep 4 (some .int) ∈ lw_gd := mem_gd (List.mem_of_getElem? (i := 1114) (by decide +kernel)) rfl
set_option maxRecDepth 20000 in
theorem q_1124 : Cond.code yX7_countWays cX7_countWays 6 (some .long) ∈ lw_gd := mem_gd (List.mem_of_getElem? (i := 1124) (by decide +kernel)) rfl
set_option maxRecDepth 20000 in
theorem q_1125 : Cond.methodLink RX7 109 yJ7_fill_d0a16 ∈ lw_gd := mem_gd (List.mem_of_getElem? (i := 1125) (by decide +kernel)) rfl
set_option maxRecDepth 20000 in
theorem q_1128 : Cond.methodLink RX7 115 yX7_walkPlace ∈ lw_gd := mem_gd (List.mem_of_getElem? (i := 1128) (by decide +kernel)) rfl
set_option maxRecDepth 20000 in
theorem q_1129 : Cond.static yX7_walkPlace ∈ lw_gd := mem_gd (List.mem_of_getElem? (i := 1129) (by decide +kernel)) rfl
set_option maxRecDepth 20000 in
theorem q_1130 : Cond.code yX7_walkPlace cX7_walkPlace 1 (some .int) ∈ lw_gd := mem_gd (List.mem_of_getElem? (i := 1130) (by decide +kernel)) rfl
set_option maxRecDepth 20000 in
theorem q_1131 : Cond.methodLink RX7 118 yX7_stepAll ∈ lw_gd := mem_gd (List.mem_of_getElem? (i := 1131) (by decide +kernel)) rfl
set_option maxRecDepth 20000 in
theorem q_1133 : Cond.instanceMethod yX7_stepAll ∈ lw_gd := mem_gd (List.mem_of_getElem? (i := 1133) (by decide +kernel)) rfl
set_option maxRecDepth 20000 in
theorem q_1134 : Cond.code yX7_stepAll cX7_stepAll 3 none ∈ lw_gd := mem_gd (List.mem_of_getElem? (i := 1134) (by decide +kernel)) rfl
theorem dX7_takeFromRest_0 : decode cX7_takeFromRest 0 = .ok (.iload_n 1, 1) := by decide +kernel
theorem dX7_takeFromRest_1 : decode cX7_takeFromRest 1 = .ok (.iconst (-1), 1) := by decide +kernel
theorem dX7_takeFromRest_2 : decode cX7_takeFromRest 2 = .ok (.if_icmp .eq 22, 3) := by decide +kernel
theorem dX7_takeFromRest_5 : decode cX7_takeFromRest 5 = .ok (.aload_n 0, 1) := by decide +kernel
theorem dX7_takeFromRest_6 : decode cX7_takeFromRest 6 = .ok (.getfield 18, 3) := by decide +kernel
theorem dX7_takeFromRest_9 : decode cX7_takeFromRest 9 = .ok (.iload_n 1, 1) := by decide +kernel
theorem dX7_takeFromRest_10 : decode cX7_takeFromRest 10 = .ok (.bipush 24, 2) := by decide +kernel
theorem dX7_takeFromRest_12 : decode cX7_takeFromRest 12 = .ok (.idiv, 1) := by decide +kernel
theorem dX7_takeFromRest_13 : decode cX7_takeFromRest 13 = .ok (.iaload, 1) := by decide +kernel
theorem dX7_takeFromRest_14 : decode cX7_takeFromRest 14 = .ok (.iload_n 1, 1) := by decide +kernel
theorem dX7_takeFromRest_15 : decode cX7_takeFromRest 15 = .ok (.bipush 24, 2) := by decide +kernel
theorem dX7_takeFromRest_17 : decode cX7_takeFromRest 17 = .ok (.irem, 1) := by decide +kernel
theorem dX7_takeFromRest_18 : decode cX7_takeFromRest 18 = .ok (.ishr, 1) := by decide +kernel
theorem dX7_takeFromRest_19 : decode cX7_takeFromRest 19 = .ok (.iconst 1, 1) := by decide +kernel
theorem dX7_takeFromRest_20 : decode cX7_takeFromRest 20 = .ok (.iand, 1) := by decide +kernel
theorem dX7_takeFromRest_21 : decode cX7_takeFromRest 21 = .ok (.ifCond .ne 5, 3) := by decide +kernel
theorem dX7_takeFromRest_24 : decode cX7_takeFromRest 24 = .ok (.iconst 0, 1) := by decide +kernel
theorem dX7_takeFromRest_25 : decode cX7_takeFromRest 25 = .ok (.ireturn, 1) := by decide +kernel
theorem dX7_takeFromRest_26 : decode cX7_takeFromRest 26 = .ok (.aload_n 0, 1) := by decide +kernel
theorem dX7_takeFromRest_27 : decode cX7_takeFromRest 27 = .ok (.getfield 18, 3) := by decide +kernel
theorem dX7_takeFromRest_30 : decode cX7_takeFromRest 30 = .ok (.iload_n 1, 1) := by decide +kernel
theorem dX7_takeFromRest_31 : decode cX7_takeFromRest 31 = .ok (.bipush 24, 2) := by decide +kernel
theorem dX7_takeFromRest_33 : decode cX7_takeFromRest 33 = .ok (.idiv, 1) := by decide +kernel
theorem dX7_takeFromRest_34 : decode cX7_takeFromRest 34 = .ok (.dup2, 1) := by decide +kernel
theorem dX7_takeFromRest_35 : decode cX7_takeFromRest 35 = .ok (.iaload, 1) := by decide +kernel
theorem dX7_takeFromRest_36 : decode cX7_takeFromRest 36 = .ok (.iconst 1, 1) := by decide +kernel
theorem dX7_takeFromRest_37 : decode cX7_takeFromRest 37 = .ok (.iload_n 1, 1) := by decide +kernel
theorem dX7_takeFromRest_38 : decode cX7_takeFromRest 38 = .ok (.bipush 24, 2) := by decide +kernel
theorem dX7_takeFromRest_40 : decode cX7_takeFromRest 40 = .ok (.irem, 1) := by decide +kernel
theorem dX7_takeFromRest_41 : decode cX7_takeFromRest 41 = .ok (.ishl, 1) := by decide +kernel
theorem dX7_takeFromRest_42 : decode cX7_takeFromRest 42 = .ok (.iconst (-1), 1) := by decide +kernel
theorem dX7_takeFromRest_43 : decode cX7_takeFromRest 43 = .ok (.ixor, 1) := by decide +kernel
theorem dX7_takeFromRest_44 : decode cX7_takeFromRest 44 = .ok (.iand, 1) := by decide +kernel
theorem dX7_takeFromRest_45 : decode cX7_takeFromRest 45 = .ok (.iastore, 1) := by decide +kernel
theorem dX7_takeFromRest_46 : decode cX7_takeFromRest 46 = .ok (.iconst 1, 1) := by decide +kernel
theorem dX7_takeFromRest_47 : decode cX7_takeFromRest 47 = .ok (.ireturn, 1) := by decide +kernel
theorem wX7_takeFromRest : Mw yX7_takeFromRest cX7_takeFromRest 2 (some .boolean) 1 := ⟨q_1018, q_126, by decide, ⟨by decide +kernel, by decide +kernel⟩, by decide +kernel, by decide +kernel⟩
/-- EyeTrainer$Shapes.takeFromRest(I)Z -/
def fX7_takeFromRest (T : Sh) (M : Me) (x0 : Nat) (x1 : Int32) : Option (Int32 × Me) :=
  if x1 = (-1 : Int32) then (some ((0 : Int32), M)) else (gd (kd T x0 = 6) <| Option.bind (gR M x0 2) fun a3 => gd (kd T a3 = 13) <| gv (x1 / (24 : Int32)) (ln T a3) <| if (((gI M a3 (Int32.toNatClampNeg (x1 / (24 : Int32)))) >>> ((x1 - x1 / (24 : Int32) * (24 : Int32)) &&& 31)) &&& (1 : Int32)) = 0 then (some ((0 : Int32), M)) else (Option.bind (gR M x0 2) fun a7 => gd (kd T a7 = 13) <| gv (x1 / (24 : Int32)) (ln T a7) <| gv (x1 / (24 : Int32)) (ln T a7) <| lt (pI M a7 (Int32.toNatClampNeg (x1 / (24 : Int32))) ((gI M a7 (Int32.toNatClampNeg (x1 / (24 : Int32)))) &&& (((1 : Int32) <<< ((x1 - x1 / (24 : Int32) * (24 : Int32)) &&& 31)) ^^^ (-1 : Int32)))) fun M11 => some ((1 : Int32), M11)))
set_option maxHeartbeats 4000000 in
theorem kX7_takeFromRest {l : Launch} {B : Bx} {d : Nat} (hd : 0 ≤ d) {T : Sh} {M : Me} {x0 : Nat} {x1 : Int32} {r : Int32} {M' : Me} (h : fX7_takeFromRest T M x0 x1 = some (r, M')) : Kt l B yX7_takeFromRest cX7_takeFromRest 2 (some .boolean) d [.ref (x0), .int (x1)] T M (some (.int r)) T M' := by
  refine kt_of wX7_takeFromRest (Nat.le_refl _) (Nat.le_refl _) (Nat.le_of_ble_eq_true rfl) (fun X C hR hlx hin => ?_)
  subst hlx
  replace C : Cx X B cX7_takeFromRest 2 RX7 d (tp T, sl T, tp T, sl T) := C
  unfold fX7_takeFromRest at h
  show G X B 2 _ _ 0 [(0, .ref (x0)), (1, .int (x1))] [] T M
  refine g_iload_n (pc := 0) C dX7_takeFromRest_0 rfl 1 rfl ?_
  refine g_iconst (pc := 1) (v := (-1)) C dX7_takeFromRest_1 (by decide) ?_
  refine g_icmp_eq (pc := 2) (tgt := 24) C dX7_takeFromRest_2 (by decide) (fun c1 => ?_) (fun c1 => ?_)
  · replace h := ifp c1 h
    refine g_iconst (pc := 24) (v := 0) C dX7_takeFromRest_24 (by decide) ?_
    obtain ⟨rfl, rfl⟩ := Prod.mk.inj (Option.some.inj h)
    exact g_zret C hR dX7_takeFromRest_25 rfl
  · replace h := ifn c1 h
    refine g_aload_n (pc := 5) C dX7_takeFromRest_5 rfl 0 rfl ?_
    replace h := gd_some h; obtain ⟨hk2, h⟩ := h
    refine g_get (pc := 6) (v := va_rf (gR M x0 2)) C dX7_takeFromRest_6 kX7 hk2 2 (by decide) q_318 rfl ?_
    replace h := bnd h; obtain ⟨a3, ea3, h⟩ := h
    refine g_refq ea3 ?_
    refine g_iload_n (pc := 9) C dX7_takeFromRest_9 rfl 1 rfl ?_
    refine g_bipush (pc := 10) (v := 24) C dX7_takeFromRest_10 (by decide) ?_
    refine g_idiv (pc := 12) C dX7_takeFromRest_12 (by decide) ?_
    replace h := gd_some h; obtain ⟨hk4, h⟩ := h
    replace h := gv_some h; obtain ⟨hi5, h⟩ := h
    refine g_iald (pc := 13) C dX7_takeFromRest_13 hk4 hi5 ?_
    refine g_iload_n (pc := 14) C dX7_takeFromRest_14 rfl 1 rfl ?_
    refine g_bipush (pc := 15) (v := 24) C dX7_takeFromRest_15 (by decide) ?_
    refine g_irem (pc := 17) C dX7_takeFromRest_17 (by decide) ?_
    refine g_ishr (pc := 18) C dX7_takeFromRest_18 ?_
    refine g_iconst (pc := 19) (v := 1) C dX7_takeFromRest_19 (by decide) ?_
    refine g_iand (pc := 20) C dX7_takeFromRest_20 ?_
    refine g_if_ne (pc := 21) (tgt := 26) C dX7_takeFromRest_21 (by decide) (fun c6 => ?_) (fun c6 => ?_)
    · replace h := ifn c6 h
      refine g_aload_n (pc := 26) C dX7_takeFromRest_26 rfl 0 rfl ?_
      refine g_get (pc := 27) (v := va_rf (gR M x0 2)) C dX7_takeFromRest_27 kX7 hk2 2 (by decide) q_318 rfl ?_
      replace h := bnd h; obtain ⟨a7, ea7, h⟩ := h
      refine g_refq ea7 ?_
      refine g_iload_n (pc := 30) C dX7_takeFromRest_30 rfl 1 rfl ?_
      refine g_bipush (pc := 31) (v := 24) C dX7_takeFromRest_31 (by decide) ?_
      refine g_idiv (pc := 33) C dX7_takeFromRest_33 (by decide) ?_
      refine g_dup2 (pc := 34) C dX7_takeFromRest_34 rfl rfl ?_
      replace h := gd_some h; obtain ⟨hk8, h⟩ := h
      replace h := gv_some h; obtain ⟨hi9, h⟩ := h
      refine g_iald (pc := 35) C dX7_takeFromRest_35 hk8 hi9 ?_
      refine g_iconst (pc := 36) (v := 1) C dX7_takeFromRest_36 (by decide) ?_
      refine g_iload_n (pc := 37) C dX7_takeFromRest_37 rfl 1 rfl ?_
      refine g_bipush (pc := 38) (v := 24) C dX7_takeFromRest_38 (by decide) ?_
      refine g_irem (pc := 40) C dX7_takeFromRest_40 (by decide) ?_
      refine g_ishl (pc := 41) C dX7_takeFromRest_41 ?_
      refine g_iconst (pc := 42) (v := (-1)) C dX7_takeFromRest_42 (by decide) ?_
      refine g_ixor (pc := 43) C dX7_takeFromRest_43 ?_
      refine g_iand (pc := 44) C dX7_takeFromRest_44 ?_
      replace h := gv_some h; obtain ⟨hi10, h⟩ := h
      refine g_iast (pc := 45) C dX7_takeFromRest_45 hk8 hi10 ?_
      refine g_mem (fun M11 eM11 => ?_)
      replace h := lt_at eM11 h
      refine g_iconst (pc := 46) (v := 1) C dX7_takeFromRest_46 (by decide) ?_
      obtain ⟨rfl, rfl⟩ := Prod.mk.inj (Option.some.inj h)
      exact g_zret C hR dX7_takeFromRest_47 rfl
    · replace h := ifp c6 h
      refine g_iconst (pc := 24) (v := 0) C dX7_takeFromRest_24 (by decide) ?_
      obtain ⟨rfl, rfl⟩ := Prod.mk.inj (Option.some.inj h)
      exact g_zret C hR dX7_takeFromRest_25 rfl
theorem dX7_takeEye_0 : decode cX7_takeEye 0 = .ok (.aload_n 0, 1) := by decide +kernel
theorem dX7_takeEye_1 : decode cX7_takeEye 1 = .ok (.getfield 15, 3) := by decide +kernel
theorem dX7_takeEye_4 : decode cX7_takeEye 4 = .ok (.iconst 0, 1) := by decide +kernel
theorem dX7_takeEye_5 : decode cX7_takeEye 5 = .ok (.iload_n 1, 1) := by decide +kernel
theorem dX7_takeEye_6 : decode cX7_takeEye 6 = .ok (.iastore, 1) := by decide +kernel
theorem dX7_takeEye_7 : decode cX7_takeEye 7 = .ok (.iconst 1, 1) := by decide +kernel
theorem dX7_takeEye_8 : decode cX7_takeEye 8 = .ok (.istore_n 2, 1) := by decide +kernel
theorem dX7_takeEye_9 : decode cX7_takeEye 9 = .ok (.iconst 0, 1) := by decide +kernel
theorem dX7_takeEye_10 : decode cX7_takeEye 10 = .ok (.istore_n 3, 1) := by decide +kernel
theorem dX7_takeEye_11 : decode cX7_takeEye 11 = .ok (.iload_n 3, 1) := by decide +kernel
theorem dX7_takeEye_12 : decode cX7_takeEye 12 = .ok (.sipush 384, 3) := by decide +kernel
theorem dX7_takeEye_15 : decode cX7_takeEye 15 = .ok (.if_icmp .ge 69, 3) := by decide +kernel
theorem dX7_takeEye_18 : decode cX7_takeEye 18 = .ok (.iload_n 3, 1) := by decide +kernel
theorem dX7_takeEye_19 : decode cX7_takeEye 19 = .ok (.iload_n 2, 1) := by decide +kernel
theorem dX7_takeEye_20 : decode cX7_takeEye 20 = .ok (.if_icmp .ge 64, 3) := by decide +kernel
theorem dX7_takeEye_23 : decode cX7_takeEye 23 = .ok (.iconst 0, 1) := by decide +kernel
theorem dX7_takeEye_24 : decode cX7_takeEye 24 = .ok (.istore 4, 2) := by decide +kernel
theorem dX7_takeEye_26 : decode cX7_takeEye 26 = .ok (.iload 4, 2) := by decide +kernel
theorem dX7_takeEye_28 : decode cX7_takeEye 28 = .ok (.iconst 4, 1) := by decide +kernel
theorem dX7_takeEye_29 : decode cX7_takeEye 29 = .ok (.if_icmp .ge 49, 3) := by decide +kernel
theorem dX7_takeEye_32 : decode cX7_takeEye 32 = .ok (.aload_n 0, 1) := by decide +kernel
theorem dX7_takeEye_33 : decode cX7_takeEye 33 = .ok (.getfield 15, 3) := by decide +kernel
theorem dX7_takeEye_36 : decode cX7_takeEye 36 = .ok (.iload_n 3, 1) := by decide +kernel
theorem dX7_takeEye_37 : decode cX7_takeEye 37 = .ok (.iaload, 1) := by decide +kernel
theorem dX7_takeEye_38 : decode cX7_takeEye 38 = .ok (.iload 4, 2) := by decide +kernel
theorem dX7_takeEye_40 : decode cX7_takeEye 40 = .ok (.invokestatic 85, 3) := by decide +kernel
theorem dX7_takeEye_43 : decode cX7_takeEye 43 = .ok (.istore 5, 2) := by decide +kernel
theorem dX7_takeEye_45 : decode cX7_takeEye 45 = .ok (.iload_n 2, 1) := by decide +kernel
theorem dX7_takeEye_46 : decode cX7_takeEye 46 = .ok (.sipush 384, 3) := by decide +kernel
theorem dX7_takeEye_49 : decode cX7_takeEye 49 = .ok (.if_icmp .ge 23, 3) := by decide +kernel
theorem dX7_takeEye_52 : decode cX7_takeEye 52 = .ok (.aload_n 0, 1) := by decide +kernel
theorem dX7_takeEye_53 : decode cX7_takeEye 53 = .ok (.iload 5, 2) := by decide +kernel
theorem dX7_takeEye_55 : decode cX7_takeEye 55 = .ok (.invokevirtual 94, 3) := by decide +kernel
theorem dX7_takeEye_58 : decode cX7_takeEye 58 = .ok (.ifCond .eq 14, 3) := by decide +kernel
theorem dX7_takeEye_61 : decode cX7_takeEye 61 = .ok (.aload_n 0, 1) := by decide +kernel
theorem dX7_takeEye_62 : decode cX7_takeEye 62 = .ok (.getfield 15, 3) := by decide +kernel
theorem dX7_takeEye_65 : decode cX7_takeEye 65 = .ok (.iload_n 2, 1) := by decide +kernel
theorem dX7_takeEye_66 : decode cX7_takeEye 66 = .ok (.iload 5, 2) := by decide +kernel
theorem dX7_takeEye_68 : decode cX7_takeEye 68 = .ok (.iastore, 1) := by decide +kernel
theorem dX7_takeEye_69 : decode cX7_takeEye 69 = .ok (.iinc 2 1, 3) := by decide +kernel
theorem dX7_takeEye_72 : decode cX7_takeEye 72 = .ok (.iinc 4 1, 3) := by decide +kernel
theorem dX7_takeEye_75 : decode cX7_takeEye 75 = .ok (.goto (-49), 3) := by decide +kernel
theorem dX7_takeEye_78 : decode cX7_takeEye 78 = .ok (.iinc 3 1, 3) := by decide +kernel
theorem dX7_takeEye_81 : decode cX7_takeEye 81 = .ok (.goto (-70), 3) := by decide +kernel
theorem dX7_takeEye_84 : decode cX7_takeEye 84 = .ok (.iload_n 2, 1) := by decide +kernel
theorem dX7_takeEye_85 : decode cX7_takeEye 85 = .ok (.ireturn, 1) := by decide +kernel
theorem wX7_takeEye : Mw yX7_takeEye cX7_takeEye 6 (some .int) 1 := ⟨q_1022, q_126, by decide, ⟨by decide +kernel, by decide +kernel⟩, by decide +kernel, by decide +kernel⟩
-- a loop of EyeTrainer$Shapes.takeEye at 11
-- a loop of EyeTrainer$Shapes.takeEye at 26
def bX7_takeEye_26 (T : Sh) (x0 : Nat) (x3 : Int32) (x2 : Int32) (x4 : Int32) (M : Me) : Option ((Int32 × Int32 × Me) ⊕ ((Int32 × Me))) :=
  if (4 : Int32) ≤ x4 then (some (.inr (x2, M))) else (gd (kd T x0 = 6) <| Option.bind (gR M x0 1) fun a10 => gd (kd T a10 = 13) <| gv x3 (ln T a10) <| Option.bind (fX7_beside (gI M a10 (Int32.toNatClampNeg x3)) x4) fun r13 => if (384 : Int32) ≤ x2 then (lt (x4 + (1 : Int32)) fun v15 => some (.inl (x2, v15, M))) else (Option.bind (fX7_takeFromRest T M x0 r13) <| un2 fun r16 M17 => if r16 = 0 then (lt (x4 + (1 : Int32)) fun v19 => some (.inl (x2, v19, M17))) else (Option.bind (gR M17 x0 1) fun a20 => gd (kd T a20 = 13) <| gv x2 (ln T a20) <| lt (pI M17 a20 (Int32.toNatClampNeg x2) r13) fun M23 => lt (x2 + (1 : Int32)) fun v24 => lt (x4 + (1 : Int32)) fun v25 => some (.inl (v24, v25, M23)))))
def PX7_takeEye_26 (X : Fx) (B : Bx) (Z : Nat × Nat × Nat × Nat) (Q : State → Prop) (T : Sh) (x0 : Nat) (x3 : Int32) (s : Int32 × Int32 × Me) : Prop := G X B 6 Z Q 26 [(0, .ref (x0)), (2, .int (s.1)), (3, .int (x3)), (4, .int (s.2.1))] [] T s.2.2
def EX7_takeEye_26 (X : Fx) (B : Bx) (Z : Nat × Nat × Nat × Nat) (Q : State → Prop) (T : Sh) (x0 : Nat) (x3 : Int32) (r : (Int32 × Me)) : Prop := G X B 6 Z Q 78 [(0, .ref (x0)), (2, .int (r.1)), (3, .int (x3))] [] T r.2
set_option maxHeartbeats 4000000 in
theorem tbX7_takeEye_26 {X : Fx} {B : Bx} {Z : Nat × Nat × Nat × Nat} {Q : State → Prop} {d : Nat} {T : Sh} (C : Cx X B cX7_takeEye 6 RX7 d Z) (hd : 1 ≤ d) {x0 : Nat} {x3 : Int32} : ∀ (s : Int32 × Int32 × Me) (o : (Int32 × Int32 × Me) ⊕ ((Int32 × Me))), bX7_takeEye_26 T x0 x3 s.1 s.2.1 s.2.2 = some o → lpE (PX7_takeEye_26 X B Z Q T x0 x3) (EX7_takeEye_26 X B Z Q T x0 x3) o → PX7_takeEye_26 X B Z Q T x0 x3 s := by
  rintro ⟨x2, x4, M⟩ o h hE
  replace h : bX7_takeEye_26 T x0 x3 x2 x4 M = some o := h
  unfold bX7_takeEye_26 at h
  show G X B 6 Z Q 26 [(0, .ref (x0)), (2, .int (x2)), (3, .int (x3)), (4, .int (x4))] [] T M
  refine g_iload (pc := 26) C dX7_takeEye_26 3 rfl ?_
  refine g_iconst (pc := 28) (v := 4) C dX7_takeEye_28 (by decide) ?_
  refine g_icmp_ge (pc := 29) (tgt := 78) C dX7_takeEye_29 (by decide) (fun c8 => ?_) (fun c8 => ?_)
  · replace h := ifp c8 h
    obtain rfl := Option.some.inj h
    exact g_sub [0, 1, 2] rfl (show G X B 6 Z Q 78 [(0, .ref (x0)), (2, .int (x2)), (3, .int (x3))] [] T M from hE)
  · replace h := ifn c8 h
    refine g_aload_n (pc := 32) C dX7_takeEye_32 rfl 0 rfl ?_
    replace h := gd_some h; obtain ⟨hk9, h⟩ := h
    refine g_get (pc := 33) (v := va_rf (gR M x0 1)) C dX7_takeEye_33 kX7 hk9 1 (by decide) q_316 rfl ?_
    replace h := bnd h; obtain ⟨a10, ea10, h⟩ := h
    refine g_refq ea10 ?_
    refine g_iload_n (pc := 36) C dX7_takeEye_36 rfl 2 rfl ?_
    replace h := gd_some h; obtain ⟨hk11, h⟩ := h
    replace h := gv_some h; obtain ⟨hi12, h⟩ := h
    refine g_iald (pc := 37) C dX7_takeEye_37 hk11 hi12 ?_
    refine g_iload (pc := 38) C dX7_takeEye_38 3 rfl ?_
    replace h := bnd h; obtain ⟨r13, h1, h⟩ := h
    refine g_callSi (pc := 40) (As := [.int (gI M a10 (Int32.toNatClampNeg x3)), .int (x4)]) (st := []) C dX7_takeEye_40 wX7_beside q_1024 q_1023 (by omega) rfl (Nat.le_of_ble_eq_true rfl) (kX7_beside (d := 0) (Nat.le_refl _) h1) ?_
    refine g_istore (pc := 43) (lo2 := [(5, .int (r13)), (0, .ref (x0)), (2, .int (x2)), (3, .int (x3)), (4, .int (x4))]) C dX7_takeEye_43 (by decide) rfl ?_
    refine g_iload_n (pc := 45) C dX7_takeEye_45 rfl 2 rfl ?_
    refine g_sipush (pc := 46) (v := 384) C dX7_takeEye_46 (by decide) ?_
    refine g_icmp_ge (pc := 49) (tgt := 72) C dX7_takeEye_49 (by decide) (fun c14 => ?_) (fun c14 => ?_)
    · replace h := ifp c14 h
      obtain ⟨v15, ev15⟩ : ∃ y : Int32, y = x4 + (1 : Int32) := ⟨_, rfl⟩
      replace h := lt_at ev15 h
      refine g_iinc (pc := 72) (v := v15) (k := 4) (lo2 := [(4, .int (v15)), (5, .int (r13)), (0, .ref (x0)), (2, .int (x2)), (3, .int (x3))]) C dX7_takeEye_72 rfl (by rw [ev15]; rfl) (by decide) rfl ?_
      refine g_goto (pc := 75) (tgt := 26) C dX7_takeEye_75 (by decide) ?_
      obtain rfl := Option.some.inj h
      exact g_sub [2, 3, 4, 0] rfl (show G X B 6 Z Q 26 [(0, .ref (x0)), (2, .int (x2)), (3, .int (x3)), (4, .int (v15))] [] T M from hE)
    · replace h := ifn c14 h
      refine g_aload_n (pc := 52) C dX7_takeEye_52 rfl 1 rfl ?_
      refine g_iload (pc := 53) C dX7_takeEye_53 0 rfl ?_
      replace h := bnd2 h; obtain ⟨r16, M17, h1, h⟩ := h
      refine g_callVi (pc := 55) (As := [.int (r13)]) (st := []) C dX7_takeEye_55 wX7_takeFromRest hk9 rfl (by decide) q_1017 q_40 q_1015 (by omega) rfl (Nat.le_of_ble_eq_true rfl) (kX7_takeFromRest (d := 0) (Nat.le_refl _) h1) ?_
      refine g_if_eq (pc := 58) (tgt := 72) C dX7_takeEye_58 (by decide) (fun c18 => ?_) (fun c18 => ?_)
      · replace h := ifp c18 h
        obtain ⟨v19, ev19⟩ : ∃ y : Int32, y = x4 + (1 : Int32) := ⟨_, rfl⟩
        replace h := lt_at ev19 h
        refine g_iinc (pc := 72) (v := v19) (k := 4) (lo2 := [(4, .int (v19)), (5, .int (r13)), (0, .ref (x0)), (2, .int (x2)), (3, .int (x3))]) C dX7_takeEye_72 rfl (by rw [ev19]; rfl) (by decide) rfl ?_
        refine g_goto (pc := 75) (tgt := 26) C dX7_takeEye_75 (by decide) ?_
        obtain rfl := Option.some.inj h
        exact g_sub [2, 3, 4, 0] rfl (show G X B 6 Z Q 26 [(0, .ref (x0)), (2, .int (x2)), (3, .int (x3)), (4, .int (v19))] [] T M17 from hE)
      · replace h := ifn c18 h
        refine g_aload_n (pc := 61) C dX7_takeEye_61 rfl 1 rfl ?_
        refine g_get (pc := 62) (v := va_rf (gR M17 x0 1)) C dX7_takeEye_62 kX7 hk9 1 (by decide) q_316 rfl ?_
        replace h := bnd h; obtain ⟨a20, ea20, h⟩ := h
        refine g_refq ea20 ?_
        refine g_iload_n (pc := 65) C dX7_takeEye_65 rfl 2 rfl ?_
        refine g_iload (pc := 66) C dX7_takeEye_66 0 rfl ?_
        replace h := gd_some h; obtain ⟨hk21, h⟩ := h
        replace h := gv_some h; obtain ⟨hi22, h⟩ := h
        refine g_iast (pc := 68) C dX7_takeEye_68 hk21 hi22 ?_
        refine g_mem (fun M23 eM23 => ?_)
        replace h := lt_at eM23 h
        obtain ⟨v24, ev24⟩ : ∃ y : Int32, y = x2 + (1 : Int32) := ⟨_, rfl⟩
        replace h := lt_at ev24 h
        refine g_iinc (pc := 69) (v := v24) (k := 2) (lo2 := [(2, .int (v24)), (5, .int (r13)), (0, .ref (x0)), (3, .int (x3)), (4, .int (x4))]) C dX7_takeEye_69 rfl (by rw [ev24]; rfl) (by decide) rfl ?_
        obtain ⟨v25, ev25⟩ : ∃ y : Int32, y = x4 + (1 : Int32) := ⟨_, rfl⟩
        replace h := lt_at ev25 h
        refine g_iinc (pc := 72) (v := v25) (k := 4) (lo2 := [(4, .int (v25)), (2, .int (v24)), (5, .int (r13)), (0, .ref (x0)), (3, .int (x3))]) C dX7_takeEye_72 rfl (by rw [ev25]; rfl) (by decide) rfl ?_
        refine g_goto (pc := 75) (tgt := 26) C dX7_takeEye_75 (by decide) ?_
        obtain rfl := Option.some.inj h
        exact g_sub [3, 1, 4, 0] rfl (show G X B 6 Z Q 26 [(0, .ref (x0)), (2, .int (v24)), (3, .int (x3)), (4, .int (v25))] [] T M23 from hE)
def bX7_takeEye_11 (T : Sh) (x0 : Nat) (x2 : Int32) (x3 : Int32) (M : Me) : Option ((Int32 × Int32 × Me) ⊕ ((Int32 × Me))) :=
  if (384 : Int32) ≤ x3 then (some (.inr (x2, M))) else (if x2 ≤ x3 then (some (.inr (x2, M))) else ((lp FU (fun s => bX7_takeEye_26 T x0 x3 s.1 s.2.1 s.2.2) (x2, (0 : Int32), M)).bind (un2 fun x2_26 M27 => lt (x3 + (1 : Int32)) fun v28 => some (.inl (x2_26, v28, M27)))))
def PX7_takeEye_11 (X : Fx) (B : Bx) (Z : Nat × Nat × Nat × Nat) (Q : State → Prop) (T : Sh) (x0 : Nat) (s : Int32 × Int32 × Me) : Prop := G X B 6 Z Q 11 [(0, .ref (x0)), (2, .int (s.1)), (3, .int (s.2.1))] [] T s.2.2
def EX7_takeEye_11 (X : Fx) (B : Bx) (Z : Nat × Nat × Nat × Nat) (Q : State → Prop) (T : Sh) (x0 : Nat) (r : (Int32 × Me)) : Prop := G X B 6 Z Q 84 [(2, .int (r.1))] [] T r.2
set_option maxHeartbeats 4000000 in
theorem tbX7_takeEye_11 {X : Fx} {B : Bx} {Z : Nat × Nat × Nat × Nat} {Q : State → Prop} {d : Nat} {T : Sh} (C : Cx X B cX7_takeEye 6 RX7 d Z) (hd : 1 ≤ d) {x0 : Nat} : ∀ (s : Int32 × Int32 × Me) (o : (Int32 × Int32 × Me) ⊕ ((Int32 × Me))), bX7_takeEye_11 T x0 s.1 s.2.1 s.2.2 = some o → lpE (PX7_takeEye_11 X B Z Q T x0) (EX7_takeEye_11 X B Z Q T x0) o → PX7_takeEye_11 X B Z Q T x0 s := by
  rintro ⟨x2, x3, M⟩ o h hE
  replace h : bX7_takeEye_11 T x0 x2 x3 M = some o := h
  unfold bX7_takeEye_11 at h
  show G X B 6 Z Q 11 [(0, .ref (x0)), (2, .int (x2)), (3, .int (x3))] [] T M
  refine g_iload_n (pc := 11) C dX7_takeEye_11 rfl 2 rfl ?_
  refine g_sipush (pc := 12) (v := 384) C dX7_takeEye_12 (by decide) ?_
  refine g_icmp_ge (pc := 15) (tgt := 84) C dX7_takeEye_15 (by decide) (fun c6 => ?_) (fun c6 => ?_)
  · replace h := ifp c6 h
    obtain rfl := Option.some.inj h
    exact g_sub [1] rfl (show G X B 6 Z Q 84 [(2, .int (x2))] [] T M from hE)
  · replace h := ifn c6 h
    refine g_iload_n (pc := 18) C dX7_takeEye_18 rfl 2 rfl ?_
    refine g_iload_n (pc := 19) C dX7_takeEye_19 rfl 1 rfl ?_
    refine g_icmp_ge (pc := 20) (tgt := 84) C dX7_takeEye_20 (by decide) (fun c7 => ?_) (fun c7 => ?_)
    · replace h := ifp c7 h
      obtain rfl := Option.some.inj h
      exact g_sub [1] rfl (show G X B 6 Z Q 84 [(2, .int (x2))] [] T M from hE)
    · replace h := ifn c7 h
      refine g_iconst (pc := 23) (v := 0) C dX7_takeEye_23 (by decide) ?_
      refine g_istore (pc := 24) (lo2 := [(4, .int ((0 : Int32))), (0, .ref (x0)), (2, .int (x2)), (3, .int (x3))]) C dX7_takeEye_24 (by decide) rfl ?_
      replace h := bnd2 h; obtain ⟨x2_26, M27, h1, h⟩ := h
      refine g_sub [1, 2, 3, 0] rfl ?_
      refine lp_G2 (P := PX7_takeEye_26 X B _ _ T x0 x3) (E := EX7_takeEye_26 X B _ _ T x0 x3) (tbX7_takeEye_26 C hd) h1 ?_
      show G X B 6 _ _ 78 [(0, .ref (x0)), (2, .int (x2_26)), (3, .int (x3))] [] T M27
      obtain ⟨v28, ev28⟩ : ∃ y : Int32, y = x3 + (1 : Int32) := ⟨_, rfl⟩
      replace h := lt_at ev28 h
      refine g_iinc (pc := 78) (v := v28) (k := 2) (lo2 := [(3, .int (v28)), (0, .ref (x0)), (2, .int (x2_26))]) C dX7_takeEye_78 rfl (by rw [ev28]; rfl) (by decide) rfl ?_
      refine g_goto (pc := 81) (tgt := 11) C dX7_takeEye_81 (by decide) ?_
      obtain rfl := Option.some.inj h
      exact g_sub [1, 2, 0] rfl (show G X B 6 Z Q 11 [(0, .ref (x0)), (2, .int (x2_26)), (3, .int (v28))] [] T M27 from hE)
/-- EyeTrainer$Shapes.takeEye(I)I -/
def fX7_takeEye (T : Sh) (M : Me) (x0 : Nat) (x1 : Int32) : Option (Int32 × Me) :=
  gd (kd T x0 = 6) <| Option.bind (gR M x0 1) fun a2 => gd (kd T a2 = 13) <| gv (0 : Int32) (ln T a2) <| lt (pI M a2 (Int32.toNatClampNeg (0 : Int32)) x1) fun M5 => (lp FU (fun s => bX7_takeEye_11 T x0 s.1 s.2.1 s.2.2) ((1 : Int32), (0 : Int32), M5)).bind (un2 fun x2_29 M30 => some (x2_29, M30))
set_option maxHeartbeats 4000000 in
theorem kX7_takeEye {l : Launch} {B : Bx} {d : Nat} (hd : 1 ≤ d) {T : Sh} {M : Me} {x0 : Nat} {x1 : Int32} {r : Int32} {M' : Me} (h : fX7_takeEye T M x0 x1 = some (r, M')) : Kt l B yX7_takeEye cX7_takeEye 6 (some .int) d [.ref (x0), .int (x1)] T M (some (.int r)) T M' := by
  refine kt_of wX7_takeEye (Nat.le_refl _) (Nat.le_refl _) (Nat.le_of_ble_eq_true rfl) (fun X C hR hlx hin => ?_)
  subst hlx
  replace C : Cx X B cX7_takeEye 6 RX7 d (tp T, sl T, tp T, sl T) := C
  unfold fX7_takeEye at h
  show G X B 6 _ _ 0 [(0, .ref (x0)), (1, .int (x1))] [] T M
  refine g_aload_n (pc := 0) C dX7_takeEye_0 rfl 0 rfl ?_
  replace h := gd_some h; obtain ⟨hk1, h⟩ := h
  refine g_get (pc := 1) (v := va_rf (gR M x0 1)) C dX7_takeEye_1 kX7 hk1 1 (by decide) q_316 rfl ?_
  replace h := bnd h; obtain ⟨a2, ea2, h⟩ := h
  refine g_refq ea2 ?_
  refine g_iconst (pc := 4) (v := 0) C dX7_takeEye_4 (by decide) ?_
  refine g_iload_n (pc := 5) C dX7_takeEye_5 rfl 1 rfl ?_
  replace h := gd_some h; obtain ⟨hk3, h⟩ := h
  replace h := gv_some h; obtain ⟨hi4, h⟩ := h
  refine g_iast (pc := 6) C dX7_takeEye_6 hk3 hi4 ?_
  refine g_mem (fun M5 eM5 => ?_)
  replace h := lt_at eM5 h
  refine g_iconst (pc := 7) (v := 1) C dX7_takeEye_7 (by decide) ?_
  refine g_istore_n (pc := 8) (lo2 := [(2, .int ((1 : Int32))), (0, .ref (x0)), (1, .int (x1))]) C dX7_takeEye_8 rfl (by decide) rfl ?_
  refine g_iconst (pc := 9) (v := 0) C dX7_takeEye_9 (by decide) ?_
  refine g_istore_n (pc := 10) (lo2 := [(3, .int ((0 : Int32))), (2, .int ((1 : Int32))), (0, .ref (x0)), (1, .int (x1))]) C dX7_takeEye_10 rfl (by decide) rfl ?_
  replace h := bnd2 h; obtain ⟨x2_29, M30, h1, h⟩ := h
  refine g_sub [2, 1, 0] rfl ?_
  refine lp_G2 (P := PX7_takeEye_11 X B _ _ T x0) (E := EX7_takeEye_11 X B _ _ T x0) (tbX7_takeEye_11 C hd) h1 ?_
  show G X B 6 _ _ 84 [(2, .int (x2_29))] [] T M30
  refine g_iload_n (pc := 84) C dX7_takeEye_84 rfl 0 rfl ?_
  obtain ⟨rfl, rfl⟩ := Prod.mk.inj (Option.some.inj h)
  exact g_iret C hR dX7_takeEye_85
theorem dX7_findEyes_0 : decode cX7_findEyes 0 = .ok (.aload_n 0, 1) := by decide +kernel
theorem dX7_findEyes_1 : decode cX7_findEyes 1 = .ok (.iconst 0, 1) := by decide +kernel
theorem dX7_findEyes_2 : decode cX7_findEyes 2 = .ok (.putfield 88, 3) := by decide +kernel
theorem dX7_findEyes_5 : decode cX7_findEyes 5 = .ok (.aload_n 0, 1) := by decide +kernel
theorem dX7_findEyes_6 : decode cX7_findEyes 6 = .ok (.iconst 0, 1) := by decide +kernel
theorem dX7_findEyes_7 : decode cX7_findEyes 7 = .ok (.putfield 91, 3) := by decide +kernel
theorem dX7_findEyes_10 : decode cX7_findEyes 10 = .ok (.iconst 0, 1) := by decide +kernel
theorem dX7_findEyes_11 : decode cX7_findEyes 11 = .ok (.istore_n 1, 1) := by decide +kernel
theorem dX7_findEyes_12 : decode cX7_findEyes 12 = .ok (.iload_n 1, 1) := by decide +kernel
theorem dX7_findEyes_13 : decode cX7_findEyes 13 = .ok (.bipush 16, 2) := by decide +kernel
theorem dX7_findEyes_15 : decode cX7_findEyes 15 = .ok (.if_icmp .ge 21, 3) := by decide +kernel
theorem dX7_findEyes_18 : decode cX7_findEyes 18 = .ok (.aload_n 0, 1) := by decide +kernel
theorem dX7_findEyes_19 : decode cX7_findEyes 19 = .ok (.getfield 18, 3) := by decide +kernel
theorem dX7_findEyes_22 : decode cX7_findEyes 22 = .ok (.iload_n 1, 1) := by decide +kernel
theorem dX7_findEyes_23 : decode cX7_findEyes 23 = .ok (.aload_n 0, 1) := by decide +kernel
theorem dX7_findEyes_24 : decode cX7_findEyes 24 = .ok (.getfield 11, 3) := by decide +kernel
theorem dX7_findEyes_27 : decode cX7_findEyes 27 = .ok (.iload_n 1, 1) := by decide +kernel
theorem dX7_findEyes_28 : decode cX7_findEyes 28 = .ok (.iaload, 1) := by decide +kernel
theorem dX7_findEyes_29 : decode cX7_findEyes 29 = .ok (.iastore, 1) := by decide +kernel
theorem dX7_findEyes_30 : decode cX7_findEyes 30 = .ok (.iinc 1 1, 3) := by decide +kernel
theorem dX7_findEyes_33 : decode cX7_findEyes 33 = .ok (.goto (-21), 3) := by decide +kernel
theorem dX7_findEyes_36 : decode cX7_findEyes 36 = .ok (.iconst 0, 1) := by decide +kernel
theorem dX7_findEyes_37 : decode cX7_findEyes 37 = .ok (.istore_n 1, 1) := by decide +kernel
theorem dX7_findEyes_38 : decode cX7_findEyes 38 = .ok (.iload_n 1, 1) := by decide +kernel
theorem dX7_findEyes_39 : decode cX7_findEyes 39 = .ok (.sipush 384, 3) := by decide +kernel
theorem dX7_findEyes_42 : decode cX7_findEyes 42 = .ok (.if_icmp .ge 43, 3) := by decide +kernel
theorem dX7_findEyes_45 : decode cX7_findEyes 45 = .ok (.aload_n 0, 1) := by decide +kernel
theorem dX7_findEyes_46 : decode cX7_findEyes 46 = .ok (.iload_n 1, 1) := by decide +kernel
theorem dX7_findEyes_47 : decode cX7_findEyes 47 = .ok (.invokevirtual 94, 3) := by decide +kernel
theorem dX7_findEyes_50 : decode cX7_findEyes 50 = .ok (.ifCond .eq 29, 3) := by decide +kernel
theorem dX7_findEyes_53 : decode cX7_findEyes 53 = .ok (.aload_n 0, 1) := by decide +kernel
theorem dX7_findEyes_54 : decode cX7_findEyes 54 = .ok (.dup, 1) := by decide +kernel
theorem dX7_findEyes_55 : decode cX7_findEyes 55 = .ok (.getfield 88, 3) := by decide +kernel
theorem dX7_findEyes_58 : decode cX7_findEyes 58 = .ok (.iconst 1, 1) := by decide +kernel
theorem dX7_findEyes_59 : decode cX7_findEyes 59 = .ok (.iadd, 1) := by decide +kernel
theorem dX7_findEyes_60 : decode cX7_findEyes 60 = .ok (.putfield 88, 3) := by decide +kernel
theorem dX7_findEyes_63 : decode cX7_findEyes 63 = .ok (.aload_n 0, 1) := by decide +kernel
theorem dX7_findEyes_64 : decode cX7_findEyes 64 = .ok (.aload_n 0, 1) := by decide +kernel
theorem dX7_findEyes_65 : decode cX7_findEyes 65 = .ok (.getfield 91, 3) := by decide +kernel
theorem dX7_findEyes_68 : decode cX7_findEyes 68 = .ok (.aload_n 0, 1) := by decide +kernel
theorem dX7_findEyes_69 : decode cX7_findEyes 69 = .ok (.iload_n 1, 1) := by decide +kernel
theorem dX7_findEyes_70 : decode cX7_findEyes 70 = .ok (.invokevirtual 97, 3) := by decide +kernel
theorem dX7_findEyes_73 : decode cX7_findEyes 73 = .ok (.invokestatic 100, 3) := by decide +kernel
theorem dX7_findEyes_76 : decode cX7_findEyes 76 = .ok (.putfield 91, 3) := by decide +kernel
theorem dX7_findEyes_79 : decode cX7_findEyes 79 = .ok (.iinc 1 1, 3) := by decide +kernel
theorem dX7_findEyes_82 : decode cX7_findEyes 82 = .ok (.goto (-44), 3) := by decide +kernel
theorem dX7_findEyes_85 : decode cX7_findEyes 85 = .ok (.return_, 1) := by decide +kernel
theorem wX7_findEyes : Mw yX7_findEyes cX7_findEyes 2 none 0 := ⟨q_1014, q_126, by decide, ⟨by decide +kernel, by decide +kernel⟩, by decide +kernel, by decide +kernel⟩
-- a loop of EyeTrainer$Shapes.findEyes at 12
def bX7_findEyes_12 (T : Sh) (x0 : Nat) (x1 : Int32) (M : Me) : Option ((Int32 × Me) ⊕ (Me)) :=
  if (16 : Int32) ≤ x1 then (some (.inr M)) else (gd (kd T x0 = 6) <| Option.bind (gR M x0 2) fun a6 => Option.bind (gR M x0 0) fun a7 => gd (kd T a7 = 13) <| gv x1 (ln T a7) <| gd (kd T a6 = 13) <| gv x1 (ln T a6) <| lt (pI M a6 (Int32.toNatClampNeg x1) (gI M a7 (Int32.toNatClampNeg x1))) fun M12 => lt (x1 + (1 : Int32)) fun v13 => some (.inl (v13, M12)))
def PX7_findEyes_12 (X : Fx) (B : Bx) (Z : Nat × Nat × Nat × Nat) (Q : State → Prop) (T : Sh) (x0 : Nat) (s : Int32 × Me) : Prop := G X B 2 Z Q 12 [(0, .ref (x0)), (1, .int (s.1))] [] T s.2
def EX7_findEyes_12 (X : Fx) (B : Bx) (Z : Nat × Nat × Nat × Nat) (Q : State → Prop) (T : Sh) (x0 : Nat) (r : Me) : Prop := G X B 2 Z Q 36 [(0, .ref (x0))] [] T r
set_option maxHeartbeats 4000000 in
theorem tbX7_findEyes_12 {X : Fx} {B : Bx} {Z : Nat × Nat × Nat × Nat} {Q : State → Prop} {d : Nat} {T : Sh} (C : Cx X B cX7_findEyes 2 RX7 d Z) (hd : 2 ≤ d) {x0 : Nat} : ∀ (s : Int32 × Me) (o : (Int32 × Me) ⊕ (Me)), bX7_findEyes_12 T x0 s.1 s.2 = some o → lpE (PX7_findEyes_12 X B Z Q T x0) (EX7_findEyes_12 X B Z Q T x0) o → PX7_findEyes_12 X B Z Q T x0 s := by
  rintro ⟨x1, M⟩ o h hE
  replace h : bX7_findEyes_12 T x0 x1 M = some o := h
  unfold bX7_findEyes_12 at h
  show G X B 2 Z Q 12 [(0, .ref (x0)), (1, .int (x1))] [] T M
  refine g_iload_n (pc := 12) C dX7_findEyes_12 rfl 1 rfl ?_
  refine g_bipush (pc := 13) (v := 16) C dX7_findEyes_13 (by decide) ?_
  refine g_icmp_ge (pc := 15) (tgt := 36) C dX7_findEyes_15 (by decide) (fun c4 => ?_) (fun c4 => ?_)
  · replace h := ifp c4 h
    obtain rfl := Option.some.inj h
    exact g_sub [0] rfl (show G X B 2 Z Q 36 [(0, .ref (x0))] [] T M from hE)
  · replace h := ifn c4 h
    refine g_aload_n (pc := 18) C dX7_findEyes_18 rfl 0 rfl ?_
    replace h := gd_some h; obtain ⟨hk5, h⟩ := h
    refine g_get (pc := 19) (v := va_rf (gR M x0 2)) C dX7_findEyes_19 kX7 hk5 2 (by decide) q_318 rfl ?_
    replace h := bnd h; obtain ⟨a6, ea6, h⟩ := h
    refine g_refq ea6 ?_
    refine g_iload_n (pc := 22) C dX7_findEyes_22 rfl 1 rfl ?_
    refine g_aload_n (pc := 23) C dX7_findEyes_23 rfl 0 rfl ?_
    refine g_get (pc := 24) (v := va_rf (gR M x0 0)) C dX7_findEyes_24 kX7 hk5 0 (by decide) q_314 rfl ?_
    replace h := bnd h; obtain ⟨a7, ea7, h⟩ := h
    refine g_refq ea7 ?_
    refine g_iload_n (pc := 27) C dX7_findEyes_27 rfl 1 rfl ?_
    replace h := gd_some h; obtain ⟨hk8, h⟩ := h
    replace h := gv_some h; obtain ⟨hi9, h⟩ := h
    refine g_iald (pc := 28) C dX7_findEyes_28 hk8 hi9 ?_
    replace h := gd_some h; obtain ⟨hk10, h⟩ := h
    replace h := gv_some h; obtain ⟨hi11, h⟩ := h
    refine g_iast (pc := 29) C dX7_findEyes_29 hk10 hi11 ?_
    refine g_mem (fun M12 eM12 => ?_)
    replace h := lt_at eM12 h
    obtain ⟨v13, ev13⟩ : ∃ y : Int32, y = x1 + (1 : Int32) := ⟨_, rfl⟩
    replace h := lt_at ev13 h
    refine g_iinc (pc := 30) (v := v13) (k := 1) (lo2 := [(1, .int (v13)), (0, .ref (x0))]) C dX7_findEyes_30 rfl (by rw [ev13]; rfl) (by decide) rfl ?_
    refine g_goto (pc := 33) (tgt := 12) C dX7_findEyes_33 (by decide) ?_
    obtain rfl := Option.some.inj h
    exact g_sub [1, 0] rfl (show G X B 2 Z Q 12 [(0, .ref (x0)), (1, .int (v13))] [] T M12 from hE)
-- a loop of EyeTrainer$Shapes.findEyes at 38
def bX7_findEyes_38 (T : Sh) (x0 : Nat) (x1 : Int32) (M : Me) : Option ((Int32 × Me) ⊕ (Me)) :=
  if (384 : Int32) ≤ x1 then (some (.inr M)) else (gd (kd T x0 = 6) <| Option.bind (fX7_takeFromRest T M x0 x1) <| un2 fun r17 M18 => if r17 = 0 then (lt (x1 + (1 : Int32)) fun v20 => some (.inl (v20, M18))) else (lt (pI M18 x0 12 ((gI M18 x0 12) + (1 : Int32))) fun M21 => Option.bind (fX7_takeEye T M21 x0 x1) <| un2 fun r22 M23 => Option.bind (fJ9_max_7cf53 (gI M21 x0 13) r22) fun r24 => lt (pI M23 x0 13 r24) fun M25 => lt (x1 + (1 : Int32)) fun v26 => some (.inl (v26, M25))))
def PX7_findEyes_38 (X : Fx) (B : Bx) (Z : Nat × Nat × Nat × Nat) (Q : State → Prop) (T : Sh) (x0 : Nat) (s : Int32 × Me) : Prop := G X B 2 Z Q 38 [(0, .ref (x0)), (1, .int (s.1))] [] T s.2
def EX7_findEyes_38 (X : Fx) (B : Bx) (Z : Nat × Nat × Nat × Nat) (Q : State → Prop) (T : Sh) (x0 : Nat) (r : Me) : Prop := G X B 2 Z Q 85 [] [] T r
set_option maxHeartbeats 4000000 in
theorem tbX7_findEyes_38 {X : Fx} {B : Bx} {Z : Nat × Nat × Nat × Nat} {Q : State → Prop} {d : Nat} {T : Sh} (C : Cx X B cX7_findEyes 2 RX7 d Z) (hd : 2 ≤ d) {x0 : Nat} : ∀ (s : Int32 × Me) (o : (Int32 × Me) ⊕ (Me)), bX7_findEyes_38 T x0 s.1 s.2 = some o → lpE (PX7_findEyes_38 X B Z Q T x0) (EX7_findEyes_38 X B Z Q T x0) o → PX7_findEyes_38 X B Z Q T x0 s := by
  rintro ⟨x1, M⟩ o h hE
  replace h : bX7_findEyes_38 T x0 x1 M = some o := h
  unfold bX7_findEyes_38 at h
  show G X B 2 Z Q 38 [(0, .ref (x0)), (1, .int (x1))] [] T M
  refine g_iload_n (pc := 38) C dX7_findEyes_38 rfl 1 rfl ?_
  refine g_sipush (pc := 39) (v := 384) C dX7_findEyes_39 (by decide) ?_
  refine g_icmp_ge (pc := 42) (tgt := 85) C dX7_findEyes_42 (by decide) (fun c15 => ?_) (fun c15 => ?_)
  · replace h := ifp c15 h
    obtain rfl := Option.some.inj h
    exact g_sub [] rfl (show G X B 2 Z Q 85 [] [] T M from hE)
  · replace h := ifn c15 h
    refine g_aload_n (pc := 45) C dX7_findEyes_45 rfl 0 rfl ?_
    refine g_iload_n (pc := 46) C dX7_findEyes_46 rfl 1 rfl ?_
    replace h := gd_some h; obtain ⟨hk16, h⟩ := h
    replace h := bnd2 h; obtain ⟨r17, M18, h1, h⟩ := h
    refine g_callVi (pc := 47) (As := [.int (x1)]) (st := []) C dX7_findEyes_47 wX7_takeFromRest hk16 rfl (by decide) q_1017 q_40 q_1015 (by omega) rfl (Nat.le_of_ble_eq_true rfl) (kX7_takeFromRest (d := 0) (Nat.le_refl _) h1) ?_
    refine g_if_eq (pc := 50) (tgt := 79) C dX7_findEyes_50 (by decide) (fun c19 => ?_) (fun c19 => ?_)
    · replace h := ifp c19 h
      obtain ⟨v20, ev20⟩ : ∃ y : Int32, y = x1 + (1 : Int32) := ⟨_, rfl⟩
      replace h := lt_at ev20 h
      refine g_iinc (pc := 79) (v := v20) (k := 1) (lo2 := [(1, .int (v20)), (0, .ref (x0))]) C dX7_findEyes_79 rfl (by rw [ev20]; rfl) (by decide) rfl ?_
      refine g_goto (pc := 82) (tgt := 38) C dX7_findEyes_82 (by decide) ?_
      obtain rfl := Option.some.inj h
      exact g_sub [1, 0] rfl (show G X B 2 Z Q 38 [(0, .ref (x0)), (1, .int (v20))] [] T M18 from hE)
    · replace h := ifn c19 h
      refine g_aload_n (pc := 53) C dX7_findEyes_53 rfl 0 rfl ?_
      refine g_dup (pc := 54) C dX7_findEyes_54 rfl ?_
      refine g_get (pc := 55) (v := .int (gI M18 x0 12)) C dX7_findEyes_55 kX7 hk16 12 (by decide) q_335 rfl ?_
      refine g_iconst (pc := 58) (v := 1) C dX7_findEyes_58 (by decide) ?_
      refine g_iadd (pc := 59) C dX7_findEyes_59 ?_
      refine g_putI (pc := 60) C dX7_findEyes_60 kX7 hk16 12 (by decide) rfl rfl rfl q_335 ?_
      refine g_mem (fun M21 eM21 => ?_)
      replace h := lt_at eM21 h
      refine g_aload_n (pc := 63) C dX7_findEyes_63 rfl 0 rfl ?_
      refine g_aload_n (pc := 64) C dX7_findEyes_64 rfl 0 rfl ?_
      refine g_get (pc := 65) (v := .int (gI M21 x0 13)) C dX7_findEyes_65 kX7 hk16 13 (by decide) q_337 rfl ?_
      refine g_aload_n (pc := 68) C dX7_findEyes_68 rfl 0 rfl ?_
      refine g_iload_n (pc := 69) C dX7_findEyes_69 rfl 1 rfl ?_
      replace h := bnd2 h; obtain ⟨r22, M23, h1, h⟩ := h
      refine g_callVi (pc := 70) (As := [.int (x1)]) (st := [.int (gI M21 x0 13), .ref (x0)]) C dX7_findEyes_70 wX7_takeEye hk16 rfl (by decide) q_1021 q_41 q_1019 (by omega) rfl (Nat.le_of_ble_eq_true rfl) (kX7_takeEye (d := 1) (Nat.le_refl _) h1) ?_
      replace h := bnd h; obtain ⟨r24, h1, h⟩ := h
      refine g_callSi (pc := 73) (As := [.int (gI M21 x0 13), .int (r22)]) (st := [.ref (x0)]) C dX7_findEyes_73 wJ9_max_7cf53 q_606 q_1026 (by omega) rfl (Nat.le_of_ble_eq_true rfl) (kJ9_max_7cf53 (d := 0) (Nat.le_refl _) h1) ?_
      refine g_putI (pc := 76) C dX7_findEyes_76 kX7 hk16 13 (by decide) rfl rfl rfl q_337 ?_
      refine g_mem (fun M25 eM25 => ?_)
      replace h := lt_at eM25 h
      obtain ⟨v26, ev26⟩ : ∃ y : Int32, y = x1 + (1 : Int32) := ⟨_, rfl⟩
      replace h := lt_at ev26 h
      refine g_iinc (pc := 79) (v := v26) (k := 1) (lo2 := [(1, .int (v26)), (0, .ref (x0))]) C dX7_findEyes_79 rfl (by rw [ev26]; rfl) (by decide) rfl ?_
      refine g_goto (pc := 82) (tgt := 38) C dX7_findEyes_82 (by decide) ?_
      obtain rfl := Option.some.inj h
      exact g_sub [1, 0] rfl (show G X B 2 Z Q 38 [(0, .ref (x0)), (1, .int (v26))] [] T M25 from hE)
/-- EyeTrainer$Shapes.findEyes()V -/
def fX7_findEyes (T : Sh) (M : Me) (x0 : Nat) : Option (Unit × Me) :=
  gd (kd T x0 = 6) <| lt (pI M x0 12 (0 : Int32)) fun M2 => lt (pI M2 x0 13 (0 : Int32)) fun M3 => (lp FU (fun s => bX7_findEyes_12 T x0 s.1 s.2) ((0 : Int32), M3)).bind (fun M14 => (lp FU (fun s => bX7_findEyes_38 T x0 s.1 s.2) ((0 : Int32), M14)).bind (fun M27 => some ((), M27)))
set_option maxHeartbeats 4000000 in
theorem kX7_findEyes {l : Launch} {B : Bx} {d : Nat} (hd : 2 ≤ d) {T : Sh} {M : Me} {x0 : Nat} {M' : Me} (h : fX7_findEyes T M x0 = some ((), M')) : Kt l B yX7_findEyes cX7_findEyes 2 none d [.ref (x0)] T M none T M' := by
  refine kt_of wX7_findEyes (Nat.le_refl _) (Nat.le_refl _) (Nat.le_of_ble_eq_true rfl) (fun X C hR hlx hin => ?_)
  subst hlx
  replace C : Cx X B cX7_findEyes 2 RX7 d (tp T, sl T, tp T, sl T) := C
  unfold fX7_findEyes at h
  show G X B 2 _ _ 0 [(0, .ref (x0))] [] T M
  refine g_aload_n (pc := 0) C dX7_findEyes_0 rfl 0 rfl ?_
  refine g_iconst (pc := 1) (v := 0) C dX7_findEyes_1 (by decide) ?_
  replace h := gd_some h; obtain ⟨hk1, h⟩ := h
  refine g_putI (pc := 2) C dX7_findEyes_2 kX7 hk1 12 (by decide) rfl rfl rfl q_335 ?_
  refine g_mem (fun M2 eM2 => ?_)
  replace h := lt_at eM2 h
  refine g_aload_n (pc := 5) C dX7_findEyes_5 rfl 0 rfl ?_
  refine g_iconst (pc := 6) (v := 0) C dX7_findEyes_6 (by decide) ?_
  refine g_putI (pc := 7) C dX7_findEyes_7 kX7 hk1 13 (by decide) rfl rfl rfl q_337 ?_
  refine g_mem (fun M3 eM3 => ?_)
  replace h := lt_at eM3 h
  refine g_iconst (pc := 10) (v := 0) C dX7_findEyes_10 (by decide) ?_
  refine g_istore_n (pc := 11) (lo2 := [(1, .int ((0 : Int32))), (0, .ref (x0))]) C dX7_findEyes_11 rfl (by decide) rfl ?_
  replace h := bnd h; obtain ⟨M14, h1, h⟩ := h
  refine g_sub [1, 0] rfl ?_
  refine lp_G2 (P := PX7_findEyes_12 X B _ _ T x0) (E := EX7_findEyes_12 X B _ _ T x0) (tbX7_findEyes_12 C hd) h1 ?_
  show G X B 2 _ _ 36 [(0, .ref (x0))] [] T M14
  refine g_iconst (pc := 36) (v := 0) C dX7_findEyes_36 (by decide) ?_
  refine g_istore_n (pc := 37) (lo2 := [(1, .int ((0 : Int32))), (0, .ref (x0))]) C dX7_findEyes_37 rfl (by decide) rfl ?_
  replace h := bnd h; obtain ⟨M27, h1, h⟩ := h
  refine g_sub [1, 0] rfl ?_
  refine lp_G2 (P := PX7_findEyes_38 X B _ _ T x0) (E := EX7_findEyes_38 X B _ _ T x0) (tbX7_findEyes_38 C hd) h1 ?_
  show G X B 2 _ _ 85 [] [] T M27
  obtain ⟨-, rfl⟩ := Prod.mk.inj (Option.some.inj h)
  exact g_vret C hR dX7_findEyes_85
theorem dX7_stepsFrom_0 : decode cX7_stepsFrom 0 = .ok (.iload_n 1, 1) := by decide +kernel
theorem dX7_stepsFrom_1 : decode cX7_stepsFrom 1 = .ok (.iload_n 2, 1) := by decide +kernel
theorem dX7_stepsFrom_2 : decode cX7_stepsFrom 2 = .ok (.invokestatic 85, 3) := by decide +kernel
theorem dX7_stepsFrom_5 : decode cX7_stepsFrom 5 = .ok (.istore_n 3, 1) := by decide +kernel
theorem dX7_stepsFrom_6 : decode cX7_stepsFrom 6 = .ok (.iload_n 3, 1) := by decide +kernel
theorem dX7_stepsFrom_7 : decode cX7_stepsFrom 7 = .ok (.iconst (-1), 1) := by decide +kernel
theorem dX7_stepsFrom_8 : decode cX7_stepsFrom 8 = .ok (.if_icmp .ne 8, 3) := by decide +kernel
theorem dX7_stepsFrom_11 : decode cX7_stepsFrom 11 = .ok (.bipush 99, 2) := by decide +kernel
theorem dX7_stepsFrom_13 : decode cX7_stepsFrom 13 = .ok (.goto 11, 3) := by decide +kernel
theorem dX7_stepsFrom_16 : decode cX7_stepsFrom 16 = .ok (.aload_n 0, 1) := by decide +kernel
theorem dX7_stepsFrom_17 : decode cX7_stepsFrom 17 = .ok (.getfield 15, 3) := by decide +kernel
theorem dX7_stepsFrom_20 : decode cX7_stepsFrom 20 = .ok (.iload_n 3, 1) := by decide +kernel
theorem dX7_stepsFrom_21 : decode cX7_stepsFrom 21 = .ok (.iaload, 1) := by decide +kernel
theorem dX7_stepsFrom_22 : decode cX7_stepsFrom 22 = .ok (.iconst 1, 1) := by decide +kernel
theorem dX7_stepsFrom_23 : decode cX7_stepsFrom 23 = .ok (.iadd, 1) := by decide +kernel
theorem dX7_stepsFrom_24 : decode cX7_stepsFrom 24 = .ok (.ireturn, 1) := by decide +kernel
theorem wX7_stepsFrom : Mw yX7_stepsFrom cX7_stepsFrom 4 (some .int) 2 := ⟨q_1102, q_126, by decide, ⟨by decide +kernel, by decide +kernel⟩, by decide +kernel, by decide +kernel⟩
/-- EyeTrainer$Shapes.stepsFrom(II)I -/
def fX7_stepsFrom (T : Sh) (M : Me) (x0 : Nat) (x1 : Int32) (x2 : Int32) : Option (Int32) :=
  Option.bind (fX7_beside x1 x2) fun r1 => if r1 = (-1 : Int32) then (some (99 : Int32)) else (gd (kd T x0 = 6) <| Option.bind (gR M x0 1) fun a4 => gd (kd T a4 = 13) <| gv r1 (ln T a4) <| some ((gI M a4 (Int32.toNatClampNeg r1)) + (1 : Int32)))
set_option maxHeartbeats 4000000 in
theorem kX7_stepsFrom {l : Launch} {B : Bx} {d : Nat} (hd : 1 ≤ d) {T : Sh} {M : Me} {x0 : Nat} {x1 : Int32} {x2 : Int32} {r : Int32} (h : fX7_stepsFrom T M x0 x1 x2 = some r) : Kt l B yX7_stepsFrom cX7_stepsFrom 4 (some .int) d [.ref (x0), .int (x1), .int (x2)] T M (some (.int r)) T M := by
  refine kt_of wX7_stepsFrom (Nat.le_refl _) (Nat.le_refl _) (Nat.le_of_ble_eq_true rfl) (fun X C hR hlx hin => ?_)
  subst hlx
  replace C : Cx X B cX7_stepsFrom 4 RX7 d (tp T, sl T, tp T, sl T) := C
  unfold fX7_stepsFrom at h
  show G X B 4 _ _ 0 [(0, .ref (x0)), (1, .int (x1)), (2, .int (x2))] [] T M
  refine g_iload_n (pc := 0) C dX7_stepsFrom_0 rfl 1 rfl ?_
  refine g_iload_n (pc := 1) C dX7_stepsFrom_1 rfl 2 rfl ?_
  replace h := bnd h; obtain ⟨r1, h1, h⟩ := h
  refine g_callSi (pc := 2) (As := [.int (x1), .int (x2)]) (st := []) C dX7_stepsFrom_2 wX7_beside q_1024 q_1023 (by omega) rfl (Nat.le_of_ble_eq_true rfl) (kX7_beside (d := 0) (Nat.le_refl _) h1) ?_
  refine g_istore_n (pc := 5) (lo2 := [(3, .int (r1)), (0, .ref (x0)), (1, .int (x1)), (2, .int (x2))]) C dX7_stepsFrom_5 rfl (by decide) rfl ?_
  refine g_iload_n (pc := 6) C dX7_stepsFrom_6 rfl 0 rfl ?_
  refine g_iconst (pc := 7) (v := (-1)) C dX7_stepsFrom_7 (by decide) ?_
  refine g_icmp_ne (pc := 8) (tgt := 16) C dX7_stepsFrom_8 (by decide) (fun c2 => ?_) (fun c2 => ?_)
  · replace h := ifn c2 h
    refine g_aload_n (pc := 16) C dX7_stepsFrom_16 rfl 1 rfl ?_
    replace h := gd_some h; obtain ⟨hk3, h⟩ := h
    refine g_get (pc := 17) (v := va_rf (gR M x0 1)) C dX7_stepsFrom_17 kX7 hk3 1 (by decide) q_316 rfl ?_
    replace h := bnd h; obtain ⟨a4, ea4, h⟩ := h
    refine g_refq ea4 ?_
    refine g_iload_n (pc := 20) C dX7_stepsFrom_20 rfl 0 rfl ?_
    replace h := gd_some h; obtain ⟨hk5, h⟩ := h
    replace h := gv_some h; obtain ⟨hi6, h⟩ := h
    refine g_iald (pc := 21) C dX7_stepsFrom_21 hk5 hi6 ?_
    refine g_iconst (pc := 22) (v := 1) C dX7_stepsFrom_22 (by decide) ?_
    refine g_iadd (pc := 23) C dX7_stepsFrom_23 ?_
    obtain rfl := Option.some.inj h
    exact g_iret C hR dX7_stepsFrom_24
  · replace h := ifp c2 h
    refine g_bipush (pc := 11) (v := 99) C dX7_stepsFrom_11 (by decide) ?_
    refine g_goto (pc := 13) (tgt := 24) C dX7_stepsFrom_13 (by decide) ?_
    obtain rfl := Option.some.inj h
    exact g_iret C hR dX7_stepsFrom_24
theorem dX7_measureSteps_0 : decode cX7_measureSteps 0 = .ok (.iconst 0, 1) := by decide +kernel
theorem dX7_measureSteps_1 : decode cX7_measureSteps 1 = .ok (.istore_n 1, 1) := by decide +kernel
theorem dX7_measureSteps_2 : decode cX7_measureSteps 2 = .ok (.iload_n 1, 1) := by decide +kernel
theorem dX7_measureSteps_3 : decode cX7_measureSteps 3 = .ok (.sipush 384, 3) := by decide +kernel
theorem dX7_measureSteps_6 : decode cX7_measureSteps 6 = .ok (.if_icmp .ge 42, 3) := by decide +kernel
theorem dX7_measureSteps_9 : decode cX7_measureSteps 9 = .ok (.aload_n 0, 1) := by decide +kernel
theorem dX7_measureSteps_10 : decode cX7_measureSteps 10 = .ok (.getfield 15, 3) := by decide +kernel
theorem dX7_measureSteps_13 : decode cX7_measureSteps 13 = .ok (.iload_n 1, 1) := by decide +kernel
theorem dX7_measureSteps_14 : decode cX7_measureSteps 14 = .ok (.aload_n 0, 1) := by decide +kernel
theorem dX7_measureSteps_15 : decode cX7_measureSteps 15 = .ok (.iload_n 1, 1) := by decide +kernel
theorem dX7_measureSteps_16 : decode cX7_measureSteps 16 = .ok (.invokevirtual 70, 3) := by decide +kernel
theorem dX7_measureSteps_19 : decode cX7_measureSteps 19 = .ok (.ifCond .eq 7, 3) := by decide +kernel
theorem dX7_measureSteps_22 : decode cX7_measureSteps 22 = .ok (.iconst 0, 1) := by decide +kernel
theorem dX7_measureSteps_23 : decode cX7_measureSteps 23 = .ok (.goto 18, 3) := by decide +kernel
theorem dX7_measureSteps_26 : decode cX7_measureSteps 26 = .ok (.aload_n 0, 1) := by decide +kernel
theorem dX7_measureSteps_27 : decode cX7_measureSteps 27 = .ok (.iload_n 1, 1) := by decide +kernel
theorem dX7_measureSteps_28 : decode cX7_measureSteps 28 = .ok (.iconst 0, 1) := by decide +kernel
theorem dX7_measureSteps_29 : decode cX7_measureSteps 29 = .ok (.invokevirtual 103, 3) := by decide +kernel
theorem dX7_measureSteps_32 : decode cX7_measureSteps 32 = .ok (.aload_n 0, 1) := by decide +kernel
theorem dX7_measureSteps_33 : decode cX7_measureSteps 33 = .ok (.iload_n 1, 1) := by decide +kernel
theorem dX7_measureSteps_34 : decode cX7_measureSteps 34 = .ok (.iconst 2, 1) := by decide +kernel
theorem dX7_measureSteps_35 : decode cX7_measureSteps 35 = .ok (.invokevirtual 103, 3) := by decide +kernel
theorem dX7_measureSteps_38 : decode cX7_measureSteps 38 = .ok (.invokestatic 77, 3) := by decide +kernel
theorem dX7_measureSteps_41 : decode cX7_measureSteps 41 = .ok (.iastore, 1) := by decide +kernel
theorem dX7_measureSteps_42 : decode cX7_measureSteps 42 = .ok (.iinc 1 1, 3) := by decide +kernel
theorem dX7_measureSteps_45 : decode cX7_measureSteps 45 = .ok (.goto (-43), 3) := by decide +kernel
theorem dX7_measureSteps_48 : decode cX7_measureSteps 48 = .ok (.sipush 383, 3) := by decide +kernel
theorem dX7_measureSteps_51 : decode cX7_measureSteps 51 = .ok (.istore_n 1, 1) := by decide +kernel
theorem dX7_measureSteps_52 : decode cX7_measureSteps 52 = .ok (.iload_n 1, 1) := by decide +kernel
theorem dX7_measureSteps_53 : decode cX7_measureSteps 53 = .ok (.ifCond .lt 41, 3) := by decide +kernel
theorem dX7_measureSteps_56 : decode cX7_measureSteps 56 = .ok (.aload_n 0, 1) := by decide +kernel
theorem dX7_measureSteps_57 : decode cX7_measureSteps 57 = .ok (.iload_n 1, 1) := by decide +kernel
theorem dX7_measureSteps_58 : decode cX7_measureSteps 58 = .ok (.iconst 1, 1) := by decide +kernel
theorem dX7_measureSteps_59 : decode cX7_measureSteps 59 = .ok (.invokevirtual 103, 3) := by decide +kernel
theorem dX7_measureSteps_62 : decode cX7_measureSteps 62 = .ok (.aload_n 0, 1) := by decide +kernel
theorem dX7_measureSteps_63 : decode cX7_measureSteps 63 = .ok (.iload_n 1, 1) := by decide +kernel
theorem dX7_measureSteps_64 : decode cX7_measureSteps 64 = .ok (.iconst 3, 1) := by decide +kernel
theorem dX7_measureSteps_65 : decode cX7_measureSteps 65 = .ok (.invokevirtual 103, 3) := by decide +kernel
theorem dX7_measureSteps_68 : decode cX7_measureSteps 68 = .ok (.invokestatic 77, 3) := by decide +kernel
theorem dX7_measureSteps_71 : decode cX7_measureSteps 71 = .ok (.istore_n 2, 1) := by decide +kernel
theorem dX7_measureSteps_72 : decode cX7_measureSteps 72 = .ok (.aload_n 0, 1) := by decide +kernel
theorem dX7_measureSteps_73 : decode cX7_measureSteps 73 = .ok (.getfield 15, 3) := by decide +kernel
theorem dX7_measureSteps_76 : decode cX7_measureSteps 76 = .ok (.iload_n 1, 1) := by decide +kernel
theorem dX7_measureSteps_77 : decode cX7_measureSteps 77 = .ok (.aload_n 0, 1) := by decide +kernel
theorem dX7_measureSteps_78 : decode cX7_measureSteps 78 = .ok (.getfield 15, 3) := by decide +kernel
theorem dX7_measureSteps_81 : decode cX7_measureSteps 81 = .ok (.iload_n 1, 1) := by decide +kernel
theorem dX7_measureSteps_82 : decode cX7_measureSteps 82 = .ok (.iaload, 1) := by decide +kernel
theorem dX7_measureSteps_83 : decode cX7_measureSteps 83 = .ok (.iload_n 2, 1) := by decide +kernel
theorem dX7_measureSteps_84 : decode cX7_measureSteps 84 = .ok (.invokestatic 77, 3) := by decide +kernel
theorem dX7_measureSteps_87 : decode cX7_measureSteps 87 = .ok (.iastore, 1) := by decide +kernel
theorem dX7_measureSteps_88 : decode cX7_measureSteps 88 = .ok (.iinc 1 (-1), 3) := by decide +kernel
theorem dX7_measureSteps_91 : decode cX7_measureSteps 91 = .ok (.goto (-39), 3) := by decide +kernel
theorem dX7_measureSteps_94 : decode cX7_measureSteps 94 = .ok (.return_, 1) := by decide +kernel
theorem wX7_measureSteps : Mw yX7_measureSteps cX7_measureSteps 3 none 0 := ⟨q_1098, q_126, by decide, ⟨by decide +kernel, by decide +kernel⟩, by decide +kernel, by decide +kernel⟩
-- a loop of EyeTrainer$Shapes.measureSteps at 2
def bX7_measureSteps_2 (T : Sh) (x0 : Nat) (x1 : Int32) (M : Me) : Option ((Int32 × Me) ⊕ (Me)) :=
  if (384 : Int32) ≤ x1 then (some (.inr M)) else (gd (kd T x0 = 6) <| Option.bind (gR M x0 1) fun a3 => Option.bind (fX7_has T M x0 x1) fun r4 => if r4 = 0 then (Option.bind (fX7_stepsFrom T M x0 x1 (0 : Int32)) fun r6 => Option.bind (fX7_stepsFrom T M x0 x1 (2 : Int32)) fun r7 => Option.bind (fJ9_min_7cf53 r6 r7) fun r8 => gd (kd T a3 = 13) <| gv x1 (ln T a3) <| lt (pI M a3 (Int32.toNatClampNeg x1) r8) fun M11 => lt (x1 + (1 : Int32)) fun v12 => some (.inl (v12, M11))) else (gd (kd T a3 = 13) <| gv x1 (ln T a3) <| lt (pI M a3 (Int32.toNatClampNeg x1) (0 : Int32)) fun M15 => lt (x1 + (1 : Int32)) fun v16 => some (.inl (v16, M15))))
def PX7_measureSteps_2 (X : Fx) (B : Bx) (Z : Nat × Nat × Nat × Nat) (Q : State → Prop) (T : Sh) (x0 : Nat) (s : Int32 × Me) : Prop := G X B 3 Z Q 2 [(0, .ref (x0)), (1, .int (s.1))] [] T s.2
def EX7_measureSteps_2 (X : Fx) (B : Bx) (Z : Nat × Nat × Nat × Nat) (Q : State → Prop) (T : Sh) (x0 : Nat) (r : Me) : Prop := G X B 3 Z Q 48 [(0, .ref (x0))] [] T r
set_option maxHeartbeats 4000000 in
theorem tbX7_measureSteps_2 {X : Fx} {B : Bx} {Z : Nat × Nat × Nat × Nat} {Q : State → Prop} {d : Nat} {T : Sh} (C : Cx X B cX7_measureSteps 3 RX7 d Z) (hd : 2 ≤ d) {x0 : Nat} : ∀ (s : Int32 × Me) (o : (Int32 × Me) ⊕ (Me)), bX7_measureSteps_2 T x0 s.1 s.2 = some o → lpE (PX7_measureSteps_2 X B Z Q T x0) (EX7_measureSteps_2 X B Z Q T x0) o → PX7_measureSteps_2 X B Z Q T x0 s := by
  rintro ⟨x1, M⟩ o h hE
  replace h : bX7_measureSteps_2 T x0 x1 M = some o := h
  unfold bX7_measureSteps_2 at h
  show G X B 3 Z Q 2 [(0, .ref (x0)), (1, .int (x1))] [] T M
  refine g_iload_n (pc := 2) C dX7_measureSteps_2 rfl 1 rfl ?_
  refine g_sipush (pc := 3) (v := 384) C dX7_measureSteps_3 (by decide) ?_
  refine g_icmp_ge (pc := 6) (tgt := 48) C dX7_measureSteps_6 (by decide) (fun c1 => ?_) (fun c1 => ?_)
  · replace h := ifp c1 h
    obtain rfl := Option.some.inj h
    exact g_sub [0] rfl (show G X B 3 Z Q 48 [(0, .ref (x0))] [] T M from hE)
  · replace h := ifn c1 h
    refine g_aload_n (pc := 9) C dX7_measureSteps_9 rfl 0 rfl ?_
    replace h := gd_some h; obtain ⟨hk2, h⟩ := h
    refine g_get (pc := 10) (v := va_rf (gR M x0 1)) C dX7_measureSteps_10 kX7 hk2 1 (by decide) q_316 rfl ?_
    replace h := bnd h; obtain ⟨a3, ea3, h⟩ := h
    refine g_refq ea3 ?_
    refine g_iload_n (pc := 13) C dX7_measureSteps_13 rfl 1 rfl ?_
    refine g_aload_n (pc := 14) C dX7_measureSteps_14 rfl 0 rfl ?_
    refine g_iload_n (pc := 15) C dX7_measureSteps_15 rfl 1 rfl ?_
    replace h := bnd h; obtain ⟨r4, h1, h⟩ := h
    refine g_callVi (pc := 16) (As := [.int (x1)]) (st := [.int (x1), .ref (a3)]) C dX7_measureSteps_16 wX7_has hk2 rfl (by decide) q_904 q_30 q_902 (by omega) rfl (Nat.le_of_ble_eq_true rfl) (kX7_has (d := 0) (Nat.le_refl _) h1) ?_
    refine g_if_eq (pc := 19) (tgt := 26) C dX7_measureSteps_19 (by decide) (fun c5 => ?_) (fun c5 => ?_)
    · replace h := ifp c5 h
      refine g_aload_n (pc := 26) C dX7_measureSteps_26 rfl 0 rfl ?_
      refine g_iload_n (pc := 27) C dX7_measureSteps_27 rfl 1 rfl ?_
      refine g_iconst (pc := 28) (v := 0) C dX7_measureSteps_28 (by decide) ?_
      replace h := bnd h; obtain ⟨r6, h1, h⟩ := h
      refine g_callVi (pc := 29) (As := [.int (x1), .int ((0 : Int32))]) (st := [.int (x1), .ref (a3)]) C dX7_measureSteps_29 wX7_stepsFrom hk2 rfl (by decide) q_1101 q_43 q_1099 (by omega) rfl (Nat.le_of_ble_eq_true rfl) (kX7_stepsFrom (d := 1) (Nat.le_refl _) h1) ?_
      refine g_aload_n (pc := 32) C dX7_measureSteps_32 rfl 0 rfl ?_
      refine g_iload_n (pc := 33) C dX7_measureSteps_33 rfl 1 rfl ?_
      refine g_iconst (pc := 34) (v := 2) C dX7_measureSteps_34 (by decide) ?_
      replace h := bnd h; obtain ⟨r7, h1, h⟩ := h
      refine g_callVi (pc := 35) (As := [.int (x1), .int ((2 : Int32))]) (st := [.int (r6), .int (x1), .ref (a3)]) C dX7_measureSteps_35 wX7_stepsFrom hk2 rfl (by decide) q_1101 q_43 q_1099 (by omega) rfl (Nat.le_of_ble_eq_true rfl) (kX7_stepsFrom (d := 1) (Nat.le_refl _) h1) ?_
      replace h := bnd h; obtain ⟨r8, h1, h⟩ := h
      refine g_callSi (pc := 38) (As := [.int (r6), .int (r7)]) (st := [.int (x1), .ref (a3)]) C dX7_measureSteps_38 wJ9_min_7cf53 q_584 q_906 (by omega) rfl (Nat.le_of_ble_eq_true rfl) (kJ9_min_7cf53 (d := 0) (Nat.le_refl _) h1) ?_
      replace h := gd_some h; obtain ⟨hk9, h⟩ := h
      replace h := gv_some h; obtain ⟨hi10, h⟩ := h
      refine g_iast (pc := 41) C dX7_measureSteps_41 hk9 hi10 ?_
      refine g_mem (fun M11 eM11 => ?_)
      replace h := lt_at eM11 h
      obtain ⟨v12, ev12⟩ : ∃ y : Int32, y = x1 + (1 : Int32) := ⟨_, rfl⟩
      replace h := lt_at ev12 h
      refine g_iinc (pc := 42) (v := v12) (k := 1) (lo2 := [(1, .int (v12)), (0, .ref (x0))]) C dX7_measureSteps_42 rfl (by rw [ev12]; rfl) (by decide) rfl ?_
      refine g_goto (pc := 45) (tgt := 2) C dX7_measureSteps_45 (by decide) ?_
      obtain rfl := Option.some.inj h
      exact g_sub [1, 0] rfl (show G X B 3 Z Q 2 [(0, .ref (x0)), (1, .int (v12))] [] T M11 from hE)
    · replace h := ifn c5 h
      refine g_iconst (pc := 22) (v := 0) C dX7_measureSteps_22 (by decide) ?_
      refine g_goto (pc := 23) (tgt := 41) C dX7_measureSteps_23 (by decide) ?_
      replace h := gd_some h; obtain ⟨hk13, h⟩ := h
      replace h := gv_some h; obtain ⟨hi14, h⟩ := h
      refine g_iast (pc := 41) C dX7_measureSteps_41 hk13 hi14 ?_
      refine g_mem (fun M15 eM15 => ?_)
      replace h := lt_at eM15 h
      obtain ⟨v16, ev16⟩ : ∃ y : Int32, y = x1 + (1 : Int32) := ⟨_, rfl⟩
      replace h := lt_at ev16 h
      refine g_iinc (pc := 42) (v := v16) (k := 1) (lo2 := [(1, .int (v16)), (0, .ref (x0))]) C dX7_measureSteps_42 rfl (by rw [ev16]; rfl) (by decide) rfl ?_
      refine g_goto (pc := 45) (tgt := 2) C dX7_measureSteps_45 (by decide) ?_
      obtain rfl := Option.some.inj h
      exact g_sub [1, 0] rfl (show G X B 3 Z Q 2 [(0, .ref (x0)), (1, .int (v16))] [] T M15 from hE)
-- a loop of EyeTrainer$Shapes.measureSteps at 52
def bX7_measureSteps_52 (T : Sh) (x0 : Nat) (x1 : Int32) (M : Me) : Option ((Int32 × Me) ⊕ (Me)) :=
  if x1 < 0 then (some (.inr M)) else (gd (kd T x0 = 6) <| Option.bind (fX7_stepsFrom T M x0 x1 (1 : Int32)) fun r20 => Option.bind (fX7_stepsFrom T M x0 x1 (3 : Int32)) fun r21 => Option.bind (fJ9_min_7cf53 r20 r21) fun r22 => Option.bind (gR M x0 1) fun a23 => Option.bind (gR M x0 1) fun a24 => gd (kd T a24 = 13) <| gv x1 (ln T a24) <| Option.bind (fJ9_min_7cf53 (gI M a24 (Int32.toNatClampNeg x1)) r22) fun r27 => gd (kd T a23 = 13) <| gv x1 (ln T a23) <| lt (pI M a23 (Int32.toNatClampNeg x1) r27) fun M30 => lt (x1 + (-1 : Int32)) fun v31 => some (.inl (v31, M30)))
def PX7_measureSteps_52 (X : Fx) (B : Bx) (Z : Nat × Nat × Nat × Nat) (Q : State → Prop) (T : Sh) (x0 : Nat) (s : Int32 × Me) : Prop := G X B 3 Z Q 52 [(0, .ref (x0)), (1, .int (s.1))] [] T s.2
def EX7_measureSteps_52 (X : Fx) (B : Bx) (Z : Nat × Nat × Nat × Nat) (Q : State → Prop) (T : Sh) (x0 : Nat) (r : Me) : Prop := G X B 3 Z Q 94 [] [] T r
set_option maxHeartbeats 4000000 in
theorem tbX7_measureSteps_52 {X : Fx} {B : Bx} {Z : Nat × Nat × Nat × Nat} {Q : State → Prop} {d : Nat} {T : Sh} (C : Cx X B cX7_measureSteps 3 RX7 d Z) (hd : 2 ≤ d) {x0 : Nat} : ∀ (s : Int32 × Me) (o : (Int32 × Me) ⊕ (Me)), bX7_measureSteps_52 T x0 s.1 s.2 = some o → lpE (PX7_measureSteps_52 X B Z Q T x0) (EX7_measureSteps_52 X B Z Q T x0) o → PX7_measureSteps_52 X B Z Q T x0 s := by
  rintro ⟨x1, M⟩ o h hE
  replace h : bX7_measureSteps_52 T x0 x1 M = some o := h
  unfold bX7_measureSteps_52 at h
  show G X B 3 Z Q 52 [(0, .ref (x0)), (1, .int (x1))] [] T M
  refine g_iload_n (pc := 52) C dX7_measureSteps_52 rfl 1 rfl ?_
  refine g_if_lt (pc := 53) (tgt := 94) C dX7_measureSteps_53 (by decide) (fun c18 => ?_) (fun c18 => ?_)
  · replace h := ifp c18 h
    obtain rfl := Option.some.inj h
    exact g_sub [] rfl (show G X B 3 Z Q 94 [] [] T M from hE)
  · replace h := ifn c18 h
    refine g_aload_n (pc := 56) C dX7_measureSteps_56 rfl 0 rfl ?_
    refine g_iload_n (pc := 57) C dX7_measureSteps_57 rfl 1 rfl ?_
    refine g_iconst (pc := 58) (v := 1) C dX7_measureSteps_58 (by decide) ?_
    replace h := gd_some h; obtain ⟨hk19, h⟩ := h
    replace h := bnd h; obtain ⟨r20, h1, h⟩ := h
    refine g_callVi (pc := 59) (As := [.int (x1), .int ((1 : Int32))]) (st := []) C dX7_measureSteps_59 wX7_stepsFrom hk19 rfl (by decide) q_1101 q_43 q_1099 (by omega) rfl (Nat.le_of_ble_eq_true rfl) (kX7_stepsFrom (d := 1) (Nat.le_refl _) h1) ?_
    refine g_aload_n (pc := 62) C dX7_measureSteps_62 rfl 0 rfl ?_
    refine g_iload_n (pc := 63) C dX7_measureSteps_63 rfl 1 rfl ?_
    refine g_iconst (pc := 64) (v := 3) C dX7_measureSteps_64 (by decide) ?_
    replace h := bnd h; obtain ⟨r21, h1, h⟩ := h
    refine g_callVi (pc := 65) (As := [.int (x1), .int ((3 : Int32))]) (st := [.int (r20)]) C dX7_measureSteps_65 wX7_stepsFrom hk19 rfl (by decide) q_1101 q_43 q_1099 (by omega) rfl (Nat.le_of_ble_eq_true rfl) (kX7_stepsFrom (d := 1) (Nat.le_refl _) h1) ?_
    replace h := bnd h; obtain ⟨r22, h1, h⟩ := h
    refine g_callSi (pc := 68) (As := [.int (r20), .int (r21)]) (st := []) C dX7_measureSteps_68 wJ9_min_7cf53 q_584 q_906 (by omega) rfl (Nat.le_of_ble_eq_true rfl) (kJ9_min_7cf53 (d := 0) (Nat.le_refl _) h1) ?_
    refine g_istore_n (pc := 71) (lo2 := [(2, .int (r22)), (0, .ref (x0)), (1, .int (x1))]) C dX7_measureSteps_71 rfl (by decide) rfl ?_
    refine g_aload_n (pc := 72) C dX7_measureSteps_72 rfl 1 rfl ?_
    refine g_get (pc := 73) (v := va_rf (gR M x0 1)) C dX7_measureSteps_73 kX7 hk19 1 (by decide) q_316 rfl ?_
    replace h := bnd h; obtain ⟨a23, ea23, h⟩ := h
    refine g_refq ea23 ?_
    refine g_iload_n (pc := 76) C dX7_measureSteps_76 rfl 2 rfl ?_
    refine g_aload_n (pc := 77) C dX7_measureSteps_77 rfl 1 rfl ?_
    refine g_get (pc := 78) (v := va_rf (gR M x0 1)) C dX7_measureSteps_78 kX7 hk19 1 (by decide) q_316 rfl ?_
    replace h := bnd h; obtain ⟨a24, ea24, h⟩ := h
    refine g_refq ea24 ?_
    refine g_iload_n (pc := 81) C dX7_measureSteps_81 rfl 2 rfl ?_
    replace h := gd_some h; obtain ⟨hk25, h⟩ := h
    replace h := gv_some h; obtain ⟨hi26, h⟩ := h
    refine g_iald (pc := 82) C dX7_measureSteps_82 hk25 hi26 ?_
    refine g_iload_n (pc := 83) C dX7_measureSteps_83 rfl 0 rfl ?_
    replace h := bnd h; obtain ⟨r27, h1, h⟩ := h
    refine g_callSi (pc := 84) (As := [.int (gI M a24 (Int32.toNatClampNeg x1)), .int (r22)]) (st := [.int (x1), .ref (a23)]) C dX7_measureSteps_84 wJ9_min_7cf53 q_584 q_906 (by omega) rfl (Nat.le_of_ble_eq_true rfl) (kJ9_min_7cf53 (d := 0) (Nat.le_refl _) h1) ?_
    replace h := gd_some h; obtain ⟨hk28, h⟩ := h
    replace h := gv_some h; obtain ⟨hi29, h⟩ := h
    refine g_iast (pc := 87) C dX7_measureSteps_87 hk28 hi29 ?_
    refine g_mem (fun M30 eM30 => ?_)
    replace h := lt_at eM30 h
    obtain ⟨v31, ev31⟩ : ∃ y : Int32, y = x1 + (-1 : Int32) := ⟨_, rfl⟩
    replace h := lt_at ev31 h
    refine g_iinc (pc := 88) (v := v31) (k := 2) (lo2 := [(1, .int (v31)), (2, .int (r22)), (0, .ref (x0))]) C dX7_measureSteps_88 rfl (by rw [ev31]; rfl) (by decide) rfl ?_
    refine g_goto (pc := 91) (tgt := 52) C dX7_measureSteps_91 (by decide) ?_
    obtain rfl := Option.some.inj h
    exact g_sub [2, 0] rfl (show G X B 3 Z Q 52 [(0, .ref (x0)), (1, .int (v31))] [] T M30 from hE)
/-- EyeTrainer$Shapes.measureSteps()V -/
def fX7_measureSteps (T : Sh) (M : Me) (x0 : Nat) : Option (Unit × Me) :=
  (lp FU (fun s => bX7_measureSteps_2 T x0 s.1 s.2) ((0 : Int32), M)).bind (fun M17 => (lp FU (fun s => bX7_measureSteps_52 T x0 s.1 s.2) ((383 : Int32), M17)).bind (fun M32 => some ((), M32)))
set_option maxHeartbeats 4000000 in
theorem kX7_measureSteps {l : Launch} {B : Bx} {d : Nat} (hd : 2 ≤ d) {T : Sh} {M : Me} {x0 : Nat} {M' : Me} (h : fX7_measureSteps T M x0 = some ((), M')) : Kt l B yX7_measureSteps cX7_measureSteps 3 none d [.ref (x0)] T M none T M' := by
  refine kt_of wX7_measureSteps (Nat.le_refl _) (Nat.le_refl _) (Nat.le_of_ble_eq_true rfl) (fun X C hR hlx hin => ?_)
  subst hlx
  replace C : Cx X B cX7_measureSteps 3 RX7 d (tp T, sl T, tp T, sl T) := C
  unfold fX7_measureSteps at h
  show G X B 3 _ _ 0 [(0, .ref (x0))] [] T M
  refine g_iconst (pc := 0) (v := 0) C dX7_measureSteps_0 (by decide) ?_
  refine g_istore_n (pc := 1) (lo2 := [(1, .int ((0 : Int32))), (0, .ref (x0))]) C dX7_measureSteps_1 rfl (by decide) rfl ?_
  replace h := bnd h; obtain ⟨M17, h1, h⟩ := h
  refine g_sub [1, 0] rfl ?_
  refine lp_G2 (P := PX7_measureSteps_2 X B _ _ T x0) (E := EX7_measureSteps_2 X B _ _ T x0) (tbX7_measureSteps_2 C hd) h1 ?_
  show G X B 3 _ _ 48 [(0, .ref (x0))] [] T M17
  refine g_sipush (pc := 48) (v := 383) C dX7_measureSteps_48 (by decide) ?_
  refine g_istore_n (pc := 51) (lo2 := [(1, .int ((383 : Int32))), (0, .ref (x0))]) C dX7_measureSteps_51 rfl (by decide) rfl ?_
  replace h := bnd h; obtain ⟨M32, h1, h⟩ := h
  refine g_sub [1, 0] rfl ?_
  refine lp_G2 (P := PX7_measureSteps_52 X B _ _ T x0) (E := EX7_measureSteps_52 X B _ _ T x0) (tbX7_measureSteps_52 C hd) h1 ?_
  show G X B 3 _ _ 94 [] [] T M32
  obtain ⟨-, rfl⟩ := Prod.mk.inj (Option.some.inj h)
  exact g_vret C hR dX7_measureSteps_94
theorem dX7_nearingStep_0 : decode cX7_nearingStep 0 = .ok (.iconst 0, 1) := by decide +kernel
theorem dX7_nearingStep_1 : decode cX7_nearingStep 1 = .ok (.istore_n 2, 1) := by decide +kernel
theorem dX7_nearingStep_2 : decode cX7_nearingStep 2 = .ok (.iload_n 2, 1) := by decide +kernel
theorem dX7_nearingStep_3 : decode cX7_nearingStep 3 = .ok (.iconst 4, 1) := by decide +kernel
theorem dX7_nearingStep_4 : decode cX7_nearingStep 4 = .ok (.if_icmp .ge 37, 3) := by decide +kernel
theorem dX7_nearingStep_7 : decode cX7_nearingStep 7 = .ok (.iload_n 1, 1) := by decide +kernel
theorem dX7_nearingStep_8 : decode cX7_nearingStep 8 = .ok (.iload_n 2, 1) := by decide +kernel
theorem dX7_nearingStep_9 : decode cX7_nearingStep 9 = .ok (.invokestatic 85, 3) := by decide +kernel
theorem dX7_nearingStep_12 : decode cX7_nearingStep 12 = .ok (.istore_n 3, 1) := by decide +kernel
theorem dX7_nearingStep_13 : decode cX7_nearingStep 13 = .ok (.iload_n 3, 1) := by decide +kernel
theorem dX7_nearingStep_14 : decode cX7_nearingStep 14 = .ok (.iconst (-1), 1) := by decide +kernel
theorem dX7_nearingStep_15 : decode cX7_nearingStep 15 = .ok (.if_icmp .eq 20, 3) := by decide +kernel
theorem dX7_nearingStep_18 : decode cX7_nearingStep 18 = .ok (.aload_n 0, 1) := by decide +kernel
theorem dX7_nearingStep_19 : decode cX7_nearingStep 19 = .ok (.getfield 15, 3) := by decide +kernel
theorem dX7_nearingStep_22 : decode cX7_nearingStep 22 = .ok (.iload_n 3, 1) := by decide +kernel
theorem dX7_nearingStep_23 : decode cX7_nearingStep 23 = .ok (.iaload, 1) := by decide +kernel
theorem dX7_nearingStep_24 : decode cX7_nearingStep 24 = .ok (.aload_n 0, 1) := by decide +kernel
theorem dX7_nearingStep_25 : decode cX7_nearingStep 25 = .ok (.getfield 15, 3) := by decide +kernel
theorem dX7_nearingStep_28 : decode cX7_nearingStep 28 = .ok (.iload_n 1, 1) := by decide +kernel
theorem dX7_nearingStep_29 : decode cX7_nearingStep 29 = .ok (.iaload, 1) := by decide +kernel
theorem dX7_nearingStep_30 : decode cX7_nearingStep 30 = .ok (.if_icmp .ge 5, 3) := by decide +kernel
theorem dX7_nearingStep_33 : decode cX7_nearingStep 33 = .ok (.iload_n 2, 1) := by decide +kernel
theorem dX7_nearingStep_34 : decode cX7_nearingStep 34 = .ok (.ireturn, 1) := by decide +kernel
theorem dX7_nearingStep_35 : decode cX7_nearingStep 35 = .ok (.iinc 2 1, 3) := by decide +kernel
theorem dX7_nearingStep_38 : decode cX7_nearingStep 38 = .ok (.goto (-36), 3) := by decide +kernel
theorem dX7_nearingStep_41 : decode cX7_nearingStep 41 = .ok (.iconst (-1), 1) := by decide +kernel
theorem dX7_nearingStep_42 : decode cX7_nearingStep 42 = .ok (.ireturn, 1) := by decide +kernel
theorem wX7_nearingStep : Mw yX7_nearingStep cX7_nearingStep 4 (some .int) 1 := ⟨q_1114, q_126, by decide, ⟨by decide +kernel, by decide +kernel⟩, by decide +kernel, by decide +kernel⟩
-- a loop of EyeTrainer$Shapes.nearingStep at 2
def bX7_nearingStep_2 (T : Sh) (M : Me) (x0 : Nat) (x1 : Int32) (x2 : Int32) : Option ((Int32) ⊕ (Int32 ⊕ Unit)) :=
  if (4 : Int32) ≤ x2 then (some (.inr (.inr ()))) else (Option.bind (fX7_beside x1 x2) fun r2 => if r2 = (-1 : Int32) then (lt (x2 + (1 : Int32)) fun v4 => some (.inl v4)) else (gd (kd T x0 = 6) <| Option.bind (gR M x0 1) fun a6 => gd (kd T a6 = 13) <| gv r2 (ln T a6) <| Option.bind (gR M x0 1) fun a9 => gd (kd T a9 = 13) <| gv x1 (ln T a9) <| if (gI M a9 (Int32.toNatClampNeg x1)) ≤ (gI M a6 (Int32.toNatClampNeg r2)) then (lt (x2 + (1 : Int32)) fun v13 => some (.inl v13)) else (some (.inr (.inl x2)))))
def PX7_nearingStep_2 (X : Fx) (B : Bx) (Z : Nat × Nat × Nat × Nat) (Q : State → Prop) (T : Sh) (M : Me) (x0 : Nat) (x1 : Int32) (s : Int32) : Prop := G X B 4 Z Q 2 [(0, .ref (x0)), (1, .int (x1)), (2, .int (s))] [] T M
def EX7_nearingStep_2 (X : Fx) (B : Bx) (Z : Nat × Nat × Nat × Nat) (Q : State → Prop) (T : Sh) (M : Me) (x0 : Nat) (x1 : Int32) (r : Int32 ⊕ Unit) : Prop := Sum.elim (fun r => G X B 4 Z Q 33 [(2, .int (r))] [] T M) (fun r => G X B 4 Z Q 41 [] [] T M) r
set_option maxHeartbeats 4000000 in
theorem tbX7_nearingStep_2 {X : Fx} {B : Bx} {Z : Nat × Nat × Nat × Nat} {Q : State → Prop} {d : Nat} {T : Sh} {M : Me} (C : Cx X B cX7_nearingStep 4 RX7 d Z) (hd : 1 ≤ d) {x0 : Nat} {x1 : Int32} : ∀ (s : Int32) (o : (Int32) ⊕ (Int32 ⊕ Unit)), bX7_nearingStep_2 T M x0 x1 s = some o → lpE (PX7_nearingStep_2 X B Z Q T M x0 x1) (EX7_nearingStep_2 X B Z Q T M x0 x1) o → PX7_nearingStep_2 X B Z Q T M x0 x1 s := by
  rintro x2 o h hE
  replace h : bX7_nearingStep_2 T M x0 x1 x2 = some o := h
  unfold bX7_nearingStep_2 at h
  show G X B 4 Z Q 2 [(0, .ref (x0)), (1, .int (x1)), (2, .int (x2))] [] T M
  refine g_iload_n (pc := 2) C dX7_nearingStep_2 rfl 2 rfl ?_
  refine g_iconst (pc := 3) (v := 4) C dX7_nearingStep_3 (by decide) ?_
  refine g_icmp_ge (pc := 4) (tgt := 41) C dX7_nearingStep_4 (by decide) (fun c1 => ?_) (fun c1 => ?_)
  · replace h := ifp c1 h
    obtain rfl := Option.some.inj h
    exact g_sub [] rfl (show G X B 4 Z Q 41 [] [] T M from hE)
  · replace h := ifn c1 h
    refine g_iload_n (pc := 7) C dX7_nearingStep_7 rfl 1 rfl ?_
    refine g_iload_n (pc := 8) C dX7_nearingStep_8 rfl 2 rfl ?_
    replace h := bnd h; obtain ⟨r2, h1, h⟩ := h
    refine g_callSi (pc := 9) (As := [.int (x1), .int (x2)]) (st := []) C dX7_nearingStep_9 wX7_beside q_1024 q_1023 (by omega) rfl (Nat.le_of_ble_eq_true rfl) (kX7_beside (d := 0) (Nat.le_refl _) h1) ?_
    refine g_istore_n (pc := 12) (lo2 := [(3, .int (r2)), (0, .ref (x0)), (1, .int (x1)), (2, .int (x2))]) C dX7_nearingStep_12 rfl (by decide) rfl ?_
    refine g_iload_n (pc := 13) C dX7_nearingStep_13 rfl 0 rfl ?_
    refine g_iconst (pc := 14) (v := (-1)) C dX7_nearingStep_14 (by decide) ?_
    refine g_icmp_eq (pc := 15) (tgt := 35) C dX7_nearingStep_15 (by decide) (fun c3 => ?_) (fun c3 => ?_)
    · replace h := ifp c3 h
      obtain ⟨v4, ev4⟩ : ∃ y : Int32, y = x2 + (1 : Int32) := ⟨_, rfl⟩
      replace h := lt_at ev4 h
      refine g_iinc (pc := 35) (v := v4) (k := 3) (lo2 := [(2, .int (v4)), (3, .int (r2)), (0, .ref (x0)), (1, .int (x1))]) C dX7_nearingStep_35 rfl (by rw [ev4]; rfl) (by decide) rfl ?_
      refine g_goto (pc := 38) (tgt := 2) C dX7_nearingStep_38 (by decide) ?_
      obtain rfl := Option.some.inj h
      exact g_sub [2, 3, 0] rfl (show G X B 4 Z Q 2 [(0, .ref (x0)), (1, .int (x1)), (2, .int (v4))] [] T M from hE)
    · replace h := ifn c3 h
      refine g_aload_n (pc := 18) C dX7_nearingStep_18 rfl 1 rfl ?_
      replace h := gd_some h; obtain ⟨hk5, h⟩ := h
      refine g_get (pc := 19) (v := va_rf (gR M x0 1)) C dX7_nearingStep_19 kX7 hk5 1 (by decide) q_316 rfl ?_
      replace h := bnd h; obtain ⟨a6, ea6, h⟩ := h
      refine g_refq ea6 ?_
      refine g_iload_n (pc := 22) C dX7_nearingStep_22 rfl 0 rfl ?_
      replace h := gd_some h; obtain ⟨hk7, h⟩ := h
      replace h := gv_some h; obtain ⟨hi8, h⟩ := h
      refine g_iald (pc := 23) C dX7_nearingStep_23 hk7 hi8 ?_
      refine g_aload_n (pc := 24) C dX7_nearingStep_24 rfl 1 rfl ?_
      refine g_get (pc := 25) (v := va_rf (gR M x0 1)) C dX7_nearingStep_25 kX7 hk5 1 (by decide) q_316 rfl ?_
      replace h := bnd h; obtain ⟨a9, ea9, h⟩ := h
      refine g_refq ea9 ?_
      refine g_iload_n (pc := 28) C dX7_nearingStep_28 rfl 2 rfl ?_
      replace h := gd_some h; obtain ⟨hk10, h⟩ := h
      replace h := gv_some h; obtain ⟨hi11, h⟩ := h
      refine g_iald (pc := 29) C dX7_nearingStep_29 hk10 hi11 ?_
      refine g_icmp_ge (pc := 30) (tgt := 35) C dX7_nearingStep_30 (by decide) (fun c12 => ?_) (fun c12 => ?_)
      · replace h := ifp c12 h
        obtain ⟨v13, ev13⟩ : ∃ y : Int32, y = x2 + (1 : Int32) := ⟨_, rfl⟩
        replace h := lt_at ev13 h
        refine g_iinc (pc := 35) (v := v13) (k := 3) (lo2 := [(2, .int (v13)), (3, .int (r2)), (0, .ref (x0)), (1, .int (x1))]) C dX7_nearingStep_35 rfl (by rw [ev13]; rfl) (by decide) rfl ?_
        refine g_goto (pc := 38) (tgt := 2) C dX7_nearingStep_38 (by decide) ?_
        obtain rfl := Option.some.inj h
        exact g_sub [2, 3, 0] rfl (show G X B 4 Z Q 2 [(0, .ref (x0)), (1, .int (x1)), (2, .int (v13))] [] T M from hE)
      · replace h := ifn c12 h
        obtain rfl := Option.some.inj h
        exact g_sub [3] rfl (show G X B 4 Z Q 33 [(2, .int (x2))] [] T M from hE)
/-- EyeTrainer$Shapes.nearingStep(I)I -/
def fX7_nearingStep (T : Sh) (M : Me) (x0 : Nat) (x1 : Int32) : Option (Int32) :=
  (lp FU (fun s => bX7_nearingStep_2 T M x0 x1 s) (0 : Int32)).bind (Sum.elim (fun x2_14 => some x2_14) (fun _ => some (-1 : Int32)))
set_option maxHeartbeats 4000000 in
theorem kX7_nearingStep {l : Launch} {B : Bx} {d : Nat} (hd : 1 ≤ d) {T : Sh} {M : Me} {x0 : Nat} {x1 : Int32} {r : Int32} (h : fX7_nearingStep T M x0 x1 = some r) : Kt l B yX7_nearingStep cX7_nearingStep 4 (some .int) d [.ref (x0), .int (x1)] T M (some (.int r)) T M := by
  refine kt_of wX7_nearingStep (Nat.le_refl _) (Nat.le_refl _) (Nat.le_of_ble_eq_true rfl) (fun X C hR hlx hin => ?_)
  subst hlx
  replace C : Cx X B cX7_nearingStep 4 RX7 d (tp T, sl T, tp T, sl T) := C
  unfold fX7_nearingStep at h
  show G X B 4 _ _ 0 [(0, .ref (x0)), (1, .int (x1))] [] T M
  refine g_iconst (pc := 0) (v := 0) C dX7_nearingStep_0 (by decide) ?_
  refine g_istore_n (pc := 1) (lo2 := [(2, .int ((0 : Int32))), (0, .ref (x0)), (1, .int (x1))]) C dX7_nearingStep_1 rfl (by decide) rfl ?_
  replace h := bndE h; rcases h with ⟨x2_14, h1, h⟩ | ⟨a1, h1, h⟩
  · refine g_sub [1, 2, 0] rfl ?_
    refine lp_G2 (P := PX7_nearingStep_2 X B _ _ T M x0 x1) (E := EX7_nearingStep_2 X B _ _ T M x0 x1) (tbX7_nearingStep_2 C hd) h1 ?_
    show G X B 4 _ _ 33 [(2, .int (x2_14))] [] T M
    refine g_iload_n (pc := 33) C dX7_nearingStep_33 rfl 0 rfl ?_
    obtain rfl := Option.some.inj h
    exact g_iret C hR dX7_nearingStep_34
  · refine g_sub [1, 2, 0] rfl ?_
    refine lp_G2 (P := PX7_nearingStep_2 X B _ _ T M x0 x1) (E := EX7_nearingStep_2 X B _ _ T M x0 x1) (tbX7_nearingStep_2 C hd) h1 ?_
    show G X B 4 _ _ 41 [] [] T M
    refine g_iconst (pc := 41) (v := (-1)) C dX7_nearingStep_41 (by decide) ?_
    obtain rfl := Option.some.inj h
    exact g_iret C hR dX7_nearingStep_42
theorem dX7_stepOfWay_0 : decode cX7_stepOfWay 0 = .ok (.iload_n 1, 1) := by decide +kernel
theorem dX7_stepOfWay_1 : decode cX7_stepOfWay 1 = .ok (.istore_n 3, 1) := by decide +kernel
theorem dX7_stepOfWay_2 : decode cX7_stepOfWay 2 = .ok (.iconst 0, 1) := by decide +kernel
theorem dX7_stepOfWay_3 : decode cX7_stepOfWay 3 = .ok (.istore 4, 2) := by decide +kernel
theorem dX7_stepOfWay_5 : decode cX7_stepOfWay 5 = .ok (.iload 4, 2) := by decide +kernel
theorem dX7_stepOfWay_7 : decode cX7_stepOfWay 7 = .ok (.iload_n 2, 1) := by decide +kernel
theorem dX7_stepOfWay_8 : decode cX7_stepOfWay 8 = .ok (.if_icmp .ge 24, 3) := by decide +kernel
theorem dX7_stepOfWay_11 : decode cX7_stepOfWay 11 = .ok (.iload_n 3, 1) := by decide +kernel
theorem dX7_stepOfWay_12 : decode cX7_stepOfWay 12 = .ok (.iconst (-1), 1) := by decide +kernel
theorem dX7_stepOfWay_13 : decode cX7_stepOfWay 13 = .ok (.if_icmp .eq 19, 3) := by decide +kernel
theorem dX7_stepOfWay_16 : decode cX7_stepOfWay 16 = .ok (.iload_n 3, 1) := by decide +kernel
theorem dX7_stepOfWay_17 : decode cX7_stepOfWay 17 = .ok (.aload_n 0, 1) := by decide +kernel
theorem dX7_stepOfWay_18 : decode cX7_stepOfWay 18 = .ok (.iload_n 3, 1) := by decide +kernel
theorem dX7_stepOfWay_19 : decode cX7_stepOfWay 19 = .ok (.invokevirtual 106, 3) := by decide +kernel
theorem dX7_stepOfWay_22 : decode cX7_stepOfWay 22 = .ok (.invokestatic 85, 3) := by decide +kernel
theorem dX7_stepOfWay_25 : decode cX7_stepOfWay 25 = .ok (.istore_n 3, 1) := by decide +kernel
theorem dX7_stepOfWay_26 : decode cX7_stepOfWay 26 = .ok (.iinc 4 1, 3) := by decide +kernel
theorem dX7_stepOfWay_29 : decode cX7_stepOfWay 29 = .ok (.goto (-24), 3) := by decide +kernel
theorem dX7_stepOfWay_32 : decode cX7_stepOfWay 32 = .ok (.iload_n 3, 1) := by decide +kernel
theorem dX7_stepOfWay_33 : decode cX7_stepOfWay 33 = .ok (.iconst (-1), 1) := by decide +kernel
theorem dX7_stepOfWay_34 : decode cX7_stepOfWay 34 = .ok (.if_icmp .ne 7, 3) := by decide +kernel
theorem dX7_stepOfWay_37 : decode cX7_stepOfWay 37 = .ok (.iconst (-1), 1) := by decide +kernel
theorem dX7_stepOfWay_38 : decode cX7_stepOfWay 38 = .ok (.goto 8, 3) := by decide +kernel
theorem dX7_stepOfWay_41 : decode cX7_stepOfWay 41 = .ok (.aload_n 0, 1) := by decide +kernel
theorem dX7_stepOfWay_42 : decode cX7_stepOfWay 42 = .ok (.iload_n 3, 1) := by decide +kernel
theorem dX7_stepOfWay_43 : decode cX7_stepOfWay 43 = .ok (.invokevirtual 106, 3) := by decide +kernel
theorem dX7_stepOfWay_46 : decode cX7_stepOfWay 46 = .ok (.ireturn, 1) := by decide +kernel
theorem wX7_stepOfWay : Mw yX7_stepOfWay cX7_stepOfWay 5 (some .int) 2 := ⟨q_1110, q_126, by decide, ⟨by decide +kernel, by decide +kernel⟩, by decide +kernel, by decide +kernel⟩
-- a loop of EyeTrainer$Shapes.stepOfWay at 5
def bX7_stepOfWay_5 (T : Sh) (M : Me) (x0 : Nat) (x2 : Int32) (x3 : Int32) (x4 : Int32) : Option ((Int32 × Int32) ⊕ (Int32)) :=
  if x2 ≤ x4 then (some (.inr x3)) else (if x3 = (-1 : Int32) then (some (.inr x3)) else (gd (kd T x0 = 6) <| Option.bind (fX7_nearingStep T M x0 x3) fun r4 => Option.bind (fX7_beside x3 r4) fun r5 => lt (x4 + (1 : Int32)) fun v6 => some (.inl (r5, v6))))
def PX7_stepOfWay_5 (X : Fx) (B : Bx) (Z : Nat × Nat × Nat × Nat) (Q : State → Prop) (T : Sh) (M : Me) (x0 : Nat) (x2 : Int32) (s : Int32 × Int32) : Prop := G X B 5 Z Q 5 [(0, .ref (x0)), (2, .int (x2)), (3, .int (s.1)), (4, .int (s.2))] [] T M
def EX7_stepOfWay_5 (X : Fx) (B : Bx) (Z : Nat × Nat × Nat × Nat) (Q : State → Prop) (T : Sh) (M : Me) (x0 : Nat) (x2 : Int32) (r : Int32) : Prop := G X B 5 Z Q 32 [(0, .ref (x0)), (3, .int (r))] [] T M
set_option maxHeartbeats 4000000 in
theorem tbX7_stepOfWay_5 {X : Fx} {B : Bx} {Z : Nat × Nat × Nat × Nat} {Q : State → Prop} {d : Nat} {T : Sh} {M : Me} (C : Cx X B cX7_stepOfWay 5 RX7 d Z) (hd : 2 ≤ d) {x0 : Nat} {x2 : Int32} : ∀ (s : Int32 × Int32) (o : (Int32 × Int32) ⊕ (Int32)), bX7_stepOfWay_5 T M x0 x2 s.1 s.2 = some o → lpE (PX7_stepOfWay_5 X B Z Q T M x0 x2) (EX7_stepOfWay_5 X B Z Q T M x0 x2) o → PX7_stepOfWay_5 X B Z Q T M x0 x2 s := by
  rintro ⟨x3, x4⟩ o h hE
  replace h : bX7_stepOfWay_5 T M x0 x2 x3 x4 = some o := h
  unfold bX7_stepOfWay_5 at h
  show G X B 5 Z Q 5 [(0, .ref (x0)), (2, .int (x2)), (3, .int (x3)), (4, .int (x4))] [] T M
  refine g_iload (pc := 5) C dX7_stepOfWay_5 3 rfl ?_
  refine g_iload_n (pc := 7) C dX7_stepOfWay_7 rfl 1 rfl ?_
  refine g_icmp_ge (pc := 8) (tgt := 32) C dX7_stepOfWay_8 (by decide) (fun c1 => ?_) (fun c1 => ?_)
  · replace h := ifp c1 h
    obtain rfl := Option.some.inj h
    exact g_sub [0, 2] rfl (show G X B 5 Z Q 32 [(0, .ref (x0)), (3, .int (x3))] [] T M from hE)
  · replace h := ifn c1 h
    refine g_iload_n (pc := 11) C dX7_stepOfWay_11 rfl 2 rfl ?_
    refine g_iconst (pc := 12) (v := (-1)) C dX7_stepOfWay_12 (by decide) ?_
    refine g_icmp_eq (pc := 13) (tgt := 32) C dX7_stepOfWay_13 (by decide) (fun c2 => ?_) (fun c2 => ?_)
    · replace h := ifp c2 h
      obtain rfl := Option.some.inj h
      exact g_sub [0, 2] rfl (show G X B 5 Z Q 32 [(0, .ref (x0)), (3, .int (x3))] [] T M from hE)
    · replace h := ifn c2 h
      refine g_iload_n (pc := 16) C dX7_stepOfWay_16 rfl 2 rfl ?_
      refine g_aload_n (pc := 17) C dX7_stepOfWay_17 rfl 0 rfl ?_
      refine g_iload_n (pc := 18) C dX7_stepOfWay_18 rfl 2 rfl ?_
      replace h := gd_some h; obtain ⟨hk3, h⟩ := h
      replace h := bnd h; obtain ⟨r4, h1, h⟩ := h
      refine g_callVi (pc := 19) (As := [.int (x3)]) (st := [.int (x3)]) C dX7_stepOfWay_19 wX7_nearingStep hk3 rfl (by decide) q_1113 q_44 q_1111 (by omega) rfl (Nat.le_of_ble_eq_true rfl) (kX7_nearingStep (d := 1) (Nat.le_refl _) h1) ?_
      replace h := bnd h; obtain ⟨r5, h1, h⟩ := h
      refine g_callSi (pc := 22) (As := [.int (x3), .int (r4)]) (st := []) C dX7_stepOfWay_22 wX7_beside q_1024 q_1023 (by omega) rfl (Nat.le_of_ble_eq_true rfl) (kX7_beside (d := 0) (Nat.le_refl _) h1) ?_
      refine g_istore_n (pc := 25) (lo2 := [(3, .int (r5)), (0, .ref (x0)), (2, .int (x2)), (4, .int (x4))]) C dX7_stepOfWay_25 rfl (by decide) rfl ?_
      obtain ⟨v6, ev6⟩ : ∃ y : Int32, y = x4 + (1 : Int32) := ⟨_, rfl⟩
      replace h := lt_at ev6 h
      refine g_iinc (pc := 26) (v := v6) (k := 3) (lo2 := [(4, .int (v6)), (3, .int (r5)), (0, .ref (x0)), (2, .int (x2))]) C dX7_stepOfWay_26 rfl (by rw [ev6]; rfl) (by decide) rfl ?_
      refine g_goto (pc := 29) (tgt := 5) C dX7_stepOfWay_29 (by decide) ?_
      obtain rfl := Option.some.inj h
      exact g_sub [2, 3, 1, 0] rfl (show G X B 5 Z Q 5 [(0, .ref (x0)), (2, .int (x2)), (3, .int (r5)), (4, .int (v6))] [] T M from hE)
/-- EyeTrainer$Shapes.stepOfWay(II)I -/
def fX7_stepOfWay (T : Sh) (M : Me) (x0 : Nat) (x1 : Int32) (x2 : Int32) : Option (Int32) :=
  (lp FU (fun s => bX7_stepOfWay_5 T M x0 x2 s.1 s.2) (x1, (0 : Int32))).bind (fun x3_7 => if x3_7 = (-1 : Int32) then (some (-1 : Int32)) else (gd (kd T x0 = 6) <| Option.bind (fX7_nearingStep T M x0 x3_7) fun r10 => some r10))
set_option maxHeartbeats 4000000 in
theorem kX7_stepOfWay {l : Launch} {B : Bx} {d : Nat} (hd : 2 ≤ d) {T : Sh} {M : Me} {x0 : Nat} {x1 : Int32} {x2 : Int32} {r : Int32} (h : fX7_stepOfWay T M x0 x1 x2 = some r) : Kt l B yX7_stepOfWay cX7_stepOfWay 5 (some .int) d [.ref (x0), .int (x1), .int (x2)] T M (some (.int r)) T M := by
  refine kt_of wX7_stepOfWay (Nat.le_refl _) (Nat.le_refl _) (Nat.le_of_ble_eq_true rfl) (fun X C hR hlx hin => ?_)
  subst hlx
  replace C : Cx X B cX7_stepOfWay 5 RX7 d (tp T, sl T, tp T, sl T) := C
  unfold fX7_stepOfWay at h
  show G X B 5 _ _ 0 [(0, .ref (x0)), (1, .int (x1)), (2, .int (x2))] [] T M
  refine g_iload_n (pc := 0) C dX7_stepOfWay_0 rfl 1 rfl ?_
  refine g_istore_n (pc := 1) (lo2 := [(3, .int (x1)), (0, .ref (x0)), (1, .int (x1)), (2, .int (x2))]) C dX7_stepOfWay_1 rfl (by decide) rfl ?_
  refine g_iconst (pc := 2) (v := 0) C dX7_stepOfWay_2 (by decide) ?_
  refine g_istore (pc := 3) (lo2 := [(4, .int ((0 : Int32))), (3, .int (x1)), (0, .ref (x0)), (1, .int (x1)), (2, .int (x2))]) C dX7_stepOfWay_3 (by decide) rfl ?_
  replace h := bnd h; obtain ⟨x3_7, h1, h⟩ := h
  refine g_sub [2, 4, 1, 0] rfl ?_
  refine lp_G2 (P := PX7_stepOfWay_5 X B _ _ T M x0 x2) (E := EX7_stepOfWay_5 X B _ _ T M x0 x2) (tbX7_stepOfWay_5 C hd) h1 ?_
  show G X B 5 _ _ 32 [(0, .ref (x0)), (3, .int (x3_7))] [] T M
  refine g_iload_n (pc := 32) C dX7_stepOfWay_32 rfl 1 rfl ?_
  refine g_iconst (pc := 33) (v := (-1)) C dX7_stepOfWay_33 (by decide) ?_
  refine g_icmp_ne (pc := 34) (tgt := 41) C dX7_stepOfWay_34 (by decide) (fun c8 => ?_) (fun c8 => ?_)
  · replace h := ifn c8 h
    refine g_aload_n (pc := 41) C dX7_stepOfWay_41 rfl 0 rfl ?_
    refine g_iload_n (pc := 42) C dX7_stepOfWay_42 rfl 1 rfl ?_
    replace h := gd_some h; obtain ⟨hk9, h⟩ := h
    replace h := bnd h; obtain ⟨r10, h1, h⟩ := h
    refine g_callVi (pc := 43) (As := [.int (x3_7)]) (st := []) C dX7_stepOfWay_43 wX7_nearingStep hk9 rfl (by decide) q_1113 q_44 q_1111 (by omega) rfl (Nat.le_of_ble_eq_true rfl) (kX7_nearingStep (d := 1) (Nat.le_refl _) h1) ?_
    obtain rfl := Option.some.inj h
    exact g_iret C hR dX7_stepOfWay_46
  · replace h := ifp c8 h
    refine g_iconst (pc := 37) (v := (-1)) C dX7_stepOfWay_37 (by decide) ?_
    refine g_goto (pc := 38) (tgt := 46) C dX7_stepOfWay_38 (by decide) ?_
    obtain rfl := Option.some.inj h
    exact g_iret C hR dX7_stepOfWay_46
theorem dX7_walkPlace_0 : decode cX7_walkPlace 0 = .ok (.iload_n 0, 1) := by decide +kernel
theorem dX7_walkPlace_1 : decode cX7_walkPlace 1 = .ok (.bipush 24, 2) := by decide +kernel
theorem dX7_walkPlace_3 : decode cX7_walkPlace 3 = .ok (.idiv, 1) := by decide +kernel
theorem dX7_walkPlace_4 : decode cX7_walkPlace 4 = .ok (.iconst 1, 1) := by decide +kernel
theorem dX7_walkPlace_5 : decode cX7_walkPlace 5 = .ok (.iadd, 1) := by decide +kernel
theorem dX7_walkPlace_6 : decode cX7_walkPlace 6 = .ok (.bipush 26, 2) := by decide +kernel
theorem dX7_walkPlace_8 : decode cX7_walkPlace 8 = .ok (.imul, 1) := by decide +kernel
theorem dX7_walkPlace_9 : decode cX7_walkPlace 9 = .ok (.iload_n 0, 1) := by decide +kernel
theorem dX7_walkPlace_10 : decode cX7_walkPlace 10 = .ok (.bipush 24, 2) := by decide +kernel
theorem dX7_walkPlace_12 : decode cX7_walkPlace 12 = .ok (.irem, 1) := by decide +kernel
theorem dX7_walkPlace_13 : decode cX7_walkPlace 13 = .ok (.iadd, 1) := by decide +kernel
theorem dX7_walkPlace_14 : decode cX7_walkPlace 14 = .ok (.iconst 1, 1) := by decide +kernel
theorem dX7_walkPlace_15 : decode cX7_walkPlace 15 = .ok (.iadd, 1) := by decide +kernel
theorem dX7_walkPlace_16 : decode cX7_walkPlace 16 = .ok (.ireturn, 1) := by decide +kernel
theorem wX7_walkPlace : Mw yX7_walkPlace cX7_walkPlace 1 (some .int) 1 := ⟨q_1130, q_126, by decide, ⟨by decide +kernel, by decide +kernel⟩, by decide +kernel, by decide +kernel⟩
/-- EyeTrainer$Shapes.walkPlace(I)I -/
def fX7_walkPlace (x0 : Int32) : Option (Int32) :=
  some (((((x0 / (24 : Int32)) + (1 : Int32)) * (26 : Int32)) + (x0 - x0 / (24 : Int32) * (24 : Int32))) + (1 : Int32))
set_option maxHeartbeats 4000000 in
theorem kX7_walkPlace {l : Launch} {B : Bx} {d : Nat} (hd : 0 ≤ d) {T : Sh} {M : Me} {x0 : Int32} {r : Int32} (h : fX7_walkPlace  x0 = some r) : Kt l B yX7_walkPlace cX7_walkPlace 1 (some .int) d [.int (x0)] T M (some (.int r)) T M := by
  refine kt_of wX7_walkPlace (Nat.le_refl _) (Nat.le_refl _) (Nat.le_of_ble_eq_true rfl) (fun X C hR hlx hin => ?_)
  subst hlx
  replace C : Cx X B cX7_walkPlace 1 RX7 d (tp T, sl T, tp T, sl T) := C
  unfold fX7_walkPlace at h
  show G X B 1 _ _ 0 [(0, .int (x0))] [] T M
  refine g_iload_n (pc := 0) C dX7_walkPlace_0 rfl 0 rfl ?_
  refine g_bipush (pc := 1) (v := 24) C dX7_walkPlace_1 (by decide) ?_
  refine g_idiv (pc := 3) C dX7_walkPlace_3 (by decide) ?_
  refine g_iconst (pc := 4) (v := 1) C dX7_walkPlace_4 (by decide) ?_
  refine g_iadd (pc := 5) C dX7_walkPlace_5 ?_
  refine g_bipush (pc := 6) (v := 26) C dX7_walkPlace_6 (by decide) ?_
  refine g_imul (pc := 8) C dX7_walkPlace_8 ?_
  refine g_iload_n (pc := 9) C dX7_walkPlace_9 rfl 0 rfl ?_
  refine g_bipush (pc := 10) (v := 24) C dX7_walkPlace_10 (by decide) ?_
  refine g_irem (pc := 12) C dX7_walkPlace_12 (by decide) ?_
  refine g_iadd (pc := 13) C dX7_walkPlace_13 ?_
  refine g_iconst (pc := 14) (v := 1) C dX7_walkPlace_14 (by decide) ?_
  refine g_iadd (pc := 15) C dX7_walkPlace_15 ?_
  obtain rfl := Option.some.inj h
  exact g_iret C hR dX7_walkPlace_16
theorem dX7_stepAll_0 : decode cX7_stepAll 0 = .ok (.iconst 0, 1) := by decide +kernel
theorem dX7_stepAll_1 : decode cX7_stepAll 1 = .ok (.istore_n 1, 1) := by decide +kernel
theorem dX7_stepAll_2 : decode cX7_stepAll 2 = .ok (.iload_n 1, 1) := by decide +kernel
theorem dX7_stepAll_3 : decode cX7_stepAll 3 = .ok (.sipush 384, 3) := by decide +kernel
theorem dX7_stepAll_6 : decode cX7_stepAll 6 = .ok (.if_icmp .ge 57, 3) := by decide +kernel
theorem dX7_stepAll_9 : decode cX7_stepAll 9 = .ok (.iload_n 1, 1) := by decide +kernel
theorem dX7_stepAll_10 : decode cX7_stepAll 10 = .ok (.invokestatic 115, 3) := by decide +kernel
theorem dX7_stepAll_13 : decode cX7_stepAll 13 = .ok (.istore_n 2, 1) := by decide +kernel
theorem dX7_stepAll_14 : decode cX7_stepAll 14 = .ok (.aload_n 0, 1) := by decide +kernel
theorem dX7_stepAll_15 : decode cX7_stepAll 15 = .ok (.getfield 25, 3) := by decide +kernel
theorem dX7_stepAll_18 : decode cX7_stepAll 18 = .ok (.iload_n 2, 1) := by decide +kernel
theorem dX7_stepAll_19 : decode cX7_stepAll 19 = .ok (.aload_n 0, 1) := by decide +kernel
theorem dX7_stepAll_20 : decode cX7_stepAll 20 = .ok (.getfield 21, 3) := by decide +kernel
theorem dX7_stepAll_23 : decode cX7_stepAll 23 = .ok (.iload_n 2, 1) := by decide +kernel
theorem dX7_stepAll_24 : decode cX7_stepAll 24 = .ok (.iconst 1, 1) := by decide +kernel
theorem dX7_stepAll_25 : decode cX7_stepAll 25 = .ok (.isub, 1) := by decide +kernel
theorem dX7_stepAll_26 : decode cX7_stepAll 26 = .ok (.laload, 1) := by decide +kernel
theorem dX7_stepAll_27 : decode cX7_stepAll 27 = .ok (.aload_n 0, 1) := by decide +kernel
theorem dX7_stepAll_28 : decode cX7_stepAll 28 = .ok (.getfield 21, 3) := by decide +kernel
theorem dX7_stepAll_31 : decode cX7_stepAll 31 = .ok (.iload_n 2, 1) := by decide +kernel
theorem dX7_stepAll_32 : decode cX7_stepAll 32 = .ok (.iconst 1, 1) := by decide +kernel
theorem dX7_stepAll_33 : decode cX7_stepAll 33 = .ok (.iadd, 1) := by decide +kernel
theorem dX7_stepAll_34 : decode cX7_stepAll 34 = .ok (.laload, 1) := by decide +kernel
theorem dX7_stepAll_35 : decode cX7_stepAll 35 = .ok (.ladd, 1) := by decide +kernel
theorem dX7_stepAll_36 : decode cX7_stepAll 36 = .ok (.aload_n 0, 1) := by decide +kernel
theorem dX7_stepAll_37 : decode cX7_stepAll 37 = .ok (.getfield 21, 3) := by decide +kernel
theorem dX7_stepAll_40 : decode cX7_stepAll 40 = .ok (.iload_n 2, 1) := by decide +kernel
theorem dX7_stepAll_41 : decode cX7_stepAll 41 = .ok (.bipush 26, 2) := by decide +kernel
theorem dX7_stepAll_43 : decode cX7_stepAll 43 = .ok (.isub, 1) := by decide +kernel
theorem dX7_stepAll_44 : decode cX7_stepAll 44 = .ok (.laload, 1) := by decide +kernel
theorem dX7_stepAll_45 : decode cX7_stepAll 45 = .ok (.ladd, 1) := by decide +kernel
theorem dX7_stepAll_46 : decode cX7_stepAll 46 = .ok (.aload_n 0, 1) := by decide +kernel
theorem dX7_stepAll_47 : decode cX7_stepAll 47 = .ok (.getfield 21, 3) := by decide +kernel
theorem dX7_stepAll_50 : decode cX7_stepAll 50 = .ok (.iload_n 2, 1) := by decide +kernel
theorem dX7_stepAll_51 : decode cX7_stepAll 51 = .ok (.bipush 26, 2) := by decide +kernel
theorem dX7_stepAll_53 : decode cX7_stepAll 53 = .ok (.iadd, 1) := by decide +kernel
theorem dX7_stepAll_54 : decode cX7_stepAll 54 = .ok (.laload, 1) := by decide +kernel
theorem dX7_stepAll_55 : decode cX7_stepAll 55 = .ok (.ladd, 1) := by decide +kernel
theorem dX7_stepAll_56 : decode cX7_stepAll 56 = .ok (.lastore, 1) := by decide +kernel
theorem dX7_stepAll_57 : decode cX7_stepAll 57 = .ok (.iinc 1 1, 3) := by decide +kernel
theorem dX7_stepAll_60 : decode cX7_stepAll 60 = .ok (.goto (-58), 3) := by decide +kernel
theorem dX7_stepAll_63 : decode cX7_stepAll 63 = .ok (.aload_n 0, 1) := by decide +kernel
theorem dX7_stepAll_64 : decode cX7_stepAll 64 = .ok (.getfield 21, 3) := by decide +kernel
theorem dX7_stepAll_67 : decode cX7_stepAll 67 = .ok (.astore_n 1, 1) := by decide +kernel
theorem dX7_stepAll_68 : decode cX7_stepAll 68 = .ok (.aload_n 0, 1) := by decide +kernel
theorem dX7_stepAll_69 : decode cX7_stepAll 69 = .ok (.aload_n 0, 1) := by decide +kernel
theorem dX7_stepAll_70 : decode cX7_stepAll 70 = .ok (.getfield 25, 3) := by decide +kernel
theorem dX7_stepAll_73 : decode cX7_stepAll 73 = .ok (.putfield 21, 3) := by decide +kernel
theorem dX7_stepAll_76 : decode cX7_stepAll 76 = .ok (.aload_n 0, 1) := by decide +kernel
theorem dX7_stepAll_77 : decode cX7_stepAll 77 = .ok (.aload_n 1, 1) := by decide +kernel
theorem dX7_stepAll_78 : decode cX7_stepAll 78 = .ok (.putfield 25, 3) := by decide +kernel
theorem dX7_stepAll_81 : decode cX7_stepAll 81 = .ok (.return_, 1) := by decide +kernel
theorem wX7_stepAll : Mw yX7_stepAll cX7_stepAll 3 none 0 := ⟨q_1134, q_126, by decide, ⟨by decide +kernel, by decide +kernel⟩, by decide +kernel, by decide +kernel⟩
-- a loop of EyeTrainer$Shapes.stepAll at 2
def bX7_stepAll_2 (T : Sh) (x0 : Nat) (x1 : Int32) (M : Me) : Option ((Int32 × Me) ⊕ (Me)) :=
  if (384 : Int32) ≤ x1 then (some (.inr M)) else (Option.bind (fX7_walkPlace x1) fun r2 => gd (kd T x0 = 6) <| Option.bind (gR M x0 4) fun a4 => Option.bind (gR M x0 3) fun a5 => gd (kd T a5 = 14) <| gv (r2 - (1 : Int32)) (ln T a5) <| Option.bind (gR M x0 3) fun a8 => gd (kd T a8 = 14) <| gv (r2 + (1 : Int32)) (ln T a8) <| Option.bind (gR M x0 3) fun a11 => gd (kd T a11 = 14) <| gv (r2 - (26 : Int32)) (ln T a11) <| Option.bind (gR M x0 3) fun a14 => gd (kd T a14 = 14) <| gv (r2 + (26 : Int32)) (ln T a14) <| gd (kd T a4 = 14) <| gv r2 (ln T a4) <| lt (pJ M a4 (Int32.toNatClampNeg r2) ((((gJ M a5 (Int32.toNatClampNeg (r2 - (1 : Int32)))) + (gJ M a8 (Int32.toNatClampNeg (r2 + (1 : Int32))))) + (gJ M a11 (Int32.toNatClampNeg (r2 - (26 : Int32))))) + (gJ M a14 (Int32.toNatClampNeg (r2 + (26 : Int32)))))) fun M19 => lt (x1 + (1 : Int32)) fun v20 => some (.inl (v20, M19)))
def PX7_stepAll_2 (X : Fx) (B : Bx) (Z : Nat × Nat × Nat × Nat) (Q : State → Prop) (T : Sh) (x0 : Nat) (s : Int32 × Me) : Prop := G X B 3 Z Q 2 [(0, .ref (x0)), (1, .int (s.1))] [] T s.2
def EX7_stepAll_2 (X : Fx) (B : Bx) (Z : Nat × Nat × Nat × Nat) (Q : State → Prop) (T : Sh) (x0 : Nat) (r : Me) : Prop := G X B 3 Z Q 63 [(0, .ref (x0))] [] T r
set_option maxHeartbeats 4000000 in
theorem tbX7_stepAll_2 {X : Fx} {B : Bx} {Z : Nat × Nat × Nat × Nat} {Q : State → Prop} {d : Nat} {T : Sh} (C : Cx X B cX7_stepAll 3 RX7 d Z) (hd : 1 ≤ d) {x0 : Nat} : ∀ (s : Int32 × Me) (o : (Int32 × Me) ⊕ (Me)), bX7_stepAll_2 T x0 s.1 s.2 = some o → lpE (PX7_stepAll_2 X B Z Q T x0) (EX7_stepAll_2 X B Z Q T x0) o → PX7_stepAll_2 X B Z Q T x0 s := by
  rintro ⟨x1, M⟩ o h hE
  replace h : bX7_stepAll_2 T x0 x1 M = some o := h
  unfold bX7_stepAll_2 at h
  show G X B 3 Z Q 2 [(0, .ref (x0)), (1, .int (x1))] [] T M
  refine g_iload_n (pc := 2) C dX7_stepAll_2 rfl 1 rfl ?_
  refine g_sipush (pc := 3) (v := 384) C dX7_stepAll_3 (by decide) ?_
  refine g_icmp_ge (pc := 6) (tgt := 63) C dX7_stepAll_6 (by decide) (fun c1 => ?_) (fun c1 => ?_)
  · replace h := ifp c1 h
    obtain rfl := Option.some.inj h
    exact g_sub [0] rfl (show G X B 3 Z Q 63 [(0, .ref (x0))] [] T M from hE)
  · replace h := ifn c1 h
    refine g_iload_n (pc := 9) C dX7_stepAll_9 rfl 1 rfl ?_
    replace h := bnd h; obtain ⟨r2, h1, h⟩ := h
    refine g_callSi (pc := 10) (As := [.int (x1)]) (st := []) C dX7_stepAll_10 wX7_walkPlace q_1129 q_1128 (by omega) rfl (Nat.le_of_ble_eq_true rfl) (kX7_walkPlace (d := 0) (Nat.le_refl _) h1) ?_
    refine g_istore_n (pc := 13) (lo2 := [(2, .int (r2)), (0, .ref (x0)), (1, .int (x1))]) C dX7_stepAll_13 rfl (by decide) rfl ?_
    refine g_aload_n (pc := 14) C dX7_stepAll_14 rfl 1 rfl ?_
    replace h := gd_some h; obtain ⟨hk3, h⟩ := h
    refine g_get (pc := 15) (v := va_rf (gR M x0 4)) C dX7_stepAll_15 kX7 hk3 4 (by decide) q_320 rfl ?_
    replace h := bnd h; obtain ⟨a4, ea4, h⟩ := h
    refine g_refq ea4 ?_
    refine g_iload_n (pc := 18) C dX7_stepAll_18 rfl 0 rfl ?_
    refine g_aload_n (pc := 19) C dX7_stepAll_19 rfl 1 rfl ?_
    refine g_get (pc := 20) (v := va_rf (gR M x0 3)) C dX7_stepAll_20 kX7 hk3 3 (by decide) q_319 rfl ?_
    replace h := bnd h; obtain ⟨a5, ea5, h⟩ := h
    refine g_refq ea5 ?_
    refine g_iload_n (pc := 23) C dX7_stepAll_23 rfl 0 rfl ?_
    refine g_iconst (pc := 24) (v := 1) C dX7_stepAll_24 (by decide) ?_
    refine g_isub (pc := 25) C dX7_stepAll_25 ?_
    replace h := gd_some h; obtain ⟨hk6, h⟩ := h
    replace h := gv_some h; obtain ⟨hi7, h⟩ := h
    refine g_lald (pc := 26) C dX7_stepAll_26 hk6 hi7 ?_
    refine g_aload_n (pc := 27) C dX7_stepAll_27 rfl 1 rfl ?_
    refine g_get (pc := 28) (v := va_rf (gR M x0 3)) C dX7_stepAll_28 kX7 hk3 3 (by decide) q_319 rfl ?_
    replace h := bnd h; obtain ⟨a8, ea8, h⟩ := h
    refine g_refq ea8 ?_
    refine g_iload_n (pc := 31) C dX7_stepAll_31 rfl 0 rfl ?_
    refine g_iconst (pc := 32) (v := 1) C dX7_stepAll_32 (by decide) ?_
    refine g_iadd (pc := 33) C dX7_stepAll_33 ?_
    replace h := gd_some h; obtain ⟨hk9, h⟩ := h
    replace h := gv_some h; obtain ⟨hi10, h⟩ := h
    refine g_lald (pc := 34) C dX7_stepAll_34 hk9 hi10 ?_
    refine g_ladd (pc := 35) C dX7_stepAll_35 ?_
    refine g_aload_n (pc := 36) C dX7_stepAll_36 rfl 1 rfl ?_
    refine g_get (pc := 37) (v := va_rf (gR M x0 3)) C dX7_stepAll_37 kX7 hk3 3 (by decide) q_319 rfl ?_
    replace h := bnd h; obtain ⟨a11, ea11, h⟩ := h
    refine g_refq ea11 ?_
    refine g_iload_n (pc := 40) C dX7_stepAll_40 rfl 0 rfl ?_
    refine g_bipush (pc := 41) (v := 26) C dX7_stepAll_41 (by decide) ?_
    refine g_isub (pc := 43) C dX7_stepAll_43 ?_
    replace h := gd_some h; obtain ⟨hk12, h⟩ := h
    replace h := gv_some h; obtain ⟨hi13, h⟩ := h
    refine g_lald (pc := 44) C dX7_stepAll_44 hk12 hi13 ?_
    refine g_ladd (pc := 45) C dX7_stepAll_45 ?_
    refine g_aload_n (pc := 46) C dX7_stepAll_46 rfl 1 rfl ?_
    refine g_get (pc := 47) (v := va_rf (gR M x0 3)) C dX7_stepAll_47 kX7 hk3 3 (by decide) q_319 rfl ?_
    replace h := bnd h; obtain ⟨a14, ea14, h⟩ := h
    refine g_refq ea14 ?_
    refine g_iload_n (pc := 50) C dX7_stepAll_50 rfl 0 rfl ?_
    refine g_bipush (pc := 51) (v := 26) C dX7_stepAll_51 (by decide) ?_
    refine g_iadd (pc := 53) C dX7_stepAll_53 ?_
    replace h := gd_some h; obtain ⟨hk15, h⟩ := h
    replace h := gv_some h; obtain ⟨hi16, h⟩ := h
    refine g_lald (pc := 54) C dX7_stepAll_54 hk15 hi16 ?_
    refine g_ladd (pc := 55) C dX7_stepAll_55 ?_
    replace h := gd_some h; obtain ⟨hk17, h⟩ := h
    replace h := gv_some h; obtain ⟨hi18, h⟩ := h
    refine g_last (pc := 56) C dX7_stepAll_56 hk17 hi18 ?_
    refine g_mem (fun M19 eM19 => ?_)
    replace h := lt_at eM19 h
    obtain ⟨v20, ev20⟩ : ∃ y : Int32, y = x1 + (1 : Int32) := ⟨_, rfl⟩
    replace h := lt_at ev20 h
    refine g_iinc (pc := 57) (v := v20) (k := 2) (lo2 := [(1, .int (v20)), (2, .int (r2)), (0, .ref (x0))]) C dX7_stepAll_57 rfl (by rw [ev20]; rfl) (by decide) rfl ?_
    refine g_goto (pc := 60) (tgt := 2) C dX7_stepAll_60 (by decide) ?_
    obtain rfl := Option.some.inj h
    exact g_sub [2, 0] rfl (show G X B 3 Z Q 2 [(0, .ref (x0)), (1, .int (v20))] [] T M19 from hE)
/-- EyeTrainer$Shapes.stepAll()V -/
def fX7_stepAll (T : Sh) (M : Me) (x0 : Nat) : Option (Unit × Me) :=
  (lp FU (fun s => bX7_stepAll_2 T x0 s.1 s.2) ((0 : Int32), M)).bind (fun M21 => gd (kd T x0 = 6) <| Option.bind (gR M21 x0 3) fun a23 => Option.bind (gR M21 x0 4) fun a24 => lt (pR M21 x0 3 (some a24)) fun M25 => lt (pR M25 x0 4 (some a23)) fun M26 => some ((), M26))
set_option maxHeartbeats 4000000 in
theorem kX7_stepAll {l : Launch} {B : Bx} {d : Nat} (hd : 1 ≤ d) {T : Sh} {M : Me} {x0 : Nat} {M' : Me} (h : fX7_stepAll T M x0 = some ((), M')) : Kt l B yX7_stepAll cX7_stepAll 3 none d [.ref (x0)] T M none T M' := by
  refine kt_of wX7_stepAll (Nat.le_refl _) (Nat.le_refl _) (Nat.le_of_ble_eq_true rfl) (fun X C hR hlx hin => ?_)
  subst hlx
  replace C : Cx X B cX7_stepAll 3 RX7 d (tp T, sl T, tp T, sl T) := C
  unfold fX7_stepAll at h
  show G X B 3 _ _ 0 [(0, .ref (x0))] [] T M
  refine g_iconst (pc := 0) (v := 0) C dX7_stepAll_0 (by decide) ?_
  refine g_istore_n (pc := 1) (lo2 := [(1, .int ((0 : Int32))), (0, .ref (x0))]) C dX7_stepAll_1 rfl (by decide) rfl ?_
  replace h := bnd h; obtain ⟨M21, h1, h⟩ := h
  refine g_sub [1, 0] rfl ?_
  refine lp_G2 (P := PX7_stepAll_2 X B _ _ T x0) (E := EX7_stepAll_2 X B _ _ T x0) (tbX7_stepAll_2 C hd) h1 ?_
  show G X B 3 _ _ 63 [(0, .ref (x0))] [] T M21
  refine g_aload_n (pc := 63) C dX7_stepAll_63 rfl 0 rfl ?_
  replace h := gd_some h; obtain ⟨hk22, h⟩ := h
  refine g_get (pc := 64) (v := va_rf (gR M21 x0 3)) C dX7_stepAll_64 kX7 hk22 3 (by decide) q_319 rfl ?_
  replace h := bnd h; obtain ⟨a23, ea23, h⟩ := h
  refine g_refq ea23 ?_
  refine g_astore_n (pc := 67) (lo2 := [(1, .ref (a23)), (0, .ref (x0))]) C dX7_stepAll_67 rfl (by decide) rfl ?_
  refine g_aload_n (pc := 68) C dX7_stepAll_68 rfl 1 rfl ?_
  refine g_aload_n (pc := 69) C dX7_stepAll_69 rfl 1 rfl ?_
  refine g_get (pc := 70) (v := va_rf (gR M21 x0 4)) C dX7_stepAll_70 kX7 hk22 4 (by decide) q_320 rfl ?_
  replace h := bnd h; obtain ⟨a24, ea24, h⟩ := h
  refine g_refq ea24 ?_
  refine g_putR (pc := 73) (x := (some a24)) (ft := .array (.long)) C dX7_stepAll_73 kX7 hk22 3 (by decide) rfl rfl rfl (Or.inr ⟨_, rfl⟩) q_319 ?_
  refine g_mem (fun M25 eM25 => ?_)
  replace h := lt_at eM25 h
  refine g_aload_n (pc := 76) C dX7_stepAll_76 rfl 1 rfl ?_
  refine g_aload_n (pc := 77) C dX7_stepAll_77 rfl 0 rfl ?_
  refine g_putR (pc := 78) (x := (some a23)) (ft := .array (.long)) C dX7_stepAll_78 kX7 hk22 4 (by decide) rfl rfl rfl (Or.inr ⟨_, rfl⟩) q_320 ?_
  refine g_mem (fun M26 eM26 => ?_)
  replace h := lt_at eM26 h
  obtain ⟨-, rfl⟩ := Prod.mk.inj (Option.some.inj h)
  exact g_vret C hR dX7_stepAll_81
theorem dX7_countWays_0 : decode cX7_countWays 0 = .ok (.aload_n 0, 1) := by decide +kernel
theorem dX7_countWays_1 : decode cX7_countWays 1 = .ok (.getfield 21, 3) := by decide +kernel
theorem dX7_countWays_4 : decode cX7_countWays 4 = .ok (.lconst 0, 1) := by decide +kernel
theorem dX7_countWays_5 : decode cX7_countWays 5 = .ok (.invokestatic 109, 3) := by decide +kernel
theorem dX7_countWays_8 : decode cX7_countWays 8 = .ok (.aload_n 0, 1) := by decide +kernel
theorem dX7_countWays_9 : decode cX7_countWays 9 = .ok (.getfield 21, 3) := by decide +kernel
theorem dX7_countWays_12 : decode cX7_countWays 12 = .ok (.iload_n 1, 1) := by decide +kernel
theorem dX7_countWays_13 : decode cX7_countWays 13 = .ok (.invokestatic 115, 3) := by decide +kernel
theorem dX7_countWays_16 : decode cX7_countWays 16 = .ok (.lconst 1, 1) := by decide +kernel
theorem dX7_countWays_17 : decode cX7_countWays 17 = .ok (.lastore, 1) := by decide +kernel
theorem dX7_countWays_18 : decode cX7_countWays 18 = .ok (.iconst 0, 1) := by decide +kernel
theorem dX7_countWays_19 : decode cX7_countWays 19 = .ok (.istore_n 3, 1) := by decide +kernel
theorem dX7_countWays_20 : decode cX7_countWays 20 = .ok (.iload_n 3, 1) := by decide +kernel
theorem dX7_countWays_21 : decode cX7_countWays 21 = .ok (.iload_n 2, 1) := by decide +kernel
theorem dX7_countWays_22 : decode cX7_countWays 22 = .ok (.if_icmp .ge 13, 3) := by decide +kernel
theorem dX7_countWays_25 : decode cX7_countWays 25 = .ok (.aload_n 0, 1) := by decide +kernel
theorem dX7_countWays_26 : decode cX7_countWays 26 = .ok (.invokevirtual 118, 3) := by decide +kernel
theorem dX7_countWays_29 : decode cX7_countWays 29 = .ok (.iinc 3 1, 3) := by decide +kernel
theorem dX7_countWays_32 : decode cX7_countWays 32 = .ok (.goto (-12), 3) := by decide +kernel
theorem dX7_countWays_35 : decode cX7_countWays 35 = .ok (.lconst 0, 1) := by decide +kernel
theorem dX7_countWays_36 : decode cX7_countWays 36 = .ok (.lstore_n 3, 1) := by decide +kernel
theorem dX7_countWays_37 : decode cX7_countWays 37 = .ok (.iconst 0, 1) := by decide +kernel
theorem dX7_countWays_38 : decode cX7_countWays 38 = .ok (.istore 5, 2) := by decide +kernel
theorem dX7_countWays_40 : decode cX7_countWays 40 = .ok (.iload 5, 2) := by decide +kernel
theorem dX7_countWays_42 : decode cX7_countWays 42 = .ok (.sipush 384, 3) := by decide +kernel
theorem dX7_countWays_45 : decode cX7_countWays 45 = .ok (.if_icmp .ge 35, 3) := by decide +kernel
theorem dX7_countWays_48 : decode cX7_countWays 48 = .ok (.lload_n 3, 1) := by decide +kernel
theorem dX7_countWays_49 : decode cX7_countWays 49 = .ok (.aload_n 0, 1) := by decide +kernel
theorem dX7_countWays_50 : decode cX7_countWays 50 = .ok (.iload 5, 2) := by decide +kernel
theorem dX7_countWays_52 : decode cX7_countWays 52 = .ok (.invokevirtual 70, 3) := by decide +kernel
theorem dX7_countWays_55 : decode cX7_countWays 55 = .ok (.ifCond .eq 16, 3) := by decide +kernel
theorem dX7_countWays_58 : decode cX7_countWays 58 = .ok (.aload_n 0, 1) := by decide +kernel
theorem dX7_countWays_59 : decode cX7_countWays 59 = .ok (.getfield 21, 3) := by decide +kernel
theorem dX7_countWays_62 : decode cX7_countWays 62 = .ok (.iload 5, 2) := by decide +kernel
theorem dX7_countWays_64 : decode cX7_countWays 64 = .ok (.invokestatic 115, 3) := by decide +kernel
theorem dX7_countWays_67 : decode cX7_countWays 67 = .ok (.laload, 1) := by decide +kernel
theorem dX7_countWays_68 : decode cX7_countWays 68 = .ok (.goto 4, 3) := by decide +kernel
theorem dX7_countWays_71 : decode cX7_countWays 71 = .ok (.lconst 0, 1) := by decide +kernel
theorem dX7_countWays_72 : decode cX7_countWays 72 = .ok (.ladd, 1) := by decide +kernel
theorem dX7_countWays_73 : decode cX7_countWays 73 = .ok (.lstore_n 3, 1) := by decide +kernel
theorem dX7_countWays_74 : decode cX7_countWays 74 = .ok (.iinc 5 1, 3) := by decide +kernel
theorem dX7_countWays_77 : decode cX7_countWays 77 = .ok (.goto (-37), 3) := by decide +kernel
theorem dX7_countWays_80 : decode cX7_countWays 80 = .ok (.lload_n 3, 1) := by decide +kernel
theorem dX7_countWays_81 : decode cX7_countWays 81 = .ok (.lreturn, 1) := by decide +kernel
theorem wX7_countWays : Mw yX7_countWays cX7_countWays 6 (some .long) 2 := ⟨q_1124, q_126, by decide, ⟨by decide +kernel, by decide +kernel⟩, by decide +kernel, by decide +kernel⟩
-- a loop of EyeTrainer$Shapes.countWays at 20
def bX7_countWays_20 (T : Sh) (x0 : Nat) (x2 : Int32) (x3 : Int32) (M : Me) : Option ((Int32 × Me) ⊕ (Me)) :=
  if x2 ≤ x3 then (some (.inr M)) else (gd (kd T x0 = 6) <| Option.bind (fX7_stepAll T M x0) <| un2 fun _u M11 => lt (x3 + (1 : Int32)) fun v12 => some (.inl (v12, M11)))
def PX7_countWays_20 (X : Fx) (B : Bx) (Z : Nat × Nat × Nat × Nat) (Q : State → Prop) (T : Sh) (x0 : Nat) (x2 : Int32) (s : Int32 × Me) : Prop := G X B 6 Z Q 20 [(0, .ref (x0)), (2, .int (x2)), (3, .int (s.1))] [] T s.2
def EX7_countWays_20 (X : Fx) (B : Bx) (Z : Nat × Nat × Nat × Nat) (Q : State → Prop) (T : Sh) (x0 : Nat) (x2 : Int32) (r : Me) : Prop := G X B 6 Z Q 35 [(0, .ref (x0))] [] T r
set_option maxHeartbeats 4000000 in
theorem tbX7_countWays_20 {X : Fx} {B : Bx} {Z : Nat × Nat × Nat × Nat} {Q : State → Prop} {d : Nat} {T : Sh} (C : Cx X B cX7_countWays 6 RX7 d Z) (hd : 2 ≤ d) {x0 : Nat} {x2 : Int32} : ∀ (s : Int32 × Me) (o : (Int32 × Me) ⊕ (Me)), bX7_countWays_20 T x0 x2 s.1 s.2 = some o → lpE (PX7_countWays_20 X B Z Q T x0 x2) (EX7_countWays_20 X B Z Q T x0 x2) o → PX7_countWays_20 X B Z Q T x0 x2 s := by
  rintro ⟨x3, M⟩ o h hE
  replace h : bX7_countWays_20 T x0 x2 x3 M = some o := h
  unfold bX7_countWays_20 at h
  show G X B 6 Z Q 20 [(0, .ref (x0)), (2, .int (x2)), (3, .int (x3))] [] T M
  refine g_iload_n (pc := 20) C dX7_countWays_20 rfl 2 rfl ?_
  refine g_iload_n (pc := 21) C dX7_countWays_21 rfl 1 rfl ?_
  refine g_icmp_ge (pc := 22) (tgt := 35) C dX7_countWays_22 (by decide) (fun c9 => ?_) (fun c9 => ?_)
  · replace h := ifp c9 h
    obtain rfl := Option.some.inj h
    exact g_sub [0] rfl (show G X B 6 Z Q 35 [(0, .ref (x0))] [] T M from hE)
  · replace h := ifn c9 h
    refine g_aload_n (pc := 25) C dX7_countWays_25 rfl 0 rfl ?_
    replace h := gd_some h; obtain ⟨hk10, h⟩ := h
    replace h := bnd2 h; obtain ⟨_u, M11, h1, h⟩ := h
    refine g_callVv (pc := 26) (As := []) (st := []) C dX7_countWays_26 wX7_stepAll hk10 rfl (by decide) q_1133 q_45 q_1131 (by omega) rfl (Nat.le_of_ble_eq_true rfl) (kX7_stepAll (d := 1) (Nat.le_refl _) h1) ?_
    obtain ⟨v12, ev12⟩ : ∃ y : Int32, y = x3 + (1 : Int32) := ⟨_, rfl⟩
    replace h := lt_at ev12 h
    refine g_iinc (pc := 29) (v := v12) (k := 2) (lo2 := [(3, .int (v12)), (0, .ref (x0)), (2, .int (x2))]) C dX7_countWays_29 rfl (by rw [ev12]; rfl) (by decide) rfl ?_
    refine g_goto (pc := 32) (tgt := 20) C dX7_countWays_32 (by decide) ?_
    obtain rfl := Option.some.inj h
    exact g_sub [1, 2, 0] rfl (show G X B 6 Z Q 20 [(0, .ref (x0)), (2, .int (x2)), (3, .int (v12))] [] T M11 from hE)
-- a loop of EyeTrainer$Shapes.countWays at 40
def bX7_countWays_40 (T : Sh) (M : Me) (x0 : Nat) (x3 : Int64) (x5 : Int32) : Option ((Int64 × Int32) ⊕ (Int64)) :=
  if (384 : Int32) ≤ x5 then (some (.inr x3)) else (gd (kd T x0 = 6) <| Option.bind (fX7_has T M x0 x5) fun r16 => if r16 = 0 then (lt (x3 + (0 : Int64)) fun v18 => lt (x5 + (1 : Int32)) fun v19 => some (.inl (v18, v19))) else (Option.bind (gR M x0 3) fun a20 => Option.bind (fX7_walkPlace x5) fun r21 => gd (kd T a20 = 14) <| gv r21 (ln T a20) <| lt (x3 + (gJ M a20 (Int32.toNatClampNeg r21))) fun v24 => lt (x5 + (1 : Int32)) fun v25 => some (.inl (v24, v25))))
def PX7_countWays_40 (X : Fx) (B : Bx) (Z : Nat × Nat × Nat × Nat) (Q : State → Prop) (T : Sh) (M : Me) (x0 : Nat) (s : Int64 × Int32) : Prop := G X B 6 Z Q 40 [(0, .ref (x0)), (3, .long (s.1)), (5, .int (s.2))] [] T M
def EX7_countWays_40 (X : Fx) (B : Bx) (Z : Nat × Nat × Nat × Nat) (Q : State → Prop) (T : Sh) (M : Me) (x0 : Nat) (r : Int64) : Prop := G X B 6 Z Q 80 [(3, .long (r))] [] T M
set_option maxHeartbeats 4000000 in
theorem tbX7_countWays_40 {X : Fx} {B : Bx} {Z : Nat × Nat × Nat × Nat} {Q : State → Prop} {d : Nat} {T : Sh} {M : Me} (C : Cx X B cX7_countWays 6 RX7 d Z) (hd : 2 ≤ d) {x0 : Nat} : ∀ (s : Int64 × Int32) (o : (Int64 × Int32) ⊕ (Int64)), bX7_countWays_40 T M x0 s.1 s.2 = some o → lpE (PX7_countWays_40 X B Z Q T M x0) (EX7_countWays_40 X B Z Q T M x0) o → PX7_countWays_40 X B Z Q T M x0 s := by
  rintro ⟨x3, x5⟩ o h hE
  replace h : bX7_countWays_40 T M x0 x3 x5 = some o := h
  unfold bX7_countWays_40 at h
  show G X B 6 Z Q 40 [(0, .ref (x0)), (3, .long (x3)), (5, .int (x5))] [] T M
  refine g_iload (pc := 40) C dX7_countWays_40 2 rfl ?_
  refine g_sipush (pc := 42) (v := 384) C dX7_countWays_42 (by decide) ?_
  refine g_icmp_ge (pc := 45) (tgt := 80) C dX7_countWays_45 (by decide) (fun c14 => ?_) (fun c14 => ?_)
  · replace h := ifp c14 h
    obtain rfl := Option.some.inj h
    exact g_sub [1] rfl (show G X B 6 Z Q 80 [(3, .long (x3))] [] T M from hE)
  · replace h := ifn c14 h
    refine g_lload_n (pc := 48) C dX7_countWays_48 rfl 1 rfl ?_
    refine g_aload_n (pc := 49) C dX7_countWays_49 rfl 0 rfl ?_
    refine g_iload (pc := 50) C dX7_countWays_50 2 rfl ?_
    replace h := gd_some h; obtain ⟨hk15, h⟩ := h
    replace h := bnd h; obtain ⟨r16, h1, h⟩ := h
    refine g_callVi (pc := 52) (As := [.int (x5)]) (st := [.long (x3)]) C dX7_countWays_52 wX7_has hk15 rfl (by decide) q_904 q_30 q_902 (by omega) rfl (Nat.le_of_ble_eq_true rfl) (kX7_has (d := 0) (Nat.le_refl _) h1) ?_
    refine g_if_eq (pc := 55) (tgt := 71) C dX7_countWays_55 (by decide) (fun c17 => ?_) (fun c17 => ?_)
    · replace h := ifp c17 h
      refine g_lconst (pc := 71) (v := 0) C dX7_countWays_71 rfl ?_
      refine g_ladd (pc := 72) C dX7_countWays_72 ?_
      refine g_topl (fun v18 ev18 => ?_)
      replace h := lt_at ev18 h
      refine g_lstore_n (pc := 73) (lo2 := [(3, .long (v18)), (0, .ref (x0)), (5, .int (x5))]) C dX7_countWays_73 rfl (by decide) rfl ?_
      obtain ⟨v19, ev19⟩ : ∃ y : Int32, y = x5 + (1 : Int32) := ⟨_, rfl⟩
      replace h := lt_at ev19 h
      refine g_iinc (pc := 74) (v := v19) (k := 2) (lo2 := [(5, .int (v19)), (3, .long (v18)), (0, .ref (x0))]) C dX7_countWays_74 rfl (by rw [ev19]; rfl) (by decide) rfl ?_
      refine g_goto (pc := 77) (tgt := 40) C dX7_countWays_77 (by decide) ?_
      obtain rfl := Option.some.inj h
      exact g_sub [2, 1, 0] rfl (show G X B 6 Z Q 40 [(0, .ref (x0)), (3, .long (v18)), (5, .int (v19))] [] T M from hE)
    · replace h := ifn c17 h
      refine g_aload_n (pc := 58) C dX7_countWays_58 rfl 0 rfl ?_
      refine g_get (pc := 59) (v := va_rf (gR M x0 3)) C dX7_countWays_59 kX7 hk15 3 (by decide) q_319 rfl ?_
      replace h := bnd h; obtain ⟨a20, ea20, h⟩ := h
      refine g_refq ea20 ?_
      refine g_iload (pc := 62) C dX7_countWays_62 2 rfl ?_
      replace h := bnd h; obtain ⟨r21, h1, h⟩ := h
      refine g_callSi (pc := 64) (As := [.int (x5)]) (st := [.ref (a20), .long (x3)]) C dX7_countWays_64 wX7_walkPlace q_1129 q_1128 (by omega) rfl (Nat.le_of_ble_eq_true rfl) (kX7_walkPlace (d := 0) (Nat.le_refl _) h1) ?_
      replace h := gd_some h; obtain ⟨hk22, h⟩ := h
      replace h := gv_some h; obtain ⟨hi23, h⟩ := h
      refine g_lald (pc := 67) C dX7_countWays_67 hk22 hi23 ?_
      refine g_goto (pc := 68) (tgt := 72) C dX7_countWays_68 (by decide) ?_
      refine g_ladd (pc := 72) C dX7_countWays_72 ?_
      refine g_topl (fun v24 ev24 => ?_)
      replace h := lt_at ev24 h
      refine g_lstore_n (pc := 73) (lo2 := [(3, .long (v24)), (0, .ref (x0)), (5, .int (x5))]) C dX7_countWays_73 rfl (by decide) rfl ?_
      obtain ⟨v25, ev25⟩ : ∃ y : Int32, y = x5 + (1 : Int32) := ⟨_, rfl⟩
      replace h := lt_at ev25 h
      refine g_iinc (pc := 74) (v := v25) (k := 2) (lo2 := [(5, .int (v25)), (3, .long (v24)), (0, .ref (x0))]) C dX7_countWays_74 rfl (by rw [ev25]; rfl) (by decide) rfl ?_
      refine g_goto (pc := 77) (tgt := 40) C dX7_countWays_77 (by decide) ?_
      obtain rfl := Option.some.inj h
      exact g_sub [2, 1, 0] rfl (show G X B 6 Z Q 40 [(0, .ref (x0)), (3, .long (v24)), (5, .int (v25))] [] T M from hE)
/-- EyeTrainer$Shapes.countWays(II)J -/
def fX7_countWays (T : Sh) (M : Me) (x0 : Nat) (x1 : Int32) (x2 : Int32) : Option (Int64 × Me) :=
  gd (kd T x0 = 6) <| Option.bind (gR M x0 3) fun a2 => Option.bind (fJ7_fill_d0a16 T M a2 (0 : Int64)) <| un2 fun _u M3 => Option.bind (gR M3 x0 3) fun a4 => Option.bind (fX7_walkPlace x1) fun r5 => gd (kd T a4 = 14) <| gv r5 (ln T a4) <| lt (pJ M3 a4 (Int32.toNatClampNeg r5) (1 : Int64)) fun M8 => (lp FU (fun s => bX7_countWays_20 T x0 x2 s.1 s.2) ((0 : Int32), M8)).bind (fun M13 => (lp FU (fun s => bX7_countWays_40 T M13 x0 s.1 s.2) ((0 : Int64), (0 : Int32))).bind (fun x3_26 => some (x3_26, M13)))
set_option maxHeartbeats 4000000 in
theorem kX7_countWays {l : Launch} {B : Bx} {d : Nat} (hd : 2 ≤ d) {T : Sh} {M : Me} {x0 : Nat} {x1 : Int32} {x2 : Int32} {r : Int64} {M' : Me} (h : fX7_countWays T M x0 x1 x2 = some (r, M')) : Kt l B yX7_countWays cX7_countWays 6 (some .long) d [.ref (x0), .int (x1), .int (x2)] T M (some (.long r)) T M' := by
  refine kt_of wX7_countWays (Nat.le_refl _) (Nat.le_refl _) (Nat.le_of_ble_eq_true rfl) (fun X C hR hlx hin => ?_)
  subst hlx
  replace C : Cx X B cX7_countWays 6 RX7 d (tp T, sl T, tp T, sl T) := C
  unfold fX7_countWays at h
  show G X B 6 _ _ 0 [(0, .ref (x0)), (1, .int (x1)), (2, .int (x2))] [] T M
  refine g_aload_n (pc := 0) C dX7_countWays_0 rfl 0 rfl ?_
  replace h := gd_some h; obtain ⟨hk1, h⟩ := h
  refine g_get (pc := 1) (v := va_rf (gR M x0 3)) C dX7_countWays_1 kX7 hk1 3 (by decide) q_319 rfl ?_
  replace h := bnd h; obtain ⟨a2, ea2, h⟩ := h
  refine g_refq ea2 ?_
  refine g_lconst (pc := 4) (v := 0) C dX7_countWays_4 rfl ?_
  replace h := bnd2 h; obtain ⟨_u, M3, h1, h⟩ := h
  refine g_callSv (pc := 5) (As := [.ref (a2), .long ((0 : Int64))]) (st := []) C dX7_countWays_5 wJ7_fill_d0a16 q_1126 q_1125 (by omega) rfl (Nat.le_of_ble_eq_true rfl) (kJ7_fill_d0a16 (d := 0) (Nat.le_refl _) h1) ?_
  refine g_aload_n (pc := 8) C dX7_countWays_8 rfl 0 rfl ?_
  refine g_get (pc := 9) (v := va_rf (gR M3 x0 3)) C dX7_countWays_9 kX7 hk1 3 (by decide) q_319 rfl ?_
  replace h := bnd h; obtain ⟨a4, ea4, h⟩ := h
  refine g_refq ea4 ?_
  refine g_iload_n (pc := 12) C dX7_countWays_12 rfl 1 rfl ?_
  replace h := bnd h; obtain ⟨r5, h1, h⟩ := h
  refine g_callSi (pc := 13) (As := [.int (x1)]) (st := [.ref (a4)]) C dX7_countWays_13 wX7_walkPlace q_1129 q_1128 (by omega) rfl (Nat.le_of_ble_eq_true rfl) (kX7_walkPlace (d := 0) (Nat.le_refl _) h1) ?_
  refine g_lconst (pc := 16) (v := 1) C dX7_countWays_16 rfl ?_
  replace h := gd_some h; obtain ⟨hk6, h⟩ := h
  replace h := gv_some h; obtain ⟨hi7, h⟩ := h
  refine g_last (pc := 17) C dX7_countWays_17 hk6 hi7 ?_
  refine g_mem (fun M8 eM8 => ?_)
  replace h := lt_at eM8 h
  refine g_iconst (pc := 18) (v := 0) C dX7_countWays_18 (by decide) ?_
  refine g_istore_n (pc := 19) (lo2 := [(3, .int ((0 : Int32))), (0, .ref (x0)), (1, .int (x1)), (2, .int (x2))]) C dX7_countWays_19 rfl (by decide) rfl ?_
  replace h := bnd h; obtain ⟨M13, h1, h⟩ := h
  refine g_sub [1, 3, 0] rfl ?_
  refine lp_G2 (P := PX7_countWays_20 X B _ _ T x0 x2) (E := EX7_countWays_20 X B _ _ T x0 x2) (tbX7_countWays_20 C hd) h1 ?_
  show G X B 6 _ _ 35 [(0, .ref (x0))] [] T M13
  refine g_lconst (pc := 35) (v := 0) C dX7_countWays_35 rfl ?_
  refine g_lstore_n (pc := 36) (lo2 := [(3, .long ((0 : Int64))), (0, .ref (x0))]) C dX7_countWays_36 rfl (by decide) rfl ?_
  refine g_iconst (pc := 37) (v := 0) C dX7_countWays_37 (by decide) ?_
  refine g_istore (pc := 38) (lo2 := [(5, .int ((0 : Int32))), (3, .long ((0 : Int64))), (0, .ref (x0))]) C dX7_countWays_38 (by decide) rfl ?_
  replace h := bnd h; obtain ⟨x3_26, h1, h⟩ := h
  refine g_sub [2, 1, 0] rfl ?_
  refine lp_G2 (P := PX7_countWays_40 X B _ _ T M13 x0) (E := EX7_countWays_40 X B _ _ T M13 x0) (tbX7_countWays_40 C hd) h1 ?_
  show G X B 6 _ _ 80 [(3, .long (x3_26))] [] T M13
  refine g_lload_n (pc := 80) C dX7_countWays_80 rfl 0 rfl ?_
  obtain ⟨rfl, rfl⟩ := Prod.mk.inj (Option.some.inj h)
  exact g_lret C hR dX7_countWays_81
