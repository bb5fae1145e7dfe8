set_option maxRecDepth 20000 in
theorem q_46 : Cond.selects RX11 yX11_unseen yX11_unseen ∈ lw_gd := mem_gd (List.mem_of_getElem? (i := 46) (by decide +kernel)) rfl
set_option maxRecDepth 20000 in
theorem q_47 : Cond.selects RX11 yX11_seenDrifts yX11_seenDrifts ∈ lw_gd := mem_gd (List.mem_of_getElem? (i := 47) (by decide +kernel)) rfl
set_option maxRecDepth 20000 in
theorem q_49 : Cond.selects RX11 yX11_countPassing yX11_countPassing ∈ lw_gd := mem_gd (List.mem_of_getElem? (i := 49) (by decide +kernel)) rfl
set_option maxRecDepth 20000 in
theorem q_50 : Cond.selects RX11 yX11_passingLots yX11_passingLots ∈ lw_gd := mem_gd (List.mem_of_getElem? (i := 50) (by decide +kernel)) rfl
set_option maxRecDepth 20000 in
theorem q_246 : Cond.fieldLink RX11 101 "EyeTrainer$Lab" "lines" "I" ∈ lw_gd := mem_gd (List.mem_of_getElem? (i := 246) (by decide +kernel)) rfl
set_option maxRecDepth 20000 in
theorem q_317 : Cond.fieldLink RX11 306 "EyeTrainer$Shapes" "cellNumbers" "[I" ∈ lw_gd := mem_gd (List.mem_of_getElem? (i := 317) (by decide +kernel)) rfl
set_option maxRecDepth 20000 in
theorem q_417 : Cond.fieldLink RX11 354 "EyeTrainer$Image" "stand" "LEyeTrainer$Stand;" ∈ lw_gd := mem_gd (List.mem_of_getElem? (i := 417) (by decide +kernel)) rfl
set_option maxRecDepth 20000 in
theorem q_418 : Cond.fieldLink RX11 353 "EyeTrainer$Image" "lab" "LEyeTrainer$Lab;" ∈ lw_gd := mem_gd (List.mem_of_getElem? (i := 418) (by decide +kernel)) rfl
set_option maxRecDepth 20000 in
theorem q_434 : Cond.fieldLink RX11 62 "EyeTrainer" "images" "[LEyeTrainer$Image;" ∈ lw_gd := mem_gd (List.mem_of_getElem? (i := 434) (by decide +kernel)) rfl
set_option maxRecDepth 20000 in
theorem q_750 : Cond.methodLink RX11 92 yX5_useLab ∈ lw_gd := mem_gd (List.mem_of_getElem? (i := 750) (by decide +kernel)) rfl
set_option maxRecDepth 20000 in
theorem q_751 : Cond.instanceMethod yX5_useLab ∈ lw_gd := mem_gd (List.mem_of_getElem? (i := 751) (by decide +kernel)) rfl
set_option maxRecDepth 20000 in
theorem q_752 : Cond.selects RX5 yX5_useLab yX5_useLab ∈ lw_gd := mem_gd (List.mem_of_getElem? (i := 752) (by decide +kernel)) rfl
set_option maxRecDepth 20000 in
theorem q_1094 : Cond.code yX11_steps cX11_steps 2 (some .int) ∈ lw_gd := mem_gd (List.mem_of_getElem? (i := 1094) (by decide +kernel)) rfl
set_option maxRecDepth 20000 in
theorem q_1095 : Cond.methodLink RX11 303 yX7_measureSteps ∈ lw_gd := mem_gd (List.mem_of_getElem? (i := 1095) (by decide +kernel)) rfl
set_option maxRecDepth 20000 in
theorem q_1096 : Cond.instanceMethod yX7_measureSteps ∈ lw_gd := mem_gd (List.mem_of_getElem? (i := 1096) (by decide +kernel)) rfl
set_option maxRecDepth 20000 in
theorem q_1097 : Cond.selects RX7 yX7_measureSteps yX7_measureSteps ∈ lw_gd := mem_gd (List.mem_of_getElem? (i := 1097) (by decide +kernel)) rfl
set_option maxRecDepth 20000 in
theorem q_1106 : Cond.code yX11_way cX11_way 3 (some .int) ∈ lw_gd := mem_gd (List.mem_of_getElem? (i := 1106) (by decide +kernel)) rfl
set_option maxRecDepth 20000 in
theorem q_1107 : Cond.methodLink RX11 309 yX7_stepOfWay ∈ lw_gd := mem_gd (List.mem_of_getElem? (i := 1107) (by decide +kernel)) rfl
set_option maxRecDepth 20000 in
theorem q_1108 : Cond.instanceMethod yX7_stepOfWay ∈ lw_gd := mem_gd (List.mem_of_getElem? (i := 1108) (by decide +kernel)) rfl
set_option maxRecDepth 20000 in
theorem q_1109 : Cond.selects RX7 yX7_stepOfWay yX7_stepOfWay ∈ lw_gd := mem_gd (List.mem_of_getElem? (i := 1109) (by decide +kernel)) rfl
set_option maxRecDepth 20000 in
theorem q_1118 : Cond.code yX11_ways cX11_ways 3 (some .long) ∈ lw_gd := mem_gd (List.mem_of_getElem? (i := 1118) (by decide +kernel)) rfl
set_option maxRecDepth 20000 in
theorem q_1119 : Cond.constantLong RX11 312 (-2) ∈ lw_gd := mem_gd (List.mem_of_getElem? (i := 1119) (by decide +kernel)) rfl
set_option maxRecDepth 20000 in
theorem q_1120 : Cond.constantLong RX11 314 (-3) ∈ lw_gd := mem_gd (List.mem_of_getElem? (i := 1120) (by decide +kernel)) rfl
set_option maxRecDepth 20000 in
theorem q_1121 : Cond.methodLink RX11 316 yX7_countWays ∈ lw_gd := mem_gd (List.mem_of_getElem? (i := 1121) (by decide +kernel)) rfl
set_option maxRecDepth 20000 in
theorem q_1122 : Cond.instanceMethod yX7_countWays ∈ lw_gd := mem_gd (List.mem_of_getElem? (i := 1122) (by decide +kernel)) rfl
set_option maxRecDepth 20000 in
theorem q_1123 : Cond.selects RX7 yX7_countWays yX7_countWays ∈ lw_gd := mem_gd (List.mem_of_getElem? (i := 1123) (by decide +kernel)) rfl
set_option maxRecDepth 20000 in
theorem q_1138 : Cond.code yX11_drifts cX11_drifts 4 (some .int) ∈ lw_gd := mem_gd (List.mem_of_getElem? (i := 1138) (by decide +kernel)) rfl
set_option maxRecDepth 20000 in
theorem q_1139 : Cond.methodLink RX11 320 yX11_unseen ∈ lw_gd := mem_gd (List.mem_of_getElem? (i := 1139) (by decide +kernel)) rfl
set_option maxRecDepth 20000 in
theorem q_1141 : Cond.instanceMethod yX11_unseen ∈ lw_gd := mem_gd (List.mem_of_getElem? (i := 1141) (by decide +kernel)) rfl
set_option maxRecDepth 20000 in
theorem q_1144 : Cond.methodLink RX11 323 yX11_seenDrifts ∈ lw_gd := mem_gd (List.mem_of_getElem? (i := 1144) (by decide +kernel)) rfl
set_option maxRecDepth 20000 in
theorem q_1146 : Cond.instanceMethod yX11_seenDrifts ∈ lw_gd := mem_gd (List.mem_of_getElem? (i := 1146) (by decide +kernel)) rfl
set_option maxRecDepth 20000 in
theorem q_1155 : Cond.code yX11_attempt cX11_attempt 10 (some .int) ∈ lw_gd := mem_gd (List.mem_of_getElem? (i := 1155) (by decide +kernel)) rfl
set_option maxRecDepth 20000 in
theorem q_1156 : Cond.methodLink RX11 327 yX11_countPassing ∈ lw_gd := mem_gd (List.mem_of_getElem? (i := 1156) (by decide +kernel)) rfl
set_option maxRecDepth 20000 in
theorem q_1158 : Cond.instanceMethod yX11_countPassing ∈ lw_gd := mem_gd (List.mem_of_getElem? (i := 1158) (by decide +kernel)) rfl
set_option maxRecDepth 20000 in
theorem q_1164 : Cond.code yX11_chance cX11_chance 4 (some .int) ∈ lw_gd := mem_gd (List.mem_of_getElem? (i := 1164) (by decide +kernel)) rfl
set_option maxRecDepth 20000 in
theorem q_1165 : Cond.methodLink RX11 331 yX11_passingLots ∈ lw_gd := mem_gd (List.mem_of_getElem? (i := 1165) (by decide +kernel)) rfl
set_option maxRecDepth 20000 in
theorem q_1167 : Cond.instanceMethod yX11_passingLots ∈ lw_gd := mem_gd (List.mem_of_getElem? (i := 1167) (by decide +kernel)) rfl
set_option maxRecDepth 20000 in
theorem q_1174 : Cond.methodLink RX11 334 yX11_lowestTerms ∈ lw_gd := mem_gd (List.mem_of_getElem? (i := 1174) (by decide +kernel)) rfl
set_option maxRecDepth 20000 in
theorem q_1175 : Cond.static yX11_lowestTerms ∈ lw_gd := mem_gd (List.mem_of_getElem? (i := 1175) (by decide +kernel)) rfl
set_option maxRecDepth 20000 in
theorem q_1180 : Cond.code yX11_mean cX11_mean 5 (some .int) ∈ lw_gd := mem_gd (List.mem_of_getElem? (i := 1180) (by decide +kernel)) rfl
set_option maxRecDepth 20000 in
theorem q_1184 : Cond.code yX11_numbers cX11_numbers 4 (some .int) ∈ lw_gd := mem_gd (List.mem_of_getElem? (i := 1184) (by decide +kernel)) rfl
set_option maxRecDepth 20000 in
theorem q_1185 : Cond.methodLink RX11 337 yX10_hold ∈ lw_gd := mem_gd (List.mem_of_getElem? (i := 1185) (by decide +kernel)) rfl
set_option maxRecDepth 20000 in
theorem q_1186 : Cond.instanceMethod yX10_hold ∈ lw_gd := mem_gd (List.mem_of_getElem? (i := 1186) (by decide +kernel)) rfl
set_option maxRecDepth 20000 in
theorem q_1187 : Cond.selects RX10 yX10_hold yX10_hold ∈ lw_gd := mem_gd (List.mem_of_getElem? (i := 1187) (by decide +kernel)) rfl
set_option maxRecDepth 20000 in
theorem q_1193 : Cond.code yX11_write cX11_write 6 (some .long) ∈ lw_gd := mem_gd (List.mem_of_getElem? (i := 1193) (by decide +kernel)) rfl
set_option maxRecDepth 20000 in
theorem q_1194 : Cond.constantLong RX11 341 (-6) ∈ lw_gd := mem_gd (List.mem_of_getElem? (i := 1194) (by decide +kernel)) rfl
set_option maxRecDepth 20000 in
theorem q_1195 : Cond.constantLong RX11 343 (-7) ∈ lw_gd := mem_gd (List.mem_of_getElem? (i := 1195) (by decide +kernel)) rfl
set_option maxRecDepth 20000 in
theorem q_1196 : Cond.methodLink RX11 345 yX10_put ∈ lw_gd := mem_gd (List.mem_of_getElem? (i := 1196) (by decide +kernel)) rfl
set_option maxRecDepth 20000 in
theorem q_1197 : Cond.instanceMethod yX10_put ∈ lw_gd := mem_gd (List.mem_of_getElem? (i := 1197) (by decide +kernel)) rfl
set_option maxRecDepth 20000 in
theorem q_1198 : Cond.selects RX10 yX10_put yX10_put ∈ lw_gd := mem_gd (List.mem_of_getElem? (i := 1198) (by decide +kernel)) rfl
set_option maxRecDepth 20000 in
theorem q_1203 : Cond.code yX11_lists cX11_lists 9 (some .int) ∈ lw_gd := mem_gd (List.mem_of_getElem? (i := 1203) (by decide +kernel)) rfl
set_option maxRecDepth 20000 in
theorem q_1204 : Cond.constantLong RX11 349 (384) ∈ lw_gd := mem_gd (List.mem_of_getElem? (i := 1204) (by decide +kernel)) rfl
set_option maxRecDepth 20000 in
theorem q_1205 : Cond.constantLong RX11 351 (2) ∈ lw_gd := mem_gd (List.mem_of_getElem? (i := 1205) (by decide +kernel)) rfl
set_option maxRecDepth 20000 in
theorem q_1209 : Cond.code yX11_image cX11_image 2 (some .int) ∈ lw_gd := mem_gd (List.mem_of_getElem? (i := 1209) (by decide +kernel)) rfl
set_option maxRecDepth 20000 in
theorem q_1213 : Cond.code yX11_restore cX11_restore 3 (some .int) ∈ lw_gd := mem_gd (List.mem_of_getElem? (i := 1213) (by decide +kernel)) rfl
set_option maxRecDepth 20000 in
theorem q_1217 : Cond.code yX11_count cX11_count 2 (some .int) ∈ lw_gd := mem_gd (List.mem_of_getElem? (i := 1217) (by decide +kernel)) rfl
theorem dX11_steps_0 : decode cX11_steps 0 = .ok (.aload_n 0, 1) := by decide +kernel
theorem dX11_steps_1 : decode cX11_steps 1 = .ok (.iload_n 1, 1) := by decide +kernel
theorem dX11_steps_2 : decode cX11_steps 2 = .ok (.invokevirtual 107, 3) := by decide +kernel
theorem dX11_steps_5 : decode cX11_steps 5 = .ok (.ifCond .eq 6, 3) := by decide +kernel
theorem dX11_steps_8 : decode cX11_steps 8 = .ok (.bipush (-2), 2) := by decide +kernel
theorem dX11_steps_10 : decode cX11_steps 10 = .ok (.ireturn, 1) := by decide +kernel
theorem dX11_steps_11 : decode cX11_steps 11 = .ok (.aload_n 0, 1) := by decide +kernel
theorem dX11_steps_12 : decode cX11_steps 12 = .ok (.iload_n 1, 1) := by decide +kernel
theorem dX11_steps_13 : decode cX11_steps 13 = .ok (.invokevirtual 218, 3) := by decide +kernel
theorem dX11_steps_16 : decode cX11_steps 16 = .ok (.aload_n 0, 1) := by decide +kernel
theorem dX11_steps_17 : decode cX11_steps 17 = .ok (.getfield 35, 3) := by decide +kernel
theorem dX11_steps_20 : decode cX11_steps 20 = .ok (.invokevirtual 221, 3) := by decide +kernel
theorem dX11_steps_23 : decode cX11_steps 23 = .ok (.ifCond .ne 5, 3) := by decide +kernel
theorem dX11_steps_26 : decode cX11_steps 26 = .ok (.iconst (-1), 1) := by decide +kernel
theorem dX11_steps_27 : decode cX11_steps 27 = .ok (.ireturn, 1) := by decide +kernel
theorem dX11_steps_28 : decode cX11_steps 28 = .ok (.aload_n 0, 1) := by decide +kernel
theorem dX11_steps_29 : decode cX11_steps 29 = .ok (.getfield 35, 3) := by decide +kernel
theorem dX11_steps_32 : decode cX11_steps 32 = .ok (.invokevirtual 303, 3) := by decide +kernel
theorem dX11_steps_35 : decode cX11_steps 35 = .ok (.aload_n 0, 1) := by decide +kernel
theorem dX11_steps_36 : decode cX11_steps 36 = .ok (.getfield 35, 3) := by decide +kernel
theorem dX11_steps_39 : decode cX11_steps 39 = .ok (.getfield 306, 3) := by decide +kernel
theorem dX11_steps_42 : decode cX11_steps 42 = .ok (.aload_n 0, 1) := by decide +kernel
theorem dX11_steps_43 : decode cX11_steps 43 = .ok (.getfield 42, 3) := by decide +kernel
theorem dX11_steps_46 : decode cX11_steps 46 = .ok (.getfield 127, 3) := by decide +kernel
theorem dX11_steps_49 : decode cX11_steps 49 = .ok (.iload_n 1, 1) := by decide +kernel
theorem dX11_steps_50 : decode cX11_steps 50 = .ok (.iaload, 1) := by decide +kernel
theorem dX11_steps_51 : decode cX11_steps 51 = .ok (.iaload, 1) := by decide +kernel
theorem dX11_steps_52 : decode cX11_steps 52 = .ok (.ireturn, 1) := by decide +kernel
theorem wX11_steps : Mw yX11_steps cX11_steps 2 (some .int) 1 := ⟨q_1094, q_120, by decide, ⟨by decide +kernel, by decide +kernel⟩, by decide +kernel, by decide +kernel⟩
/-- EyeTrainer.steps(I)I -/
def fX11_steps (T : Sh) (M : Me) (x0 : Nat) (x1 : Int32) : Option (Int32 × Me) :=
  gd (kd T x0 = 10) <| Option.bind (fX11_noLane T M x0 x1) fun r2 => if r2 = 0 then (Option.bind (fX11_look T M x0 x1) <| un2 fun _u M4 => Option.bind (gR M4 x0 4) fun a5 => gd (kd T a5 = 6) <| Option.bind (fX7_cells T M4 a5) fun r7 => if r7 = 0 then (some ((-1 : Int32), M4)) else (Option.bind (gR M4 x0 4) fun a9 => gd (kd T a9 = 6) <| Option.bind (fX7_measureSteps T M4 a9) <| un2 fun _u M11 => Option.bind (gR M11 x0 4) fun a12 => gd (kd T a12 = 6) <| Option.bind (gR M11 a12 1) fun a14 => Option.bind (gR M11 x0 5) fun a15 => gd (kd T a15 = 7) <| Option.bind (gR M11 a15 0) fun a17 => gd (kd T a17 = 13) <| gv x1 (ln T a17) <| gd (kd T a14 = 13) <| gv (gI M11 a17 (Int32.toNatClampNeg x1)) (ln T a14) <| some ((gI M11 a14 (Int32.toNatClampNeg (gI M11 a17 (Int32.toNatClampNeg x1)))), M11))) else (some ((-2 : Int32), M))
set_option maxHeartbeats 4000000 in
theorem kX11_steps {l : Launch} {B : Bx} {d : Nat} (hd : 4 ≤ d) {T : Sh} {M : Me} {x0 : Nat} {x1 : Int32} {r : Int32} {M' : Me} (h : fX11_steps T M x0 x1 = some (r, M')) : Kt l B yX11_steps cX11_steps 2 (some .int) d [.ref (x0), .int (x1)] T M (some (.int r)) T M' := by
  refine kt_of wX11_steps (Nat.le_refl _) (Nat.le_refl _) (Nat.le_of_ble_eq_true rfl) (fun X C hR hlx hin => ?_)
  subst hlx
  replace C : Cx X B cX11_steps 2 RX11 d (tp T, sl T, tp T, sl T) := C
  unfold fX11_steps at h
  show G X B 2 _ _ 0 [(0, .ref (x0)), (1, .int (x1))] [] T M
  refine g_aload_n (pc := 0) C dX11_steps_0 rfl 0 rfl ?_
  refine g_iload_n (pc := 1) C dX11_steps_1 rfl 1 rfl ?_
  replace h := gd_some h; obtain ⟨hk1, h⟩ := h
  replace h := bnd h; obtain ⟨r2, h1, h⟩ := h
  refine g_callVi (pc := 2) (As := [.int (x1)]) (st := []) C dX11_steps_2 wX11_noLane hk1 rfl (by decide) q_769 q_20 q_767 (by omega) rfl (Nat.le_of_ble_eq_true rfl) (kX11_noLane (d := 0) (Nat.le_refl _) h1) ?_
  refine g_if_eq (pc := 5) (tgt := 11) C dX11_steps_5 (by decide) (fun c3 => ?_) (fun c3 => ?_)
  · replace h := ifp c3 h
    refine g_aload_n (pc := 11) C dX11_steps_11 rfl 0 rfl ?_
    refine g_iload_n (pc := 12) C dX11_steps_12 rfl 1 rfl ?_
    replace h := bnd2 h; obtain ⟨_u, M4, h1, h⟩ := h
    refine g_callVv (pc := 13) (As := [.int (x1)]) (st := []) C dX11_steps_13 wX11_look hk1 rfl (by decide) q_867 q_28 q_865 (by omega) rfl (Nat.le_of_ble_eq_true rfl) (kX11_look (d := 3) (Nat.le_refl _) h1) ?_
    refine g_aload_n (pc := 16) C dX11_steps_16 rfl 0 rfl ?_
    refine g_get (pc := 17) (v := va_rf (gR M4 x0 4)) C dX11_steps_17 kX11 hk1 4 (by decide) q_428 rfl ?_
    replace h := bnd h; obtain ⟨a5, ea5, h⟩ := h
    refine g_refq ea5 ?_
    replace h := gd_some h; obtain ⟨hk6, h⟩ := h
    replace h := bnd h; obtain ⟨r7, h1, h⟩ := h
    refine g_callVi (pc := 20) (As := []) (st := []) C dX11_steps_20 wX7_cells hk6 rfl (by decide) q_870 q_871 q_869 (by omega) rfl (Nat.le_of_ble_eq_true rfl) (kX7_cells (d := 1) (Nat.le_refl _) h1) ?_
    refine g_if_ne (pc := 23) (tgt := 28) C dX11_steps_23 (by decide) (fun c8 => ?_) (fun c8 => ?_)
    · replace h := ifn c8 h
      refine g_aload_n (pc := 28) C dX11_steps_28 rfl 0 rfl ?_
      refine g_get (pc := 29) (v := va_rf (gR M4 x0 4)) C dX11_steps_29 kX11 hk1 4 (by decide) q_428 rfl ?_
      replace h := bnd h; obtain ⟨a9, ea9, h⟩ := h
      refine g_refq ea9 ?_
      replace h := gd_some h; obtain ⟨hk10, h⟩ := h
      replace h := bnd2 h; obtain ⟨_u, M11, h1, h⟩ := h
      refine g_callVv (pc := 32) (As := []) (st := []) C dX11_steps_32 wX7_measureSteps hk10 rfl (by decide) q_1096 q_1097 q_1095 (by omega) rfl (Nat.le_of_ble_eq_true rfl) (kX7_measureSteps (d := 2) (Nat.le_refl _) h1) ?_
      refine g_aload_n (pc := 35) C dX11_steps_35 rfl 0 rfl ?_
      refine g_get (pc := 36) (v := va_rf (gR M11 x0 4)) C dX11_steps_36 kX11 hk1 4 (by decide) q_428 rfl ?_
      replace h := bnd h; obtain ⟨a12, ea12, h⟩ := h
      refine g_refq ea12 ?_
      replace h := gd_some h; obtain ⟨hk13, h⟩ := h
      refine g_get (pc := 39) (v := va_rf (gR M11 a12 1)) C dX11_steps_39 kX7 hk13 1 (by decide) q_317 rfl ?_
      replace h := bnd h; obtain ⟨a14, ea14, h⟩ := h
      refine g_refq ea14 ?_
      refine g_aload_n (pc := 42) C dX11_steps_42 rfl 0 rfl ?_
      refine g_get (pc := 43) (v := va_rf (gR M11 x0 5)) C dX11_steps_43 kX11 hk1 5 (by decide) q_429 rfl ?_
      replace h := bnd h; obtain ⟨a15, ea15, h⟩ := h
      refine g_refq ea15 ?_
      replace h := gd_some h; obtain ⟨hk16, h⟩ := h
      refine g_get (pc := 46) (v := va_rf (gR M11 a15 0)) C dX11_steps_46 kX8 hk16 0 (by decide) q_375 rfl ?_
      replace h := bnd h; obtain ⟨a17, ea17, h⟩ := h
      refine g_refq ea17 ?_
      refine g_iload_n (pc := 49) C dX11_steps_49 rfl 1 rfl ?_
      replace h := gd_some h; obtain ⟨hk18, h⟩ := h
      replace h := gv_some h; obtain ⟨hi19, h⟩ := h
      refine g_iald (pc := 50) C dX11_steps_50 hk18 hi19 ?_
      replace h := gd_some h; obtain ⟨hk20, h⟩ := h
      replace h := gv_some h; obtain ⟨hi21, h⟩ := h
      refine g_iald (pc := 51) C dX11_steps_51 hk20 hi21 ?_
      obtain ⟨rfl, rfl⟩ := Prod.mk.inj (Option.some.inj h)
      exact g_iret C hR dX11_steps_52
    · replace h := ifp c8 h
      refine g_iconst (pc := 26) (v := (-1)) C dX11_steps_26 (by decide) ?_
      obtain ⟨rfl, rfl⟩ := Prod.mk.inj (Option.some.inj h)
      exact g_iret C hR dX11_steps_27
  · replace h := ifn c3 h
    refine g_bipush (pc := 8) (v := (-2)) C dX11_steps_8 (by decide) ?_
    obtain ⟨rfl, rfl⟩ := Prod.mk.inj (Option.some.inj h)
    exact g_iret C hR dX11_steps_10
theorem dX11_way_0 : decode cX11_way 0 = .ok (.aload_n 0, 1) := by decide +kernel
theorem dX11_way_1 : decode cX11_way 1 = .ok (.iload_n 1, 1) := by decide +kernel
theorem dX11_way_2 : decode cX11_way 2 = .ok (.invokevirtual 107, 3) := by decide +kernel
theorem dX11_way_5 : decode cX11_way 5 = .ok (.ifCond .eq 6, 3) := by decide +kernel
theorem dX11_way_8 : decode cX11_way 8 = .ok (.bipush (-2), 2) := by decide +kernel
theorem dX11_way_10 : decode cX11_way 10 = .ok (.ireturn, 1) := by decide +kernel
theorem dX11_way_11 : decode cX11_way 11 = .ok (.iload_n 2, 1) := by decide +kernel
theorem dX11_way_12 : decode cX11_way 12 = .ok (.ifCond .ge 6, 3) := by decide +kernel
theorem dX11_way_15 : decode cX11_way 15 = .ok (.bipush (-3), 2) := by decide +kernel
theorem dX11_way_17 : decode cX11_way 17 = .ok (.ireturn, 1) := by decide +kernel
theorem dX11_way_18 : decode cX11_way 18 = .ok (.aload_n 0, 1) := by decide +kernel
theorem dX11_way_19 : decode cX11_way 19 = .ok (.iload_n 1, 1) := by decide +kernel
theorem dX11_way_20 : decode cX11_way 20 = .ok (.invokevirtual 218, 3) := by decide +kernel
theorem dX11_way_23 : decode cX11_way 23 = .ok (.aload_n 0, 1) := by decide +kernel
theorem dX11_way_24 : decode cX11_way 24 = .ok (.getfield 35, 3) := by decide +kernel
theorem dX11_way_27 : decode cX11_way 27 = .ok (.invokevirtual 221, 3) := by decide +kernel
theorem dX11_way_30 : decode cX11_way 30 = .ok (.ifCond .ne 5, 3) := by decide +kernel
theorem dX11_way_33 : decode cX11_way 33 = .ok (.iconst (-1), 1) := by decide +kernel
theorem dX11_way_34 : decode cX11_way 34 = .ok (.ireturn, 1) := by decide +kernel
theorem dX11_way_35 : decode cX11_way 35 = .ok (.aload_n 0, 1) := by decide +kernel
theorem dX11_way_36 : decode cX11_way 36 = .ok (.getfield 35, 3) := by decide +kernel
theorem dX11_way_39 : decode cX11_way 39 = .ok (.invokevirtual 303, 3) := by decide +kernel
theorem dX11_way_42 : decode cX11_way 42 = .ok (.iload_n 2, 1) := by decide +kernel
theorem dX11_way_43 : decode cX11_way 43 = .ok (.aload_n 0, 1) := by decide +kernel
theorem dX11_way_44 : decode cX11_way 44 = .ok (.getfield 35, 3) := by decide +kernel
theorem dX11_way_47 : decode cX11_way 47 = .ok (.getfield 306, 3) := by decide +kernel
theorem dX11_way_50 : decode cX11_way 50 = .ok (.aload_n 0, 1) := by decide +kernel
theorem dX11_way_51 : decode cX11_way 51 = .ok (.getfield 42, 3) := by decide +kernel
theorem dX11_way_54 : decode cX11_way 54 = .ok (.getfield 127, 3) := by decide +kernel
theorem dX11_way_57 : decode cX11_way 57 = .ok (.iload_n 1, 1) := by decide +kernel
theorem dX11_way_58 : decode cX11_way 58 = .ok (.iaload, 1) := by decide +kernel
theorem dX11_way_59 : decode cX11_way 59 = .ok (.iaload, 1) := by decide +kernel
theorem dX11_way_60 : decode cX11_way 60 = .ok (.if_icmp .lt 7, 3) := by decide +kernel
theorem dX11_way_63 : decode cX11_way 63 = .ok (.iconst (-1), 1) := by decide +kernel
theorem dX11_way_64 : decode cX11_way 64 = .ok (.goto 20, 3) := by decide +kernel
theorem dX11_way_67 : decode cX11_way 67 = .ok (.aload_n 0, 1) := by decide +kernel
theorem dX11_way_68 : decode cX11_way 68 = .ok (.getfield 35, 3) := by decide +kernel
theorem dX11_way_71 : decode cX11_way 71 = .ok (.aload_n 0, 1) := by decide +kernel
theorem dX11_way_72 : decode cX11_way 72 = .ok (.getfield 42, 3) := by decide +kernel
theorem dX11_way_75 : decode cX11_way 75 = .ok (.getfield 127, 3) := by decide +kernel
theorem dX11_way_78 : decode cX11_way 78 = .ok (.iload_n 1, 1) := by decide +kernel
theorem dX11_way_79 : decode cX11_way 79 = .ok (.iaload, 1) := by decide +kernel
theorem dX11_way_80 : decode cX11_way 80 = .ok (.iload_n 2, 1) := by decide +kernel
theorem dX11_way_81 : decode cX11_way 81 = .ok (.invokevirtual 309, 3) := by decide +kernel
theorem dX11_way_84 : decode cX11_way 84 = .ok (.ireturn, 1) := by decide +kernel
theorem wX11_way : Mw yX11_way cX11_way 3 (some .int) 2 := ⟨q_1106, q_120, by decide, ⟨by decide +kernel, by decide +kernel⟩, by decide +kernel, by decide +kernel⟩
/-- EyeTrainer.way(II)I -/
def fX11_way (T : Sh) (M : Me) (x0 : Nat) (x1 : Int32) (x2 : Int32) : Option (Int32 × Me) :=
  gd (kd T x0 = 10) <| Option.bind (fX11_noLane T M x0 x1) fun r2 => if r2 = 0 then (if 0 ≤ x2 then (Option.bind (fX11_look T M x0 x1) <| un2 fun _u M5 => Option.bind (gR M5 x0 4) fun a6 => gd (kd T a6 = 6) <| Option.bind (fX7_cells T M5 a6) fun r8 => if r8 = 0 then (some ((-1 : Int32), M5)) else (Option.bind (gR M5 x0 4) fun a10 => gd (kd T a10 = 6) <| Option.bind (fX7_measureSteps T M5 a10) <| un2 fun _u M12 => Option.bind (gR M12 x0 4) fun a13 => gd (kd T a13 = 6) <| Option.bind (gR M12 a13 1) fun a15 => Option.bind (gR M12 x0 5) fun a16 => gd (kd T a16 = 7) <| Option.bind (gR M12 a16 0) fun a18 => gd (kd T a18 = 13) <| gv x1 (ln T a18) <| gd (kd T a15 = 13) <| gv (gI M12 a18 (Int32.toNatClampNeg x1)) (ln T a15) <| if x2 < (gI M12 a15 (Int32.toNatClampNeg (gI M12 a18 (Int32.toNatClampNeg x1)))) then (Option.bind (gR M12 x0 4) fun a24 => Option.bind (gR M12 x0 5) fun a25 => gd (kd T a25 = 7) <| Option.bind (gR M12 a25 0) fun a27 => gd (kd T a27 = 13) <| gv x1 (ln T a27) <| gd (kd T a24 = 6) <| Option.bind (fX7_stepOfWay T M12 a24 (gI M12 a27 (Int32.toNatClampNeg x1)) x2) fun r31 => some (r31, M12)) else (some ((-1 : Int32), M12)))) else (some ((-3 : Int32), M))) else (some ((-2 : Int32), M))
set_option maxHeartbeats 4000000 in
theorem kX11_way {l : Launch} {B : Bx} {d : Nat} (hd : 4 ≤ d) {T : Sh} {M : Me} {x0 : Nat} {x1 : Int32} {x2 : Int32} {r : Int32} {M' : Me} (h : fX11_way T M x0 x1 x2 = some (r, M')) : Kt l B yX11_way cX11_way 3 (some .int) d [.ref (x0), .int (x1), .int (x2)] T M (some (.int r)) T M' := by
  refine kt_of wX11_way (Nat.le_refl _) (Nat.le_refl _) (Nat.le_of_ble_eq_true rfl) (fun X C hR hlx hin => ?_)
  subst hlx
  replace C : Cx X B cX11_way 3 RX11 d (tp T, sl T, tp T, sl T) := C
  unfold fX11_way at h
  show G X B 3 _ _ 0 [(0, .ref (x0)), (1, .int (x1)), (2, .int (x2))] [] T M
  refine g_aload_n (pc := 0) C dX11_way_0 rfl 0 rfl ?_
  refine g_iload_n (pc := 1) C dX11_way_1 rfl 1 rfl ?_
  replace h := gd_some h; obtain ⟨hk1, h⟩ := h
  replace h := bnd h; obtain ⟨r2, h1, h⟩ := h
  refine g_callVi (pc := 2) (As := [.int (x1)]) (st := []) C dX11_way_2 wX11_noLane hk1 rfl (by decide) q_769 q_20 q_767 (by omega) rfl (Nat.le_of_ble_eq_true rfl) (kX11_noLane (d := 0) (Nat.le_refl _) h1) ?_
  refine g_if_eq (pc := 5) (tgt := 11) C dX11_way_5 (by decide) (fun c3 => ?_) (fun c3 => ?_)
  · replace h := ifp c3 h
    refine g_iload_n (pc := 11) C dX11_way_11 rfl 2 rfl ?_
    refine g_if_ge (pc := 12) (tgt := 18) C dX11_way_12 (by decide) (fun c4 => ?_) (fun c4 => ?_)
    · replace h := ifp c4 h
      refine g_aload_n (pc := 18) C dX11_way_18 rfl 0 rfl ?_
      refine g_iload_n (pc := 19) C dX11_way_19 rfl 1 rfl ?_
      replace h := bnd2 h; obtain ⟨_u, M5, h1, h⟩ := h
      refine g_callVv (pc := 20) (As := [.int (x1)]) (st := []) C dX11_way_20 wX11_look hk1 rfl (by decide) q_867 q_28 q_865 (by omega) rfl (Nat.le_of_ble_eq_true rfl) (kX11_look (d := 3) (Nat.le_refl _) h1) ?_
      refine g_aload_n (pc := 23) C dX11_way_23 rfl 0 rfl ?_
      refine g_get (pc := 24) (v := va_rf (gR M5 x0 4)) C dX11_way_24 kX11 hk1 4 (by decide) q_428 rfl ?_
      replace h := bnd h; obtain ⟨a6, ea6, h⟩ := h
      refine g_refq ea6 ?_
      replace h := gd_some h; obtain ⟨hk7, h⟩ := h
      replace h := bnd h; obtain ⟨r8, h1, h⟩ := h
      refine g_callVi (pc := 27) (As := []) (st := []) C dX11_way_27 wX7_cells hk7 rfl (by decide) q_870 q_871 q_869 (by omega) rfl (Nat.le_of_ble_eq_true rfl) (kX7_cells (d := 1) (Nat.le_refl _) h1) ?_
      refine g_if_ne (pc := 30) (tgt := 35) C dX11_way_30 (by decide) (fun c9 => ?_) (fun c9 => ?_)
      · replace h := ifn c9 h
        refine g_aload_n (pc := 35) C dX11_way_35 rfl 0 rfl ?_
        refine g_get (pc := 36) (v := va_rf (gR M5 x0 4)) C dX11_way_36 kX11 hk1 4 (by decide) q_428 rfl ?_
        replace h := bnd h; obtain ⟨a10, ea10, h⟩ := h
        refine g_refq ea10 ?_
        replace h := gd_some h; obtain ⟨hk11, h⟩ := h
        replace h := bnd2 h; obtain ⟨_u, M12, h1, h⟩ := h
        refine g_callVv (pc := 39) (As := []) (st := []) C dX11_way_39 wX7_measureSteps hk11 rfl (by decide) q_1096 q_1097 q_1095 (by omega) rfl (Nat.le_of_ble_eq_true rfl) (kX7_measureSteps (d := 2) (Nat.le_refl _) h1) ?_
        refine g_iload_n (pc := 42) C dX11_way_42 rfl 2 rfl ?_
        refine g_aload_n (pc := 43) C dX11_way_43 rfl 0 rfl ?_
        refine g_get (pc := 44) (v := va_rf (gR M12 x0 4)) C dX11_way_44 kX11 hk1 4 (by decide) q_428 rfl ?_
        replace h := bnd h; obtain ⟨a13, ea13, h⟩ := h
        refine g_refq ea13 ?_
        replace h := gd_some h; obtain ⟨hk14, h⟩ := h
        refine g_get (pc := 47) (v := va_rf (gR M12 a13 1)) C dX11_way_47 kX7 hk14 1 (by decide) q_317 rfl ?_
        replace h := bnd h; obtain ⟨a15, ea15, h⟩ := h
        refine g_refq ea15 ?_
        refine g_aload_n (pc := 50) C dX11_way_50 rfl 0 rfl ?_
        refine g_get (pc := 51) (v := va_rf (gR M12 x0 5)) C dX11_way_51 kX11 hk1 5 (by decide) q_429 rfl ?_
        replace h := bnd h; obtain ⟨a16, ea16, h⟩ := h
        refine g_refq ea16 ?_
        replace h := gd_some h; obtain ⟨hk17, h⟩ := h
        refine g_get (pc := 54) (v := va_rf (gR M12 a16 0)) C dX11_way_54 kX8 hk17 0 (by decide) q_375 rfl ?_
        replace h := bnd h; obtain ⟨a18, ea18, h⟩ := h
        refine g_refq ea18 ?_
        refine g_iload_n (pc := 57) C dX11_way_57 rfl 1 rfl ?_
        replace h := gd_some h; obtain ⟨hk19, h⟩ := h
        replace h := gv_some h; obtain ⟨hi20, h⟩ := h
        refine g_iald (pc := 58) C dX11_way_58 hk19 hi20 ?_
        replace h := gd_some h; obtain ⟨hk21, h⟩ := h
        replace h := gv_some h; obtain ⟨hi22, h⟩ := h
        refine g_iald (pc := 59) C dX11_way_59 hk21 hi22 ?_
        refine g_icmp_lt (pc := 60) (tgt := 67) C dX11_way_60 (by decide) (fun c23 => ?_) (fun c23 => ?_)
        · replace h := ifp c23 h
          refine g_aload_n (pc := 67) C dX11_way_67 rfl 0 rfl ?_
          refine g_get (pc := 68) (v := va_rf (gR M12 x0 4)) C dX11_way_68 kX11 hk1 4 (by decide) q_428 rfl ?_
          replace h := bnd h; obtain ⟨a24, ea24, h⟩ := h
          refine g_refq ea24 ?_
          refine g_aload_n (pc := 71) C dX11_way_71 rfl 0 rfl ?_
          refine g_get (pc := 72) (v := va_rf (gR M12 x0 5)) C dX11_way_72 kX11 hk1 5 (by decide) q_429 rfl ?_
          replace h := bnd h; obtain ⟨a25, ea25, h⟩ := h
          refine g_refq ea25 ?_
          replace h := gd_some h; obtain ⟨hk26, h⟩ := h
          refine g_get (pc := 75) (v := va_rf (gR M12 a25 0)) C dX11_way_75 kX8 hk26 0 (by decide) q_375 rfl ?_
          replace h := bnd h; obtain ⟨a27, ea27, h⟩ := h
          refine g_refq ea27 ?_
          refine g_iload_n (pc := 78) C dX11_way_78 rfl 1 rfl ?_
          replace h := gd_some h; obtain ⟨hk28, h⟩ := h
          replace h := gv_some h; obtain ⟨hi29, h⟩ := h
          refine g_iald (pc := 79) C dX11_way_79 hk28 hi29 ?_
          refine g_iload_n (pc := 80) C dX11_way_80 rfl 2 rfl ?_
          replace h := gd_some h; obtain ⟨hk30, h⟩ := h
          replace h := bnd h; obtain ⟨r31, h1, h⟩ := h
          refine g_callVi (pc := 81) (As := [.int (gI M12 a27 (Int32.toNatClampNeg x1)), .int (x2)]) (st := []) C dX11_way_81 wX7_stepOfWay hk30 rfl (by decide) q_1108 q_1109 q_1107 (by omega) rfl (Nat.le_of_ble_eq_true rfl) (kX7_stepOfWay (d := 2) (Nat.le_refl _) h1) ?_
          obtain ⟨rfl, rfl⟩ := Prod.mk.inj (Option.some.inj h)
          exact g_iret C hR dX11_way_84
        · replace h := ifn c23 h
          refine g_iconst (pc := 63) (v := (-1)) C dX11_way_63 (by decide) ?_
          refine g_goto (pc := 64) (tgt := 84) C dX11_way_64 (by decide) ?_
          obtain ⟨rfl, rfl⟩ := Prod.mk.inj (Option.some.inj h)
          exact g_iret C hR dX11_way_84
      · replace h := ifp c9 h
        refine g_iconst (pc := 33) (v := (-1)) C dX11_way_33 (by decide) ?_
        obtain ⟨rfl, rfl⟩ := Prod.mk.inj (Option.some.inj h)
        exact g_iret C hR dX11_way_34
    · replace h := ifn c4 h
      refine g_bipush (pc := 15) (v := (-3)) C dX11_way_15 (by decide) ?_
      obtain ⟨rfl, rfl⟩ := Prod.mk.inj (Option.some.inj h)
      exact g_iret C hR dX11_way_17
  · replace h := ifn c3 h
    refine g_bipush (pc := 8) (v := (-2)) C dX11_way_8 (by decide) ?_
    obtain ⟨rfl, rfl⟩ := Prod.mk.inj (Option.some.inj h)
    exact g_iret C hR dX11_way_10
theorem dX11_ways_0 : decode cX11_ways 0 = .ok (.aload_n 0, 1) := by decide +kernel
theorem dX11_ways_1 : decode cX11_ways 1 = .ok (.iload_n 1, 1) := by decide +kernel
theorem dX11_ways_2 : decode cX11_ways 2 = .ok (.invokevirtual 107, 3) := by decide +kernel
theorem dX11_ways_5 : decode cX11_ways 5 = .ok (.ifCond .eq 7, 3) := by decide +kernel
theorem dX11_ways_8 : decode cX11_ways 8 = .ok (.ldc2_w 312, 3) := by decide +kernel
theorem dX11_ways_11 : decode cX11_ways 11 = .ok (.lreturn, 1) := by decide +kernel
theorem dX11_ways_12 : decode cX11_ways 12 = .ok (.iload_n 2, 1) := by decide +kernel
theorem dX11_ways_13 : decode cX11_ways 13 = .ok (.ifCond .lt 9, 3) := by decide +kernel
theorem dX11_ways_16 : decode cX11_ways 16 = .ok (.iload_n 2, 1) := by decide +kernel
theorem dX11_ways_17 : decode cX11_ways 17 = .ok (.bipush 20, 2) := by decide +kernel
theorem dX11_ways_19 : decode cX11_ways 19 = .ok (.if_icmp .le 7, 3) := by decide +kernel
theorem dX11_ways_22 : decode cX11_ways 22 = .ok (.ldc2_w 314, 3) := by decide +kernel
theorem dX11_ways_25 : decode cX11_ways 25 = .ok (.lreturn, 1) := by decide +kernel
theorem dX11_ways_26 : decode cX11_ways 26 = .ok (.aload_n 0, 1) := by decide +kernel
theorem dX11_ways_27 : decode cX11_ways 27 = .ok (.iload_n 1, 1) := by decide +kernel
theorem dX11_ways_28 : decode cX11_ways 28 = .ok (.invokevirtual 218, 3) := by decide +kernel
theorem dX11_ways_31 : decode cX11_ways 31 = .ok (.aload_n 0, 1) := by decide +kernel
theorem dX11_ways_32 : decode cX11_ways 32 = .ok (.getfield 35, 3) := by decide +kernel
theorem dX11_ways_35 : decode cX11_ways 35 = .ok (.aload_n 0, 1) := by decide +kernel
theorem dX11_ways_36 : decode cX11_ways 36 = .ok (.getfield 42, 3) := by decide +kernel
theorem dX11_ways_39 : decode cX11_ways 39 = .ok (.getfield 127, 3) := by decide +kernel
theorem dX11_ways_42 : decode cX11_ways 42 = .ok (.iload_n 1, 1) := by decide +kernel
theorem dX11_ways_43 : decode cX11_ways 43 = .ok (.iaload, 1) := by decide +kernel
theorem dX11_ways_44 : decode cX11_ways 44 = .ok (.iload_n 2, 1) := by decide +kernel
theorem dX11_ways_45 : decode cX11_ways 45 = .ok (.invokevirtual 316, 3) := by decide +kernel
theorem dX11_ways_48 : decode cX11_ways 48 = .ok (.lreturn, 1) := by decide +kernel
theorem wX11_ways : Mw yX11_ways cX11_ways 3 (some .long) 2 := ⟨q_1118, q_120, by decide, ⟨by decide +kernel, by decide +kernel⟩, by decide +kernel, by decide +kernel⟩
/-- EyeTrainer.ways(II)J -/
def fX11_ways (T : Sh) (M : Me) (x0 : Nat) (x1 : Int32) (x2 : Int32) : Option (Int64 × Me) :=
  gd (kd T x0 = 10) <| Option.bind (fX11_noLane T M x0 x1) fun r2 => if r2 = 0 then (if x2 < 0 then (some ((-3 : Int64), M)) else (if x2 ≤ (20 : Int32) then (Option.bind (fX11_look T M x0 x1) <| un2 fun _u M6 => Option.bind (gR M6 x0 4) fun a7 => Option.bind (gR M6 x0 5) fun a8 => gd (kd T a8 = 7) <| Option.bind (gR M6 a8 0) fun a10 => gd (kd T a10 = 13) <| gv x1 (ln T a10) <| gd (kd T a7 = 6) <| Option.bind (fX7_countWays T M6 a7 (gI M6 a10 (Int32.toNatClampNeg x1)) x2) <| un2 fun r14 M15 => some (r14, M15)) else (some ((-3 : Int64), M)))) else (some ((-2 : Int64), M))
set_option maxHeartbeats 4000000 in
theorem kX11_ways {l : Launch} {B : Bx} {d : Nat} (hd : 4 ≤ d) {T : Sh} {M : Me} {x0 : Nat} {x1 : Int32} {x2 : Int32} {r : Int64} {M' : Me} (h : fX11_ways T M x0 x1 x2 = some (r, M')) : Kt l B yX11_ways cX11_ways 3 (some .long) d [.ref (x0), .int (x1), .int (x2)] T M (some (.long r)) T M' := by
  refine kt_of wX11_ways (Nat.le_refl _) (Nat.le_refl _) (Nat.le_of_ble_eq_true rfl) (fun X C hR hlx hin => ?_)
  subst hlx
  replace C : Cx X B cX11_ways 3 RX11 d (tp T, sl T, tp T, sl T) := C
  unfold fX11_ways at h
  show G X B 3 _ _ 0 [(0, .ref (x0)), (1, .int (x1)), (2, .int (x2))] [] T M
  refine g_aload_n (pc := 0) C dX11_ways_0 rfl 0 rfl ?_
  refine g_iload_n (pc := 1) C dX11_ways_1 rfl 1 rfl ?_
  replace h := gd_some h; obtain ⟨hk1, h⟩ := h
  replace h := bnd h; obtain ⟨r2, h1, h⟩ := h
  refine g_callVi (pc := 2) (As := [.int (x1)]) (st := []) C dX11_ways_2 wX11_noLane hk1 rfl (by decide) q_769 q_20 q_767 (by omega) rfl (Nat.le_of_ble_eq_true rfl) (kX11_noLane (d := 0) (Nat.le_refl _) h1) ?_
  refine g_if_eq (pc := 5) (tgt := 12) C dX11_ways_5 (by decide) (fun c3 => ?_) (fun c3 => ?_)
  · replace h := ifp c3 h
    refine g_iload_n (pc := 12) C dX11_ways_12 rfl 2 rfl ?_
    refine g_if_lt (pc := 13) (tgt := 22) C dX11_ways_13 (by decide) (fun c4 => ?_) (fun c4 => ?_)
    · replace h := ifp c4 h
      refine g_ldc2 (pc := 22) C dX11_ways_22 q_1120 ?_
      obtain ⟨rfl, rfl⟩ := Prod.mk.inj (Option.some.inj h)
      exact g_lret C hR dX11_ways_25
    · replace h := ifn c4 h
      refine g_iload_n (pc := 16) C dX11_ways_16 rfl 2 rfl ?_
      refine g_bipush (pc := 17) (v := 20) C dX11_ways_17 (by decide) ?_
      refine g_icmp_le (pc := 19) (tgt := 26) C dX11_ways_19 (by decide) (fun c5 => ?_) (fun c5 => ?_)
      · replace h := ifp c5 h
        refine g_aload_n (pc := 26) C dX11_ways_26 rfl 0 rfl ?_
        refine g_iload_n (pc := 27) C dX11_ways_27 rfl 1 rfl ?_
        replace h := bnd2 h; obtain ⟨_u, M6, h1, h⟩ := h
        refine g_callVv (pc := 28) (As := [.int (x1)]) (st := []) C dX11_ways_28 wX11_look hk1 rfl (by decide) q_867 q_28 q_865 (by omega) rfl (Nat.le_of_ble_eq_true rfl) (kX11_look (d := 3) (Nat.le_refl _) h1) ?_
        refine g_aload_n (pc := 31) C dX11_ways_31 rfl 0 rfl ?_
        refine g_get (pc := 32) (v := va_rf (gR M6 x0 4)) C dX11_ways_32 kX11 hk1 4 (by decide) q_428 rfl ?_
        replace h := bnd h; obtain ⟨a7, ea7, h⟩ := h
        refine g_refq ea7 ?_
        refine g_aload_n (pc := 35) C dX11_ways_35 rfl 0 rfl ?_
        refine g_get (pc := 36) (v := va_rf (gR M6 x0 5)) C dX11_ways_36 kX11 hk1 5 (by decide) q_429 rfl ?_
        replace h := bnd h; obtain ⟨a8, ea8, h⟩ := h
        refine g_refq ea8 ?_
        replace h := gd_some h; obtain ⟨hk9, h⟩ := h
        refine g_get (pc := 39) (v := va_rf (gR M6 a8 0)) C dX11_ways_39 kX8 hk9 0 (by decide) q_375 rfl ?_
        replace h := bnd h; obtain ⟨a10, ea10, h⟩ := h
        refine g_refq ea10 ?_
        refine g_iload_n (pc := 42) C dX11_ways_42 rfl 1 rfl ?_
        replace h := gd_some h; obtain ⟨hk11, h⟩ := h
        replace h := gv_some h; obtain ⟨hi12, h⟩ := h
        refine g_iald (pc := 43) C dX11_ways_43 hk11 hi12 ?_
        refine g_iload_n (pc := 44) C dX11_ways_44 rfl 2 rfl ?_
        replace h := gd_some h; obtain ⟨hk13, h⟩ := h
        replace h := bnd2 h; obtain ⟨r14, M15, h1, h⟩ := h
        refine g_callVl (pc := 45) (As := [.int (gI M6 a10 (Int32.toNatClampNeg x1)), .int (x2)]) (st := []) C dX11_ways_45 wX7_countWays hk13 rfl (by decide) q_1122 q_1123 q_1121 (by omega) rfl (Nat.le_of_ble_eq_true rfl) (kX7_countWays (d := 2) (Nat.le_refl _) h1) ?_
        obtain ⟨rfl, rfl⟩ := Prod.mk.inj (Option.some.inj h)
        exact g_lret C hR dX11_ways_48
      · replace h := ifn c5 h
        refine g_ldc2 (pc := 22) C dX11_ways_22 q_1120 ?_
        obtain ⟨rfl, rfl⟩ := Prod.mk.inj (Option.some.inj h)
        exact g_lret C hR dX11_ways_25
  · replace h := ifn c3 h
    refine g_ldc2 (pc := 8) C dX11_ways_8 q_1119 ?_
    obtain ⟨rfl, rfl⟩ := Prod.mk.inj (Option.some.inj h)
    exact g_lret C hR dX11_ways_11
theorem dX11_drifts_0 : decode cX11_drifts 0 = .ok (.aload_n 0, 1) := by decide +kernel
theorem dX11_drifts_1 : decode cX11_drifts 1 = .ok (.iload_n 1, 1) := by decide +kernel
theorem dX11_drifts_2 : decode cX11_drifts 2 = .ok (.iload_n 2, 1) := by decide +kernel
theorem dX11_drifts_3 : decode cX11_drifts 3 = .ok (.invokevirtual 320, 3) := by decide +kernel
theorem dX11_drifts_6 : decode cX11_drifts 6 = .ok (.istore_n 3, 1) := by decide +kernel
theorem dX11_drifts_7 : decode cX11_drifts 7 = .ok (.iload_n 3, 1) := by decide +kernel
theorem dX11_drifts_8 : decode cX11_drifts 8 = .ok (.ifCond .eq 7, 3) := by decide +kernel
theorem dX11_drifts_11 : decode cX11_drifts 11 = .ok (.iload_n 3, 1) := by decide +kernel
theorem dX11_drifts_12 : decode cX11_drifts 12 = .ok (.goto 14, 3) := by decide +kernel
theorem dX11_drifts_15 : decode cX11_drifts 15 = .ok (.aload_n 0, 1) := by decide +kernel
theorem dX11_drifts_16 : decode cX11_drifts 16 = .ok (.aload_n 0, 1) := by decide +kernel
theorem dX11_drifts_17 : decode cX11_drifts 17 = .ok (.getfield 55, 3) := by decide +kernel
theorem dX11_drifts_20 : decode cX11_drifts 20 = .ok (.iload_n 1, 1) := by decide +kernel
theorem dX11_drifts_21 : decode cX11_drifts 21 = .ok (.aaload, 1) := by decide +kernel
theorem dX11_drifts_22 : decode cX11_drifts 22 = .ok (.iload_n 2, 1) := by decide +kernel
theorem dX11_drifts_23 : decode cX11_drifts 23 = .ok (.invokevirtual 323, 3) := by decide +kernel
theorem dX11_drifts_26 : decode cX11_drifts 26 = .ok (.ireturn, 1) := by decide +kernel
theorem wX11_drifts : Mw yX11_drifts cX11_drifts 4 (some .int) 2 := ⟨q_1138, q_120, by decide, ⟨by decide +kernel, by decide +kernel⟩, by decide +kernel, by decide +kernel⟩
/-- EyeTrainer.drifts(II)I -/
def fX11_drifts (T : Sh) (M : Me) (x0 : Nat) (x1 : Int32) (x2 : Int32) : Option (Int32 × Me) :=
  gd (kd T x0 = 10) <| Option.bind (fX11_unseen T M x0 x1 x2) fun r2 => if r2 = 0 then (Option.bind (gR M x0 9) fun a4 => gd (kd T a4 = 18) <| gv x1 (ln T a4) <| Option.bind (gR M a4 (Int32.toNatClampNeg x1)) fun a7 => Option.bind (fX11_seenDrifts T M x0 a7 x2) <| un2 fun r8 M9 => some (r8, M9)) else (some (r2, M))
set_option maxHeartbeats 4000000 in
theorem kX11_drifts {l : Launch} {B : Bx} {d : Nat} (hd : 5 ≤ d) {T : Sh} {M : Me} {x0 : Nat} {x1 : Int32} {x2 : Int32} {r : Int32} {M' : Me} (h : fX11_drifts T M x0 x1 x2 = some (r, M')) : Kt l B yX11_drifts cX11_drifts 4 (some .int) d [.ref (x0), .int (x1), .int (x2)] T M (some (.int r)) T M' := by
  refine kt_of wX11_drifts (Nat.le_refl _) (Nat.le_refl _) (Nat.le_of_ble_eq_true rfl) (fun X C hR hlx hin => ?_)
  subst hlx
  replace C : Cx X B cX11_drifts 4 RX11 d (tp T, sl T, tp T, sl T) := C
  unfold fX11_drifts at h
  show G X B 4 _ _ 0 [(0, .ref (x0)), (1, .int (x1)), (2, .int (x2))] [] T M
  refine g_aload_n (pc := 0) C dX11_drifts_0 rfl 0 rfl ?_
  refine g_iload_n (pc := 1) C dX11_drifts_1 rfl 1 rfl ?_
  refine g_iload_n (pc := 2) C dX11_drifts_2 rfl 2 rfl ?_
  replace h := gd_some h; obtain ⟨hk1, h⟩ := h
  replace h := bnd h; obtain ⟨r2, h1, h⟩ := h
  refine g_callVi (pc := 3) (As := [.int (x1), .int (x2)]) (st := []) C dX11_drifts_3 wX11_unseen hk1 rfl (by decide) q_1141 q_46 q_1139 (by omega) rfl (Nat.le_of_ble_eq_true rfl) (kX11_unseen (d := 1) (Nat.le_refl _) h1) ?_
  refine g_istore_n (pc := 6) (lo2 := [(3, .int (r2)), (0, .ref (x0)), (1, .int (x1)), (2, .int (x2))]) C dX11_drifts_6 rfl (by decide) rfl ?_
  refine g_iload_n (pc := 7) C dX11_drifts_7 rfl 0 rfl ?_
  refine g_if_eq (pc := 8) (tgt := 15) C dX11_drifts_8 (by decide) (fun c3 => ?_) (fun c3 => ?_)
  · replace h := ifp c3 h
    refine g_aload_n (pc := 15) C dX11_drifts_15 rfl 1 rfl ?_
    refine g_aload_n (pc := 16) C dX11_drifts_16 rfl 1 rfl ?_
    refine g_get (pc := 17) (v := va_rf (gR M x0 9)) C dX11_drifts_17 kX11 hk1 9 (by decide) q_433 rfl ?_
    replace h := bnd h; obtain ⟨a4, ea4, h⟩ := h
    refine g_refq ea4 ?_
    refine g_iload_n (pc := 20) C dX11_drifts_20 rfl 2 rfl ?_
    replace h := gd_some h; obtain ⟨hk5, h⟩ := h
    replace h := gv_some h; obtain ⟨hi6, h⟩ := h
    refine g_aald18 (pc := 21) C dX11_drifts_21 hk5 hi6 ?_
    replace h := bnd h; obtain ⟨a7, ea7, h⟩ := h
    refine g_refq ea7 ?_
    refine g_iload_n (pc := 22) C dX11_drifts_22 rfl 3 rfl ?_
    replace h := bnd2 h; obtain ⟨r8, M9, h1, h⟩ := h
    refine g_callVi (pc := 23) (As := [.ref (a7), .int (x2)]) (st := []) C dX11_drifts_23 wX11_seenDrifts hk1 rfl (by decide) q_1146 q_47 q_1144 (by omega) rfl (Nat.le_of_ble_eq_true rfl) (kX11_seenDrifts (d := 4) (Nat.le_refl _) h1) ?_
    obtain ⟨rfl, rfl⟩ := Prod.mk.inj (Option.some.inj h)
    exact g_iret C hR dX11_drifts_26
  · replace h := ifn c3 h
    refine g_iload_n (pc := 11) C dX11_drifts_11 rfl 0 rfl ?_
    refine g_goto (pc := 12) (tgt := 26) C dX11_drifts_12 (by decide) ?_
    obtain ⟨rfl, rfl⟩ := Prod.mk.inj (Option.some.inj h)
    exact g_iret C hR dX11_drifts_26
theorem dX11_attempt_0 : decode cX11_attempt 0 = .ok (.aload_n 0, 1) := by decide +kernel
theorem dX11_attempt_1 : decode cX11_attempt 1 = .ok (.iload_n 1, 1) := by decide +kernel
theorem dX11_attempt_2 : decode cX11_attempt 2 = .ok (.iload_n 2, 1) := by decide +kernel
theorem dX11_attempt_3 : decode cX11_attempt 3 = .ok (.invokevirtual 320, 3) := by decide +kernel
theorem dX11_attempt_6 : decode cX11_attempt 6 = .ok (.istore_n 3, 1) := by decide +kernel
theorem dX11_attempt_7 : decode cX11_attempt 7 = .ok (.iload_n 3, 1) := by decide +kernel
theorem dX11_attempt_8 : decode cX11_attempt 8 = .ok (.ifCond .eq 5, 3) := by decide +kernel
theorem dX11_attempt_11 : decode cX11_attempt 11 = .ok (.iload_n 3, 1) := by decide +kernel
theorem dX11_attempt_12 : decode cX11_attempt 12 = .ok (.ireturn, 1) := by decide +kernel
theorem dX11_attempt_13 : decode cX11_attempt 13 = .ok (.aload_n 0, 1) := by decide +kernel
theorem dX11_attempt_14 : decode cX11_attempt 14 = .ok (.aload_n 0, 1) := by decide +kernel
theorem dX11_attempt_15 : decode cX11_attempt 15 = .ok (.getfield 55, 3) := by decide +kernel
theorem dX11_attempt_18 : decode cX11_attempt 18 = .ok (.iload_n 1, 1) := by decide +kernel
theorem dX11_attempt_19 : decode cX11_attempt 19 = .ok (.aaload, 1) := by decide +kernel
theorem dX11_attempt_20 : decode cX11_attempt 20 = .ok (.iload_n 2, 1) := by decide +kernel
theorem dX11_attempt_21 : decode cX11_attempt 21 = .ok (.invokevirtual 323, 3) := by decide +kernel
theorem dX11_attempt_24 : decode cX11_attempt 24 = .ok (.istore 4, 2) := by decide +kernel
theorem dX11_attempt_26 : decode cX11_attempt 26 = .ok (.bipush 32, 2) := by decide +kernel
theorem dX11_attempt_28 : decode cX11_attempt 28 = .ok (.istore 5, 2) := by decide +kernel
theorem dX11_attempt_30 : decode cX11_attempt 30 = .ok (.iconst (-1), 1) := by decide +kernel
theorem dX11_attempt_31 : decode cX11_attempt 31 = .ok (.istore 6, 2) := by decide +kernel
theorem dX11_attempt_33 : decode cX11_attempt 33 = .ok (.iconst 0, 1) := by decide +kernel
theorem dX11_attempt_34 : decode cX11_attempt 34 = .ok (.istore 7, 2) := by decide +kernel
theorem dX11_attempt_36 : decode cX11_attempt 36 = .ok (.iload 7, 2) := by decide +kernel
theorem dX11_attempt_38 : decode cX11_attempt 38 = .ok (.bipush 16, 2) := by decide +kernel
theorem dX11_attempt_40 : decode cX11_attempt 40 = .ok (.if_icmp .ge 85, 3) := by decide +kernel
theorem dX11_attempt_43 : decode cX11_attempt 43 = .ok (.iload 4, 2) := by decide +kernel
theorem dX11_attempt_45 : decode cX11_attempt 45 = .ok (.ifCond .eq 80, 3) := by decide +kernel
theorem dX11_attempt_48 : decode cX11_attempt 48 = .ok (.aload_n 0, 1) := by decide +kernel
theorem dX11_attempt_49 : decode cX11_attempt 49 = .ok (.iload_n 2, 1) := by decide +kernel
theorem dX11_attempt_50 : decode cX11_attempt 50 = .ok (.iload 7, 2) := by decide +kernel
theorem dX11_attempt_52 : decode cX11_attempt 52 = .ok (.iload 4, 2) := by decide +kernel
theorem dX11_attempt_54 : decode cX11_attempt 54 = .ok (.invokevirtual 327, 3) := by decide +kernel
theorem dX11_attempt_57 : decode cX11_attempt 57 = .ok (.iconst 0, 1) := by decide +kernel
theorem dX11_attempt_58 : decode cX11_attempt 58 = .ok (.istore 8, 2) := by decide +kernel
theorem dX11_attempt_60 : decode cX11_attempt 60 = .ok (.iload 8, 2) := by decide +kernel
theorem dX11_attempt_62 : decode cX11_attempt 62 = .ok (.bipush 24, 2) := by decide +kernel
theorem dX11_attempt_64 : decode cX11_attempt 64 = .ok (.if_icmp .ge 55, 3) := by decide +kernel
theorem dX11_attempt_67 : decode cX11_attempt 67 = .ok (.aload_n 0, 1) := by decide +kernel
theorem dX11_attempt_68 : decode cX11_attempt 68 = .ok (.getfield 67, 3) := by decide +kernel
theorem dX11_attempt_71 : decode cX11_attempt 71 = .ok (.iload 8, 2) := by decide +kernel
theorem dX11_attempt_73 : decode cX11_attempt 73 = .ok (.iaload, 1) := by decide +kernel
theorem dX11_attempt_74 : decode cX11_attempt 74 = .ok (.iload 4, 2) := by decide +kernel
theorem dX11_attempt_76 : decode cX11_attempt 76 = .ok (.invokestatic 168, 3) := by decide +kernel
theorem dX11_attempt_79 : decode cX11_attempt 79 = .ok (.aload_n 0, 1) := by decide +kernel
theorem dX11_attempt_80 : decode cX11_attempt 80 = .ok (.getfield 67, 3) := by decide +kernel
theorem dX11_attempt_83 : decode cX11_attempt 83 = .ok (.iload 8, 2) := by decide +kernel
theorem dX11_attempt_85 : decode cX11_attempt 85 = .ok (.iaload, 1) := by decide +kernel
theorem dX11_attempt_86 : decode cX11_attempt 86 = .ok (.isub, 1) := by decide +kernel
theorem dX11_attempt_87 : decode cX11_attempt 87 = .ok (.invokestatic 275, 3) := by decide +kernel
theorem dX11_attempt_90 : decode cX11_attempt 90 = .ok (.istore 9, 2) := by decide +kernel
theorem dX11_attempt_92 : decode cX11_attempt 92 = .ok (.iload 9, 2) := by decide +kernel
theorem dX11_attempt_94 : decode cX11_attempt 94 = .ok (.iload 5, 2) := by decide +kernel
theorem dX11_attempt_96 : decode cX11_attempt 96 = .ok (.if_icmp .ge 17, 3) := by decide +kernel
theorem dX11_attempt_99 : decode cX11_attempt 99 = .ok (.iload 9, 2) := by decide +kernel
theorem dX11_attempt_101 : decode cX11_attempt 101 = .ok (.istore 5, 2) := by decide +kernel
theorem dX11_attempt_103 : decode cX11_attempt 103 = .ok (.iload 7, 2) := by decide +kernel
theorem dX11_attempt_105 : decode cX11_attempt 105 = .ok (.bipush 24, 2) := by decide +kernel
theorem dX11_attempt_107 : decode cX11_attempt 107 = .ok (.imul, 1) := by decide +kernel
theorem dX11_attempt_108 : decode cX11_attempt 108 = .ok (.iload 8, 2) := by decide +kernel
theorem dX11_attempt_110 : decode cX11_attempt 110 = .ok (.iadd, 1) := by decide +kernel
theorem dX11_attempt_111 : decode cX11_attempt 111 = .ok (.istore 6, 2) := by decide +kernel
theorem dX11_attempt_113 : decode cX11_attempt 113 = .ok (.iinc 8 1, 3) := by decide +kernel
theorem dX11_attempt_116 : decode cX11_attempt 116 = .ok (.goto (-56), 3) := by decide +kernel
theorem dX11_attempt_119 : decode cX11_attempt 119 = .ok (.iinc 7 1, 3) := by decide +kernel
theorem dX11_attempt_122 : decode cX11_attempt 122 = .ok (.goto (-86), 3) := by decide +kernel
theorem dX11_attempt_125 : decode cX11_attempt 125 = .ok (.iload 6, 2) := by decide +kernel
theorem dX11_attempt_127 : decode cX11_attempt 127 = .ok (.ireturn, 1) := by decide +kernel
theorem wX11_attempt : Mw yX11_attempt cX11_attempt 10 (some .int) 2 := ⟨q_1155, q_120, by decide, ⟨by decide +kernel, by decide +kernel⟩, by decide +kernel, by decide +kernel⟩
-- a loop of EyeTrainer.attempt at 36
-- a loop of EyeTrainer.attempt at 60
def bX11_attempt_60 (T : Sh) (M : Me) (x0 : Nat) (x2 : Int32) (x4 : Int32) (x7 : Int32) (x5 : Int32) (x6 : Int32) (x8 : Int32) : Option ((Int32 × Int32 × Int32) ⊕ ((Int32 × Int32))) :=
  if (24 : Int32) ≤ x8 then (some (.inr (x5, x6))) else (gd (kd T x0 = 10) <| Option.bind (gR M x0 11) fun a16 => gd (kd T a16 = 13) <| gv x8 (ln T a16) <| Option.bind (fJ6_bitCount_0f7a4 x4) fun r19 => Option.bind (gR M x0 11) fun a20 => gd (kd T a20 = 13) <| gv x8 (ln T a20) <| Option.bind (fJ9_max_7cf53 (gI M a16 (Int32.toNatClampNeg x8)) (r19 - (gI M a20 (Int32.toNatClampNeg x8)))) fun r23 => if x5 ≤ r23 then (lt (x8 + (1 : Int32)) fun v25 => some (.inl (x5, x6, v25))) else (lt ((x7 * (24 : Int32)) + x8) fun v26 => lt (x8 + (1 : Int32)) fun v27 => some (.inl (r23, v26, v27))))
def PX11_attempt_60 (X : Fx) (B : Bx) (Z : Nat × Nat × Nat × Nat) (Q : State → Prop) (T : Sh) (M : Me) (x0 : Nat) (x2 : Int32) (x4 : Int32) (x7 : Int32) (s : Int32 × Int32 × Int32) : Prop := G X B 10 Z Q 60 [(0, .ref (x0)), (2, .int (x2)), (4, .int (x4)), (5, .int (s.1)), (6, .int (s.2.1)), (7, .int (x7)), (8, .int (s.2.2))] [] T M
def EX11_attempt_60 (X : Fx) (B : Bx) (Z : Nat × Nat × Nat × Nat) (Q : State → Prop) (T : Sh) (M : Me) (x0 : Nat) (x2 : Int32) (x4 : Int32) (x7 : Int32) (r : (Int32 × Int32)) : Prop := G X B 10 Z Q 119 [(0, .ref (x0)), (2, .int (x2)), (4, .int (x4)), (5, .int (r.1)), (6, .int (r.2)), (7, .int (x7))] [] T M
set_option maxHeartbeats 4000000 in
theorem tbX11_attempt_60 {X : Fx} {B : Bx} {Z : Nat × Nat × Nat × Nat} {Q : State → Prop} {d : Nat} {T : Sh} {M : Me} (C : Cx X B cX11_attempt 10 RX11 d Z) (hd : 5 ≤ d) {x0 : Nat} {x2 : Int32} {x4 : Int32} {x7 : Int32} : ∀ (s : Int32 × Int32 × Int32) (o : (Int32 × Int32 × Int32) ⊕ ((Int32 × Int32))), bX11_attempt_60 T M x0 x2 x4 x7 s.1 s.2.1 s.2.2 = some o → lpE (PX11_attempt_60 X B Z Q T M x0 x2 x4 x7) (EX11_attempt_60 X B Z Q T M x0 x2 x4 x7) o → PX11_attempt_60 X B Z Q T M x0 x2 x4 x7 s := by
  rintro ⟨x5, x6, x8⟩ o h hE
  replace h : bX11_attempt_60 T M x0 x2 x4 x7 x5 x6 x8 = some o := h
  unfold bX11_attempt_60 at h
  show G X B 10 Z Q 60 [(0, .ref (x0)), (2, .int (x2)), (4, .int (x4)), (5, .int (x5)), (6, .int (x6)), (7, .int (x7)), (8, .int (x8))] [] T M
  refine g_iload (pc := 60) C dX11_attempt_60 6 rfl ?_
  refine g_bipush (pc := 62) (v := 24) C dX11_attempt_62 (by decide) ?_
  refine g_icmp_ge (pc := 64) (tgt := 119) C dX11_attempt_64 (by decide) (fun c14 => ?_) (fun c14 => ?_)
  · replace h := ifp c14 h
    obtain rfl := Option.some.inj h
    exact g_sub [0, 1, 2, 3, 4, 5] rfl (show G X B 10 Z Q 119 [(0, .ref (x0)), (2, .int (x2)), (4, .int (x4)), (5, .int (x5)), (6, .int (x6)), (7, .int (x7))] [] T M from hE)
  · replace h := ifn c14 h
    refine g_aload_n (pc := 67) C dX11_attempt_67 rfl 0 rfl ?_
    replace h := gd_some h; obtain ⟨hk15, h⟩ := h
    refine g_get (pc := 68) (v := va_rf (gR M x0 11)) C dX11_attempt_68 kX11 hk15 11 (by decide) q_435 rfl ?_
    replace h := bnd h; obtain ⟨a16, ea16, h⟩ := h
    refine g_refq ea16 ?_
    refine g_iload (pc := 71) C dX11_attempt_71 6 rfl ?_
    replace h := gd_some h; obtain ⟨hk17, h⟩ := h
    replace h := gv_some h; obtain ⟨hi18, h⟩ := h
    refine g_iald (pc := 73) C dX11_attempt_73 hk17 hi18 ?_
    refine g_iload (pc := 74) C dX11_attempt_74 2 rfl ?_
    replace h := bnd h; obtain ⟨r19, h1, h⟩ := h
    refine g_callSi (pc := 76) (As := [.int (x4)]) (st := [.int (gI M a16 (Int32.toNatClampNeg x8))]) C dX11_attempt_76 wJ6_bitCount_0f7a4 q_874 q_923 (by omega) rfl (Nat.le_of_ble_eq_true rfl) (kJ6_bitCount_0f7a4 (d := 0) (Nat.le_refl _) h1) ?_
    refine g_aload_n (pc := 79) C dX11_attempt_79 rfl 0 rfl ?_
    refine g_get (pc := 80) (v := va_rf (gR M x0 11)) C dX11_attempt_80 kX11 hk15 11 (by decide) q_435 rfl ?_
    replace h := bnd h; obtain ⟨a20, ea20, h⟩ := h
    refine g_refq ea20 ?_
    refine g_iload (pc := 83) C dX11_attempt_83 6 rfl ?_
    replace h := gd_some h; obtain ⟨hk21, h⟩ := h
    replace h := gv_some h; obtain ⟨hi22, h⟩ := h
    refine g_iald (pc := 85) C dX11_attempt_85 hk21 hi22 ?_
    refine g_isub (pc := 86) C dX11_attempt_86 ?_
    replace h := bnd h; obtain ⟨r23, h1, h⟩ := h
    refine g_callSi (pc := 87) (As := [.int (gI M a16 (Int32.toNatClampNeg x8)), .int (r19 - (gI M a20 (Int32.toNatClampNeg x8)))]) (st := []) C dX11_attempt_87 wJ9_max_7cf53 q_606 q_1055 (by omega) rfl (Nat.le_of_ble_eq_true rfl) (kJ9_max_7cf53 (d := 0) (Nat.le_refl _) h1) ?_
    refine g_istore (pc := 90) (lo2 := [(9, .int (r23)), (0, .ref (x0)), (2, .int (x2)), (4, .int (x4)), (5, .int (x5)), (6, .int (x6)), (7, .int (x7)), (8, .int (x8))]) C dX11_attempt_90 (by decide) rfl ?_
    refine g_iload (pc := 92) C dX11_attempt_92 0 rfl ?_
    refine g_iload (pc := 94) C dX11_attempt_94 4 rfl ?_
    refine g_icmp_ge (pc := 96) (tgt := 113) C dX11_attempt_96 (by decide) (fun c24 => ?_) (fun c24 => ?_)
    · replace h := ifp c24 h
      obtain ⟨v25, ev25⟩ : ∃ y : Int32, y = x8 + (1 : Int32) := ⟨_, rfl⟩
      replace h := lt_at ev25 h
      refine g_iinc (pc := 113) (v := v25) (k := 7) (lo2 := [(8, .int (v25)), (9, .int (r23)), (0, .ref (x0)), (2, .int (x2)), (4, .int (x4)), (5, .int (x5)), (6, .int (x6)), (7, .int (x7))]) C dX11_attempt_113 rfl (by rw [ev25]; rfl) (by decide) rfl ?_
      refine g_goto (pc := 116) (tgt := 60) C dX11_attempt_116 (by decide) ?_
      obtain rfl := Option.some.inj h
      exact g_sub [2, 3, 4, 5, 6, 7, 0] rfl (show G X B 10 Z Q 60 [(0, .ref (x0)), (2, .int (x2)), (4, .int (x4)), (5, .int (x5)), (6, .int (x6)), (7, .int (x7)), (8, .int (v25))] [] T M from hE)
    · replace h := ifn c24 h
      refine g_iload (pc := 99) C dX11_attempt_99 0 rfl ?_
      refine g_istore (pc := 101) (lo2 := [(5, .int (r23)), (9, .int (r23)), (0, .ref (x0)), (2, .int (x2)), (4, .int (x4)), (6, .int (x6)), (7, .int (x7)), (8, .int (x8))]) C dX11_attempt_101 (by decide) rfl ?_
      refine g_iload (pc := 103) C dX11_attempt_103 6 rfl ?_
      refine g_bipush (pc := 105) (v := 24) C dX11_attempt_105 (by decide) ?_
      refine g_imul (pc := 107) C dX11_attempt_107 ?_
      refine g_iload (pc := 108) C dX11_attempt_108 7 rfl ?_
      refine g_iadd (pc := 110) C dX11_attempt_110 ?_
      refine g_topi (fun v26 ev26 => ?_)
      replace h := lt_at ev26 h
      refine g_istore (pc := 111) (lo2 := [(6, .int (v26)), (5, .int (r23)), (9, .int (r23)), (0, .ref (x0)), (2, .int (x2)), (4, .int (x4)), (7, .int (x7)), (8, .int (x8))]) C dX11_attempt_111 (by decide) rfl ?_
      obtain ⟨v27, ev27⟩ : ∃ y : Int32, y = x8 + (1 : Int32) := ⟨_, rfl⟩
      replace h := lt_at ev27 h
      refine g_iinc (pc := 113) (v := v27) (k := 7) (lo2 := [(8, .int (v27)), (6, .int (v26)), (5, .int (r23)), (9, .int (r23)), (0, .ref (x0)), (2, .int (x2)), (4, .int (x4)), (7, .int (x7))]) C dX11_attempt_113 rfl (by rw [ev27]; rfl) (by decide) rfl ?_
      refine g_goto (pc := 116) (tgt := 60) C dX11_attempt_116 (by decide) ?_
      obtain rfl := Option.some.inj h
      exact g_sub [4, 5, 6, 2, 1, 7, 0] rfl (show G X B 10 Z Q 60 [(0, .ref (x0)), (2, .int (x2)), (4, .int (x4)), (5, .int (r23)), (6, .int (v26)), (7, .int (x7)), (8, .int (v27))] [] T M from hE)
def bX11_attempt_36 (T : Sh) (x0 : Nat) (x2 : Int32) (x4 : Int32) (x5 : Int32) (x6 : Int32) (x7 : Int32) (M : Me) : Option ((Int32 × Int32 × Int32 × Me) ⊕ ((Int32 × Me))) :=
  if (16 : Int32) ≤ x7 then (some (.inr (x6, M))) else (if x4 = 0 then (some (.inr (x6, M))) else (gd (kd T x0 = 10) <| Option.bind (fX11_countPassing T M x0 x2 x7 x4) <| un2 fun _u M13 => (lp FU (fun s => bX11_attempt_60 T M13 x0 x2 x4 x7 s.1 s.2.1 s.2.2) (x5, x6, (0 : Int32))).bind (un2 fun x5_28 x6_29 => lt (x7 + (1 : Int32)) fun v30 => some (.inl (x5_28, x6_29, v30, M13)))))
def PX11_attempt_36 (X : Fx) (B : Bx) (Z : Nat × Nat × Nat × Nat) (Q : State → Prop) (T : Sh) (x0 : Nat) (x2 : Int32) (x4 : Int32) (s : Int32 × Int32 × Int32 × Me) : Prop := G X B 10 Z Q 36 [(0, .ref (x0)), (2, .int (x2)), (4, .int (x4)), (5, .int (s.1)), (6, .int (s.2.1)), (7, .int (s.2.2.1))] [] T s.2.2.2
def EX11_attempt_36 (X : Fx) (B : Bx) (Z : Nat × Nat × Nat × Nat) (Q : State → Prop) (T : Sh) (x0 : Nat) (x2 : Int32) (x4 : Int32) (r : (Int32 × Me)) : Prop := G X B 10 Z Q 125 [(6, .int (r.1))] [] T r.2
set_option maxHeartbeats 4000000 in
theorem tbX11_attempt_36 {X : Fx} {B : Bx} {Z : Nat × Nat × Nat × Nat} {Q : State → Prop} {d : Nat} {T : Sh} (C : Cx X B cX11_attempt 10 RX11 d Z) (hd : 5 ≤ d) {x0 : Nat} {x2 : Int32} {x4 : Int32} : ∀ (s : Int32 × Int32 × Int32 × Me) (o : (Int32 × Int32 × Int32 × Me) ⊕ ((Int32 × Me))), bX11_attempt_36 T x0 x2 x4 s.1 s.2.1 s.2.2.1 s.2.2.2 = some o → lpE (PX11_attempt_36 X B Z Q T x0 x2 x4) (EX11_attempt_36 X B Z Q T x0 x2 x4) o → PX11_attempt_36 X B Z Q T x0 x2 x4 s := by
  rintro ⟨x5, x6, x7, M⟩ o h hE
  replace h : bX11_attempt_36 T x0 x2 x4 x5 x6 x7 M = some o := h
  unfold bX11_attempt_36 at h
  show G X B 10 Z Q 36 [(0, .ref (x0)), (2, .int (x2)), (4, .int (x4)), (5, .int (x5)), (6, .int (x6)), (7, .int (x7))] [] T M
  refine g_iload (pc := 36) C dX11_attempt_36 5 rfl ?_
  refine g_bipush (pc := 38) (v := 16) C dX11_attempt_38 (by decide) ?_
  refine g_icmp_ge (pc := 40) (tgt := 125) C dX11_attempt_40 (by decide) (fun c10 => ?_) (fun c10 => ?_)
  · replace h := ifp c10 h
    obtain rfl := Option.some.inj h
    exact g_sub [4] rfl (show G X B 10 Z Q 125 [(6, .int (x6))] [] T M from hE)
  · replace h := ifn c10 h
    refine g_iload (pc := 43) C dX11_attempt_43 2 rfl ?_
    refine g_if_eq (pc := 45) (tgt := 125) C dX11_attempt_45 (by decide) (fun c11 => ?_) (fun c11 => ?_)
    · replace h := ifp c11 h
      obtain rfl := Option.some.inj h
      exact g_sub [4] rfl (show G X B 10 Z Q 125 [(6, .int (x6))] [] T M from hE)
    · replace h := ifn c11 h
      refine g_aload_n (pc := 48) C dX11_attempt_48 rfl 0 rfl ?_
      refine g_iload_n (pc := 49) C dX11_attempt_49 rfl 1 rfl ?_
      refine g_iload (pc := 50) C dX11_attempt_50 5 rfl ?_
      refine g_iload (pc := 52) C dX11_attempt_52 2 rfl ?_
      replace h := gd_some h; obtain ⟨hk12, h⟩ := h
      replace h := bnd2 h; obtain ⟨_u, M13, h1, h⟩ := h
      refine g_callVv (pc := 54) (As := [.int (x2), .int (x7), .int (x4)]) (st := []) C dX11_attempt_54 wX11_countPassing hk12 rfl (by decide) q_1158 q_49 q_1156 (by omega) rfl (Nat.le_of_ble_eq_true rfl) (kX11_countPassing (d := 3) (Nat.le_refl _) h1) ?_
      refine g_iconst (pc := 57) (v := 0) C dX11_attempt_57 (by decide) ?_
      refine g_istore (pc := 58) (lo2 := [(8, .int ((0 : Int32))), (0, .ref (x0)), (2, .int (x2)), (4, .int (x4)), (5, .int (x5)), (6, .int (x6)), (7, .int (x7))]) C dX11_attempt_58 (by decide) rfl ?_
      replace h := bnd2 h; obtain ⟨x5_28, x6_29, h1, h⟩ := h
      refine g_sub [1, 2, 3, 4, 5, 6, 0] rfl ?_
      refine lp_G2 (P := PX11_attempt_60 X B _ _ T M13 x0 x2 x4 x7) (E := EX11_attempt_60 X B _ _ T M13 x0 x2 x4 x7) (tbX11_attempt_60 C hd) h1 ?_
      show G X B 10 _ _ 119 [(0, .ref (x0)), (2, .int (x2)), (4, .int (x4)), (5, .int (x5_28)), (6, .int (x6_29)), (7, .int (x7))] [] T M13
      obtain ⟨v30, ev30⟩ : ∃ y : Int32, y = x7 + (1 : Int32) := ⟨_, rfl⟩
      replace h := lt_at ev30 h
      refine g_iinc (pc := 119) (v := v30) (k := 5) (lo2 := [(7, .int (v30)), (0, .ref (x0)), (2, .int (x2)), (4, .int (x4)), (5, .int (x5_28)), (6, .int (x6_29))]) C dX11_attempt_119 rfl (by rw [ev30]; rfl) (by decide) rfl ?_
      refine g_goto (pc := 122) (tgt := 36) C dX11_attempt_122 (by decide) ?_
      obtain rfl := Option.some.inj h
      exact g_sub [1, 2, 3, 4, 5, 0] rfl (show G X B 10 Z Q 36 [(0, .ref (x0)), (2, .int (x2)), (4, .int (x4)), (5, .int (x5_28)), (6, .int (x6_29)), (7, .int (v30))] [] T M13 from hE)
/-- EyeTrainer.attempt(II)I -/
def fX11_attempt (T : Sh) (M : Me) (x0 : Nat) (x1 : Int32) (x2 : Int32) : Option (Int32 × Me) :=
  gd (kd T x0 = 10) <| Option.bind (fX11_unseen T M x0 x1 x2) fun r2 => if r2 = 0 then (Option.bind (gR M x0 9) fun a4 => gd (kd T a4 = 18) <| gv x1 (ln T a4) <| Option.bind (gR M a4 (Int32.toNatClampNeg x1)) fun a7 => Option.bind (fX11_seenDrifts T M x0 a7 x2) <| un2 fun r8 M9 => (lp FU (fun s => bX11_attempt_36 T x0 x2 r8 s.1 s.2.1 s.2.2.1 s.2.2.2) ((32 : Int32), (-1 : Int32), (0 : Int32), M9)).bind (un2 fun x6_31 M32 => some (x6_31, M32))) else (some (r2, M))
set_option maxHeartbeats 4000000 in
theorem kX11_attempt {l : Launch} {B : Bx} {d : Nat} (hd : 5 ≤ d) {T : Sh} {M : Me} {x0 : Nat} {x1 : Int32} {x2 : Int32} {r : Int32} {M' : Me} (h : fX11_attempt T M x0 x1 x2 = some (r, M')) : Kt l B yX11_attempt cX11_attempt 10 (some .int) d [.ref (x0), .int (x1), .int (x2)] T M (some (.int r)) T M' := by
  refine kt_of wX11_attempt (Nat.le_refl _) (Nat.le_refl _) (Nat.le_of_ble_eq_true rfl) (fun X C hR hlx hin => ?_)
  subst hlx
  replace C : Cx X B cX11_attempt 10 RX11 d (tp T, sl T, tp T, sl T) := C
  unfold fX11_attempt at h
  show G X B 10 _ _ 0 [(0, .ref (x0)), (1, .int (x1)), (2, .int (x2))] [] T M
  refine g_aload_n (pc := 0) C dX11_attempt_0 rfl 0 rfl ?_
  refine g_iload_n (pc := 1) C dX11_attempt_1 rfl 1 rfl ?_
  refine g_iload_n (pc := 2) C dX11_attempt_2 rfl 2 rfl ?_
  replace h := gd_some h; obtain ⟨hk1, h⟩ := h
  replace h := bnd h; obtain ⟨r2, h1, h⟩ := h
  refine g_callVi (pc := 3) (As := [.int (x1), .int (x2)]) (st := []) C dX11_attempt_3 wX11_unseen hk1 rfl (by decide) q_1141 q_46 q_1139 (by omega) rfl (Nat.le_of_ble_eq_true rfl) (kX11_unseen (d := 1) (Nat.le_refl _) h1) ?_
  refine g_istore_n (pc := 6) (lo2 := [(3, .int (r2)), (0, .ref (x0)), (1, .int (x1)), (2, .int (x2))]) C dX11_attempt_6 rfl (by decide) rfl ?_
  refine g_iload_n (pc := 7) C dX11_attempt_7 rfl 0 rfl ?_
  refine g_if_eq (pc := 8) (tgt := 13) C dX11_attempt_8 (by decide) (fun c3 => ?_) (fun c3 => ?_)
  · replace h := ifp c3 h
    refine g_aload_n (pc := 13) C dX11_attempt_13 rfl 1 rfl ?_
    refine g_aload_n (pc := 14) C dX11_attempt_14 rfl 1 rfl ?_
    refine g_get (pc := 15) (v := va_rf (gR M x0 9)) C dX11_attempt_15 kX11 hk1 9 (by decide) q_433 rfl ?_
    replace h := bnd h; obtain ⟨a4, ea4, h⟩ := h
    refine g_refq ea4 ?_
    refine g_iload_n (pc := 18) C dX11_attempt_18 rfl 2 rfl ?_
    replace h := gd_some h; obtain ⟨hk5, h⟩ := h
    replace h := gv_some h; obtain ⟨hi6, h⟩ := h
    refine g_aald18 (pc := 19) C dX11_attempt_19 hk5 hi6 ?_
    replace h := bnd h; obtain ⟨a7, ea7, h⟩ := h
    refine g_refq ea7 ?_
    refine g_iload_n (pc := 20) C dX11_attempt_20 rfl 3 rfl ?_
    replace h := bnd2 h; obtain ⟨r8, M9, h1, h⟩ := h
    refine g_callVi (pc := 21) (As := [.ref (a7), .int (x2)]) (st := []) C dX11_attempt_21 wX11_seenDrifts hk1 rfl (by decide) q_1146 q_47 q_1144 (by omega) rfl (Nat.le_of_ble_eq_true rfl) (kX11_seenDrifts (d := 4) (Nat.le_refl _) h1) ?_
    refine g_istore (pc := 24) (lo2 := [(4, .int (r8)), (3, .int (r2)), (0, .ref (x0)), (1, .int (x1)), (2, .int (x2))]) C dX11_attempt_24 (by decide) rfl ?_
    refine g_bipush (pc := 26) (v := 32) C dX11_attempt_26 (by decide) ?_
    refine g_istore (pc := 28) (lo2 := [(5, .int ((32 : Int32))), (4, .int (r8)), (3, .int (r2)), (0, .ref (x0)), (1, .int (x1)), (2, .int (x2))]) C dX11_attempt_28 (by decide) rfl ?_
    refine g_iconst (pc := 30) (v := (-1)) C dX11_attempt_30 (by decide) ?_
    refine g_istore (pc := 31) (lo2 := [(6, .int ((-1 : Int32))), (5, .int ((32 : Int32))), (4, .int (r8)), (3, .int (r2)), (0, .ref (x0)), (1, .int (x1)), (2, .int (x2))]) C dX11_attempt_31 (by decide) rfl ?_
    refine g_iconst (pc := 33) (v := 0) C dX11_attempt_33 (by decide) ?_
    refine g_istore (pc := 34) (lo2 := [(7, .int ((0 : Int32))), (6, .int ((-1 : Int32))), (5, .int ((32 : Int32))), (4, .int (r8)), (3, .int (r2)), (0, .ref (x0)), (1, .int (x1)), (2, .int (x2))]) C dX11_attempt_34 (by decide) rfl ?_
    replace h := bnd2 h; obtain ⟨x6_31, M32, h1, h⟩ := h
    refine g_sub [5, 7, 3, 2, 1, 0] rfl ?_
    refine lp_G2 (P := PX11_attempt_36 X B _ _ T x0 x2 r8) (E := EX11_attempt_36 X B _ _ T x0 x2 r8) (tbX11_attempt_36 C hd) h1 ?_
    show G X B 10 _ _ 125 [(6, .int (x6_31))] [] T M32
    refine g_iload (pc := 125) C dX11_attempt_125 0 rfl ?_
    obtain ⟨rfl, rfl⟩ := Prod.mk.inj (Option.some.inj h)
    exact g_iret C hR dX11_attempt_127
  · replace h := ifn c3 h
    refine g_iload_n (pc := 11) C dX11_attempt_11 rfl 0 rfl ?_
    obtain ⟨rfl, rfl⟩ := Prod.mk.inj (Option.some.inj h)
    exact g_iret C hR dX11_attempt_12
theorem dX11_chance_0 : decode cX11_chance 0 = .ok (.aload_n 0, 1) := by decide +kernel
theorem dX11_chance_1 : decode cX11_chance 1 = .ok (.iload_n 1, 1) := by decide +kernel
theorem dX11_chance_2 : decode cX11_chance 2 = .ok (.invokevirtual 107, 3) := by decide +kernel
theorem dX11_chance_5 : decode cX11_chance 5 = .ok (.ifCond .ne 12, 3) := by decide +kernel
theorem dX11_chance_8 : decode cX11_chance 8 = .ok (.iload_n 3, 1) := by decide +kernel
theorem dX11_chance_9 : decode cX11_chance 9 = .ok (.ifCond .lt 8, 3) := by decide +kernel
theorem dX11_chance_12 : decode cX11_chance 12 = .ok (.iload_n 3, 1) := by decide +kernel
theorem dX11_chance_13 : decode cX11_chance 13 = .ok (.iconst 1, 1) := by decide +kernel
theorem dX11_chance_14 : decode cX11_chance 14 = .ok (.if_icmp .le 6, 3) := by decide +kernel
theorem dX11_chance_17 : decode cX11_chance 17 = .ok (.bipush (-2), 2) := by decide +kernel
theorem dX11_chance_19 : decode cX11_chance 19 = .ok (.ireturn, 1) := by decide +kernel
theorem dX11_chance_20 : decode cX11_chance 20 = .ok (.iload_n 2, 1) := by decide +kernel
theorem dX11_chance_21 : decode cX11_chance 21 = .ok (.ifCond .lt 9, 3) := by decide +kernel
theorem dX11_chance_24 : decode cX11_chance 24 = .ok (.iload_n 2, 1) := by decide +kernel
theorem dX11_chance_25 : decode cX11_chance 25 = .ok (.bipush 6, 2) := by decide +kernel
theorem dX11_chance_27 : decode cX11_chance 27 = .ok (.if_icmp .le 6, 3) := by decide +kernel
theorem dX11_chance_30 : decode cX11_chance 30 = .ok (.bipush (-3), 2) := by decide +kernel
theorem dX11_chance_32 : decode cX11_chance 32 = .ok (.ireturn, 1) := by decide +kernel
theorem dX11_chance_33 : decode cX11_chance 33 = .ok (.aload_n 0, 1) := by decide +kernel
theorem dX11_chance_34 : decode cX11_chance 34 = .ok (.iload_n 1, 1) := by decide +kernel
theorem dX11_chance_35 : decode cX11_chance 35 = .ok (.iload_n 2, 1) := by decide +kernel
theorem dX11_chance_36 : decode cX11_chance 36 = .ok (.invokevirtual 331, 3) := by decide +kernel
theorem dX11_chance_39 : decode cX11_chance 39 = .ok (.iload_n 2, 1) := by decide +kernel
theorem dX11_chance_40 : decode cX11_chance 40 = .ok (.iload_n 3, 1) := by decide +kernel
theorem dX11_chance_41 : decode cX11_chance 41 = .ok (.invokestatic 334, 3) := by decide +kernel
theorem dX11_chance_44 : decode cX11_chance 44 = .ok (.ireturn, 1) := by decide +kernel
theorem wX11_chance : Mw yX11_chance cX11_chance 4 (some .int) 3 := ⟨q_1164, q_120, by decide, ⟨by decide +kernel, by decide +kernel⟩, by decide +kernel, by decide +kernel⟩
/-- EyeTrainer.chance(III)I -/
def fX11_chance (T : Sh) (M : Me) (x0 : Nat) (x1 : Int32) (x2 : Int32) (x3 : Int32) : Option (Int32 × Me) :=
  gd (kd T x0 = 10) <| Option.bind (fX11_noLane T M x0 x1) fun r2 => if r2 = 0 then (if x3 < 0 then (some ((-2 : Int32), M)) else (if x3 ≤ (1 : Int32) then (if x2 < 0 then (some ((-3 : Int32), M)) else (if x2 ≤ (6 : Int32) then (Option.bind (fX11_passingLots T M x0 x1 x2) <| un2 fun r8 M9 => Option.bind (fX11_lowestTerms r8 x2 x3) fun r10 => some (r10, M9)) else (some ((-3 : Int32), M)))) else (some ((-2 : Int32), M)))) else (some ((-2 : Int32), M))
set_option maxHeartbeats 4000000 in
theorem kX11_chance {l : Launch} {B : Bx} {d : Nat} (hd : 5 ≤ d) {T : Sh} {M : Me} {x0 : Nat} {x1 : Int32} {x2 : Int32} {x3 : Int32} {r : Int32} {M' : Me} (h : fX11_chance T M x0 x1 x2 x3 = some (r, M')) : Kt l B yX11_chance cX11_chance 4 (some .int) d [.ref (x0), .int (x1), .int (x2), .int (x3)] T M (some (.int r)) T M' := by
  refine kt_of wX11_chance (Nat.le_refl _) (Nat.le_refl _) (Nat.le_of_ble_eq_true rfl) (fun X C hR hlx hin => ?_)
  subst hlx
  replace C : Cx X B cX11_chance 4 RX11 d (tp T, sl T, tp T, sl T) := C
  unfold fX11_chance at h
  show G X B 4 _ _ 0 [(0, .ref (x0)), (1, .int (x1)), (2, .int (x2)), (3, .int (x3))] [] T M
  refine g_aload_n (pc := 0) C dX11_chance_0 rfl 0 rfl ?_
  refine g_iload_n (pc := 1) C dX11_chance_1 rfl 1 rfl ?_
  replace h := gd_some h; obtain ⟨hk1, h⟩ := h
  replace h := bnd h; obtain ⟨r2, h1, h⟩ := h
  refine g_callVi (pc := 2) (As := [.int (x1)]) (st := []) C dX11_chance_2 wX11_noLane hk1 rfl (by decide) q_769 q_20 q_767 (by omega) rfl (Nat.le_of_ble_eq_true rfl) (kX11_noLane (d := 0) (Nat.le_refl _) h1) ?_
  refine g_if_ne (pc := 5) (tgt := 17) C dX11_chance_5 (by decide) (fun c3 => ?_) (fun c3 => ?_)
  · replace h := ifn c3 h
    refine g_bipush (pc := 17) (v := (-2)) C dX11_chance_17 (by decide) ?_
    obtain ⟨rfl, rfl⟩ := Prod.mk.inj (Option.some.inj h)
    exact g_iret C hR dX11_chance_19
  · replace h := ifp c3 h
    refine g_iload_n (pc := 8) C dX11_chance_8 rfl 3 rfl ?_
    refine g_if_lt (pc := 9) (tgt := 17) C dX11_chance_9 (by decide) (fun c4 => ?_) (fun c4 => ?_)
    · replace h := ifp c4 h
      refine g_bipush (pc := 17) (v := (-2)) C dX11_chance_17 (by decide) ?_
      obtain ⟨rfl, rfl⟩ := Prod.mk.inj (Option.some.inj h)
      exact g_iret C hR dX11_chance_19
    · replace h := ifn c4 h
      refine g_iload_n (pc := 12) C dX11_chance_12 rfl 3 rfl ?_
      refine g_iconst (pc := 13) (v := 1) C dX11_chance_13 (by decide) ?_
      refine g_icmp_le (pc := 14) (tgt := 20) C dX11_chance_14 (by decide) (fun c5 => ?_) (fun c5 => ?_)
      · replace h := ifp c5 h
        refine g_iload_n (pc := 20) C dX11_chance_20 rfl 2 rfl ?_
        refine g_if_lt (pc := 21) (tgt := 30) C dX11_chance_21 (by decide) (fun c6 => ?_) (fun c6 => ?_)
        · replace h := ifp c6 h
          refine g_bipush (pc := 30) (v := (-3)) C dX11_chance_30 (by decide) ?_
          obtain ⟨rfl, rfl⟩ := Prod.mk.inj (Option.some.inj h)
          exact g_iret C hR dX11_chance_32
        · replace h := ifn c6 h
          refine g_iload_n (pc := 24) C dX11_chance_24 rfl 2 rfl ?_
          refine g_bipush (pc := 25) (v := 6) C dX11_chance_25 (by decide) ?_
          refine g_icmp_le (pc := 27) (tgt := 33) C dX11_chance_27 (by decide) (fun c7 => ?_) (fun c7 => ?_)
          · replace h := ifp c7 h
            refine g_aload_n (pc := 33) C dX11_chance_33 rfl 0 rfl ?_
            refine g_iload_n (pc := 34) C dX11_chance_34 rfl 1 rfl ?_
            refine g_iload_n (pc := 35) C dX11_chance_35 rfl 2 rfl ?_
            replace h := bnd2 h; obtain ⟨r8, M9, h1, h⟩ := h
            refine g_callVi (pc := 36) (As := [.int (x1), .int (x2)]) (st := []) C dX11_chance_36 wX11_passingLots hk1 rfl (by decide) q_1167 q_50 q_1165 (by omega) rfl (Nat.le_of_ble_eq_true rfl) (kX11_passingLots (d := 4) (Nat.le_refl _) h1) ?_
            refine g_iload_n (pc := 39) C dX11_chance_39 rfl 2 rfl ?_
            refine g_iload_n (pc := 40) C dX11_chance_40 rfl 3 rfl ?_
            replace h := bnd h; obtain ⟨r10, h1, h⟩ := h
            refine g_callSi (pc := 41) (As := [.int (r8), .int (x2), .int (x3)]) (st := []) C dX11_chance_41 wX11_lowestTerms q_1175 q_1174 (by omega) rfl (Nat.le_of_ble_eq_true rfl) (kX11_lowestTerms (d := 0) (Nat.le_refl _) h1) ?_
            obtain ⟨rfl, rfl⟩ := Prod.mk.inj (Option.some.inj h)
            exact g_iret C hR dX11_chance_44
          · replace h := ifn c7 h
            refine g_bipush (pc := 30) (v := (-3)) C dX11_chance_30 (by decide) ?_
            obtain ⟨rfl, rfl⟩ := Prod.mk.inj (Option.some.inj h)
            exact g_iret C hR dX11_chance_32
      · replace h := ifn c5 h
        refine g_bipush (pc := 17) (v := (-2)) C dX11_chance_17 (by decide) ?_
        obtain ⟨rfl, rfl⟩ := Prod.mk.inj (Option.some.inj h)
        exact g_iret C hR dX11_chance_19
theorem dX11_mean_0 : decode cX11_mean 0 = .ok (.iload_n 2, 1) := by decide +kernel
theorem dX11_mean_1 : decode cX11_mean 1 = .ok (.ifCond .lt 8, 3) := by decide +kernel
theorem dX11_mean_4 : decode cX11_mean 4 = .ok (.iload_n 2, 1) := by decide +kernel
theorem dX11_mean_5 : decode cX11_mean 5 = .ok (.iconst 1, 1) := by decide +kernel
theorem dX11_mean_6 : decode cX11_mean 6 = .ok (.if_icmp .le 6, 3) := by decide +kernel
theorem dX11_mean_9 : decode cX11_mean 9 = .ok (.bipush (-2), 2) := by decide +kernel
theorem dX11_mean_11 : decode cX11_mean 11 = .ok (.ireturn, 1) := by decide +kernel
theorem dX11_mean_12 : decode cX11_mean 12 = .ok (.iload_n 1, 1) := by decide +kernel
theorem dX11_mean_13 : decode cX11_mean 13 = .ok (.ifCond .lt 9, 3) := by decide +kernel
theorem dX11_mean_16 : decode cX11_mean 16 = .ok (.iload_n 1, 1) := by decide +kernel
theorem dX11_mean_17 : decode cX11_mean 17 = .ok (.bipush 6, 2) := by decide +kernel
theorem dX11_mean_19 : decode cX11_mean 19 = .ok (.if_icmp .le 6, 3) := by decide +kernel
theorem dX11_mean_22 : decode cX11_mean 22 = .ok (.bipush (-3), 2) := by decide +kernel
theorem dX11_mean_24 : decode cX11_mean 24 = .ok (.ireturn, 1) := by decide +kernel
theorem dX11_mean_25 : decode cX11_mean 25 = .ok (.iconst 0, 1) := by decide +kernel
theorem dX11_mean_26 : decode cX11_mean 26 = .ok (.istore_n 3, 1) := by decide +kernel
theorem dX11_mean_27 : decode cX11_mean 27 = .ok (.iconst 0, 1) := by decide +kernel
theorem dX11_mean_28 : decode cX11_mean 28 = .ok (.istore 4, 2) := by decide +kernel
theorem dX11_mean_30 : decode cX11_mean 30 = .ok (.iload 4, 2) := by decide +kernel
theorem dX11_mean_32 : decode cX11_mean 32 = .ok (.aload_n 0, 1) := by decide +kernel
theorem dX11_mean_33 : decode cX11_mean 33 = .ok (.getfield 28, 3) := by decide +kernel
theorem dX11_mean_36 : decode cX11_mean 36 = .ok (.getfield 111, 3) := by decide +kernel
theorem dX11_mean_39 : decode cX11_mean 39 = .ok (.getfield 272, 3) := by decide +kernel
theorem dX11_mean_42 : decode cX11_mean 42 = .ok (.if_icmp .ge 19, 3) := by decide +kernel
theorem dX11_mean_45 : decode cX11_mean 45 = .ok (.iload_n 3, 1) := by decide +kernel
theorem dX11_mean_46 : decode cX11_mean 46 = .ok (.aload_n 0, 1) := by decide +kernel
theorem dX11_mean_47 : decode cX11_mean 47 = .ok (.iload 4, 2) := by decide +kernel
theorem dX11_mean_49 : decode cX11_mean 49 = .ok (.iload_n 1, 1) := by decide +kernel
theorem dX11_mean_50 : decode cX11_mean 50 = .ok (.invokevirtual 331, 3) := by decide +kernel
theorem dX11_mean_53 : decode cX11_mean 53 = .ok (.iadd, 1) := by decide +kernel
theorem dX11_mean_54 : decode cX11_mean 54 = .ok (.istore_n 3, 1) := by decide +kernel
theorem dX11_mean_55 : decode cX11_mean 55 = .ok (.iinc 4 1, 3) := by decide +kernel
theorem dX11_mean_58 : decode cX11_mean 58 = .ok (.goto (-28), 3) := by decide +kernel
theorem dX11_mean_61 : decode cX11_mean 61 = .ok (.iload_n 3, 1) := by decide +kernel
theorem dX11_mean_62 : decode cX11_mean 62 = .ok (.iload_n 1, 1) := by decide +kernel
theorem dX11_mean_63 : decode cX11_mean 63 = .ok (.iload_n 2, 1) := by decide +kernel
theorem dX11_mean_64 : decode cX11_mean 64 = .ok (.invokestatic 334, 3) := by decide +kernel
theorem dX11_mean_67 : decode cX11_mean 67 = .ok (.ireturn, 1) := by decide +kernel
theorem wX11_mean : Mw yX11_mean cX11_mean 5 (some .int) 2 := ⟨q_1180, q_120, by decide, ⟨by decide +kernel, by decide +kernel⟩, by decide +kernel, by decide +kernel⟩
-- a loop of EyeTrainer.mean at 30
def bX11_mean_30 (T : Sh) (x0 : Nat) (x1 : Int32) (x2 : Int32) (x3 : Int32) (x4 : Int32) (M : Me) : Option ((Int32 × Int32 × Me) ⊕ ((Int32 × Me))) :=
  gd (kd T x0 = 10) <| Option.bind (gR M x0 3) fun a6 => gd (kd T a6 = 4) <| Option.bind (gR M a6 0) fun a8 => gd (kd T a8 = 2) <| if (gI M a8 7) ≤ x4 then (some (.inr (x3, M))) else (Option.bind (fX11_passingLots T M x0 x4 x1) <| un2 fun r11 M12 => lt (x3 + r11) fun v13 => lt (x4 + (1 : Int32)) fun v14 => some (.inl (v13, v14, M12)))
def PX11_mean_30 (X : Fx) (B : Bx) (Z : Nat × Nat × Nat × Nat) (Q : State → Prop) (T : Sh) (x0 : Nat) (x1 : Int32) (x2 : Int32) (s : Int32 × Int32 × Me) : Prop := G X B 5 Z Q 30 [(0, .ref (x0)), (1, .int (x1)), (2, .int (x2)), (3, .int (s.1)), (4, .int (s.2.1))] [] T s.2.2
def EX11_mean_30 (X : Fx) (B : Bx) (Z : Nat × Nat × Nat × Nat) (Q : State → Prop) (T : Sh) (x0 : Nat) (x1 : Int32) (x2 : Int32) (r : (Int32 × Me)) : Prop := G X B 5 Z Q 61 [(1, .int (x1)), (2, .int (x2)), (3, .int (r.1))] [] T r.2
set_option maxHeartbeats 4000000 in
theorem tbX11_mean_30 {X : Fx} {B : Bx} {Z : Nat × Nat × Nat × Nat} {Q : State → Prop} {d : Nat} {T : Sh} (C : Cx X B cX11_mean 5 RX11 d Z) (hd : 5 ≤ d) {x0 : Nat} {x1 : Int32} {x2 : Int32} : ∀ (s : Int32 × Int32 × Me) (o : (Int32 × Int32 × Me) ⊕ ((Int32 × Me))), bX11_mean_30 T x0 x1 x2 s.1 s.2.1 s.2.2 = some o → lpE (PX11_mean_30 X B Z Q T x0 x1 x2) (EX11_mean_30 X B Z Q T x0 x1 x2) o → PX11_mean_30 X B Z Q T x0 x1 x2 s := by
  rintro ⟨x3, x4, M⟩ o h hE
  replace h : bX11_mean_30 T x0 x1 x2 x3 x4 M = some o := h
  unfold bX11_mean_30 at h
  show G X B 5 Z Q 30 [(0, .ref (x0)), (1, .int (x1)), (2, .int (x2)), (3, .int (x3)), (4, .int (x4))] [] T M
  refine g_iload (pc := 30) C dX11_mean_30 4 rfl ?_
  refine g_aload_n (pc := 32) C dX11_mean_32 rfl 0 rfl ?_
  replace h := gd_some h; obtain ⟨hk5, h⟩ := h
  refine g_get (pc := 33) (v := va_rf (gR M x0 3)) C dX11_mean_33 kX11 hk5 3 (by decide) q_427 rfl ?_
  replace h := bnd h; obtain ⟨a6, ea6, h⟩ := h
  refine g_refq ea6 ?_
  replace h := gd_some h; obtain ⟨hk7, h⟩ := h
  refine g_get (pc := 36) (v := va_rf (gR M a6 0)) C dX11_mean_36 kX5 hk7 0 (by decide) q_288 rfl ?_
  replace h := bnd h; obtain ⟨a8, ea8, h⟩ := h
  refine g_refq ea8 ?_
  replace h := gd_some h; obtain ⟨hk9, h⟩ := h
  refine g_get (pc := 39) (v := .int (gI M a8 7)) C dX11_mean_39 kX3 hk9 7 (by decide) q_242 rfl ?_
  refine g_icmp_ge (pc := 42) (tgt := 61) C dX11_mean_42 (by decide) (fun c10 => ?_) (fun c10 => ?_)
  · replace h := ifp c10 h
    obtain rfl := Option.some.inj h
    exact g_sub [1, 2, 3] rfl (show G X B 5 Z Q 61 [(1, .int (x1)), (2, .int (x2)), (3, .int (x3))] [] T M from hE)
  · replace h := ifn c10 h
    refine g_iload_n (pc := 45) C dX11_mean_45 rfl 3 rfl ?_
    refine g_aload_n (pc := 46) C dX11_mean_46 rfl 0 rfl ?_
    refine g_iload (pc := 47) C dX11_mean_47 4 rfl ?_
    refine g_iload_n (pc := 49) C dX11_mean_49 rfl 1 rfl ?_
    replace h := bnd2 h; obtain ⟨r11, M12, h1, h⟩ := h
    refine g_callVi (pc := 50) (As := [.int (x4), .int (x1)]) (st := [.int (x3)]) C dX11_mean_50 wX11_passingLots hk5 rfl (by decide) q_1167 q_50 q_1165 (by omega) rfl (Nat.le_of_ble_eq_true rfl) (kX11_passingLots (d := 4) (Nat.le_refl _) h1) ?_
    refine g_iadd (pc := 53) C dX11_mean_53 ?_
    refine g_topi (fun v13 ev13 => ?_)
    replace h := lt_at ev13 h
    refine g_istore_n (pc := 54) (lo2 := [(3, .int (v13)), (0, .ref (x0)), (1, .int (x1)), (2, .int (x2)), (4, .int (x4))]) C dX11_mean_54 rfl (by decide) rfl ?_
    obtain ⟨v14, ev14⟩ : ∃ y : Int32, y = x4 + (1 : Int32) := ⟨_, rfl⟩
    replace h := lt_at ev14 h
    refine g_iinc (pc := 55) (v := v14) (k := 4) (lo2 := [(4, .int (v14)), (3, .int (v13)), (0, .ref (x0)), (1, .int (x1)), (2, .int (x2))]) C dX11_mean_55 rfl (by rw [ev14]; rfl) (by decide) rfl ?_
    refine g_goto (pc := 58) (tgt := 30) C dX11_mean_58 (by decide) ?_
    obtain rfl := Option.some.inj h
    exact g_sub [2, 3, 4, 1, 0] rfl (show G X B 5 Z Q 30 [(0, .ref (x0)), (1, .int (x1)), (2, .int (x2)), (3, .int (v13)), (4, .int (v14))] [] T M12 from hE)
/-- EyeTrainer.mean(II)I -/
def fX11_mean (T : Sh) (M : Me) (x0 : Nat) (x1 : Int32) (x2 : Int32) : Option (Int32 × Me) :=
  if x2 < 0 then (some ((-2 : Int32), M)) else (if x2 ≤ (1 : Int32) then (if x1 < 0 then (some ((-3 : Int32), M)) else (if x1 ≤ (6 : Int32) then ((lp FU (fun s => bX11_mean_30 T x0 x1 x2 s.1 s.2.1 s.2.2) ((0 : Int32), (0 : Int32), M)).bind (un2 fun x3_15 M16 => Option.bind (fX11_lowestTerms x3_15 x1 x2) fun r17 => some (r17, M16))) else (some ((-3 : Int32), M)))) else (some ((-2 : Int32), M)))
set_option maxHeartbeats 4000000 in
theorem kX11_mean {l : Launch} {B : Bx} {d : Nat} (hd : 5 ≤ d) {T : Sh} {M : Me} {x0 : Nat} {x1 : Int32} {x2 : Int32} {r : Int32} {M' : Me} (h : fX11_mean T M x0 x1 x2 = some (r, M')) : Kt l B yX11_mean cX11_mean 5 (some .int) d [.ref (x0), .int (x1), .int (x2)] T M (some (.int r)) T M' := by
  refine kt_of wX11_mean (Nat.le_refl _) (Nat.le_refl _) (Nat.le_of_ble_eq_true rfl) (fun X C hR hlx hin => ?_)
  subst hlx
  replace C : Cx X B cX11_mean 5 RX11 d (tp T, sl T, tp T, sl T) := C
  unfold fX11_mean at h
  show G X B 5 _ _ 0 [(0, .ref (x0)), (1, .int (x1)), (2, .int (x2))] [] T M
  refine g_iload_n (pc := 0) C dX11_mean_0 rfl 2 rfl ?_
  refine g_if_lt (pc := 1) (tgt := 9) C dX11_mean_1 (by decide) (fun c1 => ?_) (fun c1 => ?_)
  · replace h := ifp c1 h
    refine g_bipush (pc := 9) (v := (-2)) C dX11_mean_9 (by decide) ?_
    obtain ⟨rfl, rfl⟩ := Prod.mk.inj (Option.some.inj h)
    exact g_iret C hR dX11_mean_11
  · replace h := ifn c1 h
    refine g_iload_n (pc := 4) C dX11_mean_4 rfl 2 rfl ?_
    refine g_iconst (pc := 5) (v := 1) C dX11_mean_5 (by decide) ?_
    refine g_icmp_le (pc := 6) (tgt := 12) C dX11_mean_6 (by decide) (fun c2 => ?_) (fun c2 => ?_)
    · replace h := ifp c2 h
      refine g_iload_n (pc := 12) C dX11_mean_12 rfl 1 rfl ?_
      refine g_if_lt (pc := 13) (tgt := 22) C dX11_mean_13 (by decide) (fun c3 => ?_) (fun c3 => ?_)
      · replace h := ifp c3 h
        refine g_bipush (pc := 22) (v := (-3)) C dX11_mean_22 (by decide) ?_
        obtain ⟨rfl, rfl⟩ := Prod.mk.inj (Option.some.inj h)
        exact g_iret C hR dX11_mean_24
      · replace h := ifn c3 h
        refine g_iload_n (pc := 16) C dX11_mean_16 rfl 1 rfl ?_
        refine g_bipush (pc := 17) (v := 6) C dX11_mean_17 (by decide) ?_
        refine g_icmp_le (pc := 19) (tgt := 25) C dX11_mean_19 (by decide) (fun c4 => ?_) (fun c4 => ?_)
        · replace h := ifp c4 h
          refine g_iconst (pc := 25) (v := 0) C dX11_mean_25 (by decide) ?_
          refine g_istore_n (pc := 26) (lo2 := [(3, .int ((0 : Int32))), (0, .ref (x0)), (1, .int (x1)), (2, .int (x2))]) C dX11_mean_26 rfl (by decide) rfl ?_
          refine g_iconst (pc := 27) (v := 0) C dX11_mean_27 (by decide) ?_
          refine g_istore (pc := 28) (lo2 := [(4, .int ((0 : Int32))), (3, .int ((0 : Int32))), (0, .ref (x0)), (1, .int (x1)), (2, .int (x2))]) C dX11_mean_28 (by decide) rfl ?_
          replace h := bnd2 h; obtain ⟨x3_15, M16, h1, h⟩ := h
          refine g_sub [2, 3, 4, 1, 0] rfl ?_
          refine lp_G2 (P := PX11_mean_30 X B _ _ T x0 x1 x2) (E := EX11_mean_30 X B _ _ T x0 x1 x2) (tbX11_mean_30 C hd) h1 ?_
          show G X B 5 _ _ 61 [(1, .int (x1)), (2, .int (x2)), (3, .int (x3_15))] [] T M16
          refine g_iload_n (pc := 61) C dX11_mean_61 rfl 2 rfl ?_
          refine g_iload_n (pc := 62) C dX11_mean_62 rfl 0 rfl ?_
          refine g_iload_n (pc := 63) C dX11_mean_63 rfl 1 rfl ?_
          replace h := bnd h; obtain ⟨r17, h1, h⟩ := h
          refine g_callSi (pc := 64) (As := [.int (x3_15), .int (x1), .int (x2)]) (st := []) C dX11_mean_64 wX11_lowestTerms q_1175 q_1174 (by omega) rfl (Nat.le_of_ble_eq_true rfl) (kX11_lowestTerms (d := 0) (Nat.le_refl _) h1) ?_
          obtain ⟨rfl, rfl⟩ := Prod.mk.inj (Option.some.inj h)
          exact g_iret C hR dX11_mean_67
        · replace h := ifn c4 h
          refine g_bipush (pc := 22) (v := (-3)) C dX11_mean_22 (by decide) ?_
          obtain ⟨rfl, rfl⟩ := Prod.mk.inj (Option.some.inj h)
          exact g_iret C hR dX11_mean_24
    · replace h := ifn c2 h
      refine g_bipush (pc := 9) (v := (-2)) C dX11_mean_9 (by decide) ?_
      obtain ⟨rfl, rfl⟩ := Prod.mk.inj (Option.some.inj h)
      exact g_iret C hR dX11_mean_11
theorem dX11_numbers_0 : decode cX11_numbers 0 = .ok (.iload_n 1, 1) := by decide +kernel
theorem dX11_numbers_1 : decode cX11_numbers 1 = .ok (.invokestatic 185, 3) := by decide +kernel
theorem dX11_numbers_4 : decode cX11_numbers 4 = .ok (.ifCond .ne 12, 3) := by decide +kernel
theorem dX11_numbers_7 : decode cX11_numbers 7 = .ok (.iload_n 2, 1) := by decide +kernel
theorem dX11_numbers_8 : decode cX11_numbers 8 = .ok (.ifCond .lt 8, 3) := by decide +kernel
theorem dX11_numbers_11 : decode cX11_numbers 11 = .ok (.iload_n 2, 1) := by decide +kernel
theorem dX11_numbers_12 : decode cX11_numbers 12 = .ok (.iconst 4, 1) := by decide +kernel
theorem dX11_numbers_13 : decode cX11_numbers 13 = .ok (.if_icmp .lt 6, 3) := by decide +kernel
theorem dX11_numbers_16 : decode cX11_numbers 16 = .ok (.bipush (-2), 2) := by decide +kernel
theorem dX11_numbers_18 : decode cX11_numbers 18 = .ok (.ireturn, 1) := by decide +kernel
theorem dX11_numbers_19 : decode cX11_numbers 19 = .ok (.iload_n 3, 1) := by decide +kernel
theorem dX11_numbers_20 : decode cX11_numbers 20 = .ok (.ifCond .lt 9, 3) := by decide +kernel
theorem dX11_numbers_23 : decode cX11_numbers 23 = .ok (.iload_n 3, 1) := by decide +kernel
theorem dX11_numbers_24 : decode cX11_numbers 24 = .ok (.bipush 40, 2) := by decide +kernel
theorem dX11_numbers_26 : decode cX11_numbers 26 = .ok (.if_icmp .le 6, 3) := by decide +kernel
theorem dX11_numbers_29 : decode cX11_numbers 29 = .ok (.bipush (-3), 2) := by decide +kernel
theorem dX11_numbers_31 : decode cX11_numbers 31 = .ok (.ireturn, 1) := by decide +kernel
theorem dX11_numbers_32 : decode cX11_numbers 32 = .ok (.aload_n 0, 1) := by decide +kernel
theorem dX11_numbers_33 : decode cX11_numbers 33 = .ok (.getfield 55, 3) := by decide +kernel
theorem dX11_numbers_36 : decode cX11_numbers 36 = .ok (.iload_n 1, 1) := by decide +kernel
theorem dX11_numbers_37 : decode cX11_numbers 37 = .ok (.aaload, 1) := by decide +kernel
theorem dX11_numbers_38 : decode cX11_numbers 38 = .ok (.iload_n 2, 1) := by decide +kernel
theorem dX11_numbers_39 : decode cX11_numbers 39 = .ok (.iload_n 3, 1) := by decide +kernel
theorem dX11_numbers_40 : decode cX11_numbers 40 = .ok (.invokevirtual 337, 3) := by decide +kernel
theorem dX11_numbers_43 : decode cX11_numbers 43 = .ok (.iconst 0, 1) := by decide +kernel
theorem dX11_numbers_44 : decode cX11_numbers 44 = .ok (.ireturn, 1) := by decide +kernel
theorem wX11_numbers : Mw yX11_numbers cX11_numbers 4 (some .int) 3 := ⟨q_1184, q_120, by decide, ⟨by decide +kernel, by decide +kernel⟩, by decide +kernel, by decide +kernel⟩
/-- EyeTrainer.numbers(III)I -/
def fX11_numbers (T : Sh) (M : Me) (x0 : Nat) (x1 : Int32) (x2 : Int32) (x3 : Int32) : Option (Int32 × Me) :=
  Option.bind (fX11_noTray x1) fun r1 => if r1 = 0 then (if x2 < 0 then (some ((-2 : Int32), M)) else (if x2 < (4 : Int32) then (if x3 < 0 then (some ((-3 : Int32), M)) else (if x3 ≤ (40 : Int32) then (gd (kd T x0 = 10) <| Option.bind (gR M x0 9) fun a8 => gd (kd T a8 = 18) <| gv x1 (ln T a8) <| Option.bind (gR M a8 (Int32.toNatClampNeg x1)) fun a11 => gd (kd T a11 = 9) <| Option.bind (fX10_hold T M a11 x2 x3) <| un2 fun _u M13 => some ((0 : Int32), M13)) else (some ((-3 : Int32), M)))) else (some ((-2 : Int32), M)))) else (some ((-2 : Int32), M))
set_option maxHeartbeats 4000000 in
theorem kX11_numbers {l : Launch} {B : Bx} {d : Nat} (hd : 2 ≤ d) {T : Sh} {M : Me} {x0 : Nat} {x1 : Int32} {x2 : Int32} {x3 : Int32} {r : Int32} {M' : Me} (h : fX11_numbers T M x0 x1 x2 x3 = some (r, M')) : Kt l B yX11_numbers cX11_numbers 4 (some .int) d [.ref (x0), .int (x1), .int (x2), .int (x3)] T M (some (.int r)) T M' := by
  refine kt_of wX11_numbers (Nat.le_refl _) (Nat.le_refl _) (Nat.le_of_ble_eq_true rfl) (fun X C hR hlx hin => ?_)
  subst hlx
  replace C : Cx X B cX11_numbers 4 RX11 d (tp T, sl T, tp T, sl T) := C
  unfold fX11_numbers at h
  show G X B 4 _ _ 0 [(0, .ref (x0)), (1, .int (x1)), (2, .int (x2)), (3, .int (x3))] [] T M
  refine g_iload_n (pc := 0) C dX11_numbers_0 rfl 1 rfl ?_
  replace h := bnd h; obtain ⟨r1, h1, h⟩ := h
  refine g_callSi (pc := 1) (As := [.int (x1)]) (st := []) C dX11_numbers_1 wX11_noTray q_952 q_951 (by omega) rfl (Nat.le_of_ble_eq_true rfl) (kX11_noTray (d := 0) (Nat.le_refl _) h1) ?_
  refine g_if_ne (pc := 4) (tgt := 16) C dX11_numbers_4 (by decide) (fun c2 => ?_) (fun c2 => ?_)
  · replace h := ifn c2 h
    refine g_bipush (pc := 16) (v := (-2)) C dX11_numbers_16 (by decide) ?_
    obtain ⟨rfl, rfl⟩ := Prod.mk.inj (Option.some.inj h)
    exact g_iret C hR dX11_numbers_18
  · replace h := ifp c2 h
    refine g_iload_n (pc := 7) C dX11_numbers_7 rfl 2 rfl ?_
    refine g_if_lt (pc := 8) (tgt := 16) C dX11_numbers_8 (by decide) (fun c3 => ?_) (fun c3 => ?_)
    · replace h := ifp c3 h
      refine g_bipush (pc := 16) (v := (-2)) C dX11_numbers_16 (by decide) ?_
      obtain ⟨rfl, rfl⟩ := Prod.mk.inj (Option.some.inj h)
      exact g_iret C hR dX11_numbers_18
    · replace h := ifn c3 h
      refine g_iload_n (pc := 11) C dX11_numbers_11 rfl 2 rfl ?_
      refine g_iconst (pc := 12) (v := 4) C dX11_numbers_12 (by decide) ?_
      refine g_icmp_lt (pc := 13) (tgt := 19) C dX11_numbers_13 (by decide) (fun c4 => ?_) (fun c4 => ?_)
      · replace h := ifp c4 h
        refine g_iload_n (pc := 19) C dX11_numbers_19 rfl 3 rfl ?_
        refine g_if_lt (pc := 20) (tgt := 29) C dX11_numbers_20 (by decide) (fun c5 => ?_) (fun c5 => ?_)
        · replace h := ifp c5 h
          refine g_bipush (pc := 29) (v := (-3)) C dX11_numbers_29 (by decide) ?_
          obtain ⟨rfl, rfl⟩ := Prod.mk.inj (Option.some.inj h)
          exact g_iret C hR dX11_numbers_31
        · replace h := ifn c5 h
          refine g_iload_n (pc := 23) C dX11_numbers_23 rfl 3 rfl ?_
          refine g_bipush (pc := 24) (v := 40) C dX11_numbers_24 (by decide) ?_
          refine g_icmp_le (pc := 26) (tgt := 32) C dX11_numbers_26 (by decide) (fun c6 => ?_) (fun c6 => ?_)
          · replace h := ifp c6 h
            refine g_aload_n (pc := 32) C dX11_numbers_32 rfl 0 rfl ?_
            replace h := gd_some h; obtain ⟨hk7, h⟩ := h
            refine g_get (pc := 33) (v := va_rf (gR M x0 9)) C dX11_numbers_33 kX11 hk7 9 (by decide) q_433 rfl ?_
            replace h := bnd h; obtain ⟨a8, ea8, h⟩ := h
            refine g_refq ea8 ?_
            refine g_iload_n (pc := 36) C dX11_numbers_36 rfl 1 rfl ?_
            replace h := gd_some h; obtain ⟨hk9, h⟩ := h
            replace h := gv_some h; obtain ⟨hi10, h⟩ := h
            refine g_aald18 (pc := 37) C dX11_numbers_37 hk9 hi10 ?_
            replace h := bnd h; obtain ⟨a11, ea11, h⟩ := h
            refine g_refq ea11 ?_
            refine g_iload_n (pc := 38) C dX11_numbers_38 rfl 2 rfl ?_
            refine g_iload_n (pc := 39) C dX11_numbers_39 rfl 3 rfl ?_
            replace h := gd_some h; obtain ⟨hk12, h⟩ := h
            replace h := bnd2 h; obtain ⟨_u, M13, h1, h⟩ := h
            refine g_callVv (pc := 40) (As := [.int (x2), .int (x3)]) (st := []) C dX11_numbers_40 wX10_hold hk12 rfl (by decide) q_1186 q_1187 q_1185 (by omega) rfl (Nat.le_of_ble_eq_true rfl) (kX10_hold (d := 1) (Nat.le_refl _) h1) ?_
            refine g_iconst (pc := 43) (v := 0) C dX11_numbers_43 (by decide) ?_
            obtain ⟨rfl, rfl⟩ := Prod.mk.inj (Option.some.inj h)
            exact g_iret C hR dX11_numbers_44
          · replace h := ifn c6 h
            refine g_bipush (pc := 29) (v := (-3)) C dX11_numbers_29 (by decide) ?_
            obtain ⟨rfl, rfl⟩ := Prod.mk.inj (Option.some.inj h)
            exact g_iret C hR dX11_numbers_31
      · replace h := ifn c4 h
        refine g_bipush (pc := 16) (v := (-2)) C dX11_numbers_16 (by decide) ?_
        obtain ⟨rfl, rfl⟩ := Prod.mk.inj (Option.some.inj h)
        exact g_iret C hR dX11_numbers_18
theorem dX11_write_0 : decode cX11_write 0 = .ok (.iload_n 1, 1) := by decide +kernel
theorem dX11_write_1 : decode cX11_write 1 = .ok (.invokestatic 185, 3) := by decide +kernel
theorem dX11_write_4 : decode cX11_write 4 = .ok (.ifCond .eq 7, 3) := by decide +kernel
theorem dX11_write_7 : decode cX11_write 7 = .ok (.ldc2_w 312, 3) := by decide +kernel
theorem dX11_write_10 : decode cX11_write 10 = .ok (.lreturn, 1) := by decide +kernel
theorem dX11_write_11 : decode cX11_write 11 = .ok (.aload_n 0, 1) := by decide +kernel
theorem dX11_write_12 : decode cX11_write 12 = .ok (.getfield 55, 3) := by decide +kernel
theorem dX11_write_15 : decode cX11_write 15 = .ok (.iload_n 1, 1) := by decide +kernel
theorem dX11_write_16 : decode cX11_write 16 = .ok (.aaload, 1) := by decide +kernel
theorem dX11_write_17 : decode cX11_write 17 = .ok (.astore 5, 2) := by decide +kernel
theorem dX11_write_19 : decode cX11_write 19 = .ok (.aload 5, 2) := by decide +kernel
theorem dX11_write_21 : decode cX11_write 21 = .ok (.invokevirtual 188, 3) := by decide +kernel
theorem dX11_write_24 : decode cX11_write 24 = .ok (.ifCond .eq 7, 3) := by decide +kernel
theorem dX11_write_27 : decode cX11_write 27 = .ok (.ldc2_w 341, 3) := by decide +kernel
theorem dX11_write_30 : decode cX11_write 30 = .ok (.lreturn, 1) := by decide +kernel
theorem dX11_write_31 : decode cX11_write 31 = .ok (.iload_n 2, 1) := by decide +kernel
theorem dX11_write_32 : decode cX11_write 32 = .ok (.ifCond .lt 12, 3) := by decide +kernel
theorem dX11_write_35 : decode cX11_write 35 = .ok (.iload_n 2, 1) := by decide +kernel
theorem dX11_write_36 : decode cX11_write 36 = .ok (.aload 5, 2) := by decide +kernel
theorem dX11_write_38 : decode cX11_write 38 = .ok (.getfield 196, 3) := by decide +kernel
theorem dX11_write_41 : decode cX11_write 41 = .ok (.if_icmp .lt 7, 3) := by decide +kernel
theorem dX11_write_44 : decode cX11_write 44 = .ok (.ldc2_w 343, 3) := by decide +kernel
theorem dX11_write_47 : decode cX11_write 47 = .ok (.lreturn, 1) := by decide +kernel
theorem dX11_write_48 : decode cX11_write 48 = .ok (.aload 5, 2) := by decide +kernel
theorem dX11_write_50 : decode cX11_write 50 = .ok (.iload_n 2, 1) := by decide +kernel
theorem dX11_write_51 : decode cX11_write 51 = .ok (.lload_n 3, 1) := by decide +kernel
theorem dX11_write_52 : decode cX11_write 52 = .ok (.invokevirtual 345, 3) := by decide +kernel
theorem dX11_write_55 : decode cX11_write 55 = .ok (.aload 5, 2) := by decide +kernel
theorem dX11_write_57 : decode cX11_write 57 = .ok (.getfield 199, 3) := by decide +kernel
theorem dX11_write_60 : decode cX11_write 60 = .ok (.iload_n 2, 1) := by decide +kernel
theorem dX11_write_61 : decode cX11_write 61 = .ok (.laload, 1) := by decide +kernel
theorem dX11_write_62 : decode cX11_write 62 = .ok (.lreturn, 1) := by decide +kernel
theorem wX11_write : Mw yX11_write cX11_write 6 (some .long) 3 := ⟨q_1193, q_120, by decide, ⟨by decide +kernel, by decide +kernel⟩, by decide +kernel, by decide +kernel⟩
/-- EyeTrainer.write(IIJ)J -/
def fX11_write (T : Sh) (M : Me) (x0 : Nat) (x1 : Int32) (x2 : Int32) (x3 : Int64) : Option (Int64 × Me) :=
  Option.bind (fX11_noTray x1) fun r1 => if r1 = 0 then (gd (kd T x0 = 10) <| Option.bind (gR M x0 9) fun a4 => gd (kd T a4 = 18) <| gv x1 (ln T a4) <| Option.bind (gR M a4 (Int32.toNatClampNeg x1)) fun a7 => gd (kd T a7 = 9) <| Option.bind (fX10_isMissing T M a7) fun r9 => if r9 = 0 then (if x2 < 0 then (some ((-7 : Int64), M)) else (if x2 < (gI M a7 2) then (Option.bind (fX10_put T M a7 x2 x3) <| un2 fun _u M13 => Option.bind (gR M13 a7 0) fun a14 => gd (kd T a14 = 14) <| gv x2 (ln T a14) <| some ((gJ M13 a14 (Int32.toNatClampNeg x2)), M13)) else (some ((-7 : Int64), M)))) else (some ((-6 : Int64), M))) else (some ((-2 : Int64), M))
set_option maxHeartbeats 4000000 in
theorem kX11_write {l : Launch} {B : Bx} {d : Nat} (hd : 1 ≤ d) {T : Sh} {M : Me} {x0 : Nat} {x1 : Int32} {x2 : Int32} {x3 : Int64} {r : Int64} {M' : Me} (h : fX11_write T M x0 x1 x2 x3 = some (r, M')) : Kt l B yX11_write cX11_write 6 (some .long) d [.ref (x0), .int (x1), .int (x2), .long (x3)] T M (some (.long r)) T M' := by
  refine kt_of wX11_write (Nat.le_refl _) (Nat.le_refl _) (Nat.le_of_ble_eq_true rfl) (fun X C hR hlx hin => ?_)
  subst hlx
  replace C : Cx X B cX11_write 6 RX11 d (tp T, sl T, tp T, sl T) := C
  unfold fX11_write at h
  show G X B 6 _ _ 0 [(0, .ref (x0)), (1, .int (x1)), (2, .int (x2)), (3, .long (x3))] [] T M
  refine g_iload_n (pc := 0) C dX11_write_0 rfl 1 rfl ?_
  replace h := bnd h; obtain ⟨r1, h1, h⟩ := h
  refine g_callSi (pc := 1) (As := [.int (x1)]) (st := []) C dX11_write_1 wX11_noTray q_952 q_951 (by omega) rfl (Nat.le_of_ble_eq_true rfl) (kX11_noTray (d := 0) (Nat.le_refl _) h1) ?_
  refine g_if_eq (pc := 4) (tgt := 11) C dX11_write_4 (by decide) (fun c2 => ?_) (fun c2 => ?_)
  · replace h := ifp c2 h
    refine g_aload_n (pc := 11) C dX11_write_11 rfl 0 rfl ?_
    replace h := gd_some h; obtain ⟨hk3, h⟩ := h
    refine g_get (pc := 12) (v := va_rf (gR M x0 9)) C dX11_write_12 kX11 hk3 9 (by decide) q_433 rfl ?_
    replace h := bnd h; obtain ⟨a4, ea4, h⟩ := h
    refine g_refq ea4 ?_
    refine g_iload_n (pc := 15) C dX11_write_15 rfl 1 rfl ?_
    replace h := gd_some h; obtain ⟨hk5, h⟩ := h
    replace h := gv_some h; obtain ⟨hi6, h⟩ := h
    refine g_aald18 (pc := 16) C dX11_write_16 hk5 hi6 ?_
    replace h := bnd h; obtain ⟨a7, ea7, h⟩ := h
    refine g_refq ea7 ?_
    refine g_astore (pc := 17) (lo2 := [(5, .ref (a7)), (0, .ref (x0)), (1, .int (x1)), (2, .int (x2)), (3, .long (x3))]) C dX11_write_17 (by decide) rfl ?_
    refine g_aload (pc := 19) C dX11_write_19 0 rfl ?_
    replace h := gd_some h; obtain ⟨hk8, h⟩ := h
    replace h := bnd h; obtain ⟨r9, h1, h⟩ := h
    refine g_callVi (pc := 21) (As := []) (st := []) C dX11_write_21 wX10_isMissing hk8 rfl (by decide) q_955 q_956 q_954 (by omega) rfl (Nat.le_of_ble_eq_true rfl) (kX10_isMissing (d := 0) (Nat.le_refl _) h1) ?_
    refine g_if_eq (pc := 24) (tgt := 31) C dX11_write_24 (by decide) (fun c10 => ?_) (fun c10 => ?_)
    · replace h := ifp c10 h
      refine g_iload_n (pc := 31) C dX11_write_31 rfl 3 rfl ?_
      refine g_if_lt (pc := 32) (tgt := 44) C dX11_write_32 (by decide) (fun c11 => ?_) (fun c11 => ?_)
      · replace h := ifp c11 h
        refine g_ldc2 (pc := 44) C dX11_write_44 q_1195 ?_
        obtain ⟨rfl, rfl⟩ := Prod.mk.inj (Option.some.inj h)
        exact g_lret C hR dX11_write_47
      · replace h := ifn c11 h
        refine g_iload_n (pc := 35) C dX11_write_35 rfl 3 rfl ?_
        refine g_aload (pc := 36) C dX11_write_36 0 rfl ?_
        refine g_get (pc := 38) (v := .int (gI M a7 2)) C dX11_write_38 kX10 hk8 2 (by decide) q_399 rfl ?_
        refine g_icmp_lt (pc := 41) (tgt := 48) C dX11_write_41 (by decide) (fun c12 => ?_) (fun c12 => ?_)
        · replace h := ifp c12 h
          refine g_aload (pc := 48) C dX11_write_48 0 rfl ?_
          refine g_iload_n (pc := 50) C dX11_write_50 rfl 3 rfl ?_
          refine g_lload_n (pc := 51) C dX11_write_51 rfl 4 rfl ?_
          replace h := bnd2 h; obtain ⟨_u, M13, h1, h⟩ := h
          refine g_callVv (pc := 52) (As := [.int (x2), .long (x3)]) (st := []) C dX11_write_52 wX10_put hk8 rfl (by decide) q_1197 q_1198 q_1196 (by omega) rfl (Nat.le_of_ble_eq_true rfl) (kX10_put (d := 0) (Nat.le_refl _) h1) ?_
          refine g_aload (pc := 55) C dX11_write_55 0 rfl ?_
          refine g_get (pc := 57) (v := va_rf (gR M13 a7 0)) C dX11_write_57 kX10 hk8 0 (by decide) q_396 rfl ?_
          replace h := bnd h; obtain ⟨a14, ea14, h⟩ := h
          refine g_refq ea14 ?_
          refine g_iload_n (pc := 60) C dX11_write_60 rfl 3 rfl ?_
          replace h := gd_some h; obtain ⟨hk15, h⟩ := h
          replace h := gv_some h; obtain ⟨hi16, h⟩ := h
          refine g_lald (pc := 61) C dX11_write_61 hk15 hi16 ?_
          obtain ⟨rfl, rfl⟩ := Prod.mk.inj (Option.some.inj h)
          exact g_lret C hR dX11_write_62
        · replace h := ifn c12 h
          refine g_ldc2 (pc := 44) C dX11_write_44 q_1195 ?_
          obtain ⟨rfl, rfl⟩ := Prod.mk.inj (Option.some.inj h)
          exact g_lret C hR dX11_write_47
    · replace h := ifn c10 h
      refine g_ldc2 (pc := 27) C dX11_write_27 q_1194 ?_
      obtain ⟨rfl, rfl⟩ := Prod.mk.inj (Option.some.inj h)
      exact g_lret C hR dX11_write_30
  · replace h := ifn c2 h
    refine g_ldc2 (pc := 7) C dX11_write_7 q_1119 ?_
    obtain ⟨rfl, rfl⟩ := Prod.mk.inj (Option.some.inj h)
    exact g_lret C hR dX11_write_10
theorem dX11_lists_0 : decode cX11_lists 0 = .ok (.iload_n 1, 1) := by decide +kernel
theorem dX11_lists_1 : decode cX11_lists 1 = .ok (.invokestatic 185, 3) := by decide +kernel
theorem dX11_lists_4 : decode cX11_lists 4 = .ok (.ifCond .ne 11, 3) := by decide +kernel
theorem dX11_lists_7 : decode cX11_lists 7 = .ok (.aload_n 0, 1) := by decide +kernel
theorem dX11_lists_8 : decode cX11_lists 8 = .ok (.iload_n 2, 1) := by decide +kernel
theorem dX11_lists_9 : decode cX11_lists 9 = .ok (.invokevirtual 107, 3) := by decide +kernel
theorem dX11_lists_12 : decode cX11_lists 12 = .ok (.ifCond .eq 6, 3) := by decide +kernel
theorem dX11_lists_15 : decode cX11_lists 15 = .ok (.bipush (-2), 2) := by decide +kernel
theorem dX11_lists_17 : decode cX11_lists 17 = .ok (.ireturn, 1) := by decide +kernel
theorem dX11_lists_18 : decode cX11_lists 18 = .ok (.aload_n 0, 1) := by decide +kernel
theorem dX11_lists_19 : decode cX11_lists 19 = .ok (.getfield 55, 3) := by decide +kernel
theorem dX11_lists_22 : decode cX11_lists 22 = .ok (.iload_n 1, 1) := by decide +kernel
theorem dX11_lists_23 : decode cX11_lists 23 = .ok (.aaload, 1) := by decide +kernel
theorem dX11_lists_24 : decode cX11_lists 24 = .ok (.astore_n 3, 1) := by decide +kernel
theorem dX11_lists_25 : decode cX11_lists 25 = .ok (.aload_n 3, 1) := by decide +kernel
theorem dX11_lists_26 : decode cX11_lists 26 = .ok (.invokevirtual 188, 3) := by decide +kernel
theorem dX11_lists_29 : decode cX11_lists 29 = .ok (.ifCond .eq 6, 3) := by decide +kernel
theorem dX11_lists_32 : decode cX11_lists 32 = .ok (.bipush (-6), 2) := by decide +kernel
theorem dX11_lists_34 : decode cX11_lists 34 = .ok (.ireturn, 1) := by decide +kernel
theorem dX11_lists_35 : decode cX11_lists 35 = .ok (.iconst 0, 1) := by decide +kernel
theorem dX11_lists_36 : decode cX11_lists 36 = .ok (.istore 4, 2) := by decide +kernel
theorem dX11_lists_38 : decode cX11_lists 38 = .ok (.iconst 0, 1) := by decide +kernel
theorem dX11_lists_39 : decode cX11_lists 39 = .ok (.istore 5, 2) := by decide +kernel
theorem dX11_lists_41 : decode cX11_lists 41 = .ok (.iload 5, 2) := by decide +kernel
theorem dX11_lists_43 : decode cX11_lists 43 = .ok (.aload_n 3, 1) := by decide +kernel
theorem dX11_lists_44 : decode cX11_lists 44 = .ok (.getfield 196, 3) := by decide +kernel
theorem dX11_lists_47 : decode cX11_lists 47 = .ok (.if_icmp .ge 74, 3) := by decide +kernel
theorem dX11_lists_50 : decode cX11_lists 50 = .ok (.aload_n 3, 1) := by decide +kernel
theorem dX11_lists_51 : decode cX11_lists 51 = .ok (.getfield 199, 3) := by decide +kernel
theorem dX11_lists_54 : decode cX11_lists 54 = .ok (.iload 5, 2) := by decide +kernel
theorem dX11_lists_56 : decode cX11_lists 56 = .ok (.laload, 1) := by decide +kernel
theorem dX11_lists_57 : decode cX11_lists 57 = .ok (.lstore 6, 2) := by decide +kernel
theorem dX11_lists_59 : decode cX11_lists 59 = .ok (.lload 6, 2) := by decide +kernel
theorem dX11_lists_61 : decode cX11_lists 61 = .ok (.lconst 0, 1) := by decide +kernel
theorem dX11_lists_62 : decode cX11_lists 62 = .ok (.lcmp, 1) := by decide +kernel
theorem dX11_lists_63 : decode cX11_lists 63 = .ok (.ifCond .lt 52, 3) := by decide +kernel
theorem dX11_lists_66 : decode cX11_lists 66 = .ok (.lload 6, 2) := by decide +kernel
theorem dX11_lists_68 : decode cX11_lists 68 = .ok (.ldc2_w 349, 3) := by decide +kernel
theorem dX11_lists_71 : decode cX11_lists 71 = .ok (.lcmp, 1) := by decide +kernel
theorem dX11_lists_72 : decode cX11_lists 72 = .ok (.ifCond .ge 43, 3) := by decide +kernel
theorem dX11_lists_75 : decode cX11_lists 75 = .ok (.lload 6, 2) := by decide +kernel
theorem dX11_lists_77 : decode cX11_lists 77 = .ok (.l2i, 1) := by decide +kernel
theorem dX11_lists_78 : decode cX11_lists 78 = .ok (.istore 8, 2) := by decide +kernel
theorem dX11_lists_80 : decode cX11_lists 80 = .ok (.aload_n 3, 1) := by decide +kernel
theorem dX11_lists_81 : decode cX11_lists 81 = .ok (.iload 5, 2) := by decide +kernel
theorem dX11_lists_83 : decode cX11_lists 83 = .ok (.ldc2_w 351, 3) := by decide +kernel
theorem dX11_lists_86 : decode cX11_lists 86 = .ok (.lload 6, 2) := by decide +kernel
theorem dX11_lists_88 : decode cX11_lists 88 = .ok (.lmul, 1) := by decide +kernel
theorem dX11_lists_89 : decode cX11_lists 89 = .ok (.aload_n 0, 1) := by decide +kernel
theorem dX11_lists_90 : decode cX11_lists 90 = .ok (.iload_n 2, 1) := by decide +kernel
theorem dX11_lists_91 : decode cX11_lists 91 = .ok (.iload 8, 2) := by decide +kernel
theorem dX11_lists_93 : decode cX11_lists 93 = .ok (.bipush 24, 2) := by decide +kernel
theorem dX11_lists_95 : decode cX11_lists 95 = .ok (.idiv, 1) := by decide +kernel
theorem dX11_lists_96 : decode cX11_lists 96 = .ok (.invokevirtual 147, 3) := by decide +kernel
theorem dX11_lists_99 : decode cX11_lists 99 = .ok (.iload 8, 2) := by decide +kernel
theorem dX11_lists_101 : decode cX11_lists 101 = .ok (.bipush 24, 2) := by decide +kernel
theorem dX11_lists_103 : decode cX11_lists 103 = .ok (.irem, 1) := by decide +kernel
theorem dX11_lists_104 : decode cX11_lists 104 = .ok (.ishr, 1) := by decide +kernel
theorem dX11_lists_105 : decode cX11_lists 105 = .ok (.iconst 1, 1) := by decide +kernel
theorem dX11_lists_106 : decode cX11_lists 106 = .ok (.iand, 1) := by decide +kernel
theorem dX11_lists_107 : decode cX11_lists 107 = .ok (.i2l, 1) := by decide +kernel
theorem dX11_lists_108 : decode cX11_lists 108 = .ok (.ladd, 1) := by decide +kernel
theorem dX11_lists_109 : decode cX11_lists 109 = .ok (.invokevirtual 345, 3) := by decide +kernel
theorem dX11_lists_112 : decode cX11_lists 112 = .ok (.iinc 4 1, 3) := by decide +kernel
theorem dX11_lists_115 : decode cX11_lists 115 = .ok (.iinc 5 1, 3) := by decide +kernel
theorem dX11_lists_118 : decode cX11_lists 118 = .ok (.goto (-77), 3) := by decide +kernel
theorem dX11_lists_121 : decode cX11_lists 121 = .ok (.iload 4, 2) := by decide +kernel
theorem dX11_lists_123 : decode cX11_lists 123 = .ok (.ireturn, 1) := by decide +kernel
theorem wX11_lists : Mw yX11_lists cX11_lists 9 (some .int) 2 := ⟨q_1203, q_120, by decide, ⟨by decide +kernel, by decide +kernel⟩, by decide +kernel, by decide +kernel⟩
-- a loop of EyeTrainer.lists at 41
def bX11_lists_41 (T : Sh) (x0 : Nat) (x2 : Int32) (x3 : Nat) (x4 : Int32) (x5 : Int32) (M : Me) : Option ((Int32 × Int32 × Me) ⊕ ((Int32 × Me))) :=
  gd (kd T x3 = 9) <| if (gI M x3 2) ≤ x5 then (some (.inr (x4, M))) else (Option.bind (gR M x3 0) fun a15 => gd (kd T a15 = 14) <| gv x5 (ln T a15) <| lt (gJ M a15 (Int32.toNatClampNeg x5)) fun v18 => if (lg_cmp v18 (0 : Int64)) < 0 then (lt (x5 + (1 : Int32)) fun v20 => some (.inl (x4, v20, M))) else (if 0 ≤ (lg_cmp v18 (384 : Int64)) then (lt (x5 + (1 : Int32)) fun v22 => some (.inl (x4, v22, M))) else (lt (Int64.toInt32 v18) fun v23 => gd (kd T x0 = 10) <| Option.bind (fX11_rowNow T M x0 x2 (v23 / (24 : Int32))) <| un2 fun r25 M26 => Option.bind (fX10_put T M26 x3 x5 (((2 : Int64) * v18) + (Int32.toInt64 ((r25 >>> ((v23 - v23 / (24 : Int32) * (24 : Int32)) &&& 31)) &&& (1 : Int32))))) <| un2 fun _u M27 => lt (x4 + (1 : Int32)) fun v28 => lt (x5 + (1 : Int32)) fun v29 => some (.inl (v28, v29, M27)))))
def PX11_lists_41 (X : Fx) (B : Bx) (Z : Nat × Nat × Nat × Nat) (Q : State → Prop) (T : Sh) (x0 : Nat) (x2 : Int32) (x3 : Nat) (s : Int32 × Int32 × Me) : Prop := G X B 9 Z Q 41 [(0, .ref (x0)), (2, .int (x2)), (3, .ref (x3)), (4, .int (s.1)), (5, .int (s.2.1))] [] T s.2.2
def EX11_lists_41 (X : Fx) (B : Bx) (Z : Nat × Nat × Nat × Nat) (Q : State → Prop) (T : Sh) (x0 : Nat) (x2 : Int32) (x3 : Nat) (r : (Int32 × Me)) : Prop := G X B 9 Z Q 121 [(4, .int (r.1))] [] T r.2
set_option maxHeartbeats 4000000 in
theorem tbX11_lists_41 {X : Fx} {B : Bx} {Z : Nat × Nat × Nat × Nat} {Q : State → Prop} {d : Nat} {T : Sh} (C : Cx X B cX11_lists 9 RX11 d Z) (hd : 4 ≤ d) {x0 : Nat} {x2 : Int32} {x3 : Nat} : ∀ (s : Int32 × Int32 × Me) (o : (Int32 × Int32 × Me) ⊕ ((Int32 × Me))), bX11_lists_41 T x0 x2 x3 s.1 s.2.1 s.2.2 = some o → lpE (PX11_lists_41 X B Z Q T x0 x2 x3) (EX11_lists_41 X B Z Q T x0 x2 x3) o → PX11_lists_41 X B Z Q T x0 x2 x3 s := by
  rintro ⟨x4, x5, M⟩ o h hE
  replace h : bX11_lists_41 T x0 x2 x3 x4 x5 M = some o := h
  unfold bX11_lists_41 at h
  show G X B 9 Z Q 41 [(0, .ref (x0)), (2, .int (x2)), (3, .ref (x3)), (4, .int (x4)), (5, .int (x5))] [] T M
  refine g_iload (pc := 41) C dX11_lists_41 4 rfl ?_
  refine g_aload_n (pc := 43) C dX11_lists_43 rfl 2 rfl ?_
  replace h := gd_some h; obtain ⟨hk13, h⟩ := h
  refine g_get (pc := 44) (v := .int (gI M x3 2)) C dX11_lists_44 kX10 hk13 2 (by decide) q_399 rfl ?_
  refine g_icmp_ge (pc := 47) (tgt := 121) C dX11_lists_47 (by decide) (fun c14 => ?_) (fun c14 => ?_)
  · replace h := ifp c14 h
    obtain rfl := Option.some.inj h
    exact g_sub [3] rfl (show G X B 9 Z Q 121 [(4, .int (x4))] [] T M from hE)
  · replace h := ifn c14 h
    refine g_aload_n (pc := 50) C dX11_lists_50 rfl 2 rfl ?_
    refine g_get (pc := 51) (v := va_rf (gR M x3 0)) C dX11_lists_51 kX10 hk13 0 (by decide) q_396 rfl ?_
    replace h := bnd h; obtain ⟨a15, ea15, h⟩ := h
    refine g_refq ea15 ?_
    refine g_iload (pc := 54) C dX11_lists_54 4 rfl ?_
    replace h := gd_some h; obtain ⟨hk16, h⟩ := h
    replace h := gv_some h; obtain ⟨hi17, h⟩ := h
    refine g_lald (pc := 56) C dX11_lists_56 hk16 hi17 ?_
    refine g_topl (fun v18 ev18 => ?_)
    replace h := lt_at ev18 h
    refine g_lstore (pc := 57) (lo2 := [(6, .long (v18)), (0, .ref (x0)), (2, .int (x2)), (3, .ref (x3)), (4, .int (x4)), (5, .int (x5))]) C dX11_lists_57 (by decide) rfl ?_
    refine g_lload (pc := 59) C dX11_lists_59 0 rfl ?_
    refine g_lconst (pc := 61) (v := 0) C dX11_lists_61 rfl ?_
    refine g_lcmp (pc := 62) C dX11_lists_62 ?_
    refine g_if_lt (pc := 63) (tgt := 115) C dX11_lists_63 (by decide) (fun c19 => ?_) (fun c19 => ?_)
    · replace h := ifp c19 h
      obtain ⟨v20, ev20⟩ : ∃ y : Int32, y = x5 + (1 : Int32) := ⟨_, rfl⟩
      replace h := lt_at ev20 h
      refine g_iinc (pc := 115) (v := v20) (k := 5) (lo2 := [(5, .int (v20)), (6, .long (v18)), (0, .ref (x0)), (2, .int (x2)), (3, .ref (x3)), (4, .int (x4))]) C dX11_lists_115 rfl (by rw [ev20]; rfl) (by decide) rfl ?_
      refine g_goto (pc := 118) (tgt := 41) C dX11_lists_118 (by decide) ?_
      obtain rfl := Option.some.inj h
      exact g_sub [2, 3, 4, 5, 0] rfl (show G X B 9 Z Q 41 [(0, .ref (x0)), (2, .int (x2)), (3, .ref (x3)), (4, .int (x4)), (5, .int (v20))] [] T M from hE)
    · replace h := ifn c19 h
      refine g_lload (pc := 66) C dX11_lists_66 0 rfl ?_
      refine g_ldc2 (pc := 68) C dX11_lists_68 q_1204 ?_
      refine g_lcmp (pc := 71) C dX11_lists_71 ?_
      refine g_if_ge (pc := 72) (tgt := 115) C dX11_lists_72 (by decide) (fun c21 => ?_) (fun c21 => ?_)
      · replace h := ifp c21 h
        obtain ⟨v22, ev22⟩ : ∃ y : Int32, y = x5 + (1 : Int32) := ⟨_, rfl⟩
        replace h := lt_at ev22 h
        refine g_iinc (pc := 115) (v := v22) (k := 5) (lo2 := [(5, .int (v22)), (6, .long (v18)), (0, .ref (x0)), (2, .int (x2)), (3, .ref (x3)), (4, .int (x4))]) C dX11_lists_115 rfl (by rw [ev22]; rfl) (by decide) rfl ?_
        refine g_goto (pc := 118) (tgt := 41) C dX11_lists_118 (by decide) ?_
        obtain rfl := Option.some.inj h
        exact g_sub [2, 3, 4, 5, 0] rfl (show G X B 9 Z Q 41 [(0, .ref (x0)), (2, .int (x2)), (3, .ref (x3)), (4, .int (x4)), (5, .int (v22))] [] T M from hE)
      · replace h := ifn c21 h
        refine g_lload (pc := 75) C dX11_lists_75 0 rfl ?_
        refine g_l2i (pc := 77) C dX11_lists_77 ?_
        refine g_topi (fun v23 ev23 => ?_)
        replace h := lt_at ev23 h
        refine g_istore (pc := 78) (lo2 := [(8, .int (v23)), (6, .long (v18)), (0, .ref (x0)), (2, .int (x2)), (3, .ref (x3)), (4, .int (x4)), (5, .int (x5))]) C dX11_lists_78 (by decide) rfl ?_
        refine g_aload_n (pc := 80) C dX11_lists_80 rfl 4 rfl ?_
        refine g_iload (pc := 81) C dX11_lists_81 6 rfl ?_
        refine g_ldc2 (pc := 83) C dX11_lists_83 q_1205 ?_
        refine g_lload (pc := 86) C dX11_lists_86 1 rfl ?_
        refine g_lmul (pc := 88) C dX11_lists_88 ?_
        refine g_aload_n (pc := 89) C dX11_lists_89 rfl 2 rfl ?_
        refine g_iload_n (pc := 90) C dX11_lists_90 rfl 3 rfl ?_
        refine g_iload (pc := 91) C dX11_lists_91 0 rfl ?_
        refine g_bipush (pc := 93) (v := 24) C dX11_lists_93 (by decide) ?_
        refine g_idiv (pc := 95) C dX11_lists_95 (by decide) ?_
        replace h := gd_some h; obtain ⟨hk24, h⟩ := h
        replace h := bnd2 h; obtain ⟨r25, M26, h1, h⟩ := h
        refine g_callVi (pc := 96) (As := [.int (x2), .int (v23 / (24 : Int32))]) (st := [.long ((2 : Int64) * v18), .int (x5), .ref (x3)]) C dX11_lists_96 wX11_rowNow hk24 rfl (by decide) q_827 q_24 q_825 (by omega) rfl (Nat.le_of_ble_eq_true rfl) (kX11_rowNow (d := 3) (Nat.le_refl _) h1) ?_
        refine g_iload (pc := 99) C dX11_lists_99 0 rfl ?_
        refine g_bipush (pc := 101) (v := 24) C dX11_lists_101 (by decide) ?_
        refine g_irem (pc := 103) C dX11_lists_103 (by decide) ?_
        refine g_ishr (pc := 104) C dX11_lists_104 ?_
        refine g_iconst (pc := 105) (v := 1) C dX11_lists_105 (by decide) ?_
        refine g_iand (pc := 106) C dX11_lists_106 ?_
        refine g_i2l (pc := 107) C dX11_lists_107 ?_
        refine g_ladd (pc := 108) C dX11_lists_108 ?_
        replace h := bnd2 h; obtain ⟨_u, M27, h1, h⟩ := h
        refine g_callVv (pc := 109) (As := [.int (x5), .long (((2 : Int64) * v18) + (Int32.toInt64 ((r25 >>> ((v23 - v23 / (24 : Int32) * (24 : Int32)) &&& 31)) &&& (1 : Int32))))]) (st := []) C dX11_lists_109 wX10_put hk13 rfl (by decide) q_1197 q_1198 q_1196 (by omega) rfl (Nat.le_of_ble_eq_true rfl) (kX10_put (d := 0) (Nat.le_refl _) h1) ?_
        obtain ⟨v28, ev28⟩ : ∃ y : Int32, y = x4 + (1 : Int32) := ⟨_, rfl⟩
        replace h := lt_at ev28 h
        refine g_iinc (pc := 112) (v := v28) (k := 5) (lo2 := [(4, .int (v28)), (8, .int (v23)), (6, .long (v18)), (0, .ref (x0)), (2, .int (x2)), (3, .ref (x3)), (5, .int (x5))]) C dX11_lists_112 rfl (by rw [ev28]; rfl) (by decide) rfl ?_
        obtain ⟨v29, ev29⟩ : ∃ y : Int32, y = x5 + (1 : Int32) := ⟨_, rfl⟩
        replace h := lt_at ev29 h
        refine g_iinc (pc := 115) (v := v29) (k := 6) (lo2 := [(5, .int (v29)), (4, .int (v28)), (8, .int (v23)), (6, .long (v18)), (0, .ref (x0)), (2, .int (x2)), (3, .ref (x3))]) C dX11_lists_115 rfl (by rw [ev29]; rfl) (by decide) rfl ?_
        refine g_goto (pc := 118) (tgt := 41) C dX11_lists_118 (by decide) ?_
        obtain rfl := Option.some.inj h
        exact g_sub [4, 5, 6, 1, 0] rfl (show G X B 9 Z Q 41 [(0, .ref (x0)), (2, .int (x2)), (3, .ref (x3)), (4, .int (v28)), (5, .int (v29))] [] T M27 from hE)
/-- EyeTrainer.lists(II)I -/
def fX11_lists (T : Sh) (M : Me) (x0 : Nat) (x1 : Int32) (x2 : Int32) : Option (Int32 × Me) :=
  Option.bind (fX11_noTray x1) fun r1 => if r1 = 0 then (gd (kd T x0 = 10) <| Option.bind (fX11_noLane T M x0 x2) fun r4 => if r4 = 0 then (Option.bind (gR M x0 9) fun a6 => gd (kd T a6 = 18) <| gv x1 (ln T a6) <| Option.bind (gR M a6 (Int32.toNatClampNeg x1)) fun a9 => gd (kd T a9 = 9) <| Option.bind (fX10_isMissing T M a9) fun r11 => if r11 = 0 then ((lp FU (fun s => bX11_lists_41 T x0 x2 a9 s.1 s.2.1 s.2.2) ((0 : Int32), (0 : Int32), M)).bind (un2 fun x4_30 M31 => some (x4_30, M31))) else (some ((-6 : Int32), M))) else (some ((-2 : Int32), M))) else (some ((-2 : Int32), M))
set_option maxHeartbeats 4000000 in
theorem kX11_lists {l : Launch} {B : Bx} {d : Nat} (hd : 4 ≤ d) {T : Sh} {M : Me} {x0 : Nat} {x1 : Int32} {x2 : Int32} {r : Int32} {M' : Me} (h : fX11_lists T M x0 x1 x2 = some (r, M')) : Kt l B yX11_lists cX11_lists 9 (some .int) d [.ref (x0), .int (x1), .int (x2)] T M (some (.int r)) T M' := by
  refine kt_of wX11_lists (Nat.le_refl _) (Nat.le_refl _) (Nat.le_of_ble_eq_true rfl) (fun X C hR hlx hin => ?_)
  subst hlx
  replace C : Cx X B cX11_lists 9 RX11 d (tp T, sl T, tp T, sl T) := C
  unfold fX11_lists at h
  show G X B 9 _ _ 0 [(0, .ref (x0)), (1, .int (x1)), (2, .int (x2))] [] T M
  refine g_iload_n (pc := 0) C dX11_lists_0 rfl 1 rfl ?_
  replace h := bnd h; obtain ⟨r1, h1, h⟩ := h
  refine g_callSi (pc := 1) (As := [.int (x1)]) (st := []) C dX11_lists_1 wX11_noTray q_952 q_951 (by omega) rfl (Nat.le_of_ble_eq_true rfl) (kX11_noTray (d := 0) (Nat.le_refl _) h1) ?_
  refine g_if_ne (pc := 4) (tgt := 15) C dX11_lists_4 (by decide) (fun c2 => ?_) (fun c2 => ?_)
  · replace h := ifn c2 h
    refine g_bipush (pc := 15) (v := (-2)) C dX11_lists_15 (by decide) ?_
    obtain ⟨rfl, rfl⟩ := Prod.mk.inj (Option.some.inj h)
    exact g_iret C hR dX11_lists_17
  · replace h := ifp c2 h
    refine g_aload_n (pc := 7) C dX11_lists_7 rfl 0 rfl ?_
    refine g_iload_n (pc := 8) C dX11_lists_8 rfl 2 rfl ?_
    replace h := gd_some h; obtain ⟨hk3, h⟩ := h
    replace h := bnd h; obtain ⟨r4, h1, h⟩ := h
    refine g_callVi (pc := 9) (As := [.int (x2)]) (st := []) C dX11_lists_9 wX11_noLane hk3 rfl (by decide) q_769 q_20 q_767 (by omega) rfl (Nat.le_of_ble_eq_true rfl) (kX11_noLane (d := 0) (Nat.le_refl _) h1) ?_
    refine g_if_eq (pc := 12) (tgt := 18) C dX11_lists_12 (by decide) (fun c5 => ?_) (fun c5 => ?_)
    · replace h := ifp c5 h
      refine g_aload_n (pc := 18) C dX11_lists_18 rfl 0 rfl ?_
      refine g_get (pc := 19) (v := va_rf (gR M x0 9)) C dX11_lists_19 kX11 hk3 9 (by decide) q_433 rfl ?_
      replace h := bnd h; obtain ⟨a6, ea6, h⟩ := h
      refine g_refq ea6 ?_
      refine g_iload_n (pc := 22) C dX11_lists_22 rfl 1 rfl ?_
      replace h := gd_some h; obtain ⟨hk7, h⟩ := h
      replace h := gv_some h; obtain ⟨hi8, h⟩ := h
      refine g_aald18 (pc := 23) C dX11_lists_23 hk7 hi8 ?_
      replace h := bnd h; obtain ⟨a9, ea9, h⟩ := h
      refine g_refq ea9 ?_
      refine g_astore_n (pc := 24) (lo2 := [(3, .ref (a9)), (0, .ref (x0)), (1, .int (x1)), (2, .int (x2))]) C dX11_lists_24 rfl (by decide) rfl ?_
      refine g_aload_n (pc := 25) C dX11_lists_25 rfl 0 rfl ?_
      replace h := gd_some h; obtain ⟨hk10, h⟩ := h
      replace h := bnd h; obtain ⟨r11, h1, h⟩ := h
      refine g_callVi (pc := 26) (As := []) (st := []) C dX11_lists_26 wX10_isMissing hk10 rfl (by decide) q_955 q_956 q_954 (by omega) rfl (Nat.le_of_ble_eq_true rfl) (kX10_isMissing (d := 0) (Nat.le_refl _) h1) ?_
      refine g_if_eq (pc := 29) (tgt := 35) C dX11_lists_29 (by decide) (fun c12 => ?_) (fun c12 => ?_)
      · replace h := ifp c12 h
        refine g_iconst (pc := 35) (v := 0) C dX11_lists_35 (by decide) ?_
        refine g_istore (pc := 36) (lo2 := [(4, .int ((0 : Int32))), (3, .ref (a9)), (0, .ref (x0)), (1, .int (x1)), (2, .int (x2))]) C dX11_lists_36 (by decide) rfl ?_
        refine g_iconst (pc := 38) (v := 0) C dX11_lists_38 (by decide) ?_
        refine g_istore (pc := 39) (lo2 := [(5, .int ((0 : Int32))), (4, .int ((0 : Int32))), (3, .ref (a9)), (0, .ref (x0)), (1, .int (x1)), (2, .int (x2))]) C dX11_lists_39 (by decide) rfl ?_
        replace h := bnd2 h; obtain ⟨x4_30, M31, h1, h⟩ := h
        refine g_sub [3, 5, 2, 1, 0] rfl ?_
        refine lp_G2 (P := PX11_lists_41 X B _ _ T x0 x2 a9) (E := EX11_lists_41 X B _ _ T x0 x2 a9) (tbX11_lists_41 C hd) h1 ?_
        show G X B 9 _ _ 121 [(4, .int (x4_30))] [] T M31
        refine g_iload (pc := 121) C dX11_lists_121 0 rfl ?_
        obtain ⟨rfl, rfl⟩ := Prod.mk.inj (Option.some.inj h)
        exact g_iret C hR dX11_lists_123
      · replace h := ifn c12 h
        refine g_bipush (pc := 32) (v := (-6)) C dX11_lists_32 (by decide) ?_
        obtain ⟨rfl, rfl⟩ := Prod.mk.inj (Option.some.inj h)
        exact g_iret C hR dX11_lists_34
    · replace h := ifn c5 h
      refine g_bipush (pc := 15) (v := (-2)) C dX11_lists_15 (by decide) ?_
      obtain ⟨rfl, rfl⟩ := Prod.mk.inj (Option.some.inj h)
      exact g_iret C hR dX11_lists_17
theorem dX11_image_0 : decode cX11_image 0 = .ok (.iload_n 1, 1) := by decide +kernel
theorem dX11_image_1 : decode cX11_image 1 = .ok (.ifCond .lt 8, 3) := by decide +kernel
theorem dX11_image_4 : decode cX11_image 4 = .ok (.iload_n 1, 1) := by decide +kernel
theorem dX11_image_5 : decode cX11_image 5 = .ok (.iconst 2, 1) := by decide +kernel
theorem dX11_image_6 : decode cX11_image 6 = .ok (.if_icmp .lt 6, 3) := by decide +kernel
theorem dX11_image_9 : decode cX11_image 9 = .ok (.bipush (-2), 2) := by decide +kernel
theorem dX11_image_11 : decode cX11_image 11 = .ok (.ireturn, 1) := by decide +kernel
theorem dX11_image_12 : decode cX11_image 12 = .ok (.aload_n 0, 1) := by decide +kernel
theorem dX11_image_13 : decode cX11_image 13 = .ok (.getfield 62, 3) := by decide +kernel
theorem dX11_image_16 : decode cX11_image 16 = .ok (.iload_n 1, 1) := by decide +kernel
theorem dX11_image_17 : decode cX11_image 17 = .ok (.aaload, 1) := by decide +kernel
theorem dX11_image_18 : decode cX11_image 18 = .ok (.aload_n 0, 1) := by decide +kernel
theorem dX11_image_19 : decode cX11_image 19 = .ok (.getfield 28, 3) := by decide +kernel
theorem dX11_image_22 : decode cX11_image 22 = .ok (.getfield 111, 3) := by decide +kernel
theorem dX11_image_25 : decode cX11_image 25 = .ok (.putfield 353, 3) := by decide +kernel
theorem dX11_image_28 : decode cX11_image 28 = .ok (.aload_n 0, 1) := by decide +kernel
theorem dX11_image_29 : decode cX11_image 29 = .ok (.getfield 62, 3) := by decide +kernel
theorem dX11_image_32 : decode cX11_image 32 = .ok (.iload_n 1, 1) := by decide +kernel
theorem dX11_image_33 : decode cX11_image 33 = .ok (.aaload, 1) := by decide +kernel
theorem dX11_image_34 : decode cX11_image 34 = .ok (.getfield 354, 3) := by decide +kernel
theorem dX11_image_37 : decode cX11_image 37 = .ok (.aload_n 0, 1) := by decide +kernel
theorem dX11_image_38 : decode cX11_image 38 = .ok (.getfield 42, 3) := by decide +kernel
theorem dX11_image_41 : decode cX11_image 41 = .ok (.invokevirtual 182, 3) := by decide +kernel
theorem dX11_image_44 : decode cX11_image 44 = .ok (.iconst 0, 1) := by decide +kernel
theorem dX11_image_45 : decode cX11_image 45 = .ok (.ireturn, 1) := by decide +kernel
theorem wX11_image : Mw yX11_image cX11_image 2 (some .int) 1 := ⟨q_1209, q_120, by decide, ⟨by decide +kernel, by decide +kernel⟩, by decide +kernel, by decide +kernel⟩
/-- EyeTrainer.image(I)I -/
def fX11_image (T : Sh) (M : Me) (x0 : Nat) (x1 : Int32) : Option (Int32 × Me) :=
  if x1 < 0 then (some ((-2 : Int32), M)) else (if x1 < (2 : Int32) then (gd (kd T x0 = 10) <| Option.bind (gR M x0 10) fun a4 => gd (kd T a4 = 16) <| gv x1 (ln T a4) <| Option.bind (gR M a4 (Int32.toNatClampNeg x1)) fun a7 => Option.bind (gR M x0 3) fun a8 => gd (kd T a8 = 4) <| Option.bind (gR M a8 0) fun a10 => gd (kd T a7 = 1) <| lt (pR M a7 1 (some a10)) fun M12 => Option.bind (gR M12 x0 10) fun a13 => gd (kd T a13 = 16) <| gv x1 (ln T a13) <| Option.bind (gR M12 a13 (Int32.toNatClampNeg x1)) fun a16 => gd (kd T a16 = 1) <| Option.bind (gR M12 a16 0) fun a18 => Option.bind (gR M12 x0 5) fun a19 => gd (kd T a18 = 7) <| Option.bind (fX8_copy T M12 a18 a19) <| un2 fun _u M21 => some ((0 : Int32), M21)) else (some ((-2 : Int32), M)))
set_option maxHeartbeats 4000000 in
theorem kX11_image {l : Launch} {B : Bx} {d : Nat} (hd : 1 ≤ d) {T : Sh} {M : Me} {x0 : Nat} {x1 : Int32} {r : Int32} {M' : Me} (h : fX11_image T M x0 x1 = some (r, M')) : Kt l B yX11_image cX11_image 2 (some .int) d [.ref (x0), .int (x1)] T M (some (.int r)) T M' := by
  refine kt_of wX11_image (Nat.le_refl _) (Nat.le_refl _) (Nat.le_of_ble_eq_true rfl) (fun X C hR hlx hin => ?_)
  subst hlx
  replace C : Cx X B cX11_image 2 RX11 d (tp T, sl T, tp T, sl T) := C
  unfold fX11_image at h
  show G X B 2 _ _ 0 [(0, .ref (x0)), (1, .int (x1))] [] T M
  refine g_iload_n (pc := 0) C dX11_image_0 rfl 1 rfl ?_
  refine g_if_lt (pc := 1) (tgt := 9) C dX11_image_1 (by decide) (fun c1 => ?_) (fun c1 => ?_)
  · replace h := ifp c1 h
    refine g_bipush (pc := 9) (v := (-2)) C dX11_image_9 (by decide) ?_
    obtain ⟨rfl, rfl⟩ := Prod.mk.inj (Option.some.inj h)
    exact g_iret C hR dX11_image_11
  · replace h := ifn c1 h
    refine g_iload_n (pc := 4) C dX11_image_4 rfl 1 rfl ?_
    refine g_iconst (pc := 5) (v := 2) C dX11_image_5 (by decide) ?_
    refine g_icmp_lt (pc := 6) (tgt := 12) C dX11_image_6 (by decide) (fun c2 => ?_) (fun c2 => ?_)
    · replace h := ifp c2 h
      refine g_aload_n (pc := 12) C dX11_image_12 rfl 0 rfl ?_
      replace h := gd_some h; obtain ⟨hk3, h⟩ := h
      refine g_get (pc := 13) (v := va_rf (gR M x0 10)) C dX11_image_13 kX11 hk3 10 (by decide) q_434 rfl ?_
      replace h := bnd h; obtain ⟨a4, ea4, h⟩ := h
      refine g_refq ea4 ?_
      refine g_iload_n (pc := 16) C dX11_image_16 rfl 1 rfl ?_
      replace h := gd_some h; obtain ⟨hk5, h⟩ := h
      replace h := gv_some h; obtain ⟨hi6, h⟩ := h
      refine g_aald16 (pc := 17) C dX11_image_17 hk5 hi6 ?_
      replace h := bnd h; obtain ⟨a7, ea7, h⟩ := h
      refine g_refq ea7 ?_
      refine g_aload_n (pc := 18) C dX11_image_18 rfl 0 rfl ?_
      refine g_get (pc := 19) (v := va_rf (gR M x0 3)) C dX11_image_19 kX11 hk3 3 (by decide) q_427 rfl ?_
      replace h := bnd h; obtain ⟨a8, ea8, h⟩ := h
      refine g_refq ea8 ?_
      replace h := gd_some h; obtain ⟨hk9, h⟩ := h
      refine g_get (pc := 22) (v := va_rf (gR M a8 0)) C dX11_image_22 kX5 hk9 0 (by decide) q_288 rfl ?_
      replace h := bnd h; obtain ⟨a10, ea10, h⟩ := h
      refine g_refq ea10 ?_
      replace h := gd_some h; obtain ⟨hk11, h⟩ := h
      refine g_putR (pc := 25) (x := (some a10)) (ft := .object "EyeTrainer$Lab") C dX11_image_25 kX2 hk11 1 (by decide) rfl rfl rfl (Or.inl ⟨_, rfl⟩) q_418 ?_
      refine g_mem (fun M12 eM12 => ?_)
      replace h := lt_at eM12 h
      refine g_aload_n (pc := 28) C dX11_image_28 rfl 0 rfl ?_
      refine g_get (pc := 29) (v := va_rf (gR M12 x0 10)) C dX11_image_29 kX11 hk3 10 (by decide) q_434 rfl ?_
      replace h := bnd h; obtain ⟨a13, ea13, h⟩ := h
      refine g_refq ea13 ?_
      refine g_iload_n (pc := 32) C dX11_image_32 rfl 1 rfl ?_
      replace h := gd_some h; obtain ⟨hk14, h⟩ := h
      replace h := gv_some h; obtain ⟨hi15, h⟩ := h
      refine g_aald16 (pc := 33) C dX11_image_33 hk14 hi15 ?_
      replace h := bnd h; obtain ⟨a16, ea16, h⟩ := h
      refine g_refq ea16 ?_
      replace h := gd_some h; obtain ⟨hk17, h⟩ := h
      refine g_get (pc := 34) (v := va_rf (gR M12 a16 0)) C dX11_image_34 kX2 hk17 0 (by decide) q_417 rfl ?_
      replace h := bnd h; obtain ⟨a18, ea18, h⟩ := h
      refine g_refq ea18 ?_
      refine g_aload_n (pc := 37) C dX11_image_37 rfl 0 rfl ?_
      refine g_get (pc := 38) (v := va_rf (gR M12 x0 5)) C dX11_image_38 kX11 hk3 5 (by decide) q_429 rfl ?_
      replace h := bnd h; obtain ⟨a19, ea19, h⟩ := h
      refine g_refq ea19 ?_
      replace h := gd_some h; obtain ⟨hk20, h⟩ := h
      replace h := bnd2 h; obtain ⟨_u, M21, h1, h⟩ := h
      refine g_callVv (pc := 41) (As := [.ref (a19)]) (st := []) C dX11_image_41 wX8_copy hk20 rfl (by decide) q_850 q_851 q_849 (by omega) rfl (Nat.le_of_ble_eq_true rfl) (kX8_copy (d := 0) (Nat.le_refl _) h1) ?_
      refine g_iconst (pc := 44) (v := 0) C dX11_image_44 (by decide) ?_
      obtain ⟨rfl, rfl⟩ := Prod.mk.inj (Option.some.inj h)
      exact g_iret C hR dX11_image_45
    · replace h := ifn c2 h
      refine g_bipush (pc := 9) (v := (-2)) C dX11_image_9 (by decide) ?_
      obtain ⟨rfl, rfl⟩ := Prod.mk.inj (Option.some.inj h)
      exact g_iret C hR dX11_image_11
theorem dX11_restore_0 : decode cX11_restore 0 = .ok (.iload_n 1, 1) := by decide +kernel
theorem dX11_restore_1 : decode cX11_restore 1 = .ok (.ifCond .lt 8, 3) := by decide +kernel
theorem dX11_restore_4 : decode cX11_restore 4 = .ok (.iload_n 1, 1) := by decide +kernel
theorem dX11_restore_5 : decode cX11_restore 5 = .ok (.iconst 2, 1) := by decide +kernel
theorem dX11_restore_6 : decode cX11_restore 6 = .ok (.if_icmp .lt 6, 3) := by decide +kernel
theorem dX11_restore_9 : decode cX11_restore 9 = .ok (.bipush (-2), 2) := by decide +kernel
theorem dX11_restore_11 : decode cX11_restore 11 = .ok (.ireturn, 1) := by decide +kernel
theorem dX11_restore_12 : decode cX11_restore 12 = .ok (.aload_n 0, 1) := by decide +kernel
theorem dX11_restore_13 : decode cX11_restore 13 = .ok (.getfield 62, 3) := by decide +kernel
theorem dX11_restore_16 : decode cX11_restore 16 = .ok (.iload_n 1, 1) := by decide +kernel
theorem dX11_restore_17 : decode cX11_restore 17 = .ok (.aaload, 1) := by decide +kernel
theorem dX11_restore_18 : decode cX11_restore 18 = .ok (.getfield 353, 3) := by decide +kernel
theorem dX11_restore_21 : decode cX11_restore 21 = .ok (.astore_n 2, 1) := by decide +kernel
theorem dX11_restore_22 : decode cX11_restore 22 = .ok (.aload_n 2, 1) := by decide +kernel
theorem dX11_restore_23 : decode cX11_restore 23 = .ok (.ifnonnull 6, 3) := by decide +kernel
theorem dX11_restore_26 : decode cX11_restore 26 = .ok (.bipush (-5), 2) := by decide +kernel
theorem dX11_restore_28 : decode cX11_restore 28 = .ok (.ireturn, 1) := by decide +kernel
theorem dX11_restore_29 : decode cX11_restore 29 = .ok (.aload_n 0, 1) := by decide +kernel
theorem dX11_restore_30 : decode cX11_restore 30 = .ok (.getfield 28, 3) := by decide +kernel
theorem dX11_restore_33 : decode cX11_restore 33 = .ok (.aload_n 2, 1) := by decide +kernel
theorem dX11_restore_34 : decode cX11_restore 34 = .ok (.invokevirtual 92, 3) := by decide +kernel
theorem dX11_restore_37 : decode cX11_restore 37 = .ok (.aload_n 0, 1) := by decide +kernel
theorem dX11_restore_38 : decode cX11_restore 38 = .ok (.getfield 42, 3) := by decide +kernel
theorem dX11_restore_41 : decode cX11_restore 41 = .ok (.aload_n 0, 1) := by decide +kernel
theorem dX11_restore_42 : decode cX11_restore 42 = .ok (.getfield 62, 3) := by decide +kernel
theorem dX11_restore_45 : decode cX11_restore 45 = .ok (.iload_n 1, 1) := by decide +kernel
theorem dX11_restore_46 : decode cX11_restore 46 = .ok (.aaload, 1) := by decide +kernel
theorem dX11_restore_47 : decode cX11_restore 47 = .ok (.getfield 354, 3) := by decide +kernel
theorem dX11_restore_50 : decode cX11_restore 50 = .ok (.invokevirtual 182, 3) := by decide +kernel
theorem dX11_restore_53 : decode cX11_restore 53 = .ok (.aload_n 0, 1) := by decide +kernel
theorem dX11_restore_54 : decode cX11_restore 54 = .ok (.iconst 0, 1) := by decide +kernel
theorem dX11_restore_55 : decode cX11_restore 55 = .ok (.putfield 98, 3) := by decide +kernel
theorem dX11_restore_58 : decode cX11_restore 58 = .ok (.iconst 0, 1) := by decide +kernel
theorem dX11_restore_59 : decode cX11_restore 59 = .ok (.ireturn, 1) := by decide +kernel
theorem wX11_restore : Mw yX11_restore cX11_restore 3 (some .int) 1 := ⟨q_1213, q_120, by decide, ⟨by decide +kernel, by decide +kernel⟩, by decide +kernel, by decide +kernel⟩
/-- EyeTrainer.restore(I)I -/
def fX11_restore (T : Sh) (M : Me) (x0 : Nat) (x1 : Int32) : Option (Int32 × Me) :=
  if x1 < 0 then (some ((-2 : Int32), M)) else (if x1 < (2 : Int32) then (gd (kd T x0 = 10) <| Option.bind (gR M x0 10) fun a4 => gd (kd T a4 = 16) <| gv x1 (ln T a4) <| Option.bind (gR M a4 (Int32.toNatClampNeg x1)) fun a7 => gd (kd T a7 = 1) <| lt (gR M a7 1) fun v9 => mo (v9) (some ((-5 : Int32), M)) (fun a10 => Option.bind (gR M x0 3) fun a11 => gd (kd T a11 = 4) <| Option.bind (fX5_useLab T M a11 a10) <| un2 fun _u M13 => Option.bind (gR M13 x0 5) fun a14 => Option.bind (gR M13 x0 10) fun a15 => gd (kd T a15 = 16) <| gv x1 (ln T a15) <| Option.bind (gR M13 a15 (Int32.toNatClampNeg x1)) fun a18 => gd (kd T a18 = 1) <| Option.bind (gR M13 a18 0) fun a20 => gd (kd T a14 = 7) <| Option.bind (fX8_copy T M13 a14 a20) <| un2 fun _u M22 => lt (pI M22 x0 8 (0 : Int32)) fun M23 => some ((0 : Int32), M23))) else (some ((-2 : Int32), M)))
set_option maxHeartbeats 4000000 in
theorem kX11_restore {l : Launch} {B : Bx} {d : Nat} (hd : 2 ≤ d) {T : Sh} {M : Me} {x0 : Nat} {x1 : Int32} {r : Int32} {M' : Me} (h : fX11_restore T M x0 x1 = some (r, M')) : Kt l B yX11_restore cX11_restore 3 (some .int) d [.ref (x0), .int (x1)] T M (some (.int r)) T M' := by
  refine kt_of wX11_restore (Nat.le_refl _) (Nat.le_refl _) (Nat.le_of_ble_eq_true rfl) (fun X C hR hlx hin => ?_)
  subst hlx
  replace C : Cx X B cX11_restore 3 RX11 d (tp T, sl T, tp T, sl T) := C
  unfold fX11_restore at h
  show G X B 3 _ _ 0 [(0, .ref (x0)), (1, .int (x1))] [] T M
  refine g_iload_n (pc := 0) C dX11_restore_0 rfl 1 rfl ?_
  refine g_if_lt (pc := 1) (tgt := 9) C dX11_restore_1 (by decide) (fun c1 => ?_) (fun c1 => ?_)
  · replace h := ifp c1 h
    refine g_bipush (pc := 9) (v := (-2)) C dX11_restore_9 (by decide) ?_
    obtain ⟨rfl, rfl⟩ := Prod.mk.inj (Option.some.inj h)
    exact g_iret C hR dX11_restore_11
  · replace h := ifn c1 h
    refine g_iload_n (pc := 4) C dX11_restore_4 rfl 1 rfl ?_
    refine g_iconst (pc := 5) (v := 2) C dX11_restore_5 (by decide) ?_
    refine g_icmp_lt (pc := 6) (tgt := 12) C dX11_restore_6 (by decide) (fun c2 => ?_) (fun c2 => ?_)
    · replace h := ifp c2 h
      refine g_aload_n (pc := 12) C dX11_restore_12 rfl 0 rfl ?_
      replace h := gd_some h; obtain ⟨hk3, h⟩ := h
      refine g_get (pc := 13) (v := va_rf (gR M x0 10)) C dX11_restore_13 kX11 hk3 10 (by decide) q_434 rfl ?_
      replace h := bnd h; obtain ⟨a4, ea4, h⟩ := h
      refine g_refq ea4 ?_
      refine g_iload_n (pc := 16) C dX11_restore_16 rfl 1 rfl ?_
      replace h := gd_some h; obtain ⟨hk5, h⟩ := h
      replace h := gv_some h; obtain ⟨hi6, h⟩ := h
      refine g_aald16 (pc := 17) C dX11_restore_17 hk5 hi6 ?_
      replace h := bnd h; obtain ⟨a7, ea7, h⟩ := h
      refine g_refq ea7 ?_
      replace h := gd_some h; obtain ⟨hk8, h⟩ := h
      refine g_get (pc := 18) (v := va_rf (gR M a7 1)) C dX11_restore_18 kX2 hk8 1 (by decide) q_418 rfl ?_
      refine g_topq (fun v9 ev9 => ?_)
      replace h := lt_at ev9 h
      refine g_astore_nQ (pc := 21) (lo2 := [(2, va_rf (v9)), (0, .ref (x0)), (1, .int (x1))]) C dX11_restore_21 rfl (by decide) rfl ?_
      refine g_aload_nQ (pc := 22) C dX11_restore_22 rfl 0 rfl ?_
      refine g_ifnonnull (pc := 23) (tgt := 29) C dX11_restore_23 (by decide) (fun a10 ea10 => ?_) (fun ea10 => ?_)
      · replace h := mo_some2 ea10 h
        subst ea10
        refine g_aload_n (pc := 29) C dX11_restore_29 rfl 1 rfl ?_
        refine g_get (pc := 30) (v := va_rf (gR M x0 3)) C dX11_restore_30 kX11 hk3 3 (by decide) q_427 rfl ?_
        replace h := bnd h; obtain ⟨a11, ea11, h⟩ := h
        refine g_refq ea11 ?_
        refine g_aload_n (pc := 33) C dX11_restore_33 rfl 0 rfl ?_
        replace h := gd_some h; obtain ⟨hk12, h⟩ := h
        replace h := bnd2 h; obtain ⟨_u, M13, h1, h⟩ := h
        refine g_callVv (pc := 34) (As := [.ref (a10)]) (st := []) C dX11_restore_34 wX5_useLab hk12 rfl (by decide) q_751 q_752 q_750 (by omega) rfl (Nat.le_of_ble_eq_true rfl) (kX5_useLab (d := 1) (Nat.le_refl _) h1) ?_
        refine g_aload_n (pc := 37) C dX11_restore_37 rfl 1 rfl ?_
        refine g_get (pc := 38) (v := va_rf (gR M13 x0 5)) C dX11_restore_38 kX11 hk3 5 (by decide) q_429 rfl ?_
        replace h := bnd h; obtain ⟨a14, ea14, h⟩ := h
        refine g_refq ea14 ?_
        refine g_aload_n (pc := 41) C dX11_restore_41 rfl 1 rfl ?_
        refine g_get (pc := 42) (v := va_rf (gR M13 x0 10)) C dX11_restore_42 kX11 hk3 10 (by decide) q_434 rfl ?_
        replace h := bnd h; obtain ⟨a15, ea15, h⟩ := h
        refine g_refq ea15 ?_
        refine g_iload_n (pc := 45) C dX11_restore_45 rfl 2 rfl ?_
        replace h := gd_some h; obtain ⟨hk16, h⟩ := h
        replace h := gv_some h; obtain ⟨hi17, h⟩ := h
        refine g_aald16 (pc := 46) C dX11_restore_46 hk16 hi17 ?_
        replace h := bnd h; obtain ⟨a18, ea18, h⟩ := h
        refine g_refq ea18 ?_
        replace h := gd_some h; obtain ⟨hk19, h⟩ := h
        refine g_get (pc := 47) (v := va_rf (gR M13 a18 0)) C dX11_restore_47 kX2 hk19 0 (by decide) q_417 rfl ?_
        replace h := bnd h; obtain ⟨a20, ea20, h⟩ := h
        refine g_refq ea20 ?_
        replace h := gd_some h; obtain ⟨hk21, h⟩ := h
        replace h := bnd2 h; obtain ⟨_u, M22, h1, h⟩ := h
        refine g_callVv (pc := 50) (As := [.ref (a20)]) (st := []) C dX11_restore_50 wX8_copy hk21 rfl (by decide) q_850 q_851 q_849 (by omega) rfl (Nat.le_of_ble_eq_true rfl) (kX8_copy (d := 0) (Nat.le_refl _) h1) ?_
        refine g_aload_n (pc := 53) C dX11_restore_53 rfl 1 rfl ?_
        refine g_iconst (pc := 54) (v := 0) C dX11_restore_54 (by decide) ?_
        refine g_putI (pc := 55) C dX11_restore_55 kX11 hk3 8 (by decide) rfl rfl rfl q_432 ?_
        refine g_mem (fun M23 eM23 => ?_)
        replace h := lt_at eM23 h
        refine g_iconst (pc := 58) (v := 0) C dX11_restore_58 (by decide) ?_
        obtain ⟨rfl, rfl⟩ := Prod.mk.inj (Option.some.inj h)
        exact g_iret C hR dX11_restore_59
      · replace h := mo_none2 ea10 h
        subst ea10
        refine g_bipush (pc := 26) (v := (-5)) C dX11_restore_26 (by decide) ?_
        obtain ⟨rfl, rfl⟩ := Prod.mk.inj (Option.some.inj h)
        exact g_iret C hR dX11_restore_28
    · replace h := ifn c2 h
      refine g_bipush (pc := 9) (v := (-2)) C dX11_restore_9 (by decide) ?_
      obtain ⟨rfl, rfl⟩ := Prod.mk.inj (Option.some.inj h)
      exact g_iret C hR dX11_restore_11
theorem dX11_count_0 : decode cX11_count 0 = .ok (.iload_n 1, 1) := by decide +kernel
theorem dX11_count_1 : decode cX11_count 1 = .ok (.tableswitch 141 0 9 #[55, 66, 77, 88, 99, 107, 115, 120, 125, 130], 55) := by decide +kernel
theorem dX11_count_56 : decode cX11_count 56 = .ok (.aload_n 0, 1) := by decide +kernel
theorem dX11_count_57 : decode cX11_count 57 = .ok (.getfield 28, 3) := by decide +kernel
theorem dX11_count_60 : decode cX11_count 60 = .ok (.getfield 111, 3) := by decide +kernel
theorem dX11_count_63 : decode cX11_count 63 = .ok (.getfield 272, 3) := by decide +kernel
theorem dX11_count_66 : decode cX11_count 66 = .ok (.ireturn, 1) := by decide +kernel
theorem dX11_count_67 : decode cX11_count 67 = .ok (.aload_n 0, 1) := by decide +kernel
theorem dX11_count_68 : decode cX11_count 68 = .ok (.getfield 28, 3) := by decide +kernel
theorem dX11_count_71 : decode cX11_count 71 = .ok (.getfield 111, 3) := by decide +kernel
theorem dX11_count_74 : decode cX11_count 74 = .ok (.getfield 133, 3) := by decide +kernel
theorem dX11_count_77 : decode cX11_count 77 = .ok (.ireturn, 1) := by decide +kernel
theorem dX11_count_78 : decode cX11_count 78 = .ok (.aload_n 0, 1) := by decide +kernel
theorem dX11_count_79 : decode cX11_count 79 = .ok (.getfield 28, 3) := by decide +kernel
theorem dX11_count_82 : decode cX11_count 82 = .ok (.getfield 111, 3) := by decide +kernel
theorem dX11_count_85 : decode cX11_count 85 = .ok (.getfield 254, 3) := by decide +kernel
theorem dX11_count_88 : decode cX11_count 88 = .ok (.ireturn, 1) := by decide +kernel
theorem dX11_count_89 : decode cX11_count 89 = .ok (.aload_n 0, 1) := by decide +kernel
theorem dX11_count_90 : decode cX11_count 90 = .ok (.getfield 28, 3) := by decide +kernel
theorem dX11_count_93 : decode cX11_count 93 = .ok (.getfield 111, 3) := by decide +kernel
theorem dX11_count_96 : decode cX11_count 96 = .ok (.getfield 357, 3) := by decide +kernel
theorem dX11_count_99 : decode cX11_count 99 = .ok (.ireturn, 1) := by decide +kernel
theorem dX11_count_100 : decode cX11_count 100 = .ok (.aload_n 0, 1) := by decide +kernel
theorem dX11_count_101 : decode cX11_count 101 = .ok (.getfield 42, 3) := by decide +kernel
theorem dX11_count_104 : decode cX11_count 104 = .ok (.getfield 151, 3) := by decide +kernel
theorem dX11_count_107 : decode cX11_count 107 = .ok (.ireturn, 1) := by decide +kernel
theorem dX11_count_108 : decode cX11_count 108 = .ok (.aload_n 0, 1) := by decide +kernel
theorem dX11_count_109 : decode cX11_count 109 = .ok (.getfield 42, 3) := by decide +kernel
theorem dX11_count_112 : decode cX11_count 112 = .ok (.getfield 179, 3) := by decide +kernel
theorem dX11_count_115 : decode cX11_count 115 = .ok (.ireturn, 1) := by decide +kernel
theorem dX11_count_116 : decode cX11_count 116 = .ok (.aload_n 0, 1) := by decide +kernel
theorem dX11_count_117 : decode cX11_count 117 = .ok (.invokevirtual 164, 3) := by decide +kernel
theorem dX11_count_120 : decode cX11_count 120 = .ok (.ireturn, 1) := by decide +kernel
theorem dX11_count_121 : decode cX11_count 121 = .ok (.aload_n 0, 1) := by decide +kernel
theorem dX11_count_122 : decode cX11_count 122 = .ok (.getfield 98, 3) := by decide +kernel
theorem dX11_count_125 : decode cX11_count 125 = .ok (.ireturn, 1) := by decide +kernel
theorem dX11_count_126 : decode cX11_count 126 = .ok (.aload_n 0, 1) := by decide +kernel
theorem dX11_count_127 : decode cX11_count 127 = .ok (.getfield 77, 3) := by decide +kernel
theorem dX11_count_130 : decode cX11_count 130 = .ok (.ireturn, 1) := by decide +kernel
theorem dX11_count_131 : decode cX11_count 131 = .ok (.aload_n 0, 1) := by decide +kernel
theorem dX11_count_132 : decode cX11_count 132 = .ok (.getfield 28, 3) := by decide +kernel
theorem dX11_count_135 : decode cX11_count 135 = .ok (.getfield 111, 3) := by decide +kernel
theorem dX11_count_138 : decode cX11_count 138 = .ok (.getfield 101, 3) := by decide +kernel
theorem dX11_count_141 : decode cX11_count 141 = .ok (.ireturn, 1) := by decide +kernel
theorem dX11_count_142 : decode cX11_count 142 = .ok (.iconst (-1), 1) := by decide +kernel
theorem dX11_count_143 : decode cX11_count 143 = .ok (.ireturn, 1) := by decide +kernel
theorem wX11_count : Mw yX11_count cX11_count 2 (some .int) 1 := ⟨q_1217, q_120, by decide, ⟨by decide +kernel, by decide +kernel⟩, by decide +kernel, by decide +kernel⟩
/-- EyeTrainer.count(I)I -/
def fX11_count (T : Sh) (M : Me) (x0 : Nat) (x1 : Int32) : Option (Int32 × Me) :=
  if x1 = (0 : Int32) then (gd (kd T x0 = 10) <| Option.bind (gR M x0 3) fun a2 => gd (kd T a2 = 4) <| Option.bind (gR M a2 0) fun a4 => gd (kd T a4 = 2) <| some ((gI M a4 7), M)) else (if x1 = (1 : Int32) then (gd (kd T x0 = 10) <| Option.bind (gR M x0 3) fun a7 => gd (kd T a7 = 4) <| Option.bind (gR M a7 0) fun a9 => gd (kd T a9 = 2) <| some ((gI M a9 8), M)) else (if x1 = (2 : Int32) then (gd (kd T x0 = 10) <| Option.bind (gR M x0 3) fun a12 => gd (kd T a12 = 4) <| Option.bind (gR M a12 0) fun a14 => gd (kd T a14 = 2) <| some ((gI M a14 5), M)) else (if x1 = (3 : Int32) then (gd (kd T x0 = 10) <| Option.bind (gR M x0 3) fun a17 => gd (kd T a17 = 4) <| Option.bind (gR M a17 0) fun a19 => gd (kd T a19 = 2) <| some ((gI M a19 6), M)) else (if x1 = (4 : Int32) then (gd (kd T x0 = 10) <| Option.bind (gR M x0 5) fun a22 => gd (kd T a22 = 7) <| some ((gI M a22 1), M)) else (if x1 = (5 : Int32) then (gd (kd T x0 = 10) <| Option.bind (gR M x0 5) fun a25 => gd (kd T a25 = 7) <| some ((gI M a25 2), M)) else (if x1 = (6 : Int32) then (gd (kd T x0 = 10) <| Option.bind (fX11_passingLanes T M x0) <| un2 fun r28 M29 => some (r28, M29)) else (if x1 = (7 : Int32) then (gd (kd T x0 = 10) <| some ((gI M x0 8), M)) else (if x1 = (8 : Int32) then (gd (kd T x0 = 10) <| some ((gI M x0 1), M)) else (if x1 = (9 : Int32) then (gd (kd T x0 = 10) <| Option.bind (gR M x0 3) fun a33 => gd (kd T a33 = 4) <| Option.bind (gR M a33 0) fun a35 => gd (kd T a35 = 2) <| some ((gI M a35 9), M)) else (some ((-1 : Int32), M)))))))))))
set_option maxHeartbeats 4000000 in
theorem kX11_count {l : Launch} {B : Bx} {d : Nat} (hd : 6 ≤ d) {T : Sh} {M : Me} {x0 : Nat} {x1 : Int32} {r : Int32} {M' : Me} (h : fX11_count T M x0 x1 = some (r, M')) : Kt l B yX11_count cX11_count 2 (some .int) d [.ref (x0), .int (x1)] T M (some (.int r)) T M' := by
  refine kt_of wX11_count (Nat.le_refl _) (Nat.le_refl _) (Nat.le_of_ble_eq_true rfl) (fun X C hR hlx hin => ?_)
  subst hlx
  replace C : Cx X B cX11_count 2 RX11 d (tp T, sl T, tp T, sl T) := C
  unfold fX11_count at h
  show G X B 2 _ _ 0 [(0, .ref (x0)), (1, .int (x1))] [] T M
  refine g_iload_n (pc := 0) C dX11_count_0 rfl 1 rfl ?_
  by_cases cw37_0 : x1 = (0 : Int32)
  · replace h := ifp cw37_0 h
    have hq : x1.toInt = 0 := by rw [cw37_0]; rfl
    refine g_tswIn (off := 55) (tgt := 56) C dX11_count_1 (by rw [hq]; decide) (by rw [hq]; decide) (by rw [hq]; rfl) (by decide) ?_
    refine g_aload_n (pc := 56) C dX11_count_56 rfl 0 rfl ?_
    replace h := gd_some h; obtain ⟨hk1, h⟩ := h
    refine g_get (pc := 57) (v := va_rf (gR M x0 3)) C dX11_count_57 kX11 hk1 3 (by decide) q_427 rfl ?_
    replace h := bnd h; obtain ⟨a2, ea2, h⟩ := h
    refine g_refq ea2 ?_
    replace h := gd_some h; obtain ⟨hk3, h⟩ := h
    refine g_get (pc := 60) (v := va_rf (gR M a2 0)) C dX11_count_60 kX5 hk3 0 (by decide) q_288 rfl ?_
    replace h := bnd h; obtain ⟨a4, ea4, h⟩ := h
    refine g_refq ea4 ?_
    replace h := gd_some h; obtain ⟨hk5, h⟩ := h
    refine g_get (pc := 63) (v := .int (gI M a4 7)) C dX11_count_63 kX3 hk5 7 (by decide) q_242 rfl ?_
    obtain ⟨rfl, rfl⟩ := Prod.mk.inj (Option.some.inj h)
    exact g_iret C hR dX11_count_66
  · replace h := ifn cw37_0 h
    by_cases cw37_1 : x1 = (1 : Int32)
    · replace h := ifp cw37_1 h
      have hq : x1.toInt = 1 := by rw [cw37_1]; rfl
      refine g_tswIn (off := 66) (tgt := 67) C dX11_count_1 (by rw [hq]; decide) (by rw [hq]; decide) (by rw [hq]; rfl) (by decide) ?_
      refine g_aload_n (pc := 67) C dX11_count_67 rfl 0 rfl ?_
      replace h := gd_some h; obtain ⟨hk6, h⟩ := h
      refine g_get (pc := 68) (v := va_rf (gR M x0 3)) C dX11_count_68 kX11 hk6 3 (by decide) q_427 rfl ?_
      replace h := bnd h; obtain ⟨a7, ea7, h⟩ := h
      refine g_refq ea7 ?_
      replace h := gd_some h; obtain ⟨hk8, h⟩ := h
      refine g_get (pc := 71) (v := va_rf (gR M a7 0)) C dX11_count_71 kX5 hk8 0 (by decide) q_288 rfl ?_
      replace h := bnd h; obtain ⟨a9, ea9, h⟩ := h
      refine g_refq ea9 ?_
      replace h := gd_some h; obtain ⟨hk10, h⟩ := h
      refine g_get (pc := 74) (v := .int (gI M a9 8)) C dX11_count_74 kX3 hk10 8 (by decide) q_244 rfl ?_
      obtain ⟨rfl, rfl⟩ := Prod.mk.inj (Option.some.inj h)
      exact g_iret C hR dX11_count_77
    · replace h := ifn cw37_1 h
      by_cases cw37_2 : x1 = (2 : Int32)
      · replace h := ifp cw37_2 h
        have hq : x1.toInt = 2 := by rw [cw37_2]; rfl
        refine g_tswIn (off := 77) (tgt := 78) C dX11_count_1 (by rw [hq]; decide) (by rw [hq]; decide) (by rw [hq]; rfl) (by decide) ?_
        refine g_aload_n (pc := 78) C dX11_count_78 rfl 0 rfl ?_
        replace h := gd_some h; obtain ⟨hk11, h⟩ := h
        refine g_get (pc := 79) (v := va_rf (gR M x0 3)) C dX11_count_79 kX11 hk11 3 (by decide) q_427 rfl ?_
        replace h := bnd h; obtain ⟨a12, ea12, h⟩ := h
        refine g_refq ea12 ?_
        replace h := gd_some h; obtain ⟨hk13, h⟩ := h
        refine g_get (pc := 82) (v := va_rf (gR M a12 0)) C dX11_count_82 kX5 hk13 0 (by decide) q_288 rfl ?_
        replace h := bnd h; obtain ⟨a14, ea14, h⟩ := h
        refine g_refq ea14 ?_
        replace h := gd_some h; obtain ⟨hk15, h⟩ := h
        refine g_get (pc := 85) (v := .int (gI M a14 5)) C dX11_count_85 kX3 hk15 5 (by decide) q_237 rfl ?_
        obtain ⟨rfl, rfl⟩ := Prod.mk.inj (Option.some.inj h)
        exact g_iret C hR dX11_count_88
      · replace h := ifn cw37_2 h
        by_cases cw37_3 : x1 = (3 : Int32)
        · replace h := ifp cw37_3 h
          have hq : x1.toInt = 3 := by rw [cw37_3]; rfl
          refine g_tswIn (off := 88) (tgt := 89) C dX11_count_1 (by rw [hq]; decide) (by rw [hq]; decide) (by rw [hq]; rfl) (by decide) ?_
          refine g_aload_n (pc := 89) C dX11_count_89 rfl 0 rfl ?_
          replace h := gd_some h; obtain ⟨hk16, h⟩ := h
          refine g_get (pc := 90) (v := va_rf (gR M x0 3)) C dX11_count_90 kX11 hk16 3 (by decide) q_427 rfl ?_
          replace h := bnd h; obtain ⟨a17, ea17, h⟩ := h
          refine g_refq ea17 ?_
          replace h := gd_some h; obtain ⟨hk18, h⟩ := h
          refine g_get (pc := 93) (v := va_rf (gR M a17 0)) C dX11_count_93 kX5 hk18 0 (by decide) q_288 rfl ?_
          replace h := bnd h; obtain ⟨a19, ea19, h⟩ := h
          refine g_refq ea19 ?_
          replace h := gd_some h; obtain ⟨hk20, h⟩ := h
          refine g_get (pc := 96) (v := .int (gI M a19 6)) C dX11_count_96 kX3 hk20 6 (by decide) q_240 rfl ?_
          obtain ⟨rfl, rfl⟩ := Prod.mk.inj (Option.some.inj h)
          exact g_iret C hR dX11_count_99
        · replace h := ifn cw37_3 h
          by_cases cw37_4 : x1 = (4 : Int32)
          · replace h := ifp cw37_4 h
            have hq : x1.toInt = 4 := by rw [cw37_4]; rfl
            refine g_tswIn (off := 99) (tgt := 100) C dX11_count_1 (by rw [hq]; decide) (by rw [hq]; decide) (by rw [hq]; rfl) (by decide) ?_
            refine g_aload_n (pc := 100) C dX11_count_100 rfl 0 rfl ?_
            replace h := gd_some h; obtain ⟨hk21, h⟩ := h
            refine g_get (pc := 101) (v := va_rf (gR M x0 5)) C dX11_count_101 kX11 hk21 5 (by decide) q_429 rfl ?_
            replace h := bnd h; obtain ⟨a22, ea22, h⟩ := h
            refine g_refq ea22 ?_
            replace h := gd_some h; obtain ⟨hk23, h⟩ := h
            refine g_get (pc := 104) (v := .int (gI M a22 1)) C dX11_count_104 kX8 hk23 1 (by decide) q_377 rfl ?_
            obtain ⟨rfl, rfl⟩ := Prod.mk.inj (Option.some.inj h)
            exact g_iret C hR dX11_count_107
          · replace h := ifn cw37_4 h
            by_cases cw37_5 : x1 = (5 : Int32)
            · replace h := ifp cw37_5 h
              have hq : x1.toInt = 5 := by rw [cw37_5]; rfl
              refine g_tswIn (off := 107) (tgt := 108) C dX11_count_1 (by rw [hq]; decide) (by rw [hq]; decide) (by rw [hq]; rfl) (by decide) ?_
              refine g_aload_n (pc := 108) C dX11_count_108 rfl 0 rfl ?_
              replace h := gd_some h; obtain ⟨hk24, h⟩ := h
              refine g_get (pc := 109) (v := va_rf (gR M x0 5)) C dX11_count_109 kX11 hk24 5 (by decide) q_429 rfl ?_
              replace h := bnd h; obtain ⟨a25, ea25, h⟩ := h
              refine g_refq ea25 ?_
              replace h := gd_some h; obtain ⟨hk26, h⟩ := h
              refine g_get (pc := 112) (v := .int (gI M a25 2)) C dX11_count_112 kX8 hk26 2 (by decide) q_379 rfl ?_
              obtain ⟨rfl, rfl⟩ := Prod.mk.inj (Option.some.inj h)
              exact g_iret C hR dX11_count_115
            · replace h := ifn cw37_5 h
              by_cases cw37_6 : x1 = (6 : Int32)
              · replace h := ifp cw37_6 h
                have hq : x1.toInt = 6 := by rw [cw37_6]; rfl
                refine g_tswIn (off := 115) (tgt := 116) C dX11_count_1 (by rw [hq]; decide) (by rw [hq]; decide) (by rw [hq]; rfl) (by decide) ?_
                refine g_aload_n (pc := 116) C dX11_count_116 rfl 0 rfl ?_
                replace h := gd_some h; obtain ⟨hk27, h⟩ := h
                replace h := bnd2 h; obtain ⟨r28, M29, h1, h⟩ := h
                refine g_callVi (pc := 117) (As := []) (st := []) C dX11_count_117 wX11_passingLanes hk27 rfl (by decide) q_921 q_33 q_919 (by omega) rfl (Nat.le_of_ble_eq_true rfl) (kX11_passingLanes (d := 5) (Nat.le_refl _) h1) ?_
                obtain ⟨rfl, rfl⟩ := Prod.mk.inj (Option.some.inj h)
                exact g_iret C hR dX11_count_120
              · replace h := ifn cw37_6 h
                by_cases cw37_7 : x1 = (7 : Int32)
                · replace h := ifp cw37_7 h
                  have hq : x1.toInt = 7 := by rw [cw37_7]; rfl
                  refine g_tswIn (off := 120) (tgt := 121) C dX11_count_1 (by rw [hq]; decide) (by rw [hq]; decide) (by rw [hq]; rfl) (by decide) ?_
                  refine g_aload_n (pc := 121) C dX11_count_121 rfl 0 rfl ?_
                  replace h := gd_some h; obtain ⟨hk30, h⟩ := h
                  refine g_get (pc := 122) (v := .int (gI M x0 8)) C dX11_count_122 kX11 hk30 8 (by decide) q_432 rfl ?_
                  obtain ⟨rfl, rfl⟩ := Prod.mk.inj (Option.some.inj h)
                  exact g_iret C hR dX11_count_125
                · replace h := ifn cw37_7 h
                  by_cases cw37_8 : x1 = (8 : Int32)
                  · replace h := ifp cw37_8 h
                    have hq : x1.toInt = 8 := by rw [cw37_8]; rfl
                    refine g_tswIn (off := 125) (tgt := 126) C dX11_count_1 (by rw [hq]; decide) (by rw [hq]; decide) (by rw [hq]; rfl) (by decide) ?_
                    refine g_aload_n (pc := 126) C dX11_count_126 rfl 0 rfl ?_
                    replace h := gd_some h; obtain ⟨hk31, h⟩ := h
                    refine g_get (pc := 127) (v := .int (gI M x0 1)) C dX11_count_127 kX11 hk31 1 (by decide) q_425 rfl ?_
                    obtain ⟨rfl, rfl⟩ := Prod.mk.inj (Option.some.inj h)
                    exact g_iret C hR dX11_count_130
                  · replace h := ifn cw37_8 h
                    by_cases cw37_9 : x1 = (9 : Int32)
                    · replace h := ifp cw37_9 h
                      have hq : x1.toInt = 9 := by rw [cw37_9]; rfl
                      refine g_tswIn (off := 130) (tgt := 131) C dX11_count_1 (by rw [hq]; decide) (by rw [hq]; decide) (by rw [hq]; rfl) (by decide) ?_
                      refine g_aload_n (pc := 131) C dX11_count_131 rfl 0 rfl ?_
                      replace h := gd_some h; obtain ⟨hk32, h⟩ := h
                      refine g_get (pc := 132) (v := va_rf (gR M x0 3)) C dX11_count_132 kX11 hk32 3 (by decide) q_427 rfl ?_
                      replace h := bnd h; obtain ⟨a33, ea33, h⟩ := h
                      refine g_refq ea33 ?_
                      replace h := gd_some h; obtain ⟨hk34, h⟩ := h
                      refine g_get (pc := 135) (v := va_rf (gR M a33 0)) C dX11_count_135 kX5 hk34 0 (by decide) q_288 rfl ?_
                      replace h := bnd h; obtain ⟨a35, ea35, h⟩ := h
                      refine g_refq ea35 ?_
                      replace h := gd_some h; obtain ⟨hk36, h⟩ := h
                      refine g_get (pc := 138) (v := .int (gI M a35 9)) C dX11_count_138 kX3 hk36 9 (by decide) q_246 rfl ?_
                      obtain ⟨rfl, rfl⟩ := Prod.mk.inj (Option.some.inj h)
                      exact g_iret C hR dX11_count_141
                    · replace h := ifn cw37_9 h
                      refine g_tswOut (tgt := 142) C dX11_count_1 (by
                          have := sw_ne cw37_0 (i := 0) rfl
                          have := sw_ne cw37_1 (i := 1) rfl
                          have := sw_ne cw37_2 (i := 2) rfl
                          have := sw_ne cw37_3 (i := 3) rfl
                          have := sw_ne cw37_4 (i := 4) rfl
                          have := sw_ne cw37_5 (i := 5) rfl
                          have := sw_ne cw37_6 (i := 6) rfl
                          have := sw_ne cw37_7 (i := 7) rfl
                          have := sw_ne cw37_8 (i := 8) rfl
                          have := sw_ne cw37_9 (i := 9) rfl
                          omega) (by decide) ?_
                      refine g_iconst (pc := 142) (v := (-1)) C dX11_count_142 (by decide) ?_
                      obtain ⟨rfl, rfl⟩ := Prod.mk.inj (Option.some.inj h)
                      exact g_iret C hR dX11_count_143
