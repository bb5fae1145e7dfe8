set_option maxRecDepth 20000 in
theorem q_42 : Cond.selects RX11 yX11_tellingSets yX11_tellingSets ∈ lw_gd := mem_gd (List.mem_of_getElem? (i := 42) (by decide +kernel)) rfl
set_option maxRecDepth 20000 in
theorem q_322 : Cond.fieldLink RX11 236 "EyeTrainer$Shapes" "most" "I" ∈ lw_gd := mem_gd (List.mem_of_getElem? (i := 322) (by decide +kernel)) rfl
set_option maxRecDepth 20000 in
theorem q_324 : Cond.fieldLink RX11 239 "EyeTrainer$Shapes" "left" "I" ∈ lw_gd := mem_gd (List.mem_of_getElem? (i := 324) (by decide +kernel)) rfl
set_option maxRecDepth 20000 in
theorem q_326 : Cond.fieldLink RX11 242 "EyeTrainer$Shapes" "right" "I" ∈ lw_gd := mem_gd (List.mem_of_getElem? (i := 326) (by decide +kernel)) rfl
set_option maxRecDepth 20000 in
theorem q_328 : Cond.fieldLink RX11 245 "EyeTrainer$Shapes" "low" "I" ∈ lw_gd := mem_gd (List.mem_of_getElem? (i := 328) (by decide +kernel)) rfl
set_option maxRecDepth 20000 in
theorem q_330 : Cond.fieldLink RX11 248 "EyeTrainer$Shapes" "high" "I" ∈ lw_gd := mem_gd (List.mem_of_getElem? (i := 330) (by decide +kernel)) rfl
set_option maxRecDepth 20000 in
theorem q_332 : Cond.fieldLink RX11 260 "EyeTrainer$Shapes" "ellipseSize" "I" ∈ lw_gd := mem_gd (List.mem_of_getElem? (i := 332) (by decide +kernel)) rfl
set_option maxRecDepth 20000 in
theorem q_336 : Cond.fieldLink RX11 227 "EyeTrainer$Shapes" "eyesFound" "I" ∈ lw_gd := mem_gd (List.mem_of_getElem? (i := 336) (by decide +kernel)) rfl
set_option maxRecDepth 20000 in
theorem q_338 : Cond.fieldLink RX11 230 "EyeTrainer$Shapes" "greatestEye" "I" ∈ lw_gd := mem_gd (List.mem_of_getElem? (i := 338) (by decide +kernel)) rfl
set_option maxRecDepth 20000 in
theorem q_1006 : Cond.code yX11_area cX11_area 2 (some .int) ∈ lw_gd := mem_gd (List.mem_of_getElem? (i := 1006) (by decide +kernel)) rfl
set_option maxRecDepth 20000 in
theorem q_1010 : Cond.code yX11_eyes cX11_eyes 2 (some .int) ∈ lw_gd := mem_gd (List.mem_of_getElem? (i := 1010) (by decide +kernel)) rfl
set_option maxRecDepth 20000 in
theorem q_1011 : Cond.methodLink RX11 224 yX7_findEyes ∈ lw_gd := mem_gd (List.mem_of_getElem? (i := 1011) (by decide +kernel)) rfl
set_option maxRecDepth 20000 in
theorem q_1012 : Cond.instanceMethod yX7_findEyes ∈ lw_gd := mem_gd (List.mem_of_getElem? (i := 1012) (by decide +kernel)) rfl
set_option maxRecDepth 20000 in
theorem q_1013 : Cond.selects RX7 yX7_findEyes yX7_findEyes ∈ lw_gd := mem_gd (List.mem_of_getElem? (i := 1013) (by decide +kernel)) rfl
set_option maxRecDepth 20000 in
theorem q_1030 : Cond.code yX11_greatest cX11_greatest 2 (some .int) ∈ lw_gd := mem_gd (List.mem_of_getElem? (i := 1030) (by decide +kernel)) rfl
set_option maxRecDepth 20000 in
theorem q_1034 : Cond.code yX11_rectangle cX11_rectangle 3 (some .int) ∈ lw_gd := mem_gd (List.mem_of_getElem? (i := 1034) (by decide +kernel)) rfl
set_option maxRecDepth 20000 in
theorem q_1038 : Cond.code yX11_ellipse cX11_ellipse 3 (some .int) ∈ lw_gd := mem_gd (List.mem_of_getElem? (i := 1038) (by decide +kernel)) rfl
set_option maxRecDepth 20000 in
theorem q_1042 : Cond.code yX11_margin cX11_margin 3 (some .int) ∈ lw_gd := mem_gd (List.mem_of_getElem? (i := 1042) (by decide +kernel)) rfl
set_option maxRecDepth 20000 in
theorem q_1043 : Cond.methodLink RX11 266 yX7_marginOf ∈ lw_gd := mem_gd (List.mem_of_getElem? (i := 1043) (by decide +kernel)) rfl
set_option maxRecDepth 20000 in
theorem q_1044 : Cond.instanceMethod yX7_marginOf ∈ lw_gd := mem_gd (List.mem_of_getElem? (i := 1044) (by decide +kernel)) rfl
set_option maxRecDepth 20000 in
theorem q_1045 : Cond.selects RX7 yX7_marginOf yX7_marginOf ∈ lw_gd := mem_gd (List.mem_of_getElem? (i := 1045) (by decide +kernel)) rfl
set_option maxRecDepth 20000 in
theorem q_1050 : Cond.code yX11_edge cX11_edge 2 (some .int) ∈ lw_gd := mem_gd (List.mem_of_getElem? (i := 1050) (by decide +kernel)) rfl
set_option maxRecDepth 20000 in
theorem q_1054 : Cond.code yX11_lag cX11_lag 6 (some .int) ∈ lw_gd := mem_gd (List.mem_of_getElem? (i := 1054) (by decide +kernel)) rfl
set_option maxRecDepth 20000 in
theorem q_1059 : Cond.code yX11_bus cX11_bus 4 (some .int) ∈ lw_gd := mem_gd (List.mem_of_getElem? (i := 1059) (by decide +kernel)) rfl
set_option maxRecDepth 20000 in
theorem q_1061 : Cond.methodLink RX11 281 yX0_longest ∈ lw_gd := mem_gd (List.mem_of_getElem? (i := 1061) (by decide +kernel)) rfl
set_option maxRecDepth 20000 in
theorem q_1062 : Cond.methodLink RX11 286 yX0_firstRun ∈ lw_gd := mem_gd (List.mem_of_getElem? (i := 1062) (by decide +kernel)) rfl
set_option maxRecDepth 20000 in
theorem q_1066 : Cond.code yX11_harshest cX11_harshest 8 (some .int) ∈ lw_gd := mem_gd (List.mem_of_getElem? (i := 1066) (by decide +kernel)) rfl
set_option maxRecDepth 20000 in
theorem q_1070 : Cond.code yX11_tell cX11_tell 8 (some .int) ∈ lw_gd := mem_gd (List.mem_of_getElem? (i := 1070) (by decide +kernel)) rfl
set_option maxRecDepth 20000 in
theorem q_1071 : Cond.methodLink RX11 293 yX11_tellingSets ∈ lw_gd := mem_gd (List.mem_of_getElem? (i := 1071) (by decide +kernel)) rfl
set_option maxRecDepth 20000 in
theorem q_1073 : Cond.instanceMethod yX11_tellingSets ∈ lw_gd := mem_gd (List.mem_of_getElem? (i := 1073) (by decide +kernel)) rfl
set_option maxRecDepth 20000 in
theorem q_1078 : Cond.code yX11_later cX11_later 3 (some .int) ∈ lw_gd := mem_gd (List.mem_of_getElem? (i := 1078) (by decide +kernel)) rfl
set_option maxRecDepth 20000 in
theorem q_1082 : Cond.code yX11_holds cX11_holds 3 (some .int) ∈ lw_gd := mem_gd (List.mem_of_getElem? (i := 1082) (by decide +kernel)) rfl
set_option maxRecDepth 20000 in
theorem q_1086 : Cond.code yX11_follows cX11_follows 6 (some .int) ∈ lw_gd := mem_gd (List.mem_of_getElem? (i := 1086) (by decide +kernel)) rfl
set_option maxRecDepth 20000 in
theorem q_1090 : Cond.code yX11_at cX11_at 7 (some .int) ∈ lw_gd := mem_gd (List.mem_of_getElem? (i := 1090) (by decide +kernel)) rfl
theorem dX11_area_0 : decode cX11_area 0 = .ok (.aload_n 0, 1) := by decide +kernel
theorem dX11_area_1 : decode cX11_area 1 = .ok (.iload_n 1, 1) := by decide +kernel
theorem dX11_area_2 : decode cX11_area 2 = .ok (.invokevirtual 107, 3) := by decide +kernel
theorem dX11_area_5 : decode cX11_area 5 = .ok (.ifCond .eq 6, 3) := by decide +kernel
theorem dX11_area_8 : decode cX11_area 8 = .ok (.bipush (-2), 2) := by decide +kernel
theorem dX11_area_10 : decode cX11_area 10 = .ok (.ireturn, 1) := by decide +kernel
theorem dX11_area_11 : decode cX11_area 11 = .ok (.aload_n 0, 1) := by decide +kernel
theorem dX11_area_12 : decode cX11_area 12 = .ok (.iload_n 1, 1) := by decide +kernel
theorem dX11_area_13 : decode cX11_area 13 = .ok (.invokevirtual 218, 3) := by decide +kernel
theorem dX11_area_16 : decode cX11_area 16 = .ok (.aload_n 0, 1) := by decide +kernel
theorem dX11_area_17 : decode cX11_area 17 = .ok (.getfield 35, 3) := by decide +kernel
theorem dX11_area_20 : decode cX11_area 20 = .ok (.invokevirtual 221, 3) := by decide +kernel
theorem dX11_area_23 : decode cX11_area 23 = .ok (.ireturn, 1) := by decide +kernel
theorem wX11_area : Mw yX11_area cX11_area 2 (some .int) 1 := ⟨q_1006, q_120, by decide, ⟨by decide +kernel, by decide +kernel⟩, by decide +kernel, by decide +kernel⟩
/-- EyeTrainer.area(I)I -/
def fX11_area (T : Sh) (M : Me) (x0 : Nat) (x1 : Int32) : Option (Int32 × Me) :=
  gd (kd T x0 = 10) <| Option.bind (fX11_noLane T M x0 x1) fun r2 => if r2 = 0 then (Option.bind (fX11_look T M x0 x1) <| un2 fun _u M4 => Option.bind (gR M4 x0 4) fun a5 => gd (kd T a5 = 6) <| Option.bind (fX7_cells T M4 a5) fun r7 => some (r7, M4)) else (some ((-2 : Int32), M))
set_option maxHeartbeats 4000000 in
theorem kX11_area {l : Launch} {B : Bx} {d : Nat} (hd : 4 ≤ d) {T : Sh} {M : Me} {x0 : Nat} {x1 : Int32} {r : Int32} {M' : Me} (h : fX11_area T M x0 x1 = some (r, M')) : Kt l B yX11_area cX11_area 2 (some .int) d [.ref (x0), .int (x1)] T M (some (.int r)) T M' := by
  refine kt_of wX11_area (Nat.le_refl _) (Nat.le_refl _) (Nat.le_of_ble_eq_true rfl) (fun X C hR hlx hin => ?_)
  subst hlx
  replace C : Cx X B cX11_area 2 RX11 d (tp T, sl T, tp T, sl T) := C
  unfold fX11_area at h
  show G X B 2 _ _ 0 [(0, .ref (x0)), (1, .int (x1))] [] T M
  refine g_aload_n (pc := 0) C dX11_area_0 rfl 0 rfl ?_
  refine g_iload_n (pc := 1) C dX11_area_1 rfl 1 rfl ?_
  replace h := gd_some h; obtain ⟨hk1, h⟩ := h
  replace h := bnd h; obtain ⟨r2, h1, h⟩ := h
  refine g_callVi (pc := 2) (As := [.int (x1)]) (st := []) C dX11_area_2 wX11_noLane hk1 rfl (by decide) q_769 q_20 q_767 (by omega) rfl (Nat.le_of_ble_eq_true rfl) (kX11_noLane (d := 0) (Nat.le_refl _) h1) ?_
  refine g_if_eq (pc := 5) (tgt := 11) C dX11_area_5 (by decide) (fun c3 => ?_) (fun c3 => ?_)
  · replace h := ifp c3 h
    refine g_aload_n (pc := 11) C dX11_area_11 rfl 0 rfl ?_
    refine g_iload_n (pc := 12) C dX11_area_12 rfl 1 rfl ?_
    replace h := bnd2 h; obtain ⟨_u, M4, h1, h⟩ := h
    refine g_callVv (pc := 13) (As := [.int (x1)]) (st := []) C dX11_area_13 wX11_look hk1 rfl (by decide) q_867 q_28 q_865 (by omega) rfl (Nat.le_of_ble_eq_true rfl) (kX11_look (d := 3) (Nat.le_refl _) h1) ?_
    refine g_aload_n (pc := 16) C dX11_area_16 rfl 0 rfl ?_
    refine g_get (pc := 17) (v := va_rf (gR M4 x0 4)) C dX11_area_17 kX11 hk1 4 (by decide) q_428 rfl ?_
    replace h := bnd h; obtain ⟨a5, ea5, h⟩ := h
    refine g_refq ea5 ?_
    replace h := gd_some h; obtain ⟨hk6, h⟩ := h
    replace h := bnd h; obtain ⟨r7, h1, h⟩ := h
    refine g_callVi (pc := 20) (As := []) (st := []) C dX11_area_20 wX7_cells hk6 rfl (by decide) q_870 q_871 q_869 (by omega) rfl (Nat.le_of_ble_eq_true rfl) (kX7_cells (d := 1) (Nat.le_refl _) h1) ?_
    obtain ⟨rfl, rfl⟩ := Prod.mk.inj (Option.some.inj h)
    exact g_iret C hR dX11_area_23
  · replace h := ifn c3 h
    refine g_bipush (pc := 8) (v := (-2)) C dX11_area_8 (by decide) ?_
    obtain ⟨rfl, rfl⟩ := Prod.mk.inj (Option.some.inj h)
    exact g_iret C hR dX11_area_10
theorem dX11_eyes_0 : decode cX11_eyes 0 = .ok (.aload_n 0, 1) := by decide +kernel
theorem dX11_eyes_1 : decode cX11_eyes 1 = .ok (.iload_n 1, 1) := by decide +kernel
theorem dX11_eyes_2 : decode cX11_eyes 2 = .ok (.invokevirtual 107, 3) := by decide +kernel
theorem dX11_eyes_5 : decode cX11_eyes 5 = .ok (.ifCond .eq 6, 3) := by decide +kernel
theorem dX11_eyes_8 : decode cX11_eyes 8 = .ok (.bipush (-2), 2) := by decide +kernel
theorem dX11_eyes_10 : decode cX11_eyes 10 = .ok (.ireturn, 1) := by decide +kernel
theorem dX11_eyes_11 : decode cX11_eyes 11 = .ok (.aload_n 0, 1) := by decide +kernel
theorem dX11_eyes_12 : decode cX11_eyes 12 = .ok (.iload_n 1, 1) := by decide +kernel
theorem dX11_eyes_13 : decode cX11_eyes 13 = .ok (.invokevirtual 218, 3) := by decide +kernel
theorem dX11_eyes_16 : decode cX11_eyes 16 = .ok (.aload_n 0, 1) := by decide +kernel
theorem dX11_eyes_17 : decode cX11_eyes 17 = .ok (.getfield 35, 3) := by decide +kernel
theorem dX11_eyes_20 : decode cX11_eyes 20 = .ok (.invokevirtual 224, 3) := by decide +kernel
theorem dX11_eyes_23 : decode cX11_eyes 23 = .ok (.aload_n 0, 1) := by decide +kernel
theorem dX11_eyes_24 : decode cX11_eyes 24 = .ok (.getfield 35, 3) := by decide +kernel
theorem dX11_eyes_27 : decode cX11_eyes 27 = .ok (.getfield 227, 3) := by decide +kernel
theorem dX11_eyes_30 : decode cX11_eyes 30 = .ok (.ireturn, 1) := by decide +kernel
theorem wX11_eyes : Mw yX11_eyes cX11_eyes 2 (some .int) 1 := ⟨q_1010, q_120, by decide, ⟨by decide +kernel, by decide +kernel⟩, by decide +kernel, by decide +kernel⟩
/-- EyeTrainer.eyes(I)I -/
def fX11_eyes (T : Sh) (M : Me) (x0 : Nat) (x1 : Int32) : Option (Int32 × Me) :=
  gd (kd T x0 = 10) <| Option.bind (fX11_noLane T M x0 x1) fun r2 => if r2 = 0 then (Option.bind (fX11_look T M x0 x1) <| un2 fun _u M4 => Option.bind (gR M4 x0 4) fun a5 => gd (kd T a5 = 6) <| Option.bind (fX7_findEyes T M4 a5) <| un2 fun _u M7 => Option.bind (gR M7 x0 4) fun a8 => gd (kd T a8 = 6) <| some ((gI M7 a8 12), M7)) else (some ((-2 : Int32), M))
set_option maxHeartbeats 4000000 in
theorem kX11_eyes {l : Launch} {B : Bx} {d : Nat} (hd : 4 ≤ d) {T : Sh} {M : Me} {x0 : Nat} {x1 : Int32} {r : Int32} {M' : Me} (h : fX11_eyes T M x0 x1 = some (r, M')) : Kt l B yX11_eyes cX11_eyes 2 (some .int) d [.ref (x0), .int (x1)] T M (some (.int r)) T M' := by
  refine kt_of wX11_eyes (Nat.le_refl _) (Nat.le_refl _) (Nat.le_of_ble_eq_true rfl) (fun X C hR hlx hin => ?_)
  subst hlx
  replace C : Cx X B cX11_eyes 2 RX11 d (tp T, sl T, tp T, sl T) := C
  unfold fX11_eyes at h
  show G X B 2 _ _ 0 [(0, .ref (x0)), (1, .int (x1))] [] T M
  refine g_aload_n (pc := 0) C dX11_eyes_0 rfl 0 rfl ?_
  refine g_iload_n (pc := 1) C dX11_eyes_1 rfl 1 rfl ?_
  replace h := gd_some h; obtain ⟨hk1, h⟩ := h
  replace h := bnd h; obtain ⟨r2, h1, h⟩ := h
  refine g_callVi (pc := 2) (As := [.int (x1)]) (st := []) C dX11_eyes_2 wX11_noLane hk1 rfl (by decide) q_769 q_20 q_767 (by omega) rfl (Nat.le_of_ble_eq_true rfl) (kX11_noLane (d := 0) (Nat.le_refl _) h1) ?_
  refine g_if_eq (pc := 5) (tgt := 11) C dX11_eyes_5 (by decide) (fun c3 => ?_) (fun c3 => ?_)
  · replace h := ifp c3 h
    refine g_aload_n (pc := 11) C dX11_eyes_11 rfl 0 rfl ?_
    refine g_iload_n (pc := 12) C dX11_eyes_12 rfl 1 rfl ?_
    replace h := bnd2 h; obtain ⟨_u, M4, h1, h⟩ := h
    refine g_callVv (pc := 13) (As := [.int (x1)]) (st := []) C dX11_eyes_13 wX11_look hk1 rfl (by decide) q_867 q_28 q_865 (by omega) rfl (Nat.le_of_ble_eq_true rfl) (kX11_look (d := 3) (Nat.le_refl _) h1) ?_
    refine g_aload_n (pc := 16) C dX11_eyes_16 rfl 0 rfl ?_
    refine g_get (pc := 17) (v := va_rf (gR M4 x0 4)) C dX11_eyes_17 kX11 hk1 4 (by decide) q_428 rfl ?_
    replace h := bnd h; obtain ⟨a5, ea5, h⟩ := h
    refine g_refq ea5 ?_
    replace h := gd_some h; obtain ⟨hk6, h⟩ := h
    replace h := bnd2 h; obtain ⟨_u, M7, h1, h⟩ := h
    refine g_callVv (pc := 20) (As := []) (st := []) C dX11_eyes_20 wX7_findEyes hk6 rfl (by decide) q_1012 q_1013 q_1011 (by omega) rfl (Nat.le_of_ble_eq_true rfl) (kX7_findEyes (d := 2) (Nat.le_refl _) h1) ?_
    refine g_aload_n (pc := 23) C dX11_eyes_23 rfl 0 rfl ?_
    refine g_get (pc := 24) (v := va_rf (gR M7 x0 4)) C dX11_eyes_24 kX11 hk1 4 (by decide) q_428 rfl ?_
    replace h := bnd h; obtain ⟨a8, ea8, h⟩ := h
    refine g_refq ea8 ?_
    replace h := gd_some h; obtain ⟨hk9, h⟩ := h
    refine g_get (pc := 27) (v := .int (gI M7 a8 12)) C dX11_eyes_27 kX7 hk9 12 (by decide) q_336 rfl ?_
    obtain ⟨rfl, rfl⟩ := Prod.mk.inj (Option.some.inj h)
    exact g_iret C hR dX11_eyes_30
  · replace h := ifn c3 h
    refine g_bipush (pc := 8) (v := (-2)) C dX11_eyes_8 (by decide) ?_
    obtain ⟨rfl, rfl⟩ := Prod.mk.inj (Option.some.inj h)
    exact g_iret C hR dX11_eyes_10
theorem dX11_greatest_0 : decode cX11_greatest 0 = .ok (.aload_n 0, 1) := by decide +kernel
theorem dX11_greatest_1 : decode cX11_greatest 1 = .ok (.iload_n 1, 1) := by decide +kernel
theorem dX11_greatest_2 : decode cX11_greatest 2 = .ok (.invokevirtual 107, 3) := by decide +kernel
theorem dX11_greatest_5 : decode cX11_greatest 5 = .ok (.ifCond .eq 6, 3) := by decide +kernel
theorem dX11_greatest_8 : decode cX11_greatest 8 = .ok (.bipush (-2), 2) := by decide +kernel
theorem dX11_greatest_10 : decode cX11_greatest 10 = .ok (.ireturn, 1) := by decide +kernel
theorem dX11_greatest_11 : decode cX11_greatest 11 = .ok (.aload_n 0, 1) := by decide +kernel
theorem dX11_greatest_12 : decode cX11_greatest 12 = .ok (.iload_n 1, 1) := by decide +kernel
theorem dX11_greatest_13 : decode cX11_greatest 13 = .ok (.invokevirtual 218, 3) := by decide +kernel
theorem dX11_greatest_16 : decode cX11_greatest 16 = .ok (.aload_n 0, 1) := by decide +kernel
theorem dX11_greatest_17 : decode cX11_greatest 17 = .ok (.getfield 35, 3) := by decide +kernel
theorem dX11_greatest_20 : decode cX11_greatest 20 = .ok (.invokevirtual 224, 3) := by decide +kernel
theorem dX11_greatest_23 : decode cX11_greatest 23 = .ok (.aload_n 0, 1) := by decide +kernel
theorem dX11_greatest_24 : decode cX11_greatest 24 = .ok (.getfield 35, 3) := by decide +kernel
theorem dX11_greatest_27 : decode cX11_greatest 27 = .ok (.getfield 230, 3) := by decide +kernel
theorem dX11_greatest_30 : decode cX11_greatest 30 = .ok (.ireturn, 1) := by decide +kernel
theorem wX11_greatest : Mw yX11_greatest cX11_greatest 2 (some .int) 1 := ⟨q_1030, q_120, by decide, ⟨by decide +kernel, by decide +kernel⟩, by decide +kernel, by decide +kernel⟩
/-- EyeTrainer.greatest(I)I -/
def fX11_greatest (T : Sh) (M : Me) (x0 : Nat) (x1 : Int32) : Option (Int32 × Me) :=
  gd (kd T x0 = 10) <| Option.bind (fX11_noLane T M x0 x1) fun r2 => if r2 = 0 then (Option.bind (fX11_look T M x0 x1) <| un2 fun _u M4 => Option.bind (gR M4 x0 4) fun a5 => gd (kd T a5 = 6) <| Option.bind (fX7_findEyes T M4 a5) <| un2 fun _u M7 => Option.bind (gR M7 x0 4) fun a8 => gd (kd T a8 = 6) <| some ((gI M7 a8 13), M7)) else (some ((-2 : Int32), M))
set_option maxHeartbeats 4000000 in
theorem kX11_greatest {l : Launch} {B : Bx} {d : Nat} (hd : 4 ≤ d) {T : Sh} {M : Me} {x0 : Nat} {x1 : Int32} {r : Int32} {M' : Me} (h : fX11_greatest T M x0 x1 = some (r, M')) : Kt l B yX11_greatest cX11_greatest 2 (some .int) d [.ref (x0), .int (x1)] T M (some (.int r)) T M' := by
  refine kt_of wX11_greatest (Nat.le_refl _) (Nat.le_refl _) (Nat.le_of_ble_eq_true rfl) (fun X C hR hlx hin => ?_)
  subst hlx
  replace C : Cx X B cX11_greatest 2 RX11 d (tp T, sl T, tp T, sl T) := C
  unfold fX11_greatest at h
  show G X B 2 _ _ 0 [(0, .ref (x0)), (1, .int (x1))] [] T M
  refine g_aload_n (pc := 0) C dX11_greatest_0 rfl 0 rfl ?_
  refine g_iload_n (pc := 1) C dX11_greatest_1 rfl 1 rfl ?_
  replace h := gd_some h; obtain ⟨hk1, h⟩ := h
  replace h := bnd h; obtain ⟨r2, h1, h⟩ := h
  refine g_callVi (pc := 2) (As := [.int (x1)]) (st := []) C dX11_greatest_2 wX11_noLane hk1 rfl (by decide) q_769 q_20 q_767 (by omega) rfl (Nat.le_of_ble_eq_true rfl) (kX11_noLane (d := 0) (Nat.le_refl _) h1) ?_
  refine g_if_eq (pc := 5) (tgt := 11) C dX11_greatest_5 (by decide) (fun c3 => ?_) (fun c3 => ?_)
  · replace h := ifp c3 h
    refine g_aload_n (pc := 11) C dX11_greatest_11 rfl 0 rfl ?_
    refine g_iload_n (pc := 12) C dX11_greatest_12 rfl 1 rfl ?_
    replace h := bnd2 h; obtain ⟨_u, M4, h1, h⟩ := h
    refine g_callVv (pc := 13) (As := [.int (x1)]) (st := []) C dX11_greatest_13 wX11_look hk1 rfl (by decide) q_867 q_28 q_865 (by omega) rfl (Nat.le_of_ble_eq_true rfl) (kX11_look (d := 3) (Nat.le_refl _) h1) ?_
    refine g_aload_n (pc := 16) C dX11_greatest_16 rfl 0 rfl ?_
    refine g_get (pc := 17) (v := va_rf (gR M4 x0 4)) C dX11_greatest_17 kX11 hk1 4 (by decide) q_428 rfl ?_
    replace h := bnd h; obtain ⟨a5, ea5, h⟩ := h
    refine g_refq ea5 ?_
    replace h := gd_some h; obtain ⟨hk6, h⟩ := h
    replace h := bnd2 h; obtain ⟨_u, M7, h1, h⟩ := h
    refine g_callVv (pc := 20) (As := []) (st := []) C dX11_greatest_20 wX7_findEyes hk6 rfl (by decide) q_1012 q_1013 q_1011 (by omega) rfl (Nat.le_of_ble_eq_true rfl) (kX7_findEyes (d := 2) (Nat.le_refl _) h1) ?_
    refine g_aload_n (pc := 23) C dX11_greatest_23 rfl 0 rfl ?_
    refine g_get (pc := 24) (v := va_rf (gR M7 x0 4)) C dX11_greatest_24 kX11 hk1 4 (by decide) q_428 rfl ?_
    replace h := bnd h; obtain ⟨a8, ea8, h⟩ := h
    refine g_refq ea8 ?_
    replace h := gd_some h; obtain ⟨hk9, h⟩ := h
    refine g_get (pc := 27) (v := .int (gI M7 a8 13)) C dX11_greatest_27 kX7 hk9 13 (by decide) q_338 rfl ?_
    obtain ⟨rfl, rfl⟩ := Prod.mk.inj (Option.some.inj h)
    exact g_iret C hR dX11_greatest_30
  · replace h := ifn c3 h
    refine g_bipush (pc := 8) (v := (-2)) C dX11_greatest_8 (by decide) ?_
    obtain ⟨rfl, rfl⟩ := Prod.mk.inj (Option.some.inj h)
    exact g_iret C hR dX11_greatest_10
theorem dX11_rectangle_0 : decode cX11_rectangle 0 = .ok (.aload_n 0, 1) := by decide +kernel
theorem dX11_rectangle_1 : decode cX11_rectangle 1 = .ok (.iload_n 1, 1) := by decide +kernel
theorem dX11_rectangle_2 : decode cX11_rectangle 2 = .ok (.invokevirtual 107, 3) := by decide +kernel
theorem dX11_rectangle_5 : decode cX11_rectangle 5 = .ok (.ifCond .ne 12, 3) := by decide +kernel
theorem dX11_rectangle_8 : decode cX11_rectangle 8 = .ok (.iload_n 2, 1) := by decide +kernel
theorem dX11_rectangle_9 : decode cX11_rectangle 9 = .ok (.ifCond .lt 8, 3) := by decide +kernel
theorem dX11_rectangle_12 : decode cX11_rectangle 12 = .ok (.iload_n 2, 1) := by decide +kernel
theorem dX11_rectangle_13 : decode cX11_rectangle 13 = .ok (.iconst 5, 1) := by decide +kernel
theorem dX11_rectangle_14 : decode cX11_rectangle 14 = .ok (.if_icmp .le 6, 3) := by decide +kernel
theorem dX11_rectangle_17 : decode cX11_rectangle 17 = .ok (.bipush (-2), 2) := by decide +kernel
theorem dX11_rectangle_19 : decode cX11_rectangle 19 = .ok (.ireturn, 1) := by decide +kernel
theorem dX11_rectangle_20 : decode cX11_rectangle 20 = .ok (.aload_n 0, 1) := by decide +kernel
theorem dX11_rectangle_21 : decode cX11_rectangle 21 = .ok (.iload_n 1, 1) := by decide +kernel
theorem dX11_rectangle_22 : decode cX11_rectangle 22 = .ok (.invokevirtual 218, 3) := by decide +kernel
theorem dX11_rectangle_25 : decode cX11_rectangle 25 = .ok (.aload_n 0, 1) := by decide +kernel
theorem dX11_rectangle_26 : decode cX11_rectangle 26 = .ok (.getfield 35, 3) := by decide +kernel
theorem dX11_rectangle_29 : decode cX11_rectangle 29 = .ok (.invokevirtual 233, 3) := by decide +kernel
theorem dX11_rectangle_32 : decode cX11_rectangle 32 = .ok (.aload_n 0, 1) := by decide +kernel
theorem dX11_rectangle_33 : decode cX11_rectangle 33 = .ok (.getfield 35, 3) := by decide +kernel
theorem dX11_rectangle_36 : decode cX11_rectangle 36 = .ok (.getfield 236, 3) := by decide +kernel
theorem dX11_rectangle_39 : decode cX11_rectangle 39 = .ok (.ifCond .ne 5, 3) := by decide +kernel
theorem dX11_rectangle_42 : decode cX11_rectangle 42 = .ok (.iconst (-1), 1) := by decide +kernel
theorem dX11_rectangle_43 : decode cX11_rectangle 43 = .ok (.ireturn, 1) := by decide +kernel
theorem dX11_rectangle_44 : decode cX11_rectangle 44 = .ok (.iload_n 2, 1) := by decide +kernel
theorem dX11_rectangle_45 : decode cX11_rectangle 45 = .ok (.tableswitch 75 0 4 #[35, 43, 51, 59, 67], 35) := by decide +kernel
theorem dX11_rectangle_80 : decode cX11_rectangle 80 = .ok (.aload_n 0, 1) := by decide +kernel
theorem dX11_rectangle_81 : decode cX11_rectangle 81 = .ok (.getfield 35, 3) := by decide +kernel
theorem dX11_rectangle_84 : decode cX11_rectangle 84 = .ok (.getfield 236, 3) := by decide +kernel
theorem dX11_rectangle_87 : decode cX11_rectangle 87 = .ok (.ireturn, 1) := by decide +kernel
theorem dX11_rectangle_88 : decode cX11_rectangle 88 = .ok (.aload_n 0, 1) := by decide +kernel
theorem dX11_rectangle_89 : decode cX11_rectangle 89 = .ok (.getfield 35, 3) := by decide +kernel
theorem dX11_rectangle_92 : decode cX11_rectangle 92 = .ok (.getfield 239, 3) := by decide +kernel
theorem dX11_rectangle_95 : decode cX11_rectangle 95 = .ok (.ireturn, 1) := by decide +kernel
theorem dX11_rectangle_96 : decode cX11_rectangle 96 = .ok (.aload_n 0, 1) := by decide +kernel
theorem dX11_rectangle_97 : decode cX11_rectangle 97 = .ok (.getfield 35, 3) := by decide +kernel
theorem dX11_rectangle_100 : decode cX11_rectangle 100 = .ok (.getfield 242, 3) := by decide +kernel
theorem dX11_rectangle_103 : decode cX11_rectangle 103 = .ok (.ireturn, 1) := by decide +kernel
theorem dX11_rectangle_104 : decode cX11_rectangle 104 = .ok (.aload_n 0, 1) := by decide +kernel
theorem dX11_rectangle_105 : decode cX11_rectangle 105 = .ok (.getfield 35, 3) := by decide +kernel
theorem dX11_rectangle_108 : decode cX11_rectangle 108 = .ok (.getfield 245, 3) := by decide +kernel
theorem dX11_rectangle_111 : decode cX11_rectangle 111 = .ok (.ireturn, 1) := by decide +kernel
theorem dX11_rectangle_112 : decode cX11_rectangle 112 = .ok (.aload_n 0, 1) := by decide +kernel
theorem dX11_rectangle_113 : decode cX11_rectangle 113 = .ok (.getfield 35, 3) := by decide +kernel
theorem dX11_rectangle_116 : decode cX11_rectangle 116 = .ok (.getfield 248, 3) := by decide +kernel
theorem dX11_rectangle_119 : decode cX11_rectangle 119 = .ok (.ireturn, 1) := by decide +kernel
theorem dX11_rectangle_120 : decode cX11_rectangle 120 = .ok (.aload_n 0, 1) := by decide +kernel
theorem dX11_rectangle_121 : decode cX11_rectangle 121 = .ok (.getfield 35, 3) := by decide +kernel
theorem dX11_rectangle_124 : decode cX11_rectangle 124 = .ok (.invokevirtual 251, 3) := by decide +kernel
theorem dX11_rectangle_127 : decode cX11_rectangle 127 = .ok (.ireturn, 1) := by decide +kernel
theorem wX11_rectangle : Mw yX11_rectangle cX11_rectangle 3 (some .int) 2 := ⟨q_1034, q_120, by decide, ⟨by decide +kernel, by decide +kernel⟩, by decide +kernel, by decide +kernel⟩
/-- EyeTrainer.rectangle(II)I -/
def fX11_rectangle (T : Sh) (M : Me) (x0 : Nat) (x1 : Int32) (x2 : Int32) : Option (Int32 × Me) :=
  gd (kd T x0 = 10) <| Option.bind (fX11_noLane T M x0 x1) fun r2 => if r2 = 0 then (if x2 < 0 then (some ((-2 : Int32), M)) else (if x2 ≤ (5 : Int32) then (Option.bind (fX11_look T M x0 x1) <| un2 fun _u M6 => Option.bind (gR M6 x0 4) fun a7 => gd (kd T a7 = 6) <| Option.bind (fX7_findRectangle T M6 a7) <| un2 fun _u M9 => Option.bind (gR M9 x0 4) fun a10 => gd (kd T a10 = 6) <| if (gI M9 a10 5) = 0 then (some ((-1 : Int32), M9)) else (if x2 = (0 : Int32) then (Option.bind (gR M9 x0 4) fun a13 => gd (kd T a13 = 6) <| some ((gI M9 a13 5), M9)) else (if x2 = (1 : Int32) then (Option.bind (gR M9 x0 4) fun a15 => gd (kd T a15 = 6) <| some ((gI M9 a15 6), M9)) else (if x2 = (2 : Int32) then (Option.bind (gR M9 x0 4) fun a17 => gd (kd T a17 = 6) <| some ((gI M9 a17 7), M9)) else (if x2 = (3 : Int32) then (Option.bind (gR M9 x0 4) fun a19 => gd (kd T a19 = 6) <| some ((gI M9 a19 8), M9)) else (if x2 = (4 : Int32) then (Option.bind (gR M9 x0 4) fun a21 => gd (kd T a21 = 6) <| some ((gI M9 a21 9), M9)) else (Option.bind (gR M9 x0 4) fun a23 => gd (kd T a23 = 6) <| Option.bind (fX7_middle T M9 a23) fun r25 => some (r25, M9)))))))) else (some ((-2 : Int32), M)))) else (some ((-2 : Int32), M))
set_option maxHeartbeats 4000000 in
theorem kX11_rectangle {l : Launch} {B : Bx} {d : Nat} (hd : 4 ≤ d) {T : Sh} {M : Me} {x0 : Nat} {x1 : Int32} {x2 : Int32} {r : Int32} {M' : Me} (h : fX11_rectangle T M x0 x1 x2 = some (r, M')) : Kt l B yX11_rectangle cX11_rectangle 3 (some .int) d [.ref (x0), .int (x1), .int (x2)] T M (some (.int r)) T M' := by
  refine kt_of wX11_rectangle (Nat.le_refl _) (Nat.le_refl _) (Nat.le_of_ble_eq_true rfl) (fun X C hR hlx hin => ?_)
  subst hlx
  replace C : Cx X B cX11_rectangle 3 RX11 d (tp T, sl T, tp T, sl T) := C
  unfold fX11_rectangle at h
  show G X B 3 _ _ 0 [(0, .ref (x0)), (1, .int (x1)), (2, .int (x2))] [] T M
  refine g_aload_n (pc := 0) C dX11_rectangle_0 rfl 0 rfl ?_
  refine g_iload_n (pc := 1) C dX11_rectangle_1 rfl 1 rfl ?_
  replace h := gd_some h; obtain ⟨hk1, h⟩ := h
  replace h := bnd h; obtain ⟨r2, h1, h⟩ := h
  refine g_callVi (pc := 2) (As := [.int (x1)]) (st := []) C dX11_rectangle_2 wX11_noLane hk1 rfl (by decide) q_769 q_20 q_767 (by omega) rfl (Nat.le_of_ble_eq_true rfl) (kX11_noLane (d := 0) (Nat.le_refl _) h1) ?_
  refine g_if_ne (pc := 5) (tgt := 17) C dX11_rectangle_5 (by decide) (fun c3 => ?_) (fun c3 => ?_)
  · replace h := ifn c3 h
    refine g_bipush (pc := 17) (v := (-2)) C dX11_rectangle_17 (by decide) ?_
    obtain ⟨rfl, rfl⟩ := Prod.mk.inj (Option.some.inj h)
    exact g_iret C hR dX11_rectangle_19
  · replace h := ifp c3 h
    refine g_iload_n (pc := 8) C dX11_rectangle_8 rfl 2 rfl ?_
    refine g_if_lt (pc := 9) (tgt := 17) C dX11_rectangle_9 (by decide) (fun c4 => ?_) (fun c4 => ?_)
    · replace h := ifp c4 h
      refine g_bipush (pc := 17) (v := (-2)) C dX11_rectangle_17 (by decide) ?_
      obtain ⟨rfl, rfl⟩ := Prod.mk.inj (Option.some.inj h)
      exact g_iret C hR dX11_rectangle_19
    · replace h := ifn c4 h
      refine g_iload_n (pc := 12) C dX11_rectangle_12 rfl 2 rfl ?_
      refine g_iconst (pc := 13) (v := 5) C dX11_rectangle_13 (by decide) ?_
      refine g_icmp_le (pc := 14) (tgt := 20) C dX11_rectangle_14 (by decide) (fun c5 => ?_) (fun c5 => ?_)
      · replace h := ifp c5 h
        refine g_aload_n (pc := 20) C dX11_rectangle_20 rfl 0 rfl ?_
        refine g_iload_n (pc := 21) C dX11_rectangle_21 rfl 1 rfl ?_
        replace h := bnd2 h; obtain ⟨_u, M6, h1, h⟩ := h
        refine g_callVv (pc := 22) (As := [.int (x1)]) (st := []) C dX11_rectangle_22 wX11_look hk1 rfl (by decide) q_867 q_28 q_865 (by omega) rfl (Nat.le_of_ble_eq_true rfl) (kX11_look (d := 3) (Nat.le_refl _) h1) ?_
        refine g_aload_n (pc := 25) C dX11_rectangle_25 rfl 0 rfl ?_
        refine g_get (pc := 26) (v := va_rf (gR M6 x0 4)) C dX11_rectangle_26 kX11 hk1 4 (by decide) q_428 rfl ?_
        replace h := bnd h; obtain ⟨a7, ea7, h⟩ := h
        refine g_refq ea7 ?_
        replace h := gd_some h; obtain ⟨hk8, h⟩ := h
        replace h := bnd2 h; obtain ⟨_u, M9, h1, h⟩ := h
        refine g_callVv (pc := 29) (As := []) (st := []) C dX11_rectangle_29 wX7_findRectangle hk8 rfl (by decide) q_880 q_881 q_879 (by omega) rfl (Nat.le_of_ble_eq_true rfl) (kX7_findRectangle (d := 1) (Nat.le_refl _) h1) ?_
        refine g_aload_n (pc := 32) C dX11_rectangle_32 rfl 0 rfl ?_
        refine g_get (pc := 33) (v := va_rf (gR M9 x0 4)) C dX11_rectangle_33 kX11 hk1 4 (by decide) q_428 rfl ?_
        replace h := bnd h; obtain ⟨a10, ea10, h⟩ := h
        refine g_refq ea10 ?_
        replace h := gd_some h; obtain ⟨hk11, h⟩ := h
        refine g_get (pc := 36) (v := .int (gI M9 a10 5)) C dX11_rectangle_36 kX7 hk11 5 (by decide) q_322 rfl ?_
        refine g_if_ne (pc := 39) (tgt := 44) C dX11_rectangle_39 (by decide) (fun c12 => ?_) (fun c12 => ?_)
        · replace h := ifn c12 h
          refine g_iload_n (pc := 44) C dX11_rectangle_44 rfl 2 rfl ?_
          by_cases cw26_0 : x2 = (0 : Int32)
          · replace h := ifp cw26_0 h
            have hq : x2.toInt = 0 := by rw [cw26_0]; rfl
            refine g_tswIn (off := 35) (tgt := 80) C dX11_rectangle_45 (by rw [hq]; decide) (by rw [hq]; decide) (by rw [hq]; rfl) (by decide) ?_
            refine g_aload_n (pc := 80) C dX11_rectangle_80 rfl 0 rfl ?_
            refine g_get (pc := 81) (v := va_rf (gR M9 x0 4)) C dX11_rectangle_81 kX11 hk1 4 (by decide) q_428 rfl ?_
            replace h := bnd h; obtain ⟨a13, ea13, h⟩ := h
            refine g_refq ea13 ?_
            replace h := gd_some h; obtain ⟨hk14, h⟩ := h
            refine g_get (pc := 84) (v := .int (gI M9 a13 5)) C dX11_rectangle_84 kX7 hk14 5 (by decide) q_322 rfl ?_
            obtain ⟨rfl, rfl⟩ := Prod.mk.inj (Option.some.inj h)
            exact g_iret C hR dX11_rectangle_87
          · replace h := ifn cw26_0 h
            by_cases cw26_1 : x2 = (1 : Int32)
            · replace h := ifp cw26_1 h
              have hq : x2.toInt = 1 := by rw [cw26_1]; rfl
              refine g_tswIn (off := 43) (tgt := 88) C dX11_rectangle_45 (by rw [hq]; decide) (by rw [hq]; decide) (by rw [hq]; rfl) (by decide) ?_
              refine g_aload_n (pc := 88) C dX11_rectangle_88 rfl 0 rfl ?_
              refine g_get (pc := 89) (v := va_rf (gR M9 x0 4)) C dX11_rectangle_89 kX11 hk1 4 (by decide) q_428 rfl ?_
              replace h := bnd h; obtain ⟨a15, ea15, h⟩ := h
              refine g_refq ea15 ?_
              replace h := gd_some h; obtain ⟨hk16, h⟩ := h
              refine g_get (pc := 92) (v := .int (gI M9 a15 6)) C dX11_rectangle_92 kX7 hk16 6 (by decide) q_324 rfl ?_
              obtain ⟨rfl, rfl⟩ := Prod.mk.inj (Option.some.inj h)
              exact g_iret C hR dX11_rectangle_95
            · replace h := ifn cw26_1 h
              by_cases cw26_2 : x2 = (2 : Int32)
              · replace h := ifp cw26_2 h
                have hq : x2.toInt = 2 := by rw [cw26_2]; rfl
                refine g_tswIn (off := 51) (tgt := 96) C dX11_rectangle_45 (by rw [hq]; decide) (by rw [hq]; decide) (by rw [hq]; rfl) (by decide) ?_
                refine g_aload_n (pc := 96) C dX11_rectangle_96 rfl 0 rfl ?_
                refine g_get (pc := 97) (v := va_rf (gR M9 x0 4)) C dX11_rectangle_97 kX11 hk1 4 (by decide) q_428 rfl ?_
                replace h := bnd h; obtain ⟨a17, ea17, h⟩ := h
                refine g_refq ea17 ?_
                replace h := gd_some h; obtain ⟨hk18, h⟩ := h
                refine g_get (pc := 100) (v := .int (gI M9 a17 7)) C dX11_rectangle_100 kX7 hk18 7 (by decide) q_326 rfl ?_
                obtain ⟨rfl, rfl⟩ := Prod.mk.inj (Option.some.inj h)
                exact g_iret C hR dX11_rectangle_103
              · replace h := ifn cw26_2 h
                by_cases cw26_3 : x2 = (3 : Int32)
                · replace h := ifp cw26_3 h
                  have hq : x2.toInt = 3 := by rw [cw26_3]; rfl
                  refine g_tswIn (off := 59) (tgt := 104) C dX11_rectangle_45 (by rw [hq]; decide) (by rw [hq]; decide) (by rw [hq]; rfl) (by decide) ?_
                  refine g_aload_n (pc := 104) C dX11_rectangle_104 rfl 0 rfl ?_
                  refine g_get (pc := 105) (v := va_rf (gR M9 x0 4)) C dX11_rectangle_105 kX11 hk1 4 (by decide) q_428 rfl ?_
                  replace h := bnd h; obtain ⟨a19, ea19, h⟩ := h
                  refine g_refq ea19 ?_
                  replace h := gd_some h; obtain ⟨hk20, h⟩ := h
                  refine g_get (pc := 108) (v := .int (gI M9 a19 8)) C dX11_rectangle_108 kX7 hk20 8 (by decide) q_328 rfl ?_
                  obtain ⟨rfl, rfl⟩ := Prod.mk.inj (Option.some.inj h)
                  exact g_iret C hR dX11_rectangle_111
                · replace h := ifn cw26_3 h
                  by_cases cw26_4 : x2 = (4 : Int32)
                  · replace h := ifp cw26_4 h
                    have hq : x2.toInt = 4 := by rw [cw26_4]; rfl
                    refine g_tswIn (off := 67) (tgt := 112) C dX11_rectangle_45 (by rw [hq]; decide) (by rw [hq]; decide) (by rw [hq]; rfl) (by decide) ?_
                    refine g_aload_n (pc := 112) C dX11_rectangle_112 rfl 0 rfl ?_
                    refine g_get (pc := 113) (v := va_rf (gR M9 x0 4)) C dX11_rectangle_113 kX11 hk1 4 (by decide) q_428 rfl ?_
                    replace h := bnd h; obtain ⟨a21, ea21, h⟩ := h
                    refine g_refq ea21 ?_
                    replace h := gd_some h; obtain ⟨hk22, h⟩ := h
                    refine g_get (pc := 116) (v := .int (gI M9 a21 9)) C dX11_rectangle_116 kX7 hk22 9 (by decide) q_330 rfl ?_
                    obtain ⟨rfl, rfl⟩ := Prod.mk.inj (Option.some.inj h)
                    exact g_iret C hR dX11_rectangle_119
                  · replace h := ifn cw26_4 h
                    refine g_tswOut (tgt := 120) C dX11_rectangle_45 (by
                        have := sw_ne cw26_0 (i := 0) rfl
                        have := sw_ne cw26_1 (i := 1) rfl
                        have := sw_ne cw26_2 (i := 2) rfl
                        have := sw_ne cw26_3 (i := 3) rfl
                        have := sw_ne cw26_4 (i := 4) rfl
                        omega) (by decide) ?_
                    refine g_aload_n (pc := 120) C dX11_rectangle_120 rfl 0 rfl ?_
                    refine g_get (pc := 121) (v := va_rf (gR M9 x0 4)) C dX11_rectangle_121 kX11 hk1 4 (by decide) q_428 rfl ?_
                    replace h := bnd h; obtain ⟨a23, ea23, h⟩ := h
                    refine g_refq ea23 ?_
                    replace h := gd_some h; obtain ⟨hk24, h⟩ := h
                    replace h := bnd h; obtain ⟨r25, h1, h⟩ := h
                    refine g_callVi (pc := 124) (As := []) (st := []) C dX11_rectangle_124 wX7_middle hk24 rfl (by decide) q_891 q_892 q_890 (by omega) rfl (Nat.le_of_ble_eq_true rfl) (kX7_middle (d := 0) (Nat.le_refl _) h1) ?_
                    obtain ⟨rfl, rfl⟩ := Prod.mk.inj (Option.some.inj h)
                    exact g_iret C hR dX11_rectangle_127
        · replace h := ifp c12 h
          refine g_iconst (pc := 42) (v := (-1)) C dX11_rectangle_42 (by decide) ?_
          obtain ⟨rfl, rfl⟩ := Prod.mk.inj (Option.some.inj h)
          exact g_iret C hR dX11_rectangle_43
      · replace h := ifn c5 h
        refine g_bipush (pc := 17) (v := (-2)) C dX11_rectangle_17 (by decide) ?_
        obtain ⟨rfl, rfl⟩ := Prod.mk.inj (Option.some.inj h)
        exact g_iret C hR dX11_rectangle_19
theorem dX11_ellipse_0 : decode cX11_ellipse 0 = .ok (.aload_n 0, 1) := by decide +kernel
theorem dX11_ellipse_1 : decode cX11_ellipse 1 = .ok (.iload_n 1, 1) := by decide +kernel
theorem dX11_ellipse_2 : decode cX11_ellipse 2 = .ok (.invokevirtual 107, 3) := by decide +kernel
theorem dX11_ellipse_5 : decode cX11_ellipse 5 = .ok (.ifCond .ne 12, 3) := by decide +kernel
theorem dX11_ellipse_8 : decode cX11_ellipse 8 = .ok (.iload_n 2, 1) := by decide +kernel
theorem dX11_ellipse_9 : decode cX11_ellipse 9 = .ok (.ifCond .lt 8, 3) := by decide +kernel
theorem dX11_ellipse_12 : decode cX11_ellipse 12 = .ok (.iload_n 2, 1) := by decide +kernel
theorem dX11_ellipse_13 : decode cX11_ellipse 13 = .ok (.iconst 1, 1) := by decide +kernel
theorem dX11_ellipse_14 : decode cX11_ellipse 14 = .ok (.if_icmp .le 6, 3) := by decide +kernel
theorem dX11_ellipse_17 : decode cX11_ellipse 17 = .ok (.bipush (-2), 2) := by decide +kernel
theorem dX11_ellipse_19 : decode cX11_ellipse 19 = .ok (.ireturn, 1) := by decide +kernel
theorem dX11_ellipse_20 : decode cX11_ellipse 20 = .ok (.aload_n 0, 1) := by decide +kernel
theorem dX11_ellipse_21 : decode cX11_ellipse 21 = .ok (.iload_n 1, 1) := by decide +kernel
theorem dX11_ellipse_22 : decode cX11_ellipse 22 = .ok (.invokevirtual 218, 3) := by decide +kernel
theorem dX11_ellipse_25 : decode cX11_ellipse 25 = .ok (.aload_n 0, 1) := by decide +kernel
theorem dX11_ellipse_26 : decode cX11_ellipse 26 = .ok (.getfield 35, 3) := by decide +kernel
theorem dX11_ellipse_29 : decode cX11_ellipse 29 = .ok (.aload_n 0, 1) := by decide +kernel
theorem dX11_ellipse_30 : decode cX11_ellipse 30 = .ok (.getfield 28, 3) := by decide +kernel
theorem dX11_ellipse_33 : decode cX11_ellipse 33 = .ok (.getfield 111, 3) := by decide +kernel
theorem dX11_ellipse_36 : decode cX11_ellipse 36 = .ok (.getfield 254, 3) := by decide +kernel
theorem dX11_ellipse_39 : decode cX11_ellipse 39 = .ok (.invokevirtual 257, 3) := by decide +kernel
theorem dX11_ellipse_42 : decode cX11_ellipse 42 = .ok (.iload_n 2, 1) := by decide +kernel
theorem dX11_ellipse_43 : decode cX11_ellipse 43 = .ok (.ifCond .ne 13, 3) := by decide +kernel
theorem dX11_ellipse_46 : decode cX11_ellipse 46 = .ok (.aload_n 0, 1) := by decide +kernel
theorem dX11_ellipse_47 : decode cX11_ellipse 47 = .ok (.getfield 35, 3) := by decide +kernel
theorem dX11_ellipse_50 : decode cX11_ellipse 50 = .ok (.getfield 260, 3) := by decide +kernel
theorem dX11_ellipse_53 : decode cX11_ellipse 53 = .ok (.goto 10, 3) := by decide +kernel
theorem dX11_ellipse_56 : decode cX11_ellipse 56 = .ok (.aload_n 0, 1) := by decide +kernel
theorem dX11_ellipse_57 : decode cX11_ellipse 57 = .ok (.getfield 35, 3) := by decide +kernel
theorem dX11_ellipse_60 : decode cX11_ellipse 60 = .ok (.getfield 263, 3) := by decide +kernel
theorem dX11_ellipse_63 : decode cX11_ellipse 63 = .ok (.ireturn, 1) := by decide +kernel
theorem wX11_ellipse : Mw yX11_ellipse cX11_ellipse 3 (some .int) 2 := ⟨q_1038, q_120, by decide, ⟨by decide +kernel, by decide +kernel⟩, by decide +kernel, by decide +kernel⟩
/-- EyeTrainer.ellipse(II)I -/
def fX11_ellipse (T : Sh) (M : Me) (x0 : Nat) (x1 : Int32) (x2 : Int32) : Option (Int32 × Me) :=
  gd (kd T x0 = 10) <| Option.bind (fX11_noLane T M x0 x1) fun r2 => if r2 = 0 then (if x2 < 0 then (some ((-2 : Int32), M)) else (if x2 ≤ (1 : Int32) then (Option.bind (fX11_look T M x0 x1) <| un2 fun _u M6 => Option.bind (gR M6 x0 4) fun a7 => Option.bind (gR M6 x0 3) fun a8 => gd (kd T a8 = 4) <| Option.bind (gR M6 a8 0) fun a10 => gd (kd T a10 = 2) <| gd (kd T a7 = 6) <| Option.bind (fX7_findEllipse T M6 a7 (gI M6 a10 5)) <| un2 fun _u M13 => if x2 = 0 then (Option.bind (gR M13 x0 4) fun a17 => gd (kd T a17 = 6) <| some ((gI M13 a17 10), M13)) else (Option.bind (gR M13 x0 4) fun a15 => gd (kd T a15 = 6) <| some ((gI M13 a15 11), M13))) else (some ((-2 : Int32), M)))) else (some ((-2 : Int32), M))
set_option maxHeartbeats 4000000 in
theorem kX11_ellipse {l : Launch} {B : Bx} {d : Nat} (hd : 4 ≤ d) {T : Sh} {M : Me} {x0 : Nat} {x1 : Int32} {x2 : Int32} {r : Int32} {M' : Me} (h : fX11_ellipse T M x0 x1 x2 = some (r, M')) : Kt l B yX11_ellipse cX11_ellipse 3 (some .int) d [.ref (x0), .int (x1), .int (x2)] T M (some (.int r)) T M' := by
  refine kt_of wX11_ellipse (Nat.le_refl _) (Nat.le_refl _) (Nat.le_of_ble_eq_true rfl) (fun X C hR hlx hin => ?_)
  subst hlx
  replace C : Cx X B cX11_ellipse 3 RX11 d (tp T, sl T, tp T, sl T) := C
  unfold fX11_ellipse at h
  show G X B 3 _ _ 0 [(0, .ref (x0)), (1, .int (x1)), (2, .int (x2))] [] T M
  refine g_aload_n (pc := 0) C dX11_ellipse_0 rfl 0 rfl ?_
  refine g_iload_n (pc := 1) C dX11_ellipse_1 rfl 1 rfl ?_
  replace h := gd_some h; obtain ⟨hk1, h⟩ := h
  replace h := bnd h; obtain ⟨r2, h1, h⟩ := h
  refine g_callVi (pc := 2) (As := [.int (x1)]) (st := []) C dX11_ellipse_2 wX11_noLane hk1 rfl (by decide) q_769 q_20 q_767 (by omega) rfl (Nat.le_of_ble_eq_true rfl) (kX11_noLane (d := 0) (Nat.le_refl _) h1) ?_
  refine g_if_ne (pc := 5) (tgt := 17) C dX11_ellipse_5 (by decide) (fun c3 => ?_) (fun c3 => ?_)
  · replace h := ifn c3 h
    refine g_bipush (pc := 17) (v := (-2)) C dX11_ellipse_17 (by decide) ?_
    obtain ⟨rfl, rfl⟩ := Prod.mk.inj (Option.some.inj h)
    exact g_iret C hR dX11_ellipse_19
  · replace h := ifp c3 h
    refine g_iload_n (pc := 8) C dX11_ellipse_8 rfl 2 rfl ?_
    refine g_if_lt (pc := 9) (tgt := 17) C dX11_ellipse_9 (by decide) (fun c4 => ?_) (fun c4 => ?_)
    · replace h := ifp c4 h
      refine g_bipush (pc := 17) (v := (-2)) C dX11_ellipse_17 (by decide) ?_
      obtain ⟨rfl, rfl⟩ := Prod.mk.inj (Option.some.inj h)
      exact g_iret C hR dX11_ellipse_19
    · replace h := ifn c4 h
      refine g_iload_n (pc := 12) C dX11_ellipse_12 rfl 2 rfl ?_
      refine g_iconst (pc := 13) (v := 1) C dX11_ellipse_13 (by decide) ?_
      refine g_icmp_le (pc := 14) (tgt := 20) C dX11_ellipse_14 (by decide) (fun c5 => ?_) (fun c5 => ?_)
      · replace h := ifp c5 h
        refine g_aload_n (pc := 20) C dX11_ellipse_20 rfl 0 rfl ?_
        refine g_iload_n (pc := 21) C dX11_ellipse_21 rfl 1 rfl ?_
        replace h := bnd2 h; obtain ⟨_u, M6, h1, h⟩ := h
        refine g_callVv (pc := 22) (As := [.int (x1)]) (st := []) C dX11_ellipse_22 wX11_look hk1 rfl (by decide) q_867 q_28 q_865 (by omega) rfl (Nat.le_of_ble_eq_true rfl) (kX11_look (d := 3) (Nat.le_refl _) h1) ?_
        refine g_aload_n (pc := 25) C dX11_ellipse_25 rfl 0 rfl ?_
        refine g_get (pc := 26) (v := va_rf (gR M6 x0 4)) C dX11_ellipse_26 kX11 hk1 4 (by decide) q_428 rfl ?_
        replace h := bnd h; obtain ⟨a7, ea7, h⟩ := h
        refine g_refq ea7 ?_
        refine g_aload_n (pc := 29) C dX11_ellipse_29 rfl 0 rfl ?_
        refine g_get (pc := 30) (v := va_rf (gR M6 x0 3)) C dX11_ellipse_30 kX11 hk1 3 (by decide) q_427 rfl ?_
        replace h := bnd h; obtain ⟨a8, ea8, h⟩ := h
        refine g_refq ea8 ?_
        replace h := gd_some h; obtain ⟨hk9, h⟩ := h
        refine g_get (pc := 33) (v := va_rf (gR M6 a8 0)) C dX11_ellipse_33 kX5 hk9 0 (by decide) q_288 rfl ?_
        replace h := bnd h; obtain ⟨a10, ea10, h⟩ := h
        refine g_refq ea10 ?_
        replace h := gd_some h; obtain ⟨hk11, h⟩ := h
        refine g_get (pc := 36) (v := .int (gI M6 a10 5)) C dX11_ellipse_36 kX3 hk11 5 (by decide) q_237 rfl ?_
        replace h := gd_some h; obtain ⟨hk12, h⟩ := h
        replace h := bnd2 h; obtain ⟨_u, M13, h1, h⟩ := h
        refine g_callVv (pc := 39) (As := [.int (gI M6 a10 5)]) (st := []) C dX11_ellipse_39 wX7_findEllipse hk12 rfl (by decide) q_895 q_896 q_894 (by omega) rfl (Nat.le_of_ble_eq_true rfl) (kX7_findEllipse (d := 2) (Nat.le_refl _) h1) ?_
        refine g_iload_n (pc := 42) C dX11_ellipse_42 rfl 2 rfl ?_
        refine g_if_ne (pc := 43) (tgt := 56) C dX11_ellipse_43 (by decide) (fun c14 => ?_) (fun c14 => ?_)
        · replace h := ifn c14 h
          refine g_aload_n (pc := 56) C dX11_ellipse_56 rfl 0 rfl ?_
          refine g_get (pc := 57) (v := va_rf (gR M13 x0 4)) C dX11_ellipse_57 kX11 hk1 4 (by decide) q_428 rfl ?_
          replace h := bnd h; obtain ⟨a15, ea15, h⟩ := h
          refine g_refq ea15 ?_
          replace h := gd_some h; obtain ⟨hk16, h⟩ := h
          refine g_get (pc := 60) (v := .int (gI M13 a15 11)) C dX11_ellipse_60 kX7 hk16 11 (by decide) q_334 rfl ?_
          obtain ⟨rfl, rfl⟩ := Prod.mk.inj (Option.some.inj h)
          exact g_iret C hR dX11_ellipse_63
        · replace h := ifp c14 h
          refine g_aload_n (pc := 46) C dX11_ellipse_46 rfl 0 rfl ?_
          refine g_get (pc := 47) (v := va_rf (gR M13 x0 4)) C dX11_ellipse_47 kX11 hk1 4 (by decide) q_428 rfl ?_
          replace h := bnd h; obtain ⟨a17, ea17, h⟩ := h
          refine g_refq ea17 ?_
          replace h := gd_some h; obtain ⟨hk18, h⟩ := h
          refine g_get (pc := 50) (v := .int (gI M13 a17 10)) C dX11_ellipse_50 kX7 hk18 10 (by decide) q_332 rfl ?_
          refine g_goto (pc := 53) (tgt := 63) C dX11_ellipse_53 (by decide) ?_
          obtain ⟨rfl, rfl⟩ := Prod.mk.inj (Option.some.inj h)
          exact g_iret C hR dX11_ellipse_63
      · replace h := ifn c5 h
        refine g_bipush (pc := 17) (v := (-2)) C dX11_ellipse_17 (by decide) ?_
        obtain ⟨rfl, rfl⟩ := Prod.mk.inj (Option.some.inj h)
        exact g_iret C hR dX11_ellipse_19
theorem dX11_margin_0 : decode cX11_margin 0 = .ok (.aload_n 0, 1) := by decide +kernel
theorem dX11_margin_1 : decode cX11_margin 1 = .ok (.iload_n 1, 1) := by decide +kernel
theorem dX11_margin_2 : decode cX11_margin 2 = .ok (.invokevirtual 107, 3) := by decide +kernel
theorem dX11_margin_5 : decode cX11_margin 5 = .ok (.ifCond .ne 12, 3) := by decide +kernel
theorem dX11_margin_8 : decode cX11_margin 8 = .ok (.iload_n 2, 1) := by decide +kernel
theorem dX11_margin_9 : decode cX11_margin 9 = .ok (.ifCond .lt 8, 3) := by decide +kernel
theorem dX11_margin_12 : decode cX11_margin 12 = .ok (.iload_n 2, 1) := by decide +kernel
theorem dX11_margin_13 : decode cX11_margin 13 = .ok (.iconst 4, 1) := by decide +kernel
theorem dX11_margin_14 : decode cX11_margin 14 = .ok (.if_icmp .lt 6, 3) := by decide +kernel
theorem dX11_margin_17 : decode cX11_margin 17 = .ok (.bipush (-2), 2) := by decide +kernel
theorem dX11_margin_19 : decode cX11_margin 19 = .ok (.ireturn, 1) := by decide +kernel
theorem dX11_margin_20 : decode cX11_margin 20 = .ok (.aload_n 0, 1) := by decide +kernel
theorem dX11_margin_21 : decode cX11_margin 21 = .ok (.iload_n 1, 1) := by decide +kernel
theorem dX11_margin_22 : decode cX11_margin 22 = .ok (.invokevirtual 130, 3) := by decide +kernel
theorem dX11_margin_25 : decode cX11_margin 25 = .ok (.ifCond .ne 6, 3) := by decide +kernel
theorem dX11_margin_28 : decode cX11_margin 28 = .ok (.bipush (-5), 2) := by decide +kernel
theorem dX11_margin_30 : decode cX11_margin 30 = .ok (.ireturn, 1) := by decide +kernel
theorem dX11_margin_31 : decode cX11_margin 31 = .ok (.aload_n 0, 1) := by decide +kernel
theorem dX11_margin_32 : decode cX11_margin 32 = .ok (.iload_n 1, 1) := by decide +kernel
theorem dX11_margin_33 : decode cX11_margin 33 = .ok (.invokevirtual 218, 3) := by decide +kernel
theorem dX11_margin_36 : decode cX11_margin 36 = .ok (.aload_n 0, 1) := by decide +kernel
theorem dX11_margin_37 : decode cX11_margin 37 = .ok (.getfield 35, 3) := by decide +kernel
theorem dX11_margin_40 : decode cX11_margin 40 = .ok (.aload_n 0, 1) := by decide +kernel
theorem dX11_margin_41 : decode cX11_margin 41 = .ok (.getfield 42, 3) := by decide +kernel
theorem dX11_margin_44 : decode cX11_margin 44 = .ok (.getfield 127, 3) := by decide +kernel
theorem dX11_margin_47 : decode cX11_margin 47 = .ok (.iload_n 1, 1) := by decide +kernel
theorem dX11_margin_48 : decode cX11_margin 48 = .ok (.iaload, 1) := by decide +kernel
theorem dX11_margin_49 : decode cX11_margin 49 = .ok (.iload_n 2, 1) := by decide +kernel
theorem dX11_margin_50 : decode cX11_margin 50 = .ok (.invokevirtual 266, 3) := by decide +kernel
theorem dX11_margin_53 : decode cX11_margin 53 = .ok (.ireturn, 1) := by decide +kernel
theorem wX11_margin : Mw yX11_margin cX11_margin 3 (some .int) 2 := ⟨q_1042, q_120, by decide, ⟨by decide +kernel, by decide +kernel⟩, by decide +kernel, by decide +kernel⟩
/-- EyeTrainer.margin(II)I -/
def fX11_margin (T : Sh) (M : Me) (x0 : Nat) (x1 : Int32) (x2 : Int32) : Option (Int32 × Me) :=
  gd (kd T x0 = 10) <| Option.bind (fX11_noLane T M x0 x1) fun r2 => if r2 = 0 then (if x2 < 0 then (some ((-2 : Int32), M)) else (if x2 < (4 : Int32) then (Option.bind (fX11_passesInPoint T M x0 x1) <| un2 fun r6 M7 => if r6 = 0 then (some ((-5 : Int32), M7)) else (Option.bind (fX11_look T M7 x0 x1) <| un2 fun _u M9 => Option.bind (gR M9 x0 4) fun a10 => Option.bind (gR M9 x0 5) fun a11 => gd (kd T a11 = 7) <| Option.bind (gR M9 a11 0) fun a13 => gd (kd T a13 = 13) <| gv x1 (ln T a13) <| gd (kd T a10 = 6) <| Option.bind (fX7_marginOf T M9 a10 (gI M9 a13 (Int32.toNatClampNeg x1)) x2) fun r17 => some (r17, M9))) else (some ((-2 : Int32), M)))) else (some ((-2 : Int32), M))
set_option maxHeartbeats 4000000 in
theorem kX11_margin {l : Launch} {B : Bx} {d : Nat} (hd : 5 ≤ d) {T : Sh} {M : Me} {x0 : Nat} {x1 : Int32} {x2 : Int32} {r : Int32} {M' : Me} (h : fX11_margin T M x0 x1 x2 = some (r, M')) : Kt l B yX11_margin cX11_margin 3 (some .int) d [.ref (x0), .int (x1), .int (x2)] T M (some (.int r)) T M' := by
  refine kt_of wX11_margin (Nat.le_refl _) (Nat.le_refl _) (Nat.le_of_ble_eq_true rfl) (fun X C hR hlx hin => ?_)
  subst hlx
  replace C : Cx X B cX11_margin 3 RX11 d (tp T, sl T, tp T, sl T) := C
  unfold fX11_margin at h
  show G X B 3 _ _ 0 [(0, .ref (x0)), (1, .int (x1)), (2, .int (x2))] [] T M
  refine g_aload_n (pc := 0) C dX11_margin_0 rfl 0 rfl ?_
  refine g_iload_n (pc := 1) C dX11_margin_1 rfl 1 rfl ?_
  replace h := gd_some h; obtain ⟨hk1, h⟩ := h
  replace h := bnd h; obtain ⟨r2, h1, h⟩ := h
  refine g_callVi (pc := 2) (As := [.int (x1)]) (st := []) C dX11_margin_2 wX11_noLane hk1 rfl (by decide) q_769 q_20 q_767 (by omega) rfl (Nat.le_of_ble_eq_true rfl) (kX11_noLane (d := 0) (Nat.le_refl _) h1) ?_
  refine g_if_ne (pc := 5) (tgt := 17) C dX11_margin_5 (by decide) (fun c3 => ?_) (fun c3 => ?_)
  · replace h := ifn c3 h
    refine g_bipush (pc := 17) (v := (-2)) C dX11_margin_17 (by decide) ?_
    obtain ⟨rfl, rfl⟩ := Prod.mk.inj (Option.some.inj h)
    exact g_iret C hR dX11_margin_19
  · replace h := ifp c3 h
    refine g_iload_n (pc := 8) C dX11_margin_8 rfl 2 rfl ?_
    refine g_if_lt (pc := 9) (tgt := 17) C dX11_margin_9 (by decide) (fun c4 => ?_) (fun c4 => ?_)
    · replace h := ifp c4 h
      refine g_bipush (pc := 17) (v := (-2)) C dX11_margin_17 (by decide) ?_
      obtain ⟨rfl, rfl⟩ := Prod.mk.inj (Option.some.inj h)
      exact g_iret C hR dX11_margin_19
    · replace h := ifn c4 h
      refine g_iload_n (pc := 12) C dX11_margin_12 rfl 2 rfl ?_
      refine g_iconst (pc := 13) (v := 4) C dX11_margin_13 (by decide) ?_
      refine g_icmp_lt (pc := 14) (tgt := 20) C dX11_margin_14 (by decide) (fun c5 => ?_) (fun c5 => ?_)
      · replace h := ifp c5 h
        refine g_aload_n (pc := 20) C dX11_margin_20 rfl 0 rfl ?_
        refine g_iload_n (pc := 21) C dX11_margin_21 rfl 1 rfl ?_
        replace h := bnd2 h; obtain ⟨r6, M7, h1, h⟩ := h
        refine g_callVi (pc := 22) (As := [.int (x1)]) (st := []) C dX11_margin_22 wX11_passesInPoint hk1 rfl (by decide) q_773 q_21 q_771 (by omega) rfl (Nat.le_of_ble_eq_true rfl) (kX11_passesInPoint (d := 4) (Nat.le_refl _) h1) ?_
        refine g_if_ne (pc := 25) (tgt := 31) C dX11_margin_25 (by decide) (fun c8 => ?_) (fun c8 => ?_)
        · replace h := ifn c8 h
          refine g_aload_n (pc := 31) C dX11_margin_31 rfl 0 rfl ?_
          refine g_iload_n (pc := 32) C dX11_margin_32 rfl 1 rfl ?_
          replace h := bnd2 h; obtain ⟨_u, M9, h1, h⟩ := h
          refine g_callVv (pc := 33) (As := [.int (x1)]) (st := []) C dX11_margin_33 wX11_look hk1 rfl (by decide) q_867 q_28 q_865 (by omega) rfl (Nat.le_of_ble_eq_true rfl) (kX11_look (d := 3) (Nat.le_refl _) h1) ?_
          refine g_aload_n (pc := 36) C dX11_margin_36 rfl 0 rfl ?_
          refine g_get (pc := 37) (v := va_rf (gR M9 x0 4)) C dX11_margin_37 kX11 hk1 4 (by decide) q_428 rfl ?_
          replace h := bnd h; obtain ⟨a10, ea10, h⟩ := h
          refine g_refq ea10 ?_
          refine g_aload_n (pc := 40) C dX11_margin_40 rfl 0 rfl ?_
          refine g_get (pc := 41) (v := va_rf (gR M9 x0 5)) C dX11_margin_41 kX11 hk1 5 (by decide) q_429 rfl ?_
          replace h := bnd h; obtain ⟨a11, ea11, h⟩ := h
          refine g_refq ea11 ?_
          replace h := gd_some h; obtain ⟨hk12, h⟩ := h
          refine g_get (pc := 44) (v := va_rf (gR M9 a11 0)) C dX11_margin_44 kX8 hk12 0 (by decide) q_375 rfl ?_
          replace h := bnd h; obtain ⟨a13, ea13, h⟩ := h
          refine g_refq ea13 ?_
          refine g_iload_n (pc := 47) C dX11_margin_47 rfl 1 rfl ?_
          replace h := gd_some h; obtain ⟨hk14, h⟩ := h
          replace h := gv_some h; obtain ⟨hi15, h⟩ := h
          refine g_iald (pc := 48) C dX11_margin_48 hk14 hi15 ?_
          refine g_iload_n (pc := 49) C dX11_margin_49 rfl 2 rfl ?_
          replace h := gd_some h; obtain ⟨hk16, h⟩ := h
          replace h := bnd h; obtain ⟨r17, h1, h⟩ := h
          refine g_callVi (pc := 50) (As := [.int (gI M9 a13 (Int32.toNatClampNeg x1)), .int (x2)]) (st := []) C dX11_margin_50 wX7_marginOf hk16 rfl (by decide) q_1044 q_1045 q_1043 (by omega) rfl (Nat.le_of_ble_eq_true rfl) (kX7_marginOf (d := 1) (Nat.le_refl _) h1) ?_
          obtain ⟨rfl, rfl⟩ := Prod.mk.inj (Option.some.inj h)
          exact g_iret C hR dX11_margin_53
        · replace h := ifp c8 h
          refine g_bipush (pc := 28) (v := (-5)) C dX11_margin_28 (by decide) ?_
          obtain ⟨rfl, rfl⟩ := Prod.mk.inj (Option.some.inj h)
          exact g_iret C hR dX11_margin_30
      · replace h := ifn c5 h
        refine g_bipush (pc := 17) (v := (-2)) C dX11_margin_17 (by decide) ?_
        obtain ⟨rfl, rfl⟩ := Prod.mk.inj (Option.some.inj h)
        exact g_iret C hR dX11_margin_19
theorem dX11_edge_0 : decode cX11_edge 0 = .ok (.aload_n 0, 1) := by decide +kernel
theorem dX11_edge_1 : decode cX11_edge 1 = .ok (.iload_n 1, 1) := by decide +kernel
theorem dX11_edge_2 : decode cX11_edge 2 = .ok (.invokevirtual 107, 3) := by decide +kernel
theorem dX11_edge_5 : decode cX11_edge 5 = .ok (.ifCond .eq 8, 3) := by decide +kernel
theorem dX11_edge_8 : decode cX11_edge 8 = .ok (.bipush (-2), 2) := by decide +kernel
theorem dX11_edge_10 : decode cX11_edge 10 = .ok (.goto 8, 3) := by decide +kernel
theorem dX11_edge_13 : decode cX11_edge 13 = .ok (.aload_n 0, 1) := by decide +kernel
theorem dX11_edge_14 : decode cX11_edge 14 = .ok (.iload_n 1, 1) := by decide +kernel
theorem dX11_edge_15 : decode cX11_edge 15 = .ok (.invokevirtual 269, 3) := by decide +kernel
theorem dX11_edge_18 : decode cX11_edge 18 = .ok (.ireturn, 1) := by decide +kernel
theorem wX11_edge : Mw yX11_edge cX11_edge 2 (some .int) 1 := ⟨q_1050, q_120, by decide, ⟨by decide +kernel, by decide +kernel⟩, by decide +kernel, by decide +kernel⟩
/-- EyeTrainer.edge(I)I -/
def fX11_edge (T : Sh) (M : Me) (x0 : Nat) (x1 : Int32) : Option (Int32 × Me) :=
  gd (kd T x0 = 10) <| Option.bind (fX11_noLane T M x0 x1) fun r2 => if r2 = 0 then (Option.bind (fX11_edgeOf T M x0 x1) <| un2 fun r4 M5 => some (r4, M5)) else (some ((-2 : Int32), M))
set_option maxHeartbeats 4000000 in
theorem kX11_edge {l : Launch} {B : Bx} {d : Nat} (hd : 3 ≤ d) {T : Sh} {M : Me} {x0 : Nat} {x1 : Int32} {r : Int32} {M' : Me} (h : fX11_edge T M x0 x1 = some (r, M')) : Kt l B yX11_edge cX11_edge 2 (some .int) d [.ref (x0), .int (x1)] T M (some (.int r)) T M' := by
  refine kt_of wX11_edge (Nat.le_refl _) (Nat.le_refl _) (Nat.le_of_ble_eq_true rfl) (fun X C hR hlx hin => ?_)
  subst hlx
  replace C : Cx X B cX11_edge 2 RX11 d (tp T, sl T, tp T, sl T) := C
  unfold fX11_edge at h
  show G X B 2 _ _ 0 [(0, .ref (x0)), (1, .int (x1))] [] T M
  refine g_aload_n (pc := 0) C dX11_edge_0 rfl 0 rfl ?_
  refine g_iload_n (pc := 1) C dX11_edge_1 rfl 1 rfl ?_
  replace h := gd_some h; obtain ⟨hk1, h⟩ := h
  replace h := bnd h; obtain ⟨r2, h1, h⟩ := h
  refine g_callVi (pc := 2) (As := [.int (x1)]) (st := []) C dX11_edge_2 wX11_noLane hk1 rfl (by decide) q_769 q_20 q_767 (by omega) rfl (Nat.le_of_ble_eq_true rfl) (kX11_noLane (d := 0) (Nat.le_refl _) h1) ?_
  refine g_if_eq (pc := 5) (tgt := 13) C dX11_edge_5 (by decide) (fun c3 => ?_) (fun c3 => ?_)
  · replace h := ifp c3 h
    refine g_aload_n (pc := 13) C dX11_edge_13 rfl 0 rfl ?_
    refine g_iload_n (pc := 14) C dX11_edge_14 rfl 1 rfl ?_
    replace h := bnd2 h; obtain ⟨r4, M5, h1, h⟩ := h
    refine g_callVi (pc := 15) (As := [.int (x1)]) (st := []) C dX11_edge_15 wX11_edgeOf hk1 rfl (by decide) q_863 q_27 q_861 (by omega) rfl (Nat.le_of_ble_eq_true rfl) (kX11_edgeOf (d := 2) (Nat.le_refl _) h1) ?_
    obtain ⟨rfl, rfl⟩ := Prod.mk.inj (Option.some.inj h)
    exact g_iret C hR dX11_edge_18
  · replace h := ifn c3 h
    refine g_bipush (pc := 8) (v := (-2)) C dX11_edge_8 (by decide) ?_
    refine g_goto (pc := 10) (tgt := 18) C dX11_edge_10 (by decide) ?_
    obtain ⟨rfl, rfl⟩ := Prod.mk.inj (Option.some.inj h)
    exact g_iret C hR dX11_edge_18
theorem dX11_lag_0 : decode cX11_lag 0 = .ok (.aload_n 0, 1) := by decide +kernel
theorem dX11_lag_1 : decode cX11_lag 1 = .ok (.iload_n 1, 1) := by decide +kernel
theorem dX11_lag_2 : decode cX11_lag 2 = .ok (.invokevirtual 107, 3) := by decide +kernel
theorem dX11_lag_5 : decode cX11_lag 5 = .ok (.ifCond .eq 6, 3) := by decide +kernel
theorem dX11_lag_8 : decode cX11_lag 8 = .ok (.bipush (-2), 2) := by decide +kernel
theorem dX11_lag_10 : decode cX11_lag 10 = .ok (.ireturn, 1) := by decide +kernel
theorem dX11_lag_11 : decode cX11_lag 11 = .ok (.iconst 0, 1) := by decide +kernel
theorem dX11_lag_12 : decode cX11_lag 12 = .ok (.istore_n 2, 1) := by decide +kernel
theorem dX11_lag_13 : decode cX11_lag 13 = .ok (.iconst 0, 1) := by decide +kernel
theorem dX11_lag_14 : decode cX11_lag 14 = .ok (.istore_n 3, 1) := by decide +kernel
theorem dX11_lag_15 : decode cX11_lag 15 = .ok (.iconst 0, 1) := by decide +kernel
theorem dX11_lag_16 : decode cX11_lag 16 = .ok (.istore 4, 2) := by decide +kernel
theorem dX11_lag_18 : decode cX11_lag 18 = .ok (.iload 4, 2) := by decide +kernel
theorem dX11_lag_20 : decode cX11_lag 20 = .ok (.aload_n 0, 1) := by decide +kernel
theorem dX11_lag_21 : decode cX11_lag 21 = .ok (.getfield 28, 3) := by decide +kernel
theorem dX11_lag_24 : decode cX11_lag 24 = .ok (.getfield 111, 3) := by decide +kernel
theorem dX11_lag_27 : decode cX11_lag 27 = .ok (.getfield 272, 3) := by decide +kernel
theorem dX11_lag_30 : decode cX11_lag 30 = .ok (.if_icmp .ge 66, 3) := by decide +kernel
theorem dX11_lag_33 : decode cX11_lag 33 = .ok (.aload_n 0, 1) := by decide +kernel
theorem dX11_lag_34 : decode cX11_lag 34 = .ok (.iload 4, 2) := by decide +kernel
theorem dX11_lag_36 : decode cX11_lag 36 = .ok (.invokevirtual 218, 3) := by decide +kernel
theorem dX11_lag_39 : decode cX11_lag 39 = .ok (.aload_n 0, 1) := by decide +kernel
theorem dX11_lag_40 : decode cX11_lag 40 = .ok (.getfield 35, 3) := by decide +kernel
theorem dX11_lag_43 : decode cX11_lag 43 = .ok (.invokevirtual 233, 3) := by decide +kernel
theorem dX11_lag_46 : decode cX11_lag 46 = .ok (.aload_n 0, 1) := by decide +kernel
theorem dX11_lag_47 : decode cX11_lag 47 = .ok (.getfield 35, 3) := by decide +kernel
theorem dX11_lag_50 : decode cX11_lag 50 = .ok (.getfield 236, 3) := by decide +kernel
theorem dX11_lag_53 : decode cX11_lag 53 = .ok (.ifCond .ne 5, 3) := by decide +kernel
theorem dX11_lag_56 : decode cX11_lag 56 = .ok (.iconst (-1), 1) := by decide +kernel
theorem dX11_lag_57 : decode cX11_lag 57 = .ok (.ireturn, 1) := by decide +kernel
theorem dX11_lag_58 : decode cX11_lag 58 = .ok (.aload_n 0, 1) := by decide +kernel
theorem dX11_lag_59 : decode cX11_lag 59 = .ok (.getfield 35, 3) := by decide +kernel
theorem dX11_lag_62 : decode cX11_lag 62 = .ok (.invokevirtual 251, 3) := by decide +kernel
theorem dX11_lag_65 : decode cX11_lag 65 = .ok (.bipush 24, 2) := by decide +kernel
theorem dX11_lag_67 : decode cX11_lag 67 = .ok (.irem, 1) := by decide +kernel
theorem dX11_lag_68 : decode cX11_lag 68 = .ok (.istore 5, 2) := by decide +kernel
theorem dX11_lag_70 : decode cX11_lag 70 = .ok (.iload_n 3, 1) := by decide +kernel
theorem dX11_lag_71 : decode cX11_lag 71 = .ok (.iload 5, 2) := by decide +kernel
theorem dX11_lag_73 : decode cX11_lag 73 = .ok (.invokestatic 275, 3) := by decide +kernel
theorem dX11_lag_76 : decode cX11_lag 76 = .ok (.istore_n 3, 1) := by decide +kernel
theorem dX11_lag_77 : decode cX11_lag 77 = .ok (.iload 4, 2) := by decide +kernel
theorem dX11_lag_79 : decode cX11_lag 79 = .ok (.iload_n 1, 1) := by decide +kernel
theorem dX11_lag_80 : decode cX11_lag 80 = .ok (.if_icmp .ne 8, 3) := by decide +kernel
theorem dX11_lag_83 : decode cX11_lag 83 = .ok (.iload 5, 2) := by decide +kernel
theorem dX11_lag_85 : decode cX11_lag 85 = .ok (.goto 4, 3) := by decide +kernel
theorem dX11_lag_88 : decode cX11_lag 88 = .ok (.iload_n 2, 1) := by decide +kernel
theorem dX11_lag_89 : decode cX11_lag 89 = .ok (.istore_n 2, 1) := by decide +kernel
theorem dX11_lag_90 : decode cX11_lag 90 = .ok (.iinc 4 1, 3) := by decide +kernel
theorem dX11_lag_93 : decode cX11_lag 93 = .ok (.goto (-75), 3) := by decide +kernel
theorem dX11_lag_96 : decode cX11_lag 96 = .ok (.iload_n 3, 1) := by decide +kernel
theorem dX11_lag_97 : decode cX11_lag 97 = .ok (.iload_n 2, 1) := by decide +kernel
theorem dX11_lag_98 : decode cX11_lag 98 = .ok (.isub, 1) := by decide +kernel
theorem dX11_lag_99 : decode cX11_lag 99 = .ok (.ireturn, 1) := by decide +kernel
theorem wX11_lag : Mw yX11_lag cX11_lag 6 (some .int) 1 := ⟨q_1054, q_120, by decide, ⟨by decide +kernel, by decide +kernel⟩, by decide +kernel, by decide +kernel⟩
-- a loop of EyeTrainer.lag at 18
def bX11_lag_18 (T : Sh) (x0 : Nat) (x1 : Int32) (x2 : Int32) (x3 : Int32) (x4 : Int32) (M : Me) : Option ((Int32 × Int32 × Int32 × Me) ⊕ (Me ⊕ (Int32 × Int32 × Me))) :=
  gd (kd T x0 = 10) <| Option.bind (gR M x0 3) fun a5 => gd (kd T a5 = 4) <| Option.bind (gR M a5 0) fun a7 => gd (kd T a7 = 2) <| if (gI M a7 7) ≤ x4 then (some (.inr (.inr (x2, x3, M)))) else (Option.bind (fX11_look T M x0 x4) <| un2 fun _u M10 => Option.bind (gR M10 x0 4) fun a11 => gd (kd T a11 = 6) <| Option.bind (fX7_findRectangle T M10 a11) <| un2 fun _u M13 => Option.bind (gR M13 x0 4) fun a14 => gd (kd T a14 = 6) <| if (gI M13 a14 5) = 0 then (some (.inr (.inl M13))) else (Option.bind (gR M13 x0 4) fun a17 => gd (kd T a17 = 6) <| Option.bind (fX7_middle T M13 a17) fun r19 => lt (r19 - r19 / (24 : Int32) * (24 : Int32)) fun v20 => Option.bind (fJ9_max_7cf53 x3 v20) fun r21 => if x4 = x1 then (lt (x4 + (1 : Int32)) fun v24 => some (.inl (v20, r21, v24, M13))) else (lt (x4 + (1 : Int32)) fun v23 => some (.inl (x2, r21, v23, M13)))))
def PX11_lag_18 (X : Fx) (B : Bx) (Z : Nat × Nat × Nat × Nat) (Q : State → Prop) (T : Sh) (x0 : Nat) (x1 : Int32) (s : Int32 × Int32 × Int32 × Me) : Prop := G X B 6 Z Q 18 [(0, .ref (x0)), (1, .int (x1)), (2, .int (s.1)), (3, .int (s.2.1)), (4, .int (s.2.2.1))] [] T s.2.2.2
def EX11_lag_18 (X : Fx) (B : Bx) (Z : Nat × Nat × Nat × Nat) (Q : State → Prop) (T : Sh) (x0 : Nat) (x1 : Int32) (r : Me ⊕ (Int32 × Int32 × Me)) : Prop := Sum.elim (fun r => G X B 6 Z Q 56 [] [] T r) (fun r => G X B 6 Z Q 96 [(2, .int (r.1)), (3, .int (r.2.1))] [] T r.2.2) r
set_option maxHeartbeats 4000000 in
theorem tbX11_lag_18 {X : Fx} {B : Bx} {Z : Nat × Nat × Nat × Nat} {Q : State → Prop} {d : Nat} {T : Sh} (C : Cx X B cX11_lag 6 RX11 d Z) (hd : 4 ≤ d) {x0 : Nat} {x1 : Int32} : ∀ (s : Int32 × Int32 × Int32 × Me) (o : (Int32 × Int32 × Int32 × Me) ⊕ (Me ⊕ (Int32 × Int32 × Me))), bX11_lag_18 T x0 x1 s.1 s.2.1 s.2.2.1 s.2.2.2 = some o → lpE (PX11_lag_18 X B Z Q T x0 x1) (EX11_lag_18 X B Z Q T x0 x1) o → PX11_lag_18 X B Z Q T x0 x1 s := by
  rintro ⟨x2, x3, x4, M⟩ o h hE
  replace h : bX11_lag_18 T x0 x1 x2 x3 x4 M = some o := h
  unfold bX11_lag_18 at h
  show G X B 6 Z Q 18 [(0, .ref (x0)), (1, .int (x1)), (2, .int (x2)), (3, .int (x3)), (4, .int (x4))] [] T M
  refine g_iload (pc := 18) C dX11_lag_18 4 rfl ?_
  refine g_aload_n (pc := 20) C dX11_lag_20 rfl 0 rfl ?_
  replace h := gd_some h; obtain ⟨hk4, h⟩ := h
  refine g_get (pc := 21) (v := va_rf (gR M x0 3)) C dX11_lag_21 kX11 hk4 3 (by decide) q_427 rfl ?_
  replace h := bnd h; obtain ⟨a5, ea5, h⟩ := h
  refine g_refq ea5 ?_
  replace h := gd_some h; obtain ⟨hk6, h⟩ := h
  refine g_get (pc := 24) (v := va_rf (gR M a5 0)) C dX11_lag_24 kX5 hk6 0 (by decide) q_288 rfl ?_
  replace h := bnd h; obtain ⟨a7, ea7, h⟩ := h
  refine g_refq ea7 ?_
  replace h := gd_some h; obtain ⟨hk8, h⟩ := h
  refine g_get (pc := 27) (v := .int (gI M a7 7)) C dX11_lag_27 kX3 hk8 7 (by decide) q_242 rfl ?_
  refine g_icmp_ge (pc := 30) (tgt := 96) C dX11_lag_30 (by decide) (fun c9 => ?_) (fun c9 => ?_)
  · replace h := ifp c9 h
    obtain rfl := Option.some.inj h
    exact g_sub [2, 3] rfl (show G X B 6 Z Q 96 [(2, .int (x2)), (3, .int (x3))] [] T M from hE)
  · replace h := ifn c9 h
    refine g_aload_n (pc := 33) C dX11_lag_33 rfl 0 rfl ?_
    refine g_iload (pc := 34) C dX11_lag_34 4 rfl ?_
    replace h := bnd2 h; obtain ⟨_u, M10, h1, h⟩ := h
    refine g_callVv (pc := 36) (As := [.int (x4)]) (st := []) C dX11_lag_36 wX11_look hk4 rfl (by decide) q_867 q_28 q_865 (by omega) rfl (Nat.le_of_ble_eq_true rfl) (kX11_look (d := 3) (Nat.le_refl _) h1) ?_
    refine g_aload_n (pc := 39) C dX11_lag_39 rfl 0 rfl ?_
    refine g_get (pc := 40) (v := va_rf (gR M10 x0 4)) C dX11_lag_40 kX11 hk4 4 (by decide) q_428 rfl ?_
    replace h := bnd h; obtain ⟨a11, ea11, h⟩ := h
    refine g_refq ea11 ?_
    replace h := gd_some h; obtain ⟨hk12, h⟩ := h
    replace h := bnd2 h; obtain ⟨_u, M13, h1, h⟩ := h
    refine g_callVv (pc := 43) (As := []) (st := []) C dX11_lag_43 wX7_findRectangle hk12 rfl (by decide) q_880 q_881 q_879 (by omega) rfl (Nat.le_of_ble_eq_true rfl) (kX7_findRectangle (d := 1) (Nat.le_refl _) h1) ?_
    refine g_aload_n (pc := 46) C dX11_lag_46 rfl 0 rfl ?_
    refine g_get (pc := 47) (v := va_rf (gR M13 x0 4)) C dX11_lag_47 kX11 hk4 4 (by decide) q_428 rfl ?_
    replace h := bnd h; obtain ⟨a14, ea14, h⟩ := h
    refine g_refq ea14 ?_
    replace h := gd_some h; obtain ⟨hk15, h⟩ := h
    refine g_get (pc := 50) (v := .int (gI M13 a14 5)) C dX11_lag_50 kX7 hk15 5 (by decide) q_322 rfl ?_
    refine g_if_ne (pc := 53) (tgt := 58) C dX11_lag_53 (by decide) (fun c16 => ?_) (fun c16 => ?_)
    · replace h := ifn c16 h
      refine g_aload_n (pc := 58) C dX11_lag_58 rfl 0 rfl ?_
      refine g_get (pc := 59) (v := va_rf (gR M13 x0 4)) C dX11_lag_59 kX11 hk4 4 (by decide) q_428 rfl ?_
      replace h := bnd h; obtain ⟨a17, ea17, h⟩ := h
      refine g_refq ea17 ?_
      replace h := gd_some h; obtain ⟨hk18, h⟩ := h
      replace h := bnd h; obtain ⟨r19, h1, h⟩ := h
      refine g_callVi (pc := 62) (As := []) (st := []) C dX11_lag_62 wX7_middle hk18 rfl (by decide) q_891 q_892 q_890 (by omega) rfl (Nat.le_of_ble_eq_true rfl) (kX7_middle (d := 0) (Nat.le_refl _) h1) ?_
      refine g_bipush (pc := 65) (v := 24) C dX11_lag_65 (by decide) ?_
      refine g_irem (pc := 67) C dX11_lag_67 (by decide) ?_
      refine g_topi (fun v20 ev20 => ?_)
      replace h := lt_at ev20 h
      refine g_istore (pc := 68) (lo2 := [(5, .int (v20)), (0, .ref (x0)), (1, .int (x1)), (2, .int (x2)), (3, .int (x3)), (4, .int (x4))]) C dX11_lag_68 (by decide) rfl ?_
      refine g_iload_n (pc := 70) C dX11_lag_70 rfl 4 rfl ?_
      refine g_iload (pc := 71) C dX11_lag_71 0 rfl ?_
      replace h := bnd h; obtain ⟨r21, h1, h⟩ := h
      refine g_callSi (pc := 73) (As := [.int (x3), .int (v20)]) (st := []) C dX11_lag_73 wJ9_max_7cf53 q_606 q_1055 (by omega) rfl (Nat.le_of_ble_eq_true rfl) (kJ9_max_7cf53 (d := 0) (Nat.le_refl _) h1) ?_
      refine g_istore_n (pc := 76) (lo2 := [(3, .int (r21)), (5, .int (v20)), (0, .ref (x0)), (1, .int (x1)), (2, .int (x2)), (4, .int (x4))]) C dX11_lag_76 rfl (by decide) rfl ?_
      refine g_iload (pc := 77) C dX11_lag_77 5 rfl ?_
      refine g_iload_n (pc := 79) C dX11_lag_79 rfl 3 rfl ?_
      refine g_icmp_ne (pc := 80) (tgt := 88) C dX11_lag_80 (by decide) (fun c22 => ?_) (fun c22 => ?_)
      · replace h := ifn c22 h
        refine g_iload_n (pc := 88) C dX11_lag_88 rfl 4 rfl ?_
        refine g_istore_n (pc := 89) (lo2 := [(2, .int (x2)), (3, .int (r21)), (5, .int (v20)), (0, .ref (x0)), (1, .int (x1)), (4, .int (x4))]) C dX11_lag_89 rfl (by decide) rfl ?_
        obtain ⟨v23, ev23⟩ : ∃ y : Int32, y = x4 + (1 : Int32) := ⟨_, rfl⟩
        replace h := lt_at ev23 h
        refine g_iinc (pc := 90) (v := v23) (k := 5) (lo2 := [(4, .int (v23)), (2, .int (x2)), (3, .int (r21)), (5, .int (v20)), (0, .ref (x0)), (1, .int (x1))]) C dX11_lag_90 rfl (by rw [ev23]; rfl) (by decide) rfl ?_
        refine g_goto (pc := 93) (tgt := 18) C dX11_lag_93 (by decide) ?_
        obtain rfl := Option.some.inj h
        exact g_sub [4, 5, 1, 2, 0] rfl (show G X B 6 Z Q 18 [(0, .ref (x0)), (1, .int (x1)), (2, .int (x2)), (3, .int (r21)), (4, .int (v23))] [] T M13 from hE)
      · replace h := ifp c22 h
        refine g_iload (pc := 83) C dX11_lag_83 1 rfl ?_
        refine g_goto (pc := 85) (tgt := 89) C dX11_lag_85 (by decide) ?_
        refine g_istore_n (pc := 89) (lo2 := [(2, .int (v20)), (3, .int (r21)), (5, .int (v20)), (0, .ref (x0)), (1, .int (x1)), (4, .int (x4))]) C dX11_lag_89 rfl (by decide) rfl ?_
        obtain ⟨v24, ev24⟩ : ∃ y : Int32, y = x4 + (1 : Int32) := ⟨_, rfl⟩
        replace h := lt_at ev24 h
        refine g_iinc (pc := 90) (v := v24) (k := 5) (lo2 := [(4, .int (v24)), (2, .int (v20)), (3, .int (r21)), (5, .int (v20)), (0, .ref (x0)), (1, .int (x1))]) C dX11_lag_90 rfl (by rw [ev24]; rfl) (by decide) rfl ?_
        refine g_goto (pc := 93) (tgt := 18) C dX11_lag_93 (by decide) ?_
        obtain rfl := Option.some.inj h
        exact g_sub [4, 5, 1, 2, 0] rfl (show G X B 6 Z Q 18 [(0, .ref (x0)), (1, .int (x1)), (2, .int (v20)), (3, .int (r21)), (4, .int (v24))] [] T M13 from hE)
    · replace h := ifp c16 h
      obtain rfl := Option.some.inj h
      exact g_sub [] rfl (show G X B 6 Z Q 56 [] [] T M13 from hE)
/-- EyeTrainer.lag(I)I -/
def fX11_lag (T : Sh) (M : Me) (x0 : Nat) (x1 : Int32) : Option (Int32 × Me) :=
  gd (kd T x0 = 10) <| Option.bind (fX11_noLane T M x0 x1) fun r2 => if r2 = 0 then ((lp FU (fun s => bX11_lag_18 T x0 x1 s.1 s.2.1 s.2.2.1 s.2.2.2) ((0 : Int32), (0 : Int32), (0 : Int32), M)).bind (Sum.elim (fun M25 => some ((-1 : Int32), M25)) (un3 fun x2_26 x3_27 M28 => some ((x3_27 - x2_26), M28)))) else (some ((-2 : Int32), M))
set_option maxHeartbeats 4000000 in
theorem kX11_lag {l : Launch} {B : Bx} {d : Nat} (hd : 4 ≤ d) {T : Sh} {M : Me} {x0 : Nat} {x1 : Int32} {r : Int32} {M' : Me} (h : fX11_lag T M x0 x1 = some (r, M')) : Kt l B yX11_lag cX11_lag 6 (some .int) d [.ref (x0), .int (x1)] T M (some (.int r)) T M' := by
  refine kt_of wX11_lag (Nat.le_refl _) (Nat.le_refl _) (Nat.le_of_ble_eq_true rfl) (fun X C hR hlx hin => ?_)
  subst hlx
  replace C : Cx X B cX11_lag 6 RX11 d (tp T, sl T, tp T, sl T) := C
  unfold fX11_lag at h
  show G X B 6 _ _ 0 [(0, .ref (x0)), (1, .int (x1))] [] T M
  refine g_aload_n (pc := 0) C dX11_lag_0 rfl 0 rfl ?_
  refine g_iload_n (pc := 1) C dX11_lag_1 rfl 1 rfl ?_
  replace h := gd_some h; obtain ⟨hk1, h⟩ := h
  replace h := bnd h; obtain ⟨r2, h1, h⟩ := h
  refine g_callVi (pc := 2) (As := [.int (x1)]) (st := []) C dX11_lag_2 wX11_noLane hk1 rfl (by decide) q_769 q_20 q_767 (by omega) rfl (Nat.le_of_ble_eq_true rfl) (kX11_noLane (d := 0) (Nat.le_refl _) h1) ?_
  refine g_if_eq (pc := 5) (tgt := 11) C dX11_lag_5 (by decide) (fun c3 => ?_) (fun c3 => ?_)
  · replace h := ifp c3 h
    refine g_iconst (pc := 11) (v := 0) C dX11_lag_11 (by decide) ?_
    refine g_istore_n (pc := 12) (lo2 := [(2, .int ((0 : Int32))), (0, .ref (x0)), (1, .int (x1))]) C dX11_lag_12 rfl (by decide) rfl ?_
    refine g_iconst (pc := 13) (v := 0) C dX11_lag_13 (by decide) ?_
    refine g_istore_n (pc := 14) (lo2 := [(3, .int ((0 : Int32))), (2, .int ((0 : Int32))), (0, .ref (x0)), (1, .int (x1))]) C dX11_lag_14 rfl (by decide) rfl ?_
    refine g_iconst (pc := 15) (v := 0) C dX11_lag_15 (by decide) ?_
    refine g_istore (pc := 16) (lo2 := [(4, .int ((0 : Int32))), (3, .int ((0 : Int32))), (2, .int ((0 : Int32))), (0, .ref (x0)), (1, .int (x1))]) C dX11_lag_16 (by decide) rfl ?_
    replace h := bndE h; rcases h with ⟨M25, h1, h⟩ | ⟨a1, h1, h⟩
    · refine g_sub [3, 4, 2, 1, 0] rfl ?_
      refine lp_G2 (P := PX11_lag_18 X B _ _ T x0 x1) (E := EX11_lag_18 X B _ _ T x0 x1) (tbX11_lag_18 C hd) h1 ?_
      show G X B 6 _ _ 56 [] [] T M25
      refine g_iconst (pc := 56) (v := (-1)) C dX11_lag_56 (by decide) ?_
      obtain ⟨rfl, rfl⟩ := Prod.mk.inj (Option.some.inj h)
      exact g_iret C hR dX11_lag_57
    · obtain ⟨x2_26, x3_27, M28⟩ := a1
      replace h := un3_d h
      refine g_sub [3, 4, 2, 1, 0] rfl ?_
      refine lp_G2 (P := PX11_lag_18 X B _ _ T x0 x1) (E := EX11_lag_18 X B _ _ T x0 x1) (tbX11_lag_18 C hd) h1 ?_
      show G X B 6 _ _ 96 [(2, .int (x2_26)), (3, .int (x3_27))] [] T M28
      refine g_iload_n (pc := 96) C dX11_lag_96 rfl 1 rfl ?_
      refine g_iload_n (pc := 97) C dX11_lag_97 rfl 0 rfl ?_
      refine g_isub (pc := 98) C dX11_lag_98 ?_
      obtain ⟨rfl, rfl⟩ := Prod.mk.inj (Option.some.inj h)
      exact g_iret C hR dX11_lag_99
  · replace h := ifn c3 h
    refine g_bipush (pc := 8) (v := (-2)) C dX11_lag_8 (by decide) ?_
    obtain ⟨rfl, rfl⟩ := Prod.mk.inj (Option.some.inj h)
    exact g_iret C hR dX11_lag_10
theorem dX11_bus_0 : decode cX11_bus 0 = .ok (.iload_n 1, 1) := by decide +kernel
theorem dX11_bus_1 : decode cX11_bus 1 = .ok (.ifCond .lt 8, 3) := by decide +kernel
theorem dX11_bus_4 : decode cX11_bus 4 = .ok (.iload_n 1, 1) := by decide +kernel
theorem dX11_bus_5 : decode cX11_bus 5 = .ok (.iconst 2, 1) := by decide +kernel
theorem dX11_bus_6 : decode cX11_bus 6 = .ok (.if_icmp .le 6, 3) := by decide +kernel
theorem dX11_bus_9 : decode cX11_bus 9 = .ok (.bipush (-2), 2) := by decide +kernel
theorem dX11_bus_11 : decode cX11_bus 11 = .ok (.ireturn, 1) := by decide +kernel
theorem dX11_bus_12 : decode cX11_bus 12 = .ok (.aload_n 0, 1) := by decide +kernel
theorem dX11_bus_13 : decode cX11_bus 13 = .ok (.getfield 28, 3) := by decide +kernel
theorem dX11_bus_16 : decode cX11_bus 16 = .ok (.getfield 111, 3) := by decide +kernel
theorem dX11_bus_19 : decode cX11_bus 19 = .ok (.getfield 272, 3) := by decide +kernel
theorem dX11_bus_22 : decode cX11_bus 22 = .ok (.ifCond .ne 5, 3) := by decide +kernel
theorem dX11_bus_25 : decode cX11_bus 25 = .ok (.iconst (-1), 1) := by decide +kernel
theorem dX11_bus_26 : decode cX11_bus 26 = .ok (.ireturn, 1) := by decide +kernel
theorem dX11_bus_27 : decode cX11_bus 27 = .ok (.ldc_w 280, 3) := by decide +kernel
theorem dX11_bus_30 : decode cX11_bus 30 = .ok (.istore_n 2, 1) := by decide +kernel
theorem dX11_bus_31 : decode cX11_bus 31 = .ok (.iconst 0, 1) := by decide +kernel
theorem dX11_bus_32 : decode cX11_bus 32 = .ok (.istore_n 3, 1) := by decide +kernel
theorem dX11_bus_33 : decode cX11_bus 33 = .ok (.iload_n 3, 1) := by decide +kernel
theorem dX11_bus_34 : decode cX11_bus 34 = .ok (.aload_n 0, 1) := by decide +kernel
theorem dX11_bus_35 : decode cX11_bus 35 = .ok (.getfield 28, 3) := by decide +kernel
theorem dX11_bus_38 : decode cX11_bus 38 = .ok (.getfield 111, 3) := by decide +kernel
theorem dX11_bus_41 : decode cX11_bus 41 = .ok (.getfield 272, 3) := by decide +kernel
theorem dX11_bus_44 : decode cX11_bus 44 = .ok (.if_icmp .ge 29, 3) := by decide +kernel
theorem dX11_bus_47 : decode cX11_bus 47 = .ok (.iload_n 2, 1) := by decide +kernel
theorem dX11_bus_48 : decode cX11_bus 48 = .ok (.aload_n 0, 1) := by decide +kernel
theorem dX11_bus_49 : decode cX11_bus 49 = .ok (.iload_n 3, 1) := by decide +kernel
theorem dX11_bus_50 : decode cX11_bus 50 = .ok (.aload_n 0, 1) := by decide +kernel
theorem dX11_bus_51 : decode cX11_bus 51 = .ok (.getfield 42, 3) := by decide +kernel
theorem dX11_bus_54 : decode cX11_bus 54 = .ok (.getfield 127, 3) := by decide +kernel
theorem dX11_bus_57 : decode cX11_bus 57 = .ok (.iload_n 3, 1) := by decide +kernel
theorem dX11_bus_58 : decode cX11_bus 58 = .ok (.iaload, 1) := by decide +kernel
theorem dX11_bus_59 : decode cX11_bus 59 = .ok (.bipush 24, 2) := by decide +kernel
theorem dX11_bus_61 : decode cX11_bus 61 = .ok (.idiv, 1) := by decide +kernel
theorem dX11_bus_62 : decode cX11_bus 62 = .ok (.invokevirtual 147, 3) := by decide +kernel
theorem dX11_bus_65 : decode cX11_bus 65 = .ok (.iand, 1) := by decide +kernel
theorem dX11_bus_66 : decode cX11_bus 66 = .ok (.istore_n 2, 1) := by decide +kernel
theorem dX11_bus_67 : decode cX11_bus 67 = .ok (.iinc 3 1, 3) := by decide +kernel
theorem dX11_bus_70 : decode cX11_bus 70 = .ok (.goto (-37), 3) := by decide +kernel
theorem dX11_bus_73 : decode cX11_bus 73 = .ok (.iload_n 1, 1) := by decide +kernel
theorem dX11_bus_74 : decode cX11_bus 74 = .ok (.ifCond .ne 5, 3) := by decide +kernel
theorem dX11_bus_77 : decode cX11_bus 77 = .ok (.iload_n 2, 1) := by decide +kernel
theorem dX11_bus_78 : decode cX11_bus 78 = .ok (.ireturn, 1) := by decide +kernel
theorem dX11_bus_79 : decode cX11_bus 79 = .ok (.iload_n 2, 1) := by decide +kernel
theorem dX11_bus_80 : decode cX11_bus 80 = .ok (.invokestatic 281, 3) := by decide +kernel
theorem dX11_bus_83 : decode cX11_bus 83 = .ok (.istore_n 3, 1) := by decide +kernel
theorem dX11_bus_84 : decode cX11_bus 84 = .ok (.iload_n 1, 1) := by decide +kernel
theorem dX11_bus_85 : decode cX11_bus 85 = .ok (.iconst 1, 1) := by decide +kernel
theorem dX11_bus_86 : decode cX11_bus 86 = .ok (.if_icmp .ne 5, 3) := by decide +kernel
theorem dX11_bus_89 : decode cX11_bus 89 = .ok (.iload_n 3, 1) := by decide +kernel
theorem dX11_bus_90 : decode cX11_bus 90 = .ok (.ireturn, 1) := by decide +kernel
theorem dX11_bus_91 : decode cX11_bus 91 = .ok (.iload_n 3, 1) := by decide +kernel
theorem dX11_bus_92 : decode cX11_bus 92 = .ok (.ifCond .ne 7, 3) := by decide +kernel
theorem dX11_bus_95 : decode cX11_bus 95 = .ok (.iconst (-1), 1) := by decide +kernel
theorem dX11_bus_96 : decode cX11_bus 96 = .ok (.goto 8, 3) := by decide +kernel
theorem dX11_bus_99 : decode cX11_bus 99 = .ok (.iload_n 2, 1) := by decide +kernel
theorem dX11_bus_100 : decode cX11_bus 100 = .ok (.iload_n 3, 1) := by decide +kernel
theorem dX11_bus_101 : decode cX11_bus 101 = .ok (.invokestatic 286, 3) := by decide +kernel
theorem dX11_bus_104 : decode cX11_bus 104 = .ok (.ireturn, 1) := by decide +kernel
theorem wX11_bus : Mw yX11_bus cX11_bus 4 (some .int) 1 := ⟨q_1059, q_120, by decide, ⟨by decide +kernel, by decide +kernel⟩, by decide +kernel, by decide +kernel⟩
-- a loop of EyeTrainer.bus at 33
def bX11_bus_33 (T : Sh) (x0 : Nat) (x1 : Int32) (x2 : Int32) (x3 : Int32) (M : Me) : Option ((Int32 × Int32 × Me) ⊕ ((Int32 × Me))) :=
  gd (kd T x0 = 10) <| Option.bind (gR M x0 3) fun a10 => gd (kd T a10 = 4) <| Option.bind (gR M a10 0) fun a12 => gd (kd T a12 = 2) <| if (gI M a12 7) ≤ x3 then (some (.inr (x2, M))) else (Option.bind (gR M x0 5) fun a15 => gd (kd T a15 = 7) <| Option.bind (gR M a15 0) fun a17 => gd (kd T a17 = 13) <| gv x3 (ln T a17) <| Option.bind (fX11_rowNow T M x0 x3 ((gI M a17 (Int32.toNatClampNeg x3)) / (24 : Int32))) <| un2 fun r20 M21 => lt (x2 &&& r20) fun v22 => lt (x3 + (1 : Int32)) fun v23 => some (.inl (v22, v23, M21)))
def PX11_bus_33 (X : Fx) (B : Bx) (Z : Nat × Nat × Nat × Nat) (Q : State → Prop) (T : Sh) (x0 : Nat) (x1 : Int32) (s : Int32 × Int32 × Me) : Prop := G X B 4 Z Q 33 [(0, .ref (x0)), (1, .int (x1)), (2, .int (s.1)), (3, .int (s.2.1))] [] T s.2.2
def EX11_bus_33 (X : Fx) (B : Bx) (Z : Nat × Nat × Nat × Nat) (Q : State → Prop) (T : Sh) (x0 : Nat) (x1 : Int32) (r : (Int32 × Me)) : Prop := G X B 4 Z Q 73 [(1, .int (x1)), (2, .int (r.1))] [] T r.2
set_option maxHeartbeats 4000000 in
theorem tbX11_bus_33 {X : Fx} {B : Bx} {Z : Nat × Nat × Nat × Nat} {Q : State → Prop} {d : Nat} {T : Sh} (C : Cx X B cX11_bus 4 RX11 d Z) (hd : 4 ≤ d) {x0 : Nat} {x1 : Int32} : ∀ (s : Int32 × Int32 × Me) (o : (Int32 × Int32 × Me) ⊕ ((Int32 × Me))), bX11_bus_33 T x0 x1 s.1 s.2.1 s.2.2 = some o → lpE (PX11_bus_33 X B Z Q T x0 x1) (EX11_bus_33 X B Z Q T x0 x1) o → PX11_bus_33 X B Z Q T x0 x1 s := by
  rintro ⟨x2, x3, M⟩ o h hE
  replace h : bX11_bus_33 T x0 x1 x2 x3 M = some o := h
  unfold bX11_bus_33 at h
  show G X B 4 Z Q 33 [(0, .ref (x0)), (1, .int (x1)), (2, .int (x2)), (3, .int (x3))] [] T M
  refine g_iload_n (pc := 33) C dX11_bus_33 rfl 3 rfl ?_
  refine g_aload_n (pc := 34) C dX11_bus_34 rfl 0 rfl ?_
  replace h := gd_some h; obtain ⟨hk9, h⟩ := h
  refine g_get (pc := 35) (v := va_rf (gR M x0 3)) C dX11_bus_35 kX11 hk9 3 (by decide) q_427 rfl ?_
  replace h := bnd h; obtain ⟨a10, ea10, h⟩ := h
  refine g_refq ea10 ?_
  replace h := gd_some h; obtain ⟨hk11, h⟩ := h
  refine g_get (pc := 38) (v := va_rf (gR M a10 0)) C dX11_bus_38 kX5 hk11 0 (by decide) q_288 rfl ?_
  replace h := bnd h; obtain ⟨a12, ea12, h⟩ := h
  refine g_refq ea12 ?_
  replace h := gd_some h; obtain ⟨hk13, h⟩ := h
  refine g_get (pc := 41) (v := .int (gI M a12 7)) C dX11_bus_41 kX3 hk13 7 (by decide) q_242 rfl ?_
  refine g_icmp_ge (pc := 44) (tgt := 73) C dX11_bus_44 (by decide) (fun c14 => ?_) (fun c14 => ?_)
  · replace h := ifp c14 h
    obtain rfl := Option.some.inj h
    exact g_sub [1, 2] rfl (show G X B 4 Z Q 73 [(1, .int (x1)), (2, .int (x2))] [] T M from hE)
  · replace h := ifn c14 h
    refine g_iload_n (pc := 47) C dX11_bus_47 rfl 2 rfl ?_
    refine g_aload_n (pc := 48) C dX11_bus_48 rfl 0 rfl ?_
    refine g_iload_n (pc := 49) C dX11_bus_49 rfl 3 rfl ?_
    refine g_aload_n (pc := 50) C dX11_bus_50 rfl 0 rfl ?_
    refine g_get (pc := 51) (v := va_rf (gR M x0 5)) C dX11_bus_51 kX11 hk9 5 (by decide) q_429 rfl ?_
    replace h := bnd h; obtain ⟨a15, ea15, h⟩ := h
    refine g_refq ea15 ?_
    replace h := gd_some h; obtain ⟨hk16, h⟩ := h
    refine g_get (pc := 54) (v := va_rf (gR M a15 0)) C dX11_bus_54 kX8 hk16 0 (by decide) q_375 rfl ?_
    replace h := bnd h; obtain ⟨a17, ea17, h⟩ := h
    refine g_refq ea17 ?_
    refine g_iload_n (pc := 57) C dX11_bus_57 rfl 3 rfl ?_
    replace h := gd_some h; obtain ⟨hk18, h⟩ := h
    replace h := gv_some h; obtain ⟨hi19, h⟩ := h
    refine g_iald (pc := 58) C dX11_bus_58 hk18 hi19 ?_
    refine g_bipush (pc := 59) (v := 24) C dX11_bus_59 (by decide) ?_
    refine g_idiv (pc := 61) C dX11_bus_61 (by decide) ?_
    replace h := bnd2 h; obtain ⟨r20, M21, h1, h⟩ := h
    refine g_callVi (pc := 62) (As := [.int (x3), .int ((gI M a17 (Int32.toNatClampNeg x3)) / (24 : Int32))]) (st := [.int (x2)]) C dX11_bus_62 wX11_rowNow hk9 rfl (by decide) q_827 q_24 q_825 (by omega) rfl (Nat.le_of_ble_eq_true rfl) (kX11_rowNow (d := 3) (Nat.le_refl _) h1) ?_
    refine g_iand (pc := 65) C dX11_bus_65 ?_
    refine g_topi (fun v22 ev22 => ?_)
    replace h := lt_at ev22 h
    refine g_istore_n (pc := 66) (lo2 := [(2, .int (v22)), (0, .ref (x0)), (1, .int (x1)), (3, .int (x3))]) C dX11_bus_66 rfl (by decide) rfl ?_
    obtain ⟨v23, ev23⟩ : ∃ y : Int32, y = x3 + (1 : Int32) := ⟨_, rfl⟩
    replace h := lt_at ev23 h
    refine g_iinc (pc := 67) (v := v23) (k := 3) (lo2 := [(3, .int (v23)), (2, .int (v22)), (0, .ref (x0)), (1, .int (x1))]) C dX11_bus_67 rfl (by rw [ev23]; rfl) (by decide) rfl ?_
    refine g_goto (pc := 70) (tgt := 33) C dX11_bus_70 (by decide) ?_
    obtain rfl := Option.some.inj h
    exact g_sub [2, 3, 1, 0] rfl (show G X B 4 Z Q 33 [(0, .ref (x0)), (1, .int (x1)), (2, .int (v22)), (3, .int (v23))] [] T M21 from hE)
/-- EyeTrainer.bus(I)I -/
def fX11_bus (T : Sh) (M : Me) (x0 : Nat) (x1 : Int32) : Option (Int32 × Me) :=
  if x1 < 0 then (some ((-2 : Int32), M)) else (if x1 ≤ (2 : Int32) then (gd (kd T x0 = 10) <| Option.bind (gR M x0 3) fun a4 => gd (kd T a4 = 4) <| Option.bind (gR M a4 0) fun a6 => gd (kd T a6 = 2) <| if (gI M a6 7) = 0 then (some ((-1 : Int32), M)) else ((lp FU (fun s => bX11_bus_33 T x0 x1 s.1 s.2.1 s.2.2) ((16777215 : Int32), (0 : Int32), M)).bind (un2 fun x2_24 M25 => if x1 = 0 then (some (x2_24, M25)) else (Option.bind (fX0_longest x2_24) fun r27 => if x1 = (1 : Int32) then (some (r27, M25)) else (if r27 = 0 then (some ((-1 : Int32), M25)) else (Option.bind (fX0_firstRun x2_24 r27) fun r30 => some (r30, M25))))))) else (some ((-2 : Int32), M)))
set_option maxHeartbeats 4000000 in
theorem kX11_bus {l : Launch} {B : Bx} {d : Nat} (hd : 4 ≤ d) {T : Sh} {M : Me} {x0 : Nat} {x1 : Int32} {r : Int32} {M' : Me} (h : fX11_bus T M x0 x1 = some (r, M')) : Kt l B yX11_bus cX11_bus 4 (some .int) d [.ref (x0), .int (x1)] T M (some (.int r)) T M' := by
  refine kt_of wX11_bus (Nat.le_refl _) (Nat.le_refl _) (Nat.le_of_ble_eq_true rfl) (fun X C hR hlx hin => ?_)
  subst hlx
  replace C : Cx X B cX11_bus 4 RX11 d (tp T, sl T, tp T, sl T) := C
  unfold fX11_bus at h
  show G X B 4 _ _ 0 [(0, .ref (x0)), (1, .int (x1))] [] T M
  refine g_iload_n (pc := 0) C dX11_bus_0 rfl 1 rfl ?_
  refine g_if_lt (pc := 1) (tgt := 9) C dX11_bus_1 (by decide) (fun c1 => ?_) (fun c1 => ?_)
  · replace h := ifp c1 h
    refine g_bipush (pc := 9) (v := (-2)) C dX11_bus_9 (by decide) ?_
    obtain ⟨rfl, rfl⟩ := Prod.mk.inj (Option.some.inj h)
    exact g_iret C hR dX11_bus_11
  · replace h := ifn c1 h
    refine g_iload_n (pc := 4) C dX11_bus_4 rfl 1 rfl ?_
    refine g_iconst (pc := 5) (v := 2) C dX11_bus_5 (by decide) ?_
    refine g_icmp_le (pc := 6) (tgt := 12) C dX11_bus_6 (by decide) (fun c2 => ?_) (fun c2 => ?_)
    · replace h := ifp c2 h
      refine g_aload_n (pc := 12) C dX11_bus_12 rfl 0 rfl ?_
      replace h := gd_some h; obtain ⟨hk3, h⟩ := h
      refine g_get (pc := 13) (v := va_rf (gR M x0 3)) C dX11_bus_13 kX11 hk3 3 (by decide) q_427 rfl ?_
      replace h := bnd h; obtain ⟨a4, ea4, h⟩ := h
      refine g_refq ea4 ?_
      replace h := gd_some h; obtain ⟨hk5, h⟩ := h
      refine g_get (pc := 16) (v := va_rf (gR M a4 0)) C dX11_bus_16 kX5 hk5 0 (by decide) q_288 rfl ?_
      replace h := bnd h; obtain ⟨a6, ea6, h⟩ := h
      refine g_refq ea6 ?_
      replace h := gd_some h; obtain ⟨hk7, h⟩ := h
      refine g_get (pc := 19) (v := .int (gI M a6 7)) C dX11_bus_19 kX3 hk7 7 (by decide) q_242 rfl ?_
      refine g_if_ne (pc := 22) (tgt := 27) C dX11_bus_22 (by decide) (fun c8 => ?_) (fun c8 => ?_)
      · replace h := ifn c8 h
        refine g_ldcw (pc := 27) C dX11_bus_27 q_1060 ?_
        refine g_istore_n (pc := 30) (lo2 := [(2, .int ((16777215 : Int32))), (0, .ref (x0)), (1, .int (x1))]) C dX11_bus_30 rfl (by decide) rfl ?_
        refine g_iconst (pc := 31) (v := 0) C dX11_bus_31 (by decide) ?_
        refine g_istore_n (pc := 32) (lo2 := [(3, .int ((0 : Int32))), (2, .int ((16777215 : Int32))), (0, .ref (x0)), (1, .int (x1))]) C dX11_bus_32 rfl (by decide) rfl ?_
        replace h := bnd2 h; obtain ⟨x2_24, M25, h1, h⟩ := h
        refine g_sub [2, 3, 1, 0] rfl ?_
        refine lp_G2 (P := PX11_bus_33 X B _ _ T x0 x1) (E := EX11_bus_33 X B _ _ T x0 x1) (tbX11_bus_33 C hd) h1 ?_
        show G X B 4 _ _ 73 [(1, .int (x1)), (2, .int (x2_24))] [] T M25
        refine g_iload_n (pc := 73) C dX11_bus_73 rfl 0 rfl ?_
        refine g_if_ne (pc := 74) (tgt := 79) C dX11_bus_74 (by decide) (fun c26 => ?_) (fun c26 => ?_)
        · replace h := ifn c26 h
          refine g_iload_n (pc := 79) C dX11_bus_79 rfl 1 rfl ?_
          replace h := bnd h; obtain ⟨r27, h1, h⟩ := h
          refine g_callSi (pc := 80) (As := [.int (x2_24)]) (st := []) C dX11_bus_80 wX0_longest q_885 q_1061 (by omega) rfl (Nat.le_of_ble_eq_true rfl) (kX0_longest (d := 0) (Nat.le_refl _) h1) ?_
          refine g_istore_n (pc := 83) (lo2 := [(3, .int (r27)), (1, .int (x1)), (2, .int (x2_24))]) C dX11_bus_83 rfl (by decide) rfl ?_
          refine g_iload_n (pc := 84) C dX11_bus_84 rfl 1 rfl ?_
          refine g_iconst (pc := 85) (v := 1) C dX11_bus_85 (by decide) ?_
          refine g_icmp_ne (pc := 86) (tgt := 91) C dX11_bus_86 (by decide) (fun c28 => ?_) (fun c28 => ?_)
          · replace h := ifn c28 h
            refine g_iload_n (pc := 91) C dX11_bus_91 rfl 0 rfl ?_
            refine g_if_ne (pc := 92) (tgt := 99) C dX11_bus_92 (by decide) (fun c29 => ?_) (fun c29 => ?_)
            · replace h := ifn c29 h
              refine g_iload_n (pc := 99) C dX11_bus_99 rfl 2 rfl ?_
              refine g_iload_n (pc := 100) C dX11_bus_100 rfl 0 rfl ?_
              replace h := bnd h; obtain ⟨r30, h1, h⟩ := h
              refine g_callSi (pc := 101) (As := [.int (x2_24), .int (r27)]) (st := []) C dX11_bus_101 wX0_firstRun q_888 q_1062 (by omega) rfl (Nat.le_of_ble_eq_true rfl) (kX0_firstRun (d := 0) (Nat.le_refl _) h1) ?_
              obtain ⟨rfl, rfl⟩ := Prod.mk.inj (Option.some.inj h)
              exact g_iret C hR dX11_bus_104
            · replace h := ifp c29 h
              refine g_iconst (pc := 95) (v := (-1)) C dX11_bus_95 (by decide) ?_
              refine g_goto (pc := 96) (tgt := 104) C dX11_bus_96 (by decide) ?_
              obtain ⟨rfl, rfl⟩ := Prod.mk.inj (Option.some.inj h)
              exact g_iret C hR dX11_bus_104
          · replace h := ifp c28 h
            refine g_iload_n (pc := 89) C dX11_bus_89 rfl 0 rfl ?_
            obtain ⟨rfl, rfl⟩ := Prod.mk.inj (Option.some.inj h)
            exact g_iret C hR dX11_bus_90
        · replace h := ifp c26 h
          refine g_iload_n (pc := 77) C dX11_bus_77 rfl 1 rfl ?_
          obtain ⟨rfl, rfl⟩ := Prod.mk.inj (Option.some.inj h)
          exact g_iret C hR dX11_bus_78
      · replace h := ifp c8 h
        refine g_iconst (pc := 25) (v := (-1)) C dX11_bus_25 (by decide) ?_
        obtain ⟨rfl, rfl⟩ := Prod.mk.inj (Option.some.inj h)
        exact g_iret C hR dX11_bus_26
    · replace h := ifn c2 h
      refine g_bipush (pc := 9) (v := (-2)) C dX11_bus_9 (by decide) ?_
      obtain ⟨rfl, rfl⟩ := Prod.mk.inj (Option.some.inj h)
      exact g_iret C hR dX11_bus_11
theorem dX11_harshest_0 : decode cX11_harshest 0 = .ok (.aload_n 0, 1) := by decide +kernel
theorem dX11_harshest_1 : decode cX11_harshest 1 = .ok (.iload_n 1, 1) := by decide +kernel
theorem dX11_harshest_2 : decode cX11_harshest 2 = .ok (.invokevirtual 107, 3) := by decide +kernel
theorem dX11_harshest_5 : decode cX11_harshest 5 = .ok (.ifCond .eq 6, 3) := by decide +kernel
theorem dX11_harshest_8 : decode cX11_harshest 8 = .ok (.bipush (-2), 2) := by decide +kernel
theorem dX11_harshest_10 : decode cX11_harshest 10 = .ok (.ireturn, 1) := by decide +kernel
theorem dX11_harshest_11 : decode cX11_harshest 11 = .ok (.aload_n 0, 1) := by decide +kernel
theorem dX11_harshest_12 : decode cX11_harshest 12 = .ok (.getfield 28, 3) := by decide +kernel
theorem dX11_harshest_15 : decode cX11_harshest 15 = .ok (.aload_n 0, 1) := by decide +kernel
theorem dX11_harshest_16 : decode cX11_harshest 16 = .ok (.getfield 42, 3) := by decide +kernel
theorem dX11_harshest_19 : decode cX11_harshest 19 = .ok (.getfield 151, 3) := by decide +kernel
theorem dX11_harshest_22 : decode cX11_harshest 22 = .ok (.invokevirtual 140, 3) := by decide +kernel
theorem dX11_harshest_25 : decode cX11_harshest 25 = .ok (.istore_n 2, 1) := by decide +kernel
theorem dX11_harshest_26 : decode cX11_harshest 26 = .ok (.sipush 385, 3) := by decide +kernel
theorem dX11_harshest_29 : decode cX11_harshest 29 = .ok (.istore_n 3, 1) := by decide +kernel
theorem dX11_harshest_30 : decode cX11_harshest 30 = .ok (.iconst (-1), 1) := by decide +kernel
theorem dX11_harshest_31 : decode cX11_harshest 31 = .ok (.istore 4, 2) := by decide +kernel
theorem dX11_harshest_33 : decode cX11_harshest 33 = .ok (.iconst 0, 1) := by decide +kernel
theorem dX11_harshest_34 : decode cX11_harshest 34 = .ok (.istore 5, 2) := by decide +kernel
theorem dX11_harshest_36 : decode cX11_harshest 36 = .ok (.iload 5, 2) := by decide +kernel
theorem dX11_harshest_38 : decode cX11_harshest 38 = .ok (.aload_n 0, 1) := by decide +kernel
theorem dX11_harshest_39 : decode cX11_harshest 39 = .ok (.getfield 28, 3) := by decide +kernel
theorem dX11_harshest_42 : decode cX11_harshest 42 = .ok (.getfield 111, 3) := by decide +kernel
theorem dX11_harshest_45 : decode cX11_harshest 45 = .ok (.getfield 133, 3) := by decide +kernel
theorem dX11_harshest_48 : decode cX11_harshest 48 = .ok (.if_icmp .ge 62, 3) := by decide +kernel
theorem dX11_harshest_51 : decode cX11_harshest 51 = .ok (.iconst 0, 1) := by decide +kernel
theorem dX11_harshest_52 : decode cX11_harshest 52 = .ok (.istore 6, 2) := by decide +kernel
theorem dX11_harshest_54 : decode cX11_harshest 54 = .ok (.iconst 0, 1) := by decide +kernel
theorem dX11_harshest_55 : decode cX11_harshest 55 = .ok (.istore 7, 2) := by decide +kernel
theorem dX11_harshest_57 : decode cX11_harshest 57 = .ok (.iload 7, 2) := by decide +kernel
theorem dX11_harshest_59 : decode cX11_harshest 59 = .ok (.bipush 16, 2) := by decide +kernel
theorem dX11_harshest_61 : decode cX11_harshest 61 = .ok (.if_icmp .ge 30, 3) := by decide +kernel
theorem dX11_harshest_64 : decode cX11_harshest 64 = .ok (.iload 6, 2) := by decide +kernel
theorem dX11_harshest_66 : decode cX11_harshest 66 = .ok (.aload_n 0, 1) := by decide +kernel
theorem dX11_harshest_67 : decode cX11_harshest 67 = .ok (.getfield 28, 3) := by decide +kernel
theorem dX11_harshest_70 : decode cX11_harshest 70 = .ok (.iload_n 1, 1) := by decide +kernel
theorem dX11_harshest_71 : decode cX11_harshest 71 = .ok (.iload 5, 2) := by decide +kernel
theorem dX11_harshest_73 : decode cX11_harshest 73 = .ok (.iload_n 2, 1) := by decide +kernel
theorem dX11_harshest_74 : decode cX11_harshest 74 = .ok (.iload 7, 2) := by decide +kernel
theorem dX11_harshest_76 : decode cX11_harshest 76 = .ok (.invokevirtual 289, 3) := by decide +kernel
theorem dX11_harshest_79 : decode cX11_harshest 79 = .ok (.invokestatic 168, 3) := by decide +kernel
theorem dX11_harshest_82 : decode cX11_harshest 82 = .ok (.iadd, 1) := by decide +kernel
theorem dX11_harshest_83 : decode cX11_harshest 83 = .ok (.istore 6, 2) := by decide +kernel
theorem dX11_harshest_85 : decode cX11_harshest 85 = .ok (.iinc 7 1, 3) := by decide +kernel
theorem dX11_harshest_88 : decode cX11_harshest 88 = .ok (.goto (-31), 3) := by decide +kernel
theorem dX11_harshest_91 : decode cX11_harshest 91 = .ok (.iload 6, 2) := by decide +kernel
theorem dX11_harshest_93 : decode cX11_harshest 93 = .ok (.iload_n 3, 1) := by decide +kernel
theorem dX11_harshest_94 : decode cX11_harshest 94 = .ok (.if_icmp .ge 10, 3) := by decide +kernel
theorem dX11_harshest_97 : decode cX11_harshest 97 = .ok (.iload 6, 2) := by decide +kernel
theorem dX11_harshest_99 : decode cX11_harshest 99 = .ok (.istore_n 3, 1) := by decide +kernel
theorem dX11_harshest_100 : decode cX11_harshest 100 = .ok (.iload 5, 2) := by decide +kernel
theorem dX11_harshest_102 : decode cX11_harshest 102 = .ok (.istore 4, 2) := by decide +kernel
theorem dX11_harshest_104 : decode cX11_harshest 104 = .ok (.iinc 5 1, 3) := by decide +kernel
theorem dX11_harshest_107 : decode cX11_harshest 107 = .ok (.goto (-71), 3) := by decide +kernel
theorem dX11_harshest_110 : decode cX11_harshest 110 = .ok (.iload 4, 2) := by decide +kernel
theorem dX11_harshest_112 : decode cX11_harshest 112 = .ok (.ireturn, 1) := by decide +kernel
theorem wX11_harshest : Mw yX11_harshest cX11_harshest 8 (some .int) 1 := ⟨q_1066, q_120, by decide, ⟨by decide +kernel, by decide +kernel⟩, by decide +kernel, by decide +kernel⟩
-- a loop of EyeTrainer.harshest at 36
-- a loop of EyeTrainer.harshest at 57
def bX11_harshest_57 (T : Sh) (x0 : Nat) (x1 : Int32) (x2 : Int32) (x3 : Int32) (x4 : Int32) (x5 : Int32) (x6 : Int32) (x7 : Int32) (M : Me) : Option ((Int32 × Int32 × Me) ⊕ ((Int32 × Me))) :=
  if (16 : Int32) ≤ x7 then (some (.inr (x6, M))) else (gd (kd T x0 = 10) <| Option.bind (gR M x0 3) fun a18 => gd (kd T a18 = 4) <| Option.bind (fX5_passing T M a18 x1 x5 x2 x7) <| un2 fun r20 M21 => Option.bind (fJ6_bitCount_0f7a4 r20) fun r22 => lt (x6 + r22) fun v23 => lt (x7 + (1 : Int32)) fun v24 => some (.inl (v23, v24, M21)))
def PX11_harshest_57 (X : Fx) (B : Bx) (Z : Nat × Nat × Nat × Nat) (Q : State → Prop) (T : Sh) (x0 : Nat) (x1 : Int32) (x2 : Int32) (x3 : Int32) (x4 : Int32) (x5 : Int32) (s : Int32 × Int32 × Me) : Prop := G X B 8 Z Q 57 [(0, .ref (x0)), (1, .int (x1)), (2, .int (x2)), (3, .int (x3)), (4, .int (x4)), (5, .int (x5)), (6, .int (s.1)), (7, .int (s.2.1))] [] T s.2.2
def EX11_harshest_57 (X : Fx) (B : Bx) (Z : Nat × Nat × Nat × Nat) (Q : State → Prop) (T : Sh) (x0 : Nat) (x1 : Int32) (x2 : Int32) (x3 : Int32) (x4 : Int32) (x5 : Int32) (r : (Int32 × Me)) : Prop := G X B 8 Z Q 91 [(0, .ref (x0)), (1, .int (x1)), (2, .int (x2)), (3, .int (x3)), (4, .int (x4)), (5, .int (x5)), (6, .int (r.1))] [] T r.2
set_option maxHeartbeats 4000000 in
theorem tbX11_harshest_57 {X : Fx} {B : Bx} {Z : Nat × Nat × Nat × Nat} {Q : State → Prop} {d : Nat} {T : Sh} (C : Cx X B cX11_harshest 8 RX11 d Z) (hd : 3 ≤ d) {x0 : Nat} {x1 : Int32} {x2 : Int32} {x3 : Int32} {x4 : Int32} {x5 : Int32} : ∀ (s : Int32 × Int32 × Me) (o : (Int32 × Int32 × Me) ⊕ ((Int32 × Me))), bX11_harshest_57 T x0 x1 x2 x3 x4 x5 s.1 s.2.1 s.2.2 = some o → lpE (PX11_harshest_57 X B Z Q T x0 x1 x2 x3 x4 x5) (EX11_harshest_57 X B Z Q T x0 x1 x2 x3 x4 x5) o → PX11_harshest_57 X B Z Q T x0 x1 x2 x3 x4 x5 s := by
  rintro ⟨x6, x7, M⟩ o h hE
  replace h : bX11_harshest_57 T x0 x1 x2 x3 x4 x5 x6 x7 M = some o := h
  unfold bX11_harshest_57 at h
  show G X B 8 Z Q 57 [(0, .ref (x0)), (1, .int (x1)), (2, .int (x2)), (3, .int (x3)), (4, .int (x4)), (5, .int (x5)), (6, .int (x6)), (7, .int (x7))] [] T M
  refine g_iload (pc := 57) C dX11_harshest_57 7 rfl ?_
  refine g_bipush (pc := 59) (v := 16) C dX11_harshest_59 (by decide) ?_
  refine g_icmp_ge (pc := 61) (tgt := 91) C dX11_harshest_61 (by decide) (fun c16 => ?_) (fun c16 => ?_)
  · replace h := ifp c16 h
    obtain rfl := Option.some.inj h
    exact g_sub [0, 1, 2, 3, 4, 5, 6] rfl (show G X B 8 Z Q 91 [(0, .ref (x0)), (1, .int (x1)), (2, .int (x2)), (3, .int (x3)), (4, .int (x4)), (5, .int (x5)), (6, .int (x6))] [] T M from hE)
  · replace h := ifn c16 h
    refine g_iload (pc := 64) C dX11_harshest_64 6 rfl ?_
    refine g_aload_n (pc := 66) C dX11_harshest_66 rfl 0 rfl ?_
    replace h := gd_some h; obtain ⟨hk17, h⟩ := h
    refine g_get (pc := 67) (v := va_rf (gR M x0 3)) C dX11_harshest_67 kX11 hk17 3 (by decide) q_427 rfl ?_
    replace h := bnd h; obtain ⟨a18, ea18, h⟩ := h
    refine g_refq ea18 ?_
    refine g_iload_n (pc := 70) C dX11_harshest_70 rfl 1 rfl ?_
    refine g_iload (pc := 71) C dX11_harshest_71 5 rfl ?_
    refine g_iload_n (pc := 73) C dX11_harshest_73 rfl 2 rfl ?_
    refine g_iload (pc := 74) C dX11_harshest_74 7 rfl ?_
    replace h := gd_some h; obtain ⟨hk19, h⟩ := h
    replace h := bnd2 h; obtain ⟨r20, M21, h1, h⟩ := h
    refine g_callVi (pc := 76) (As := [.int (x1), .int (x5), .int (x2), .int (x7)]) (st := [.int (x6)]) C dX11_harshest_76 wX5_passing hk19 rfl (by decide) q_797 q_798 q_796 (by omega) rfl (Nat.le_of_ble_eq_true rfl) (kX5_passing (d := 2) (Nat.le_refl _) h1) ?_
    replace h := bnd h; obtain ⟨r22, h1, h⟩ := h
    refine g_callSi (pc := 79) (As := [.int (r20)]) (st := [.int (x6)]) C dX11_harshest_79 wJ6_bitCount_0f7a4 q_874 q_923 (by omega) rfl (Nat.le_of_ble_eq_true rfl) (kJ6_bitCount_0f7a4 (d := 0) (Nat.le_refl _) h1) ?_
    refine g_iadd (pc := 82) C dX11_harshest_82 ?_
    refine g_topi (fun v23 ev23 => ?_)
    replace h := lt_at ev23 h
    refine g_istore (pc := 83) (lo2 := [(6, .int (v23)), (0, .ref (x0)), (1, .int (x1)), (2, .int (x2)), (3, .int (x3)), (4, .int (x4)), (5, .int (x5)), (7, .int (x7))]) C dX11_harshest_83 (by decide) rfl ?_
    obtain ⟨v24, ev24⟩ : ∃ y : Int32, y = x7 + (1 : Int32) := ⟨_, rfl⟩
    replace h := lt_at ev24 h
    refine g_iinc (pc := 85) (v := v24) (k := 7) (lo2 := [(7, .int (v24)), (6, .int (v23)), (0, .ref (x0)), (1, .int (x1)), (2, .int (x2)), (3, .int (x3)), (4, .int (x4)), (5, .int (x5))]) C dX11_harshest_85 rfl (by rw [ev24]; rfl) (by decide) rfl ?_
    refine g_goto (pc := 88) (tgt := 57) C dX11_harshest_88 (by decide) ?_
    obtain rfl := Option.some.inj h
    exact g_sub [2, 3, 4, 5, 6, 7, 1, 0] rfl (show G X B 8 Z Q 57 [(0, .ref (x0)), (1, .int (x1)), (2, .int (x2)), (3, .int (x3)), (4, .int (x4)), (5, .int (x5)), (6, .int (v23)), (7, .int (v24))] [] T M21 from hE)
def bX11_harshest_36 (T : Sh) (x0 : Nat) (x1 : Int32) (x2 : Int32) (x3 : Int32) (x4 : Int32) (x5 : Int32) (M : Me) : Option ((Int32 × Int32 × Int32 × Me) ⊕ ((Int32 × Me))) :=
  gd (kd T x0 = 10) <| Option.bind (gR M x0 3) fun a11 => gd (kd T a11 = 4) <| Option.bind (gR M a11 0) fun a13 => gd (kd T a13 = 2) <| if (gI M a13 8) ≤ x5 then (some (.inr (x4, M))) else ((lp FU (fun s => bX11_harshest_57 T x0 x1 x2 x3 x4 x5 s.1 s.2.1 s.2.2) ((0 : Int32), (0 : Int32), M)).bind (un2 fun x6_25 M26 => if x3 ≤ x6_25 then (lt (x5 + (1 : Int32)) fun v28 => some (.inl (x3, x4, v28, M26))) else (lt (x5 + (1 : Int32)) fun v29 => some (.inl (x6_25, x5, v29, M26)))))
def PX11_harshest_36 (X : Fx) (B : Bx) (Z : Nat × Nat × Nat × Nat) (Q : State → Prop) (T : Sh) (x0 : Nat) (x1 : Int32) (x2 : Int32) (s : Int32 × Int32 × Int32 × Me) : Prop := G X B 8 Z Q 36 [(0, .ref (x0)), (1, .int (x1)), (2, .int (x2)), (3, .int (s.1)), (4, .int (s.2.1)), (5, .int (s.2.2.1))] [] T s.2.2.2
def EX11_harshest_36 (X : Fx) (B : Bx) (Z : Nat × Nat × Nat × Nat) (Q : State → Prop) (T : Sh) (x0 : Nat) (x1 : Int32) (x2 : Int32) (r : (Int32 × Me)) : Prop := G X B 8 Z Q 110 [(4, .int (r.1))] [] T r.2
set_option maxHeartbeats 4000000 in
theorem tbX11_harshest_36 {X : Fx} {B : Bx} {Z : Nat × Nat × Nat × Nat} {Q : State → Prop} {d : Nat} {T : Sh} (C : Cx X B cX11_harshest 8 RX11 d Z) (hd : 3 ≤ d) {x0 : Nat} {x1 : Int32} {x2 : Int32} : ∀ (s : Int32 × Int32 × Int32 × Me) (o : (Int32 × Int32 × Int32 × Me) ⊕ ((Int32 × Me))), bX11_harshest_36 T x0 x1 x2 s.1 s.2.1 s.2.2.1 s.2.2.2 = some o → lpE (PX11_harshest_36 X B Z Q T x0 x1 x2) (EX11_harshest_36 X B Z Q T x0 x1 x2) o → PX11_harshest_36 X B Z Q T x0 x1 x2 s := by
  rintro ⟨x3, x4, x5, M⟩ o h hE
  replace h : bX11_harshest_36 T x0 x1 x2 x3 x4 x5 M = some o := h
  unfold bX11_harshest_36 at h
  show G X B 8 Z Q 36 [(0, .ref (x0)), (1, .int (x1)), (2, .int (x2)), (3, .int (x3)), (4, .int (x4)), (5, .int (x5))] [] T M
  refine g_iload (pc := 36) C dX11_harshest_36 5 rfl ?_
  refine g_aload_n (pc := 38) C dX11_harshest_38 rfl 0 rfl ?_
  replace h := gd_some h; obtain ⟨hk10, h⟩ := h
  refine g_get (pc := 39) (v := va_rf (gR M x0 3)) C dX11_harshest_39 kX11 hk10 3 (by decide) q_427 rfl ?_
  replace h := bnd h; obtain ⟨a11, ea11, h⟩ := h
  refine g_refq ea11 ?_
  replace h := gd_some h; obtain ⟨hk12, h⟩ := h
  refine g_get (pc := 42) (v := va_rf (gR M a11 0)) C dX11_harshest_42 kX5 hk12 0 (by decide) q_288 rfl ?_
  replace h := bnd h; obtain ⟨a13, ea13, h⟩ := h
  refine g_refq ea13 ?_
  replace h := gd_some h; obtain ⟨hk14, h⟩ := h
  refine g_get (pc := 45) (v := .int (gI M a13 8)) C dX11_harshest_45 kX3 hk14 8 (by decide) q_244 rfl ?_
  refine g_icmp_ge (pc := 48) (tgt := 110) C dX11_harshest_48 (by decide) (fun c15 => ?_) (fun c15 => ?_)
  · replace h := ifp c15 h
    obtain rfl := Option.some.inj h
    exact g_sub [4] rfl (show G X B 8 Z Q 110 [(4, .int (x4))] [] T M from hE)
  · replace h := ifn c15 h
    refine g_iconst (pc := 51) (v := 0) C dX11_harshest_51 (by decide) ?_
    refine g_istore (pc := 52) (lo2 := [(6, .int ((0 : Int32))), (0, .ref (x0)), (1, .int (x1)), (2, .int (x2)), (3, .int (x3)), (4, .int (x4)), (5, .int (x5))]) C dX11_harshest_52 (by decide) rfl ?_
    refine g_iconst (pc := 54) (v := 0) C dX11_harshest_54 (by decide) ?_
    refine g_istore (pc := 55) (lo2 := [(7, .int ((0 : Int32))), (6, .int ((0 : Int32))), (0, .ref (x0)), (1, .int (x1)), (2, .int (x2)), (3, .int (x3)), (4, .int (x4)), (5, .int (x5))]) C dX11_harshest_55 (by decide) rfl ?_
    replace h := bnd2 h; obtain ⟨x6_25, M26, h1, h⟩ := h
    refine g_sub [2, 3, 4, 5, 6, 7, 1, 0] rfl ?_
    refine lp_G2 (P := PX11_harshest_57 X B _ _ T x0 x1 x2 x3 x4 x5) (E := EX11_harshest_57 X B _ _ T x0 x1 x2 x3 x4 x5) (tbX11_harshest_57 C hd) h1 ?_
    show G X B 8 _ _ 91 [(0, .ref (x0)), (1, .int (x1)), (2, .int (x2)), (3, .int (x3)), (4, .int (x4)), (5, .int (x5)), (6, .int (x6_25))] [] T M26
    refine g_iload (pc := 91) C dX11_harshest_91 6 rfl ?_
    refine g_iload_n (pc := 93) C dX11_harshest_93 rfl 3 rfl ?_
    refine g_icmp_ge (pc := 94) (tgt := 104) C dX11_harshest_94 (by decide) (fun c27 => ?_) (fun c27 => ?_)
    · replace h := ifp c27 h
      obtain ⟨v28, ev28⟩ : ∃ y : Int32, y = x5 + (1 : Int32) := ⟨_, rfl⟩
      replace h := lt_at ev28 h
      refine g_iinc (pc := 104) (v := v28) (k := 5) (lo2 := [(5, .int (v28)), (0, .ref (x0)), (1, .int (x1)), (2, .int (x2)), (3, .int (x3)), (4, .int (x4)), (6, .int (x6_25))]) C dX11_harshest_104 rfl (by rw [ev28]; rfl) (by decide) rfl ?_
      refine g_goto (pc := 107) (tgt := 36) C dX11_harshest_107 (by decide) ?_
      obtain rfl := Option.some.inj h
      exact g_sub [1, 2, 3, 4, 5, 0] rfl (show G X B 8 Z Q 36 [(0, .ref (x0)), (1, .int (x1)), (2, .int (x2)), (3, .int (x3)), (4, .int (x4)), (5, .int (v28))] [] T M26 from hE)
    · replace h := ifn c27 h
      refine g_iload (pc := 97) C dX11_harshest_97 6 rfl ?_
      refine g_istore_n (pc := 99) (lo2 := [(3, .int (x6_25)), (0, .ref (x0)), (1, .int (x1)), (2, .int (x2)), (4, .int (x4)), (5, .int (x5)), (6, .int (x6_25))]) C dX11_harshest_99 rfl (by decide) rfl ?_
      refine g_iload (pc := 100) C dX11_harshest_100 5 rfl ?_
      refine g_istore (pc := 102) (lo2 := [(4, .int (x5)), (3, .int (x6_25)), (0, .ref (x0)), (1, .int (x1)), (2, .int (x2)), (5, .int (x5)), (6, .int (x6_25))]) C dX11_harshest_102 (by decide) rfl ?_
      obtain ⟨v29, ev29⟩ : ∃ y : Int32, y = x5 + (1 : Int32) := ⟨_, rfl⟩
      replace h := lt_at ev29 h
      refine g_iinc (pc := 104) (v := v29) (k := 5) (lo2 := [(5, .int (v29)), (4, .int (x5)), (3, .int (x6_25)), (0, .ref (x0)), (1, .int (x1)), (2, .int (x2)), (6, .int (x6_25))]) C dX11_harshest_104 rfl (by rw [ev29]; rfl) (by decide) rfl ?_
      refine g_goto (pc := 107) (tgt := 36) C dX11_harshest_107 (by decide) ?_
      obtain rfl := Option.some.inj h
      exact g_sub [3, 4, 5, 2, 1, 0] rfl (show G X B 8 Z Q 36 [(0, .ref (x0)), (1, .int (x1)), (2, .int (x2)), (3, .int (x6_25)), (4, .int (x5)), (5, .int (v29))] [] T M26 from hE)
/-- EyeTrainer.harshest(I)I -/
def fX11_harshest (T : Sh) (M : Me) (x0 : Nat) (x1 : Int32) : Option (Int32 × Me) :=
  gd (kd T x0 = 10) <| Option.bind (fX11_noLane T M x0 x1) fun r2 => if r2 = 0 then (Option.bind (gR M x0 3) fun a4 => Option.bind (gR M x0 5) fun a5 => gd (kd T a5 = 7) <| gd (kd T a4 = 4) <| Option.bind (fX5_driftAt T M a4 (gI M a5 1)) <| un2 fun r8 M9 => (lp FU (fun s => bX11_harshest_36 T x0 x1 r8 s.1 s.2.1 s.2.2.1 s.2.2.2) ((385 : Int32), (-1 : Int32), (0 : Int32), M9)).bind (un2 fun x4_30 M31 => some (x4_30, M31))) else (some ((-2 : Int32), M))
set_option maxHeartbeats 4000000 in
theorem kX11_harshest {l : Launch} {B : Bx} {d : Nat} (hd : 3 ≤ d) {T : Sh} {M : Me} {x0 : Nat} {x1 : Int32} {r : Int32} {M' : Me} (h : fX11_harshest T M x0 x1 = some (r, M')) : Kt l B yX11_harshest cX11_harshest 8 (some .int) d [.ref (x0), .int (x1)] T M (some (.int r)) T M' := by
  refine kt_of wX11_harshest (Nat.le_refl _) (Nat.le_refl _) (Nat.le_of_ble_eq_true rfl) (fun X C hR hlx hin => ?_)
  subst hlx
  replace C : Cx X B cX11_harshest 8 RX11 d (tp T, sl T, tp T, sl T) := C
  unfold fX11_harshest at h
  show G X B 8 _ _ 0 [(0, .ref (x0)), (1, .int (x1))] [] T M
  refine g_aload_n (pc := 0) C dX11_harshest_0 rfl 0 rfl ?_
  refine g_iload_n (pc := 1) C dX11_harshest_1 rfl 1 rfl ?_
  replace h := gd_some h; obtain ⟨hk1, h⟩ := h
  replace h := bnd h; obtain ⟨r2, h1, h⟩ := h
  refine g_callVi (pc := 2) (As := [.int (x1)]) (st := []) C dX11_harshest_2 wX11_noLane hk1 rfl (by decide) q_769 q_20 q_767 (by omega) rfl (Nat.le_of_ble_eq_true rfl) (kX11_noLane (d := 0) (Nat.le_refl _) h1) ?_
  refine g_if_eq (pc := 5) (tgt := 11) C dX11_harshest_5 (by decide) (fun c3 => ?_) (fun c3 => ?_)
  · replace h := ifp c3 h
    refine g_aload_n (pc := 11) C dX11_harshest_11 rfl 0 rfl ?_
    refine g_get (pc := 12) (v := va_rf (gR M x0 3)) C dX11_harshest_12 kX11 hk1 3 (by decide) q_427 rfl ?_
    replace h := bnd h; obtain ⟨a4, ea4, h⟩ := h
    refine g_refq ea4 ?_
    refine g_aload_n (pc := 15) C dX11_harshest_15 rfl 0 rfl ?_
    refine g_get (pc := 16) (v := va_rf (gR M x0 5)) C dX11_harshest_16 kX11 hk1 5 (by decide) q_429 rfl ?_
    replace h := bnd h; obtain ⟨a5, ea5, h⟩ := h
    refine g_refq ea5 ?_
    replace h := gd_some h; obtain ⟨hk6, h⟩ := h
    refine g_get (pc := 19) (v := .int (gI M a5 1)) C dX11_harshest_19 kX8 hk6 1 (by decide) q_377 rfl ?_
    replace h := gd_some h; obtain ⟨hk7, h⟩ := h
    replace h := bnd2 h; obtain ⟨r8, M9, h1, h⟩ := h
    refine g_callVi (pc := 22) (As := [.int (gI M a5 1)]) (st := []) C dX11_harshest_22 wX5_driftAt hk7 rfl (by decide) q_780 q_781 q_779 (by omega) rfl (Nat.le_of_ble_eq_true rfl) (kX5_driftAt (d := 1) (Nat.le_refl _) h1) ?_
    refine g_istore_n (pc := 25) (lo2 := [(2, .int (r8)), (0, .ref (x0)), (1, .int (x1))]) C dX11_harshest_25 rfl (by decide) rfl ?_
    refine g_sipush (pc := 26) (v := 385) C dX11_harshest_26 (by decide) ?_
    refine g_istore_n (pc := 29) (lo2 := [(3, .int ((385 : Int32))), (2, .int (r8)), (0, .ref (x0)), (1, .int (x1))]) C dX11_harshest_29 rfl (by decide) rfl ?_
    refine g_iconst (pc := 30) (v := (-1)) C dX11_harshest_30 (by decide) ?_
    refine g_istore (pc := 31) (lo2 := [(4, .int ((-1 : Int32))), (3, .int ((385 : Int32))), (2, .int (r8)), (0, .ref (x0)), (1, .int (x1))]) C dX11_harshest_31 (by decide) rfl ?_
    refine g_iconst (pc := 33) (v := 0) C dX11_harshest_33 (by decide) ?_
    refine g_istore (pc := 34) (lo2 := [(5, .int ((0 : Int32))), (4, .int ((-1 : Int32))), (3, .int ((385 : Int32))), (2, .int (r8)), (0, .ref (x0)), (1, .int (x1))]) C dX11_harshest_34 (by decide) rfl ?_
    replace h := bnd2 h; obtain ⟨x4_30, M31, h1, h⟩ := h
    refine g_sub [4, 5, 3, 2, 1, 0] rfl ?_
    refine lp_G2 (P := PX11_harshest_36 X B _ _ T x0 x1 r8) (E := EX11_harshest_36 X B _ _ T x0 x1 r8) (tbX11_harshest_36 C hd) h1 ?_
    show G X B 8 _ _ 110 [(4, .int (x4_30))] [] T M31
    refine g_iload (pc := 110) C dX11_harshest_110 0 rfl ?_
    obtain ⟨rfl, rfl⟩ := Prod.mk.inj (Option.some.inj h)
    exact g_iret C hR dX11_harshest_112
  · replace h := ifn c3 h
    refine g_bipush (pc := 8) (v := (-2)) C dX11_harshest_8 (by decide) ?_
    obtain ⟨rfl, rfl⟩ := Prod.mk.inj (Option.some.inj h)
    exact g_iret C hR dX11_harshest_10
theorem dX11_tell_0 : decode cX11_tell 0 = .ok (.aload_n 0, 1) := by decide +kernel
theorem dX11_tell_1 : decode cX11_tell 1 = .ok (.iload_n 1, 1) := by decide +kernel
theorem dX11_tell_2 : decode cX11_tell 2 = .ok (.invokevirtual 107, 3) := by decide +kernel
theorem dX11_tell_5 : decode cX11_tell 5 = .ok (.ifCond .ne 12, 3) := by decide +kernel
theorem dX11_tell_8 : decode cX11_tell 8 = .ok (.iload_n 2, 1) := by decide +kernel
theorem dX11_tell_9 : decode cX11_tell 9 = .ok (.ifCond .lt 8, 3) := by decide +kernel
theorem dX11_tell_12 : decode cX11_tell 12 = .ok (.iload_n 2, 1) := by decide +kernel
theorem dX11_tell_13 : decode cX11_tell 13 = .ok (.iconst 1, 1) := by decide +kernel
theorem dX11_tell_14 : decode cX11_tell 14 = .ok (.if_icmp .le 6, 3) := by decide +kernel
theorem dX11_tell_17 : decode cX11_tell 17 = .ok (.bipush (-2), 2) := by decide +kernel
theorem dX11_tell_19 : decode cX11_tell 19 = .ok (.ireturn, 1) := by decide +kernel
theorem dX11_tell_20 : decode cX11_tell 20 = .ok (.aload_n 0, 1) := by decide +kernel
theorem dX11_tell_21 : decode cX11_tell 21 = .ok (.getfield 28, 3) := by decide +kernel
theorem dX11_tell_24 : decode cX11_tell 24 = .ok (.getfield 111, 3) := by decide +kernel
theorem dX11_tell_27 : decode cX11_tell 27 = .ok (.getfield 133, 3) := by decide +kernel
theorem dX11_tell_30 : decode cX11_tell 30 = .ok (.ifCond .ne 5, 3) := by decide +kernel
theorem dX11_tell_33 : decode cX11_tell 33 = .ok (.iconst (-1), 1) := by decide +kernel
theorem dX11_tell_34 : decode cX11_tell 34 = .ok (.ireturn, 1) := by decide +kernel
theorem dX11_tell_35 : decode cX11_tell 35 = .ok (.iconst 1, 1) := by decide +kernel
theorem dX11_tell_36 : decode cX11_tell 36 = .ok (.iconst 1, 1) := by decide +kernel
theorem dX11_tell_37 : decode cX11_tell 37 = .ok (.aload_n 0, 1) := by decide +kernel
theorem dX11_tell_38 : decode cX11_tell 38 = .ok (.getfield 28, 3) := by decide +kernel
theorem dX11_tell_41 : decode cX11_tell 41 = .ok (.getfield 111, 3) := by decide +kernel
theorem dX11_tell_44 : decode cX11_tell 44 = .ok (.getfield 133, 3) := by decide +kernel
theorem dX11_tell_47 : decode cX11_tell 47 = .ok (.ishl, 1) := by decide +kernel
theorem dX11_tell_48 : decode cX11_tell 48 = .ok (.ishl, 1) := by decide +kernel
theorem dX11_tell_49 : decode cX11_tell 49 = .ok (.iconst 1, 1) := by decide +kernel
theorem dX11_tell_50 : decode cX11_tell 50 = .ok (.isub, 1) := by decide +kernel
theorem dX11_tell_51 : decode cX11_tell 51 = .ok (.istore_n 3, 1) := by decide +kernel
theorem dX11_tell_52 : decode cX11_tell 52 = .ok (.aload_n 0, 1) := by decide +kernel
theorem dX11_tell_53 : decode cX11_tell 53 = .ok (.getfield 28, 3) := by decide +kernel
theorem dX11_tell_56 : decode cX11_tell 56 = .ok (.aload_n 0, 1) := by decide +kernel
theorem dX11_tell_57 : decode cX11_tell 57 = .ok (.getfield 42, 3) := by decide +kernel
theorem dX11_tell_60 : decode cX11_tell 60 = .ok (.getfield 151, 3) := by decide +kernel
theorem dX11_tell_63 : decode cX11_tell 63 = .ok (.invokevirtual 140, 3) := by decide +kernel
theorem dX11_tell_66 : decode cX11_tell 66 = .ok (.istore 4, 2) := by decide +kernel
theorem dX11_tell_68 : decode cX11_tell 68 = .ok (.iconst 0, 1) := by decide +kernel
theorem dX11_tell_69 : decode cX11_tell 69 = .ok (.istore 5, 2) := by decide +kernel
theorem dX11_tell_71 : decode cX11_tell 71 = .ok (.iload 5, 2) := by decide +kernel
theorem dX11_tell_73 : decode cX11_tell 73 = .ok (.bipush 16, 2) := by decide +kernel
theorem dX11_tell_75 : decode cX11_tell 75 = .ok (.if_icmp .ge 21, 3) := by decide +kernel
theorem dX11_tell_78 : decode cX11_tell 78 = .ok (.iload_n 3, 1) := by decide +kernel
theorem dX11_tell_79 : decode cX11_tell 79 = .ok (.aload_n 0, 1) := by decide +kernel
theorem dX11_tell_80 : decode cX11_tell 80 = .ok (.iload_n 1, 1) := by decide +kernel
theorem dX11_tell_81 : decode cX11_tell 81 = .ok (.iload 4, 2) := by decide +kernel
theorem dX11_tell_83 : decode cX11_tell 83 = .ok (.iload 5, 2) := by decide +kernel
theorem dX11_tell_85 : decode cX11_tell 85 = .ok (.invokevirtual 293, 3) := by decide +kernel
theorem dX11_tell_88 : decode cX11_tell 88 = .ok (.iand, 1) := by decide +kernel
theorem dX11_tell_89 : decode cX11_tell 89 = .ok (.istore_n 3, 1) := by decide +kernel
theorem dX11_tell_90 : decode cX11_tell 90 = .ok (.iinc 5 1, 3) := by decide +kernel
theorem dX11_tell_93 : decode cX11_tell 93 = .ok (.goto (-22), 3) := by decide +kernel
theorem dX11_tell_96 : decode cX11_tell 96 = .ok (.iconst 5, 1) := by decide +kernel
theorem dX11_tell_97 : decode cX11_tell 97 = .ok (.istore 5, 2) := by decide +kernel
theorem dX11_tell_99 : decode cX11_tell 99 = .ok (.iconst 0, 1) := by decide +kernel
theorem dX11_tell_100 : decode cX11_tell 100 = .ok (.istore 6, 2) := by decide +kernel
theorem dX11_tell_102 : decode cX11_tell 102 = .ok (.iconst 0, 1) := by decide +kernel
theorem dX11_tell_103 : decode cX11_tell 103 = .ok (.istore 7, 2) := by decide +kernel
theorem dX11_tell_105 : decode cX11_tell 105 = .ok (.iload 7, 2) := by decide +kernel
theorem dX11_tell_107 : decode cX11_tell 107 = .ok (.iconst 1, 1) := by decide +kernel
theorem dX11_tell_108 : decode cX11_tell 108 = .ok (.aload_n 0, 1) := by decide +kernel
theorem dX11_tell_109 : decode cX11_tell 109 = .ok (.getfield 28, 3) := by decide +kernel
theorem dX11_tell_112 : decode cX11_tell 112 = .ok (.getfield 111, 3) := by decide +kernel
theorem dX11_tell_115 : decode cX11_tell 115 = .ok (.getfield 133, 3) := by decide +kernel
theorem dX11_tell_118 : decode cX11_tell 118 = .ok (.ishl, 1) := by decide +kernel
theorem dX11_tell_119 : decode cX11_tell 119 = .ok (.if_icmp .ge 39, 3) := by decide +kernel
theorem dX11_tell_122 : decode cX11_tell 122 = .ok (.iload_n 3, 1) := by decide +kernel
theorem dX11_tell_123 : decode cX11_tell 123 = .ok (.iload 7, 2) := by decide +kernel
theorem dX11_tell_125 : decode cX11_tell 125 = .ok (.ishr, 1) := by decide +kernel
theorem dX11_tell_126 : decode cX11_tell 126 = .ok (.iconst 1, 1) := by decide +kernel
theorem dX11_tell_127 : decode cX11_tell 127 = .ok (.iand, 1) := by decide +kernel
theorem dX11_tell_128 : decode cX11_tell 128 = .ok (.ifCond .eq 24, 3) := by decide +kernel
theorem dX11_tell_131 : decode cX11_tell 131 = .ok (.iload 7, 2) := by decide +kernel
theorem dX11_tell_133 : decode cX11_tell 133 = .ok (.invokestatic 168, 3) := by decide +kernel
theorem dX11_tell_136 : decode cX11_tell 136 = .ok (.iload 5, 2) := by decide +kernel
theorem dX11_tell_138 : decode cX11_tell 138 = .ok (.if_icmp .ge 14, 3) := by decide +kernel
theorem dX11_tell_141 : decode cX11_tell 141 = .ok (.iload 7, 2) := by decide +kernel
theorem dX11_tell_143 : decode cX11_tell 143 = .ok (.invokestatic 168, 3) := by decide +kernel
theorem dX11_tell_146 : decode cX11_tell 146 = .ok (.istore 5, 2) := by decide +kernel
theorem dX11_tell_148 : decode cX11_tell 148 = .ok (.iload 7, 2) := by decide +kernel
theorem dX11_tell_150 : decode cX11_tell 150 = .ok (.istore 6, 2) := by decide +kernel
theorem dX11_tell_152 : decode cX11_tell 152 = .ok (.iinc 7 1, 3) := by decide +kernel
theorem dX11_tell_155 : decode cX11_tell 155 = .ok (.goto (-50), 3) := by decide +kernel
theorem dX11_tell_158 : decode cX11_tell 158 = .ok (.iload_n 2, 1) := by decide +kernel
theorem dX11_tell_159 : decode cX11_tell 159 = .ok (.ifCond .ne 8, 3) := by decide +kernel
theorem dX11_tell_162 : decode cX11_tell 162 = .ok (.iload 5, 2) := by decide +kernel
theorem dX11_tell_164 : decode cX11_tell 164 = .ok (.goto 5, 3) := by decide +kernel
theorem dX11_tell_167 : decode cX11_tell 167 = .ok (.iload 6, 2) := by decide +kernel
theorem dX11_tell_169 : decode cX11_tell 169 = .ok (.ireturn, 1) := by decide +kernel
theorem wX11_tell : Mw yX11_tell cX11_tell 8 (some .int) 2 := ⟨q_1070, q_120, by decide, ⟨by decide +kernel, by decide +kernel⟩, by decide +kernel, by decide +kernel⟩
-- a loop of EyeTrainer.tell at 71
def bX11_tell_71 (T : Sh) (x0 : Nat) (x1 : Int32) (x2 : Int32) (x4 : Int32) (x3 : Int32) (x5 : Int32) (M : Me) : Option ((Int32 × Int32 × Me) ⊕ ((Int32 × Me))) :=
  if (16 : Int32) ≤ x5 then (some (.inr (x3, M))) else (gd (kd T x0 = 10) <| Option.bind (fX11_tellingSets T M x0 x1 x4 x5) <| un2 fun r24 M25 => lt (x3 &&& r24) fun v26 => lt (x5 + (1 : Int32)) fun v27 => some (.inl (v26, v27, M25)))
def PX11_tell_71 (X : Fx) (B : Bx) (Z : Nat × Nat × Nat × Nat) (Q : State → Prop) (T : Sh) (x0 : Nat) (x1 : Int32) (x2 : Int32) (x4 : Int32) (s : Int32 × Int32 × Me) : Prop := G X B 8 Z Q 71 [(0, .ref (x0)), (1, .int (x1)), (2, .int (x2)), (3, .int (s.1)), (4, .int (x4)), (5, .int (s.2.1))] [] T s.2.2
def EX11_tell_71 (X : Fx) (B : Bx) (Z : Nat × Nat × Nat × Nat) (Q : State → Prop) (T : Sh) (x0 : Nat) (x1 : Int32) (x2 : Int32) (x4 : Int32) (r : (Int32 × Me)) : Prop := G X B 8 Z Q 96 [(0, .ref (x0)), (2, .int (x2)), (3, .int (r.1))] [] T r.2
set_option maxHeartbeats 4000000 in
theorem tbX11_tell_71 {X : Fx} {B : Bx} {Z : Nat × Nat × Nat × Nat} {Q : State → Prop} {d : Nat} {T : Sh} (C : Cx X B cX11_tell 8 RX11 d Z) (hd : 4 ≤ d) {x0 : Nat} {x1 : Int32} {x2 : Int32} {x4 : Int32} : ∀ (s : Int32 × Int32 × Me) (o : (Int32 × Int32 × Me) ⊕ ((Int32 × Me))), bX11_tell_71 T x0 x1 x2 x4 s.1 s.2.1 s.2.2 = some o → lpE (PX11_tell_71 X B Z Q T x0 x1 x2 x4) (EX11_tell_71 X B Z Q T x0 x1 x2 x4) o → PX11_tell_71 X B Z Q T x0 x1 x2 x4 s := by
  rintro ⟨x3, x5, M⟩ o h hE
  replace h : bX11_tell_71 T x0 x1 x2 x4 x3 x5 M = some o := h
  unfold bX11_tell_71 at h
  show G X B 8 Z Q 71 [(0, .ref (x0)), (1, .int (x1)), (2, .int (x2)), (3, .int (x3)), (4, .int (x4)), (5, .int (x5))] [] T M
  refine g_iload (pc := 71) C dX11_tell_71 5 rfl ?_
  refine g_bipush (pc := 73) (v := 16) C dX11_tell_73 (by decide) ?_
  refine g_icmp_ge (pc := 75) (tgt := 96) C dX11_tell_75 (by decide) (fun c22 => ?_) (fun c22 => ?_)
  · replace h := ifp c22 h
    obtain rfl := Option.some.inj h
    exact g_sub [0, 2, 3] rfl (show G X B 8 Z Q 96 [(0, .ref (x0)), (2, .int (x2)), (3, .int (x3))] [] T M from hE)
  · replace h := ifn c22 h
    refine g_iload_n (pc := 78) C dX11_tell_78 rfl 3 rfl ?_
    refine g_aload_n (pc := 79) C dX11_tell_79 rfl 0 rfl ?_
    refine g_iload_n (pc := 80) C dX11_tell_80 rfl 1 rfl ?_
    refine g_iload (pc := 81) C dX11_tell_81 4 rfl ?_
    refine g_iload (pc := 83) C dX11_tell_83 5 rfl ?_
    replace h := gd_some h; obtain ⟨hk23, h⟩ := h
    replace h := bnd2 h; obtain ⟨r24, M25, h1, h⟩ := h
    refine g_callVi (pc := 85) (As := [.int (x1), .int (x4), .int (x5)]) (st := [.int (x3)]) C dX11_tell_85 wX11_tellingSets hk23 rfl (by decide) q_1073 q_42 q_1071 (by omega) rfl (Nat.le_of_ble_eq_true rfl) (kX11_tellingSets (d := 3) (Nat.le_refl _) h1) ?_
    refine g_iand (pc := 88) C dX11_tell_88 ?_
    refine g_topi (fun v26 ev26 => ?_)
    replace h := lt_at ev26 h
    refine g_istore_n (pc := 89) (lo2 := [(3, .int (v26)), (0, .ref (x0)), (1, .int (x1)), (2, .int (x2)), (4, .int (x4)), (5, .int (x5))]) C dX11_tell_89 rfl (by decide) rfl ?_
    obtain ⟨v27, ev27⟩ : ∃ y : Int32, y = x5 + (1 : Int32) := ⟨_, rfl⟩
    replace h := lt_at ev27 h
    refine g_iinc (pc := 90) (v := v27) (k := 5) (lo2 := [(5, .int (v27)), (3, .int (v26)), (0, .ref (x0)), (1, .int (x1)), (2, .int (x2)), (4, .int (x4))]) C dX11_tell_90 rfl (by rw [ev27]; rfl) (by decide) rfl ?_
    refine g_goto (pc := 93) (tgt := 71) C dX11_tell_93 (by decide) ?_
    obtain rfl := Option.some.inj h
    exact g_sub [2, 3, 4, 1, 5, 0] rfl (show G X B 8 Z Q 71 [(0, .ref (x0)), (1, .int (x1)), (2, .int (x2)), (3, .int (v26)), (4, .int (x4)), (5, .int (v27))] [] T M25 from hE)
-- a loop of EyeTrainer.tell at 105
def bX11_tell_105 (T : Sh) (M : Me) (x0 : Nat) (x2 : Int32) (x3 : Int32) (x5 : Int32) (x6 : Int32) (x7 : Int32) : Option ((Int32 × Int32 × Int32) ⊕ ((Int32 × Int32))) :=
  gd (kd T x0 = 10) <| Option.bind (gR M x0 3) fun a31 => gd (kd T a31 = 4) <| Option.bind (gR M a31 0) fun a33 => gd (kd T a33 = 2) <| if ((1 : Int32) <<< ((gI M a33 8) &&& 31)) ≤ x7 then (some (.inr (x5, x6))) else (if ((x3 >>> (x7 &&& 31)) &&& (1 : Int32)) = 0 then (lt (x7 + (1 : Int32)) fun v37 => some (.inl (x5, x6, v37))) else (Option.bind (fJ6_bitCount_0f7a4 x7) fun r38 => if x5 ≤ r38 then (lt (x7 + (1 : Int32)) fun v40 => some (.inl (x5, x6, v40))) else (Option.bind (fJ6_bitCount_0f7a4 x7) fun r41 => lt (x7 + (1 : Int32)) fun v42 => some (.inl (r41, x7, v42)))))
def PX11_tell_105 (X : Fx) (B : Bx) (Z : Nat × Nat × Nat × Nat) (Q : State → Prop) (T : Sh) (M : Me) (x0 : Nat) (x2 : Int32) (x3 : Int32) (s : Int32 × Int32 × Int32) : Prop := G X B 8 Z Q 105 [(0, .ref (x0)), (2, .int (x2)), (3, .int (x3)), (5, .int (s.1)), (6, .int (s.2.1)), (7, .int (s.2.2))] [] T M
def EX11_tell_105 (X : Fx) (B : Bx) (Z : Nat × Nat × Nat × Nat) (Q : State → Prop) (T : Sh) (M : Me) (x0 : Nat) (x2 : Int32) (x3 : Int32) (r : (Int32 × Int32)) : Prop := G X B 8 Z Q 158 [(2, .int (x2)), (5, .int (r.1)), (6, .int (r.2))] [] T M
set_option maxHeartbeats 4000000 in
theorem tbX11_tell_105 {X : Fx} {B : Bx} {Z : Nat × Nat × Nat × Nat} {Q : State → Prop} {d : Nat} {T : Sh} {M : Me} (C : Cx X B cX11_tell 8 RX11 d Z) (hd : 4 ≤ d) {x0 : Nat} {x2 : Int32} {x3 : Int32} : ∀ (s : Int32 × Int32 × Int32) (o : (Int32 × Int32 × Int32) ⊕ ((Int32 × Int32))), bX11_tell_105 T M x0 x2 x3 s.1 s.2.1 s.2.2 = some o → lpE (PX11_tell_105 X B Z Q T M x0 x2 x3) (EX11_tell_105 X B Z Q T M x0 x2 x3) o → PX11_tell_105 X B Z Q T M x0 x2 x3 s := by
  rintro ⟨x5, x6, x7⟩ o h hE
  replace h : bX11_tell_105 T M x0 x2 x3 x5 x6 x7 = some o := h
  unfold bX11_tell_105 at h
  show G X B 8 Z Q 105 [(0, .ref (x0)), (2, .int (x2)), (3, .int (x3)), (5, .int (x5)), (6, .int (x6)), (7, .int (x7))] [] T M
  refine g_iload (pc := 105) C dX11_tell_105 5 rfl ?_
  refine g_iconst (pc := 107) (v := 1) C dX11_tell_107 (by decide) ?_
  refine g_aload_n (pc := 108) C dX11_tell_108 rfl 0 rfl ?_
  replace h := gd_some h; obtain ⟨hk30, h⟩ := h
  refine g_get (pc := 109) (v := va_rf (gR M x0 3)) C dX11_tell_109 kX11 hk30 3 (by decide) q_427 rfl ?_
  replace h := bnd h; obtain ⟨a31, ea31, h⟩ := h
  refine g_refq ea31 ?_
  replace h := gd_some h; obtain ⟨hk32, h⟩ := h
  refine g_get (pc := 112) (v := va_rf (gR M a31 0)) C dX11_tell_112 kX5 hk32 0 (by decide) q_288 rfl ?_
  replace h := bnd h; obtain ⟨a33, ea33, h⟩ := h
  refine g_refq ea33 ?_
  replace h := gd_some h; obtain ⟨hk34, h⟩ := h
  refine g_get (pc := 115) (v := .int (gI M a33 8)) C dX11_tell_115 kX3 hk34 8 (by decide) q_244 rfl ?_
  refine g_ishl (pc := 118) C dX11_tell_118 ?_
  refine g_icmp_ge (pc := 119) (tgt := 158) C dX11_tell_119 (by decide) (fun c35 => ?_) (fun c35 => ?_)
  · replace h := ifp c35 h
    obtain rfl := Option.some.inj h
    exact g_sub [1, 3, 4] rfl (show G X B 8 Z Q 158 [(2, .int (x2)), (5, .int (x5)), (6, .int (x6))] [] T M from hE)
  · replace h := ifn c35 h
    refine g_iload_n (pc := 122) C dX11_tell_122 rfl 2 rfl ?_
    refine g_iload (pc := 123) C dX11_tell_123 5 rfl ?_
    refine g_ishr (pc := 125) C dX11_tell_125 ?_
    refine g_iconst (pc := 126) (v := 1) C dX11_tell_126 (by decide) ?_
    refine g_iand (pc := 127) C dX11_tell_127 ?_
    refine g_if_eq (pc := 128) (tgt := 152) C dX11_tell_128 (by decide) (fun c36 => ?_) (fun c36 => ?_)
    · replace h := ifp c36 h
      obtain ⟨v37, ev37⟩ : ∃ y : Int32, y = x7 + (1 : Int32) := ⟨_, rfl⟩
      replace h := lt_at ev37 h
      refine g_iinc (pc := 152) (v := v37) (k := 5) (lo2 := [(7, .int (v37)), (0, .ref (x0)), (2, .int (x2)), (3, .int (x3)), (5, .int (x5)), (6, .int (x6))]) C dX11_tell_152 rfl (by rw [ev37]; rfl) (by decide) rfl ?_
      refine g_goto (pc := 155) (tgt := 105) C dX11_tell_155 (by decide) ?_
      obtain rfl := Option.some.inj h
      exact g_sub [1, 2, 3, 4, 5, 0] rfl (show G X B 8 Z Q 105 [(0, .ref (x0)), (2, .int (x2)), (3, .int (x3)), (5, .int (x5)), (6, .int (x6)), (7, .int (v37))] [] T M from hE)
    · replace h := ifn c36 h
      refine g_iload (pc := 131) C dX11_tell_131 5 rfl ?_
      replace h := bnd h; obtain ⟨r38, h1, h⟩ := h
      refine g_callSi (pc := 133) (As := [.int (x7)]) (st := []) C dX11_tell_133 wJ6_bitCount_0f7a4 q_874 q_923 (by omega) rfl (Nat.le_of_ble_eq_true rfl) (kJ6_bitCount_0f7a4 (d := 0) (Nat.le_refl _) h1) ?_
      refine g_iload (pc := 136) C dX11_tell_136 3 rfl ?_
      refine g_icmp_ge (pc := 138) (tgt := 152) C dX11_tell_138 (by decide) (fun c39 => ?_) (fun c39 => ?_)
      · replace h := ifp c39 h
        obtain ⟨v40, ev40⟩ : ∃ y : Int32, y = x7 + (1 : Int32) := ⟨_, rfl⟩
        replace h := lt_at ev40 h
        refine g_iinc (pc := 152) (v := v40) (k := 5) (lo2 := [(7, .int (v40)), (0, .ref (x0)), (2, .int (x2)), (3, .int (x3)), (5, .int (x5)), (6, .int (x6))]) C dX11_tell_152 rfl (by rw [ev40]; rfl) (by decide) rfl ?_
        refine g_goto (pc := 155) (tgt := 105) C dX11_tell_155 (by decide) ?_
        obtain rfl := Option.some.inj h
        exact g_sub [1, 2, 3, 4, 5, 0] rfl (show G X B 8 Z Q 105 [(0, .ref (x0)), (2, .int (x2)), (3, .int (x3)), (5, .int (x5)), (6, .int (x6)), (7, .int (v40))] [] T M from hE)
      · replace h := ifn c39 h
        refine g_iload (pc := 141) C dX11_tell_141 5 rfl ?_
        replace h := bnd h; obtain ⟨r41, h1, h⟩ := h
        refine g_callSi (pc := 143) (As := [.int (x7)]) (st := []) C dX11_tell_143 wJ6_bitCount_0f7a4 q_874 q_923 (by omega) rfl (Nat.le_of_ble_eq_true rfl) (kJ6_bitCount_0f7a4 (d := 0) (Nat.le_refl _) h1) ?_
        refine g_istore (pc := 146) (lo2 := [(5, .int (r41)), (0, .ref (x0)), (2, .int (x2)), (3, .int (x3)), (6, .int (x6)), (7, .int (x7))]) C dX11_tell_146 (by decide) rfl ?_
        refine g_iload (pc := 148) C dX11_tell_148 5 rfl ?_
        refine g_istore (pc := 150) (lo2 := [(6, .int (x7)), (5, .int (r41)), (0, .ref (x0)), (2, .int (x2)), (3, .int (x3)), (7, .int (x7))]) C dX11_tell_150 (by decide) rfl ?_
        obtain ⟨v42, ev42⟩ : ∃ y : Int32, y = x7 + (1 : Int32) := ⟨_, rfl⟩
        replace h := lt_at ev42 h
        refine g_iinc (pc := 152) (v := v42) (k := 5) (lo2 := [(7, .int (v42)), (6, .int (x7)), (5, .int (r41)), (0, .ref (x0)), (2, .int (x2)), (3, .int (x3))]) C dX11_tell_152 rfl (by rw [ev42]; rfl) (by decide) rfl ?_
        refine g_goto (pc := 155) (tgt := 105) C dX11_tell_155 (by decide) ?_
        obtain rfl := Option.some.inj h
        exact g_sub [3, 4, 5, 2, 1, 0] rfl (show G X B 8 Z Q 105 [(0, .ref (x0)), (2, .int (x2)), (3, .int (x3)), (5, .int (r41)), (6, .int (x7)), (7, .int (v42))] [] T M from hE)
/-- EyeTrainer.tell(II)I -/
def fX11_tell (T : Sh) (M : Me) (x0 : Nat) (x1 : Int32) (x2 : Int32) : Option (Int32 × Me) :=
  gd (kd T x0 = 10) <| Option.bind (fX11_noLane T M x0 x1) fun r2 => if r2 = 0 then (if x2 < 0 then (some ((-2 : Int32), M)) else (if x2 ≤ (1 : Int32) then (Option.bind (gR M x0 3) fun a6 => gd (kd T a6 = 4) <| Option.bind (gR M a6 0) fun a8 => gd (kd T a8 = 2) <| if (gI M a8 8) = 0 then (some ((-1 : Int32), M)) else (Option.bind (gR M x0 3) fun a11 => gd (kd T a11 = 4) <| Option.bind (gR M a11 0) fun a13 => gd (kd T a13 = 2) <| lt (((1 : Int32) <<< (((1 : Int32) <<< ((gI M a13 8) &&& 31)) &&& 31)) - (1 : Int32)) fun v15 => Option.bind (gR M x0 3) fun a16 => Option.bind (gR M x0 5) fun a17 => gd (kd T a17 = 7) <| gd (kd T a16 = 4) <| Option.bind (fX5_driftAt T M a16 (gI M a17 1)) <| un2 fun r20 M21 => (lp FU (fun s => bX11_tell_71 T x0 x1 x2 r20 s.1 s.2.1 s.2.2) (v15, (0 : Int32), M21)).bind (un2 fun x3_28 M29 => (lp FU (fun s => bX11_tell_105 T M29 x0 x2 x3_28 s.1 s.2.1 s.2.2) ((5 : Int32), (0 : Int32), (0 : Int32))).bind (un2 fun x5_43 x6_44 => if x2 = 0 then (some (x5_43, M29)) else (some (x6_44, M29)))))) else (some ((-2 : Int32), M)))) else (some ((-2 : Int32), M))
set_option maxHeartbeats 4000000 in
theorem kX11_tell {l : Launch} {B : Bx} {d : Nat} (hd : 4 ≤ d) {T : Sh} {M : Me} {x0 : Nat} {x1 : Int32} {x2 : Int32} {r : Int32} {M' : Me} (h : fX11_tell T M x0 x1 x2 = some (r, M')) : Kt l B yX11_tell cX11_tell 8 (some .int) d [.ref (x0), .int (x1), .int (x2)] T M (some (.int r)) T M' := by
  refine kt_of wX11_tell (Nat.le_refl _) (Nat.le_refl _) (Nat.le_of_ble_eq_true rfl) (fun X C hR hlx hin => ?_)
  subst hlx
  replace C : Cx X B cX11_tell 8 RX11 d (tp T, sl T, tp T, sl T) := C
  unfold fX11_tell at h
  show G X B 8 _ _ 0 [(0, .ref (x0)), (1, .int (x1)), (2, .int (x2))] [] T M
  refine g_aload_n (pc := 0) C dX11_tell_0 rfl 0 rfl ?_
  refine g_iload_n (pc := 1) C dX11_tell_1 rfl 1 rfl ?_
  replace h := gd_some h; obtain ⟨hk1, h⟩ := h
  replace h := bnd h; obtain ⟨r2, h1, h⟩ := h
  refine g_callVi (pc := 2) (As := [.int (x1)]) (st := []) C dX11_tell_2 wX11_noLane hk1 rfl (by decide) q_769 q_20 q_767 (by omega) rfl (Nat.le_of_ble_eq_true rfl) (kX11_noLane (d := 0) (Nat.le_refl _) h1) ?_
  refine g_if_ne (pc := 5) (tgt := 17) C dX11_tell_5 (by decide) (fun c3 => ?_) (fun c3 => ?_)
  · replace h := ifn c3 h
    refine g_bipush (pc := 17) (v := (-2)) C dX11_tell_17 (by decide) ?_
    obtain ⟨rfl, rfl⟩ := Prod.mk.inj (Option.some.inj h)
    exact g_iret C hR dX11_tell_19
  · replace h := ifp c3 h
    refine g_iload_n (pc := 8) C dX11_tell_8 rfl 2 rfl ?_
    refine g_if_lt (pc := 9) (tgt := 17) C dX11_tell_9 (by decide) (fun c4 => ?_) (fun c4 => ?_)
    · replace h := ifp c4 h
      refine g_bipush (pc := 17) (v := (-2)) C dX11_tell_17 (by decide) ?_
      obtain ⟨rfl, rfl⟩ := Prod.mk.inj (Option.some.inj h)
      exact g_iret C hR dX11_tell_19
    · replace h := ifn c4 h
      refine g_iload_n (pc := 12) C dX11_tell_12 rfl 2 rfl ?_
      refine g_iconst (pc := 13) (v := 1) C dX11_tell_13 (by decide) ?_
      refine g_icmp_le (pc := 14) (tgt := 20) C dX11_tell_14 (by decide) (fun c5 => ?_) (fun c5 => ?_)
      · replace h := ifp c5 h
        refine g_aload_n (pc := 20) C dX11_tell_20 rfl 0 rfl ?_
        refine g_get (pc := 21) (v := va_rf (gR M x0 3)) C dX11_tell_21 kX11 hk1 3 (by decide) q_427 rfl ?_
        replace h := bnd h; obtain ⟨a6, ea6, h⟩ := h
        refine g_refq ea6 ?_
        replace h := gd_some h; obtain ⟨hk7, h⟩ := h
        refine g_get (pc := 24) (v := va_rf (gR M a6 0)) C dX11_tell_24 kX5 hk7 0 (by decide) q_288 rfl ?_
        replace h := bnd h; obtain ⟨a8, ea8, h⟩ := h
        refine g_refq ea8 ?_
        replace h := gd_some h; obtain ⟨hk9, h⟩ := h
        refine g_get (pc := 27) (v := .int (gI M a8 8)) C dX11_tell_27 kX3 hk9 8 (by decide) q_244 rfl ?_
        refine g_if_ne (pc := 30) (tgt := 35) C dX11_tell_30 (by decide) (fun c10 => ?_) (fun c10 => ?_)
        · replace h := ifn c10 h
          refine g_iconst (pc := 35) (v := 1) C dX11_tell_35 (by decide) ?_
          refine g_iconst (pc := 36) (v := 1) C dX11_tell_36 (by decide) ?_
          refine g_aload_n (pc := 37) C dX11_tell_37 rfl 0 rfl ?_
          refine g_get (pc := 38) (v := va_rf (gR M x0 3)) C dX11_tell_38 kX11 hk1 3 (by decide) q_427 rfl ?_
          replace h := bnd h; obtain ⟨a11, ea11, h⟩ := h
          refine g_refq ea11 ?_
          replace h := gd_some h; obtain ⟨hk12, h⟩ := h
          refine g_get (pc := 41) (v := va_rf (gR M a11 0)) C dX11_tell_41 kX5 hk12 0 (by decide) q_288 rfl ?_
          replace h := bnd h; obtain ⟨a13, ea13, h⟩ := h
          refine g_refq ea13 ?_
          replace h := gd_some h; obtain ⟨hk14, h⟩ := h
          refine g_get (pc := 44) (v := .int (gI M a13 8)) C dX11_tell_44 kX3 hk14 8 (by decide) q_244 rfl ?_
          refine g_ishl (pc := 47) C dX11_tell_47 ?_
          refine g_ishl (pc := 48) C dX11_tell_48 ?_
          refine g_iconst (pc := 49) (v := 1) C dX11_tell_49 (by decide) ?_
          refine g_isub (pc := 50) C dX11_tell_50 ?_
          refine g_topi (fun v15 ev15 => ?_)
          replace h := lt_at ev15 h
          refine g_istore_n (pc := 51) (lo2 := [(3, .int (v15)), (0, .ref (x0)), (1, .int (x1)), (2, .int (x2))]) C dX11_tell_51 rfl (by decide) rfl ?_
          refine g_aload_n (pc := 52) C dX11_tell_52 rfl 1 rfl ?_
          refine g_get (pc := 53) (v := va_rf (gR M x0 3)) C dX11_tell_53 kX11 hk1 3 (by decide) q_427 rfl ?_
          replace h := bnd h; obtain ⟨a16, ea16, h⟩ := h
          refine g_refq ea16 ?_
          refine g_aload_n (pc := 56) C dX11_tell_56 rfl 1 rfl ?_
          refine g_get (pc := 57) (v := va_rf (gR M x0 5)) C dX11_tell_57 kX11 hk1 5 (by decide) q_429 rfl ?_
          replace h := bnd h; obtain ⟨a17, ea17, h⟩ := h
          refine g_refq ea17 ?_
          replace h := gd_some h; obtain ⟨hk18, h⟩ := h
          refine g_get (pc := 60) (v := .int (gI M a17 1)) C dX11_tell_60 kX8 hk18 1 (by decide) q_377 rfl ?_
          replace h := gd_some h; obtain ⟨hk19, h⟩ := h
          replace h := bnd2 h; obtain ⟨r20, M21, h1, h⟩ := h
          refine g_callVi (pc := 63) (As := [.int (gI M a17 1)]) (st := []) C dX11_tell_63 wX5_driftAt hk19 rfl (by decide) q_780 q_781 q_779 (by omega) rfl (Nat.le_of_ble_eq_true rfl) (kX5_driftAt (d := 1) (Nat.le_refl _) h1) ?_
          refine g_istore (pc := 66) (lo2 := [(4, .int (r20)), (3, .int (v15)), (0, .ref (x0)), (1, .int (x1)), (2, .int (x2))]) C dX11_tell_66 (by decide) rfl ?_
          refine g_iconst (pc := 68) (v := 0) C dX11_tell_68 (by decide) ?_
          refine g_istore (pc := 69) (lo2 := [(5, .int ((0 : Int32))), (4, .int (r20)), (3, .int (v15)), (0, .ref (x0)), (1, .int (x1)), (2, .int (x2))]) C dX11_tell_69 (by decide) rfl ?_
          replace h := bnd2 h; obtain ⟨x3_28, M29, h1, h⟩ := h
          refine g_sub [3, 4, 5, 2, 1, 0] rfl ?_
          refine lp_G2 (P := PX11_tell_71 X B _ _ T x0 x1 x2 r20) (E := EX11_tell_71 X B _ _ T x0 x1 x2 r20) (tbX11_tell_71 C hd) h1 ?_
          show G X B 8 _ _ 96 [(0, .ref (x0)), (2, .int (x2)), (3, .int (x3_28))] [] T M29
          refine g_iconst (pc := 96) (v := 5) C dX11_tell_96 (by decide) ?_
          refine g_istore (pc := 97) (lo2 := [(5, .int ((5 : Int32))), (0, .ref (x0)), (2, .int (x2)), (3, .int (x3_28))]) C dX11_tell_97 (by decide) rfl ?_
          refine g_iconst (pc := 99) (v := 0) C dX11_tell_99 (by decide) ?_
          refine g_istore (pc := 100) (lo2 := [(6, .int ((0 : Int32))), (5, .int ((5 : Int32))), (0, .ref (x0)), (2, .int (x2)), (3, .int (x3_28))]) C dX11_tell_100 (by decide) rfl ?_
          refine g_iconst (pc := 102) (v := 0) C dX11_tell_102 (by decide) ?_
          refine g_istore (pc := 103) (lo2 := [(7, .int ((0 : Int32))), (6, .int ((0 : Int32))), (5, .int ((5 : Int32))), (0, .ref (x0)), (2, .int (x2)), (3, .int (x3_28))]) C dX11_tell_103 (by decide) rfl ?_
          replace h := bnd2 h; obtain ⟨x5_43, x6_44, h1, h⟩ := h
          refine g_sub [3, 4, 5, 2, 1, 0] rfl ?_
          refine lp_G2 (P := PX11_tell_105 X B _ _ T M29 x0 x2 x3_28) (E := EX11_tell_105 X B _ _ T M29 x0 x2 x3_28) (tbX11_tell_105 C hd) h1 ?_
          show G X B 8 _ _ 158 [(2, .int (x2)), (5, .int (x5_43)), (6, .int (x6_44))] [] T M29
          refine g_iload_n (pc := 158) C dX11_tell_158 rfl 0 rfl ?_
          refine g_if_ne (pc := 159) (tgt := 167) C dX11_tell_159 (by decide) (fun c45 => ?_) (fun c45 => ?_)
          · replace h := ifn c45 h
            refine g_iload (pc := 167) C dX11_tell_167 2 rfl ?_
            obtain ⟨rfl, rfl⟩ := Prod.mk.inj (Option.some.inj h)
            exact g_iret C hR dX11_tell_169
          · replace h := ifp c45 h
            refine g_iload (pc := 162) C dX11_tell_162 1 rfl ?_
            refine g_goto (pc := 164) (tgt := 169) C dX11_tell_164 (by decide) ?_
            obtain ⟨rfl, rfl⟩ := Prod.mk.inj (Option.some.inj h)
            exact g_iret C hR dX11_tell_169
        · replace h := ifp c10 h
          refine g_iconst (pc := 33) (v := (-1)) C dX11_tell_33 (by decide) ?_
          obtain ⟨rfl, rfl⟩ := Prod.mk.inj (Option.some.inj h)
          exact g_iret C hR dX11_tell_34
      · replace h := ifn c5 h
        refine g_bipush (pc := 17) (v := (-2)) C dX11_tell_17 (by decide) ?_
        obtain ⟨rfl, rfl⟩ := Prod.mk.inj (Option.some.inj h)
        exact g_iret C hR dX11_tell_19
theorem dX11_later_0 : decode cX11_later 0 = .ok (.aload_n 0, 1) := by decide +kernel
theorem dX11_later_1 : decode cX11_later 1 = .ok (.iload_n 1, 1) := by decide +kernel
theorem dX11_later_2 : decode cX11_later 2 = .ok (.invokevirtual 107, 3) := by decide +kernel
theorem dX11_later_5 : decode cX11_later 5 = .ok (.ifCond .eq 6, 3) := by decide +kernel
theorem dX11_later_8 : decode cX11_later 8 = .ok (.bipush (-2), 2) := by decide +kernel
theorem dX11_later_10 : decode cX11_later 10 = .ok (.ireturn, 1) := by decide +kernel
theorem dX11_later_11 : decode cX11_later 11 = .ok (.iload_n 2, 1) := by decide +kernel
theorem dX11_later_12 : decode cX11_later 12 = .ok (.ifCond .lt 10, 3) := by decide +kernel
theorem dX11_later_15 : decode cX11_later 15 = .ok (.iload_n 2, 1) := by decide +kernel
theorem dX11_later_16 : decode cX11_later 16 = .ok (.sipush 999, 3) := by decide +kernel
theorem dX11_later_19 : decode cX11_later 19 = .ok (.if_icmp .le 6, 3) := by decide +kernel
theorem dX11_later_22 : decode cX11_later 22 = .ok (.bipush (-3), 2) := by decide +kernel
theorem dX11_later_24 : decode cX11_later 24 = .ok (.ireturn, 1) := by decide +kernel
theorem dX11_later_25 : decode cX11_later 25 = .ok (.aload_n 0, 1) := by decide +kernel
theorem dX11_later_26 : decode cX11_later 26 = .ok (.iload_n 1, 1) := by decide +kernel
theorem dX11_later_27 : decode cX11_later 27 = .ok (.iload_n 2, 1) := by decide +kernel
theorem dX11_later_28 : decode cX11_later 28 = .ok (.invokevirtual 296, 3) := by decide +kernel
theorem dX11_later_31 : decode cX11_later 31 = .ok (.ifCond .eq 7, 3) := by decide +kernel
theorem dX11_later_34 : decode cX11_later 34 = .ok (.iconst 1, 1) := by decide +kernel
theorem dX11_later_35 : decode cX11_later 35 = .ok (.goto 4, 3) := by decide +kernel
theorem dX11_later_38 : decode cX11_later 38 = .ok (.iconst 0, 1) := by decide +kernel
theorem dX11_later_39 : decode cX11_later 39 = .ok (.ireturn, 1) := by decide +kernel
theorem wX11_later : Mw yX11_later cX11_later 3 (some .int) 2 := ⟨q_1078, q_120, by decide, ⟨by decide +kernel, by decide +kernel⟩, by decide +kernel, by decide +kernel⟩
/-- EyeTrainer.later(II)I -/
def fX11_later (T : Sh) (M : Me) (x0 : Nat) (x1 : Int32) (x2 : Int32) : Option (Int32 × Me) :=
  gd (kd T x0 = 10) <| Option.bind (fX11_noLane T M x0 x1) fun r2 => if r2 = 0 then (if x2 < 0 then (some ((-3 : Int32), M)) else (if x2 ≤ (999 : Int32) then (Option.bind (fX11_passesLater T M x0 x1 x2) <| un2 fun r6 M7 => if r6 = 0 then (some ((0 : Int32), M7)) else (some ((1 : Int32), M7))) else (some ((-3 : Int32), M)))) else (some ((-2 : Int32), M))
set_option maxHeartbeats 4000000 in
theorem kX11_later {l : Launch} {B : Bx} {d : Nat} (hd : 4 ≤ d) {T : Sh} {M : Me} {x0 : Nat} {x1 : Int32} {x2 : Int32} {r : Int32} {M' : Me} (h : fX11_later T M x0 x1 x2 = some (r, M')) : Kt l B yX11_later cX11_later 3 (some .int) d [.ref (x0), .int (x1), .int (x2)] T M (some (.int r)) T M' := by
  refine kt_of wX11_later (Nat.le_refl _) (Nat.le_refl _) (Nat.le_of_ble_eq_true rfl) (fun X C hR hlx hin => ?_)
  subst hlx
  replace C : Cx X B cX11_later 3 RX11 d (tp T, sl T, tp T, sl T) := C
  unfold fX11_later at h
  show G X B 3 _ _ 0 [(0, .ref (x0)), (1, .int (x1)), (2, .int (x2))] [] T M
  refine g_aload_n (pc := 0) C dX11_later_0 rfl 0 rfl ?_
  refine g_iload_n (pc := 1) C dX11_later_1 rfl 1 rfl ?_
  replace h := gd_some h; obtain ⟨hk1, h⟩ := h
  replace h := bnd h; obtain ⟨r2, h1, h⟩ := h
  refine g_callVi (pc := 2) (As := [.int (x1)]) (st := []) C dX11_later_2 wX11_noLane hk1 rfl (by decide) q_769 q_20 q_767 (by omega) rfl (Nat.le_of_ble_eq_true rfl) (kX11_noLane (d := 0) (Nat.le_refl _) h1) ?_
  refine g_if_eq (pc := 5) (tgt := 11) C dX11_later_5 (by decide) (fun c3 => ?_) (fun c3 => ?_)
  · replace h := ifp c3 h
    refine g_iload_n (pc := 11) C dX11_later_11 rfl 2 rfl ?_
    refine g_if_lt (pc := 12) (tgt := 22) C dX11_later_12 (by decide) (fun c4 => ?_) (fun c4 => ?_)
    · replace h := ifp c4 h
      refine g_bipush (pc := 22) (v := (-3)) C dX11_later_22 (by decide) ?_
      obtain ⟨rfl, rfl⟩ := Prod.mk.inj (Option.some.inj h)
      exact g_iret C hR dX11_later_24
    · replace h := ifn c4 h
      refine g_iload_n (pc := 15) C dX11_later_15 rfl 2 rfl ?_
      refine g_sipush (pc := 16) (v := 999) C dX11_later_16 (by decide) ?_
      refine g_icmp_le (pc := 19) (tgt := 25) C dX11_later_19 (by decide) (fun c5 => ?_) (fun c5 => ?_)
      · replace h := ifp c5 h
        refine g_aload_n (pc := 25) C dX11_later_25 rfl 0 rfl ?_
        refine g_iload_n (pc := 26) C dX11_later_26 rfl 1 rfl ?_
        refine g_iload_n (pc := 27) C dX11_later_27 rfl 2 rfl ?_
        replace h := bnd2 h; obtain ⟨r6, M7, h1, h⟩ := h
        refine g_callVi (pc := 28) (As := [.int (x1), .int (x2)]) (st := []) C dX11_later_28 wX11_passesLater hk1 rfl (by decide) q_777 q_22 q_775 (by omega) rfl (Nat.le_of_ble_eq_true rfl) (kX11_passesLater (d := 3) (Nat.le_refl _) h1) ?_
        refine g_if_eq (pc := 31) (tgt := 38) C dX11_later_31 (by decide) (fun c8 => ?_) (fun c8 => ?_)
        · replace h := ifp c8 h
          refine g_iconst (pc := 38) (v := 0) C dX11_later_38 (by decide) ?_
          obtain ⟨rfl, rfl⟩ := Prod.mk.inj (Option.some.inj h)
          exact g_iret C hR dX11_later_39
        · replace h := ifn c8 h
          refine g_iconst (pc := 34) (v := 1) C dX11_later_34 (by decide) ?_
          refine g_goto (pc := 35) (tgt := 39) C dX11_later_35 (by decide) ?_
          obtain ⟨rfl, rfl⟩ := Prod.mk.inj (Option.some.inj h)
          exact g_iret C hR dX11_later_39
      · replace h := ifn c5 h
        refine g_bipush (pc := 22) (v := (-3)) C dX11_later_22 (by decide) ?_
        obtain ⟨rfl, rfl⟩ := Prod.mk.inj (Option.some.inj h)
        exact g_iret C hR dX11_later_24
  · replace h := ifn c3 h
    refine g_bipush (pc := 8) (v := (-2)) C dX11_later_8 (by decide) ?_
    obtain ⟨rfl, rfl⟩ := Prod.mk.inj (Option.some.inj h)
    exact g_iret C hR dX11_later_10
theorem dX11_holds_0 : decode cX11_holds 0 = .ok (.aload_n 0, 1) := by decide +kernel
theorem dX11_holds_1 : decode cX11_holds 1 = .ok (.iload_n 1, 1) := by decide +kernel
theorem dX11_holds_2 : decode cX11_holds 2 = .ok (.invokevirtual 107, 3) := by decide +kernel
theorem dX11_holds_5 : decode cX11_holds 5 = .ok (.ifCond .eq 6, 3) := by decide +kernel
theorem dX11_holds_8 : decode cX11_holds 8 = .ok (.bipush (-2), 2) := by decide +kernel
theorem dX11_holds_10 : decode cX11_holds 10 = .ok (.ireturn, 1) := by decide +kernel
theorem dX11_holds_11 : decode cX11_holds 11 = .ok (.iconst 0, 1) := by decide +kernel
theorem dX11_holds_12 : decode cX11_holds 12 = .ok (.istore_n 2, 1) := by decide +kernel
theorem dX11_holds_13 : decode cX11_holds 13 = .ok (.iload_n 2, 1) := by decide +kernel
theorem dX11_holds_14 : decode cX11_holds 14 = .ok (.bipush 100, 2) := by decide +kernel
theorem dX11_holds_16 : decode cX11_holds 16 = .ok (.if_icmp .ge 20, 3) := by decide +kernel
theorem dX11_holds_19 : decode cX11_holds 19 = .ok (.aload_n 0, 1) := by decide +kernel
theorem dX11_holds_20 : decode cX11_holds 20 = .ok (.iload_n 1, 1) := by decide +kernel
theorem dX11_holds_21 : decode cX11_holds 21 = .ok (.iload_n 2, 1) := by decide +kernel
theorem dX11_holds_22 : decode cX11_holds 22 = .ok (.invokevirtual 296, 3) := by decide +kernel
theorem dX11_holds_25 : decode cX11_holds 25 = .ok (.ifCond .ne 5, 3) := by decide +kernel
theorem dX11_holds_28 : decode cX11_holds 28 = .ok (.iload_n 2, 1) := by decide +kernel
theorem dX11_holds_29 : decode cX11_holds 29 = .ok (.ireturn, 1) := by decide +kernel
theorem dX11_holds_30 : decode cX11_holds 30 = .ok (.iinc 2 1, 3) := by decide +kernel
theorem dX11_holds_33 : decode cX11_holds 33 = .ok (.goto (-20), 3) := by decide +kernel
theorem dX11_holds_36 : decode cX11_holds 36 = .ok (.iconst (-1), 1) := by decide +kernel
theorem dX11_holds_37 : decode cX11_holds 37 = .ok (.ireturn, 1) := by decide +kernel
theorem wX11_holds : Mw yX11_holds cX11_holds 3 (some .int) 1 := ⟨q_1082, q_120, by decide, ⟨by decide +kernel, by decide +kernel⟩, by decide +kernel, by decide +kernel⟩
-- a loop of EyeTrainer.holds at 13
def bX11_holds_13 (T : Sh) (x0 : Nat) (x1 : Int32) (x2 : Int32) (M : Me) : Option ((Int32 × Me) ⊕ ((Int32 × Me) ⊕ Me)) :=
  if (100 : Int32) ≤ x2 then (some (.inr (.inr M))) else (gd (kd T x0 = 10) <| Option.bind (fX11_passesLater T M x0 x1 x2) <| un2 fun r6 M7 => if r6 = 0 then (some (.inr (.inl (x2, M7)))) else (lt (x2 + (1 : Int32)) fun v9 => some (.inl (v9, M7))))
def PX11_holds_13 (X : Fx) (B : Bx) (Z : Nat × Nat × Nat × Nat) (Q : State → Prop) (T : Sh) (x0 : Nat) (x1 : Int32) (s : Int32 × Me) : Prop := G X B 3 Z Q 13 [(0, .ref (x0)), (1, .int (x1)), (2, .int (s.1))] [] T s.2
def EX11_holds_13 (X : Fx) (B : Bx) (Z : Nat × Nat × Nat × Nat) (Q : State → Prop) (T : Sh) (x0 : Nat) (x1 : Int32) (r : (Int32 × Me) ⊕ Me) : Prop := Sum.elim (fun r => G X B 3 Z Q 28 [(2, .int (r.1))] [] T r.2) (fun r => G X B 3 Z Q 36 [] [] T r) r
set_option maxHeartbeats 4000000 in
theorem tbX11_holds_13 {X : Fx} {B : Bx} {Z : Nat × Nat × Nat × Nat} {Q : State → Prop} {d : Nat} {T : Sh} (C : Cx X B cX11_holds 3 RX11 d Z) (hd : 4 ≤ d) {x0 : Nat} {x1 : Int32} : ∀ (s : Int32 × Me) (o : (Int32 × Me) ⊕ ((Int32 × Me) ⊕ Me)), bX11_holds_13 T x0 x1 s.1 s.2 = some o → lpE (PX11_holds_13 X B Z Q T x0 x1) (EX11_holds_13 X B Z Q T x0 x1) o → PX11_holds_13 X B Z Q T x0 x1 s := by
  rintro ⟨x2, M⟩ o h hE
  replace h : bX11_holds_13 T x0 x1 x2 M = some o := h
  unfold bX11_holds_13 at h
  show G X B 3 Z Q 13 [(0, .ref (x0)), (1, .int (x1)), (2, .int (x2))] [] T M
  refine g_iload_n (pc := 13) C dX11_holds_13 rfl 2 rfl ?_
  refine g_bipush (pc := 14) (v := 100) C dX11_holds_14 (by decide) ?_
  refine g_icmp_ge (pc := 16) (tgt := 36) C dX11_holds_16 (by decide) (fun c4 => ?_) (fun c4 => ?_)
  · replace h := ifp c4 h
    obtain rfl := Option.some.inj h
    exact g_sub [] rfl (show G X B 3 Z Q 36 [] [] T M from hE)
  · replace h := ifn c4 h
    refine g_aload_n (pc := 19) C dX11_holds_19 rfl 0 rfl ?_
    refine g_iload_n (pc := 20) C dX11_holds_20 rfl 1 rfl ?_
    refine g_iload_n (pc := 21) C dX11_holds_21 rfl 2 rfl ?_
    replace h := gd_some h; obtain ⟨hk5, h⟩ := h
    replace h := bnd2 h; obtain ⟨r6, M7, h1, h⟩ := h
    refine g_callVi (pc := 22) (As := [.int (x1), .int (x2)]) (st := []) C dX11_holds_22 wX11_passesLater hk5 rfl (by decide) q_777 q_22 q_775 (by omega) rfl (Nat.le_of_ble_eq_true rfl) (kX11_passesLater (d := 3) (Nat.le_refl _) h1) ?_
    refine g_if_ne (pc := 25) (tgt := 30) C dX11_holds_25 (by decide) (fun c8 => ?_) (fun c8 => ?_)
    · replace h := ifn c8 h
      obtain ⟨v9, ev9⟩ : ∃ y : Int32, y = x2 + (1 : Int32) := ⟨_, rfl⟩
      replace h := lt_at ev9 h
      refine g_iinc (pc := 30) (v := v9) (k := 2) (lo2 := [(2, .int (v9)), (0, .ref (x0)), (1, .int (x1))]) C dX11_holds_30 rfl (by rw [ev9]; rfl) (by decide) rfl ?_
      refine g_goto (pc := 33) (tgt := 13) C dX11_holds_33 (by decide) ?_
      obtain rfl := Option.some.inj h
      exact g_sub [1, 2, 0] rfl (show G X B 3 Z Q 13 [(0, .ref (x0)), (1, .int (x1)), (2, .int (v9))] [] T M7 from hE)
    · replace h := ifp c8 h
      obtain rfl := Option.some.inj h
      exact g_sub [2] rfl (show G X B 3 Z Q 28 [(2, .int (x2))] [] T M7 from hE)
/-- EyeTrainer.holds(I)I -/
def fX11_holds (T : Sh) (M : Me) (x0 : Nat) (x1 : Int32) : Option (Int32 × Me) :=
  gd (kd T x0 = 10) <| Option.bind (fX11_noLane T M x0 x1) fun r2 => if r2 = 0 then ((lp FU (fun s => bX11_holds_13 T x0 x1 s.1 s.2) ((0 : Int32), M)).bind (Sum.elim (un2 fun x2_10 M11 => some (x2_10, M11)) (fun M12 => some ((-1 : Int32), M12)))) else (some ((-2 : Int32), M))
set_option maxHeartbeats 4000000 in
theorem kX11_holds {l : Launch} {B : Bx} {d : Nat} (hd : 4 ≤ d) {T : Sh} {M : Me} {x0 : Nat} {x1 : Int32} {r : Int32} {M' : Me} (h : fX11_holds T M x0 x1 = some (r, M')) : Kt l B yX11_holds cX11_holds 3 (some .int) d [.ref (x0), .int (x1)] T M (some (.int r)) T M' := by
  refine kt_of wX11_holds (Nat.le_refl _) (Nat.le_refl _) (Nat.le_of_ble_eq_true rfl) (fun X C hR hlx hin => ?_)
  subst hlx
  replace C : Cx X B cX11_holds 3 RX11 d (tp T, sl T, tp T, sl T) := C
  unfold fX11_holds at h
  show G X B 3 _ _ 0 [(0, .ref (x0)), (1, .int (x1))] [] T M
  refine g_aload_n (pc := 0) C dX11_holds_0 rfl 0 rfl ?_
  refine g_iload_n (pc := 1) C dX11_holds_1 rfl 1 rfl ?_
  replace h := gd_some h; obtain ⟨hk1, h⟩ := h
  replace h := bnd h; obtain ⟨r2, h1, h⟩ := h
  refine g_callVi (pc := 2) (As := [.int (x1)]) (st := []) C dX11_holds_2 wX11_noLane hk1 rfl (by decide) q_769 q_20 q_767 (by omega) rfl (Nat.le_of_ble_eq_true rfl) (kX11_noLane (d := 0) (Nat.le_refl _) h1) ?_
  refine g_if_eq (pc := 5) (tgt := 11) C dX11_holds_5 (by decide) (fun c3 => ?_) (fun c3 => ?_)
  · replace h := ifp c3 h
    refine g_iconst (pc := 11) (v := 0) C dX11_holds_11 (by decide) ?_
    refine g_istore_n (pc := 12) (lo2 := [(2, .int ((0 : Int32))), (0, .ref (x0)), (1, .int (x1))]) C dX11_holds_12 rfl (by decide) rfl ?_
    replace h := bndE h; rcases h with ⟨a1, h1, h⟩ | ⟨M12, h1, h⟩
    · obtain ⟨x2_10, M11⟩ := a1
      replace h := un2_d h
      refine g_sub [1, 2, 0] rfl ?_
      refine lp_G2 (P := PX11_holds_13 X B _ _ T x0 x1) (E := EX11_holds_13 X B _ _ T x0 x1) (tbX11_holds_13 C hd) h1 ?_
      show G X B 3 _ _ 28 [(2, .int (x2_10))] [] T M11
      refine g_iload_n (pc := 28) C dX11_holds_28 rfl 0 rfl ?_
      obtain ⟨rfl, rfl⟩ := Prod.mk.inj (Option.some.inj h)
      exact g_iret C hR dX11_holds_29
    · refine g_sub [1, 2, 0] rfl ?_
      refine lp_G2 (P := PX11_holds_13 X B _ _ T x0 x1) (E := EX11_holds_13 X B _ _ T x0 x1) (tbX11_holds_13 C hd) h1 ?_
      show G X B 3 _ _ 36 [] [] T M12
      refine g_iconst (pc := 36) (v := (-1)) C dX11_holds_36 (by decide) ?_
      obtain ⟨rfl, rfl⟩ := Prod.mk.inj (Option.some.inj h)
      exact g_iret C hR dX11_holds_37
  · replace h := ifn c3 h
    refine g_bipush (pc := 8) (v := (-2)) C dX11_holds_8 (by decide) ?_
    obtain ⟨rfl, rfl⟩ := Prod.mk.inj (Option.some.inj h)
    exact g_iret C hR dX11_holds_10
theorem dX11_follows_0 : decode cX11_follows 0 = .ok (.aload_n 0, 1) := by decide +kernel
theorem dX11_follows_1 : decode cX11_follows 1 = .ok (.iload_n 1, 1) := by decide +kernel
theorem dX11_follows_2 : decode cX11_follows 2 = .ok (.invokevirtual 107, 3) := by decide +kernel
theorem dX11_follows_5 : decode cX11_follows 5 = .ok (.ifCond .eq 6, 3) := by decide +kernel
theorem dX11_follows_8 : decode cX11_follows 8 = .ok (.bipush (-2), 2) := by decide +kernel
theorem dX11_follows_10 : decode cX11_follows 10 = .ok (.ireturn, 1) := by decide +kernel
theorem dX11_follows_11 : decode cX11_follows 11 = .ok (.aload_n 0, 1) := by decide +kernel
theorem dX11_follows_12 : decode cX11_follows 12 = .ok (.iload_n 1, 1) := by decide +kernel
theorem dX11_follows_13 : decode cX11_follows 13 = .ok (.invokevirtual 130, 3) := by decide +kernel
theorem dX11_follows_16 : decode cX11_follows 16 = .ok (.ifCond .ne 5, 3) := by decide +kernel
theorem dX11_follows_19 : decode cX11_follows 19 = .ok (.iconst 0, 1) := by decide +kernel
theorem dX11_follows_20 : decode cX11_follows 20 = .ok (.ireturn, 1) := by decide +kernel
theorem dX11_follows_21 : decode cX11_follows 21 = .ok (.aload_n 0, 1) := by decide +kernel
theorem dX11_follows_22 : decode cX11_follows 22 = .ok (.getfield 42, 3) := by decide +kernel
theorem dX11_follows_25 : decode cX11_follows 25 = .ok (.getfield 127, 3) := by decide +kernel
theorem dX11_follows_28 : decode cX11_follows 28 = .ok (.iload_n 1, 1) := by decide +kernel
theorem dX11_follows_29 : decode cX11_follows 29 = .ok (.iaload, 1) := by decide +kernel
theorem dX11_follows_30 : decode cX11_follows 30 = .ok (.bipush 24, 2) := by decide +kernel
theorem dX11_follows_32 : decode cX11_follows 32 = .ok (.idiv, 1) := by decide +kernel
theorem dX11_follows_33 : decode cX11_follows 33 = .ok (.istore_n 2, 1) := by decide +kernel
theorem dX11_follows_34 : decode cX11_follows 34 = .ok (.aload_n 0, 1) := by decide +kernel
theorem dX11_follows_35 : decode cX11_follows 35 = .ok (.getfield 42, 3) := by decide +kernel
theorem dX11_follows_38 : decode cX11_follows 38 = .ok (.getfield 127, 3) := by decide +kernel
theorem dX11_follows_41 : decode cX11_follows 41 = .ok (.iload_n 1, 1) := by decide +kernel
theorem dX11_follows_42 : decode cX11_follows 42 = .ok (.iaload, 1) := by decide +kernel
theorem dX11_follows_43 : decode cX11_follows 43 = .ok (.bipush 24, 2) := by decide +kernel
theorem dX11_follows_45 : decode cX11_follows 45 = .ok (.irem, 1) := by decide +kernel
theorem dX11_follows_46 : decode cX11_follows 46 = .ok (.istore_n 3, 1) := by decide +kernel
theorem dX11_follows_47 : decode cX11_follows 47 = .ok (.iconst 1, 1) := by decide +kernel
theorem dX11_follows_48 : decode cX11_follows 48 = .ok (.istore 4, 2) := by decide +kernel
theorem dX11_follows_50 : decode cX11_follows 50 = .ok (.iload 4, 2) := by decide +kernel
theorem dX11_follows_52 : decode cX11_follows 52 = .ok (.sipush 999, 3) := by decide +kernel
theorem dX11_follows_55 : decode cX11_follows 55 = .ok (.if_icmp .gt 63, 3) := by decide +kernel
theorem dX11_follows_58 : decode cX11_follows 58 = .ok (.aload_n 0, 1) := by decide +kernel
theorem dX11_follows_59 : decode cX11_follows 59 = .ok (.getfield 28, 3) := by decide +kernel
theorem dX11_follows_62 : decode cX11_follows 62 = .ok (.iload_n 1, 1) := by decide +kernel
theorem dX11_follows_63 : decode cX11_follows 63 = .ok (.aload_n 0, 1) := by decide +kernel
theorem dX11_follows_64 : decode cX11_follows 64 = .ok (.getfield 42, 3) := by decide +kernel
theorem dX11_follows_67 : decode cX11_follows 67 = .ok (.getfield 179, 3) := by decide +kernel
theorem dX11_follows_70 : decode cX11_follows 70 = .ok (.aload_n 0, 1) := by decide +kernel
theorem dX11_follows_71 : decode cX11_follows 71 = .ok (.getfield 28, 3) := by decide +kernel
theorem dX11_follows_74 : decode cX11_follows 74 = .ok (.aload_n 0, 1) := by decide +kernel
theorem dX11_follows_75 : decode cX11_follows 75 = .ok (.getfield 42, 3) := by decide +kernel
theorem dX11_follows_78 : decode cX11_follows 78 = .ok (.getfield 151, 3) := by decide +kernel
theorem dX11_follows_81 : decode cX11_follows 81 = .ok (.iload 4, 2) := by decide +kernel
theorem dX11_follows_83 : decode cX11_follows 83 = .ok (.iadd, 1) := by decide +kernel
theorem dX11_follows_84 : decode cX11_follows 84 = .ok (.invokevirtual 140, 3) := by decide +kernel
theorem dX11_follows_87 : decode cX11_follows 87 = .ok (.iload_n 2, 1) := by decide +kernel
theorem dX11_follows_88 : decode cX11_follows 88 = .ok (.invokevirtual 289, 3) := by decide +kernel
theorem dX11_follows_91 : decode cX11_follows 91 = .ok (.istore 5, 2) := by decide +kernel
theorem dX11_follows_93 : decode cX11_follows 93 = .ok (.iload 5, 2) := by decide +kernel
theorem dX11_follows_95 : decode cX11_follows 95 = .ok (.iload_n 3, 1) := by decide +kernel
theorem dX11_follows_96 : decode cX11_follows 96 = .ok (.ishr, 1) := by decide +kernel
theorem dX11_follows_97 : decode cX11_follows 97 = .ok (.iconst 1, 1) := by decide +kernel
theorem dX11_follows_98 : decode cX11_follows 98 = .ok (.iand, 1) := by decide +kernel
theorem dX11_follows_99 : decode cX11_follows 99 = .ok (.ifCond .ne 6, 3) := by decide +kernel
theorem dX11_follows_102 : decode cX11_follows 102 = .ok (.iload 4, 2) := by decide +kernel
theorem dX11_follows_104 : decode cX11_follows 104 = .ok (.ireturn, 1) := by decide +kernel
theorem dX11_follows_105 : decode cX11_follows 105 = .ok (.iload 5, 2) := by decide +kernel
theorem dX11_follows_107 : decode cX11_follows 107 = .ok (.iload_n 3, 1) := by decide +kernel
theorem dX11_follows_108 : decode cX11_follows 108 = .ok (.invokestatic 300, 3) := by decide +kernel
theorem dX11_follows_111 : decode cX11_follows 111 = .ok (.istore_n 3, 1) := by decide +kernel
theorem dX11_follows_112 : decode cX11_follows 112 = .ok (.iinc 4 1, 3) := by decide +kernel
theorem dX11_follows_115 : decode cX11_follows 115 = .ok (.goto (-65), 3) := by decide +kernel
theorem dX11_follows_118 : decode cX11_follows 118 = .ok (.iconst (-1), 1) := by decide +kernel
theorem dX11_follows_119 : decode cX11_follows 119 = .ok (.ireturn, 1) := by decide +kernel
theorem wX11_follows : Mw yX11_follows cX11_follows 6 (some .int) 1 := ⟨q_1086, q_120, by decide, ⟨by decide +kernel, by decide +kernel⟩, by decide +kernel, by decide +kernel⟩
-- a loop of EyeTrainer.follows at 50
def bX11_follows_50 (T : Sh) (x0 : Nat) (x1 : Int32) (x2 : Int32) (x3 : Int32) (x4 : Int32) (M : Me) : Option ((Int32 × Int32 × Me) ⊕ ((Int32 × Me) ⊕ Me)) :=
  if (999 : Int32) < x4 then (some (.inr (.inr M))) else (gd (kd T x0 = 10) <| Option.bind (gR M x0 3) fun a21 => Option.bind (gR M x0 5) fun a22 => gd (kd T a22 = 7) <| Option.bind (gR M x0 3) fun a24 => Option.bind (gR M x0 5) fun a25 => gd (kd T a25 = 7) <| gd (kd T a24 = 4) <| Option.bind (fX5_driftAt T M a24 ((gI M a25 1) + x4)) <| un2 fun r28 M29 => gd (kd T a21 = 4) <| Option.bind (fX5_passing T M29 a21 x1 (gI M a22 2) r28 x2) <| un2 fun r31 M32 => if ((r31 >>> (x3 &&& 31)) &&& (1 : Int32)) = 0 then (some (.inr (.inl (x4, M32)))) else (Option.bind (fX0_followed r31 x3) fun r34 => lt (x4 + (1 : Int32)) fun v35 => some (.inl (r34, v35, M32))))
def PX11_follows_50 (X : Fx) (B : Bx) (Z : Nat × Nat × Nat × Nat) (Q : State → Prop) (T : Sh) (x0 : Nat) (x1 : Int32) (x2 : Int32) (s : Int32 × Int32 × Me) : Prop := G X B 6 Z Q 50 [(0, .ref (x0)), (1, .int (x1)), (2, .int (x2)), (3, .int (s.1)), (4, .int (s.2.1))] [] T s.2.2
def EX11_follows_50 (X : Fx) (B : Bx) (Z : Nat × Nat × Nat × Nat) (Q : State → Prop) (T : Sh) (x0 : Nat) (x1 : Int32) (x2 : Int32) (r : (Int32 × Me) ⊕ Me) : Prop := Sum.elim (fun r => G X B 6 Z Q 102 [(4, .int (r.1))] [] T r.2) (fun r => G X B 6 Z Q 118 [] [] T r) r
set_option maxHeartbeats 4000000 in
theorem tbX11_follows_50 {X : Fx} {B : Bx} {Z : Nat × Nat × Nat × Nat} {Q : State → Prop} {d : Nat} {T : Sh} (C : Cx X B cX11_follows 6 RX11 d Z) (hd : 5 ≤ d) {x0 : Nat} {x1 : Int32} {x2 : Int32} : ∀ (s : Int32 × Int32 × Me) (o : (Int32 × Int32 × Me) ⊕ ((Int32 × Me) ⊕ Me)), bX11_follows_50 T x0 x1 x2 s.1 s.2.1 s.2.2 = some o → lpE (PX11_follows_50 X B Z Q T x0 x1 x2) (EX11_follows_50 X B Z Q T x0 x1 x2) o → PX11_follows_50 X B Z Q T x0 x1 x2 s := by
  rintro ⟨x3, x4, M⟩ o h hE
  replace h : bX11_follows_50 T x0 x1 x2 x3 x4 M = some o := h
  unfold bX11_follows_50 at h
  show G X B 6 Z Q 50 [(0, .ref (x0)), (1, .int (x1)), (2, .int (x2)), (3, .int (x3)), (4, .int (x4))] [] T M
  refine g_iload (pc := 50) C dX11_follows_50 4 rfl ?_
  refine g_sipush (pc := 52) (v := 999) C dX11_follows_52 (by decide) ?_
  refine g_icmp_gt (pc := 55) (tgt := 118) C dX11_follows_55 (by decide) (fun c19 => ?_) (fun c19 => ?_)
  · replace h := ifp c19 h
    obtain rfl := Option.some.inj h
    exact g_sub [] rfl (show G X B 6 Z Q 118 [] [] T M from hE)
  · replace h := ifn c19 h
    refine g_aload_n (pc := 58) C dX11_follows_58 rfl 0 rfl ?_
    replace h := gd_some h; obtain ⟨hk20, h⟩ := h
    refine g_get (pc := 59) (v := va_rf (gR M x0 3)) C dX11_follows_59 kX11 hk20 3 (by decide) q_427 rfl ?_
    replace h := bnd h; obtain ⟨a21, ea21, h⟩ := h
    refine g_refq ea21 ?_
    refine g_iload_n (pc := 62) C dX11_follows_62 rfl 1 rfl ?_
    refine g_aload_n (pc := 63) C dX11_follows_63 rfl 0 rfl ?_
    refine g_get (pc := 64) (v := va_rf (gR M x0 5)) C dX11_follows_64 kX11 hk20 5 (by decide) q_429 rfl ?_
    replace h := bnd h; obtain ⟨a22, ea22, h⟩ := h
    refine g_refq ea22 ?_
    replace h := gd_some h; obtain ⟨hk23, h⟩ := h
    refine g_get (pc := 67) (v := .int (gI M a22 2)) C dX11_follows_67 kX8 hk23 2 (by decide) q_379 rfl ?_
    refine g_aload_n (pc := 70) C dX11_follows_70 rfl 0 rfl ?_
    refine g_get (pc := 71) (v := va_rf (gR M x0 3)) C dX11_follows_71 kX11 hk20 3 (by decide) q_427 rfl ?_
    replace h := bnd h; obtain ⟨a24, ea24, h⟩ := h
    refine g_refq ea24 ?_
    refine g_aload_n (pc := 74) C dX11_follows_74 rfl 0 rfl ?_
    refine g_get (pc := 75) (v := va_rf (gR M x0 5)) C dX11_follows_75 kX11 hk20 5 (by decide) q_429 rfl ?_
    replace h := bnd h; obtain ⟨a25, ea25, h⟩ := h
    refine g_refq ea25 ?_
    replace h := gd_some h; obtain ⟨hk26, h⟩ := h
    refine g_get (pc := 78) (v := .int (gI M a25 1)) C dX11_follows_78 kX8 hk26 1 (by decide) q_377 rfl ?_
    refine g_iload (pc := 81) C dX11_follows_81 4 rfl ?_
    refine g_iadd (pc := 83) C dX11_follows_83 ?_
    replace h := gd_some h; obtain ⟨hk27, h⟩ := h
    replace h := bnd2 h; obtain ⟨r28, M29, h1, h⟩ := h
    refine g_callVi (pc := 84) (As := [.int ((gI M a25 1) + x4)]) (st := [.int (gI M a22 2), .int (x1), .ref (a21)]) C dX11_follows_84 wX5_driftAt hk27 rfl (by decide) q_780 q_781 q_779 (by omega) rfl (Nat.le_of_ble_eq_true rfl) (kX5_driftAt (d := 1) (Nat.le_refl _) h1) ?_
    refine g_iload_n (pc := 87) C dX11_follows_87 rfl 2 rfl ?_
    replace h := gd_some h; obtain ⟨hk30, h⟩ := h
    replace h := bnd2 h; obtain ⟨r31, M32, h1, h⟩ := h
    refine g_callVi (pc := 88) (As := [.int (x1), .int (gI M a22 2), .int (r28), .int (x2)]) (st := []) C dX11_follows_88 wX5_passing hk30 rfl (by decide) q_797 q_798 q_796 (by omega) rfl (Nat.le_of_ble_eq_true rfl) (kX5_passing (d := 2) (Nat.le_refl _) h1) ?_
    refine g_istore (pc := 91) (lo2 := [(5, .int (r31)), (0, .ref (x0)), (1, .int (x1)), (2, .int (x2)), (3, .int (x3)), (4, .int (x4))]) C dX11_follows_91 (by decide) rfl ?_
    refine g_iload (pc := 93) C dX11_follows_93 0 rfl ?_
    refine g_iload_n (pc := 95) C dX11_follows_95 rfl 4 rfl ?_
    refine g_ishr (pc := 96) C dX11_follows_96 ?_
    refine g_iconst (pc := 97) (v := 1) C dX11_follows_97 (by decide) ?_
    refine g_iand (pc := 98) C dX11_follows_98 ?_
    refine g_if_ne (pc := 99) (tgt := 105) C dX11_follows_99 (by decide) (fun c33 => ?_) (fun c33 => ?_)
    · replace h := ifn c33 h
      refine g_iload (pc := 105) C dX11_follows_105 0 rfl ?_
      refine g_iload_n (pc := 107) C dX11_follows_107 rfl 4 rfl ?_
      replace h := bnd h; obtain ⟨r34, h1, h⟩ := h
      refine g_callSi (pc := 108) (As := [.int (r31), .int (x3)]) (st := []) C dX11_follows_108 wX0_followed q_933 q_932 (by omega) rfl (Nat.le_of_ble_eq_true rfl) (kX0_followed (d := 0) (Nat.le_refl _) h1) ?_
      refine g_istore_n (pc := 111) (lo2 := [(3, .int (r34)), (5, .int (r31)), (0, .ref (x0)), (1, .int (x1)), (2, .int (x2)), (4, .int (x4))]) C dX11_follows_111 rfl (by decide) rfl ?_
      obtain ⟨v35, ev35⟩ : ∃ y : Int32, y = x4 + (1 : Int32) := ⟨_, rfl⟩
      replace h := lt_at ev35 h
      refine g_iinc (pc := 112) (v := v35) (k := 5) (lo2 := [(4, .int (v35)), (3, .int (r34)), (5, .int (r31)), (0, .ref (x0)), (1, .int (x1)), (2, .int (x2))]) C dX11_follows_112 rfl (by rw [ev35]; rfl) (by decide) rfl ?_
      refine g_goto (pc := 115) (tgt := 50) C dX11_follows_115 (by decide) ?_
      obtain rfl := Option.some.inj h
      exact g_sub [3, 4, 5, 1, 0] rfl (show G X B 6 Z Q 50 [(0, .ref (x0)), (1, .int (x1)), (2, .int (x2)), (3, .int (r34)), (4, .int (v35))] [] T M32 from hE)
    · replace h := ifp c33 h
      obtain rfl := Option.some.inj h
      exact g_sub [5] rfl (show G X B 6 Z Q 102 [(4, .int (x4))] [] T M32 from hE)
/-- EyeTrainer.follows(I)I -/
def fX11_follows (T : Sh) (M : Me) (x0 : Nat) (x1 : Int32) : Option (Int32 × Me) :=
  gd (kd T x0 = 10) <| Option.bind (fX11_noLane T M x0 x1) fun r2 => if r2 = 0 then (Option.bind (fX11_passesInPoint T M x0 x1) <| un2 fun r4 M5 => if r4 = 0 then (some ((0 : Int32), M5)) else (Option.bind (gR M5 x0 5) fun a7 => gd (kd T a7 = 7) <| Option.bind (gR M5 a7 0) fun a9 => gd (kd T a9 = 13) <| gv x1 (ln T a9) <| lt ((gI M5 a9 (Int32.toNatClampNeg x1)) / (24 : Int32)) fun v12 => Option.bind (gR M5 x0 5) fun a13 => gd (kd T a13 = 7) <| Option.bind (gR M5 a13 0) fun a15 => gd (kd T a15 = 13) <| gv x1 (ln T a15) <| lt ((gI M5 a15 (Int32.toNatClampNeg x1)) - (gI M5 a15 (Int32.toNatClampNeg x1)) / (24 : Int32) * (24 : Int32)) fun v18 => (lp FU (fun s => bX11_follows_50 T x0 x1 v12 s.1 s.2.1 s.2.2) (v18, (1 : Int32), M5)).bind (Sum.elim (un2 fun x4_36 M37 => some (x4_36, M37)) (fun M38 => some ((-1 : Int32), M38))))) else (some ((-2 : Int32), M))
set_option maxHeartbeats 4000000 in
theorem kX11_follows {l : Launch} {B : Bx} {d : Nat} (hd : 5 ≤ d) {T : Sh} {M : Me} {x0 : Nat} {x1 : Int32} {r : Int32} {M' : Me} (h : fX11_follows T M x0 x1 = some (r, M')) : Kt l B yX11_follows cX11_follows 6 (some .int) d [.ref (x0), .int (x1)] T M (some (.int r)) T M' := by
  refine kt_of wX11_follows (Nat.le_refl _) (Nat.le_refl _) (Nat.le_of_ble_eq_true rfl) (fun X C hR hlx hin => ?_)
  subst hlx
  replace C : Cx X B cX11_follows 6 RX11 d (tp T, sl T, tp T, sl T) := C
  unfold fX11_follows at h
  show G X B 6 _ _ 0 [(0, .ref (x0)), (1, .int (x1))] [] T M
  refine g_aload_n (pc := 0) C dX11_follows_0 rfl 0 rfl ?_
  refine g_iload_n (pc := 1) C dX11_follows_1 rfl 1 rfl ?_
  replace h := gd_some h; obtain ⟨hk1, h⟩ := h
  replace h := bnd h; obtain ⟨r2, h1, h⟩ := h
  refine g_callVi (pc := 2) (As := [.int (x1)]) (st := []) C dX11_follows_2 wX11_noLane hk1 rfl (by decide) q_769 q_20 q_767 (by omega) rfl (Nat.le_of_ble_eq_true rfl) (kX11_noLane (d := 0) (Nat.le_refl _) h1) ?_
  refine g_if_eq (pc := 5) (tgt := 11) C dX11_follows_5 (by decide) (fun c3 => ?_) (fun c3 => ?_)
  · replace h := ifp c3 h
    refine g_aload_n (pc := 11) C dX11_follows_11 rfl 0 rfl ?_
    refine g_iload_n (pc := 12) C dX11_follows_12 rfl 1 rfl ?_
    replace h := bnd2 h; obtain ⟨r4, M5, h1, h⟩ := h
    refine g_callVi (pc := 13) (As := [.int (x1)]) (st := []) C dX11_follows_13 wX11_passesInPoint hk1 rfl (by decide) q_773 q_21 q_771 (by omega) rfl (Nat.le_of_ble_eq_true rfl) (kX11_passesInPoint (d := 4) (Nat.le_refl _) h1) ?_
    refine g_if_ne (pc := 16) (tgt := 21) C dX11_follows_16 (by decide) (fun c6 => ?_) (fun c6 => ?_)
    · replace h := ifn c6 h
      refine g_aload_n (pc := 21) C dX11_follows_21 rfl 0 rfl ?_
      refine g_get (pc := 22) (v := va_rf (gR M5 x0 5)) C dX11_follows_22 kX11 hk1 5 (by decide) q_429 rfl ?_
      replace h := bnd h; obtain ⟨a7, ea7, h⟩ := h
      refine g_refq ea7 ?_
      replace h := gd_some h; obtain ⟨hk8, h⟩ := h
      refine g_get (pc := 25) (v := va_rf (gR M5 a7 0)) C dX11_follows_25 kX8 hk8 0 (by decide) q_375 rfl ?_
      replace h := bnd h; obtain ⟨a9, ea9, h⟩ := h
      refine g_refq ea9 ?_
      refine g_iload_n (pc := 28) C dX11_follows_28 rfl 1 rfl ?_
      replace h := gd_some h; obtain ⟨hk10, h⟩ := h
      replace h := gv_some h; obtain ⟨hi11, h⟩ := h
      refine g_iald (pc := 29) C dX11_follows_29 hk10 hi11 ?_
      refine g_bipush (pc := 30) (v := 24) C dX11_follows_30 (by decide) ?_
      refine g_idiv (pc := 32) C dX11_follows_32 (by decide) ?_
      refine g_topi (fun v12 ev12 => ?_)
      replace h := lt_at ev12 h
      refine g_istore_n (pc := 33) (lo2 := [(2, .int (v12)), (0, .ref (x0)), (1, .int (x1))]) C dX11_follows_33 rfl (by decide) rfl ?_
      refine g_aload_n (pc := 34) C dX11_follows_34 rfl 1 rfl ?_
      refine g_get (pc := 35) (v := va_rf (gR M5 x0 5)) C dX11_follows_35 kX11 hk1 5 (by decide) q_429 rfl ?_
      replace h := bnd h; obtain ⟨a13, ea13, h⟩ := h
      refine g_refq ea13 ?_
      replace h := gd_some h; obtain ⟨hk14, h⟩ := h
      refine g_get (pc := 38) (v := va_rf (gR M5 a13 0)) C dX11_follows_38 kX8 hk14 0 (by decide) q_375 rfl ?_
      replace h := bnd h; obtain ⟨a15, ea15, h⟩ := h
      refine g_refq ea15 ?_
      refine g_iload_n (pc := 41) C dX11_follows_41 rfl 2 rfl ?_
      replace h := gd_some h; obtain ⟨hk16, h⟩ := h
      replace h := gv_some h; obtain ⟨hi17, h⟩ := h
      refine g_iald (pc := 42) C dX11_follows_42 hk16 hi17 ?_
      refine g_bipush (pc := 43) (v := 24) C dX11_follows_43 (by decide) ?_
      refine g_irem (pc := 45) C dX11_follows_45 (by decide) ?_
      refine g_topi (fun v18 ev18 => ?_)
      replace h := lt_at ev18 h
      refine g_istore_n (pc := 46) (lo2 := [(3, .int (v18)), (2, .int (v12)), (0, .ref (x0)), (1, .int (x1))]) C dX11_follows_46 rfl (by decide) rfl ?_
      refine g_iconst (pc := 47) (v := 1) C dX11_follows_47 (by decide) ?_
      refine g_istore (pc := 48) (lo2 := [(4, .int ((1 : Int32))), (3, .int (v18)), (2, .int (v12)), (0, .ref (x0)), (1, .int (x1))]) C dX11_follows_48 (by decide) rfl ?_
      replace h := bndE h; rcases h with ⟨a1, h1, h⟩ | ⟨M38, h1, h⟩
      · obtain ⟨x4_36, M37⟩ := a1
        replace h := un2_d h
        refine g_sub [3, 4, 2, 1, 0] rfl ?_
        refine lp_G2 (P := PX11_follows_50 X B _ _ T x0 x1 v12) (E := EX11_follows_50 X B _ _ T x0 x1 v12) (tbX11_follows_50 C hd) h1 ?_
        show G X B 6 _ _ 102 [(4, .int (x4_36))] [] T M37
        refine g_iload (pc := 102) C dX11_follows_102 0 rfl ?_
        obtain ⟨rfl, rfl⟩ := Prod.mk.inj (Option.some.inj h)
        exact g_iret C hR dX11_follows_104
      · refine g_sub [3, 4, 2, 1, 0] rfl ?_
        refine lp_G2 (P := PX11_follows_50 X B _ _ T x0 x1 v12) (E := EX11_follows_50 X B _ _ T x0 x1 v12) (tbX11_follows_50 C hd) h1 ?_
        show G X B 6 _ _ 118 [] [] T M38
        refine g_iconst (pc := 118) (v := (-1)) C dX11_follows_118 (by decide) ?_
        obtain ⟨rfl, rfl⟩ := Prod.mk.inj (Option.some.inj h)
        exact g_iret C hR dX11_follows_119
    · replace h := ifp c6 h
      refine g_iconst (pc := 19) (v := 0) C dX11_follows_19 (by decide) ?_
      obtain ⟨rfl, rfl⟩ := Prod.mk.inj (Option.some.inj h)
      exact g_iret C hR dX11_follows_20
  · replace h := ifn c3 h
    refine g_bipush (pc := 8) (v := (-2)) C dX11_follows_8 (by decide) ?_
    obtain ⟨rfl, rfl⟩ := Prod.mk.inj (Option.some.inj h)
    exact g_iret C hR dX11_follows_10
theorem dX11_at_0 : decode cX11_at 0 = .ok (.aload_n 0, 1) := by decide +kernel
theorem dX11_at_1 : decode cX11_at 1 = .ok (.iload_n 1, 1) := by decide +kernel
theorem dX11_at_2 : decode cX11_at 2 = .ok (.invokevirtual 107, 3) := by decide +kernel
theorem dX11_at_5 : decode cX11_at 5 = .ok (.ifCond .eq 6, 3) := by decide +kernel
theorem dX11_at_8 : decode cX11_at 8 = .ok (.bipush (-2), 2) := by decide +kernel
theorem dX11_at_10 : decode cX11_at 10 = .ok (.ireturn, 1) := by decide +kernel
theorem dX11_at_11 : decode cX11_at 11 = .ok (.iload_n 2, 1) := by decide +kernel
theorem dX11_at_12 : decode cX11_at 12 = .ok (.ifCond .lt 10, 3) := by decide +kernel
theorem dX11_at_15 : decode cX11_at 15 = .ok (.iload_n 2, 1) := by decide +kernel
theorem dX11_at_16 : decode cX11_at 16 = .ok (.sipush 999, 3) := by decide +kernel
theorem dX11_at_19 : decode cX11_at 19 = .ok (.if_icmp .le 6, 3) := by decide +kernel
theorem dX11_at_22 : decode cX11_at 22 = .ok (.bipush (-3), 2) := by decide +kernel
theorem dX11_at_24 : decode cX11_at 24 = .ok (.ireturn, 1) := by decide +kernel
theorem dX11_at_25 : decode cX11_at 25 = .ok (.aload_n 0, 1) := by decide +kernel
theorem dX11_at_26 : decode cX11_at 26 = .ok (.getfield 42, 3) := by decide +kernel
theorem dX11_at_29 : decode cX11_at 29 = .ok (.getfield 127, 3) := by decide +kernel
theorem dX11_at_32 : decode cX11_at 32 = .ok (.iload_n 1, 1) := by decide +kernel
theorem dX11_at_33 : decode cX11_at 33 = .ok (.iaload, 1) := by decide +kernel
theorem dX11_at_34 : decode cX11_at 34 = .ok (.bipush 24, 2) := by decide +kernel
theorem dX11_at_36 : decode cX11_at 36 = .ok (.idiv, 1) := by decide +kernel
theorem dX11_at_37 : decode cX11_at 37 = .ok (.istore_n 3, 1) := by decide +kernel
theorem dX11_at_38 : decode cX11_at 38 = .ok (.aload_n 0, 1) := by decide +kernel
theorem dX11_at_39 : decode cX11_at 39 = .ok (.getfield 42, 3) := by decide +kernel
theorem dX11_at_42 : decode cX11_at 42 = .ok (.getfield 127, 3) := by decide +kernel
theorem dX11_at_45 : decode cX11_at 45 = .ok (.iload_n 1, 1) := by decide +kernel
theorem dX11_at_46 : decode cX11_at 46 = .ok (.iaload, 1) := by decide +kernel
theorem dX11_at_47 : decode cX11_at 47 = .ok (.bipush 24, 2) := by decide +kernel
theorem dX11_at_49 : decode cX11_at 49 = .ok (.irem, 1) := by decide +kernel
theorem dX11_at_50 : decode cX11_at 50 = .ok (.istore 4, 2) := by decide +kernel
theorem dX11_at_52 : decode cX11_at 52 = .ok (.iconst 1, 1) := by decide +kernel
theorem dX11_at_53 : decode cX11_at 53 = .ok (.istore 5, 2) := by decide +kernel
theorem dX11_at_55 : decode cX11_at 55 = .ok (.iload 5, 2) := by decide +kernel
theorem dX11_at_57 : decode cX11_at 57 = .ok (.iload_n 2, 1) := by decide +kernel
theorem dX11_at_58 : decode cX11_at 58 = .ok (.if_icmp .gt 53, 3) := by decide +kernel
theorem dX11_at_61 : decode cX11_at 61 = .ok (.aload_n 0, 1) := by decide +kernel
theorem dX11_at_62 : decode cX11_at 62 = .ok (.getfield 28, 3) := by decide +kernel
theorem dX11_at_65 : decode cX11_at 65 = .ok (.iload_n 1, 1) := by decide +kernel
theorem dX11_at_66 : decode cX11_at 66 = .ok (.aload_n 0, 1) := by decide +kernel
theorem dX11_at_67 : decode cX11_at 67 = .ok (.getfield 42, 3) := by decide +kernel
theorem dX11_at_70 : decode cX11_at 70 = .ok (.getfield 179, 3) := by decide +kernel
theorem dX11_at_73 : decode cX11_at 73 = .ok (.aload_n 0, 1) := by decide +kernel
theorem dX11_at_74 : decode cX11_at 74 = .ok (.getfield 28, 3) := by decide +kernel
theorem dX11_at_77 : decode cX11_at 77 = .ok (.aload_n 0, 1) := by decide +kernel
theorem dX11_at_78 : decode cX11_at 78 = .ok (.getfield 42, 3) := by decide +kernel
theorem dX11_at_81 : decode cX11_at 81 = .ok (.getfield 151, 3) := by decide +kernel
theorem dX11_at_84 : decode cX11_at 84 = .ok (.iload 5, 2) := by decide +kernel
theorem dX11_at_86 : decode cX11_at 86 = .ok (.iadd, 1) := by decide +kernel
theorem dX11_at_87 : decode cX11_at 87 = .ok (.invokevirtual 140, 3) := by decide +kernel
theorem dX11_at_90 : decode cX11_at 90 = .ok (.iload_n 3, 1) := by decide +kernel
theorem dX11_at_91 : decode cX11_at 91 = .ok (.invokevirtual 289, 3) := by decide +kernel
theorem dX11_at_94 : decode cX11_at 94 = .ok (.istore 6, 2) := by decide +kernel
theorem dX11_at_96 : decode cX11_at 96 = .ok (.iload 6, 2) := by decide +kernel
theorem dX11_at_98 : decode cX11_at 98 = .ok (.iload 4, 2) := by decide +kernel
theorem dX11_at_100 : decode cX11_at 100 = .ok (.invokestatic 300, 3) := by decide +kernel
theorem dX11_at_103 : decode cX11_at 103 = .ok (.istore 4, 2) := by decide +kernel
theorem dX11_at_105 : decode cX11_at 105 = .ok (.iinc 5 1, 3) := by decide +kernel
theorem dX11_at_108 : decode cX11_at 108 = .ok (.goto (-53), 3) := by decide +kernel
theorem dX11_at_111 : decode cX11_at 111 = .ok (.iload_n 3, 1) := by decide +kernel
theorem dX11_at_112 : decode cX11_at 112 = .ok (.bipush 24, 2) := by decide +kernel
theorem dX11_at_114 : decode cX11_at 114 = .ok (.imul, 1) := by decide +kernel
theorem dX11_at_115 : decode cX11_at 115 = .ok (.iload 4, 2) := by decide +kernel
theorem dX11_at_117 : decode cX11_at 117 = .ok (.iadd, 1) := by decide +kernel
theorem dX11_at_118 : decode cX11_at 118 = .ok (.ireturn, 1) := by decide +kernel
theorem wX11_at : Mw yX11_at cX11_at 7 (some .int) 2 := ⟨q_1090, q_120, by decide, ⟨by decide +kernel, by decide +kernel⟩, by decide +kernel, by decide +kernel⟩
-- a loop of EyeTrainer.at at 55
def bX11_at_55 (T : Sh) (x0 : Nat) (x1 : Int32) (x2 : Int32) (x3 : Int32) (x4 : Int32) (x5 : Int32) (M : Me) : Option ((Int32 × Int32 × Me) ⊕ ((Int32 × Me))) :=
  if x2 < x5 then (some (.inr (x4, M))) else (gd (kd T x0 = 10) <| Option.bind (gR M x0 3) fun a20 => Option.bind (gR M x0 5) fun a21 => gd (kd T a21 = 7) <| Option.bind (gR M x0 3) fun a23 => Option.bind (gR M x0 5) fun a24 => gd (kd T a24 = 7) <| gd (kd T a23 = 4) <| Option.bind (fX5_driftAt T M a23 ((gI M a24 1) + x5)) <| un2 fun r27 M28 => gd (kd T a20 = 4) <| Option.bind (fX5_passing T M28 a20 x1 (gI M a21 2) r27 x3) <| un2 fun r30 M31 => Option.bind (fX0_followed r30 x4) fun r32 => lt (x5 + (1 : Int32)) fun v33 => some (.inl (r32, v33, M31)))
def PX11_at_55 (X : Fx) (B : Bx) (Z : Nat × Nat × Nat × Nat) (Q : State → Prop) (T : Sh) (x0 : Nat) (x1 : Int32) (x2 : Int32) (x3 : Int32) (s : Int32 × Int32 × Me) : Prop := G X B 7 Z Q 55 [(0, .ref (x0)), (1, .int (x1)), (2, .int (x2)), (3, .int (x3)), (4, .int (s.1)), (5, .int (s.2.1))] [] T s.2.2
def EX11_at_55 (X : Fx) (B : Bx) (Z : Nat × Nat × Nat × Nat) (Q : State → Prop) (T : Sh) (x0 : Nat) (x1 : Int32) (x2 : Int32) (x3 : Int32) (r : (Int32 × Me)) : Prop := G X B 7 Z Q 111 [(3, .int (x3)), (4, .int (r.1))] [] T r.2
set_option maxHeartbeats 4000000 in
theorem tbX11_at_55 {X : Fx} {B : Bx} {Z : Nat × Nat × Nat × Nat} {Q : State → Prop} {d : Nat} {T : Sh} (C : Cx X B cX11_at 7 RX11 d Z) (hd : 3 ≤ d) {x0 : Nat} {x1 : Int32} {x2 : Int32} {x3 : Int32} : ∀ (s : Int32 × Int32 × Me) (o : (Int32 × Int32 × Me) ⊕ ((Int32 × Me))), bX11_at_55 T x0 x1 x2 x3 s.1 s.2.1 s.2.2 = some o → lpE (PX11_at_55 X B Z Q T x0 x1 x2 x3) (EX11_at_55 X B Z Q T x0 x1 x2 x3) o → PX11_at_55 X B Z Q T x0 x1 x2 x3 s := by
  rintro ⟨x4, x5, M⟩ o h hE
  replace h : bX11_at_55 T x0 x1 x2 x3 x4 x5 M = some o := h
  unfold bX11_at_55 at h
  show G X B 7 Z Q 55 [(0, .ref (x0)), (1, .int (x1)), (2, .int (x2)), (3, .int (x3)), (4, .int (x4)), (5, .int (x5))] [] T M
  refine g_iload (pc := 55) C dX11_at_55 5 rfl ?_
  refine g_iload_n (pc := 57) C dX11_at_57 rfl 2 rfl ?_
  refine g_icmp_gt (pc := 58) (tgt := 111) C dX11_at_58 (by decide) (fun c18 => ?_) (fun c18 => ?_)
  · replace h := ifp c18 h
    obtain rfl := Option.some.inj h
    exact g_sub [3, 4] rfl (show G X B 7 Z Q 111 [(3, .int (x3)), (4, .int (x4))] [] T M from hE)
  · replace h := ifn c18 h
    refine g_aload_n (pc := 61) C dX11_at_61 rfl 0 rfl ?_
    replace h := gd_some h; obtain ⟨hk19, h⟩ := h
    refine g_get (pc := 62) (v := va_rf (gR M x0 3)) C dX11_at_62 kX11 hk19 3 (by decide) q_427 rfl ?_
    replace h := bnd h; obtain ⟨a20, ea20, h⟩ := h
    refine g_refq ea20 ?_
    refine g_iload_n (pc := 65) C dX11_at_65 rfl 1 rfl ?_
    refine g_aload_n (pc := 66) C dX11_at_66 rfl 0 rfl ?_
    refine g_get (pc := 67) (v := va_rf (gR M x0 5)) C dX11_at_67 kX11 hk19 5 (by decide) q_429 rfl ?_
    replace h := bnd h; obtain ⟨a21, ea21, h⟩ := h
    refine g_refq ea21 ?_
    replace h := gd_some h; obtain ⟨hk22, h⟩ := h
    refine g_get (pc := 70) (v := .int (gI M a21 2)) C dX11_at_70 kX8 hk22 2 (by decide) q_379 rfl ?_
    refine g_aload_n (pc := 73) C dX11_at_73 rfl 0 rfl ?_
    refine g_get (pc := 74) (v := va_rf (gR M x0 3)) C dX11_at_74 kX11 hk19 3 (by decide) q_427 rfl ?_
    replace h := bnd h; obtain ⟨a23, ea23, h⟩ := h
    refine g_refq ea23 ?_
    refine g_aload_n (pc := 77) C dX11_at_77 rfl 0 rfl ?_
    refine g_get (pc := 78) (v := va_rf (gR M x0 5)) C dX11_at_78 kX11 hk19 5 (by decide) q_429 rfl ?_
    replace h := bnd h; obtain ⟨a24, ea24, h⟩ := h
    refine g_refq ea24 ?_
    replace h := gd_some h; obtain ⟨hk25, h⟩ := h
    refine g_get (pc := 81) (v := .int (gI M a24 1)) C dX11_at_81 kX8 hk25 1 (by decide) q_377 rfl ?_
    refine g_iload (pc := 84) C dX11_at_84 5 rfl ?_
    refine g_iadd (pc := 86) C dX11_at_86 ?_
    replace h := gd_some h; obtain ⟨hk26, h⟩ := h
    replace h := bnd2 h; obtain ⟨r27, M28, h1, h⟩ := h
    refine g_callVi (pc := 87) (As := [.int ((gI M a24 1) + x5)]) (st := [.int (gI M a21 2), .int (x1), .ref (a20)]) C dX11_at_87 wX5_driftAt hk26 rfl (by decide) q_780 q_781 q_779 (by omega) rfl (Nat.le_of_ble_eq_true rfl) (kX5_driftAt (d := 1) (Nat.le_refl _) h1) ?_
    refine g_iload_n (pc := 90) C dX11_at_90 rfl 3 rfl ?_
    replace h := gd_some h; obtain ⟨hk29, h⟩ := h
    replace h := bnd2 h; obtain ⟨r30, M31, h1, h⟩ := h
    refine g_callVi (pc := 91) (As := [.int (x1), .int (gI M a21 2), .int (r27), .int (x3)]) (st := []) C dX11_at_91 wX5_passing hk29 rfl (by decide) q_797 q_798 q_796 (by omega) rfl (Nat.le_of_ble_eq_true rfl) (kX5_passing (d := 2) (Nat.le_refl _) h1) ?_
    refine g_istore (pc := 94) (lo2 := [(6, .int (r30)), (0, .ref (x0)), (1, .int (x1)), (2, .int (x2)), (3, .int (x3)), (4, .int (x4)), (5, .int (x5))]) C dX11_at_94 (by decide) rfl ?_
    refine g_iload (pc := 96) C dX11_at_96 0 rfl ?_
    refine g_iload (pc := 98) C dX11_at_98 5 rfl ?_
    replace h := bnd h; obtain ⟨r32, h1, h⟩ := h
    refine g_callSi (pc := 100) (As := [.int (r30), .int (x4)]) (st := []) C dX11_at_100 wX0_followed q_933 q_932 (by omega) rfl (Nat.le_of_ble_eq_true rfl) (kX0_followed (d := 0) (Nat.le_refl _) h1) ?_
    refine g_istore (pc := 103) (lo2 := [(4, .int (r32)), (6, .int (r30)), (0, .ref (x0)), (1, .int (x1)), (2, .int (x2)), (3, .int (x3)), (5, .int (x5))]) C dX11_at_103 (by decide) rfl ?_
    obtain ⟨v33, ev33⟩ : ∃ y : Int32, y = x5 + (1 : Int32) := ⟨_, rfl⟩
    replace h := lt_at ev33 h
    refine g_iinc (pc := 105) (v := v33) (k := 6) (lo2 := [(5, .int (v33)), (4, .int (r32)), (6, .int (r30)), (0, .ref (x0)), (1, .int (x1)), (2, .int (x2)), (3, .int (x3))]) C dX11_at_105 rfl (by rw [ev33]; rfl) (by decide) rfl ?_
    refine g_goto (pc := 108) (tgt := 55) C dX11_at_108 (by decide) ?_
    obtain rfl := Option.some.inj h
    exact g_sub [3, 4, 5, 6, 1, 0] rfl (show G X B 7 Z Q 55 [(0, .ref (x0)), (1, .int (x1)), (2, .int (x2)), (3, .int (x3)), (4, .int (r32)), (5, .int (v33))] [] T M31 from hE)
/-- EyeTrainer.at(II)I -/
def fX11_at (T : Sh) (M : Me) (x0 : Nat) (x1 : Int32) (x2 : Int32) : Option (Int32 × Me) :=
  gd (kd T x0 = 10) <| Option.bind (fX11_noLane T M x0 x1) fun r2 => if r2 = 0 then (if x2 < 0 then (some ((-3 : Int32), M)) else (if x2 ≤ (999 : Int32) then (Option.bind (gR M x0 5) fun a6 => gd (kd T a6 = 7) <| Option.bind (gR M a6 0) fun a8 => gd (kd T a8 = 13) <| gv x1 (ln T a8) <| lt ((gI M a8 (Int32.toNatClampNeg x1)) / (24 : Int32)) fun v11 => Option.bind (gR M x0 5) fun a12 => gd (kd T a12 = 7) <| Option.bind (gR M a12 0) fun a14 => gd (kd T a14 = 13) <| gv x1 (ln T a14) <| lt ((gI M a14 (Int32.toNatClampNeg x1)) - (gI M a14 (Int32.toNatClampNeg x1)) / (24 : Int32) * (24 : Int32)) fun v17 => (lp FU (fun s => bX11_at_55 T x0 x1 x2 v11 s.1 s.2.1 s.2.2) (v17, (1 : Int32), M)).bind (un2 fun x4_34 M35 => some (((v11 * (24 : Int32)) + x4_34), M35))) else (some ((-3 : Int32), M)))) else (some ((-2 : Int32), M))
set_option maxHeartbeats 4000000 in
theorem kX11_at {l : Launch} {B : Bx} {d : Nat} (hd : 3 ≤ d) {T : Sh} {M : Me} {x0 : Nat} {x1 : Int32} {x2 : Int32} {r : Int32} {M' : Me} (h : fX11_at T M x0 x1 x2 = some (r, M')) : Kt l B yX11_at cX11_at 7 (some .int) d [.ref (x0), .int (x1), .int (x2)] T M (some (.int r)) T M' := by
  refine kt_of wX11_at (Nat.le_refl _) (Nat.le_refl _) (Nat.le_of_ble_eq_true rfl) (fun X C hR hlx hin => ?_)
  subst hlx
  replace C : Cx X B cX11_at 7 RX11 d (tp T, sl T, tp T, sl T) := C
  unfold fX11_at at h
  show G X B 7 _ _ 0 [(0, .ref (x0)), (1, .int (x1)), (2, .int (x2))] [] T M
  refine g_aload_n (pc := 0) C dX11_at_0 rfl 0 rfl ?_
  refine g_iload_n (pc := 1) C dX11_at_1 rfl 1 rfl ?_
  replace h := gd_some h; obtain ⟨hk1, h⟩ := h
  replace h := bnd h; obtain ⟨r2, h1, h⟩ := h
  refine g_callVi (pc := 2) (As := [.int (x1)]) (st := []) C dX11_at_2 wX11_noLane hk1 rfl (by decide) q_769 q_20 q_767 (by omega) rfl (Nat.le_of_ble_eq_true rfl) (kX11_noLane (d := 0) (Nat.le_refl _) h1) ?_
  refine g_if_eq (pc := 5) (tgt := 11) C dX11_at_5 (by decide) (fun c3 => ?_) (fun c3 => ?_)
  · replace h := ifp c3 h
    refine g_iload_n (pc := 11) C dX11_at_11 rfl 2 rfl ?_
    refine g_if_lt (pc := 12) (tgt := 22) C dX11_at_12 (by decide) (fun c4 => ?_) (fun c4 => ?_)
    · replace h := ifp c4 h
      refine g_bipush (pc := 22) (v := (-3)) C dX11_at_22 (by decide) ?_
      obtain ⟨rfl, rfl⟩ := Prod.mk.inj (Option.some.inj h)
      exact g_iret C hR dX11_at_24
    · replace h := ifn c4 h
      refine g_iload_n (pc := 15) C dX11_at_15 rfl 2 rfl ?_
      refine g_sipush (pc := 16) (v := 999) C dX11_at_16 (by decide) ?_
      refine g_icmp_le (pc := 19) (tgt := 25) C dX11_at_19 (by decide) (fun c5 => ?_) (fun c5 => ?_)
      · replace h := ifp c5 h
        refine g_aload_n (pc := 25) C dX11_at_25 rfl 0 rfl ?_
        refine g_get (pc := 26) (v := va_rf (gR M x0 5)) C dX11_at_26 kX11 hk1 5 (by decide) q_429 rfl ?_
        replace h := bnd h; obtain ⟨a6, ea6, h⟩ := h
        refine g_refq ea6 ?_
        replace h := gd_some h; obtain ⟨hk7, h⟩ := h
        refine g_get (pc := 29) (v := va_rf (gR M a6 0)) C dX11_at_29 kX8 hk7 0 (by decide) q_375 rfl ?_
        replace h := bnd h; obtain ⟨a8, ea8, h⟩ := h
        refine g_refq ea8 ?_
        refine g_iload_n (pc := 32) C dX11_at_32 rfl 1 rfl ?_
        replace h := gd_some h; obtain ⟨hk9, h⟩ := h
        replace h := gv_some h; obtain ⟨hi10, h⟩ := h
        refine g_iald (pc := 33) C dX11_at_33 hk9 hi10 ?_
        refine g_bipush (pc := 34) (v := 24) C dX11_at_34 (by decide) ?_
        refine g_idiv (pc := 36) C dX11_at_36 (by decide) ?_
        refine g_topi (fun v11 ev11 => ?_)
        replace h := lt_at ev11 h
        refine g_istore_n (pc := 37) (lo2 := [(3, .int (v11)), (0, .ref (x0)), (1, .int (x1)), (2, .int (x2))]) C dX11_at_37 rfl (by decide) rfl ?_
        refine g_aload_n (pc := 38) C dX11_at_38 rfl 1 rfl ?_
        refine g_get (pc := 39) (v := va_rf (gR M x0 5)) C dX11_at_39 kX11 hk1 5 (by decide) q_429 rfl ?_
        replace h := bnd h; obtain ⟨a12, ea12, h⟩ := h
        refine g_refq ea12 ?_
        replace h := gd_some h; obtain ⟨hk13, h⟩ := h
        refine g_get (pc := 42) (v := va_rf (gR M a12 0)) C dX11_at_42 kX8 hk13 0 (by decide) q_375 rfl ?_
        replace h := bnd h; obtain ⟨a14, ea14, h⟩ := h
        refine g_refq ea14 ?_
        refine g_iload_n (pc := 45) C dX11_at_45 rfl 2 rfl ?_
        replace h := gd_some h; obtain ⟨hk15, h⟩ := h
        replace h := gv_some h; obtain ⟨hi16, h⟩ := h
        refine g_iald (pc := 46) C dX11_at_46 hk15 hi16 ?_
        refine g_bipush (pc := 47) (v := 24) C dX11_at_47 (by decide) ?_
        refine g_irem (pc := 49) C dX11_at_49 (by decide) ?_
        refine g_topi (fun v17 ev17 => ?_)
        replace h := lt_at ev17 h
        refine g_istore (pc := 50) (lo2 := [(4, .int (v17)), (3, .int (v11)), (0, .ref (x0)), (1, .int (x1)), (2, .int (x2))]) C dX11_at_50 (by decide) rfl ?_
        refine g_iconst (pc := 52) (v := 1) C dX11_at_52 (by decide) ?_
        refine g_istore (pc := 53) (lo2 := [(5, .int ((1 : Int32))), (4, .int (v17)), (3, .int (v11)), (0, .ref (x0)), (1, .int (x1)), (2, .int (x2))]) C dX11_at_53 (by decide) rfl ?_
        replace h := bnd2 h; obtain ⟨x4_34, M35, h1, h⟩ := h
        refine g_sub [3, 4, 5, 2, 1, 0] rfl ?_
        refine lp_G2 (P := PX11_at_55 X B _ _ T x0 x1 x2 v11) (E := EX11_at_55 X B _ _ T x0 x1 x2 v11) (tbX11_at_55 C hd) h1 ?_
        show G X B 7 _ _ 111 [(3, .int (v11)), (4, .int (x4_34))] [] T M35
        refine g_iload_n (pc := 111) C dX11_at_111 rfl 0 rfl ?_
        refine g_bipush (pc := 112) (v := 24) C dX11_at_112 (by decide) ?_
        refine g_imul (pc := 114) C dX11_at_114 ?_
        refine g_iload (pc := 115) C dX11_at_115 1 rfl ?_
        refine g_iadd (pc := 117) C dX11_at_117 ?_
        obtain ⟨rfl, rfl⟩ := Prod.mk.inj (Option.some.inj h)
        exact g_iret C hR dX11_at_118
      · replace h := ifn c5 h
        refine g_bipush (pc := 22) (v := (-3)) C dX11_at_22 (by decide) ?_
        obtain ⟨rfl, rfl⟩ := Prod.mk.inj (Option.some.inj h)
        exact g_iret C hR dX11_at_24
  · replace h := ifn c3 h
    refine g_bipush (pc := 8) (v := (-2)) C dX11_at_8 (by decide) ?_
    obtain ⟨rfl, rfl⟩ := Prod.mk.inj (Option.some.inj h)
    exact g_iret C hR dX11_at_10
