set_option maxRecDepth 20000 in
theorem q_0 : Cond.selects RX11 yX11_putBytes yX11_putBytes ∈ lw_gd := mem_gd (List.mem_of_getElem? (i := 0) (by decide +kernel)) rfl
set_option maxRecDepth 20000 in
theorem q_25 : Cond.selects RX11 yX11_remember yX11_remember ∈ lw_gd := mem_gd (List.mem_of_getElem? (i := 25) (by decide +kernel)) rfl
set_option maxRecDepth 20000 in
theorem q_36 : Cond.selects RX11 yX11_doDeeds yX11_doDeeds ∈ lw_gd := mem_gd (List.mem_of_getElem? (i := 36) (by decide +kernel)) rfl
set_option maxRecDepth 20000 in
theorem q_38 : Cond.selects RX11 yX11_judged yX11_judged ∈ lw_gd := mem_gd (List.mem_of_getElem? (i := 38) (by decide +kernel)) rfl
set_option maxRecDepth 20000 in
theorem q_183 : Cond.fieldLink RX11 89 "EyeTrainer$Reader" "faultKind" "I" ∈ lw_gd := mem_gd (List.mem_of_getElem? (i := 183) (by decide +kernel)) rfl
set_option maxRecDepth 20000 in
theorem q_185 : Cond.fieldLink RX11 104 "EyeTrainer$Reader" "faultPlace" "I" ∈ lw_gd := mem_gd (List.mem_of_getElem? (i := 185) (by decide +kernel)) rfl
set_option maxRecDepth 20000 in
theorem q_218 : Cond.fieldLink RX11 115 "EyeTrainer$Lab" "ats" "[I" ∈ lw_gd := mem_gd (List.mem_of_getElem? (i := 218) (by decide +kernel)) rfl
set_option maxRecDepth 20000 in
theorem q_221 : Cond.fieldLink RX11 118 "EyeTrainer$Lab" "mids" "[I" ∈ lw_gd := mem_gd (List.mem_of_getElem? (i := 221) (by decide +kernel)) rfl
set_option maxRecDepth 20000 in
theorem q_226 : Cond.fieldLink RX11 121 "EyeTrainer$Lab" "wides" "[I" ∈ lw_gd := mem_gd (List.mem_of_getElem? (i := 226) (by decide +kernel)) rfl
set_option maxRecDepth 20000 in
theorem q_230 : Cond.fieldLink RX11 124 "EyeTrainer$Lab" "highs" "[I" ∈ lw_gd := mem_gd (List.mem_of_getElem? (i := 230) (by decide +kernel)) rfl
set_option maxRecDepth 20000 in
theorem q_234 : Cond.fieldLink RX11 136 "EyeTrainer$Lab" "stresses" "[I" ∈ lw_gd := mem_gd (List.mem_of_getElem? (i := 234) (by decide +kernel)) rfl
set_option maxRecDepth 20000 in
theorem q_426 : Cond.fieldLink RX11 16 "EyeTrainer" "reader" "LEyeTrainer$Reader;" ∈ lw_gd := mem_gd (List.mem_of_getElem? (i := 426) (by decide +kernel)) rfl
set_option maxRecDepth 20000 in
theorem q_430 : Cond.fieldLink RX11 46 "EyeTrainer" "before" "LEyeTrainer$Stand;" ∈ lw_gd := mem_gd (List.mem_of_getElem? (i := 430) (by decide +kernel)) rfl
set_option maxRecDepth 20000 in
theorem q_470 : Cond.code yX11_feed cX11_feed 6 (some .int) ∈ lw_gd := mem_gd (List.mem_of_getElem? (i := 470) (by decide +kernel)) rfl
set_option maxRecDepth 20000 in
theorem q_471 : Cond.methodLink RX11 81 yX11_putBytes ∈ lw_gd := mem_gd (List.mem_of_getElem? (i := 471) (by decide +kernel)) rfl
set_option maxRecDepth 20000 in
theorem q_473 : Cond.instanceMethod yX11_putBytes ∈ lw_gd := mem_gd (List.mem_of_getElem? (i := 473) (by decide +kernel)) rfl
set_option maxRecDepth 20000 in
theorem q_762 : Cond.code yX11_fault cX11_fault 2 (some .int) ∈ lw_gd := mem_gd (List.mem_of_getElem? (i := 762) (by decide +kernel)) rfl
set_option maxRecDepth 20000 in
theorem q_766 : Cond.code yX11_lane cX11_lane 3 (some .int) ∈ lw_gd := mem_gd (List.mem_of_getElem? (i := 766) (by decide +kernel)) rfl
set_option maxRecDepth 20000 in
theorem q_812 : Cond.code yX11_stress cX11_stress 2 (some .int) ∈ lw_gd := mem_gd (List.mem_of_getElem? (i := 812) (by decide +kernel)) rfl
set_option maxRecDepth 20000 in
theorem q_816 : Cond.code yX11_drift cX11_drift 2 (some .int) ∈ lw_gd := mem_gd (List.mem_of_getElem? (i := 816) (by decide +kernel)) rfl
set_option maxRecDepth 20000 in
theorem q_817 : Cond.constant RX11 139 (-99000003) ∈ lw_gd := mem_gd (List.mem_of_getElem? (i := 817) (by decide +kernel)) rfl
set_option maxRecDepth 20000 in
theorem q_821 : Cond.code yX11_passes cX11_passes 3 (some .int) ∈ lw_gd := mem_gd (List.mem_of_getElem? (i := 821) (by decide +kernel)) rfl
set_option maxRecDepth 20000 in
theorem q_832 : Cond.code yX11_row cX11_row 3 (some .int) ∈ lw_gd := mem_gd (List.mem_of_getElem? (i := 832) (by decide +kernel)) rfl
set_option maxRecDepth 20000 in
theorem q_836 : Cond.code yX11_risen cX11_risen 2 (some .int) ∈ lw_gd := mem_gd (List.mem_of_getElem? (i := 836) (by decide +kernel)) rfl
set_option maxRecDepth 20000 in
theorem q_844 : Cond.code yX11_place cX11_place 3 (some .int) ∈ lw_gd := mem_gd (List.mem_of_getElem? (i := 844) (by decide +kernel)) rfl
set_option maxRecDepth 20000 in
theorem q_845 : Cond.methodLink RX11 157 yX11_remember ∈ lw_gd := mem_gd (List.mem_of_getElem? (i := 845) (by decide +kernel)) rfl
set_option maxRecDepth 20000 in
theorem q_847 : Cond.instanceMethod yX11_remember ∈ lw_gd := mem_gd (List.mem_of_getElem? (i := 847) (by decide +kernel)) rfl
set_option maxRecDepth 20000 in
theorem q_856 : Cond.code yX11_train cX11_train 4 (some .int) ∈ lw_gd := mem_gd (List.mem_of_getElem? (i := 856) (by decide +kernel)) rfl
set_option maxRecDepth 20000 in
theorem q_918 : Cond.code yX11_ticks cX11_ticks 2 (some .int) ∈ lw_gd := mem_gd (List.mem_of_getElem? (i := 918) (by decide +kernel)) rfl
set_option maxRecDepth 20000 in
theorem q_923 : Cond.methodLink RX11 168 yJ6_bitCount_0f7a4 ∈ lw_gd := mem_gd (List.mem_of_getElem? (i := 923) (by decide +kernel)) rfl
set_option maxRecDepth 20000 in
theorem q_927 : Cond.code yX11_follow cX11_follow 3 (some .int) ∈ lw_gd := mem_gd (List.mem_of_getElem? (i := 927) (by decide +kernel)) rfl
set_option maxRecDepth 20000 in
theorem q_938 : Cond.code yX11_pattern cX11_pattern 3 (some .int) ∈ lw_gd := mem_gd (List.mem_of_getElem? (i := 938) (by decide +kernel)) rfl
set_option maxRecDepth 20000 in
theorem q_946 : Cond.code yX11_undo cX11_undo 2 (some .int) ∈ lw_gd := mem_gd (List.mem_of_getElem? (i := 946) (by decide +kernel)) rfl
set_option maxRecDepth 20000 in
theorem q_950 : Cond.code yX11_judge cX11_judge 7 (some .int) ∈ lw_gd := mem_gd (List.mem_of_getElem? (i := 950) (by decide +kernel)) rfl
set_option maxRecDepth 20000 in
theorem q_958 : Cond.methodLink RX11 192 yX11_doDeeds ∈ lw_gd := mem_gd (List.mem_of_getElem? (i := 958) (by decide +kernel)) rfl
set_option maxRecDepth 20000 in
theorem q_960 : Cond.instanceMethod yX11_doDeeds ∈ lw_gd := mem_gd (List.mem_of_getElem? (i := 960) (by decide +kernel)) rfl
set_option maxRecDepth 20000 in
theorem q_972 : Cond.methodLink RX11 207 yX11_judged ∈ lw_gd := mem_gd (List.mem_of_getElem? (i := 972) (by decide +kernel)) rfl
set_option maxRecDepth 20000 in
theorem q_974 : Cond.instanceMethod yX11_judged ∈ lw_gd := mem_gd (List.mem_of_getElem? (i := 974) (by decide +kernel)) rfl
set_option maxRecDepth 20000 in
theorem q_979 : Cond.code yX11_perform cX11_perform 4 (some .int) ∈ lw_gd := mem_gd (List.mem_of_getElem? (i := 979) (by decide +kernel)) rfl
theorem dX11_feed_0 : decode cX11_feed 0 = .ok (.aload_n 0, 1) := by decide +kernel
theorem dX11_feed_1 : decode cX11_feed 1 = .ok (.getfield 77, 3) := by decide +kernel
theorem dX11_feed_4 : decode cX11_feed 4 = .ok (.bipush 20, 2) := by decide +kernel
theorem dX11_feed_6 : decode cX11_feed 6 = .ok (.iadd, 1) := by decide +kernel
theorem dX11_feed_7 : decode cX11_feed 7 = .ok (.sipush 900, 3) := by decide +kernel
theorem dX11_feed_10 : decode cX11_feed 10 = .ok (.if_icmp .le 6, 3) := by decide +kernel
theorem dX11_feed_13 : decode cX11_feed 13 = .ok (.bipush (-5), 2) := by decide +kernel
theorem dX11_feed_15 : decode cX11_feed 15 = .ok (.ireturn, 1) := by decide +kernel
theorem dX11_feed_16 : decode cX11_feed 16 = .ok (.aload_n 0, 1) := by decide +kernel
theorem dX11_feed_17 : decode cX11_feed 17 = .ok (.iload_n 1, 1) := by decide +kernel
theorem dX11_feed_18 : decode cX11_feed 18 = .ok (.invokevirtual 81, 3) := by decide +kernel
theorem dX11_feed_21 : decode cX11_feed 21 = .ok (.aload_n 0, 1) := by decide +kernel
theorem dX11_feed_22 : decode cX11_feed 22 = .ok (.iload_n 2, 1) := by decide +kernel
theorem dX11_feed_23 : decode cX11_feed 23 = .ok (.invokevirtual 81, 3) := by decide +kernel
theorem dX11_feed_26 : decode cX11_feed 26 = .ok (.aload_n 0, 1) := by decide +kernel
theorem dX11_feed_27 : decode cX11_feed 27 = .ok (.iload_n 3, 1) := by decide +kernel
theorem dX11_feed_28 : decode cX11_feed 28 = .ok (.invokevirtual 81, 3) := by decide +kernel
theorem dX11_feed_31 : decode cX11_feed 31 = .ok (.aload_n 0, 1) := by decide +kernel
theorem dX11_feed_32 : decode cX11_feed 32 = .ok (.iload 4, 2) := by decide +kernel
theorem dX11_feed_34 : decode cX11_feed 34 = .ok (.invokevirtual 81, 3) := by decide +kernel
theorem dX11_feed_37 : decode cX11_feed 37 = .ok (.aload_n 0, 1) := by decide +kernel
theorem dX11_feed_38 : decode cX11_feed 38 = .ok (.iload 5, 2) := by decide +kernel
theorem dX11_feed_40 : decode cX11_feed 40 = .ok (.invokevirtual 81, 3) := by decide +kernel
theorem dX11_feed_43 : decode cX11_feed 43 = .ok (.aload_n 0, 1) := by decide +kernel
theorem dX11_feed_44 : decode cX11_feed 44 = .ok (.getfield 77, 3) := by decide +kernel
theorem dX11_feed_47 : decode cX11_feed 47 = .ok (.ireturn, 1) := by decide +kernel
theorem wX11_feed : Mw yX11_feed cX11_feed 6 (some .int) 5 := ⟨q_470, q_120, by decide, ⟨by decide +kernel, by decide +kernel⟩, by decide +kernel, by decide +kernel⟩
/-- EyeTrainer.feed(IIIII)I -/
def fX11_feed (T : Sh) (M : Me) (x0 : Nat) (x1 : Int32) (x2 : Int32) (x3 : Int32) (x4 : Int32) (x5 : Int32) : Option (Int32 × Me) :=
  gd (kd T x0 = 10) <| if ((gI M x0 1) + (20 : Int32)) ≤ (900 : Int32) then (Option.bind (fX11_putBytes T M x0 x1) <| un2 fun _u M3 => Option.bind (fX11_putBytes T M3 x0 x2) <| un2 fun _u M4 => Option.bind (fX11_putBytes T M4 x0 x3) <| un2 fun _u M5 => Option.bind (fX11_putBytes T M5 x0 x4) <| un2 fun _u M6 => Option.bind (fX11_putBytes T M6 x0 x5) <| un2 fun _u M7 => some ((gI M7 x0 1), M7)) else (some ((-5 : Int32), M))
set_option maxHeartbeats 4000000 in
theorem kX11_feed {l : Launch} {B : Bx} {d : Nat} (hd : 1 ≤ d) {T : Sh} {M : Me} {x0 : Nat} {x1 : Int32} {x2 : Int32} {x3 : Int32} {x4 : Int32} {x5 : Int32} {r : Int32} {M' : Me} (h : fX11_feed T M x0 x1 x2 x3 x4 x5 = some (r, M')) : Kt l B yX11_feed cX11_feed 6 (some .int) d [.ref (x0), .int (x1), .int (x2), .int (x3), .int (x4), .int (x5)] T M (some (.int r)) T M' := by
  refine kt_of wX11_feed (Nat.le_refl _) (Nat.le_refl _) (Nat.le_of_ble_eq_true rfl) (fun X C hR hlx hin => ?_)
  subst hlx
  replace C : Cx X B cX11_feed 6 RX11 d (tp T, sl T, tp T, sl T) := C
  unfold fX11_feed at h
  show G X B 6 _ _ 0 [(0, .ref (x0)), (1, .int (x1)), (2, .int (x2)), (3, .int (x3)), (4, .int (x4)), (5, .int (x5))] [] T M
  refine g_aload_n (pc := 0) C dX11_feed_0 rfl 0 rfl ?_
  replace h := gd_some h; obtain ⟨hk1, h⟩ := h
  refine g_get (pc := 1) (v := .int (gI M x0 1)) C dX11_feed_1 kX11 hk1 1 (by decide) q_425 rfl ?_
  refine g_bipush (pc := 4) (v := 20) C dX11_feed_4 (by decide) ?_
  refine g_iadd (pc := 6) C dX11_feed_6 ?_
  refine g_sipush (pc := 7) (v := 900) C dX11_feed_7 (by decide) ?_
  refine g_icmp_le (pc := 10) (tgt := 16) C dX11_feed_10 (by decide) (fun c2 => ?_) (fun c2 => ?_)
  · replace h := ifp c2 h
    refine g_aload_n (pc := 16) C dX11_feed_16 rfl 0 rfl ?_
    refine g_iload_n (pc := 17) C dX11_feed_17 rfl 1 rfl ?_
    replace h := bnd2 h; obtain ⟨_u, M3, h1, h⟩ := h
    refine g_callVv (pc := 18) (As := [.int (x1)]) (st := []) C dX11_feed_18 wX11_putBytes hk1 rfl (by decide) q_473 q_0 q_471 (by omega) rfl (Nat.le_of_ble_eq_true rfl) (kX11_putBytes (d := 0) (Nat.le_refl _) h1) ?_
    refine g_aload_n (pc := 21) C dX11_feed_21 rfl 0 rfl ?_
    refine g_iload_n (pc := 22) C dX11_feed_22 rfl 2 rfl ?_
    replace h := bnd2 h; obtain ⟨_u, M4, h1, h⟩ := h
    refine g_callVv (pc := 23) (As := [.int (x2)]) (st := []) C dX11_feed_23 wX11_putBytes hk1 rfl (by decide) q_473 q_0 q_471 (by omega) rfl (Nat.le_of_ble_eq_true rfl) (kX11_putBytes (d := 0) (Nat.le_refl _) h1) ?_
    refine g_aload_n (pc := 26) C dX11_feed_26 rfl 0 rfl ?_
    refine g_iload_n (pc := 27) C dX11_feed_27 rfl 3 rfl ?_
    replace h := bnd2 h; obtain ⟨_u, M5, h1, h⟩ := h
    refine g_callVv (pc := 28) (As := [.int (x3)]) (st := []) C dX11_feed_28 wX11_putBytes hk1 rfl (by decide) q_473 q_0 q_471 (by omega) rfl (Nat.le_of_ble_eq_true rfl) (kX11_putBytes (d := 0) (Nat.le_refl _) h1) ?_
    refine g_aload_n (pc := 31) C dX11_feed_31 rfl 0 rfl ?_
    refine g_iload (pc := 32) C dX11_feed_32 4 rfl ?_
    replace h := bnd2 h; obtain ⟨_u, M6, h1, h⟩ := h
    refine g_callVv (pc := 34) (As := [.int (x4)]) (st := []) C dX11_feed_34 wX11_putBytes hk1 rfl (by decide) q_473 q_0 q_471 (by omega) rfl (Nat.le_of_ble_eq_true rfl) (kX11_putBytes (d := 0) (Nat.le_refl _) h1) ?_
    refine g_aload_n (pc := 37) C dX11_feed_37 rfl 0 rfl ?_
    refine g_iload (pc := 38) C dX11_feed_38 5 rfl ?_
    replace h := bnd2 h; obtain ⟨_u, M7, h1, h⟩ := h
    refine g_callVv (pc := 40) (As := [.int (x5)]) (st := []) C dX11_feed_40 wX11_putBytes hk1 rfl (by decide) q_473 q_0 q_471 (by omega) rfl (Nat.le_of_ble_eq_true rfl) (kX11_putBytes (d := 0) (Nat.le_refl _) h1) ?_
    refine g_aload_n (pc := 43) C dX11_feed_43 rfl 0 rfl ?_
    refine g_get (pc := 44) (v := .int (gI M7 x0 1)) C dX11_feed_44 kX11 hk1 1 (by decide) q_425 rfl ?_
    obtain ⟨rfl, rfl⟩ := Prod.mk.inj (Option.some.inj h)
    exact g_iret C hR dX11_feed_47
  · replace h := ifn c2 h
    refine g_bipush (pc := 13) (v := (-5)) C dX11_feed_13 (by decide) ?_
    obtain ⟨rfl, rfl⟩ := Prod.mk.inj (Option.some.inj h)
    exact g_iret C hR dX11_feed_15
theorem dX11_fault_0 : decode cX11_fault 0 = .ok (.iload_n 1, 1) := by decide +kernel
theorem dX11_fault_1 : decode cX11_fault 1 = .ok (.lookupswitch 43 #[(0, 27), (1, 35)], 27) := by decide +kernel
theorem dX11_fault_28 : decode cX11_fault 28 = .ok (.aload_n 0, 1) := by decide +kernel
theorem dX11_fault_29 : decode cX11_fault 29 = .ok (.getfield 16, 3) := by decide +kernel
theorem dX11_fault_32 : decode cX11_fault 32 = .ok (.getfield 89, 3) := by decide +kernel
theorem dX11_fault_35 : decode cX11_fault 35 = .ok (.ireturn, 1) := by decide +kernel
theorem dX11_fault_36 : decode cX11_fault 36 = .ok (.aload_n 0, 1) := by decide +kernel
theorem dX11_fault_37 : decode cX11_fault 37 = .ok (.getfield 16, 3) := by decide +kernel
theorem dX11_fault_40 : decode cX11_fault 40 = .ok (.getfield 104, 3) := by decide +kernel
theorem dX11_fault_43 : decode cX11_fault 43 = .ok (.ireturn, 1) := by decide +kernel
theorem dX11_fault_44 : decode cX11_fault 44 = .ok (.iconst (-1), 1) := by decide +kernel
theorem dX11_fault_45 : decode cX11_fault 45 = .ok (.ireturn, 1) := by decide +kernel
theorem wX11_fault : Mw yX11_fault cX11_fault 2 (some .int) 1 := ⟨q_762, q_120, by decide, ⟨by decide +kernel, by decide +kernel⟩, by decide +kernel, by decide +kernel⟩
/-- EyeTrainer.fault(I)I -/
def fX11_fault (T : Sh) (M : Me) (x0 : Nat) (x1 : Int32) : Option (Int32) :=
  if x1 = (0 : Int32) then (gd (kd T x0 = 10) <| Option.bind (gR M x0 2) fun a2 => gd (kd T a2 = 5) <| some (gI M a2 2)) else (if x1 = (1 : Int32) then (gd (kd T x0 = 10) <| Option.bind (gR M x0 2) fun a5 => gd (kd T a5 = 5) <| some (gI M a5 3)) else (some (-1 : Int32)))
set_option maxHeartbeats 4000000 in
theorem kX11_fault {l : Launch} {B : Bx} {d : Nat} (hd : 0 ≤ d) {T : Sh} {M : Me} {x0 : Nat} {x1 : Int32} {r : Int32} (h : fX11_fault T M x0 x1 = some r) : Kt l B yX11_fault cX11_fault 2 (some .int) d [.ref (x0), .int (x1)] T M (some (.int r)) T M := by
  refine kt_of wX11_fault (Nat.le_refl _) (Nat.le_refl _) (Nat.le_of_ble_eq_true rfl) (fun X C hR hlx hin => ?_)
  subst hlx
  replace C : Cx X B cX11_fault 2 RX11 d (tp T, sl T, tp T, sl T) := C
  unfold fX11_fault at h
  show G X B 2 _ _ 0 [(0, .ref (x0)), (1, .int (x1))] [] T M
  refine g_iload_n (pc := 0) C dX11_fault_0 rfl 1 rfl ?_
  by_cases cw7_0 : x1 = (0 : Int32)
  · replace h := ifp cw7_0 h
    have hq : x1.toInt = 0 := by rw [cw7_0]; rfl
    refine g_lsw (off := 27) (tgt := 28) C dX11_fault_1 rfl (by rw [hq]; rfl) (by decide) ?_
    refine g_aload_n (pc := 28) C dX11_fault_28 rfl 0 rfl ?_
    replace h := gd_some h; obtain ⟨hk1, h⟩ := h
    refine g_get (pc := 29) (v := va_rf (gR M x0 2)) C dX11_fault_29 kX11 hk1 2 (by decide) q_426 rfl ?_
    replace h := bnd h; obtain ⟨a2, ea2, h⟩ := h
    refine g_refq ea2 ?_
    replace h := gd_some h; obtain ⟨hk3, h⟩ := h
    refine g_get (pc := 32) (v := .int (gI M a2 2)) C dX11_fault_32 kX6 hk3 2 (by decide) q_183 rfl ?_
    obtain rfl := Option.some.inj h
    exact g_iret C hR dX11_fault_35
  · replace h := ifn cw7_0 h
    by_cases cw7_1 : x1 = (1 : Int32)
    · replace h := ifp cw7_1 h
      have hq : x1.toInt = 1 := by rw [cw7_1]; rfl
      refine g_lsw (off := 35) (tgt := 36) C dX11_fault_1 rfl (by rw [hq]; rfl) (by decide) ?_
      refine g_aload_n (pc := 36) C dX11_fault_36 rfl 0 rfl ?_
      replace h := gd_some h; obtain ⟨hk4, h⟩ := h
      refine g_get (pc := 37) (v := va_rf (gR M x0 2)) C dX11_fault_37 kX11 hk4 2 (by decide) q_426 rfl ?_
      replace h := bnd h; obtain ⟨a5, ea5, h⟩ := h
      refine g_refq ea5 ?_
      replace h := gd_some h; obtain ⟨hk6, h⟩ := h
      refine g_get (pc := 40) (v := .int (gI M a5 3)) C dX11_fault_40 kX6 hk6 3 (by decide) q_185 rfl ?_
      obtain rfl := Option.some.inj h
      exact g_iret C hR dX11_fault_43
    · replace h := ifn cw7_1 h
      refine g_lsw (off := 43) (tgt := 44) C dX11_fault_1 rfl (by
          have n0 := sw_ne cw7_0 (i := 0) rfl
          have n1 := sw_ne cw7_1 (i := 1) rfl
          simp only [List.toList_toArray, Op.lookupswitch.offset_cons, Op.lookupswitch.offset_nil]
          rw [if_neg (fun q => n0 q.symm), if_neg (fun q => n1 q.symm)]) (by decide) ?_
      refine g_iconst (pc := 44) (v := (-1)) C dX11_fault_44 (by decide) ?_
      obtain rfl := Option.some.inj h
      exact g_iret C hR dX11_fault_45
theorem dX11_lane_0 : decode cX11_lane 0 = .ok (.aload_n 0, 1) := by decide +kernel
theorem dX11_lane_1 : decode cX11_lane 1 = .ok (.iload_n 1, 1) := by decide +kernel
theorem dX11_lane_2 : decode cX11_lane 2 = .ok (.invokevirtual 107, 3) := by decide +kernel
theorem dX11_lane_5 : decode cX11_lane 5 = .ok (.ifCond .eq 6, 3) := by decide +kernel
theorem dX11_lane_8 : decode cX11_lane 8 = .ok (.bipush (-2), 2) := by decide +kernel
theorem dX11_lane_10 : decode cX11_lane 10 = .ok (.ireturn, 1) := by decide +kernel
theorem dX11_lane_11 : decode cX11_lane 11 = .ok (.iload_n 2, 1) := by decide +kernel
theorem dX11_lane_12 : decode cX11_lane 12 = .ok (.tableswitch 116 0 5 #[40, 53, 66, 79, 92, 102], 40) := by decide +kernel
theorem dX11_lane_52 : decode cX11_lane 52 = .ok (.aload_n 0, 1) := by decide +kernel
theorem dX11_lane_53 : decode cX11_lane 53 = .ok (.getfield 28, 3) := by decide +kernel
theorem dX11_lane_56 : decode cX11_lane 56 = .ok (.getfield 111, 3) := by decide +kernel
theorem dX11_lane_59 : decode cX11_lane 59 = .ok (.getfield 115, 3) := by decide +kernel
theorem dX11_lane_62 : decode cX11_lane 62 = .ok (.iload_n 1, 1) := by decide +kernel
theorem dX11_lane_63 : decode cX11_lane 63 = .ok (.iaload, 1) := by decide +kernel
theorem dX11_lane_64 : decode cX11_lane 64 = .ok (.ireturn, 1) := by decide +kernel
theorem dX11_lane_65 : decode cX11_lane 65 = .ok (.aload_n 0, 1) := by decide +kernel
theorem dX11_lane_66 : decode cX11_lane 66 = .ok (.getfield 28, 3) := by decide +kernel
theorem dX11_lane_69 : decode cX11_lane 69 = .ok (.getfield 111, 3) := by decide +kernel
theorem dX11_lane_72 : decode cX11_lane 72 = .ok (.getfield 118, 3) := by decide +kernel
theorem dX11_lane_75 : decode cX11_lane 75 = .ok (.iload_n 1, 1) := by decide +kernel
theorem dX11_lane_76 : decode cX11_lane 76 = .ok (.iaload, 1) := by decide +kernel
theorem dX11_lane_77 : decode cX11_lane 77 = .ok (.ireturn, 1) := by decide +kernel
theorem dX11_lane_78 : decode cX11_lane 78 = .ok (.aload_n 0, 1) := by decide +kernel
theorem dX11_lane_79 : decode cX11_lane 79 = .ok (.getfield 28, 3) := by decide +kernel
theorem dX11_lane_82 : decode cX11_lane 82 = .ok (.getfield 111, 3) := by decide +kernel
theorem dX11_lane_85 : decode cX11_lane 85 = .ok (.getfield 121, 3) := by decide +kernel
theorem dX11_lane_88 : decode cX11_lane 88 = .ok (.iload_n 1, 1) := by decide +kernel
theorem dX11_lane_89 : decode cX11_lane 89 = .ok (.iaload, 1) := by decide +kernel
theorem dX11_lane_90 : decode cX11_lane 90 = .ok (.ireturn, 1) := by decide +kernel
theorem dX11_lane_91 : decode cX11_lane 91 = .ok (.aload_n 0, 1) := by decide +kernel
theorem dX11_lane_92 : decode cX11_lane 92 = .ok (.getfield 28, 3) := by decide +kernel
theorem dX11_lane_95 : decode cX11_lane 95 = .ok (.getfield 111, 3) := by decide +kernel
theorem dX11_lane_98 : decode cX11_lane 98 = .ok (.getfield 124, 3) := by decide +kernel
theorem dX11_lane_101 : decode cX11_lane 101 = .ok (.iload_n 1, 1) := by decide +kernel
theorem dX11_lane_102 : decode cX11_lane 102 = .ok (.iaload, 1) := by decide +kernel
theorem dX11_lane_103 : decode cX11_lane 103 = .ok (.ireturn, 1) := by decide +kernel
theorem dX11_lane_104 : decode cX11_lane 104 = .ok (.aload_n 0, 1) := by decide +kernel
theorem dX11_lane_105 : decode cX11_lane 105 = .ok (.getfield 42, 3) := by decide +kernel
theorem dX11_lane_108 : decode cX11_lane 108 = .ok (.getfield 127, 3) := by decide +kernel
theorem dX11_lane_111 : decode cX11_lane 111 = .ok (.iload_n 1, 1) := by decide +kernel
theorem dX11_lane_112 : decode cX11_lane 112 = .ok (.iaload, 1) := by decide +kernel
theorem dX11_lane_113 : decode cX11_lane 113 = .ok (.ireturn, 1) := by decide +kernel
theorem dX11_lane_114 : decode cX11_lane 114 = .ok (.aload_n 0, 1) := by decide +kernel
theorem dX11_lane_115 : decode cX11_lane 115 = .ok (.iload_n 1, 1) := by decide +kernel
theorem dX11_lane_116 : decode cX11_lane 116 = .ok (.invokevirtual 130, 3) := by decide +kernel
theorem dX11_lane_119 : decode cX11_lane 119 = .ok (.ifCond .eq 7, 3) := by decide +kernel
theorem dX11_lane_122 : decode cX11_lane 122 = .ok (.iconst 1, 1) := by decide +kernel
theorem dX11_lane_123 : decode cX11_lane 123 = .ok (.goto 4, 3) := by decide +kernel
theorem dX11_lane_126 : decode cX11_lane 126 = .ok (.iconst 0, 1) := by decide +kernel
theorem dX11_lane_127 : decode cX11_lane 127 = .ok (.ireturn, 1) := by decide +kernel
theorem dX11_lane_128 : decode cX11_lane 128 = .ok (.bipush (-2), 2) := by decide +kernel
theorem dX11_lane_130 : decode cX11_lane 130 = .ok (.ireturn, 1) := by decide +kernel
theorem wX11_lane : Mw yX11_lane cX11_lane 3 (some .int) 2 := ⟨q_766, q_120, by decide, ⟨by decide +kernel, by decide +kernel⟩, by decide +kernel, by decide +kernel⟩
/-- EyeTrainer.lane(II)I -/
def fX11_lane (T : Sh) (M : Me) (x0 : Nat) (x1 : Int32) (x2 : Int32) : Option (Int32 × Me) :=
  gd (kd T x0 = 10) <| Option.bind (fX11_noLane T M x0 x1) fun r2 => if r2 = 0 then (if x2 = (0 : Int32) then (Option.bind (gR M x0 3) fun a4 => gd (kd T a4 = 4) <| Option.bind (gR M a4 0) fun a6 => gd (kd T a6 = 2) <| Option.bind (gR M a6 0) fun a8 => gd (kd T a8 = 13) <| gv x1 (ln T a8) <| some ((gI M a8 (Int32.toNatClampNeg x1)), M)) else (if x2 = (1 : Int32) then (Option.bind (gR M x0 3) fun a11 => gd (kd T a11 = 4) <| Option.bind (gR M a11 0) fun a13 => gd (kd T a13 = 2) <| Option.bind (gR M a13 1) fun a15 => gd (kd T a15 = 13) <| gv x1 (ln T a15) <| some ((gI M a15 (Int32.toNatClampNeg x1)), M)) else (if x2 = (2 : Int32) then (Option.bind (gR M x0 3) fun a18 => gd (kd T a18 = 4) <| Option.bind (gR M a18 0) fun a20 => gd (kd T a20 = 2) <| Option.bind (gR M a20 2) fun a22 => gd (kd T a22 = 13) <| gv x1 (ln T a22) <| some ((gI M a22 (Int32.toNatClampNeg x1)), M)) else (if x2 = (3 : Int32) then (Option.bind (gR M x0 3) fun a25 => gd (kd T a25 = 4) <| Option.bind (gR M a25 0) fun a27 => gd (kd T a27 = 2) <| Option.bind (gR M a27 3) fun a29 => gd (kd T a29 = 13) <| gv x1 (ln T a29) <| some ((gI M a29 (Int32.toNatClampNeg x1)), M)) else (if x2 = (4 : Int32) then (Option.bind (gR M x0 5) fun a32 => gd (kd T a32 = 7) <| Option.bind (gR M a32 0) fun a34 => gd (kd T a34 = 13) <| gv x1 (ln T a34) <| some ((gI M a34 (Int32.toNatClampNeg x1)), M)) else (if x2 = (5 : Int32) then (Option.bind (fX11_passesInPoint T M x0 x1) <| un2 fun r37 M38 => if r37 = 0 then (some ((0 : Int32), M38)) else (some ((1 : Int32), M38))) else (some ((-2 : Int32), M)))))))) else (some ((-2 : Int32), M))
set_option maxHeartbeats 4000000 in
theorem kX11_lane {l : Launch} {B : Bx} {d : Nat} (hd : 5 ≤ d) {T : Sh} {M : Me} {x0 : Nat} {x1 : Int32} {x2 : Int32} {r : Int32} {M' : Me} (h : fX11_lane T M x0 x1 x2 = some (r, M')) : Kt l B yX11_lane cX11_lane 3 (some .int) d [.ref (x0), .int (x1), .int (x2)] T M (some (.int r)) T M' := by
  refine kt_of wX11_lane (Nat.le_refl _) (Nat.le_refl _) (Nat.le_of_ble_eq_true rfl) (fun X C hR hlx hin => ?_)
  subst hlx
  replace C : Cx X B cX11_lane 3 RX11 d (tp T, sl T, tp T, sl T) := C
  unfold fX11_lane at h
  show G X B 3 _ _ 0 [(0, .ref (x0)), (1, .int (x1)), (2, .int (x2))] [] T M
  refine g_aload_n (pc := 0) C dX11_lane_0 rfl 0 rfl ?_
  refine g_iload_n (pc := 1) C dX11_lane_1 rfl 1 rfl ?_
  replace h := gd_some h; obtain ⟨hk1, h⟩ := h
  replace h := bnd h; obtain ⟨r2, h1, h⟩ := h
  refine g_callVi (pc := 2) (As := [.int (x1)]) (st := []) C dX11_lane_2 wX11_noLane hk1 rfl (by decide) q_769 q_20 q_767 (by omega) rfl (Nat.le_of_ble_eq_true rfl) (kX11_noLane (d := 0) (Nat.le_refl _) h1) ?_
  refine g_if_eq (pc := 5) (tgt := 11) C dX11_lane_5 (by decide) (fun c3 => ?_) (fun c3 => ?_)
  · replace h := ifp c3 h
    refine g_iload_n (pc := 11) C dX11_lane_11 rfl 2 rfl ?_
    by_cases cw40_0 : x2 = (0 : Int32)
    · replace h := ifp cw40_0 h
      have hq : x2.toInt = 0 := by rw [cw40_0]; rfl
      refine g_tswIn (off := 40) (tgt := 52) C dX11_lane_12 (by rw [hq]; decide) (by rw [hq]; decide) (by rw [hq]; rfl) (by decide) ?_
      refine g_aload_n (pc := 52) C dX11_lane_52 rfl 0 rfl ?_
      refine g_get (pc := 53) (v := va_rf (gR M x0 3)) C dX11_lane_53 kX11 hk1 3 (by decide) q_427 rfl ?_
      replace h := bnd h; obtain ⟨a4, ea4, h⟩ := h
      refine g_refq ea4 ?_
      replace h := gd_some h; obtain ⟨hk5, h⟩ := h
      refine g_get (pc := 56) (v := va_rf (gR M a4 0)) C dX11_lane_56 kX5 hk5 0 (by decide) q_288 rfl ?_
      replace h := bnd h; obtain ⟨a6, ea6, h⟩ := h
      refine g_refq ea6 ?_
      replace h := gd_some h; obtain ⟨hk7, h⟩ := h
      refine g_get (pc := 59) (v := va_rf (gR M a6 0)) C dX11_lane_59 kX3 hk7 0 (by decide) q_218 rfl ?_
      replace h := bnd h; obtain ⟨a8, ea8, h⟩ := h
      refine g_refq ea8 ?_
      refine g_iload_n (pc := 62) C dX11_lane_62 rfl 1 rfl ?_
      replace h := gd_some h; obtain ⟨hk9, h⟩ := h
      replace h := gv_some h; obtain ⟨hi10, h⟩ := h
      refine g_iald (pc := 63) C dX11_lane_63 hk9 hi10 ?_
      obtain ⟨rfl, rfl⟩ := Prod.mk.inj (Option.some.inj h)
      exact g_iret C hR dX11_lane_64
    · replace h := ifn cw40_0 h
      by_cases cw40_1 : x2 = (1 : Int32)
      · replace h := ifp cw40_1 h
        have hq : x2.toInt = 1 := by rw [cw40_1]; rfl
        refine g_tswIn (off := 53) (tgt := 65) C dX11_lane_12 (by rw [hq]; decide) (by rw [hq]; decide) (by rw [hq]; rfl) (by decide) ?_
        refine g_aload_n (pc := 65) C dX11_lane_65 rfl 0 rfl ?_
        refine g_get (pc := 66) (v := va_rf (gR M x0 3)) C dX11_lane_66 kX11 hk1 3 (by decide) q_427 rfl ?_
        replace h := bnd h; obtain ⟨a11, ea11, h⟩ := h
        refine g_refq ea11 ?_
        replace h := gd_some h; obtain ⟨hk12, h⟩ := h
        refine g_get (pc := 69) (v := va_rf (gR M a11 0)) C dX11_lane_69 kX5 hk12 0 (by decide) q_288 rfl ?_
        replace h := bnd h; obtain ⟨a13, ea13, h⟩ := h
        refine g_refq ea13 ?_
        replace h := gd_some h; obtain ⟨hk14, h⟩ := h
        refine g_get (pc := 72) (v := va_rf (gR M a13 1)) C dX11_lane_72 kX3 hk14 1 (by decide) q_221 rfl ?_
        replace h := bnd h; obtain ⟨a15, ea15, h⟩ := h
        refine g_refq ea15 ?_
        refine g_iload_n (pc := 75) C dX11_lane_75 rfl 1 rfl ?_
        replace h := gd_some h; obtain ⟨hk16, h⟩ := h
        replace h := gv_some h; obtain ⟨hi17, h⟩ := h
        refine g_iald (pc := 76) C dX11_lane_76 hk16 hi17 ?_
        obtain ⟨rfl, rfl⟩ := Prod.mk.inj (Option.some.inj h)
        exact g_iret C hR dX11_lane_77
      · replace h := ifn cw40_1 h
        by_cases cw40_2 : x2 = (2 : Int32)
        · replace h := ifp cw40_2 h
          have hq : x2.toInt = 2 := by rw [cw40_2]; rfl
          refine g_tswIn (off := 66) (tgt := 78) C dX11_lane_12 (by rw [hq]; decide) (by rw [hq]; decide) (by rw [hq]; rfl) (by decide) ?_
          refine g_aload_n (pc := 78) C dX11_lane_78 rfl 0 rfl ?_
          refine g_get (pc := 79) (v := va_rf (gR M x0 3)) C dX11_lane_79 kX11 hk1 3 (by decide) q_427 rfl ?_
          replace h := bnd h; obtain ⟨a18, ea18, h⟩ := h
          refine g_refq ea18 ?_
          replace h := gd_some h; obtain ⟨hk19, h⟩ := h
          refine g_get (pc := 82) (v := va_rf (gR M a18 0)) C dX11_lane_82 kX5 hk19 0 (by decide) q_288 rfl ?_
          replace h := bnd h; obtain ⟨a20, ea20, h⟩ := h
          refine g_refq ea20 ?_
          replace h := gd_some h; obtain ⟨hk21, h⟩ := h
          refine g_get (pc := 85) (v := va_rf (gR M a20 2)) C dX11_lane_85 kX3 hk21 2 (by decide) q_226 rfl ?_
          replace h := bnd h; obtain ⟨a22, ea22, h⟩ := h
          refine g_refq ea22 ?_
          refine g_iload_n (pc := 88) C dX11_lane_88 rfl 1 rfl ?_
          replace h := gd_some h; obtain ⟨hk23, h⟩ := h
          replace h := gv_some h; obtain ⟨hi24, h⟩ := h
          refine g_iald (pc := 89) C dX11_lane_89 hk23 hi24 ?_
          obtain ⟨rfl, rfl⟩ := Prod.mk.inj (Option.some.inj h)
          exact g_iret C hR dX11_lane_90
        · replace h := ifn cw40_2 h
          by_cases cw40_3 : x2 = (3 : Int32)
          · replace h := ifp cw40_3 h
            have hq : x2.toInt = 3 := by rw [cw40_3]; rfl
            refine g_tswIn (off := 79) (tgt := 91) C dX11_lane_12 (by rw [hq]; decide) (by rw [hq]; decide) (by rw [hq]; rfl) (by decide) ?_
            refine g_aload_n (pc := 91) C dX11_lane_91 rfl 0 rfl ?_
            refine g_get (pc := 92) (v := va_rf (gR M x0 3)) C dX11_lane_92 kX11 hk1 3 (by decide) q_427 rfl ?_
            replace h := bnd h; obtain ⟨a25, ea25, h⟩ := h
            refine g_refq ea25 ?_
            replace h := gd_some h; obtain ⟨hk26, h⟩ := h
            refine g_get (pc := 95) (v := va_rf (gR M a25 0)) C dX11_lane_95 kX5 hk26 0 (by decide) q_288 rfl ?_
            replace h := bnd h; obtain ⟨a27, ea27, h⟩ := h
            refine g_refq ea27 ?_
            replace h := gd_some h; obtain ⟨hk28, h⟩ := h
            refine g_get (pc := 98) (v := va_rf (gR M a27 3)) C dX11_lane_98 kX3 hk28 3 (by decide) q_230 rfl ?_
            replace h := bnd h; obtain ⟨a29, ea29, h⟩ := h
            refine g_refq ea29 ?_
            refine g_iload_n (pc := 101) C dX11_lane_101 rfl 1 rfl ?_
            replace h := gd_some h; obtain ⟨hk30, h⟩ := h
            replace h := gv_some h; obtain ⟨hi31, h⟩ := h
            refine g_iald (pc := 102) C dX11_lane_102 hk30 hi31 ?_
            obtain ⟨rfl, rfl⟩ := Prod.mk.inj (Option.some.inj h)
            exact g_iret C hR dX11_lane_103
          · replace h := ifn cw40_3 h
            by_cases cw40_4 : x2 = (4 : Int32)
            · replace h := ifp cw40_4 h
              have hq : x2.toInt = 4 := by rw [cw40_4]; rfl
              refine g_tswIn (off := 92) (tgt := 104) C dX11_lane_12 (by rw [hq]; decide) (by rw [hq]; decide) (by rw [hq]; rfl) (by decide) ?_
              refine g_aload_n (pc := 104) C dX11_lane_104 rfl 0 rfl ?_
              refine g_get (pc := 105) (v := va_rf (gR M x0 5)) C dX11_lane_105 kX11 hk1 5 (by decide) q_429 rfl ?_
              replace h := bnd h; obtain ⟨a32, ea32, h⟩ := h
              refine g_refq ea32 ?_
              replace h := gd_some h; obtain ⟨hk33, h⟩ := h
              refine g_get (pc := 108) (v := va_rf (gR M a32 0)) C dX11_lane_108 kX8 hk33 0 (by decide) q_375 rfl ?_
              replace h := bnd h; obtain ⟨a34, ea34, h⟩ := h
              refine g_refq ea34 ?_
              refine g_iload_n (pc := 111) C dX11_lane_111 rfl 1 rfl ?_
              replace h := gd_some h; obtain ⟨hk35, h⟩ := h
              replace h := gv_some h; obtain ⟨hi36, h⟩ := h
              refine g_iald (pc := 112) C dX11_lane_112 hk35 hi36 ?_
              obtain ⟨rfl, rfl⟩ := Prod.mk.inj (Option.some.inj h)
              exact g_iret C hR dX11_lane_113
            · replace h := ifn cw40_4 h
              by_cases cw40_5 : x2 = (5 : Int32)
              · replace h := ifp cw40_5 h
                have hq : x2.toInt = 5 := by rw [cw40_5]; rfl
                refine g_tswIn (off := 102) (tgt := 114) C dX11_lane_12 (by rw [hq]; decide) (by rw [hq]; decide) (by rw [hq]; rfl) (by decide) ?_
                refine g_aload_n (pc := 114) C dX11_lane_114 rfl 0 rfl ?_
                refine g_iload_n (pc := 115) C dX11_lane_115 rfl 1 rfl ?_
                replace h := bnd2 h; obtain ⟨r37, M38, h1, h⟩ := h
                refine g_callVi (pc := 116) (As := [.int (x1)]) (st := []) C dX11_lane_116 wX11_passesInPoint hk1 rfl (by decide) q_773 q_21 q_771 (by omega) rfl (Nat.le_of_ble_eq_true rfl) (kX11_passesInPoint (d := 4) (Nat.le_refl _) h1) ?_
                refine g_if_eq (pc := 119) (tgt := 126) C dX11_lane_119 (by decide) (fun c39 => ?_) (fun c39 => ?_)
                · replace h := ifp c39 h
                  refine g_iconst (pc := 126) (v := 0) C dX11_lane_126 (by decide) ?_
                  obtain ⟨rfl, rfl⟩ := Prod.mk.inj (Option.some.inj h)
                  exact g_iret C hR dX11_lane_127
                · replace h := ifn c39 h
                  refine g_iconst (pc := 122) (v := 1) C dX11_lane_122 (by decide) ?_
                  refine g_goto (pc := 123) (tgt := 127) C dX11_lane_123 (by decide) ?_
                  obtain ⟨rfl, rfl⟩ := Prod.mk.inj (Option.some.inj h)
                  exact g_iret C hR dX11_lane_127
              · replace h := ifn cw40_5 h
                refine g_tswOut (tgt := 128) C dX11_lane_12 (by
                    have := sw_ne cw40_0 (i := 0) rfl
                    have := sw_ne cw40_1 (i := 1) rfl
                    have := sw_ne cw40_2 (i := 2) rfl
                    have := sw_ne cw40_3 (i := 3) rfl
                    have := sw_ne cw40_4 (i := 4) rfl
                    have := sw_ne cw40_5 (i := 5) rfl
                    omega) (by decide) ?_
                refine g_bipush (pc := 128) (v := (-2)) C dX11_lane_128 (by decide) ?_
                obtain ⟨rfl, rfl⟩ := Prod.mk.inj (Option.some.inj h)
                exact g_iret C hR dX11_lane_130
  · replace h := ifn c3 h
    refine g_bipush (pc := 8) (v := (-2)) C dX11_lane_8 (by decide) ?_
    obtain ⟨rfl, rfl⟩ := Prod.mk.inj (Option.some.inj h)
    exact g_iret C hR dX11_lane_10
theorem dX11_stress_0 : decode cX11_stress 0 = .ok (.iload_n 1, 1) := by decide +kernel
theorem dX11_stress_1 : decode cX11_stress 1 = .ok (.ifCond .lt 17, 3) := by decide +kernel
theorem dX11_stress_4 : decode cX11_stress 4 = .ok (.iload_n 1, 1) := by decide +kernel
theorem dX11_stress_5 : decode cX11_stress 5 = .ok (.aload_n 0, 1) := by decide +kernel
theorem dX11_stress_6 : decode cX11_stress 6 = .ok (.getfield 28, 3) := by decide +kernel
theorem dX11_stress_9 : decode cX11_stress 9 = .ok (.getfield 111, 3) := by decide +kernel
theorem dX11_stress_12 : decode cX11_stress 12 = .ok (.getfield 133, 3) := by decide +kernel
theorem dX11_stress_15 : decode cX11_stress 15 = .ok (.if_icmp .lt 8, 3) := by decide +kernel
theorem dX11_stress_18 : decode cX11_stress 18 = .ok (.bipush (-2), 2) := by decide +kernel
theorem dX11_stress_20 : decode cX11_stress 20 = .ok (.goto 17, 3) := by decide +kernel
theorem dX11_stress_23 : decode cX11_stress 23 = .ok (.aload_n 0, 1) := by decide +kernel
theorem dX11_stress_24 : decode cX11_stress 24 = .ok (.getfield 28, 3) := by decide +kernel
theorem dX11_stress_27 : decode cX11_stress 27 = .ok (.getfield 111, 3) := by decide +kernel
theorem dX11_stress_30 : decode cX11_stress 30 = .ok (.getfield 136, 3) := by decide +kernel
theorem dX11_stress_33 : decode cX11_stress 33 = .ok (.iload_n 1, 1) := by decide +kernel
theorem dX11_stress_34 : decode cX11_stress 34 = .ok (.iconst 1, 1) := by decide +kernel
theorem dX11_stress_35 : decode cX11_stress 35 = .ok (.iadd, 1) := by decide +kernel
theorem dX11_stress_36 : decode cX11_stress 36 = .ok (.iaload, 1) := by decide +kernel
theorem dX11_stress_37 : decode cX11_stress 37 = .ok (.ireturn, 1) := by decide +kernel
theorem wX11_stress : Mw yX11_stress cX11_stress 2 (some .int) 1 := ⟨q_812, q_120, by decide, ⟨by decide +kernel, by decide +kernel⟩, by decide +kernel, by decide +kernel⟩
/-- EyeTrainer.stress(I)I -/
def fX11_stress (T : Sh) (M : Me) (x0 : Nat) (x1 : Int32) : Option (Int32) :=
  if x1 < 0 then (some (-2 : Int32)) else (gd (kd T x0 = 10) <| Option.bind (gR M x0 3) fun a3 => gd (kd T a3 = 4) <| Option.bind (gR M a3 0) fun a5 => gd (kd T a5 = 2) <| if x1 < (gI M a5 8) then (Option.bind (gR M x0 3) fun a8 => gd (kd T a8 = 4) <| Option.bind (gR M a8 0) fun a10 => gd (kd T a10 = 2) <| Option.bind (gR M a10 4) fun a12 => gd (kd T a12 = 13) <| gv (x1 + (1 : Int32)) (ln T a12) <| some (gI M a12 (Int32.toNatClampNeg (x1 + (1 : Int32))))) else (some (-2 : Int32)))
set_option maxHeartbeats 4000000 in
theorem kX11_stress {l : Launch} {B : Bx} {d : Nat} (hd : 0 ≤ d) {T : Sh} {M : Me} {x0 : Nat} {x1 : Int32} {r : Int32} (h : fX11_stress T M x0 x1 = some r) : Kt l B yX11_stress cX11_stress 2 (some .int) d [.ref (x0), .int (x1)] T M (some (.int r)) T M := by
  refine kt_of wX11_stress (Nat.le_refl _) (Nat.le_refl _) (Nat.le_of_ble_eq_true rfl) (fun X C hR hlx hin => ?_)
  subst hlx
  replace C : Cx X B cX11_stress 2 RX11 d (tp T, sl T, tp T, sl T) := C
  unfold fX11_stress at h
  show G X B 2 _ _ 0 [(0, .ref (x0)), (1, .int (x1))] [] T M
  refine g_iload_n (pc := 0) C dX11_stress_0 rfl 1 rfl ?_
  refine g_if_lt (pc := 1) (tgt := 18) C dX11_stress_1 (by decide) (fun c1 => ?_) (fun c1 => ?_)
  · replace h := ifp c1 h
    refine g_bipush (pc := 18) (v := (-2)) C dX11_stress_18 (by decide) ?_
    refine g_goto (pc := 20) (tgt := 37) C dX11_stress_20 (by decide) ?_
    obtain rfl := Option.some.inj h
    exact g_iret C hR dX11_stress_37
  · replace h := ifn c1 h
    refine g_iload_n (pc := 4) C dX11_stress_4 rfl 1 rfl ?_
    refine g_aload_n (pc := 5) C dX11_stress_5 rfl 0 rfl ?_
    replace h := gd_some h; obtain ⟨hk2, h⟩ := h
    refine g_get (pc := 6) (v := va_rf (gR M x0 3)) C dX11_stress_6 kX11 hk2 3 (by decide) q_427 rfl ?_
    replace h := bnd h; obtain ⟨a3, ea3, h⟩ := h
    refine g_refq ea3 ?_
    replace h := gd_some h; obtain ⟨hk4, h⟩ := h
    refine g_get (pc := 9) (v := va_rf (gR M a3 0)) C dX11_stress_9 kX5 hk4 0 (by decide) q_288 rfl ?_
    replace h := bnd h; obtain ⟨a5, ea5, h⟩ := h
    refine g_refq ea5 ?_
    replace h := gd_some h; obtain ⟨hk6, h⟩ := h
    refine g_get (pc := 12) (v := .int (gI M a5 8)) C dX11_stress_12 kX3 hk6 8 (by decide) q_244 rfl ?_
    refine g_icmp_lt (pc := 15) (tgt := 23) C dX11_stress_15 (by decide) (fun c7 => ?_) (fun c7 => ?_)
    · replace h := ifp c7 h
      refine g_aload_n (pc := 23) C dX11_stress_23 rfl 0 rfl ?_
      refine g_get (pc := 24) (v := va_rf (gR M x0 3)) C dX11_stress_24 kX11 hk2 3 (by decide) q_427 rfl ?_
      replace h := bnd h; obtain ⟨a8, ea8, h⟩ := h
      refine g_refq ea8 ?_
      replace h := gd_some h; obtain ⟨hk9, h⟩ := h
      refine g_get (pc := 27) (v := va_rf (gR M a8 0)) C dX11_stress_27 kX5 hk9 0 (by decide) q_288 rfl ?_
      replace h := bnd h; obtain ⟨a10, ea10, h⟩ := h
      refine g_refq ea10 ?_
      replace h := gd_some h; obtain ⟨hk11, h⟩ := h
      refine g_get (pc := 30) (v := va_rf (gR M a10 4)) C dX11_stress_30 kX3 hk11 4 (by decide) q_234 rfl ?_
      replace h := bnd h; obtain ⟨a12, ea12, h⟩ := h
      refine g_refq ea12 ?_
      refine g_iload_n (pc := 33) C dX11_stress_33 rfl 1 rfl ?_
      refine g_iconst (pc := 34) (v := 1) C dX11_stress_34 (by decide) ?_
      refine g_iadd (pc := 35) C dX11_stress_35 ?_
      replace h := gd_some h; obtain ⟨hk13, h⟩ := h
      replace h := gv_some h; obtain ⟨hi14, h⟩ := h
      refine g_iald (pc := 36) C dX11_stress_36 hk13 hi14 ?_
      obtain rfl := Option.some.inj h
      exact g_iret C hR dX11_stress_37
    · replace h := ifn c7 h
      refine g_bipush (pc := 18) (v := (-2)) C dX11_stress_18 (by decide) ?_
      refine g_goto (pc := 20) (tgt := 37) C dX11_stress_20 (by decide) ?_
      obtain rfl := Option.some.inj h
      exact g_iret C hR dX11_stress_37
theorem dX11_drift_0 : decode cX11_drift 0 = .ok (.iload_n 1, 1) := by decide +kernel
theorem dX11_drift_1 : decode cX11_drift 1 = .ok (.ifCond .lt 10, 3) := by decide +kernel
theorem dX11_drift_4 : decode cX11_drift 4 = .ok (.iload_n 1, 1) := by decide +kernel
theorem dX11_drift_5 : decode cX11_drift 5 = .ok (.sipush 9999, 3) := by decide +kernel
theorem dX11_drift_8 : decode cX11_drift 8 = .ok (.if_icmp .le 8, 3) := by decide +kernel
theorem dX11_drift_11 : decode cX11_drift 11 = .ok (.ldc 139, 2) := by decide +kernel
theorem dX11_drift_13 : decode cX11_drift 13 = .ok (.goto 11, 3) := by decide +kernel
theorem dX11_drift_16 : decode cX11_drift 16 = .ok (.aload_n 0, 1) := by decide +kernel
theorem dX11_drift_17 : decode cX11_drift 17 = .ok (.getfield 28, 3) := by decide +kernel
theorem dX11_drift_20 : decode cX11_drift 20 = .ok (.iload_n 1, 1) := by decide +kernel
theorem dX11_drift_21 : decode cX11_drift 21 = .ok (.invokevirtual 140, 3) := by decide +kernel
theorem dX11_drift_24 : decode cX11_drift 24 = .ok (.ireturn, 1) := by decide +kernel
theorem wX11_drift : Mw yX11_drift cX11_drift 2 (some .int) 1 := ⟨q_816, q_120, by decide, ⟨by decide +kernel, by decide +kernel⟩, by decide +kernel, by decide +kernel⟩
/-- EyeTrainer.drift(I)I -/
def fX11_drift (T : Sh) (M : Me) (x0 : Nat) (x1 : Int32) : Option (Int32 × Me) :=
  if x1 < 0 then (some ((-99000003 : Int32), M)) else (if x1 ≤ (9999 : Int32) then (gd (kd T x0 = 10) <| Option.bind (gR M x0 3) fun a4 => gd (kd T a4 = 4) <| Option.bind (fX5_driftAt T M a4 x1) <| un2 fun r6 M7 => some (r6, M7)) else (some ((-99000003 : Int32), M)))
set_option maxHeartbeats 4000000 in
theorem kX11_drift {l : Launch} {B : Bx} {d : Nat} (hd : 2 ≤ d) {T : Sh} {M : Me} {x0 : Nat} {x1 : Int32} {r : Int32} {M' : Me} (h : fX11_drift T M x0 x1 = some (r, M')) : Kt l B yX11_drift cX11_drift 2 (some .int) d [.ref (x0), .int (x1)] T M (some (.int r)) T M' := by
  refine kt_of wX11_drift (Nat.le_refl _) (Nat.le_refl _) (Nat.le_of_ble_eq_true rfl) (fun X C hR hlx hin => ?_)
  subst hlx
  replace C : Cx X B cX11_drift 2 RX11 d (tp T, sl T, tp T, sl T) := C
  unfold fX11_drift at h
  show G X B 2 _ _ 0 [(0, .ref (x0)), (1, .int (x1))] [] T M
  refine g_iload_n (pc := 0) C dX11_drift_0 rfl 1 rfl ?_
  refine g_if_lt (pc := 1) (tgt := 11) C dX11_drift_1 (by decide) (fun c1 => ?_) (fun c1 => ?_)
  · replace h := ifp c1 h
    refine g_ldc (pc := 11) C dX11_drift_11 q_817 ?_
    refine g_goto (pc := 13) (tgt := 24) C dX11_drift_13 (by decide) ?_
    obtain ⟨rfl, rfl⟩ := Prod.mk.inj (Option.some.inj h)
    exact g_iret C hR dX11_drift_24
  · replace h := ifn c1 h
    refine g_iload_n (pc := 4) C dX11_drift_4 rfl 1 rfl ?_
    refine g_sipush (pc := 5) (v := 9999) C dX11_drift_5 (by decide) ?_
    refine g_icmp_le (pc := 8) (tgt := 16) C dX11_drift_8 (by decide) (fun c2 => ?_) (fun c2 => ?_)
    · replace h := ifp c2 h
      refine g_aload_n (pc := 16) C dX11_drift_16 rfl 0 rfl ?_
      replace h := gd_some h; obtain ⟨hk3, h⟩ := h
      refine g_get (pc := 17) (v := va_rf (gR M x0 3)) C dX11_drift_17 kX11 hk3 3 (by decide) q_427 rfl ?_
      replace h := bnd h; obtain ⟨a4, ea4, h⟩ := h
      refine g_refq ea4 ?_
      refine g_iload_n (pc := 20) C dX11_drift_20 rfl 1 rfl ?_
      replace h := gd_some h; obtain ⟨hk5, h⟩ := h
      replace h := bnd2 h; obtain ⟨r6, M7, h1, h⟩ := h
      refine g_callVi (pc := 21) (As := [.int (x1)]) (st := []) C dX11_drift_21 wX5_driftAt hk5 rfl (by decide) q_780 q_781 q_779 (by omega) rfl (Nat.le_of_ble_eq_true rfl) (kX5_driftAt (d := 1) (Nat.le_refl _) h1) ?_
      obtain ⟨rfl, rfl⟩ := Prod.mk.inj (Option.some.inj h)
      exact g_iret C hR dX11_drift_24
    · replace h := ifn c2 h
      refine g_ldc (pc := 11) C dX11_drift_11 q_817 ?_
      refine g_goto (pc := 13) (tgt := 24) C dX11_drift_13 (by decide) ?_
      obtain ⟨rfl, rfl⟩ := Prod.mk.inj (Option.some.inj h)
      exact g_iret C hR dX11_drift_24
theorem dX11_passes_0 : decode cX11_passes 0 = .ok (.aload_n 0, 1) := by decide +kernel
theorem dX11_passes_1 : decode cX11_passes 1 = .ok (.iload_n 1, 1) := by decide +kernel
theorem dX11_passes_2 : decode cX11_passes 2 = .ok (.invokevirtual 107, 3) := by decide +kernel
theorem dX11_passes_5 : decode cX11_passes 5 = .ok (.ifCond .ne 10, 3) := by decide +kernel
theorem dX11_passes_8 : decode cX11_passes 8 = .ok (.iload_n 2, 1) := by decide +kernel
theorem dX11_passes_9 : decode cX11_passes 9 = .ok (.invokestatic 144, 3) := by decide +kernel
theorem dX11_passes_12 : decode cX11_passes 12 = .ok (.ifCond .eq 6, 3) := by decide +kernel
theorem dX11_passes_15 : decode cX11_passes 15 = .ok (.bipush (-2), 2) := by decide +kernel
theorem dX11_passes_17 : decode cX11_passes 17 = .ok (.ireturn, 1) := by decide +kernel
theorem dX11_passes_18 : decode cX11_passes 18 = .ok (.aload_n 0, 1) := by decide +kernel
theorem dX11_passes_19 : decode cX11_passes 19 = .ok (.iload_n 1, 1) := by decide +kernel
theorem dX11_passes_20 : decode cX11_passes 20 = .ok (.iload_n 2, 1) := by decide +kernel
theorem dX11_passes_21 : decode cX11_passes 21 = .ok (.bipush 24, 2) := by decide +kernel
theorem dX11_passes_23 : decode cX11_passes 23 = .ok (.idiv, 1) := by decide +kernel
theorem dX11_passes_24 : decode cX11_passes 24 = .ok (.invokevirtual 147, 3) := by decide +kernel
theorem dX11_passes_27 : decode cX11_passes 27 = .ok (.iload_n 2, 1) := by decide +kernel
theorem dX11_passes_28 : decode cX11_passes 28 = .ok (.bipush 24, 2) := by decide +kernel
theorem dX11_passes_30 : decode cX11_passes 30 = .ok (.irem, 1) := by decide +kernel
theorem dX11_passes_31 : decode cX11_passes 31 = .ok (.ishr, 1) := by decide +kernel
theorem dX11_passes_32 : decode cX11_passes 32 = .ok (.iconst 1, 1) := by decide +kernel
theorem dX11_passes_33 : decode cX11_passes 33 = .ok (.iand, 1) := by decide +kernel
theorem dX11_passes_34 : decode cX11_passes 34 = .ok (.ireturn, 1) := by decide +kernel
theorem wX11_passes : Mw yX11_passes cX11_passes 3 (some .int) 2 := ⟨q_821, q_120, by decide, ⟨by decide +kernel, by decide +kernel⟩, by decide +kernel, by decide +kernel⟩
/-- EyeTrainer.passes(II)I -/
def fX11_passes (T : Sh) (M : Me) (x0 : Nat) (x1 : Int32) (x2 : Int32) : Option (Int32 × Me) :=
  gd (kd T x0 = 10) <| Option.bind (fX11_noLane T M x0 x1) fun r2 => if r2 = 0 then (Option.bind (fX11_noCell x2) fun r4 => if r4 = 0 then (Option.bind (fX11_rowNow T M x0 x1 (x2 / (24 : Int32))) <| un2 fun r6 M7 => some (((r6 >>> ((x2 - x2 / (24 : Int32) * (24 : Int32)) &&& 31)) &&& (1 : Int32)), M7)) else (some ((-2 : Int32), M))) else (some ((-2 : Int32), M))
set_option maxHeartbeats 4000000 in
theorem kX11_passes {l : Launch} {B : Bx} {d : Nat} (hd : 4 ≤ d) {T : Sh} {M : Me} {x0 : Nat} {x1 : Int32} {x2 : Int32} {r : Int32} {M' : Me} (h : fX11_passes T M x0 x1 x2 = some (r, M')) : Kt l B yX11_passes cX11_passes 3 (some .int) d [.ref (x0), .int (x1), .int (x2)] T M (some (.int r)) T M' := by
  refine kt_of wX11_passes (Nat.le_refl _) (Nat.le_refl _) (Nat.le_of_ble_eq_true rfl) (fun X C hR hlx hin => ?_)
  subst hlx
  replace C : Cx X B cX11_passes 3 RX11 d (tp T, sl T, tp T, sl T) := C
  unfold fX11_passes at h
  show G X B 3 _ _ 0 [(0, .ref (x0)), (1, .int (x1)), (2, .int (x2))] [] T M
  refine g_aload_n (pc := 0) C dX11_passes_0 rfl 0 rfl ?_
  refine g_iload_n (pc := 1) C dX11_passes_1 rfl 1 rfl ?_
  replace h := gd_some h; obtain ⟨hk1, h⟩ := h
  replace h := bnd h; obtain ⟨r2, h1, h⟩ := h
  refine g_callVi (pc := 2) (As := [.int (x1)]) (st := []) C dX11_passes_2 wX11_noLane hk1 rfl (by decide) q_769 q_20 q_767 (by omega) rfl (Nat.le_of_ble_eq_true rfl) (kX11_noLane (d := 0) (Nat.le_refl _) h1) ?_
  refine g_if_ne (pc := 5) (tgt := 15) C dX11_passes_5 (by decide) (fun c3 => ?_) (fun c3 => ?_)
  · replace h := ifn c3 h
    refine g_bipush (pc := 15) (v := (-2)) C dX11_passes_15 (by decide) ?_
    obtain ⟨rfl, rfl⟩ := Prod.mk.inj (Option.some.inj h)
    exact g_iret C hR dX11_passes_17
  · replace h := ifp c3 h
    refine g_iload_n (pc := 8) C dX11_passes_8 rfl 2 rfl ?_
    replace h := bnd h; obtain ⟨r4, h1, h⟩ := h
    refine g_callSi (pc := 9) (As := [.int (x2)]) (st := []) C dX11_passes_9 wX11_noCell q_823 q_822 (by omega) rfl (Nat.le_of_ble_eq_true rfl) (kX11_noCell (d := 0) (Nat.le_refl _) h1) ?_
    refine g_if_eq (pc := 12) (tgt := 18) C dX11_passes_12 (by decide) (fun c5 => ?_) (fun c5 => ?_)
    · replace h := ifp c5 h
      refine g_aload_n (pc := 18) C dX11_passes_18 rfl 0 rfl ?_
      refine g_iload_n (pc := 19) C dX11_passes_19 rfl 1 rfl ?_
      refine g_iload_n (pc := 20) C dX11_passes_20 rfl 2 rfl ?_
      refine g_bipush (pc := 21) (v := 24) C dX11_passes_21 (by decide) ?_
      refine g_idiv (pc := 23) C dX11_passes_23 (by decide) ?_
      replace h := bnd2 h; obtain ⟨r6, M7, h1, h⟩ := h
      refine g_callVi (pc := 24) (As := [.int (x1), .int (x2 / (24 : Int32))]) (st := []) C dX11_passes_24 wX11_rowNow hk1 rfl (by decide) q_827 q_24 q_825 (by omega) rfl (Nat.le_of_ble_eq_true rfl) (kX11_rowNow (d := 3) (Nat.le_refl _) h1) ?_
      refine g_iload_n (pc := 27) C dX11_passes_27 rfl 2 rfl ?_
      refine g_bipush (pc := 28) (v := 24) C dX11_passes_28 (by decide) ?_
      refine g_irem (pc := 30) C dX11_passes_30 (by decide) ?_
      refine g_ishr (pc := 31) C dX11_passes_31 ?_
      refine g_iconst (pc := 32) (v := 1) C dX11_passes_32 (by decide) ?_
      refine g_iand (pc := 33) C dX11_passes_33 ?_
      obtain ⟨rfl, rfl⟩ := Prod.mk.inj (Option.some.inj h)
      exact g_iret C hR dX11_passes_34
    · replace h := ifn c5 h
      refine g_bipush (pc := 15) (v := (-2)) C dX11_passes_15 (by decide) ?_
      obtain ⟨rfl, rfl⟩ := Prod.mk.inj (Option.some.inj h)
      exact g_iret C hR dX11_passes_17
theorem dX11_row_0 : decode cX11_row 0 = .ok (.aload_n 0, 1) := by decide +kernel
theorem dX11_row_1 : decode cX11_row 1 = .ok (.iload_n 1, 1) := by decide +kernel
theorem dX11_row_2 : decode cX11_row 2 = .ok (.invokevirtual 107, 3) := by decide +kernel
theorem dX11_row_5 : decode cX11_row 5 = .ok (.ifCond .ne 13, 3) := by decide +kernel
theorem dX11_row_8 : decode cX11_row 8 = .ok (.iload_n 2, 1) := by decide +kernel
theorem dX11_row_9 : decode cX11_row 9 = .ok (.ifCond .lt 9, 3) := by decide +kernel
theorem dX11_row_12 : decode cX11_row 12 = .ok (.iload_n 2, 1) := by decide +kernel
theorem dX11_row_13 : decode cX11_row 13 = .ok (.bipush 16, 2) := by decide +kernel
theorem dX11_row_15 : decode cX11_row 15 = .ok (.if_icmp .lt 8, 3) := by decide +kernel
theorem dX11_row_18 : decode cX11_row 18 = .ok (.bipush (-2), 2) := by decide +kernel
theorem dX11_row_20 : decode cX11_row 20 = .ok (.goto 9, 3) := by decide +kernel
theorem dX11_row_23 : decode cX11_row 23 = .ok (.aload_n 0, 1) := by decide +kernel
theorem dX11_row_24 : decode cX11_row 24 = .ok (.iload_n 1, 1) := by decide +kernel
theorem dX11_row_25 : decode cX11_row 25 = .ok (.iload_n 2, 1) := by decide +kernel
theorem dX11_row_26 : decode cX11_row 26 = .ok (.invokevirtual 147, 3) := by decide +kernel
theorem dX11_row_29 : decode cX11_row 29 = .ok (.ireturn, 1) := by decide +kernel
theorem wX11_row : Mw yX11_row cX11_row 3 (some .int) 2 := ⟨q_832, q_120, by decide, ⟨by decide +kernel, by decide +kernel⟩, by decide +kernel, by decide +kernel⟩
/-- EyeTrainer.row(II)I -/
def fX11_row (T : Sh) (M : Me) (x0 : Nat) (x1 : Int32) (x2 : Int32) : Option (Int32 × Me) :=
  gd (kd T x0 = 10) <| Option.bind (fX11_noLane T M x0 x1) fun r2 => if r2 = 0 then (if x2 < 0 then (some ((-2 : Int32), M)) else (if x2 < (16 : Int32) then (Option.bind (fX11_rowNow T M x0 x1 x2) <| un2 fun r6 M7 => some (r6, M7)) else (some ((-2 : Int32), M)))) else (some ((-2 : Int32), M))
set_option maxHeartbeats 4000000 in
theorem kX11_row {l : Launch} {B : Bx} {d : Nat} (hd : 4 ≤ d) {T : Sh} {M : Me} {x0 : Nat} {x1 : Int32} {x2 : Int32} {r : Int32} {M' : Me} (h : fX11_row T M x0 x1 x2 = some (r, M')) : Kt l B yX11_row cX11_row 3 (some .int) d [.ref (x0), .int (x1), .int (x2)] T M (some (.int r)) T M' := by
  refine kt_of wX11_row (Nat.le_refl _) (Nat.le_refl _) (Nat.le_of_ble_eq_true rfl) (fun X C hR hlx hin => ?_)
  subst hlx
  replace C : Cx X B cX11_row 3 RX11 d (tp T, sl T, tp T, sl T) := C
  unfold fX11_row at h
  show G X B 3 _ _ 0 [(0, .ref (x0)), (1, .int (x1)), (2, .int (x2))] [] T M
  refine g_aload_n (pc := 0) C dX11_row_0 rfl 0 rfl ?_
  refine g_iload_n (pc := 1) C dX11_row_1 rfl 1 rfl ?_
  replace h := gd_some h; obtain ⟨hk1, h⟩ := h
  replace h := bnd h; obtain ⟨r2, h1, h⟩ := h
  refine g_callVi (pc := 2) (As := [.int (x1)]) (st := []) C dX11_row_2 wX11_noLane hk1 rfl (by decide) q_769 q_20 q_767 (by omega) rfl (Nat.le_of_ble_eq_true rfl) (kX11_noLane (d := 0) (Nat.le_refl _) h1) ?_
  refine g_if_ne (pc := 5) (tgt := 18) C dX11_row_5 (by decide) (fun c3 => ?_) (fun c3 => ?_)
  · replace h := ifn c3 h
    refine g_bipush (pc := 18) (v := (-2)) C dX11_row_18 (by decide) ?_
    refine g_goto (pc := 20) (tgt := 29) C dX11_row_20 (by decide) ?_
    obtain ⟨rfl, rfl⟩ := Prod.mk.inj (Option.some.inj h)
    exact g_iret C hR dX11_row_29
  · replace h := ifp c3 h
    refine g_iload_n (pc := 8) C dX11_row_8 rfl 2 rfl ?_
    refine g_if_lt (pc := 9) (tgt := 18) C dX11_row_9 (by decide) (fun c4 => ?_) (fun c4 => ?_)
    · replace h := ifp c4 h
      refine g_bipush (pc := 18) (v := (-2)) C dX11_row_18 (by decide) ?_
      refine g_goto (pc := 20) (tgt := 29) C dX11_row_20 (by decide) ?_
      obtain ⟨rfl, rfl⟩ := Prod.mk.inj (Option.some.inj h)
      exact g_iret C hR dX11_row_29
    · replace h := ifn c4 h
      refine g_iload_n (pc := 12) C dX11_row_12 rfl 2 rfl ?_
      refine g_bipush (pc := 13) (v := 16) C dX11_row_13 (by decide) ?_
      refine g_icmp_lt (pc := 15) (tgt := 23) C dX11_row_15 (by decide) (fun c5 => ?_) (fun c5 => ?_)
      · replace h := ifp c5 h
        refine g_aload_n (pc := 23) C dX11_row_23 rfl 0 rfl ?_
        refine g_iload_n (pc := 24) C dX11_row_24 rfl 1 rfl ?_
        refine g_iload_n (pc := 25) C dX11_row_25 rfl 2 rfl ?_
        replace h := bnd2 h; obtain ⟨r6, M7, h1, h⟩ := h
        refine g_callVi (pc := 26) (As := [.int (x1), .int (x2)]) (st := []) C dX11_row_26 wX11_rowNow hk1 rfl (by decide) q_827 q_24 q_825 (by omega) rfl (Nat.le_of_ble_eq_true rfl) (kX11_rowNow (d := 3) (Nat.le_refl _) h1) ?_
        obtain ⟨rfl, rfl⟩ := Prod.mk.inj (Option.some.inj h)
        exact g_iret C hR dX11_row_29
      · replace h := ifn c5 h
        refine g_bipush (pc := 18) (v := (-2)) C dX11_row_18 (by decide) ?_
        refine g_goto (pc := 20) (tgt := 29) C dX11_row_20 (by decide) ?_
        obtain ⟨rfl, rfl⟩ := Prod.mk.inj (Option.some.inj h)
        exact g_iret C hR dX11_row_29
theorem dX11_risen_0 : decode cX11_risen 0 = .ok (.aload_n 0, 1) := by decide +kernel
theorem dX11_risen_1 : decode cX11_risen 1 = .ok (.iload_n 1, 1) := by decide +kernel
theorem dX11_risen_2 : decode cX11_risen 2 = .ok (.invokevirtual 107, 3) := by decide +kernel
theorem dX11_risen_5 : decode cX11_risen 5 = .ok (.ifCond .eq 8, 3) := by decide +kernel
theorem dX11_risen_8 : decode cX11_risen 8 = .ok (.bipush (-2), 2) := by decide +kernel
theorem dX11_risen_10 : decode cX11_risen 10 = .ok (.goto 25, 3) := by decide +kernel
theorem dX11_risen_13 : decode cX11_risen 13 = .ok (.aload_n 0, 1) := by decide +kernel
theorem dX11_risen_14 : decode cX11_risen 14 = .ok (.getfield 28, 3) := by decide +kernel
theorem dX11_risen_17 : decode cX11_risen 17 = .ok (.iload_n 1, 1) := by decide +kernel
theorem dX11_risen_18 : decode cX11_risen 18 = .ok (.aload_n 0, 1) := by decide +kernel
theorem dX11_risen_19 : decode cX11_risen 19 = .ok (.getfield 28, 3) := by decide +kernel
theorem dX11_risen_22 : decode cX11_risen 22 = .ok (.aload_n 0, 1) := by decide +kernel
theorem dX11_risen_23 : decode cX11_risen 23 = .ok (.getfield 42, 3) := by decide +kernel
theorem dX11_risen_26 : decode cX11_risen 26 = .ok (.getfield 151, 3) := by decide +kernel
theorem dX11_risen_29 : decode cX11_risen 29 = .ok (.invokevirtual 140, 3) := by decide +kernel
theorem dX11_risen_32 : decode cX11_risen 32 = .ok (.invokevirtual 154, 3) := by decide +kernel
theorem dX11_risen_35 : decode cX11_risen 35 = .ok (.ireturn, 1) := by decide +kernel
theorem wX11_risen : Mw yX11_risen cX11_risen 2 (some .int) 1 := ⟨q_836, q_120, by decide, ⟨by decide +kernel, by decide +kernel⟩, by decide +kernel, by decide +kernel⟩
/-- EyeTrainer.risen(I)I -/
def fX11_risen (T : Sh) (M : Me) (x0 : Nat) (x1 : Int32) : Option (Int32 × Me) :=
  gd (kd T x0 = 10) <| Option.bind (fX11_noLane T M x0 x1) fun r2 => if r2 = 0 then (Option.bind (gR M x0 3) fun a4 => Option.bind (gR M x0 3) fun a5 => Option.bind (gR M x0 5) fun a6 => gd (kd T a6 = 7) <| gd (kd T a5 = 4) <| Option.bind (fX5_driftAt T M a5 (gI M a6 1)) <| un2 fun r9 M10 => gd (kd T a4 = 4) <| Option.bind (fX5_risenAt T M10 a4 x1 r9) <| un2 fun r12 M13 => some (r12, M13)) else (some ((-2 : Int32), M))
set_option maxHeartbeats 4000000 in
theorem kX11_risen {l : Launch} {B : Bx} {d : Nat} (hd : 2 ≤ d) {T : Sh} {M : Me} {x0 : Nat} {x1 : Int32} {r : Int32} {M' : Me} (h : fX11_risen T M x0 x1 = some (r, M')) : Kt l B yX11_risen cX11_risen 2 (some .int) d [.ref (x0), .int (x1)] T M (some (.int r)) T M' := by
  refine kt_of wX11_risen (Nat.le_refl _) (Nat.le_refl _) (Nat.le_of_ble_eq_true rfl) (fun X C hR hlx hin => ?_)
  subst hlx
  replace C : Cx X B cX11_risen 2 RX11 d (tp T, sl T, tp T, sl T) := C
  unfold fX11_risen at h
  show G X B 2 _ _ 0 [(0, .ref (x0)), (1, .int (x1))] [] T M
  refine g_aload_n (pc := 0) C dX11_risen_0 rfl 0 rfl ?_
  refine g_iload_n (pc := 1) C dX11_risen_1 rfl 1 rfl ?_
  replace h := gd_some h; obtain ⟨hk1, h⟩ := h
  replace h := bnd h; obtain ⟨r2, h1, h⟩ := h
  refine g_callVi (pc := 2) (As := [.int (x1)]) (st := []) C dX11_risen_2 wX11_noLane hk1 rfl (by decide) q_769 q_20 q_767 (by omega) rfl (Nat.le_of_ble_eq_true rfl) (kX11_noLane (d := 0) (Nat.le_refl _) h1) ?_
  refine g_if_eq (pc := 5) (tgt := 13) C dX11_risen_5 (by decide) (fun c3 => ?_) (fun c3 => ?_)
  · replace h := ifp c3 h
    refine g_aload_n (pc := 13) C dX11_risen_13 rfl 0 rfl ?_
    refine g_get (pc := 14) (v := va_rf (gR M x0 3)) C dX11_risen_14 kX11 hk1 3 (by decide) q_427 rfl ?_
    replace h := bnd h; obtain ⟨a4, ea4, h⟩ := h
    refine g_refq ea4 ?_
    refine g_iload_n (pc := 17) C dX11_risen_17 rfl 1 rfl ?_
    refine g_aload_n (pc := 18) C dX11_risen_18 rfl 0 rfl ?_
    refine g_get (pc := 19) (v := va_rf (gR M x0 3)) C dX11_risen_19 kX11 hk1 3 (by decide) q_427 rfl ?_
    replace h := bnd h; obtain ⟨a5, ea5, h⟩ := h
    refine g_refq ea5 ?_
    refine g_aload_n (pc := 22) C dX11_risen_22 rfl 0 rfl ?_
    refine g_get (pc := 23) (v := va_rf (gR M x0 5)) C dX11_risen_23 kX11 hk1 5 (by decide) q_429 rfl ?_
    replace h := bnd h; obtain ⟨a6, ea6, h⟩ := h
    refine g_refq ea6 ?_
    replace h := gd_some h; obtain ⟨hk7, h⟩ := h
    refine g_get (pc := 26) (v := .int (gI M a6 1)) C dX11_risen_26 kX8 hk7 1 (by decide) q_377 rfl ?_
    replace h := gd_some h; obtain ⟨hk8, h⟩ := h
    replace h := bnd2 h; obtain ⟨r9, M10, h1, h⟩ := h
    refine g_callVi (pc := 29) (As := [.int (gI M a6 1)]) (st := [.int (x1), .ref (a4)]) C dX11_risen_29 wX5_driftAt hk8 rfl (by decide) q_780 q_781 q_779 (by omega) rfl (Nat.le_of_ble_eq_true rfl) (kX5_driftAt (d := 1) (Nat.le_refl _) h1) ?_
    replace h := gd_some h; obtain ⟨hk11, h⟩ := h
    replace h := bnd2 h; obtain ⟨r12, M13, h1, h⟩ := h
    refine g_callVi (pc := 32) (As := [.int (x1), .int (r9)]) (st := []) C dX11_risen_32 wX5_risenAt hk11 rfl (by decide) q_838 q_839 q_837 (by omega) rfl (Nat.le_of_ble_eq_true rfl) (kX5_risenAt (d := 1) (Nat.le_refl _) h1) ?_
    obtain ⟨rfl, rfl⟩ := Prod.mk.inj (Option.some.inj h)
    exact g_iret C hR dX11_risen_35
  · replace h := ifn c3 h
    refine g_bipush (pc := 8) (v := (-2)) C dX11_risen_8 (by decide) ?_
    refine g_goto (pc := 10) (tgt := 35) C dX11_risen_10 (by decide) ?_
    obtain ⟨rfl, rfl⟩ := Prod.mk.inj (Option.some.inj h)
    exact g_iret C hR dX11_risen_35
theorem dX11_place_0 : decode cX11_place 0 = .ok (.aload_n 0, 1) := by decide +kernel
theorem dX11_place_1 : decode cX11_place 1 = .ok (.iload_n 1, 1) := by decide +kernel
theorem dX11_place_2 : decode cX11_place 2 = .ok (.invokevirtual 107, 3) := by decide +kernel
theorem dX11_place_5 : decode cX11_place 5 = .ok (.ifCond .ne 10, 3) := by decide +kernel
theorem dX11_place_8 : decode cX11_place 8 = .ok (.iload_n 2, 1) := by decide +kernel
theorem dX11_place_9 : decode cX11_place 9 = .ok (.invokestatic 144, 3) := by decide +kernel
theorem dX11_place_12 : decode cX11_place 12 = .ok (.ifCond .eq 6, 3) := by decide +kernel
theorem dX11_place_15 : decode cX11_place 15 = .ok (.bipush (-11), 2) := by decide +kernel
theorem dX11_place_17 : decode cX11_place 17 = .ok (.ireturn, 1) := by decide +kernel
theorem dX11_place_18 : decode cX11_place 18 = .ok (.aload_n 0, 1) := by decide +kernel
theorem dX11_place_19 : decode cX11_place 19 = .ok (.aload_n 0, 1) := by decide +kernel
theorem dX11_place_20 : decode cX11_place 20 = .ok (.getfield 42, 3) := by decide +kernel
theorem dX11_place_23 : decode cX11_place 23 = .ok (.invokevirtual 157, 3) := by decide +kernel
theorem dX11_place_26 : decode cX11_place 26 = .ok (.aload_n 0, 1) := by decide +kernel
theorem dX11_place_27 : decode cX11_place 27 = .ok (.getfield 42, 3) := by decide +kernel
theorem dX11_place_30 : decode cX11_place 30 = .ok (.getfield 127, 3) := by decide +kernel
theorem dX11_place_33 : decode cX11_place 33 = .ok (.iload_n 1, 1) := by decide +kernel
theorem dX11_place_34 : decode cX11_place 34 = .ok (.iload_n 2, 1) := by decide +kernel
theorem dX11_place_35 : decode cX11_place 35 = .ok (.iastore, 1) := by decide +kernel
theorem dX11_place_36 : decode cX11_place 36 = .ok (.aload_n 0, 1) := by decide +kernel
theorem dX11_place_37 : decode cX11_place 37 = .ok (.iload_n 1, 1) := by decide +kernel
theorem dX11_place_38 : decode cX11_place 38 = .ok (.invokevirtual 130, 3) := by decide +kernel
theorem dX11_place_41 : decode cX11_place 41 = .ok (.ifCond .eq 7, 3) := by decide +kernel
theorem dX11_place_44 : decode cX11_place 44 = .ok (.iconst 1, 1) := by decide +kernel
theorem dX11_place_45 : decode cX11_place 45 = .ok (.goto 4, 3) := by decide +kernel
theorem dX11_place_48 : decode cX11_place 48 = .ok (.iconst 0, 1) := by decide +kernel
theorem dX11_place_49 : decode cX11_place 49 = .ok (.ireturn, 1) := by decide +kernel
theorem wX11_place : Mw yX11_place cX11_place 3 (some .int) 2 := ⟨q_844, q_120, by decide, ⟨by decide +kernel, by decide +kernel⟩, by decide +kernel, by decide +kernel⟩
/-- EyeTrainer.place(II)I -/
def fX11_place (T : Sh) (M : Me) (x0 : Nat) (x1 : Int32) (x2 : Int32) : Option (Int32 × Me) :=
  gd (kd T x0 = 10) <| Option.bind (fX11_noLane T M x0 x1) fun r2 => if r2 = 0 then (Option.bind (fX11_noCell x2) fun r4 => if r4 = 0 then (Option.bind (gR M x0 5) fun a6 => Option.bind (fX11_remember T M x0 a6) <| un2 fun _u M7 => Option.bind (gR M7 x0 5) fun a8 => gd (kd T a8 = 7) <| Option.bind (gR M7 a8 0) fun a10 => gd (kd T a10 = 13) <| gv x1 (ln T a10) <| lt (pI M7 a10 (Int32.toNatClampNeg x1) x2) fun M13 => Option.bind (fX11_passesInPoint T M13 x0 x1) <| un2 fun r14 M15 => if r14 = 0 then (some ((0 : Int32), M15)) else (some ((1 : Int32), M15))) else (some ((-11 : Int32), M))) else (some ((-11 : Int32), M))
set_option maxHeartbeats 4000000 in
theorem kX11_place {l : Launch} {B : Bx} {d : Nat} (hd : 5 ≤ d) {T : Sh} {M : Me} {x0 : Nat} {x1 : Int32} {x2 : Int32} {r : Int32} {M' : Me} (h : fX11_place T M x0 x1 x2 = some (r, M')) : Kt l B yX11_place cX11_place 3 (some .int) d [.ref (x0), .int (x1), .int (x2)] T M (some (.int r)) T M' := by
  refine kt_of wX11_place (Nat.le_refl _) (Nat.le_refl _) (Nat.le_of_ble_eq_true rfl) (fun X C hR hlx hin => ?_)
  subst hlx
  replace C : Cx X B cX11_place 3 RX11 d (tp T, sl T, tp T, sl T) := C
  unfold fX11_place at h
  show G X B 3 _ _ 0 [(0, .ref (x0)), (1, .int (x1)), (2, .int (x2))] [] T M
  refine g_aload_n (pc := 0) C dX11_place_0 rfl 0 rfl ?_
  refine g_iload_n (pc := 1) C dX11_place_1 rfl 1 rfl ?_
  replace h := gd_some h; obtain ⟨hk1, h⟩ := h
  replace h := bnd h; obtain ⟨r2, h1, h⟩ := h
  refine g_callVi (pc := 2) (As := [.int (x1)]) (st := []) C dX11_place_2 wX11_noLane hk1 rfl (by decide) q_769 q_20 q_767 (by omega) rfl (Nat.le_of_ble_eq_true rfl) (kX11_noLane (d := 0) (Nat.le_refl _) h1) ?_
  refine g_if_ne (pc := 5) (tgt := 15) C dX11_place_5 (by decide) (fun c3 => ?_) (fun c3 => ?_)
  · replace h := ifn c3 h
    refine g_bipush (pc := 15) (v := (-11)) C dX11_place_15 (by decide) ?_
    obtain ⟨rfl, rfl⟩ := Prod.mk.inj (Option.some.inj h)
    exact g_iret C hR dX11_place_17
  · replace h := ifp c3 h
    refine g_iload_n (pc := 8) C dX11_place_8 rfl 2 rfl ?_
    replace h := bnd h; obtain ⟨r4, h1, h⟩ := h
    refine g_callSi (pc := 9) (As := [.int (x2)]) (st := []) C dX11_place_9 wX11_noCell q_823 q_822 (by omega) rfl (Nat.le_of_ble_eq_true rfl) (kX11_noCell (d := 0) (Nat.le_refl _) h1) ?_
    refine g_if_eq (pc := 12) (tgt := 18) C dX11_place_12 (by decide) (fun c5 => ?_) (fun c5 => ?_)
    · replace h := ifp c5 h
      refine g_aload_n (pc := 18) C dX11_place_18 rfl 0 rfl ?_
      refine g_aload_n (pc := 19) C dX11_place_19 rfl 0 rfl ?_
      refine g_get (pc := 20) (v := va_rf (gR M x0 5)) C dX11_place_20 kX11 hk1 5 (by decide) q_429 rfl ?_
      replace h := bnd h; obtain ⟨a6, ea6, h⟩ := h
      refine g_refq ea6 ?_
      replace h := bnd2 h; obtain ⟨_u, M7, h1, h⟩ := h
      refine g_callVv (pc := 23) (As := [.ref (a6)]) (st := []) C dX11_place_23 wX11_remember hk1 rfl (by decide) q_847 q_25 q_845 (by omega) rfl (Nat.le_of_ble_eq_true rfl) (kX11_remember (d := 1) (Nat.le_refl _) h1) ?_
      refine g_aload_n (pc := 26) C dX11_place_26 rfl 0 rfl ?_
      refine g_get (pc := 27) (v := va_rf (gR M7 x0 5)) C dX11_place_27 kX11 hk1 5 (by decide) q_429 rfl ?_
      replace h := bnd h; obtain ⟨a8, ea8, h⟩ := h
      refine g_refq ea8 ?_
      replace h := gd_some h; obtain ⟨hk9, h⟩ := h
      refine g_get (pc := 30) (v := va_rf (gR M7 a8 0)) C dX11_place_30 kX8 hk9 0 (by decide) q_375 rfl ?_
      replace h := bnd h; obtain ⟨a10, ea10, h⟩ := h
      refine g_refq ea10 ?_
      refine g_iload_n (pc := 33) C dX11_place_33 rfl 1 rfl ?_
      refine g_iload_n (pc := 34) C dX11_place_34 rfl 2 rfl ?_
      replace h := gd_some h; obtain ⟨hk11, h⟩ := h
      replace h := gv_some h; obtain ⟨hi12, h⟩ := h
      refine g_iast (pc := 35) C dX11_place_35 hk11 hi12 ?_
      refine g_mem (fun M13 eM13 => ?_)
      replace h := lt_at eM13 h
      refine g_aload_n (pc := 36) C dX11_place_36 rfl 0 rfl ?_
      refine g_iload_n (pc := 37) C dX11_place_37 rfl 1 rfl ?_
      replace h := bnd2 h; obtain ⟨r14, M15, h1, h⟩ := h
      refine g_callVi (pc := 38) (As := [.int (x1)]) (st := []) C dX11_place_38 wX11_passesInPoint hk1 rfl (by decide) q_773 q_21 q_771 (by omega) rfl (Nat.le_of_ble_eq_true rfl) (kX11_passesInPoint (d := 4) (Nat.le_refl _) h1) ?_
      refine g_if_eq (pc := 41) (tgt := 48) C dX11_place_41 (by decide) (fun c16 => ?_) (fun c16 => ?_)
      · replace h := ifp c16 h
        refine g_iconst (pc := 48) (v := 0) C dX11_place_48 (by decide) ?_
        obtain ⟨rfl, rfl⟩ := Prod.mk.inj (Option.some.inj h)
        exact g_iret C hR dX11_place_49
      · replace h := ifn c16 h
        refine g_iconst (pc := 44) (v := 1) C dX11_place_44 (by decide) ?_
        refine g_goto (pc := 45) (tgt := 49) C dX11_place_45 (by decide) ?_
        obtain ⟨rfl, rfl⟩ := Prod.mk.inj (Option.some.inj h)
        exact g_iret C hR dX11_place_49
    · replace h := ifn c5 h
      refine g_bipush (pc := 15) (v := (-11)) C dX11_place_15 (by decide) ?_
      obtain ⟨rfl, rfl⟩ := Prod.mk.inj (Option.some.inj h)
      exact g_iret C hR dX11_place_17
theorem dX11_train_0 : decode cX11_train 0 = .ok (.aload_n 0, 1) := by decide +kernel
theorem dX11_train_1 : decode cX11_train 1 = .ok (.iload_n 1, 1) := by decide +kernel
theorem dX11_train_2 : decode cX11_train 2 = .ok (.iload_n 2, 1) := by decide +kernel
theorem dX11_train_3 : decode cX11_train 3 = .ok (.invokevirtual 161, 3) := by decide +kernel
theorem dX11_train_6 : decode cX11_train 6 = .ok (.istore_n 3, 1) := by decide +kernel
theorem dX11_train_7 : decode cX11_train 7 = .ok (.iload_n 3, 1) := by decide +kernel
theorem dX11_train_8 : decode cX11_train 8 = .ok (.ifCond .ge 8, 3) := by decide +kernel
theorem dX11_train_11 : decode cX11_train 11 = .ok (.bipush (-10), 2) := by decide +kernel
theorem dX11_train_13 : decode cX11_train 13 = .ok (.iload_n 3, 1) := by decide +kernel
theorem dX11_train_14 : decode cX11_train 14 = .ok (.iadd, 1) := by decide +kernel
theorem dX11_train_15 : decode cX11_train 15 = .ok (.ireturn, 1) := by decide +kernel
theorem dX11_train_16 : decode cX11_train 16 = .ok (.aload_n 0, 1) := by decide +kernel
theorem dX11_train_17 : decode cX11_train 17 = .ok (.aload_n 0, 1) := by decide +kernel
theorem dX11_train_18 : decode cX11_train 18 = .ok (.getfield 42, 3) := by decide +kernel
theorem dX11_train_21 : decode cX11_train 21 = .ok (.invokevirtual 157, 3) := by decide +kernel
theorem dX11_train_24 : decode cX11_train 24 = .ok (.aload_n 0, 1) := by decide +kernel
theorem dX11_train_25 : decode cX11_train 25 = .ok (.getfield 42, 3) := by decide +kernel
theorem dX11_train_28 : decode cX11_train 28 = .ok (.getfield 127, 3) := by decide +kernel
theorem dX11_train_31 : decode cX11_train 31 = .ok (.iload_n 1, 1) := by decide +kernel
theorem dX11_train_32 : decode cX11_train 32 = .ok (.iload_n 3, 1) := by decide +kernel
theorem dX11_train_33 : decode cX11_train 33 = .ok (.iastore, 1) := by decide +kernel
theorem dX11_train_34 : decode cX11_train 34 = .ok (.iload_n 3, 1) := by decide +kernel
theorem dX11_train_35 : decode cX11_train 35 = .ok (.ireturn, 1) := by decide +kernel
theorem wX11_train : Mw yX11_train cX11_train 4 (some .int) 2 := ⟨q_856, q_120, by decide, ⟨by decide +kernel, by decide +kernel⟩, by decide +kernel, by decide +kernel⟩
/-- EyeTrainer.train(II)I -/
def fX11_train (T : Sh) (M : Me) (x0 : Nat) (x1 : Int32) (x2 : Int32) : Option (Int32 × Me) :=
  gd (kd T x0 = 10) <| Option.bind (fX11_trainedPoint T M x0 x1 x2) <| un2 fun r2 M3 => if 0 ≤ r2 then (Option.bind (gR M3 x0 5) fun a5 => Option.bind (fX11_remember T M3 x0 a5) <| un2 fun _u M6 => Option.bind (gR M6 x0 5) fun a7 => gd (kd T a7 = 7) <| Option.bind (gR M6 a7 0) fun a9 => gd (kd T a9 = 13) <| gv x1 (ln T a9) <| lt (pI M6 a9 (Int32.toNatClampNeg x1) r2) fun M12 => some (r2, M12)) else (some (((-10 : Int32) + r2), M3))
set_option maxHeartbeats 4000000 in
theorem kX11_train {l : Launch} {B : Bx} {d : Nat} (hd : 5 ≤ d) {T : Sh} {M : Me} {x0 : Nat} {x1 : Int32} {x2 : Int32} {r : Int32} {M' : Me} (h : fX11_train T M x0 x1 x2 = some (r, M')) : Kt l B yX11_train cX11_train 4 (some .int) d [.ref (x0), .int (x1), .int (x2)] T M (some (.int r)) T M' := by
  refine kt_of wX11_train (Nat.le_refl _) (Nat.le_refl _) (Nat.le_of_ble_eq_true rfl) (fun X C hR hlx hin => ?_)
  subst hlx
  replace C : Cx X B cX11_train 4 RX11 d (tp T, sl T, tp T, sl T) := C
  unfold fX11_train at h
  show G X B 4 _ _ 0 [(0, .ref (x0)), (1, .int (x1)), (2, .int (x2))] [] T M
  refine g_aload_n (pc := 0) C dX11_train_0 rfl 0 rfl ?_
  refine g_iload_n (pc := 1) C dX11_train_1 rfl 1 rfl ?_
  refine g_iload_n (pc := 2) C dX11_train_2 rfl 2 rfl ?_
  replace h := gd_some h; obtain ⟨hk1, h⟩ := h
  replace h := bnd2 h; obtain ⟨r2, M3, h1, h⟩ := h
  refine g_callVi (pc := 3) (As := [.int (x1), .int (x2)]) (st := []) C dX11_train_3 wX11_trainedPoint hk1 rfl (by decide) q_859 q_26 q_857 (by omega) rfl (Nat.le_of_ble_eq_true rfl) (kX11_trainedPoint (d := 4) (Nat.le_refl _) h1) ?_
  refine g_istore_n (pc := 6) (lo2 := [(3, .int (r2)), (0, .ref (x0)), (1, .int (x1)), (2, .int (x2))]) C dX11_train_6 rfl (by decide) rfl ?_
  refine g_iload_n (pc := 7) C dX11_train_7 rfl 0 rfl ?_
  refine g_if_ge (pc := 8) (tgt := 16) C dX11_train_8 (by decide) (fun c4 => ?_) (fun c4 => ?_)
  · replace h := ifp c4 h
    refine g_aload_n (pc := 16) C dX11_train_16 rfl 1 rfl ?_
    refine g_aload_n (pc := 17) C dX11_train_17 rfl 1 rfl ?_
    refine g_get (pc := 18) (v := va_rf (gR M3 x0 5)) C dX11_train_18 kX11 hk1 5 (by decide) q_429 rfl ?_
    replace h := bnd h; obtain ⟨a5, ea5, h⟩ := h
    refine g_refq ea5 ?_
    replace h := bnd2 h; obtain ⟨_u, M6, h1, h⟩ := h
    refine g_callVv (pc := 21) (As := [.ref (a5)]) (st := []) C dX11_train_21 wX11_remember hk1 rfl (by decide) q_847 q_25 q_845 (by omega) rfl (Nat.le_of_ble_eq_true rfl) (kX11_remember (d := 1) (Nat.le_refl _) h1) ?_
    refine g_aload_n (pc := 24) C dX11_train_24 rfl 1 rfl ?_
    refine g_get (pc := 25) (v := va_rf (gR M6 x0 5)) C dX11_train_25 kX11 hk1 5 (by decide) q_429 rfl ?_
    replace h := bnd h; obtain ⟨a7, ea7, h⟩ := h
    refine g_refq ea7 ?_
    replace h := gd_some h; obtain ⟨hk8, h⟩ := h
    refine g_get (pc := 28) (v := va_rf (gR M6 a7 0)) C dX11_train_28 kX8 hk8 0 (by decide) q_375 rfl ?_
    replace h := bnd h; obtain ⟨a9, ea9, h⟩ := h
    refine g_refq ea9 ?_
    refine g_iload_n (pc := 31) C dX11_train_31 rfl 2 rfl ?_
    refine g_iload_n (pc := 32) C dX11_train_32 rfl 0 rfl ?_
    replace h := gd_some h; obtain ⟨hk10, h⟩ := h
    replace h := gv_some h; obtain ⟨hi11, h⟩ := h
    refine g_iast (pc := 33) C dX11_train_33 hk10 hi11 ?_
    refine g_mem (fun M12 eM12 => ?_)
    replace h := lt_at eM12 h
    refine g_iload_n (pc := 34) C dX11_train_34 rfl 0 rfl ?_
    obtain ⟨rfl, rfl⟩ := Prod.mk.inj (Option.some.inj h)
    exact g_iret C hR dX11_train_35
  · replace h := ifn c4 h
    refine g_bipush (pc := 11) (v := (-10)) C dX11_train_11 (by decide) ?_
    refine g_iload_n (pc := 13) C dX11_train_13 rfl 0 rfl ?_
    refine g_iadd (pc := 14) C dX11_train_14 ?_
    obtain ⟨rfl, rfl⟩ := Prod.mk.inj (Option.some.inj h)
    exact g_iret C hR dX11_train_15
theorem dX11_ticks_0 : decode cX11_ticks 0 = .ok (.iload_n 1, 1) := by decide +kernel
theorem dX11_ticks_1 : decode cX11_ticks 1 = .ok (.iconst 1, 1) := by decide +kernel
theorem dX11_ticks_2 : decode cX11_ticks 2 = .ok (.if_icmp .lt 9, 3) := by decide +kernel
theorem dX11_ticks_5 : decode cX11_ticks 5 = .ok (.iload_n 1, 1) := by decide +kernel
theorem dX11_ticks_6 : decode cX11_ticks 6 = .ok (.bipush 99, 2) := by decide +kernel
theorem dX11_ticks_8 : decode cX11_ticks 8 = .ok (.if_icmp .le 6, 3) := by decide +kernel
theorem dX11_ticks_11 : decode cX11_ticks 11 = .ok (.bipush (-3), 2) := by decide +kernel
theorem dX11_ticks_13 : decode cX11_ticks 13 = .ok (.ireturn, 1) := by decide +kernel
theorem dX11_ticks_14 : decode cX11_ticks 14 = .ok (.aload_n 0, 1) := by decide +kernel
theorem dX11_ticks_15 : decode cX11_ticks 15 = .ok (.aload_n 0, 1) := by decide +kernel
theorem dX11_ticks_16 : decode cX11_ticks 16 = .ok (.getfield 42, 3) := by decide +kernel
theorem dX11_ticks_19 : decode cX11_ticks 19 = .ok (.invokevirtual 157, 3) := by decide +kernel
theorem dX11_ticks_22 : decode cX11_ticks 22 = .ok (.aload_n 0, 1) := by decide +kernel
theorem dX11_ticks_23 : decode cX11_ticks 23 = .ok (.getfield 42, 3) := by decide +kernel
theorem dX11_ticks_26 : decode cX11_ticks 26 = .ok (.dup, 1) := by decide +kernel
theorem dX11_ticks_27 : decode cX11_ticks 27 = .ok (.getfield 151, 3) := by decide +kernel
theorem dX11_ticks_30 : decode cX11_ticks 30 = .ok (.iload_n 1, 1) := by decide +kernel
theorem dX11_ticks_31 : decode cX11_ticks 31 = .ok (.iadd, 1) := by decide +kernel
theorem dX11_ticks_32 : decode cX11_ticks 32 = .ok (.putfield 151, 3) := by decide +kernel
theorem dX11_ticks_35 : decode cX11_ticks 35 = .ok (.aload_n 0, 1) := by decide +kernel
theorem dX11_ticks_36 : decode cX11_ticks 36 = .ok (.invokevirtual 164, 3) := by decide +kernel
theorem dX11_ticks_39 : decode cX11_ticks 39 = .ok (.invokestatic 168, 3) := by decide +kernel
theorem dX11_ticks_42 : decode cX11_ticks 42 = .ok (.ireturn, 1) := by decide +kernel
theorem wX11_ticks : Mw yX11_ticks cX11_ticks 2 (some .int) 1 := ⟨q_918, q_120, by decide, ⟨by decide +kernel, by decide +kernel⟩, by decide +kernel, by decide +kernel⟩
/-- EyeTrainer.ticks(I)I -/
def fX11_ticks (T : Sh) (M : Me) (x0 : Nat) (x1 : Int32) : Option (Int32 × Me) :=
  if x1 < (1 : Int32) then (some ((-3 : Int32), M)) else (if x1 ≤ (99 : Int32) then (gd (kd T x0 = 10) <| Option.bind (gR M x0 5) fun a4 => Option.bind (fX11_remember T M x0 a4) <| un2 fun _u M5 => Option.bind (gR M5 x0 5) fun a6 => gd (kd T a6 = 7) <| lt (pI M5 a6 1 ((gI M5 a6 1) + x1)) fun M8 => Option.bind (fX11_passingLanes T M8 x0) <| un2 fun r9 M10 => Option.bind (fJ6_bitCount_0f7a4 r9) fun r11 => some (r11, M10)) else (some ((-3 : Int32), M)))
set_option maxHeartbeats 4000000 in
theorem kX11_ticks {l : Launch} {B : Bx} {d : Nat} (hd : 6 ≤ d) {T : Sh} {M : Me} {x0 : Nat} {x1 : Int32} {r : Int32} {M' : Me} (h : fX11_ticks T M x0 x1 = some (r, M')) : Kt l B yX11_ticks cX11_ticks 2 (some .int) d [.ref (x0), .int (x1)] T M (some (.int r)) T M' := by
  refine kt_of wX11_ticks (Nat.le_refl _) (Nat.le_refl _) (Nat.le_of_ble_eq_true rfl) (fun X C hR hlx hin => ?_)
  subst hlx
  replace C : Cx X B cX11_ticks 2 RX11 d (tp T, sl T, tp T, sl T) := C
  unfold fX11_ticks at h
  show G X B 2 _ _ 0 [(0, .ref (x0)), (1, .int (x1))] [] T M
  refine g_iload_n (pc := 0) C dX11_ticks_0 rfl 1 rfl ?_
  refine g_iconst (pc := 1) (v := 1) C dX11_ticks_1 (by decide) ?_
  refine g_icmp_lt (pc := 2) (tgt := 11) C dX11_ticks_2 (by decide) (fun c1 => ?_) (fun c1 => ?_)
  · replace h := ifp c1 h
    refine g_bipush (pc := 11) (v := (-3)) C dX11_ticks_11 (by decide) ?_
    obtain ⟨rfl, rfl⟩ := Prod.mk.inj (Option.some.inj h)
    exact g_iret C hR dX11_ticks_13
  · replace h := ifn c1 h
    refine g_iload_n (pc := 5) C dX11_ticks_5 rfl 1 rfl ?_
    refine g_bipush (pc := 6) (v := 99) C dX11_ticks_6 (by decide) ?_
    refine g_icmp_le (pc := 8) (tgt := 14) C dX11_ticks_8 (by decide) (fun c2 => ?_) (fun c2 => ?_)
    · replace h := ifp c2 h
      refine g_aload_n (pc := 14) C dX11_ticks_14 rfl 0 rfl ?_
      refine g_aload_n (pc := 15) C dX11_ticks_15 rfl 0 rfl ?_
      replace h := gd_some h; obtain ⟨hk3, h⟩ := h
      refine g_get (pc := 16) (v := va_rf (gR M x0 5)) C dX11_ticks_16 kX11 hk3 5 (by decide) q_429 rfl ?_
      replace h := bnd h; obtain ⟨a4, ea4, h⟩ := h
      refine g_refq ea4 ?_
      replace h := bnd2 h; obtain ⟨_u, M5, h1, h⟩ := h
      refine g_callVv (pc := 19) (As := [.ref (a4)]) (st := []) C dX11_ticks_19 wX11_remember hk3 rfl (by decide) q_847 q_25 q_845 (by omega) rfl (Nat.le_of_ble_eq_true rfl) (kX11_remember (d := 1) (Nat.le_refl _) h1) ?_
      refine g_aload_n (pc := 22) C dX11_ticks_22 rfl 0 rfl ?_
      refine g_get (pc := 23) (v := va_rf (gR M5 x0 5)) C dX11_ticks_23 kX11 hk3 5 (by decide) q_429 rfl ?_
      replace h := bnd h; obtain ⟨a6, ea6, h⟩ := h
      refine g_refq ea6 ?_
      refine g_dup (pc := 26) C dX11_ticks_26 rfl ?_
      replace h := gd_some h; obtain ⟨hk7, h⟩ := h
      refine g_get (pc := 27) (v := .int (gI M5 a6 1)) C dX11_ticks_27 kX8 hk7 1 (by decide) q_377 rfl ?_
      refine g_iload_n (pc := 30) C dX11_ticks_30 rfl 1 rfl ?_
      refine g_iadd (pc := 31) C dX11_ticks_31 ?_
      refine g_putI (pc := 32) C dX11_ticks_32 kX8 hk7 1 (by decide) rfl rfl rfl q_377 ?_
      refine g_mem (fun M8 eM8 => ?_)
      replace h := lt_at eM8 h
      refine g_aload_n (pc := 35) C dX11_ticks_35 rfl 0 rfl ?_
      replace h := bnd2 h; obtain ⟨r9, M10, h1, h⟩ := h
      refine g_callVi (pc := 36) (As := []) (st := []) C dX11_ticks_36 wX11_passingLanes hk3 rfl (by decide) q_921 q_33 q_919 (by omega) rfl (Nat.le_of_ble_eq_true rfl) (kX11_passingLanes (d := 5) (Nat.le_refl _) h1) ?_
      replace h := bnd h; obtain ⟨r11, h1, h⟩ := h
      refine g_callSi (pc := 39) (As := [.int (r9)]) (st := []) C dX11_ticks_39 wJ6_bitCount_0f7a4 q_874 q_923 (by omega) rfl (Nat.le_of_ble_eq_true rfl) (kJ6_bitCount_0f7a4 (d := 0) (Nat.le_refl _) h1) ?_
      obtain ⟨rfl, rfl⟩ := Prod.mk.inj (Option.some.inj h)
      exact g_iret C hR dX11_ticks_42
    · replace h := ifn c2 h
      refine g_bipush (pc := 11) (v := (-3)) C dX11_ticks_11 (by decide) ?_
      obtain ⟨rfl, rfl⟩ := Prod.mk.inj (Option.some.inj h)
      exact g_iret C hR dX11_ticks_13
theorem dX11_follow_0 : decode cX11_follow 0 = .ok (.iload_n 1, 1) := by decide +kernel
theorem dX11_follow_1 : decode cX11_follow 1 = .ok (.iconst 1, 1) := by decide +kernel
theorem dX11_follow_2 : decode cX11_follow 2 = .ok (.if_icmp .lt 9, 3) := by decide +kernel
theorem dX11_follow_5 : decode cX11_follow 5 = .ok (.iload_n 1, 1) := by decide +kernel
theorem dX11_follow_6 : decode cX11_follow 6 = .ok (.bipush 99, 2) := by decide +kernel
theorem dX11_follow_8 : decode cX11_follow 8 = .ok (.if_icmp .le 6, 3) := by decide +kernel
theorem dX11_follow_11 : decode cX11_follow 11 = .ok (.bipush (-3), 2) := by decide +kernel
theorem dX11_follow_13 : decode cX11_follow 13 = .ok (.ireturn, 1) := by decide +kernel
theorem dX11_follow_14 : decode cX11_follow 14 = .ok (.aload_n 0, 1) := by decide +kernel
theorem dX11_follow_15 : decode cX11_follow 15 = .ok (.aload_n 0, 1) := by decide +kernel
theorem dX11_follow_16 : decode cX11_follow 16 = .ok (.getfield 42, 3) := by decide +kernel
theorem dX11_follow_19 : decode cX11_follow 19 = .ok (.invokevirtual 157, 3) := by decide +kernel
theorem dX11_follow_22 : decode cX11_follow 22 = .ok (.iconst 0, 1) := by decide +kernel
theorem dX11_follow_23 : decode cX11_follow 23 = .ok (.istore_n 2, 1) := by decide +kernel
theorem dX11_follow_24 : decode cX11_follow 24 = .ok (.iload_n 2, 1) := by decide +kernel
theorem dX11_follow_25 : decode cX11_follow 25 = .ok (.iload_n 1, 1) := by decide +kernel
theorem dX11_follow_26 : decode cX11_follow 26 = .ok (.if_icmp .ge 26, 3) := by decide +kernel
theorem dX11_follow_29 : decode cX11_follow 29 = .ok (.aload_n 0, 1) := by decide +kernel
theorem dX11_follow_30 : decode cX11_follow 30 = .ok (.getfield 42, 3) := by decide +kernel
theorem dX11_follow_33 : decode cX11_follow 33 = .ok (.dup, 1) := by decide +kernel
theorem dX11_follow_34 : decode cX11_follow 34 = .ok (.getfield 151, 3) := by decide +kernel
theorem dX11_follow_37 : decode cX11_follow 37 = .ok (.iconst 1, 1) := by decide +kernel
theorem dX11_follow_38 : decode cX11_follow 38 = .ok (.iadd, 1) := by decide +kernel
theorem dX11_follow_39 : decode cX11_follow 39 = .ok (.putfield 151, 3) := by decide +kernel
theorem dX11_follow_42 : decode cX11_follow 42 = .ok (.aload_n 0, 1) := by decide +kernel
theorem dX11_follow_43 : decode cX11_follow 43 = .ok (.invokevirtual 173, 3) := by decide +kernel
theorem dX11_follow_46 : decode cX11_follow 46 = .ok (.iinc 2 1, 3) := by decide +kernel
theorem dX11_follow_49 : decode cX11_follow 49 = .ok (.goto (-25), 3) := by decide +kernel
theorem dX11_follow_52 : decode cX11_follow 52 = .ok (.aload_n 0, 1) := by decide +kernel
theorem dX11_follow_53 : decode cX11_follow 53 = .ok (.invokevirtual 164, 3) := by decide +kernel
theorem dX11_follow_56 : decode cX11_follow 56 = .ok (.invokestatic 168, 3) := by decide +kernel
theorem dX11_follow_59 : decode cX11_follow 59 = .ok (.ireturn, 1) := by decide +kernel
theorem wX11_follow : Mw yX11_follow cX11_follow 3 (some .int) 1 := ⟨q_927, q_120, by decide, ⟨by decide +kernel, by decide +kernel⟩, by decide +kernel, by decide +kernel⟩
-- a loop of EyeTrainer.follow at 24
def bX11_follow_24 (T : Sh) (x0 : Nat) (x1 : Int32) (x2 : Int32) (M : Me) : Option ((Int32 × Me) ⊕ (Me)) :=
  if x1 ≤ x2 then (some (.inr M)) else (gd (kd T x0 = 10) <| Option.bind (gR M x0 5) fun a8 => gd (kd T a8 = 7) <| lt (pI M a8 1 ((gI M a8 1) + (1 : Int32))) fun M10 => Option.bind (fX11_followAll T M10 x0) <| un2 fun _u M11 => lt (x2 + (1 : Int32)) fun v12 => some (.inl (v12, M11)))
def PX11_follow_24 (X : Fx) (B : Bx) (Z : Nat × Nat × Nat × Nat) (Q : State → Prop) (T : Sh) (x0 : Nat) (x1 : Int32) (s : Int32 × Me) : Prop := G X B 3 Z Q 24 [(0, .ref (x0)), (1, .int (x1)), (2, .int (s.1))] [] T s.2
def EX11_follow_24 (X : Fx) (B : Bx) (Z : Nat × Nat × Nat × Nat) (Q : State → Prop) (T : Sh) (x0 : Nat) (x1 : Int32) (r : Me) : Prop := G X B 3 Z Q 52 [(0, .ref (x0))] [] T r
set_option maxHeartbeats 4000000 in
theorem tbX11_follow_24 {X : Fx} {B : Bx} {Z : Nat × Nat × Nat × Nat} {Q : State → Prop} {d : Nat} {T : Sh} (C : Cx X B cX11_follow 3 RX11 d Z) (hd : 6 ≤ d) {x0 : Nat} {x1 : Int32} : ∀ (s : Int32 × Me) (o : (Int32 × Me) ⊕ (Me)), bX11_follow_24 T x0 x1 s.1 s.2 = some o → lpE (PX11_follow_24 X B Z Q T x0 x1) (EX11_follow_24 X B Z Q T x0 x1) o → PX11_follow_24 X B Z Q T x0 x1 s := by
  rintro ⟨x2, M⟩ o h hE
  replace h : bX11_follow_24 T x0 x1 x2 M = some o := h
  unfold bX11_follow_24 at h
  show G X B 3 Z Q 24 [(0, .ref (x0)), (1, .int (x1)), (2, .int (x2))] [] T M
  refine g_iload_n (pc := 24) C dX11_follow_24 rfl 2 rfl ?_
  refine g_iload_n (pc := 25) C dX11_follow_25 rfl 1 rfl ?_
  refine g_icmp_ge (pc := 26) (tgt := 52) C dX11_follow_26 (by decide) (fun c6 => ?_) (fun c6 => ?_)
  · replace h := ifp c6 h
    obtain rfl := Option.some.inj h
    exact g_sub [0] rfl (show G X B 3 Z Q 52 [(0, .ref (x0))] [] T M from hE)
  · replace h := ifn c6 h
    refine g_aload_n (pc := 29) C dX11_follow_29 rfl 0 rfl ?_
    replace h := gd_some h; obtain ⟨hk7, h⟩ := h
    refine g_get (pc := 30) (v := va_rf (gR M x0 5)) C dX11_follow_30 kX11 hk7 5 (by decide) q_429 rfl ?_
    replace h := bnd h; obtain ⟨a8, ea8, h⟩ := h
    refine g_refq ea8 ?_
    refine g_dup (pc := 33) C dX11_follow_33 rfl ?_
    replace h := gd_some h; obtain ⟨hk9, h⟩ := h
    refine g_get (pc := 34) (v := .int (gI M a8 1)) C dX11_follow_34 kX8 hk9 1 (by decide) q_377 rfl ?_
    refine g_iconst (pc := 37) (v := 1) C dX11_follow_37 (by decide) ?_
    refine g_iadd (pc := 38) C dX11_follow_38 ?_
    refine g_putI (pc := 39) C dX11_follow_39 kX8 hk9 1 (by decide) rfl rfl rfl q_377 ?_
    refine g_mem (fun M10 eM10 => ?_)
    replace h := lt_at eM10 h
    refine g_aload_n (pc := 42) C dX11_follow_42 rfl 0 rfl ?_
    replace h := bnd2 h; obtain ⟨_u, M11, h1, h⟩ := h
    refine g_callVv (pc := 43) (As := []) (st := []) C dX11_follow_43 wX11_followAll hk7 rfl (by decide) q_930 q_34 q_928 (by omega) rfl (Nat.le_of_ble_eq_true rfl) (kX11_followAll (d := 4) (Nat.le_refl _) h1) ?_
    obtain ⟨v12, ev12⟩ : ∃ y : Int32, y = x2 + (1 : Int32) := ⟨_, rfl⟩
    replace h := lt_at ev12 h
    refine g_iinc (pc := 46) (v := v12) (k := 2) (lo2 := [(2, .int (v12)), (0, .ref (x0)), (1, .int (x1))]) C dX11_follow_46 rfl (by rw [ev12]; rfl) (by decide) rfl ?_
    refine g_goto (pc := 49) (tgt := 24) C dX11_follow_49 (by decide) ?_
    obtain rfl := Option.some.inj h
    exact g_sub [1, 2, 0] rfl (show G X B 3 Z Q 24 [(0, .ref (x0)), (1, .int (x1)), (2, .int (v12))] [] T M11 from hE)
/-- EyeTrainer.follow(I)I -/
def fX11_follow (T : Sh) (M : Me) (x0 : Nat) (x1 : Int32) : Option (Int32 × Me) :=
  if x1 < (1 : Int32) then (some ((-3 : Int32), M)) else (if x1 ≤ (99 : Int32) then (gd (kd T x0 = 10) <| Option.bind (gR M x0 5) fun a4 => Option.bind (fX11_remember T M x0 a4) <| un2 fun _u M5 => (lp FU (fun s => bX11_follow_24 T x0 x1 s.1 s.2) ((0 : Int32), M5)).bind (fun M13 => Option.bind (fX11_passingLanes T M13 x0) <| un2 fun r14 M15 => Option.bind (fJ6_bitCount_0f7a4 r14) fun r16 => some (r16, M15))) else (some ((-3 : Int32), M)))
set_option maxHeartbeats 4000000 in
theorem kX11_follow {l : Launch} {B : Bx} {d : Nat} (hd : 6 ≤ d) {T : Sh} {M : Me} {x0 : Nat} {x1 : Int32} {r : Int32} {M' : Me} (h : fX11_follow T M x0 x1 = some (r, M')) : Kt l B yX11_follow cX11_follow 3 (some .int) d [.ref (x0), .int (x1)] T M (some (.int r)) T M' := by
  refine kt_of wX11_follow (Nat.le_refl _) (Nat.le_refl _) (Nat.le_of_ble_eq_true rfl) (fun X C hR hlx hin => ?_)
  subst hlx
  replace C : Cx X B cX11_follow 3 RX11 d (tp T, sl T, tp T, sl T) := C
  unfold fX11_follow at h
  show G X B 3 _ _ 0 [(0, .ref (x0)), (1, .int (x1))] [] T M
  refine g_iload_n (pc := 0) C dX11_follow_0 rfl 1 rfl ?_
  refine g_iconst (pc := 1) (v := 1) C dX11_follow_1 (by decide) ?_
  refine g_icmp_lt (pc := 2) (tgt := 11) C dX11_follow_2 (by decide) (fun c1 => ?_) (fun c1 => ?_)
  · replace h := ifp c1 h
    refine g_bipush (pc := 11) (v := (-3)) C dX11_follow_11 (by decide) ?_
    obtain ⟨rfl, rfl⟩ := Prod.mk.inj (Option.some.inj h)
    exact g_iret C hR dX11_follow_13
  · replace h := ifn c1 h
    refine g_iload_n (pc := 5) C dX11_follow_5 rfl 1 rfl ?_
    refine g_bipush (pc := 6) (v := 99) C dX11_follow_6 (by decide) ?_
    refine g_icmp_le (pc := 8) (tgt := 14) C dX11_follow_8 (by decide) (fun c2 => ?_) (fun c2 => ?_)
    · replace h := ifp c2 h
      refine g_aload_n (pc := 14) C dX11_follow_14 rfl 0 rfl ?_
      refine g_aload_n (pc := 15) C dX11_follow_15 rfl 0 rfl ?_
      replace h := gd_some h; obtain ⟨hk3, h⟩ := h
      refine g_get (pc := 16) (v := va_rf (gR M x0 5)) C dX11_follow_16 kX11 hk3 5 (by decide) q_429 rfl ?_
      replace h := bnd h; obtain ⟨a4, ea4, h⟩ := h
      refine g_refq ea4 ?_
      replace h := bnd2 h; obtain ⟨_u, M5, h1, h⟩ := h
      refine g_callVv (pc := 19) (As := [.ref (a4)]) (st := []) C dX11_follow_19 wX11_remember hk3 rfl (by decide) q_847 q_25 q_845 (by omega) rfl (Nat.le_of_ble_eq_true rfl) (kX11_remember (d := 1) (Nat.le_refl _) h1) ?_
      refine g_iconst (pc := 22) (v := 0) C dX11_follow_22 (by decide) ?_
      refine g_istore_n (pc := 23) (lo2 := [(2, .int ((0 : Int32))), (0, .ref (x0)), (1, .int (x1))]) C dX11_follow_23 rfl (by decide) rfl ?_
      replace h := bnd h; obtain ⟨M13, h1, h⟩ := h
      refine g_sub [1, 2, 0] rfl ?_
      refine lp_G2 (P := PX11_follow_24 X B _ _ T x0 x1) (E := EX11_follow_24 X B _ _ T x0 x1) (tbX11_follow_24 C hd) h1 ?_
      show G X B 3 _ _ 52 [(0, .ref (x0))] [] T M13
      refine g_aload_n (pc := 52) C dX11_follow_52 rfl 0 rfl ?_
      replace h := bnd2 h; obtain ⟨r14, M15, h1, h⟩ := h
      refine g_callVi (pc := 53) (As := []) (st := []) C dX11_follow_53 wX11_passingLanes hk3 rfl (by decide) q_921 q_33 q_919 (by omega) rfl (Nat.le_of_ble_eq_true rfl) (kX11_passingLanes (d := 5) (Nat.le_refl _) h1) ?_
      replace h := bnd h; obtain ⟨r16, h1, h⟩ := h
      refine g_callSi (pc := 56) (As := [.int (r14)]) (st := []) C dX11_follow_56 wJ6_bitCount_0f7a4 q_874 q_923 (by omega) rfl (Nat.le_of_ble_eq_true rfl) (kJ6_bitCount_0f7a4 (d := 0) (Nat.le_refl _) h1) ?_
      obtain ⟨rfl, rfl⟩ := Prod.mk.inj (Option.some.inj h)
      exact g_iret C hR dX11_follow_59
    · replace h := ifn c2 h
      refine g_bipush (pc := 11) (v := (-3)) C dX11_follow_11 (by decide) ?_
      obtain ⟨rfl, rfl⟩ := Prod.mk.inj (Option.some.inj h)
      exact g_iret C hR dX11_follow_13
theorem dX11_pattern_0 : decode cX11_pattern 0 = .ok (.aload_n 0, 1) := by decide +kernel
theorem dX11_pattern_1 : decode cX11_pattern 1 = .ok (.iload_n 1, 1) := by decide +kernel
theorem dX11_pattern_2 : decode cX11_pattern 2 = .ok (.invokevirtual 176, 3) := by decide +kernel
theorem dX11_pattern_5 : decode cX11_pattern 5 = .ok (.ifCond .eq 6, 3) := by decide +kernel
theorem dX11_pattern_8 : decode cX11_pattern 8 = .ok (.bipush (-11), 2) := by decide +kernel
theorem dX11_pattern_10 : decode cX11_pattern 10 = .ok (.ireturn, 1) := by decide +kernel
theorem dX11_pattern_11 : decode cX11_pattern 11 = .ok (.aload_n 0, 1) := by decide +kernel
theorem dX11_pattern_12 : decode cX11_pattern 12 = .ok (.aload_n 0, 1) := by decide +kernel
theorem dX11_pattern_13 : decode cX11_pattern 13 = .ok (.getfield 42, 3) := by decide +kernel
theorem dX11_pattern_16 : decode cX11_pattern 16 = .ok (.invokevirtual 157, 3) := by decide +kernel
theorem dX11_pattern_19 : decode cX11_pattern 19 = .ok (.aload_n 0, 1) := by decide +kernel
theorem dX11_pattern_20 : decode cX11_pattern 20 = .ok (.getfield 42, 3) := by decide +kernel
theorem dX11_pattern_23 : decode cX11_pattern 23 = .ok (.getfield 179, 3) := by decide +kernel
theorem dX11_pattern_26 : decode cX11_pattern 26 = .ok (.istore_n 2, 1) := by decide +kernel
theorem dX11_pattern_27 : decode cX11_pattern 27 = .ok (.aload_n 0, 1) := by decide +kernel
theorem dX11_pattern_28 : decode cX11_pattern 28 = .ok (.getfield 42, 3) := by decide +kernel
theorem dX11_pattern_31 : decode cX11_pattern 31 = .ok (.iload_n 1, 1) := by decide +kernel
theorem dX11_pattern_32 : decode cX11_pattern 32 = .ok (.putfield 179, 3) := by decide +kernel
theorem dX11_pattern_35 : decode cX11_pattern 35 = .ok (.iload_n 2, 1) := by decide +kernel
theorem dX11_pattern_36 : decode cX11_pattern 36 = .ok (.ireturn, 1) := by decide +kernel
theorem wX11_pattern : Mw yX11_pattern cX11_pattern 3 (some .int) 1 := ⟨q_938, q_120, by decide, ⟨by decide +kernel, by decide +kernel⟩, by decide +kernel, by decide +kernel⟩
/-- EyeTrainer.pattern(I)I -/
def fX11_pattern (T : Sh) (M : Me) (x0 : Nat) (x1 : Int32) : Option (Int32 × Me) :=
  gd (kd T x0 = 10) <| Option.bind (fX11_noPatternToUse T M x0 x1) fun r2 => if r2 = 0 then (Option.bind (gR M x0 5) fun a4 => Option.bind (fX11_remember T M x0 a4) <| un2 fun _u M5 => Option.bind (gR M5 x0 5) fun a6 => gd (kd T a6 = 7) <| lt (gI M5 a6 2) fun v8 => Option.bind (gR M5 x0 5) fun a9 => gd (kd T a9 = 7) <| lt (pI M5 a9 2 x1) fun M11 => some (v8, M11)) else (some ((-11 : Int32), M))
set_option maxHeartbeats 4000000 in
theorem kX11_pattern {l : Launch} {B : Bx} {d : Nat} (hd : 2 ≤ d) {T : Sh} {M : Me} {x0 : Nat} {x1 : Int32} {r : Int32} {M' : Me} (h : fX11_pattern T M x0 x1 = some (r, M')) : Kt l B yX11_pattern cX11_pattern 3 (some .int) d [.ref (x0), .int (x1)] T M (some (.int r)) T M' := by
  refine kt_of wX11_pattern (Nat.le_refl _) (Nat.le_refl _) (Nat.le_of_ble_eq_true rfl) (fun X C hR hlx hin => ?_)
  subst hlx
  replace C : Cx X B cX11_pattern 3 RX11 d (tp T, sl T, tp T, sl T) := C
  unfold fX11_pattern at h
  show G X B 3 _ _ 0 [(0, .ref (x0)), (1, .int (x1))] [] T M
  refine g_aload_n (pc := 0) C dX11_pattern_0 rfl 0 rfl ?_
  refine g_iload_n (pc := 1) C dX11_pattern_1 rfl 1 rfl ?_
  replace h := gd_some h; obtain ⟨hk1, h⟩ := h
  replace h := bnd h; obtain ⟨r2, h1, h⟩ := h
  refine g_callVi (pc := 2) (As := [.int (x1)]) (st := []) C dX11_pattern_2 wX11_noPatternToUse hk1 rfl (by decide) q_941 q_35 q_939 (by omega) rfl (Nat.le_of_ble_eq_true rfl) (kX11_noPatternToUse (d := 0) (Nat.le_refl _) h1) ?_
  refine g_if_eq (pc := 5) (tgt := 11) C dX11_pattern_5 (by decide) (fun c3 => ?_) (fun c3 => ?_)
  · replace h := ifp c3 h
    refine g_aload_n (pc := 11) C dX11_pattern_11 rfl 0 rfl ?_
    refine g_aload_n (pc := 12) C dX11_pattern_12 rfl 0 rfl ?_
    refine g_get (pc := 13) (v := va_rf (gR M x0 5)) C dX11_pattern_13 kX11 hk1 5 (by decide) q_429 rfl ?_
    replace h := bnd h; obtain ⟨a4, ea4, h⟩ := h
    refine g_refq ea4 ?_
    replace h := bnd2 h; obtain ⟨_u, M5, h1, h⟩ := h
    refine g_callVv (pc := 16) (As := [.ref (a4)]) (st := []) C dX11_pattern_16 wX11_remember hk1 rfl (by decide) q_847 q_25 q_845 (by omega) rfl (Nat.le_of_ble_eq_true rfl) (kX11_remember (d := 1) (Nat.le_refl _) h1) ?_
    refine g_aload_n (pc := 19) C dX11_pattern_19 rfl 0 rfl ?_
    refine g_get (pc := 20) (v := va_rf (gR M5 x0 5)) C dX11_pattern_20 kX11 hk1 5 (by decide) q_429 rfl ?_
    replace h := bnd h; obtain ⟨a6, ea6, h⟩ := h
    refine g_refq ea6 ?_
    replace h := gd_some h; obtain ⟨hk7, h⟩ := h
    refine g_get (pc := 23) (v := .int (gI M5 a6 2)) C dX11_pattern_23 kX8 hk7 2 (by decide) q_379 rfl ?_
    refine g_topi (fun v8 ev8 => ?_)
    replace h := lt_at ev8 h
    refine g_istore_n (pc := 26) (lo2 := [(2, .int (v8)), (0, .ref (x0)), (1, .int (x1))]) C dX11_pattern_26 rfl (by decide) rfl ?_
    refine g_aload_n (pc := 27) C dX11_pattern_27 rfl 1 rfl ?_
    refine g_get (pc := 28) (v := va_rf (gR M5 x0 5)) C dX11_pattern_28 kX11 hk1 5 (by decide) q_429 rfl ?_
    replace h := bnd h; obtain ⟨a9, ea9, h⟩ := h
    refine g_refq ea9 ?_
    refine g_iload_n (pc := 31) C dX11_pattern_31 rfl 2 rfl ?_
    replace h := gd_some h; obtain ⟨hk10, h⟩ := h
    refine g_putI (pc := 32) C dX11_pattern_32 kX8 hk10 2 (by decide) rfl rfl rfl q_379 ?_
    refine g_mem (fun M11 eM11 => ?_)
    replace h := lt_at eM11 h
    refine g_iload_n (pc := 35) C dX11_pattern_35 rfl 0 rfl ?_
    obtain ⟨rfl, rfl⟩ := Prod.mk.inj (Option.some.inj h)
    exact g_iret C hR dX11_pattern_36
  · replace h := ifn c3 h
    refine g_bipush (pc := 8) (v := (-11)) C dX11_pattern_8 (by decide) ?_
    obtain ⟨rfl, rfl⟩ := Prod.mk.inj (Option.some.inj h)
    exact g_iret C hR dX11_pattern_10
theorem dX11_undo_0 : decode cX11_undo 0 = .ok (.iload_n 1, 1) := by decide +kernel
theorem dX11_undo_1 : decode cX11_undo 1 = .ok (.iconst 1, 1) := by decide +kernel
theorem dX11_undo_2 : decode cX11_undo 2 = .ok (.if_icmp .lt 11, 3) := by decide +kernel
theorem dX11_undo_5 : decode cX11_undo 5 = .ok (.iload_n 1, 1) := by decide +kernel
theorem dX11_undo_6 : decode cX11_undo 6 = .ok (.aload_n 0, 1) := by decide +kernel
theorem dX11_undo_7 : decode cX11_undo 7 = .ok (.getfield 98, 3) := by decide +kernel
theorem dX11_undo_10 : decode cX11_undo 10 = .ok (.if_icmp .le 6, 3) := by decide +kernel
theorem dX11_undo_13 : decode cX11_undo 13 = .ok (.bipush (-3), 2) := by decide +kernel
theorem dX11_undo_15 : decode cX11_undo 15 = .ok (.ireturn, 1) := by decide +kernel
theorem dX11_undo_16 : decode cX11_undo 16 = .ok (.aload_n 0, 1) := by decide +kernel
theorem dX11_undo_17 : decode cX11_undo 17 = .ok (.dup, 1) := by decide +kernel
theorem dX11_undo_18 : decode cX11_undo 18 = .ok (.getfield 98, 3) := by decide +kernel
theorem dX11_undo_21 : decode cX11_undo 21 = .ok (.iload_n 1, 1) := by decide +kernel
theorem dX11_undo_22 : decode cX11_undo 22 = .ok (.isub, 1) := by decide +kernel
theorem dX11_undo_23 : decode cX11_undo 23 = .ok (.putfield 98, 3) := by decide +kernel
theorem dX11_undo_26 : decode cX11_undo 26 = .ok (.aload_n 0, 1) := by decide +kernel
theorem dX11_undo_27 : decode cX11_undo 27 = .ok (.getfield 42, 3) := by decide +kernel
theorem dX11_undo_30 : decode cX11_undo 30 = .ok (.aload_n 0, 1) := by decide +kernel
theorem dX11_undo_31 : decode cX11_undo 31 = .ok (.getfield 49, 3) := by decide +kernel
theorem dX11_undo_34 : decode cX11_undo 34 = .ok (.aload_n 0, 1) := by decide +kernel
theorem dX11_undo_35 : decode cX11_undo 35 = .ok (.getfield 98, 3) := by decide +kernel
theorem dX11_undo_38 : decode cX11_undo 38 = .ok (.aaload, 1) := by decide +kernel
theorem dX11_undo_39 : decode cX11_undo 39 = .ok (.invokevirtual 182, 3) := by decide +kernel
theorem dX11_undo_42 : decode cX11_undo 42 = .ok (.aload_n 0, 1) := by decide +kernel
theorem dX11_undo_43 : decode cX11_undo 43 = .ok (.getfield 98, 3) := by decide +kernel
theorem dX11_undo_46 : decode cX11_undo 46 = .ok (.ireturn, 1) := by decide +kernel
theorem wX11_undo : Mw yX11_undo cX11_undo 2 (some .int) 1 := ⟨q_946, q_120, by decide, ⟨by decide +kernel, by decide +kernel⟩, by decide +kernel, by decide +kernel⟩
/-- EyeTrainer.undo(I)I -/
def fX11_undo (T : Sh) (M : Me) (x0 : Nat) (x1 : Int32) : Option (Int32 × Me) :=
  if x1 < (1 : Int32) then (some ((-3 : Int32), M)) else (gd (kd T x0 = 10) <| if x1 ≤ (gI M x0 8) then (lt (pI M x0 8 ((gI M x0 8) - x1)) fun M4 => Option.bind (gR M4 x0 5) fun a5 => Option.bind (gR M4 x0 7) fun a6 => gd (kd T a6 = 17) <| gv (gI M4 x0 8) (ln T a6) <| Option.bind (gR M4 a6 (Int32.toNatClampNeg (gI M4 x0 8))) fun a9 => gd (kd T a5 = 7) <| Option.bind (fX8_copy T M4 a5 a9) <| un2 fun _u M11 => some ((gI M11 x0 8), M11)) else (some ((-3 : Int32), M)))
set_option maxHeartbeats 4000000 in
theorem kX11_undo {l : Launch} {B : Bx} {d : Nat} (hd : 1 ≤ d) {T : Sh} {M : Me} {x0 : Nat} {x1 : Int32} {r : Int32} {M' : Me} (h : fX11_undo T M x0 x1 = some (r, M')) : Kt l B yX11_undo cX11_undo 2 (some .int) d [.ref (x0), .int (x1)] T M (some (.int r)) T M' := by
  refine kt_of wX11_undo (Nat.le_refl _) (Nat.le_refl _) (Nat.le_of_ble_eq_true rfl) (fun X C hR hlx hin => ?_)
  subst hlx
  replace C : Cx X B cX11_undo 2 RX11 d (tp T, sl T, tp T, sl T) := C
  unfold fX11_undo at h
  show G X B 2 _ _ 0 [(0, .ref (x0)), (1, .int (x1))] [] T M
  refine g_iload_n (pc := 0) C dX11_undo_0 rfl 1 rfl ?_
  refine g_iconst (pc := 1) (v := 1) C dX11_undo_1 (by decide) ?_
  refine g_icmp_lt (pc := 2) (tgt := 13) C dX11_undo_2 (by decide) (fun c1 => ?_) (fun c1 => ?_)
  · replace h := ifp c1 h
    refine g_bipush (pc := 13) (v := (-3)) C dX11_undo_13 (by decide) ?_
    obtain ⟨rfl, rfl⟩ := Prod.mk.inj (Option.some.inj h)
    exact g_iret C hR dX11_undo_15
  · replace h := ifn c1 h
    refine g_iload_n (pc := 5) C dX11_undo_5 rfl 1 rfl ?_
    refine g_aload_n (pc := 6) C dX11_undo_6 rfl 0 rfl ?_
    replace h := gd_some h; obtain ⟨hk2, h⟩ := h
    refine g_get (pc := 7) (v := .int (gI M x0 8)) C dX11_undo_7 kX11 hk2 8 (by decide) q_432 rfl ?_
    refine g_icmp_le (pc := 10) (tgt := 16) C dX11_undo_10 (by decide) (fun c3 => ?_) (fun c3 => ?_)
    · replace h := ifp c3 h
      refine g_aload_n (pc := 16) C dX11_undo_16 rfl 0 rfl ?_
      refine g_dup (pc := 17) C dX11_undo_17 rfl ?_
      refine g_get (pc := 18) (v := .int (gI M x0 8)) C dX11_undo_18 kX11 hk2 8 (by decide) q_432 rfl ?_
      refine g_iload_n (pc := 21) C dX11_undo_21 rfl 1 rfl ?_
      refine g_isub (pc := 22) C dX11_undo_22 ?_
      refine g_putI (pc := 23) C dX11_undo_23 kX11 hk2 8 (by decide) rfl rfl rfl q_432 ?_
      refine g_mem (fun M4 eM4 => ?_)
      replace h := lt_at eM4 h
      refine g_aload_n (pc := 26) C dX11_undo_26 rfl 0 rfl ?_
      refine g_get (pc := 27) (v := va_rf (gR M4 x0 5)) C dX11_undo_27 kX11 hk2 5 (by decide) q_429 rfl ?_
      replace h := bnd h; obtain ⟨a5, ea5, h⟩ := h
      refine g_refq ea5 ?_
      refine g_aload_n (pc := 30) C dX11_undo_30 rfl 0 rfl ?_
      refine g_get (pc := 31) (v := va_rf (gR M4 x0 7)) C dX11_undo_31 kX11 hk2 7 (by decide) q_431 rfl ?_
      replace h := bnd h; obtain ⟨a6, ea6, h⟩ := h
      refine g_refq ea6 ?_
      refine g_aload_n (pc := 34) C dX11_undo_34 rfl 0 rfl ?_
      refine g_get (pc := 35) (v := .int (gI M4 x0 8)) C dX11_undo_35 kX11 hk2 8 (by decide) q_432 rfl ?_
      replace h := gd_some h; obtain ⟨hk7, h⟩ := h
      replace h := gv_some h; obtain ⟨hi8, h⟩ := h
      refine g_aald17 (pc := 38) C dX11_undo_38 hk7 hi8 ?_
      replace h := bnd h; obtain ⟨a9, ea9, h⟩ := h
      refine g_refq ea9 ?_
      replace h := gd_some h; obtain ⟨hk10, h⟩ := h
      replace h := bnd2 h; obtain ⟨_u, M11, h1, h⟩ := h
      refine g_callVv (pc := 39) (As := [.ref (a9)]) (st := []) C dX11_undo_39 wX8_copy hk10 rfl (by decide) q_850 q_851 q_849 (by omega) rfl (Nat.le_of_ble_eq_true rfl) (kX8_copy (d := 0) (Nat.le_refl _) h1) ?_
      refine g_aload_n (pc := 42) C dX11_undo_42 rfl 0 rfl ?_
      refine g_get (pc := 43) (v := .int (gI M11 x0 8)) C dX11_undo_43 kX11 hk2 8 (by decide) q_432 rfl ?_
      obtain ⟨rfl, rfl⟩ := Prod.mk.inj (Option.some.inj h)
      exact g_iret C hR dX11_undo_46
    · replace h := ifn c3 h
      refine g_bipush (pc := 13) (v := (-3)) C dX11_undo_13 (by decide) ?_
      obtain ⟨rfl, rfl⟩ := Prod.mk.inj (Option.some.inj h)
      exact g_iret C hR dX11_undo_15
theorem dX11_judge_0 : decode cX11_judge 0 = .ok (.iload_n 1, 1) := by decide +kernel
theorem dX11_judge_1 : decode cX11_judge 1 = .ok (.invokestatic 185, 3) := by decide +kernel
theorem dX11_judge_4 : decode cX11_judge 4 = .ok (.ifCond .ne 12, 3) := by decide +kernel
theorem dX11_judge_7 : decode cX11_judge 7 = .ok (.iload_n 2, 1) := by decide +kernel
theorem dX11_judge_8 : decode cX11_judge 8 = .ok (.ifCond .lt 8, 3) := by decide +kernel
theorem dX11_judge_11 : decode cX11_judge 11 = .ok (.iload_n 2, 1) := by decide +kernel
theorem dX11_judge_12 : decode cX11_judge 12 = .ok (.iconst 3, 1) := by decide +kernel
theorem dX11_judge_13 : decode cX11_judge 13 = .ok (.if_icmp .le 6, 3) := by decide +kernel
theorem dX11_judge_16 : decode cX11_judge 16 = .ok (.bipush (-2), 2) := by decide +kernel
theorem dX11_judge_18 : decode cX11_judge 18 = .ok (.ireturn, 1) := by decide +kernel
theorem dX11_judge_19 : decode cX11_judge 19 = .ok (.aload_n 0, 1) := by decide +kernel
theorem dX11_judge_20 : decode cX11_judge 20 = .ok (.getfield 55, 3) := by decide +kernel
theorem dX11_judge_23 : decode cX11_judge 23 = .ok (.iload_n 1, 1) := by decide +kernel
theorem dX11_judge_24 : decode cX11_judge 24 = .ok (.aaload, 1) := by decide +kernel
theorem dX11_judge_25 : decode cX11_judge 25 = .ok (.astore_n 3, 1) := by decide +kernel
theorem dX11_judge_26 : decode cX11_judge 26 = .ok (.aload_n 3, 1) := by decide +kernel
theorem dX11_judge_27 : decode cX11_judge 27 = .ok (.invokevirtual 188, 3) := by decide +kernel
theorem dX11_judge_30 : decode cX11_judge 30 = .ok (.ifCond .eq 6, 3) := by decide +kernel
theorem dX11_judge_33 : decode cX11_judge 33 = .ok (.bipush (-6), 2) := by decide +kernel
theorem dX11_judge_35 : decode cX11_judge 35 = .ok (.ireturn, 1) := by decide +kernel
theorem dX11_judge_36 : decode cX11_judge 36 = .ok (.aload_n 0, 1) := by decide +kernel
theorem dX11_judge_37 : decode cX11_judge 37 = .ok (.getfield 46, 3) := by decide +kernel
theorem dX11_judge_40 : decode cX11_judge 40 = .ok (.aload_n 0, 1) := by decide +kernel
theorem dX11_judge_41 : decode cX11_judge 41 = .ok (.getfield 42, 3) := by decide +kernel
theorem dX11_judge_44 : decode cX11_judge 44 = .ok (.invokevirtual 182, 3) := by decide +kernel
theorem dX11_judge_47 : decode cX11_judge 47 = .ok (.aload_n 0, 1) := by decide +kernel
theorem dX11_judge_48 : decode cX11_judge 48 = .ok (.aload_n 3, 1) := by decide +kernel
theorem dX11_judge_49 : decode cX11_judge 49 = .ok (.invokevirtual 192, 3) := by decide +kernel
theorem dX11_judge_52 : decode cX11_judge 52 = .ok (.istore 4, 2) := by decide +kernel
theorem dX11_judge_54 : decode cX11_judge 54 = .ok (.iload 4, 2) := by decide +kernel
theorem dX11_judge_56 : decode cX11_judge 56 = .ok (.aload_n 3, 1) := by decide +kernel
theorem dX11_judge_57 : decode cX11_judge 57 = .ok (.getfield 196, 3) := by decide +kernel
theorem dX11_judge_60 : decode cX11_judge 60 = .ok (.if_icmp .ge 17, 3) := by decide +kernel
theorem dX11_judge_63 : decode cX11_judge 63 = .ok (.aload_n 0, 1) := by decide +kernel
theorem dX11_judge_64 : decode cX11_judge 64 = .ok (.aload_n 3, 1) := by decide +kernel
theorem dX11_judge_65 : decode cX11_judge 65 = .ok (.getfield 199, 3) := by decide +kernel
theorem dX11_judge_68 : decode cX11_judge 68 = .ok (.iload 4, 2) := by decide +kernel
theorem dX11_judge_70 : decode cX11_judge 70 = .ok (.laload, 1) := by decide +kernel
theorem dX11_judge_71 : decode cX11_judge 71 = .ok (.invokevirtual 203, 3) := by decide +kernel
theorem dX11_judge_74 : decode cX11_judge 74 = .ok (.goto 4, 3) := by decide +kernel
theorem dX11_judge_77 : decode cX11_judge 77 = .ok (.iconst 0, 1) := by decide +kernel
theorem dX11_judge_78 : decode cX11_judge 78 = .ok (.istore 5, 2) := by decide +kernel
theorem dX11_judge_80 : decode cX11_judge 80 = .ok (.aload_n 0, 1) := by decide +kernel
theorem dX11_judge_81 : decode cX11_judge 81 = .ok (.iload_n 2, 1) := by decide +kernel
theorem dX11_judge_82 : decode cX11_judge 82 = .ok (.iload 5, 2) := by decide +kernel
theorem dX11_judge_84 : decode cX11_judge 84 = .ok (.ifCond .ne 7, 3) := by decide +kernel
theorem dX11_judge_87 : decode cX11_judge 87 = .ok (.iconst (-1), 1) := by decide +kernel
theorem dX11_judge_88 : decode cX11_judge 88 = .ok (.goto 5, 3) := by decide +kernel
theorem dX11_judge_91 : decode cX11_judge 91 = .ok (.iload 4, 2) := by decide +kernel
theorem dX11_judge_93 : decode cX11_judge 93 = .ok (.iload 5, 2) := by decide +kernel
theorem dX11_judge_95 : decode cX11_judge 95 = .ok (.invokevirtual 207, 3) := by decide +kernel
theorem dX11_judge_98 : decode cX11_judge 98 = .ok (.istore 6, 2) := by decide +kernel
theorem dX11_judge_100 : decode cX11_judge 100 = .ok (.aload_n 0, 1) := by decide +kernel
theorem dX11_judge_101 : decode cX11_judge 101 = .ok (.getfield 42, 3) := by decide +kernel
theorem dX11_judge_104 : decode cX11_judge 104 = .ok (.aload_n 0, 1) := by decide +kernel
theorem dX11_judge_105 : decode cX11_judge 105 = .ok (.getfield 46, 3) := by decide +kernel
theorem dX11_judge_108 : decode cX11_judge 108 = .ok (.invokevirtual 182, 3) := by decide +kernel
theorem dX11_judge_111 : decode cX11_judge 111 = .ok (.iload 6, 2) := by decide +kernel
theorem dX11_judge_113 : decode cX11_judge 113 = .ok (.ireturn, 1) := by decide +kernel
theorem wX11_judge : Mw yX11_judge cX11_judge 7 (some .int) 2 := ⟨q_950, q_120, by decide, ⟨by decide +kernel, by decide +kernel⟩, by decide +kernel, by decide +kernel⟩
def jX11_judge_78 (T : Sh) (M : Me) (x0 : Nat) (x2 : Int32) (x4 : Int32) (s0 : Int32) : Option (Int32 × Me) :=
  if s0 = 0 then (gd (kd T x0 = 10) <| Option.bind (fX11_judged T M x0 x2 (-1 : Int32) s0) <| un2 fun r29 M30 => Option.bind (gR M30 x0 5) fun a31 => Option.bind (gR M30 x0 6) fun a32 => gd (kd T a31 = 7) <| Option.bind (fX8_copy T M30 a31 a32) <| un2 fun _u M34 => some (r29, M34)) else (gd (kd T x0 = 10) <| Option.bind (fX11_judged T M x0 x2 x4 s0) <| un2 fun r22 M23 => Option.bind (gR M23 x0 5) fun a24 => Option.bind (gR M23 x0 6) fun a25 => gd (kd T a24 = 7) <| Option.bind (fX8_copy T M23 a24 a25) <| un2 fun _u M27 => some (r22, M27))
set_option maxHeartbeats 4000000 in
theorem tjX11_judge_78 {X : Fx} {B : Bx} {Z : Nat × Nat × Nat × Nat} {d : Nat} {T : Sh} {M : Me} {x0 : Nat} {x2 : Int32} {x4 : Int32} {s0 : Int32} {r : Int32} {M' : Me} (C : Cx X B cX11_judge 7 RX11 d Z) (hR : Rx X (some .int)) (hd : 7 ≤ d) (h : jX11_judge_78 T M x0 x2 x4 s0 = some (r, M')) : G X B 7 Z (Qf X B Z (some (.int r)) T M') 78 [(0, .ref (x0)), (2, .int (x2)), (4, .int (x4))] [.int (s0)] T M := by
  unfold jX11_judge_78 at h
  refine g_istore (pc := 78) (lo2 := [(5, .int (s0)), (0, .ref (x0)), (2, .int (x2)), (4, .int (x4))]) C dX11_judge_78 (by decide) rfl ?_
  refine g_aload_n (pc := 80) C dX11_judge_80 rfl 1 rfl ?_
  refine g_iload_n (pc := 81) C dX11_judge_81 rfl 2 rfl ?_
  refine g_iload (pc := 82) C dX11_judge_82 0 rfl ?_
  refine g_if_ne (pc := 84) (tgt := 91) C dX11_judge_84 (by decide) (fun c20 => ?_) (fun c20 => ?_)
  · replace h := ifn c20 h
    refine g_iload (pc := 91) C dX11_judge_91 3 rfl ?_
    refine g_iload (pc := 93) C dX11_judge_93 0 rfl ?_
    replace h := gd_some h; obtain ⟨hk21, h⟩ := h
    replace h := bnd2 h; obtain ⟨r22, M23, h1, h⟩ := h
    refine g_callVi (pc := 95) (As := [.int (x2), .int (x4), .int (s0)]) (st := []) C dX11_judge_95 wX11_judged hk21 rfl (by decide) q_974 q_38 q_972 (by omega) rfl (Nat.le_of_ble_eq_true rfl) (kX11_judged (d := 6) (Nat.le_refl _) h1) ?_
    refine g_istore (pc := 98) (lo2 := [(6, .int (r22)), (5, .int (s0)), (0, .ref (x0)), (2, .int (x2)), (4, .int (x4))]) C dX11_judge_98 (by decide) rfl ?_
    refine g_aload_n (pc := 100) C dX11_judge_100 rfl 2 rfl ?_
    refine g_get (pc := 101) (v := va_rf (gR M23 x0 5)) C dX11_judge_101 kX11 hk21 5 (by decide) q_429 rfl ?_
    replace h := bnd h; obtain ⟨a24, ea24, h⟩ := h
    refine g_refq ea24 ?_
    refine g_aload_n (pc := 104) C dX11_judge_104 rfl 2 rfl ?_
    refine g_get (pc := 105) (v := va_rf (gR M23 x0 6)) C dX11_judge_105 kX11 hk21 6 (by decide) q_430 rfl ?_
    replace h := bnd h; obtain ⟨a25, ea25, h⟩ := h
    refine g_refq ea25 ?_
    replace h := gd_some h; obtain ⟨hk26, h⟩ := h
    replace h := bnd2 h; obtain ⟨_u, M27, h1, h⟩ := h
    refine g_callVv (pc := 108) (As := [.ref (a25)]) (st := []) C dX11_judge_108 wX8_copy hk26 rfl (by decide) q_850 q_851 q_849 (by omega) rfl (Nat.le_of_ble_eq_true rfl) (kX8_copy (d := 0) (Nat.le_refl _) h1) ?_
    refine g_iload (pc := 111) C dX11_judge_111 0 rfl ?_
    obtain ⟨rfl, rfl⟩ := Prod.mk.inj (Option.some.inj h)
    exact g_iret C hR dX11_judge_113
  · replace h := ifp c20 h
    refine g_iconst (pc := 87) (v := (-1)) C dX11_judge_87 (by decide) ?_
    refine g_goto (pc := 88) (tgt := 93) C dX11_judge_88 (by decide) ?_
    refine g_iload (pc := 93) C dX11_judge_93 0 rfl ?_
    replace h := gd_some h; obtain ⟨hk28, h⟩ := h
    replace h := bnd2 h; obtain ⟨r29, M30, h1, h⟩ := h
    refine g_callVi (pc := 95) (As := [.int (x2), .int ((-1 : Int32)), .int (s0)]) (st := []) C dX11_judge_95 wX11_judged hk28 rfl (by decide) q_974 q_38 q_972 (by omega) rfl (Nat.le_of_ble_eq_true rfl) (kX11_judged (d := 6) (Nat.le_refl _) h1) ?_
    refine g_istore (pc := 98) (lo2 := [(6, .int (r29)), (5, .int (s0)), (0, .ref (x0)), (2, .int (x2)), (4, .int (x4))]) C dX11_judge_98 (by decide) rfl ?_
    refine g_aload_n (pc := 100) C dX11_judge_100 rfl 2 rfl ?_
    refine g_get (pc := 101) (v := va_rf (gR M30 x0 5)) C dX11_judge_101 kX11 hk28 5 (by decide) q_429 rfl ?_
    replace h := bnd h; obtain ⟨a31, ea31, h⟩ := h
    refine g_refq ea31 ?_
    refine g_aload_n (pc := 104) C dX11_judge_104 rfl 2 rfl ?_
    refine g_get (pc := 105) (v := va_rf (gR M30 x0 6)) C dX11_judge_105 kX11 hk28 6 (by decide) q_430 rfl ?_
    replace h := bnd h; obtain ⟨a32, ea32, h⟩ := h
    refine g_refq ea32 ?_
    replace h := gd_some h; obtain ⟨hk33, h⟩ := h
    replace h := bnd2 h; obtain ⟨_u, M34, h1, h⟩ := h
    refine g_callVv (pc := 108) (As := [.ref (a32)]) (st := []) C dX11_judge_108 wX8_copy hk33 rfl (by decide) q_850 q_851 q_849 (by omega) rfl (Nat.le_of_ble_eq_true rfl) (kX8_copy (d := 0) (Nat.le_refl _) h1) ?_
    refine g_iload (pc := 111) C dX11_judge_111 0 rfl ?_
    obtain ⟨rfl, rfl⟩ := Prod.mk.inj (Option.some.inj h)
    exact g_iret C hR dX11_judge_113
/-- EyeTrainer.judge(II)I -/
def fX11_judge (T : Sh) (M : Me) (x0 : Nat) (x1 : Int32) (x2 : Int32) : Option (Int32 × Me) :=
  Option.bind (fX11_noTray x1) fun r1 => if r1 = 0 then (if x2 < 0 then (some ((-2 : Int32), M)) else (if x2 ≤ (3 : Int32) then (gd (kd T x0 = 10) <| Option.bind (gR M x0 9) fun a6 => gd (kd T a6 = 18) <| gv x1 (ln T a6) <| Option.bind (gR M a6 (Int32.toNatClampNeg x1)) fun a9 => gd (kd T a9 = 9) <| Option.bind (fX10_isMissing T M a9) fun r11 => if r11 = 0 then (Option.bind (gR M x0 6) fun a13 => Option.bind (gR M x0 5) fun a14 => gd (kd T a13 = 7) <| Option.bind (fX8_copy T M a13 a14) <| un2 fun _u M16 => Option.bind (fX11_doDeeds T M16 x0 a9) <| un2 fun r17 M18 => if (gI M18 a9 2) ≤ r17 then (jX11_judge_78 T M18 x0 x2 r17 (0 : Int32)) else (Option.bind (gR M18 a9 0) fun a35 => gd (kd T a35 = 14) <| gv r17 (ln T a35) <| Option.bind (fX11_doDeed T M18 x0 (gJ M18 a35 (Int32.toNatClampNeg r17))) <| un2 fun r38 M39 => jX11_judge_78 T M39 x0 x2 r17 r38)) else (some ((-6 : Int32), M))) else (some ((-2 : Int32), M)))) else (some ((-2 : Int32), M))
set_option maxHeartbeats 4000000 in
theorem kX11_judge {l : Launch} {B : Bx} {d : Nat} (hd : 7 ≤ d) {T : Sh} {M : Me} {x0 : Nat} {x1 : Int32} {x2 : Int32} {r : Int32} {M' : Me} (h : fX11_judge T M x0 x1 x2 = some (r, M')) : Kt l B yX11_judge cX11_judge 7 (some .int) d [.ref (x0), .int (x1), .int (x2)] T M (some (.int r)) T M' := by
  refine kt_of wX11_judge (Nat.le_refl _) (Nat.le_refl _) (Nat.le_of_ble_eq_true rfl) (fun X C hR hlx hin => ?_)
  subst hlx
  replace C : Cx X B cX11_judge 7 RX11 d (tp T, sl T, tp T, sl T) := C
  unfold fX11_judge at h
  show G X B 7 _ _ 0 [(0, .ref (x0)), (1, .int (x1)), (2, .int (x2))] [] T M
  refine g_iload_n (pc := 0) C dX11_judge_0 rfl 1 rfl ?_
  replace h := bnd h; obtain ⟨r1, h1, h⟩ := h
  refine g_callSi (pc := 1) (As := [.int (x1)]) (st := []) C dX11_judge_1 wX11_noTray q_952 q_951 (by omega) rfl (Nat.le_of_ble_eq_true rfl) (kX11_noTray (d := 0) (Nat.le_refl _) h1) ?_
  refine g_if_ne (pc := 4) (tgt := 16) C dX11_judge_4 (by decide) (fun c2 => ?_) (fun c2 => ?_)
  · replace h := ifn c2 h
    refine g_bipush (pc := 16) (v := (-2)) C dX11_judge_16 (by decide) ?_
    obtain ⟨rfl, rfl⟩ := Prod.mk.inj (Option.some.inj h)
    exact g_iret C hR dX11_judge_18
  · replace h := ifp c2 h
    refine g_iload_n (pc := 7) C dX11_judge_7 rfl 2 rfl ?_
    refine g_if_lt (pc := 8) (tgt := 16) C dX11_judge_8 (by decide) (fun c3 => ?_) (fun c3 => ?_)
    · replace h := ifp c3 h
      refine g_bipush (pc := 16) (v := (-2)) C dX11_judge_16 (by decide) ?_
      obtain ⟨rfl, rfl⟩ := Prod.mk.inj (Option.some.inj h)
      exact g_iret C hR dX11_judge_18
    · replace h := ifn c3 h
      refine g_iload_n (pc := 11) C dX11_judge_11 rfl 2 rfl ?_
      refine g_iconst (pc := 12) (v := 3) C dX11_judge_12 (by decide) ?_
      refine g_icmp_le (pc := 13) (tgt := 19) C dX11_judge_13 (by decide) (fun c4 => ?_) (fun c4 => ?_)
      · replace h := ifp c4 h
        refine g_aload_n (pc := 19) C dX11_judge_19 rfl 0 rfl ?_
        replace h := gd_some h; obtain ⟨hk5, h⟩ := h
        refine g_get (pc := 20) (v := va_rf (gR M x0 9)) C dX11_judge_20 kX11 hk5 9 (by decide) q_433 rfl ?_
        replace h := bnd h; obtain ⟨a6, ea6, h⟩ := h
        refine g_refq ea6 ?_
        refine g_iload_n (pc := 23) C dX11_judge_23 rfl 1 rfl ?_
        replace h := gd_some h; obtain ⟨hk7, h⟩ := h
        replace h := gv_some h; obtain ⟨hi8, h⟩ := h
        refine g_aald18 (pc := 24) C dX11_judge_24 hk7 hi8 ?_
        replace h := bnd h; obtain ⟨a9, ea9, h⟩ := h
        refine g_refq ea9 ?_
        refine g_astore_n (pc := 25) (lo2 := [(3, .ref (a9)), (0, .ref (x0)), (1, .int (x1)), (2, .int (x2))]) C dX11_judge_25 rfl (by decide) rfl ?_
        refine g_aload_n (pc := 26) C dX11_judge_26 rfl 0 rfl ?_
        replace h := gd_some h; obtain ⟨hk10, h⟩ := h
        replace h := bnd h; obtain ⟨r11, h1, h⟩ := h
        refine g_callVi (pc := 27) (As := []) (st := []) C dX11_judge_27 wX10_isMissing hk10 rfl (by decide) q_955 q_956 q_954 (by omega) rfl (Nat.le_of_ble_eq_true rfl) (kX10_isMissing (d := 0) (Nat.le_refl _) h1) ?_
        refine g_if_eq (pc := 30) (tgt := 36) C dX11_judge_30 (by decide) (fun c12 => ?_) (fun c12 => ?_)
        · replace h := ifp c12 h
          refine g_aload_n (pc := 36) C dX11_judge_36 rfl 1 rfl ?_
          refine g_get (pc := 37) (v := va_rf (gR M x0 6)) C dX11_judge_37 kX11 hk5 6 (by decide) q_430 rfl ?_
          replace h := bnd h; obtain ⟨a13, ea13, h⟩ := h
          refine g_refq ea13 ?_
          refine g_aload_n (pc := 40) C dX11_judge_40 rfl 1 rfl ?_
          refine g_get (pc := 41) (v := va_rf (gR M x0 5)) C dX11_judge_41 kX11 hk5 5 (by decide) q_429 rfl ?_
          replace h := bnd h; obtain ⟨a14, ea14, h⟩ := h
          refine g_refq ea14 ?_
          replace h := gd_some h; obtain ⟨hk15, h⟩ := h
          replace h := bnd2 h; obtain ⟨_u, M16, h1, h⟩ := h
          refine g_callVv (pc := 44) (As := [.ref (a14)]) (st := []) C dX11_judge_44 wX8_copy hk15 rfl (by decide) q_850 q_851 q_849 (by omega) rfl (Nat.le_of_ble_eq_true rfl) (kX8_copy (d := 0) (Nat.le_refl _) h1) ?_
          refine g_aload_n (pc := 47) C dX11_judge_47 rfl 1 rfl ?_
          refine g_aload_n (pc := 48) C dX11_judge_48 rfl 0 rfl ?_
          replace h := bnd2 h; obtain ⟨r17, M18, h1, h⟩ := h
          refine g_callVi (pc := 49) (As := [.ref (a9)]) (st := []) C dX11_judge_49 wX11_doDeeds hk5 rfl (by decide) q_960 q_36 q_958 (by omega) rfl (Nat.le_of_ble_eq_true rfl) (kX11_doDeeds (d := 6) (Nat.le_refl _) h1) ?_
          refine g_istore (pc := 52) (lo2 := [(4, .int (r17)), (3, .ref (a9)), (0, .ref (x0)), (1, .int (x1)), (2, .int (x2))]) C dX11_judge_52 (by decide) rfl ?_
          refine g_iload (pc := 54) C dX11_judge_54 0 rfl ?_
          refine g_aload_n (pc := 56) C dX11_judge_56 rfl 1 rfl ?_
          refine g_get (pc := 57) (v := .int (gI M18 a9 2)) C dX11_judge_57 kX10 hk10 2 (by decide) q_399 rfl ?_
          refine g_icmp_ge (pc := 60) (tgt := 77) C dX11_judge_60 (by decide) (fun c19 => ?_) (fun c19 => ?_)
          · replace h := ifp c19 h
            refine g_iconst (pc := 77) (v := 0) C dX11_judge_77 (by decide) ?_
            exact g_sub [2, 4, 0] rfl (tjX11_judge_78 C hR hd h)
          · replace h := ifn c19 h
            refine g_aload_n (pc := 63) C dX11_judge_63 rfl 2 rfl ?_
            refine g_aload_n (pc := 64) C dX11_judge_64 rfl 1 rfl ?_
            refine g_get (pc := 65) (v := va_rf (gR M18 a9 0)) C dX11_judge_65 kX10 hk10 0 (by decide) q_396 rfl ?_
            replace h := bnd h; obtain ⟨a35, ea35, h⟩ := h
            refine g_refq ea35 ?_
            refine g_iload (pc := 68) C dX11_judge_68 0 rfl ?_
            replace h := gd_some h; obtain ⟨hk36, h⟩ := h
            replace h := gv_some h; obtain ⟨hi37, h⟩ := h
            refine g_lald (pc := 70) C dX11_judge_70 hk36 hi37 ?_
            replace h := bnd2 h; obtain ⟨r38, M39, h1, h⟩ := h
            refine g_callVi (pc := 71) (As := [.long (gJ M18 a35 (Int32.toNatClampNeg r17))]) (st := []) C dX11_judge_71 wX11_doDeed hk5 rfl (by decide) q_964 q_37 q_962 (by omega) rfl (Nat.le_of_ble_eq_true rfl) (kX11_doDeed (d := 5) (Nat.le_refl _) h1) ?_
            refine g_goto (pc := 74) (tgt := 78) C dX11_judge_74 (by decide) ?_
            exact g_sub [2, 4, 0] rfl (tjX11_judge_78 C hR hd h)
        · replace h := ifn c12 h
          refine g_bipush (pc := 33) (v := (-6)) C dX11_judge_33 (by decide) ?_
          obtain ⟨rfl, rfl⟩ := Prod.mk.inj (Option.some.inj h)
          exact g_iret C hR dX11_judge_35
      · replace h := ifn c4 h
        refine g_bipush (pc := 16) (v := (-2)) C dX11_judge_16 (by decide) ?_
        obtain ⟨rfl, rfl⟩ := Prod.mk.inj (Option.some.inj h)
        exact g_iret C hR dX11_judge_18
theorem dX11_perform_0 : decode cX11_perform 0 = .ok (.iload_n 1, 1) := by decide +kernel
theorem dX11_perform_1 : decode cX11_perform 1 = .ok (.invokestatic 185, 3) := by decide +kernel
theorem dX11_perform_4 : decode cX11_perform 4 = .ok (.ifCond .eq 6, 3) := by decide +kernel
theorem dX11_perform_7 : decode cX11_perform 7 = .ok (.bipush (-2), 2) := by decide +kernel
theorem dX11_perform_9 : decode cX11_perform 9 = .ok (.ireturn, 1) := by decide +kernel
theorem dX11_perform_10 : decode cX11_perform 10 = .ok (.aload_n 0, 1) := by decide +kernel
theorem dX11_perform_11 : decode cX11_perform 11 = .ok (.getfield 55, 3) := by decide +kernel
theorem dX11_perform_14 : decode cX11_perform 14 = .ok (.iload_n 1, 1) := by decide +kernel
theorem dX11_perform_15 : decode cX11_perform 15 = .ok (.aaload, 1) := by decide +kernel
theorem dX11_perform_16 : decode cX11_perform 16 = .ok (.astore_n 2, 1) := by decide +kernel
theorem dX11_perform_17 : decode cX11_perform 17 = .ok (.aload_n 2, 1) := by decide +kernel
theorem dX11_perform_18 : decode cX11_perform 18 = .ok (.invokevirtual 188, 3) := by decide +kernel
theorem dX11_perform_21 : decode cX11_perform 21 = .ok (.ifCond .eq 6, 3) := by decide +kernel
theorem dX11_perform_24 : decode cX11_perform 24 = .ok (.bipush (-6), 2) := by decide +kernel
theorem dX11_perform_26 : decode cX11_perform 26 = .ok (.ireturn, 1) := by decide +kernel
theorem dX11_perform_27 : decode cX11_perform 27 = .ok (.aload_n 0, 1) := by decide +kernel
theorem dX11_perform_28 : decode cX11_perform 28 = .ok (.getfield 46, 3) := by decide +kernel
theorem dX11_perform_31 : decode cX11_perform 31 = .ok (.aload_n 0, 1) := by decide +kernel
theorem dX11_perform_32 : decode cX11_perform 32 = .ok (.getfield 42, 3) := by decide +kernel
theorem dX11_perform_35 : decode cX11_perform 35 = .ok (.invokevirtual 182, 3) := by decide +kernel
theorem dX11_perform_38 : decode cX11_perform 38 = .ok (.aload_n 0, 1) := by decide +kernel
theorem dX11_perform_39 : decode cX11_perform 39 = .ok (.aload_n 2, 1) := by decide +kernel
theorem dX11_perform_40 : decode cX11_perform 40 = .ok (.invokevirtual 192, 3) := by decide +kernel
theorem dX11_perform_43 : decode cX11_perform 43 = .ok (.istore_n 3, 1) := by decide +kernel
theorem dX11_perform_44 : decode cX11_perform 44 = .ok (.iload_n 3, 1) := by decide +kernel
theorem dX11_perform_45 : decode cX11_perform 45 = .ok (.ifCond .le 11, 3) := by decide +kernel
theorem dX11_perform_48 : decode cX11_perform 48 = .ok (.aload_n 0, 1) := by decide +kernel
theorem dX11_perform_49 : decode cX11_perform 49 = .ok (.aload_n 0, 1) := by decide +kernel
theorem dX11_perform_50 : decode cX11_perform 50 = .ok (.getfield 46, 3) := by decide +kernel
theorem dX11_perform_53 : decode cX11_perform 53 = .ok (.invokevirtual 157, 3) := by decide +kernel
theorem dX11_perform_56 : decode cX11_perform 56 = .ok (.iload_n 3, 1) := by decide +kernel
theorem dX11_perform_57 : decode cX11_perform 57 = .ok (.ireturn, 1) := by decide +kernel
theorem wX11_perform : Mw yX11_perform cX11_perform 4 (some .int) 1 := ⟨q_979, q_120, by decide, ⟨by decide +kernel, by decide +kernel⟩, by decide +kernel, by decide +kernel⟩
/-- EyeTrainer.perform(I)I -/
def fX11_perform (T : Sh) (M : Me) (x0 : Nat) (x1 : Int32) : Option (Int32 × Me) :=
  Option.bind (fX11_noTray x1) fun r1 => if r1 = 0 then (gd (kd T x0 = 10) <| Option.bind (gR M x0 9) fun a4 => gd (kd T a4 = 18) <| gv x1 (ln T a4) <| Option.bind (gR M a4 (Int32.toNatClampNeg x1)) fun a7 => gd (kd T a7 = 9) <| Option.bind (fX10_isMissing T M a7) fun r9 => if r9 = 0 then (Option.bind (gR M x0 6) fun a11 => Option.bind (gR M x0 5) fun a12 => gd (kd T a11 = 7) <| Option.bind (fX8_copy T M a11 a12) <| un2 fun _u M14 => Option.bind (fX11_doDeeds T M14 x0 a7) <| un2 fun r15 M16 => if r15 ≤ 0 then (some (r15, M16)) else (Option.bind (gR M16 x0 6) fun a18 => Option.bind (fX11_remember T M16 x0 a18) <| un2 fun _u M19 => some (r15, M19))) else (some ((-6 : Int32), M))) else (some ((-2 : Int32), M))
set_option maxHeartbeats 4000000 in
theorem kX11_perform {l : Launch} {B : Bx} {d : Nat} (hd : 7 ≤ d) {T : Sh} {M : Me} {x0 : Nat} {x1 : Int32} {r : Int32} {M' : Me} (h : fX11_perform T M x0 x1 = some (r, M')) : Kt l B yX11_perform cX11_perform 4 (some .int) d [.ref (x0), .int (x1)] T M (some (.int r)) T M' := by
  refine kt_of wX11_perform (Nat.le_refl _) (Nat.le_refl _) (Nat.le_of_ble_eq_true rfl) (fun X C hR hlx hin => ?_)
  subst hlx
  replace C : Cx X B cX11_perform 4 RX11 d (tp T, sl T, tp T, sl T) := C
  unfold fX11_perform at h
  show G X B 4 _ _ 0 [(0, .ref (x0)), (1, .int (x1))] [] T M
  refine g_iload_n (pc := 0) C dX11_perform_0 rfl 1 rfl ?_
  replace h := bnd h; obtain ⟨r1, h1, h⟩ := h
  refine g_callSi (pc := 1) (As := [.int (x1)]) (st := []) C dX11_perform_1 wX11_noTray q_952 q_951 (by omega) rfl (Nat.le_of_ble_eq_true rfl) (kX11_noTray (d := 0) (Nat.le_refl _) h1) ?_
  refine g_if_eq (pc := 4) (tgt := 10) C dX11_perform_4 (by decide) (fun c2 => ?_) (fun c2 => ?_)
  · replace h := ifp c2 h
    refine g_aload_n (pc := 10) C dX11_perform_10 rfl 0 rfl ?_
    replace h := gd_some h; obtain ⟨hk3, h⟩ := h
    refine g_get (pc := 11) (v := va_rf (gR M x0 9)) C dX11_perform_11 kX11 hk3 9 (by decide) q_433 rfl ?_
    replace h := bnd h; obtain ⟨a4, ea4, h⟩ := h
    refine g_refq ea4 ?_
    refine g_iload_n (pc := 14) C dX11_perform_14 rfl 1 rfl ?_
    replace h := gd_some h; obtain ⟨hk5, h⟩ := h
    replace h := gv_some h; obtain ⟨hi6, h⟩ := h
    refine g_aald18 (pc := 15) C dX11_perform_15 hk5 hi6 ?_
    replace h := bnd h; obtain ⟨a7, ea7, h⟩ := h
    refine g_refq ea7 ?_
    refine g_astore_n (pc := 16) (lo2 := [(2, .ref (a7)), (0, .ref (x0)), (1, .int (x1))]) C dX11_perform_16 rfl (by decide) rfl ?_
    refine g_aload_n (pc := 17) C dX11_perform_17 rfl 0 rfl ?_
    replace h := gd_some h; obtain ⟨hk8, h⟩ := h
    replace h := bnd h; obtain ⟨r9, h1, h⟩ := h
    refine g_callVi (pc := 18) (As := []) (st := []) C dX11_perform_18 wX10_isMissing hk8 rfl (by decide) q_955 q_956 q_954 (by omega) rfl (Nat.le_of_ble_eq_true rfl) (kX10_isMissing (d := 0) (Nat.le_refl _) h1) ?_
    refine g_if_eq (pc := 21) (tgt := 27) C dX11_perform_21 (by decide) (fun c10 => ?_) (fun c10 => ?_)
    · replace h := ifp c10 h
      refine g_aload_n (pc := 27) C dX11_perform_27 rfl 1 rfl ?_
      refine g_get (pc := 28) (v := va_rf (gR M x0 6)) C dX11_perform_28 kX11 hk3 6 (by decide) q_430 rfl ?_
      replace h := bnd h; obtain ⟨a11, ea11, h⟩ := h
      refine g_refq ea11 ?_
      refine g_aload_n (pc := 31) C dX11_perform_31 rfl 1 rfl ?_
      refine g_get (pc := 32) (v := va_rf (gR M x0 5)) C dX11_perform_32 kX11 hk3 5 (by decide) q_429 rfl ?_
      replace h := bnd h; obtain ⟨a12, ea12, h⟩ := h
      refine g_refq ea12 ?_
      replace h := gd_some h; obtain ⟨hk13, h⟩ := h
      replace h := bnd2 h; obtain ⟨_u, M14, h1, h⟩ := h
      refine g_callVv (pc := 35) (As := [.ref (a12)]) (st := []) C dX11_perform_35 wX8_copy hk13 rfl (by decide) q_850 q_851 q_849 (by omega) rfl (Nat.le_of_ble_eq_true rfl) (kX8_copy (d := 0) (Nat.le_refl _) h1) ?_
      refine g_aload_n (pc := 38) C dX11_perform_38 rfl 1 rfl ?_
      refine g_aload_n (pc := 39) C dX11_perform_39 rfl 0 rfl ?_
      replace h := bnd2 h; obtain ⟨r15, M16, h1, h⟩ := h
      refine g_callVi (pc := 40) (As := [.ref (a7)]) (st := []) C dX11_perform_40 wX11_doDeeds hk3 rfl (by decide) q_960 q_36 q_958 (by omega) rfl (Nat.le_of_ble_eq_true rfl) (kX11_doDeeds (d := 6) (Nat.le_refl _) h1) ?_
      refine g_istore_n (pc := 43) (lo2 := [(3, .int (r15)), (2, .ref (a7)), (0, .ref (x0)), (1, .int (x1))]) C dX11_perform_43 rfl (by decide) rfl ?_
      refine g_iload_n (pc := 44) C dX11_perform_44 rfl 0 rfl ?_
      refine g_if_le (pc := 45) (tgt := 56) C dX11_perform_45 (by decide) (fun c17 => ?_) (fun c17 => ?_)
      · replace h := ifp c17 h
        refine g_iload_n (pc := 56) C dX11_perform_56 rfl 0 rfl ?_
        obtain ⟨rfl, rfl⟩ := Prod.mk.inj (Option.some.inj h)
        exact g_iret C hR dX11_perform_57
      · replace h := ifn c17 h
        refine g_aload_n (pc := 48) C dX11_perform_48 rfl 2 rfl ?_
        refine g_aload_n (pc := 49) C dX11_perform_49 rfl 2 rfl ?_
        refine g_get (pc := 50) (v := va_rf (gR M16 x0 6)) C dX11_perform_50 kX11 hk3 6 (by decide) q_430 rfl ?_
        replace h := bnd h; obtain ⟨a18, ea18, h⟩ := h
        refine g_refq ea18 ?_
        replace h := bnd2 h; obtain ⟨_u, M19, h1, h⟩ := h
        refine g_callVv (pc := 53) (As := [.ref (a18)]) (st := []) C dX11_perform_53 wX11_remember hk3 rfl (by decide) q_847 q_25 q_845 (by omega) rfl (Nat.le_of_ble_eq_true rfl) (kX11_remember (d := 1) (Nat.le_refl _) h1) ?_
        refine g_iload_n (pc := 56) C dX11_perform_56 rfl 0 rfl ?_
        obtain ⟨rfl, rfl⟩ := Prod.mk.inj (Option.some.inj h)
        exact g_iret C hR dX11_perform_57
    · replace h := ifn c10 h
      refine g_bipush (pc := 24) (v := (-6)) C dX11_perform_24 (by decide) ?_
      obtain ⟨rfl, rfl⟩ := Prod.mk.inj (Option.some.inj h)
      exact g_iret C hR dX11_perform_26
  · replace h := ifn c2 h
    refine g_bipush (pc := 7) (v := (-2)) C dX11_perform_7 (by decide) ?_
    obtain ⟨rfl, rfl⟩ := Prod.mk.inj (Option.some.inj h)
    exact g_iret C hR dX11_perform_9
