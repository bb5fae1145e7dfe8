set_option maxRecDepth 20000 in
theorem q_52 : Cond.selects RX12 yX12_next yX12_next ∈ lw_gd := mem_gd (List.mem_of_getElem? (i := 52) (by decide +kernel)) rfl
set_option maxRecDepth 20000 in
theorem q_53 : Cond.selects RX12 yX12_see yX12_see ∈ lw_gd := mem_gd (List.mem_of_getElem? (i := 53) (by decide +kernel)) rfl
set_option maxRecDepth 20000 in
theorem q_54 : Cond.selects RX12 yX12_keyAt yX12_keyAt ∈ lw_gd := mem_gd (List.mem_of_getElem? (i := 54) (by decide +kernel)) rfl
set_option maxRecDepth 20000 in
theorem q_55 : Cond.selects RX12 yX12_eats yX12_eats ∈ lw_gd := mem_gd (List.mem_of_getElem? (i := 55) (by decide +kernel)) rfl
set_option maxRecDepth 20000 in
theorem q_56 : Cond.selects RX12 yX12_is yX12_is ∈ lw_gd := mem_gd (List.mem_of_getElem? (i := 56) (by decide +kernel)) rfl
set_option maxRecDepth 20000 in
theorem q_57 : Cond.selects RX12 yX12_fails yX12_fails ∈ lw_gd := mem_gd (List.mem_of_getElem? (i := 57) (by decide +kernel)) rfl
set_option maxRecDepth 20000 in
theorem q_58 : Cond.selects RX12 yX12_named yX12_named ∈ lw_gd := mem_gd (List.mem_of_getElem? (i := 58) (by decide +kernel)) rfl
set_option maxRecDepth 20000 in
theorem q_59 : Cond.selects RX12 yX12_takes yX12_takes ∈ lw_gd := mem_gd (List.mem_of_getElem? (i := 59) (by decide +kernel)) rfl
set_option maxRecDepth 20000 in
theorem q_1234 : Cond.fieldLink RX12 98 "EyeTrainerModel" "behind" "I" ∈ lw_gd := mem_gd (List.mem_of_getElem? (i := 1234) (by decide +kernel)) rfl
set_option maxRecDepth 20000 in
theorem q_1237 : Cond.fieldLink RX12 118 "EyeTrainerModel" "number" "I" ∈ lw_gd := mem_gd (List.mem_of_getElem? (i := 1237) (by decide +kernel)) rfl
set_option maxRecDepth 20000 in
theorem q_1369 : Cond.methodLink RX12 132 yX12_next ∈ lw_gd := mem_gd (List.mem_of_getElem? (i := 1369) (by decide +kernel)) rfl
set_option maxRecDepth 20000 in
theorem q_1371 : Cond.instanceMethod yX12_next ∈ lw_gd := mem_gd (List.mem_of_getElem? (i := 1371) (by decide +kernel)) rfl
set_option maxRecDepth 20000 in
theorem q_1372 : Cond.code yX12_next cX12_next 2 none ∈ lw_gd := mem_gd (List.mem_of_getElem? (i := 1372) (by decide +kernel)) rfl
set_option maxRecDepth 20000 in
theorem q_1373 : Cond.methodLink RX12 101 yX12_see ∈ lw_gd := mem_gd (List.mem_of_getElem? (i := 1373) (by decide +kernel)) rfl
set_option maxRecDepth 20000 in
theorem q_1375 : Cond.instanceMethod yX12_see ∈ lw_gd := mem_gd (List.mem_of_getElem? (i := 1375) (by decide +kernel)) rfl
set_option maxRecDepth 20000 in
theorem q_1377 : Cond.methodLink RX12 108 yX12_isSmall ∈ lw_gd := mem_gd (List.mem_of_getElem? (i := 1377) (by decide +kernel)) rfl
set_option maxRecDepth 20000 in
theorem q_1378 : Cond.static yX12_isSmall ∈ lw_gd := mem_gd (List.mem_of_getElem? (i := 1378) (by decide +kernel)) rfl
set_option maxRecDepth 20000 in
theorem q_1380 : Cond.methodLink RX12 112 yX12_keyAt ∈ lw_gd := mem_gd (List.mem_of_getElem? (i := 1380) (by decide +kernel)) rfl
set_option maxRecDepth 20000 in
theorem q_1382 : Cond.instanceMethod yX12_keyAt ∈ lw_gd := mem_gd (List.mem_of_getElem? (i := 1382) (by decide +kernel)) rfl
set_option maxRecDepth 20000 in
theorem q_1383 : Cond.code yX12_keyAt cX12_keyAt 4 (some .int) ∈ lw_gd := mem_gd (List.mem_of_getElem? (i := 1383) (by decide +kernel)) rfl
set_option maxRecDepth 20000 in
theorem q_1385 : Cond.methodLink RX12 85 yJ0_length_8abf5 ∈ lw_gd := mem_gd (List.mem_of_getElem? (i := 1385) (by decide +kernel)) rfl
set_option maxRecDepth 20000 in
theorem q_1386 : Cond.methodLink RX12 91 yJ0_charAt_5068e ∈ lw_gd := mem_gd (List.mem_of_getElem? (i := 1386) (by decide +kernel)) rfl
set_option maxRecDepth 20000 in
theorem q_1387 : Cond.methodLink RX12 115 yX12_isDigit ∈ lw_gd := mem_gd (List.mem_of_getElem? (i := 1387) (by decide +kernel)) rfl
set_option maxRecDepth 20000 in
theorem q_1388 : Cond.static yX12_isDigit ∈ lw_gd := mem_gd (List.mem_of_getElem? (i := 1388) (by decide +kernel)) rfl
set_option maxRecDepth 20000 in
theorem q_1391 : Cond.methodLink RX12 158 yX12_eats ∈ lw_gd := mem_gd (List.mem_of_getElem? (i := 1391) (by decide +kernel)) rfl
set_option maxRecDepth 20000 in
theorem q_1393 : Cond.instanceMethod yX12_eats ∈ lw_gd := mem_gd (List.mem_of_getElem? (i := 1393) (by decide +kernel)) rfl
set_option maxRecDepth 20000 in
theorem q_1394 : Cond.code yX12_eats cX12_eats 2 (some .boolean) ∈ lw_gd := mem_gd (List.mem_of_getElem? (i := 1394) (by decide +kernel)) rfl
set_option maxRecDepth 20000 in
theorem q_1395 : Cond.methodLink RX12 129 yX12_is ∈ lw_gd := mem_gd (List.mem_of_getElem? (i := 1395) (by decide +kernel)) rfl
set_option maxRecDepth 20000 in
theorem q_1397 : Cond.instanceMethod yX12_is ∈ lw_gd := mem_gd (List.mem_of_getElem? (i := 1397) (by decide +kernel)) rfl
set_option maxRecDepth 20000 in
theorem q_1399 : Cond.methodLink RX12 135 yX12_fails ∈ lw_gd := mem_gd (List.mem_of_getElem? (i := 1399) (by decide +kernel)) rfl
set_option maxRecDepth 20000 in
theorem q_1401 : Cond.instanceMethod yX12_fails ∈ lw_gd := mem_gd (List.mem_of_getElem? (i := 1401) (by decide +kernel)) rfl
set_option maxRecDepth 20000 in
theorem q_1403 : Cond.methodLink RX12 183 yX12_named ∈ lw_gd := mem_gd (List.mem_of_getElem? (i := 1403) (by decide +kernel)) rfl
set_option maxRecDepth 20000 in
theorem q_1405 : Cond.instanceMethod yX12_named ∈ lw_gd := mem_gd (List.mem_of_getElem? (i := 1405) (by decide +kernel)) rfl
set_option maxRecDepth 20000 in
theorem q_1406 : Cond.code yX12_named cX12_named 4 (some .int) ∈ lw_gd := mem_gd (List.mem_of_getElem? (i := 1406) (by decide +kernel)) rfl
set_option maxRecDepth 20000 in
theorem q_1407 : Cond.methodLink RX12 179 yX12_takes ∈ lw_gd := mem_gd (List.mem_of_getElem? (i := 1407) (by decide +kernel)) rfl
set_option maxRecDepth 20000 in
theorem q_1409 : Cond.instanceMethod yX12_takes ∈ lw_gd := mem_gd (List.mem_of_getElem? (i := 1409) (by decide +kernel)) rfl
set_option maxRecDepth 20000 in
theorem q_1410 : Cond.code yX12_takes cX12_takes 4 (some .int) ∈ lw_gd := mem_gd (List.mem_of_getElem? (i := 1410) (by decide +kernel)) rfl
set_option maxRecDepth 20000 in
theorem q_1414 : Cond.code yX12_closes cX12_closes 1 none ∈ lw_gd := mem_gd (List.mem_of_getElem? (i := 1414) (by decide +kernel)) rfl
set_option maxRecDepth 20000 in
theorem q_1422 : Cond.code yX12_readLane cX12_readLane 2 none ∈ lw_gd := mem_gd (List.mem_of_getElem? (i := 1422) (by decide +kernel)) rfl
set_option maxRecDepth 20000 in
theorem q_1426 : Cond.code yX12_readPattern cX12_readPattern 2 none ∈ lw_gd := mem_gd (List.mem_of_getElem? (i := 1426) (by decide +kernel)) rfl
set_option maxRecDepth 20000 in
theorem q_1454 : Cond.code yX12_goesIn cX12_goesIn 2 (some .boolean) ∈ lw_gd := mem_gd (List.mem_of_getElem? (i := 1454) (by decide +kernel)) rfl
theorem dX12_keyAt_0 : decode cX12_keyAt 0 = .ok (.iconst 0, 1) := by decide +kernel
theorem dX12_keyAt_1 : decode cX12_keyAt 1 = .ok (.istore_n 1, 1) := by decide +kernel
theorem dX12_keyAt_2 : decode cX12_keyAt 2 = .ok (.iconst 1, 1) := by decide +kernel
theorem dX12_keyAt_3 : decode cX12_keyAt 3 = .ok (.istore_n 2, 1) := by decide +kernel
theorem dX12_keyAt_4 : decode cX12_keyAt 4 = .ok (.iload_n 2, 1) := by decide +kernel
theorem dX12_keyAt_5 : decode cX12_keyAt 5 = .ok (.ldc 83, 2) := by decide +kernel
theorem dX12_keyAt_7 : decode cX12_keyAt 7 = .ok (.invokevirtual 85, 3) := by decide +kernel
theorem dX12_keyAt_10 : decode cX12_keyAt 10 = .ok (.if_icmp .ge 113, 3) := by decide +kernel
theorem dX12_keyAt_13 : decode cX12_keyAt 13 = .ok (.iconst 0, 1) := by decide +kernel
theorem dX12_keyAt_14 : decode cX12_keyAt 14 = .ok (.istore_n 3, 1) := by decide +kernel
theorem dX12_keyAt_15 : decode cX12_keyAt 15 = .ok (.ldc 83, 2) := by decide +kernel
theorem dX12_keyAt_17 : decode cX12_keyAt 17 = .ok (.iload_n 2, 1) := by decide +kernel
theorem dX12_keyAt_18 : decode cX12_keyAt 18 = .ok (.iload_n 3, 1) := by decide +kernel
theorem dX12_keyAt_19 : decode cX12_keyAt 19 = .ok (.iadd, 1) := by decide +kernel
theorem dX12_keyAt_20 : decode cX12_keyAt 20 = .ok (.invokevirtual 91, 3) := by decide +kernel
theorem dX12_keyAt_23 : decode cX12_keyAt 23 = .ok (.bipush 32, 2) := by decide +kernel
theorem dX12_keyAt_25 : decode cX12_keyAt 25 = .ok (.if_icmp .eq 44, 3) := by decide +kernel
theorem dX12_keyAt_28 : decode cX12_keyAt 28 = .ok (.aload_n 0, 1) := by decide +kernel
theorem dX12_keyAt_29 : decode cX12_keyAt 29 = .ok (.getfield 95, 3) := by decide +kernel
theorem dX12_keyAt_32 : decode cX12_keyAt 32 = .ok (.iload_n 3, 1) := by decide +kernel
theorem dX12_keyAt_33 : decode cX12_keyAt 33 = .ok (.iadd, 1) := by decide +kernel
theorem dX12_keyAt_34 : decode cX12_keyAt 34 = .ok (.aload_n 0, 1) := by decide +kernel
theorem dX12_keyAt_35 : decode cX12_keyAt 35 = .ok (.getfield 98, 3) := by decide +kernel
theorem dX12_keyAt_38 : decode cX12_keyAt 38 = .ok (.if_icmp .ge 31, 3) := by decide +kernel
theorem dX12_keyAt_41 : decode cX12_keyAt 41 = .ok (.aload_n 0, 1) := by decide +kernel
theorem dX12_keyAt_42 : decode cX12_keyAt 42 = .ok (.getfield 21, 3) := by decide +kernel
theorem dX12_keyAt_45 : decode cX12_keyAt 45 = .ok (.aload_n 0, 1) := by decide +kernel
theorem dX12_keyAt_46 : decode cX12_keyAt 46 = .ok (.getfield 95, 3) := by decide +kernel
theorem dX12_keyAt_49 : decode cX12_keyAt 49 = .ok (.iload_n 3, 1) := by decide +kernel
theorem dX12_keyAt_50 : decode cX12_keyAt 50 = .ok (.iadd, 1) := by decide +kernel
theorem dX12_keyAt_51 : decode cX12_keyAt 51 = .ok (.iaload, 1) := by decide +kernel
theorem dX12_keyAt_52 : decode cX12_keyAt 52 = .ok (.ldc 83, 2) := by decide +kernel
theorem dX12_keyAt_54 : decode cX12_keyAt 54 = .ok (.iload_n 2, 1) := by decide +kernel
theorem dX12_keyAt_55 : decode cX12_keyAt 55 = .ok (.iload_n 3, 1) := by decide +kernel
theorem dX12_keyAt_56 : decode cX12_keyAt 56 = .ok (.iadd, 1) := by decide +kernel
theorem dX12_keyAt_57 : decode cX12_keyAt 57 = .ok (.invokevirtual 91, 3) := by decide +kernel
theorem dX12_keyAt_60 : decode cX12_keyAt 60 = .ok (.if_icmp .ne 9, 3) := by decide +kernel
theorem dX12_keyAt_63 : decode cX12_keyAt 63 = .ok (.iinc 3 1, 3) := by decide +kernel
theorem dX12_keyAt_66 : decode cX12_keyAt 66 = .ok (.goto (-51), 3) := by decide +kernel
theorem dX12_keyAt_69 : decode cX12_keyAt 69 = .ok (.ldc 83, 2) := by decide +kernel
theorem dX12_keyAt_71 : decode cX12_keyAt 71 = .ok (.iload_n 2, 1) := by decide +kernel
theorem dX12_keyAt_72 : decode cX12_keyAt 72 = .ok (.iload_n 3, 1) := by decide +kernel
theorem dX12_keyAt_73 : decode cX12_keyAt 73 = .ok (.iadd, 1) := by decide +kernel
theorem dX12_keyAt_74 : decode cX12_keyAt 74 = .ok (.invokevirtual 91, 3) := by decide +kernel
theorem dX12_keyAt_77 : decode cX12_keyAt 77 = .ok (.bipush 32, 2) := by decide +kernel
theorem dX12_keyAt_79 : decode cX12_keyAt 79 = .ok (.if_icmp .ne 18, 3) := by decide +kernel
theorem dX12_keyAt_82 : decode cX12_keyAt 82 = .ok (.aload_n 0, 1) := by decide +kernel
theorem dX12_keyAt_83 : decode cX12_keyAt 83 = .ok (.getfield 95, 3) := by decide +kernel
theorem dX12_keyAt_86 : decode cX12_keyAt 86 = .ok (.iload_n 3, 1) := by decide +kernel
theorem dX12_keyAt_87 : decode cX12_keyAt 87 = .ok (.iadd, 1) := by decide +kernel
theorem dX12_keyAt_88 : decode cX12_keyAt 88 = .ok (.aload_n 0, 1) := by decide +kernel
theorem dX12_keyAt_89 : decode cX12_keyAt 89 = .ok (.getfield 98, 3) := by decide +kernel
theorem dX12_keyAt_92 : decode cX12_keyAt 92 = .ok (.if_icmp .ne 5, 3) := by decide +kernel
theorem dX12_keyAt_95 : decode cX12_keyAt 95 = .ok (.iload_n 1, 1) := by decide +kernel
theorem dX12_keyAt_96 : decode cX12_keyAt 96 = .ok (.ireturn, 1) := by decide +kernel
theorem dX12_keyAt_97 : decode cX12_keyAt 97 = .ok (.ldc 83, 2) := by decide +kernel
theorem dX12_keyAt_99 : decode cX12_keyAt 99 = .ok (.iload_n 2, 1) := by decide +kernel
theorem dX12_keyAt_100 : decode cX12_keyAt 100 = .ok (.invokevirtual 91, 3) := by decide +kernel
theorem dX12_keyAt_103 : decode cX12_keyAt 103 = .ok (.bipush 32, 2) := by decide +kernel
theorem dX12_keyAt_105 : decode cX12_keyAt 105 = .ok (.if_icmp .eq 9, 3) := by decide +kernel
theorem dX12_keyAt_108 : decode cX12_keyAt 108 = .ok (.iinc 2 1, 3) := by decide +kernel
theorem dX12_keyAt_111 : decode cX12_keyAt 111 = .ok (.goto (-14), 3) := by decide +kernel
theorem dX12_keyAt_114 : decode cX12_keyAt 114 = .ok (.iinc 2 1, 3) := by decide +kernel
theorem dX12_keyAt_117 : decode cX12_keyAt 117 = .ok (.iinc 1 1, 3) := by decide +kernel
theorem dX12_keyAt_120 : decode cX12_keyAt 120 = .ok (.goto (-116), 3) := by decide +kernel
theorem dX12_keyAt_123 : decode cX12_keyAt 123 = .ok (.bipush 24, 2) := by decide +kernel
theorem dX12_keyAt_125 : decode cX12_keyAt 125 = .ok (.ireturn, 1) := by decide +kernel
theorem wX12_keyAt : Mw yX12_keyAt cX12_keyAt 4 (some .int) 0 := ⟨q_1383, q_130, by decide, ⟨by decide +kernel, by decide +kernel⟩, by decide +kernel, by decide +kernel⟩
-- a loop of EyeTrainerModel.keyAt at 4
-- a loop of EyeTrainerModel.keyAt at 15
def bX12_keyAt_15 (T : Sh) (M : Me) (x0 : Nat) (x1 : Int32) (x2 : Int32) (x3 : Int32) : Option ((Int32) ⊕ (Int32)) :=
  gd (24 < 25) <| Option.bind (fJ0_charAt_5068e 24 (x2 + x3)) fun r5 => if r5 = (32 : Int32) then (some (.inr x3)) else (gd (kd T x0 = 11) <| if (gI M x0 7) ≤ ((gI M x0 6) + x3) then (some (.inr x3)) else (Option.bind (gR M x0 3) fun a9 => gd (kd T a9 = 13) <| gv ((gI M x0 6) + x3) (ln T a9) <| Option.bind (fJ0_charAt_5068e 24 (x2 + x3)) fun r12 => if (gI M a9 (Int32.toNatClampNeg ((gI M x0 6) + x3))) = r12 then (lt (x3 + (1 : Int32)) fun v14 => some (.inl v14)) else (some (.inr x3))))
def PX12_keyAt_15 (X : Fx) (B : Bx) (Z : Nat × Nat × Nat × Nat) (Q : State → Prop) (T : Sh) (M : Me) (x0 : Nat) (x1 : Int32) (x2 : Int32) (s : Int32) : Prop := G X B 4 Z Q 15 [(0, .ref (x0)), (1, .int (x1)), (2, .int (x2)), (3, .int (s))] [] T M
def EX12_keyAt_15 (X : Fx) (B : Bx) (Z : Nat × Nat × Nat × Nat) (Q : State → Prop) (T : Sh) (M : Me) (x0 : Nat) (x1 : Int32) (x2 : Int32) (r : Int32) : Prop := G X B 4 Z Q 69 [(0, .ref (x0)), (1, .int (x1)), (2, .int (x2)), (3, .int (r))] [] T M
set_option maxHeartbeats 4000000 in
theorem tbX12_keyAt_15 {X : Fx} {B : Bx} {Z : Nat × Nat × Nat × Nat} {Q : State → Prop} {d : Nat} {T : Sh} {M : Me} (C : Cx X B cX12_keyAt 4 RX12 d Z) (hd : 4 ≤ d) {x0 : Nat} {x1 : Int32} {x2 : Int32} : ∀ (s : Int32) (o : (Int32) ⊕ (Int32)), bX12_keyAt_15 T M x0 x1 x2 s = some o → lpE (PX12_keyAt_15 X B Z Q T M x0 x1 x2) (EX12_keyAt_15 X B Z Q T M x0 x1 x2) o → PX12_keyAt_15 X B Z Q T M x0 x1 x2 s := by
  rintro x3 o h hE
  replace h : bX12_keyAt_15 T M x0 x1 x2 x3 = some o := h
  unfold bX12_keyAt_15 at h
  show G X B 4 Z Q 15 [(0, .ref (x0)), (1, .int (x1)), (2, .int (x2)), (3, .int (x3))] [] T M
  refine g_ldcS (pc := 15) (tx := " lab aspect hold lane at level wide high pattern passes edge drifts if then else end delay stress drift time and or not ") (w := 24) C dX12_keyAt_15 (by decide +kernel) ?_
  refine g_iload_n (pc := 17) C dX12_keyAt_17 rfl 2 rfl ?_
  refine g_iload_n (pc := 18) C dX12_keyAt_18 rfl 3 rfl ?_
  refine g_iadd (pc := 19) C dX12_keyAt_19 ?_
  replace h := gd_some h; obtain ⟨hw4, h⟩ := h
  replace h := bnd h; obtain ⟨r5, h1, h⟩ := h
  refine g_callTi (pc := 20) (As := [.int (x2 + x3)]) (st := []) C dX12_keyAt_20 wJ0_charAt_5068e hw4 rfl q_511 q_512 q_1386 (by omega) rfl (Nat.le_of_ble_eq_true rfl) (kJ0_charAt_5068e (d := 3) (Nat.le_refl _) h1) ?_
  refine g_bipush (pc := 23) (v := 32) C dX12_keyAt_23 (by decide) ?_
  refine g_icmp_eq (pc := 25) (tgt := 69) C dX12_keyAt_25 (by decide) (fun c6 => ?_) (fun c6 => ?_)
  · replace h := ifp c6 h
    obtain rfl := Option.some.inj h
    exact g_sub [0, 1, 2, 3] rfl (show G X B 4 Z Q 69 [(0, .ref (x0)), (1, .int (x1)), (2, .int (x2)), (3, .int (x3))] [] T M from hE)
  · replace h := ifn c6 h
    refine g_aload_n (pc := 28) C dX12_keyAt_28 rfl 0 rfl ?_
    replace h := gd_some h; obtain ⟨hk7, h⟩ := h
    refine g_get (pc := 29) (v := .int (gI M x0 6)) C dX12_keyAt_29 kX12 hk7 6 (by decide) q_1233 rfl ?_
    refine g_iload_n (pc := 32) C dX12_keyAt_32 rfl 3 rfl ?_
    refine g_iadd (pc := 33) C dX12_keyAt_33 ?_
    refine g_aload_n (pc := 34) C dX12_keyAt_34 rfl 0 rfl ?_
    refine g_get (pc := 35) (v := .int (gI M x0 7)) C dX12_keyAt_35 kX12 hk7 7 (by decide) q_1234 rfl ?_
    refine g_icmp_ge (pc := 38) (tgt := 69) C dX12_keyAt_38 (by decide) (fun c8 => ?_) (fun c8 => ?_)
    · replace h := ifp c8 h
      obtain rfl := Option.some.inj h
      exact g_sub [0, 1, 2, 3] rfl (show G X B 4 Z Q 69 [(0, .ref (x0)), (1, .int (x1)), (2, .int (x2)), (3, .int (x3))] [] T M from hE)
    · replace h := ifn c8 h
      refine g_aload_n (pc := 41) C dX12_keyAt_41 rfl 0 rfl ?_
      refine g_get (pc := 42) (v := va_rf (gR M x0 3)) C dX12_keyAt_42 kX12 hk7 3 (by decide) q_1230 rfl ?_
      replace h := bnd h; obtain ⟨a9, ea9, h⟩ := h
      refine g_refq ea9 ?_
      refine g_aload_n (pc := 45) C dX12_keyAt_45 rfl 0 rfl ?_
      refine g_get (pc := 46) (v := .int (gI M x0 6)) C dX12_keyAt_46 kX12 hk7 6 (by decide) q_1233 rfl ?_
      refine g_iload_n (pc := 49) C dX12_keyAt_49 rfl 3 rfl ?_
      refine g_iadd (pc := 50) C dX12_keyAt_50 ?_
      replace h := gd_some h; obtain ⟨hk10, h⟩ := h
      replace h := gv_some h; obtain ⟨hi11, h⟩ := h
      refine g_iald (pc := 51) C dX12_keyAt_51 hk10 hi11 ?_
      refine g_ldcS (pc := 52) (tx := " lab aspect hold lane at level wide high pattern passes edge drifts if then else end delay stress drift time and or not ") (w := 24) C dX12_keyAt_52 (by decide +kernel) ?_
      refine g_iload_n (pc := 54) C dX12_keyAt_54 rfl 2 rfl ?_
      refine g_iload_n (pc := 55) C dX12_keyAt_55 rfl 3 rfl ?_
      refine g_iadd (pc := 56) C dX12_keyAt_56 ?_
      replace h := bnd h; obtain ⟨r12, h1, h⟩ := h
      refine g_callTi (pc := 57) (As := [.int (x2 + x3)]) (st := [.int (gI M a9 (Int32.toNatClampNeg ((gI M x0 6) + x3)))]) C dX12_keyAt_57 wJ0_charAt_5068e hw4 rfl q_511 q_512 q_1386 (by omega) rfl (Nat.le_of_ble_eq_true rfl) (kJ0_charAt_5068e (d := 3) (Nat.le_refl _) h1) ?_
      refine g_icmp_ne (pc := 60) (tgt := 69) C dX12_keyAt_60 (by decide) (fun c13 => ?_) (fun c13 => ?_)
      · replace h := ifn c13 h
        obtain rfl := Option.some.inj h
        exact g_sub [0, 1, 2, 3] rfl (show G X B 4 Z Q 69 [(0, .ref (x0)), (1, .int (x1)), (2, .int (x2)), (3, .int (x3))] [] T M from hE)
      · replace h := ifp c13 h
        obtain ⟨v14, ev14⟩ : ∃ y : Int32, y = x3 + (1 : Int32) := ⟨_, rfl⟩
        replace h := lt_at ev14 h
        refine g_iinc (pc := 63) (v := v14) (k := 3) (lo2 := [(3, .int (v14)), (0, .ref (x0)), (1, .int (x1)), (2, .int (x2))]) C dX12_keyAt_63 rfl (by rw [ev14]; rfl) (by decide) rfl ?_
        refine g_goto (pc := 66) (tgt := 15) C dX12_keyAt_66 (by decide) ?_
        obtain rfl := Option.some.inj h
        exact g_sub [1, 2, 3, 0] rfl (show G X B 4 Z Q 15 [(0, .ref (x0)), (1, .int (x1)), (2, .int (x2)), (3, .int (v14))] [] T M from hE)
-- a loop of EyeTrainerModel.keyAt at 97
def bX12_keyAt_97 (T : Sh) (M : Me) (x0 : Nat) (x1 : Int32) (x2 : Int32) : Option ((Int32) ⊕ (Int32)) :=
  gd (24 < 25) <| Option.bind (fJ0_charAt_5068e 24 x2) fun r19 => if r19 = (32 : Int32) then (some (.inr x2)) else (lt (x2 + (1 : Int32)) fun v21 => some (.inl v21))
def PX12_keyAt_97 (X : Fx) (B : Bx) (Z : Nat × Nat × Nat × Nat) (Q : State → Prop) (T : Sh) (M : Me) (x0 : Nat) (x1 : Int32) (s : Int32) : Prop := G X B 4 Z Q 97 [(0, .ref (x0)), (1, .int (x1)), (2, .int (s))] [] T M
def EX12_keyAt_97 (X : Fx) (B : Bx) (Z : Nat × Nat × Nat × Nat) (Q : State → Prop) (T : Sh) (M : Me) (x0 : Nat) (x1 : Int32) (r : Int32) : Prop := G X B 4 Z Q 114 [(0, .ref (x0)), (1, .int (x1)), (2, .int (r))] [] T M
set_option maxHeartbeats 4000000 in
theorem tbX12_keyAt_97 {X : Fx} {B : Bx} {Z : Nat × Nat × Nat × Nat} {Q : State → Prop} {d : Nat} {T : Sh} {M : Me} (C : Cx X B cX12_keyAt 4 RX12 d Z) (hd : 4 ≤ d) {x0 : Nat} {x1 : Int32} : ∀ (s : Int32) (o : (Int32) ⊕ (Int32)), bX12_keyAt_97 T M x0 x1 s = some o → lpE (PX12_keyAt_97 X B Z Q T M x0 x1) (EX12_keyAt_97 X B Z Q T M x0 x1) o → PX12_keyAt_97 X B Z Q T M x0 x1 s := by
  rintro x2 o h hE
  replace h : bX12_keyAt_97 T M x0 x1 x2 = some o := h
  unfold bX12_keyAt_97 at h
  show G X B 4 Z Q 97 [(0, .ref (x0)), (1, .int (x1)), (2, .int (x2))] [] T M
  refine g_ldcS (pc := 97) (tx := " lab aspect hold lane at level wide high pattern passes edge drifts if then else end delay stress drift time and or not ") (w := 24) C dX12_keyAt_97 (by decide +kernel) ?_
  refine g_iload_n (pc := 99) C dX12_keyAt_99 rfl 2 rfl ?_
  replace h := gd_some h; obtain ⟨hw18, h⟩ := h
  replace h := bnd h; obtain ⟨r19, h1, h⟩ := h
  refine g_callTi (pc := 100) (As := [.int (x2)]) (st := []) C dX12_keyAt_100 wJ0_charAt_5068e hw18 rfl q_511 q_512 q_1386 (by omega) rfl (Nat.le_of_ble_eq_true rfl) (kJ0_charAt_5068e (d := 3) (Nat.le_refl _) h1) ?_
  refine g_bipush (pc := 103) (v := 32) C dX12_keyAt_103 (by decide) ?_
  refine g_icmp_eq (pc := 105) (tgt := 114) C dX12_keyAt_105 (by decide) (fun c20 => ?_) (fun c20 => ?_)
  · replace h := ifp c20 h
    obtain rfl := Option.some.inj h
    exact g_sub [0, 1, 2] rfl (show G X B 4 Z Q 114 [(0, .ref (x0)), (1, .int (x1)), (2, .int (x2))] [] T M from hE)
  · replace h := ifn c20 h
    obtain ⟨v21, ev21⟩ : ∃ y : Int32, y = x2 + (1 : Int32) := ⟨_, rfl⟩
    replace h := lt_at ev21 h
    refine g_iinc (pc := 108) (v := v21) (k := 2) (lo2 := [(2, .int (v21)), (0, .ref (x0)), (1, .int (x1))]) C dX12_keyAt_108 rfl (by rw [ev21]; rfl) (by decide) rfl ?_
    refine g_goto (pc := 111) (tgt := 97) C dX12_keyAt_111 (by decide) ?_
    obtain rfl := Option.some.inj h
    exact g_sub [1, 2, 0] rfl (show G X B 4 Z Q 97 [(0, .ref (x0)), (1, .int (x1)), (2, .int (v21))] [] T M from hE)
def bX12_keyAt_4 (T : Sh) (M : Me) (x0 : Nat) (x1 : Int32) (x2 : Int32) : Option ((Int32 × Int32) ⊕ (Int32 ⊕ Unit)) :=
  gd (24 < 25) <| Option.bind (fJ0_length_8abf5 24) fun r2 => if r2 ≤ x2 then (some (.inr (.inr ()))) else ((lp FU (fun s => bX12_keyAt_15 T M x0 x1 x2 s) (0 : Int32)).bind (fun x3_15 => Option.bind (fJ0_charAt_5068e 24 (x2 + x3_15)) fun r16 => if r16 = (32 : Int32) then (gd (kd T x0 = 11) <| if ((gI M x0 6) + x3_15) = (gI M x0 7) then (some (.inr (.inl x1))) else ((lp FU (fun s => bX12_keyAt_97 T M x0 x1 s) x2).bind (fun x2_27 => lt (x2_27 + (1 : Int32)) fun v28 => lt (x1 + (1 : Int32)) fun v29 => some (.inl (v29, v28))))) else ((lp FU (fun s => bX12_keyAt_97 T M x0 x1 s) x2).bind (fun x2_22 => lt (x2_22 + (1 : Int32)) fun v23 => lt (x1 + (1 : Int32)) fun v24 => some (.inl (v24, v23))))))
def PX12_keyAt_4 (X : Fx) (B : Bx) (Z : Nat × Nat × Nat × Nat) (Q : State → Prop) (T : Sh) (M : Me) (x0 : Nat) (s : Int32 × Int32) : Prop := G X B 4 Z Q 4 [(0, .ref (x0)), (1, .int (s.1)), (2, .int (s.2))] [] T M
def EX12_keyAt_4 (X : Fx) (B : Bx) (Z : Nat × Nat × Nat × Nat) (Q : State → Prop) (T : Sh) (M : Me) (x0 : Nat) (r : Int32 ⊕ Unit) : Prop := Sum.elim (fun r => G X B 4 Z Q 95 [(1, .int (r))] [] T M) (fun r => G X B 4 Z Q 123 [] [] T M) r
set_option maxHeartbeats 4000000 in
theorem tbX12_keyAt_4 {X : Fx} {B : Bx} {Z : Nat × Nat × Nat × Nat} {Q : State → Prop} {d : Nat} {T : Sh} {M : Me} (C : Cx X B cX12_keyAt 4 RX12 d Z) (hd : 4 ≤ d) {x0 : Nat} : ∀ (s : Int32 × Int32) (o : (Int32 × Int32) ⊕ (Int32 ⊕ Unit)), bX12_keyAt_4 T M x0 s.1 s.2 = some o → lpE (PX12_keyAt_4 X B Z Q T M x0) (EX12_keyAt_4 X B Z Q T M x0) o → PX12_keyAt_4 X B Z Q T M x0 s := by
  rintro ⟨x1, x2⟩ o h hE
  replace h : bX12_keyAt_4 T M x0 x1 x2 = some o := h
  unfold bX12_keyAt_4 at h
  show G X B 4 Z Q 4 [(0, .ref (x0)), (1, .int (x1)), (2, .int (x2))] [] T M
  refine g_iload_n (pc := 4) C dX12_keyAt_4 rfl 2 rfl ?_
  refine g_ldcS (pc := 5) (tx := " lab aspect hold lane at level wide high pattern passes edge drifts if then else end delay stress drift time and or not ") (w := 24) C dX12_keyAt_5 (by decide +kernel) ?_
  replace h := gd_some h; obtain ⟨hw1, h⟩ := h
  replace h := bnd h; obtain ⟨r2, h1, h⟩ := h
  refine g_callTi (pc := 7) (As := []) (st := [.int (x2)]) C dX12_keyAt_7 wJ0_length_8abf5 hw1 rfl q_501 q_502 q_1385 (by omega) rfl (Nat.le_of_ble_eq_true rfl) (kJ0_length_8abf5 (d := 1) (Nat.le_refl _) h1) ?_
  refine g_icmp_ge (pc := 10) (tgt := 123) C dX12_keyAt_10 (by decide) (fun c3 => ?_) (fun c3 => ?_)
  · replace h := ifp c3 h
    obtain rfl := Option.some.inj h
    exact g_sub [] rfl (show G X B 4 Z Q 123 [] [] T M from hE)
  · replace h := ifn c3 h
    refine g_iconst (pc := 13) (v := 0) C dX12_keyAt_13 (by decide) ?_
    refine g_istore_n (pc := 14) (lo2 := [(3, .int ((0 : Int32))), (0, .ref (x0)), (1, .int (x1)), (2, .int (x2))]) C dX12_keyAt_14 rfl (by decide) rfl ?_
    replace h := bnd h; obtain ⟨x3_15, h1, h⟩ := h
    refine g_sub [1, 2, 3, 0] rfl ?_
    refine lp_G2 (P := PX12_keyAt_15 X B _ _ T M x0 x1 x2) (E := EX12_keyAt_15 X B _ _ T M x0 x1 x2) (tbX12_keyAt_15 C hd) h1 ?_
    show G X B 4 _ _ 69 [(0, .ref (x0)), (1, .int (x1)), (2, .int (x2)), (3, .int (x3_15))] [] T M
    refine g_ldcS (pc := 69) (tx := " lab aspect hold lane at level wide high pattern passes edge drifts if then else end delay stress drift time and or not ") (w := 24) C dX12_keyAt_69 (by decide +kernel) ?_
    refine g_iload_n (pc := 71) C dX12_keyAt_71 rfl 2 rfl ?_
    refine g_iload_n (pc := 72) C dX12_keyAt_72 rfl 3 rfl ?_
    refine g_iadd (pc := 73) C dX12_keyAt_73 ?_
    replace h := bnd h; obtain ⟨r16, h1, h⟩ := h
    refine g_callTi (pc := 74) (As := [.int (x2 + x3_15)]) (st := []) C dX12_keyAt_74 wJ0_charAt_5068e hw1 rfl q_511 q_512 q_1386 (by omega) rfl (Nat.le_of_ble_eq_true rfl) (kJ0_charAt_5068e (d := 3) (Nat.le_refl _) h1) ?_
    refine g_bipush (pc := 77) (v := 32) C dX12_keyAt_77 (by decide) ?_
    refine g_icmp_ne (pc := 79) (tgt := 97) C dX12_keyAt_79 (by decide) (fun c17 => ?_) (fun c17 => ?_)
    · replace h := ifn c17 h
      replace h := bnd h; obtain ⟨x2_22, h1, h⟩ := h
      refine g_sub [0, 1, 2] rfl ?_
      refine lp_G2 (P := PX12_keyAt_97 X B _ _ T M x0 x1) (E := EX12_keyAt_97 X B _ _ T M x0 x1) (tbX12_keyAt_97 C hd) h1 ?_
      show G X B 4 _ _ 114 [(0, .ref (x0)), (1, .int (x1)), (2, .int (x2_22))] [] T M
      obtain ⟨v23, ev23⟩ : ∃ y : Int32, y = x2_22 + (1 : Int32) := ⟨_, rfl⟩
      replace h := lt_at ev23 h
      refine g_iinc (pc := 114) (v := v23) (k := 2) (lo2 := [(2, .int (v23)), (0, .ref (x0)), (1, .int (x1))]) C dX12_keyAt_114 rfl (by rw [ev23]; rfl) (by decide) rfl ?_
      obtain ⟨v24, ev24⟩ : ∃ y : Int32, y = x1 + (1 : Int32) := ⟨_, rfl⟩
      replace h := lt_at ev24 h
      refine g_iinc (pc := 117) (v := v24) (k := 2) (lo2 := [(1, .int (v24)), (2, .int (v23)), (0, .ref (x0))]) C dX12_keyAt_117 rfl (by rw [ev24]; rfl) (by decide) rfl ?_
      refine g_goto (pc := 120) (tgt := 4) C dX12_keyAt_120 (by decide) ?_
      obtain rfl := Option.some.inj h
      exact g_sub [2, 0, 1] rfl (show G X B 4 Z Q 4 [(0, .ref (x0)), (1, .int (v24)), (2, .int (v23))] [] T M from hE)
    · replace h := ifp c17 h
      refine g_aload_n (pc := 82) C dX12_keyAt_82 rfl 0 rfl ?_
      replace h := gd_some h; obtain ⟨hk25, h⟩ := h
      refine g_get (pc := 83) (v := .int (gI M x0 6)) C dX12_keyAt_83 kX12 hk25 6 (by decide) q_1233 rfl ?_
      refine g_iload_n (pc := 86) C dX12_keyAt_86 rfl 3 rfl ?_
      refine g_iadd (pc := 87) C dX12_keyAt_87 ?_
      refine g_aload_n (pc := 88) C dX12_keyAt_88 rfl 0 rfl ?_
      refine g_get (pc := 89) (v := .int (gI M x0 7)) C dX12_keyAt_89 kX12 hk25 7 (by decide) q_1234 rfl ?_
      refine g_icmp_ne (pc := 92) (tgt := 97) C dX12_keyAt_92 (by decide) (fun c26 => ?_) (fun c26 => ?_)
      · replace h := ifn c26 h
        replace h := bnd h; obtain ⟨x2_27, h1, h⟩ := h
        refine g_sub [0, 1, 2] rfl ?_
        refine lp_G2 (P := PX12_keyAt_97 X B _ _ T M x0 x1) (E := EX12_keyAt_97 X B _ _ T M x0 x1) (tbX12_keyAt_97 C hd) h1 ?_
        show G X B 4 _ _ 114 [(0, .ref (x0)), (1, .int (x1)), (2, .int (x2_27))] [] T M
        obtain ⟨v28, ev28⟩ : ∃ y : Int32, y = x2_27 + (1 : Int32) := ⟨_, rfl⟩
        replace h := lt_at ev28 h
        refine g_iinc (pc := 114) (v := v28) (k := 2) (lo2 := [(2, .int (v28)), (0, .ref (x0)), (1, .int (x1))]) C dX12_keyAt_114 rfl (by rw [ev28]; rfl) (by decide) rfl ?_
        obtain ⟨v29, ev29⟩ : ∃ y : Int32, y = x1 + (1 : Int32) := ⟨_, rfl⟩
        replace h := lt_at ev29 h
        refine g_iinc (pc := 117) (v := v29) (k := 2) (lo2 := [(1, .int (v29)), (2, .int (v28)), (0, .ref (x0))]) C dX12_keyAt_117 rfl (by rw [ev29]; rfl) (by decide) rfl ?_
        refine g_goto (pc := 120) (tgt := 4) C dX12_keyAt_120 (by decide) ?_
        obtain rfl := Option.some.inj h
        exact g_sub [2, 0, 1] rfl (show G X B 4 Z Q 4 [(0, .ref (x0)), (1, .int (v29)), (2, .int (v28))] [] T M from hE)
      · replace h := ifp c26 h
        obtain rfl := Option.some.inj h
        exact g_sub [1] rfl (show G X B 4 Z Q 95 [(1, .int (x1))] [] T M from hE)
/-- EyeTrainerModel.keyAt()I -/
def fX12_keyAt (T : Sh) (M : Me) (x0 : Nat) : Option (Int32) :=
  (lp FU (fun s => bX12_keyAt_4 T M x0 s.1 s.2) ((0 : Int32), (1 : Int32))).bind (Sum.elim (fun x1_30 => some x1_30) (fun _ => some (24 : Int32)))
set_option maxHeartbeats 4000000 in
theorem kX12_keyAt {l : Launch} {B : Bx} {d : Nat} (hd : 4 ≤ d) {T : Sh} {M : Me} {x0 : Nat} {r : Int32} (h : fX12_keyAt T M x0 = some r) : Kt l B yX12_keyAt cX12_keyAt 4 (some .int) d [.ref (x0)] T M (some (.int r)) T M := by
  refine kt_of wX12_keyAt (Nat.le_refl _) (Nat.le_refl _) (Nat.le_of_ble_eq_true rfl) (fun X C hR hlx hin => ?_)
  subst hlx
  replace C : Cx X B cX12_keyAt 4 RX12 d (tp T, sl T, tp T, sl T) := C
  unfold fX12_keyAt at h
  show G X B 4 _ _ 0 [(0, .ref (x0))] [] T M
  refine g_iconst (pc := 0) (v := 0) C dX12_keyAt_0 (by decide) ?_
  refine g_istore_n (pc := 1) (lo2 := [(1, .int ((0 : Int32))), (0, .ref (x0))]) C dX12_keyAt_1 rfl (by decide) rfl ?_
  refine g_iconst (pc := 2) (v := 1) C dX12_keyAt_2 (by decide) ?_
  refine g_istore_n (pc := 3) (lo2 := [(2, .int ((1 : Int32))), (1, .int ((0 : Int32))), (0, .ref (x0))]) C dX12_keyAt_3 rfl (by decide) rfl ?_
  replace h := bndE h; rcases h with ⟨x1_30, h1, h⟩ | ⟨a1, h1, h⟩
  · refine g_sub [2, 1, 0] rfl ?_
    refine lp_G2 (P := PX12_keyAt_4 X B _ _ T M x0) (E := EX12_keyAt_4 X B _ _ T M x0) (tbX12_keyAt_4 C hd) h1 ?_
    show G X B 4 _ _ 95 [(1, .int (x1_30))] [] T M
    refine g_iload_n (pc := 95) C dX12_keyAt_95 rfl 0 rfl ?_
    obtain rfl := Option.some.inj h
    exact g_iret C hR dX12_keyAt_96
  · refine g_sub [2, 1, 0] rfl ?_
    refine lp_G2 (P := PX12_keyAt_4 X B _ _ T M x0) (E := EX12_keyAt_4 X B _ _ T M x0) (tbX12_keyAt_4 C hd) h1 ?_
    show G X B 4 _ _ 123 [] [] T M
    refine g_bipush (pc := 123) (v := 24) C dX12_keyAt_123 (by decide) ?_
    obtain rfl := Option.some.inj h
    exact g_iret C hR dX12_keyAt_125
theorem dX12_next_0 : decode cX12_next 0 = .ok (.aload_n 0, 1) := by decide +kernel
theorem dX12_next_1 : decode cX12_next 1 = .ok (.aload_n 0, 1) := by decide +kernel
theorem dX12_next_2 : decode cX12_next 2 = .ok (.getfield 98, 3) := by decide +kernel
theorem dX12_next_5 : decode cX12_next 5 = .ok (.putfield 95, 3) := by decide +kernel
theorem dX12_next_8 : decode cX12_next 8 = .ok (.aload_n 0, 1) := by decide +kernel
theorem dX12_next_9 : decode cX12_next 9 = .ok (.aload_n 0, 1) := by decide +kernel
theorem dX12_next_10 : decode cX12_next 10 = .ok (.getfield 95, 3) := by decide +kernel
theorem dX12_next_13 : decode cX12_next 13 = .ok (.invokevirtual 101, 3) := by decide +kernel
theorem dX12_next_16 : decode cX12_next 16 = .ok (.bipush 10, 2) := by decide +kernel
theorem dX12_next_18 : decode cX12_next 18 = .ok (.if_icmp .eq 16, 3) := by decide +kernel
theorem dX12_next_21 : decode cX12_next 21 = .ok (.aload_n 0, 1) := by decide +kernel
theorem dX12_next_22 : decode cX12_next 22 = .ok (.aload_n 0, 1) := by decide +kernel
theorem dX12_next_23 : decode cX12_next 23 = .ok (.getfield 95, 3) := by decide +kernel
theorem dX12_next_26 : decode cX12_next 26 = .ok (.invokevirtual 101, 3) := by decide +kernel
theorem dX12_next_29 : decode cX12_next 29 = .ok (.bipush 32, 2) := by decide +kernel
theorem dX12_next_31 : decode cX12_next 31 = .ok (.if_icmp .ne 16, 3) := by decide +kernel
theorem dX12_next_34 : decode cX12_next 34 = .ok (.aload_n 0, 1) := by decide +kernel
theorem dX12_next_35 : decode cX12_next 35 = .ok (.dup, 1) := by decide +kernel
theorem dX12_next_36 : decode cX12_next 36 = .ok (.getfield 95, 3) := by decide +kernel
theorem dX12_next_39 : decode cX12_next 39 = .ok (.iconst 1, 1) := by decide +kernel
theorem dX12_next_40 : decode cX12_next 40 = .ok (.iadd, 1) := by decide +kernel
theorem dX12_next_41 : decode cX12_next 41 = .ok (.putfield 95, 3) := by decide +kernel
theorem dX12_next_44 : decode cX12_next 44 = .ok (.goto (-36), 3) := by decide +kernel
theorem dX12_next_47 : decode cX12_next 47 = .ok (.aload_n 0, 1) := by decide +kernel
theorem dX12_next_48 : decode cX12_next 48 = .ok (.aload_n 0, 1) := by decide +kernel
theorem dX12_next_49 : decode cX12_next 49 = .ok (.getfield 95, 3) := by decide +kernel
theorem dX12_next_52 : decode cX12_next 52 = .ok (.putfield 98, 3) := by decide +kernel
theorem dX12_next_55 : decode cX12_next 55 = .ok (.aload_n 0, 1) := by decide +kernel
theorem dX12_next_56 : decode cX12_next 56 = .ok (.getfield 95, 3) := by decide +kernel
theorem dX12_next_59 : decode cX12_next 59 = .ok (.aload_n 0, 1) := by decide +kernel
theorem dX12_next_60 : decode cX12_next 60 = .ok (.getfield 80, 3) := by decide +kernel
theorem dX12_next_63 : decode cX12_next 63 = .ok (.if_icmp .lt 12, 3) := by decide +kernel
theorem dX12_next_66 : decode cX12_next 66 = .ok (.aload_n 0, 1) := by decide +kernel
theorem dX12_next_67 : decode cX12_next 67 = .ok (.bipush 26, 2) := by decide +kernel
theorem dX12_next_69 : decode cX12_next 69 = .ok (.putfield 105, 3) := by decide +kernel
theorem dX12_next_72 : decode cX12_next 72 = .ok (.goto 222, 3) := by decide +kernel
theorem dX12_next_75 : decode cX12_next 75 = .ok (.aload_n 0, 1) := by decide +kernel
theorem dX12_next_76 : decode cX12_next 76 = .ok (.aload_n 0, 1) := by decide +kernel
theorem dX12_next_77 : decode cX12_next 77 = .ok (.getfield 95, 3) := by decide +kernel
theorem dX12_next_80 : decode cX12_next 80 = .ok (.invokevirtual 101, 3) := by decide +kernel
theorem dX12_next_83 : decode cX12_next 83 = .ok (.invokestatic 108, 3) := by decide +kernel
theorem dX12_next_86 : decode cX12_next 86 = .ok (.ifCond .eq 41, 3) := by decide +kernel
theorem dX12_next_89 : decode cX12_next 89 = .ok (.aload_n 0, 1) := by decide +kernel
theorem dX12_next_90 : decode cX12_next 90 = .ok (.aload_n 0, 1) := by decide +kernel
theorem dX12_next_91 : decode cX12_next 91 = .ok (.getfield 98, 3) := by decide +kernel
theorem dX12_next_94 : decode cX12_next 94 = .ok (.invokevirtual 101, 3) := by decide +kernel
theorem dX12_next_97 : decode cX12_next 97 = .ok (.invokestatic 108, 3) := by decide +kernel
theorem dX12_next_100 : decode cX12_next 100 = .ok (.ifCond .eq 16, 3) := by decide +kernel
theorem dX12_next_103 : decode cX12_next 103 = .ok (.aload_n 0, 1) := by decide +kernel
theorem dX12_next_104 : decode cX12_next 104 = .ok (.dup, 1) := by decide +kernel
theorem dX12_next_105 : decode cX12_next 105 = .ok (.getfield 98, 3) := by decide +kernel
theorem dX12_next_108 : decode cX12_next 108 = .ok (.iconst 1, 1) := by decide +kernel
theorem dX12_next_109 : decode cX12_next 109 = .ok (.iadd, 1) := by decide +kernel
theorem dX12_next_110 : decode cX12_next 110 = .ok (.putfield 98, 3) := by decide +kernel
theorem dX12_next_113 : decode cX12_next 113 = .ok (.goto (-24), 3) := by decide +kernel
theorem dX12_next_116 : decode cX12_next 116 = .ok (.aload_n 0, 1) := by decide +kernel
theorem dX12_next_117 : decode cX12_next 117 = .ok (.aload_n 0, 1) := by decide +kernel
theorem dX12_next_118 : decode cX12_next 118 = .ok (.invokevirtual 112, 3) := by decide +kernel
theorem dX12_next_121 : decode cX12_next 121 = .ok (.putfield 105, 3) := by decide +kernel
theorem dX12_next_124 : decode cX12_next 124 = .ok (.goto 170, 3) := by decide +kernel
theorem dX12_next_127 : decode cX12_next 127 = .ok (.aload_n 0, 1) := by decide +kernel
theorem dX12_next_128 : decode cX12_next 128 = .ok (.aload_n 0, 1) := by decide +kernel
theorem dX12_next_129 : decode cX12_next 129 = .ok (.getfield 95, 3) := by decide +kernel
theorem dX12_next_132 : decode cX12_next 132 = .ok (.invokevirtual 101, 3) := by decide +kernel
theorem dX12_next_135 : decode cX12_next 135 = .ok (.invokestatic 115, 3) := by decide +kernel
theorem dX12_next_138 : decode cX12_next 138 = .ok (.ifCond .eq 98, 3) := by decide +kernel
theorem dX12_next_141 : decode cX12_next 141 = .ok (.aload_n 0, 1) := by decide +kernel
theorem dX12_next_142 : decode cX12_next 142 = .ok (.iconst 0, 1) := by decide +kernel
theorem dX12_next_143 : decode cX12_next 143 = .ok (.putfield 118, 3) := by decide +kernel
theorem dX12_next_146 : decode cX12_next 146 = .ok (.aload_n 0, 1) := by decide +kernel
theorem dX12_next_147 : decode cX12_next 147 = .ok (.aload_n 0, 1) := by decide +kernel
theorem dX12_next_148 : decode cX12_next 148 = .ok (.getfield 98, 3) := by decide +kernel
theorem dX12_next_151 : decode cX12_next 151 = .ok (.invokevirtual 101, 3) := by decide +kernel
theorem dX12_next_154 : decode cX12_next 154 = .ok (.invokestatic 115, 3) := by decide +kernel
theorem dX12_next_157 : decode cX12_next 157 = .ok (.ifCond .eq 52, 3) := by decide +kernel
theorem dX12_next_160 : decode cX12_next 160 = .ok (.aload_n 0, 1) := by decide +kernel
theorem dX12_next_161 : decode cX12_next 161 = .ok (.getfield 98, 3) := by decide +kernel
theorem dX12_next_164 : decode cX12_next 164 = .ok (.aload_n 0, 1) := by decide +kernel
theorem dX12_next_165 : decode cX12_next 165 = .ok (.getfield 95, 3) := by decide +kernel
theorem dX12_next_168 : decode cX12_next 168 = .ok (.isub, 1) := by decide +kernel
theorem dX12_next_169 : decode cX12_next 169 = .ok (.iconst 3, 1) := by decide +kernel
theorem dX12_next_170 : decode cX12_next 170 = .ok (.if_icmp .ge 26, 3) := by decide +kernel
theorem dX12_next_173 : decode cX12_next 173 = .ok (.aload_n 0, 1) := by decide +kernel
theorem dX12_next_174 : decode cX12_next 174 = .ok (.bipush 10, 2) := by decide +kernel
theorem dX12_next_176 : decode cX12_next 176 = .ok (.aload_n 0, 1) := by decide +kernel
theorem dX12_next_177 : decode cX12_next 177 = .ok (.getfield 118, 3) := by decide +kernel
theorem dX12_next_180 : decode cX12_next 180 = .ok (.imul, 1) := by decide +kernel
theorem dX12_next_181 : decode cX12_next 181 = .ok (.aload_n 0, 1) := by decide +kernel
theorem dX12_next_182 : decode cX12_next 182 = .ok (.aload_n 0, 1) := by decide +kernel
theorem dX12_next_183 : decode cX12_next 183 = .ok (.getfield 98, 3) := by decide +kernel
theorem dX12_next_186 : decode cX12_next 186 = .ok (.invokevirtual 101, 3) := by decide +kernel
theorem dX12_next_189 : decode cX12_next 189 = .ok (.iadd, 1) := by decide +kernel
theorem dX12_next_190 : decode cX12_next 190 = .ok (.bipush 48, 2) := by decide +kernel
theorem dX12_next_192 : decode cX12_next 192 = .ok (.isub, 1) := by decide +kernel
theorem dX12_next_193 : decode cX12_next 193 = .ok (.putfield 118, 3) := by decide +kernel
theorem dX12_next_196 : decode cX12_next 196 = .ok (.aload_n 0, 1) := by decide +kernel
theorem dX12_next_197 : decode cX12_next 197 = .ok (.dup, 1) := by decide +kernel
theorem dX12_next_198 : decode cX12_next 198 = .ok (.getfield 98, 3) := by decide +kernel
theorem dX12_next_201 : decode cX12_next 201 = .ok (.iconst 1, 1) := by decide +kernel
theorem dX12_next_202 : decode cX12_next 202 = .ok (.iadd, 1) := by decide +kernel
theorem dX12_next_203 : decode cX12_next 203 = .ok (.putfield 98, 3) := by decide +kernel
theorem dX12_next_206 : decode cX12_next 206 = .ok (.goto (-60), 3) := by decide +kernel
theorem dX12_next_209 : decode cX12_next 209 = .ok (.aload_n 0, 1) := by decide +kernel
theorem dX12_next_210 : decode cX12_next 210 = .ok (.aload_n 0, 1) := by decide +kernel
theorem dX12_next_211 : decode cX12_next 211 = .ok (.getfield 98, 3) := by decide +kernel
theorem dX12_next_214 : decode cX12_next 214 = .ok (.aload_n 0, 1) := by decide +kernel
theorem dX12_next_215 : decode cX12_next 215 = .ok (.getfield 95, 3) := by decide +kernel
theorem dX12_next_218 : decode cX12_next 218 = .ok (.isub, 1) := by decide +kernel
theorem dX12_next_219 : decode cX12_next 219 = .ok (.iconst 3, 1) := by decide +kernel
theorem dX12_next_220 : decode cX12_next 220 = .ok (.if_icmp .le 8, 3) := by decide +kernel
theorem dX12_next_223 : decode cX12_next 223 = .ok (.bipush 27, 2) := by decide +kernel
theorem dX12_next_225 : decode cX12_next 225 = .ok (.goto 5, 3) := by decide +kernel
theorem dX12_next_228 : decode cX12_next 228 = .ok (.bipush 25, 2) := by decide +kernel
theorem dX12_next_230 : decode cX12_next 230 = .ok (.putfield 105, 3) := by decide +kernel
theorem dX12_next_233 : decode cX12_next 233 = .ok (.goto 61, 3) := by decide +kernel
theorem dX12_next_236 : decode cX12_next 236 = .ok (.aload_n 0, 1) := by decide +kernel
theorem dX12_next_237 : decode cX12_next 237 = .ok (.dup, 1) := by decide +kernel
theorem dX12_next_238 : decode cX12_next 238 = .ok (.getfield 98, 3) := by decide +kernel
theorem dX12_next_241 : decode cX12_next 241 = .ok (.iconst 1, 1) := by decide +kernel
theorem dX12_next_242 : decode cX12_next 242 = .ok (.iadd, 1) := by decide +kernel
theorem dX12_next_243 : decode cX12_next 243 = .ok (.putfield 98, 3) := by decide +kernel
theorem dX12_next_246 : decode cX12_next 246 = .ok (.aload_n 0, 1) := by decide +kernel
theorem dX12_next_247 : decode cX12_next 247 = .ok (.bipush 27, 2) := by decide +kernel
theorem dX12_next_249 : decode cX12_next 249 = .ok (.putfield 105, 3) := by decide +kernel
theorem dX12_next_252 : decode cX12_next 252 = .ok (.iconst 0, 1) := by decide +kernel
theorem dX12_next_253 : decode cX12_next 253 = .ok (.istore_n 1, 1) := by decide +kernel
theorem dX12_next_254 : decode cX12_next 254 = .ok (.iload_n 1, 1) := by decide +kernel
theorem dX12_next_255 : decode cX12_next 255 = .ok (.ldc 121, 2) := by decide +kernel
theorem dX12_next_257 : decode cX12_next 257 = .ok (.invokevirtual 85, 3) := by decide +kernel
theorem dX12_next_260 : decode cX12_next 260 = .ok (.if_icmp .ge 34, 3) := by decide +kernel
theorem dX12_next_263 : decode cX12_next 263 = .ok (.aload_n 0, 1) := by decide +kernel
theorem dX12_next_264 : decode cX12_next 264 = .ok (.aload_n 0, 1) := by decide +kernel
theorem dX12_next_265 : decode cX12_next 265 = .ok (.getfield 95, 3) := by decide +kernel
theorem dX12_next_268 : decode cX12_next 268 = .ok (.invokevirtual 101, 3) := by decide +kernel
theorem dX12_next_271 : decode cX12_next 271 = .ok (.ldc 121, 2) := by decide +kernel
theorem dX12_next_273 : decode cX12_next 273 = .ok (.iload_n 1, 1) := by decide +kernel
theorem dX12_next_274 : decode cX12_next 274 = .ok (.invokevirtual 91, 3) := by decide +kernel
theorem dX12_next_277 : decode cX12_next 277 = .ok (.if_icmp .ne 11, 3) := by decide +kernel
theorem dX12_next_280 : decode cX12_next 280 = .ok (.aload_n 0, 1) := by decide +kernel
theorem dX12_next_281 : decode cX12_next 281 = .ok (.bipush 30, 2) := by decide +kernel
theorem dX12_next_283 : decode cX12_next 283 = .ok (.iload_n 1, 1) := by decide +kernel
theorem dX12_next_284 : decode cX12_next 284 = .ok (.iadd, 1) := by decide +kernel
theorem dX12_next_285 : decode cX12_next 285 = .ok (.putfield 105, 3) := by decide +kernel
theorem dX12_next_288 : decode cX12_next 288 = .ok (.iinc 1 1, 3) := by decide +kernel
theorem dX12_next_291 : decode cX12_next 291 = .ok (.goto (-37), 3) := by decide +kernel
theorem dX12_next_294 : decode cX12_next 294 = .ok (.return_, 1) := by decide +kernel
theorem wX12_next : Mw yX12_next cX12_next 2 none 0 := ⟨q_1372, q_130, by decide, ⟨by decide +kernel, by decide +kernel⟩, by decide +kernel, by decide +kernel⟩
-- a loop of EyeTrainerModel.next at 8
def bX12_next_8 (T : Sh) (x0 : Nat) (M : Me) : Option ((Me) ⊕ (Me)) :=
  gd (kd T x0 = 11) <| Option.bind (fX12_see T M x0 (gI M x0 6)) fun r4 => if r4 = (10 : Int32) then (lt (pI M x0 6 ((gI M x0 6) + (1 : Int32))) fun M6 => some (.inl M6)) else (Option.bind (fX12_see T M x0 (gI M x0 6)) fun r7 => if r7 = (32 : Int32) then (lt (pI M x0 6 ((gI M x0 6) + (1 : Int32))) fun M9 => some (.inl M9)) else (some (.inr M)))
def PX12_next_8 (X : Fx) (B : Bx) (Z : Nat × Nat × Nat × Nat) (Q : State → Prop) (T : Sh) (x0 : Nat) (s : Me) : Prop := G X B 2 Z Q 8 [(0, .ref (x0))] [] T s
def EX12_next_8 (X : Fx) (B : Bx) (Z : Nat × Nat × Nat × Nat) (Q : State → Prop) (T : Sh) (x0 : Nat) (r : Me) : Prop := G X B 2 Z Q 47 [(0, .ref (x0))] [] T r
set_option maxHeartbeats 4000000 in
theorem tbX12_next_8 {X : Fx} {B : Bx} {Z : Nat × Nat × Nat × Nat} {Q : State → Prop} {d : Nat} {T : Sh} (C : Cx X B cX12_next 2 RX12 d Z) (hd : 5 ≤ d) {x0 : Nat} : ∀ (s : Me) (o : (Me) ⊕ (Me)), bX12_next_8 T x0 s = some o → lpE (PX12_next_8 X B Z Q T x0) (EX12_next_8 X B Z Q T x0) o → PX12_next_8 X B Z Q T x0 s := by
  rintro M o h hE
  replace h : bX12_next_8 T x0 M = some o := h
  unfold bX12_next_8 at h
  show G X B 2 Z Q 8 [(0, .ref (x0))] [] T M
  refine g_aload_n (pc := 8) C dX12_next_8 rfl 0 rfl ?_
  refine g_aload_n (pc := 9) C dX12_next_9 rfl 0 rfl ?_
  replace h := gd_some h; obtain ⟨hk3, h⟩ := h
  refine g_get (pc := 10) (v := .int (gI M x0 6)) C dX12_next_10 kX12 hk3 6 (by decide) q_1233 rfl ?_
  replace h := bnd h; obtain ⟨r4, h1, h⟩ := h
  refine g_callVi (pc := 13) (As := [.int (gI M x0 6)]) (st := []) C dX12_next_13 wX12_see hk3 rfl (by decide) q_1375 q_53 q_1373 (by omega) rfl (Nat.le_of_ble_eq_true rfl) (kX12_see (d := 0) (Nat.le_refl _) h1) ?_
  refine g_bipush (pc := 16) (v := 10) C dX12_next_16 (by decide) ?_
  refine g_icmp_eq (pc := 18) (tgt := 34) C dX12_next_18 (by decide) (fun c5 => ?_) (fun c5 => ?_)
  · replace h := ifp c5 h
    refine g_aload_n (pc := 34) C dX12_next_34 rfl 0 rfl ?_
    refine g_dup (pc := 35) C dX12_next_35 rfl ?_
    refine g_get (pc := 36) (v := .int (gI M x0 6)) C dX12_next_36 kX12 hk3 6 (by decide) q_1233 rfl ?_
    refine g_iconst (pc := 39) (v := 1) C dX12_next_39 (by decide) ?_
    refine g_iadd (pc := 40) C dX12_next_40 ?_
    refine g_putI (pc := 41) C dX12_next_41 kX12 hk3 6 (by decide) rfl rfl rfl q_1233 ?_
    refine g_mem (fun M6 eM6 => ?_)
    replace h := lt_at eM6 h
    refine g_goto (pc := 44) (tgt := 8) C dX12_next_44 (by decide) ?_
    obtain rfl := Option.some.inj h
    exact g_sub [0] rfl (show G X B 2 Z Q 8 [(0, .ref (x0))] [] T M6 from hE)
  · replace h := ifn c5 h
    refine g_aload_n (pc := 21) C dX12_next_21 rfl 0 rfl ?_
    refine g_aload_n (pc := 22) C dX12_next_22 rfl 0 rfl ?_
    refine g_get (pc := 23) (v := .int (gI M x0 6)) C dX12_next_23 kX12 hk3 6 (by decide) q_1233 rfl ?_
    replace h := bnd h; obtain ⟨r7, h1, h⟩ := h
    refine g_callVi (pc := 26) (As := [.int (gI M x0 6)]) (st := []) C dX12_next_26 wX12_see hk3 rfl (by decide) q_1375 q_53 q_1373 (by omega) rfl (Nat.le_of_ble_eq_true rfl) (kX12_see (d := 0) (Nat.le_refl _) h1) ?_
    refine g_bipush (pc := 29) (v := 32) C dX12_next_29 (by decide) ?_
    refine g_icmp_ne (pc := 31) (tgt := 47) C dX12_next_31 (by decide) (fun c8 => ?_) (fun c8 => ?_)
    · replace h := ifn c8 h
      obtain rfl := Option.some.inj h
      exact g_sub [0] rfl (show G X B 2 Z Q 47 [(0, .ref (x0))] [] T M from hE)
    · replace h := ifp c8 h
      refine g_aload_n (pc := 34) C dX12_next_34 rfl 0 rfl ?_
      refine g_dup (pc := 35) C dX12_next_35 rfl ?_
      refine g_get (pc := 36) (v := .int (gI M x0 6)) C dX12_next_36 kX12 hk3 6 (by decide) q_1233 rfl ?_
      refine g_iconst (pc := 39) (v := 1) C dX12_next_39 (by decide) ?_
      refine g_iadd (pc := 40) C dX12_next_40 ?_
      refine g_putI (pc := 41) C dX12_next_41 kX12 hk3 6 (by decide) rfl rfl rfl q_1233 ?_
      refine g_mem (fun M9 eM9 => ?_)
      replace h := lt_at eM9 h
      refine g_goto (pc := 44) (tgt := 8) C dX12_next_44 (by decide) ?_
      obtain rfl := Option.some.inj h
      exact g_sub [0] rfl (show G X B 2 Z Q 8 [(0, .ref (x0))] [] T M9 from hE)
-- a loop of EyeTrainerModel.next at 254
def bX12_next_254 (T : Sh) (x0 : Nat) (x1 : Int32) (M : Me) : Option ((Int32 × Me) ⊕ (Me)) :=
  gd (23 < 25) <| Option.bind (fJ0_length_8abf5 23) fun r22 => if r22 ≤ x1 then (some (.inr M)) else (gd (kd T x0 = 11) <| Option.bind (fX12_see T M x0 (gI M x0 6)) fun r25 => Option.bind (fJ0_charAt_5068e 23 x1) fun r26 => if r25 = r26 then (lt (pI M x0 9 ((30 : Int32) + x1)) fun M29 => lt (x1 + (1 : Int32)) fun v30 => some (.inl (v30, M29))) else (lt (x1 + (1 : Int32)) fun v28 => some (.inl (v28, M))))
def PX12_next_254 (X : Fx) (B : Bx) (Z : Nat × Nat × Nat × Nat) (Q : State → Prop) (T : Sh) (x0 : Nat) (s : Int32 × Me) : Prop := G X B 2 Z Q 254 [(0, .ref (x0)), (1, .int (s.1))] [] T s.2
def EX12_next_254 (X : Fx) (B : Bx) (Z : Nat × Nat × Nat × Nat) (Q : State → Prop) (T : Sh) (x0 : Nat) (r : Me) : Prop := G X B 2 Z Q 294 [] [] T r
set_option maxHeartbeats 4000000 in
theorem tbX12_next_254 {X : Fx} {B : Bx} {Z : Nat × Nat × Nat × Nat} {Q : State → Prop} {d : Nat} {T : Sh} (C : Cx X B cX12_next 2 RX12 d Z) (hd : 5 ≤ d) {x0 : Nat} : ∀ (s : Int32 × Me) (o : (Int32 × Me) ⊕ (Me)), bX12_next_254 T x0 s.1 s.2 = some o → lpE (PX12_next_254 X B Z Q T x0) (EX12_next_254 X B Z Q T x0) o → PX12_next_254 X B Z Q T x0 s := by
  rintro ⟨x1, M⟩ o h hE
  replace h : bX12_next_254 T x0 x1 M = some o := h
  unfold bX12_next_254 at h
  show G X B 2 Z Q 254 [(0, .ref (x0)), (1, .int (x1))] [] T M
  refine g_iload_n (pc := 254) C dX12_next_254 rfl 1 rfl ?_
  refine g_ldcS (pc := 255) (tx := ";:+-*()[]=<>") (w := 23) C dX12_next_255 (by decide +kernel) ?_
  replace h := gd_some h; obtain ⟨hw21, h⟩ := h
  replace h := bnd h; obtain ⟨r22, h1, h⟩ := h
  refine g_callTi (pc := 257) (As := []) (st := [.int (x1)]) C dX12_next_257 wJ0_length_8abf5 hw21 rfl q_501 q_502 q_1385 (by omega) rfl (Nat.le_of_ble_eq_true rfl) (kJ0_length_8abf5 (d := 1) (Nat.le_refl _) h1) ?_
  refine g_icmp_ge (pc := 260) (tgt := 294) C dX12_next_260 (by decide) (fun c23 => ?_) (fun c23 => ?_)
  · replace h := ifp c23 h
    obtain rfl := Option.some.inj h
    exact g_sub [] rfl (show G X B 2 Z Q 294 [] [] T M from hE)
  · replace h := ifn c23 h
    refine g_aload_n (pc := 263) C dX12_next_263 rfl 0 rfl ?_
    refine g_aload_n (pc := 264) C dX12_next_264 rfl 0 rfl ?_
    replace h := gd_some h; obtain ⟨hk24, h⟩ := h
    refine g_get (pc := 265) (v := .int (gI M x0 6)) C dX12_next_265 kX12 hk24 6 (by decide) q_1233 rfl ?_
    replace h := bnd h; obtain ⟨r25, h1, h⟩ := h
    refine g_callVi (pc := 268) (As := [.int (gI M x0 6)]) (st := []) C dX12_next_268 wX12_see hk24 rfl (by decide) q_1375 q_53 q_1373 (by omega) rfl (Nat.le_of_ble_eq_true rfl) (kX12_see (d := 0) (Nat.le_refl _) h1) ?_
    refine g_ldcS (pc := 271) (tx := ";:+-*()[]=<>") (w := 23) C dX12_next_271 (by decide +kernel) ?_
    refine g_iload_n (pc := 273) C dX12_next_273 rfl 1 rfl ?_
    replace h := bnd h; obtain ⟨r26, h1, h⟩ := h
    refine g_callTi (pc := 274) (As := [.int (x1)]) (st := [.int (r25)]) C dX12_next_274 wJ0_charAt_5068e hw21 rfl q_511 q_512 q_1386 (by omega) rfl (Nat.le_of_ble_eq_true rfl) (kJ0_charAt_5068e (d := 3) (Nat.le_refl _) h1) ?_
    refine g_icmp_ne (pc := 277) (tgt := 288) C dX12_next_277 (by decide) (fun c27 => ?_) (fun c27 => ?_)
    · replace h := ifn c27 h
      obtain ⟨v28, ev28⟩ : ∃ y : Int32, y = x1 + (1 : Int32) := ⟨_, rfl⟩
      replace h := lt_at ev28 h
      refine g_iinc (pc := 288) (v := v28) (k := 1) (lo2 := [(1, .int (v28)), (0, .ref (x0))]) C dX12_next_288 rfl (by rw [ev28]; rfl) (by decide) rfl ?_
      refine g_goto (pc := 291) (tgt := 254) C dX12_next_291 (by decide) ?_
      obtain rfl := Option.some.inj h
      exact g_sub [1, 0] rfl (show G X B 2 Z Q 254 [(0, .ref (x0)), (1, .int (v28))] [] T M from hE)
    · replace h := ifp c27 h
      refine g_aload_n (pc := 280) C dX12_next_280 rfl 0 rfl ?_
      refine g_bipush (pc := 281) (v := 30) C dX12_next_281 (by decide) ?_
      refine g_iload_n (pc := 283) C dX12_next_283 rfl 1 rfl ?_
      refine g_iadd (pc := 284) C dX12_next_284 ?_
      refine g_putI (pc := 285) C dX12_next_285 kX12 hk24 9 (by decide) rfl rfl rfl q_1236 ?_
      refine g_mem (fun M29 eM29 => ?_)
      replace h := lt_at eM29 h
      obtain ⟨v30, ev30⟩ : ∃ y : Int32, y = x1 + (1 : Int32) := ⟨_, rfl⟩
      replace h := lt_at ev30 h
      refine g_iinc (pc := 288) (v := v30) (k := 1) (lo2 := [(1, .int (v30)), (0, .ref (x0))]) C dX12_next_288 rfl (by rw [ev30]; rfl) (by decide) rfl ?_
      refine g_goto (pc := 291) (tgt := 254) C dX12_next_291 (by decide) ?_
      obtain rfl := Option.some.inj h
      exact g_sub [1, 0] rfl (show G X B 2 Z Q 254 [(0, .ref (x0)), (1, .int (v30))] [] T M29 from hE)
-- a loop of EyeTrainerModel.next at 146
def bX12_next_146 (T : Sh) (x0 : Nat) (M : Me) : Option ((Me) ⊕ (Me)) :=
  gd (kd T x0 = 11) <| Option.bind (fX12_see T M x0 (gI M x0 7)) fun r34 => Option.bind (fX12_isDigit r34) fun r35 => if r35 = 0 then (some (.inr M)) else (if (3 : Int32) ≤ ((gI M x0 7) - (gI M x0 6)) then (lt (pI M x0 7 ((gI M x0 7) + (1 : Int32))) fun M38 => some (.inl M38)) else (Option.bind (fX12_see T M x0 (gI M x0 7)) fun r39 => lt (pI M x0 10 ((((10 : Int32) * (gI M x0 10)) + r39) - (48 : Int32))) fun M40 => lt (pI M40 x0 7 ((gI M40 x0 7) + (1 : Int32))) fun M41 => some (.inl M41)))
def PX12_next_146 (X : Fx) (B : Bx) (Z : Nat × Nat × Nat × Nat) (Q : State → Prop) (T : Sh) (x0 : Nat) (s : Me) : Prop := G X B 2 Z Q 146 [(0, .ref (x0))] [] T s
def EX12_next_146 (X : Fx) (B : Bx) (Z : Nat × Nat × Nat × Nat) (Q : State → Prop) (T : Sh) (x0 : Nat) (r : Me) : Prop := G X B 2 Z Q 209 [(0, .ref (x0))] [] T r
set_option maxHeartbeats 4000000 in
theorem tbX12_next_146 {X : Fx} {B : Bx} {Z : Nat × Nat × Nat × Nat} {Q : State → Prop} {d : Nat} {T : Sh} (C : Cx X B cX12_next 2 RX12 d Z) (hd : 5 ≤ d) {x0 : Nat} : ∀ (s : Me) (o : (Me) ⊕ (Me)), bX12_next_146 T x0 s = some o → lpE (PX12_next_146 X B Z Q T x0) (EX12_next_146 X B Z Q T x0) o → PX12_next_146 X B Z Q T x0 s := by
  rintro M o h hE
  replace h : bX12_next_146 T x0 M = some o := h
  unfold bX12_next_146 at h
  show G X B 2 Z Q 146 [(0, .ref (x0))] [] T M
  refine g_aload_n (pc := 146) C dX12_next_146 rfl 0 rfl ?_
  refine g_aload_n (pc := 147) C dX12_next_147 rfl 0 rfl ?_
  replace h := gd_some h; obtain ⟨hk33, h⟩ := h
  refine g_get (pc := 148) (v := .int (gI M x0 7)) C dX12_next_148 kX12 hk33 7 (by decide) q_1234 rfl ?_
  replace h := bnd h; obtain ⟨r34, h1, h⟩ := h
  refine g_callVi (pc := 151) (As := [.int (gI M x0 7)]) (st := []) C dX12_next_151 wX12_see hk33 rfl (by decide) q_1375 q_53 q_1373 (by omega) rfl (Nat.le_of_ble_eq_true rfl) (kX12_see (d := 0) (Nat.le_refl _) h1) ?_
  replace h := bnd h; obtain ⟨r35, h1, h⟩ := h
  refine g_callSi (pc := 154) (As := [.int (r34)]) (st := []) C dX12_next_154 wX12_isDigit q_1388 q_1387 (by omega) rfl (Nat.le_of_ble_eq_true rfl) (kX12_isDigit (d := 0) (Nat.le_refl _) h1) ?_
  refine g_if_eq (pc := 157) (tgt := 209) C dX12_next_157 (by decide) (fun c36 => ?_) (fun c36 => ?_)
  · replace h := ifp c36 h
    obtain rfl := Option.some.inj h
    exact g_sub [0] rfl (show G X B 2 Z Q 209 [(0, .ref (x0))] [] T M from hE)
  · replace h := ifn c36 h
    refine g_aload_n (pc := 160) C dX12_next_160 rfl 0 rfl ?_
    refine g_get (pc := 161) (v := .int (gI M x0 7)) C dX12_next_161 kX12 hk33 7 (by decide) q_1234 rfl ?_
    refine g_aload_n (pc := 164) C dX12_next_164 rfl 0 rfl ?_
    refine g_get (pc := 165) (v := .int (gI M x0 6)) C dX12_next_165 kX12 hk33 6 (by decide) q_1233 rfl ?_
    refine g_isub (pc := 168) C dX12_next_168 ?_
    refine g_iconst (pc := 169) (v := 3) C dX12_next_169 (by decide) ?_
    refine g_icmp_ge (pc := 170) (tgt := 196) C dX12_next_170 (by decide) (fun c37 => ?_) (fun c37 => ?_)
    · replace h := ifp c37 h
      refine g_aload_n (pc := 196) C dX12_next_196 rfl 0 rfl ?_
      refine g_dup (pc := 197) C dX12_next_197 rfl ?_
      refine g_get (pc := 198) (v := .int (gI M x0 7)) C dX12_next_198 kX12 hk33 7 (by decide) q_1234 rfl ?_
      refine g_iconst (pc := 201) (v := 1) C dX12_next_201 (by decide) ?_
      refine g_iadd (pc := 202) C dX12_next_202 ?_
      refine g_putI (pc := 203) C dX12_next_203 kX12 hk33 7 (by decide) rfl rfl rfl q_1234 ?_
      refine g_mem (fun M38 eM38 => ?_)
      replace h := lt_at eM38 h
      refine g_goto (pc := 206) (tgt := 146) C dX12_next_206 (by decide) ?_
      obtain rfl := Option.some.inj h
      exact g_sub [0] rfl (show G X B 2 Z Q 146 [(0, .ref (x0))] [] T M38 from hE)
    · replace h := ifn c37 h
      refine g_aload_n (pc := 173) C dX12_next_173 rfl 0 rfl ?_
      refine g_bipush (pc := 174) (v := 10) C dX12_next_174 (by decide) ?_
      refine g_aload_n (pc := 176) C dX12_next_176 rfl 0 rfl ?_
      refine g_get (pc := 177) (v := .int (gI M x0 10)) C dX12_next_177 kX12 hk33 10 (by decide) q_1237 rfl ?_
      refine g_imul (pc := 180) C dX12_next_180 ?_
      refine g_aload_n (pc := 181) C dX12_next_181 rfl 0 rfl ?_
      refine g_aload_n (pc := 182) C dX12_next_182 rfl 0 rfl ?_
      refine g_get (pc := 183) (v := .int (gI M x0 7)) C dX12_next_183 kX12 hk33 7 (by decide) q_1234 rfl ?_
      replace h := bnd h; obtain ⟨r39, h1, h⟩ := h
      refine g_callVi (pc := 186) (As := [.int (gI M x0 7)]) (st := [.int ((10 : Int32) * (gI M x0 10)), .ref (x0)]) C dX12_next_186 wX12_see hk33 rfl (by decide) q_1375 q_53 q_1373 (by omega) rfl (Nat.le_of_ble_eq_true rfl) (kX12_see (d := 0) (Nat.le_refl _) h1) ?_
      refine g_iadd (pc := 189) C dX12_next_189 ?_
      refine g_bipush (pc := 190) (v := 48) C dX12_next_190 (by decide) ?_
      refine g_isub (pc := 192) C dX12_next_192 ?_
      refine g_putI (pc := 193) C dX12_next_193 kX12 hk33 10 (by decide) rfl rfl rfl q_1237 ?_
      refine g_mem (fun M40 eM40 => ?_)
      replace h := lt_at eM40 h
      refine g_aload_n (pc := 196) C dX12_next_196 rfl 0 rfl ?_
      refine g_dup (pc := 197) C dX12_next_197 rfl ?_
      refine g_get (pc := 198) (v := .int (gI M40 x0 7)) C dX12_next_198 kX12 hk33 7 (by decide) q_1234 rfl ?_
      refine g_iconst (pc := 201) (v := 1) C dX12_next_201 (by decide) ?_
      refine g_iadd (pc := 202) C dX12_next_202 ?_
      refine g_putI (pc := 203) C dX12_next_203 kX12 hk33 7 (by decide) rfl rfl rfl q_1234 ?_
      refine g_mem (fun M41 eM41 => ?_)
      replace h := lt_at eM41 h
      refine g_goto (pc := 206) (tgt := 146) C dX12_next_206 (by decide) ?_
      obtain rfl := Option.some.inj h
      exact g_sub [0] rfl (show G X B 2 Z Q 146 [(0, .ref (x0))] [] T M41 from hE)
-- a loop of EyeTrainerModel.next at 89
def bX12_next_89 (T : Sh) (x0 : Nat) (M : Me) : Option ((Me) ⊕ (Me)) :=
  gd (kd T x0 = 11) <| Option.bind (fX12_see T M x0 (gI M x0 7)) fun r47 => Option.bind (fX12_isSmall r47) fun r48 => if r48 = 0 then (some (.inr M)) else (lt (pI M x0 7 ((gI M x0 7) + (1 : Int32))) fun M50 => some (.inl M50))
def PX12_next_89 (X : Fx) (B : Bx) (Z : Nat × Nat × Nat × Nat) (Q : State → Prop) (T : Sh) (x0 : Nat) (s : Me) : Prop := G X B 2 Z Q 89 [(0, .ref (x0))] [] T s
def EX12_next_89 (X : Fx) (B : Bx) (Z : Nat × Nat × Nat × Nat) (Q : State → Prop) (T : Sh) (x0 : Nat) (r : Me) : Prop := G X B 2 Z Q 116 [(0, .ref (x0))] [] T r
set_option maxHeartbeats 4000000 in
theorem tbX12_next_89 {X : Fx} {B : Bx} {Z : Nat × Nat × Nat × Nat} {Q : State → Prop} {d : Nat} {T : Sh} (C : Cx X B cX12_next 2 RX12 d Z) (hd : 5 ≤ d) {x0 : Nat} : ∀ (s : Me) (o : (Me) ⊕ (Me)), bX12_next_89 T x0 s = some o → lpE (PX12_next_89 X B Z Q T x0) (EX12_next_89 X B Z Q T x0) o → PX12_next_89 X B Z Q T x0 s := by
  rintro M o h hE
  replace h : bX12_next_89 T x0 M = some o := h
  unfold bX12_next_89 at h
  show G X B 2 Z Q 89 [(0, .ref (x0))] [] T M
  refine g_aload_n (pc := 89) C dX12_next_89 rfl 0 rfl ?_
  refine g_aload_n (pc := 90) C dX12_next_90 rfl 0 rfl ?_
  replace h := gd_some h; obtain ⟨hk46, h⟩ := h
  refine g_get (pc := 91) (v := .int (gI M x0 7)) C dX12_next_91 kX12 hk46 7 (by decide) q_1234 rfl ?_
  replace h := bnd h; obtain ⟨r47, h1, h⟩ := h
  refine g_callVi (pc := 94) (As := [.int (gI M x0 7)]) (st := []) C dX12_next_94 wX12_see hk46 rfl (by decide) q_1375 q_53 q_1373 (by omega) rfl (Nat.le_of_ble_eq_true rfl) (kX12_see (d := 0) (Nat.le_refl _) h1) ?_
  replace h := bnd h; obtain ⟨r48, h1, h⟩ := h
  refine g_callSi (pc := 97) (As := [.int (r47)]) (st := []) C dX12_next_97 wX12_isSmall q_1378 q_1377 (by omega) rfl (Nat.le_of_ble_eq_true rfl) (kX12_isSmall (d := 0) (Nat.le_refl _) h1) ?_
  refine g_if_eq (pc := 100) (tgt := 116) C dX12_next_100 (by decide) (fun c49 => ?_) (fun c49 => ?_)
  · replace h := ifp c49 h
    obtain rfl := Option.some.inj h
    exact g_sub [0] rfl (show G X B 2 Z Q 116 [(0, .ref (x0))] [] T M from hE)
  · replace h := ifn c49 h
    refine g_aload_n (pc := 103) C dX12_next_103 rfl 0 rfl ?_
    refine g_dup (pc := 104) C dX12_next_104 rfl ?_
    refine g_get (pc := 105) (v := .int (gI M x0 7)) C dX12_next_105 kX12 hk46 7 (by decide) q_1234 rfl ?_
    refine g_iconst (pc := 108) (v := 1) C dX12_next_108 (by decide) ?_
    refine g_iadd (pc := 109) C dX12_next_109 ?_
    refine g_putI (pc := 110) C dX12_next_110 kX12 hk46 7 (by decide) rfl rfl rfl q_1234 ?_
    refine g_mem (fun M50 eM50 => ?_)
    replace h := lt_at eM50 h
    refine g_goto (pc := 113) (tgt := 89) C dX12_next_113 (by decide) ?_
    obtain rfl := Option.some.inj h
    exact g_sub [0] rfl (show G X B 2 Z Q 89 [(0, .ref (x0))] [] T M50 from hE)
/-- EyeTrainerModel.next()V -/
def fX12_next (T : Sh) (M : Me) (x0 : Nat) : Option (Unit × Me) :=
  gd (kd T x0 = 11) <| lt (pI M x0 6 (gI M x0 7)) fun M2 => (lp FU (fun s => bX12_next_8 T x0 s) M2).bind (fun M10 => lt (pI M10 x0 7 (gI M10 x0 6)) fun M11 => if (gI M11 x0 6) < (gI M11 x0 8) then (Option.bind (fX12_see T M11 x0 (gI M11 x0 6)) fun r13 => Option.bind (fX12_isSmall r13) fun r14 => if r14 = 0 then (Option.bind (fX12_see T M11 x0 (gI M11 x0 6)) fun r16 => Option.bind (fX12_isDigit r16) fun r17 => if r17 = 0 then (lt (pI M11 x0 7 ((gI M11 x0 7) + (1 : Int32))) fun M19 => lt (pI M19 x0 9 (27 : Int32)) fun M20 => (lp FU (fun s => bX12_next_254 T x0 s.1 s.2) ((0 : Int32), M20)).bind (fun M31 => some ((), M31))) else (lt (pI M11 x0 10 (0 : Int32)) fun M32 => (lp FU (fun s => bX12_next_146 T x0 s) M32).bind (fun M42 => if ((gI M42 x0 7) - (gI M42 x0 6)) ≤ (3 : Int32) then (lt (pI M42 x0 9 (25 : Int32)) fun M44 => some ((), M44)) else (lt (pI M42 x0 9 (27 : Int32)) fun M45 => some ((), M45))))) else ((lp FU (fun s => bX12_next_89 T x0 s) M11).bind (fun M51 => Option.bind (fX12_keyAt T M51 x0) fun r52 => lt (pI M51 x0 9 r52) fun M53 => some ((), M53)))) else (lt (pI M11 x0 9 (26 : Int32)) fun M54 => some ((), M54)))
set_option maxHeartbeats 4000000 in
theorem kX12_next {l : Launch} {B : Bx} {d : Nat} (hd : 5 ≤ d) {T : Sh} {M : Me} {x0 : Nat} {M' : Me} (h : fX12_next T M x0 = some ((), M')) : Kt l B yX12_next cX12_next 2 none d [.ref (x0)] T M none T M' := by
  refine kt_of wX12_next (Nat.le_refl _) (Nat.le_refl _) (Nat.le_of_ble_eq_true rfl) (fun X C hR hlx hin => ?_)
  subst hlx
  replace C : Cx X B cX12_next 2 RX12 d (tp T, sl T, tp T, sl T) := C
  unfold fX12_next at h
  show G X B 2 _ _ 0 [(0, .ref (x0))] [] T M
  refine g_aload_n (pc := 0) C dX12_next_0 rfl 0 rfl ?_
  refine g_aload_n (pc := 1) C dX12_next_1 rfl 0 rfl ?_
  replace h := gd_some h; obtain ⟨hk1, h⟩ := h
  refine g_get (pc := 2) (v := .int (gI M x0 7)) C dX12_next_2 kX12 hk1 7 (by decide) q_1234 rfl ?_
  refine g_putI (pc := 5) C dX12_next_5 kX12 hk1 6 (by decide) rfl rfl rfl q_1233 ?_
  refine g_mem (fun M2 eM2 => ?_)
  replace h := lt_at eM2 h
  replace h := bnd h; obtain ⟨M10, h1, h⟩ := h
  refine g_sub [0] rfl ?_
  refine lp_G2 (P := PX12_next_8 X B _ _ T x0) (E := EX12_next_8 X B _ _ T x0) (tbX12_next_8 C hd) h1 ?_
  show G X B 2 _ _ 47 [(0, .ref (x0))] [] T M10
  refine g_aload_n (pc := 47) C dX12_next_47 rfl 0 rfl ?_
  refine g_aload_n (pc := 48) C dX12_next_48 rfl 0 rfl ?_
  refine g_get (pc := 49) (v := .int (gI M10 x0 6)) C dX12_next_49 kX12 hk1 6 (by decide) q_1233 rfl ?_
  refine g_putI (pc := 52) C dX12_next_52 kX12 hk1 7 (by decide) rfl rfl rfl q_1234 ?_
  refine g_mem (fun M11 eM11 => ?_)
  replace h := lt_at eM11 h
  refine g_aload_n (pc := 55) C dX12_next_55 rfl 0 rfl ?_
  refine g_get (pc := 56) (v := .int (gI M11 x0 6)) C dX12_next_56 kX12 hk1 6 (by decide) q_1233 rfl ?_
  refine g_aload_n (pc := 59) C dX12_next_59 rfl 0 rfl ?_
  refine g_get (pc := 60) (v := .int (gI M11 x0 8)) C dX12_next_60 kX12 hk1 8 (by decide) q_1235 rfl ?_
  refine g_icmp_lt (pc := 63) (tgt := 75) C dX12_next_63 (by decide) (fun c12 => ?_) (fun c12 => ?_)
  · replace h := ifp c12 h
    refine g_aload_n (pc := 75) C dX12_next_75 rfl 0 rfl ?_
    refine g_aload_n (pc := 76) C dX12_next_76 rfl 0 rfl ?_
    refine g_get (pc := 77) (v := .int (gI M11 x0 6)) C dX12_next_77 kX12 hk1 6 (by decide) q_1233 rfl ?_
    replace h := bnd h; obtain ⟨r13, h1, h⟩ := h
    refine g_callVi (pc := 80) (As := [.int (gI M11 x0 6)]) (st := []) C dX12_next_80 wX12_see hk1 rfl (by decide) q_1375 q_53 q_1373 (by omega) rfl (Nat.le_of_ble_eq_true rfl) (kX12_see (d := 0) (Nat.le_refl _) h1) ?_
    replace h := bnd h; obtain ⟨r14, h1, h⟩ := h
    refine g_callSi (pc := 83) (As := [.int (r13)]) (st := []) C dX12_next_83 wX12_isSmall q_1378 q_1377 (by omega) rfl (Nat.le_of_ble_eq_true rfl) (kX12_isSmall (d := 0) (Nat.le_refl _) h1) ?_
    refine g_if_eq (pc := 86) (tgt := 127) C dX12_next_86 (by decide) (fun c15 => ?_) (fun c15 => ?_)
    · replace h := ifp c15 h
      refine g_aload_n (pc := 127) C dX12_next_127 rfl 0 rfl ?_
      refine g_aload_n (pc := 128) C dX12_next_128 rfl 0 rfl ?_
      refine g_get (pc := 129) (v := .int (gI M11 x0 6)) C dX12_next_129 kX12 hk1 6 (by decide) q_1233 rfl ?_
      replace h := bnd h; obtain ⟨r16, h1, h⟩ := h
      refine g_callVi (pc := 132) (As := [.int (gI M11 x0 6)]) (st := []) C dX12_next_132 wX12_see hk1 rfl (by decide) q_1375 q_53 q_1373 (by omega) rfl (Nat.le_of_ble_eq_true rfl) (kX12_see (d := 0) (Nat.le_refl _) h1) ?_
      replace h := bnd h; obtain ⟨r17, h1, h⟩ := h
      refine g_callSi (pc := 135) (As := [.int (r16)]) (st := []) C dX12_next_135 wX12_isDigit q_1388 q_1387 (by omega) rfl (Nat.le_of_ble_eq_true rfl) (kX12_isDigit (d := 0) (Nat.le_refl _) h1) ?_
      refine g_if_eq (pc := 138) (tgt := 236) C dX12_next_138 (by decide) (fun c18 => ?_) (fun c18 => ?_)
      · replace h := ifp c18 h
        refine g_aload_n (pc := 236) C dX12_next_236 rfl 0 rfl ?_
        refine g_dup (pc := 237) C dX12_next_237 rfl ?_
        refine g_get (pc := 238) (v := .int (gI M11 x0 7)) C dX12_next_238 kX12 hk1 7 (by decide) q_1234 rfl ?_
        refine g_iconst (pc := 241) (v := 1) C dX12_next_241 (by decide) ?_
        refine g_iadd (pc := 242) C dX12_next_242 ?_
        refine g_putI (pc := 243) C dX12_next_243 kX12 hk1 7 (by decide) rfl rfl rfl q_1234 ?_
        refine g_mem (fun M19 eM19 => ?_)
        replace h := lt_at eM19 h
        refine g_aload_n (pc := 246) C dX12_next_246 rfl 0 rfl ?_
        refine g_bipush (pc := 247) (v := 27) C dX12_next_247 (by decide) ?_
        refine g_putI (pc := 249) C dX12_next_249 kX12 hk1 9 (by decide) rfl rfl rfl q_1236 ?_
        refine g_mem (fun M20 eM20 => ?_)
        replace h := lt_at eM20 h
        refine g_iconst (pc := 252) (v := 0) C dX12_next_252 (by decide) ?_
        refine g_istore_n (pc := 253) (lo2 := [(1, .int ((0 : Int32))), (0, .ref (x0))]) C dX12_next_253 rfl (by decide) rfl ?_
        replace h := bnd h; obtain ⟨M31, h1, h⟩ := h
        refine g_sub [1, 0] rfl ?_
        refine lp_G2 (P := PX12_next_254 X B _ _ T x0) (E := EX12_next_254 X B _ _ T x0) (tbX12_next_254 C hd) h1 ?_
        show G X B 2 _ _ 294 [] [] T M31
        obtain ⟨-, rfl⟩ := Prod.mk.inj (Option.some.inj h)
        exact g_vret C hR dX12_next_294
      · replace h := ifn c18 h
        refine g_aload_n (pc := 141) C dX12_next_141 rfl 0 rfl ?_
        refine g_iconst (pc := 142) (v := 0) C dX12_next_142 (by decide) ?_
        refine g_putI (pc := 143) C dX12_next_143 kX12 hk1 10 (by decide) rfl rfl rfl q_1237 ?_
        refine g_mem (fun M32 eM32 => ?_)
        replace h := lt_at eM32 h
        replace h := bnd h; obtain ⟨M42, h1, h⟩ := h
        refine g_sub [0] rfl ?_
        refine lp_G2 (P := PX12_next_146 X B _ _ T x0) (E := EX12_next_146 X B _ _ T x0) (tbX12_next_146 C hd) h1 ?_
        show G X B 2 _ _ 209 [(0, .ref (x0))] [] T M42
        refine g_aload_n (pc := 209) C dX12_next_209 rfl 0 rfl ?_
        refine g_aload_n (pc := 210) C dX12_next_210 rfl 0 rfl ?_
        refine g_get (pc := 211) (v := .int (gI M42 x0 7)) C dX12_next_211 kX12 hk1 7 (by decide) q_1234 rfl ?_
        refine g_aload_n (pc := 214) C dX12_next_214 rfl 0 rfl ?_
        refine g_get (pc := 215) (v := .int (gI M42 x0 6)) C dX12_next_215 kX12 hk1 6 (by decide) q_1233 rfl ?_
        refine g_isub (pc := 218) C dX12_next_218 ?_
        refine g_iconst (pc := 219) (v := 3) C dX12_next_219 (by decide) ?_
        refine g_icmp_le (pc := 220) (tgt := 228) C dX12_next_220 (by decide) (fun c43 => ?_) (fun c43 => ?_)
        · replace h := ifp c43 h
          refine g_bipush (pc := 228) (v := 25) C dX12_next_228 (by decide) ?_
          refine g_putI (pc := 230) C dX12_next_230 kX12 hk1 9 (by decide) rfl rfl rfl q_1236 ?_
          refine g_mem (fun M44 eM44 => ?_)
          replace h := lt_at eM44 h
          refine g_goto (pc := 233) (tgt := 294) C dX12_next_233 (by decide) ?_
          obtain ⟨-, rfl⟩ := Prod.mk.inj (Option.some.inj h)
          exact g_vret C hR dX12_next_294
        · replace h := ifn c43 h
          refine g_bipush (pc := 223) (v := 27) C dX12_next_223 (by decide) ?_
          refine g_goto (pc := 225) (tgt := 230) C dX12_next_225 (by decide) ?_
          refine g_putI (pc := 230) C dX12_next_230 kX12 hk1 9 (by decide) rfl rfl rfl q_1236 ?_
          refine g_mem (fun M45 eM45 => ?_)
          replace h := lt_at eM45 h
          refine g_goto (pc := 233) (tgt := 294) C dX12_next_233 (by decide) ?_
          obtain ⟨-, rfl⟩ := Prod.mk.inj (Option.some.inj h)
          exact g_vret C hR dX12_next_294
    · replace h := ifn c15 h
      replace h := bnd h; obtain ⟨M51, h1, h⟩ := h
      refine g_sub [0] rfl ?_
      refine lp_G2 (P := PX12_next_89 X B _ _ T x0) (E := EX12_next_89 X B _ _ T x0) (tbX12_next_89 C hd) h1 ?_
      show G X B 2 _ _ 116 [(0, .ref (x0))] [] T M51
      refine g_aload_n (pc := 116) C dX12_next_116 rfl 0 rfl ?_
      refine g_aload_n (pc := 117) C dX12_next_117 rfl 0 rfl ?_
      replace h := bnd h; obtain ⟨r52, h1, h⟩ := h
      refine g_callVi (pc := 118) (As := []) (st := [.ref (x0)]) C dX12_next_118 wX12_keyAt hk1 rfl (by decide) q_1382 q_54 q_1380 (by omega) rfl (Nat.le_of_ble_eq_true rfl) (kX12_keyAt (d := 4) (Nat.le_refl _) h1) ?_
      refine g_putI (pc := 121) C dX12_next_121 kX12 hk1 9 (by decide) rfl rfl rfl q_1236 ?_
      refine g_mem (fun M53 eM53 => ?_)
      replace h := lt_at eM53 h
      refine g_goto (pc := 124) (tgt := 294) C dX12_next_124 (by decide) ?_
      obtain ⟨-, rfl⟩ := Prod.mk.inj (Option.some.inj h)
      exact g_vret C hR dX12_next_294
  · replace h := ifn c12 h
    refine g_aload_n (pc := 66) C dX12_next_66 rfl 0 rfl ?_
    refine g_bipush (pc := 67) (v := 26) C dX12_next_67 (by decide) ?_
    refine g_putI (pc := 69) C dX12_next_69 kX12 hk1 9 (by decide) rfl rfl rfl q_1236 ?_
    refine g_mem (fun M54 eM54 => ?_)
    replace h := lt_at eM54 h
    refine g_goto (pc := 72) (tgt := 294) C dX12_next_72 (by decide) ?_
    obtain ⟨-, rfl⟩ := Prod.mk.inj (Option.some.inj h)
    exact g_vret C hR dX12_next_294
theorem dX12_eats_0 : decode cX12_eats 0 = .ok (.aload_n 0, 1) := by decide +kernel
theorem dX12_eats_1 : decode cX12_eats 1 = .ok (.iload_n 1, 1) := by decide +kernel
theorem dX12_eats_2 : decode cX12_eats 2 = .ok (.invokevirtual 129, 3) := by decide +kernel
theorem dX12_eats_5 : decode cX12_eats 5 = .ok (.ifCond .ne 5, 3) := by decide +kernel
theorem dX12_eats_8 : decode cX12_eats 8 = .ok (.iconst 0, 1) := by decide +kernel
theorem dX12_eats_9 : decode cX12_eats 9 = .ok (.ireturn, 1) := by decide +kernel
theorem dX12_eats_10 : decode cX12_eats 10 = .ok (.aload_n 0, 1) := by decide +kernel
theorem dX12_eats_11 : decode cX12_eats 11 = .ok (.invokevirtual 132, 3) := by decide +kernel
theorem dX12_eats_14 : decode cX12_eats 14 = .ok (.iconst 1, 1) := by decide +kernel
theorem dX12_eats_15 : decode cX12_eats 15 = .ok (.ireturn, 1) := by decide +kernel
theorem wX12_eats : Mw yX12_eats cX12_eats 2 (some .boolean) 1 := ⟨q_1394, q_130, by decide, ⟨by decide +kernel, by decide +kernel⟩, by decide +kernel, by decide +kernel⟩
/-- EyeTrainerModel.eats(I)Z -/
def fX12_eats (T : Sh) (M : Me) (x0 : Nat) (x1 : Int32) : Option (Int32 × Me) :=
  gd (kd T x0 = 11) <| Option.bind (fX12_is T M x0 x1) fun r2 => if r2 = 0 then (some ((0 : Int32), M)) else (Option.bind (fX12_next T M x0) <| un2 fun _u M4 => some ((1 : Int32), M4))
set_option maxHeartbeats 4000000 in
theorem kX12_eats {l : Launch} {B : Bx} {d : Nat} (hd : 6 ≤ d) {T : Sh} {M : Me} {x0 : Nat} {x1 : Int32} {r : Int32} {M' : Me} (h : fX12_eats T M x0 x1 = some (r, M')) : Kt l B yX12_eats cX12_eats 2 (some .boolean) d [.ref (x0), .int (x1)] T M (some (.int r)) T M' := by
  refine kt_of wX12_eats (Nat.le_refl _) (Nat.le_refl _) (Nat.le_of_ble_eq_true rfl) (fun X C hR hlx hin => ?_)
  subst hlx
  replace C : Cx X B cX12_eats 2 RX12 d (tp T, sl T, tp T, sl T) := C
  unfold fX12_eats at h
  show G X B 2 _ _ 0 [(0, .ref (x0)), (1, .int (x1))] [] T M
  refine g_aload_n (pc := 0) C dX12_eats_0 rfl 0 rfl ?_
  refine g_iload_n (pc := 1) C dX12_eats_1 rfl 1 rfl ?_
  replace h := gd_some h; obtain ⟨hk1, h⟩ := h
  replace h := bnd h; obtain ⟨r2, h1, h⟩ := h
  refine g_callVi (pc := 2) (As := [.int (x1)]) (st := []) C dX12_eats_2 wX12_is hk1 rfl (by decide) q_1397 q_56 q_1395 (by omega) rfl (Nat.le_of_ble_eq_true rfl) (kX12_is (d := 0) (Nat.le_refl _) h1) ?_
  refine g_if_ne (pc := 5) (tgt := 10) C dX12_eats_5 (by decide) (fun c3 => ?_) (fun c3 => ?_)
  · replace h := ifn c3 h
    refine g_aload_n (pc := 10) C dX12_eats_10 rfl 0 rfl ?_
    replace h := bnd2 h; obtain ⟨_u, M4, h1, h⟩ := h
    refine g_callVv (pc := 11) (As := []) (st := []) C dX12_eats_11 wX12_next hk1 rfl (by decide) q_1371 q_52 q_1369 (by omega) rfl (Nat.le_of_ble_eq_true rfl) (kX12_next (d := 5) (Nat.le_refl _) h1) ?_
    refine g_iconst (pc := 14) (v := 1) C dX12_eats_14 (by decide) ?_
    obtain ⟨rfl, rfl⟩ := Prod.mk.inj (Option.some.inj h)
    exact g_zret C hR dX12_eats_15 rfl
  · replace h := ifp c3 h
    refine g_iconst (pc := 8) (v := 0) C dX12_eats_8 (by decide) ?_
    obtain ⟨rfl, rfl⟩ := Prod.mk.inj (Option.some.inj h)
    exact g_zret C hR dX12_eats_9 rfl
theorem dX12_takes_0 : decode cX12_takes 0 = .ok (.aload_n 0, 1) := by decide +kernel
theorem dX12_takes_1 : decode cX12_takes 1 = .ok (.bipush 25, 2) := by decide +kernel
theorem dX12_takes_3 : decode cX12_takes 3 = .ok (.invokevirtual 129, 3) := by decide +kernel
theorem dX12_takes_6 : decode cX12_takes 6 = .ok (.ifCond .ne 11, 3) := by decide +kernel
theorem dX12_takes_9 : decode cX12_takes 9 = .ok (.aload_n 0, 1) := by decide +kernel
theorem dX12_takes_10 : decode cX12_takes 10 = .ok (.iconst 2, 1) := by decide +kernel
theorem dX12_takes_11 : decode cX12_takes 11 = .ok (.invokevirtual 135, 3) := by decide +kernel
theorem dX12_takes_14 : decode cX12_takes 14 = .ok (.goto 23, 3) := by decide +kernel
theorem dX12_takes_17 : decode cX12_takes 17 = .ok (.aload_n 0, 1) := by decide +kernel
theorem dX12_takes_18 : decode cX12_takes 18 = .ok (.getfield 118, 3) := by decide +kernel
theorem dX12_takes_21 : decode cX12_takes 21 = .ok (.i2l, 1) := by decide +kernel
theorem dX12_takes_22 : decode cX12_takes 22 = .ok (.iload_n 1, 1) := by decide +kernel
theorem dX12_takes_23 : decode cX12_takes 23 = .ok (.i2l, 1) := by decide +kernel
theorem dX12_takes_24 : decode cX12_takes 24 = .ok (.iload_n 2, 1) := by decide +kernel
theorem dX12_takes_25 : decode cX12_takes 25 = .ok (.i2l, 1) := by decide +kernel
theorem dX12_takes_26 : decode cX12_takes 26 = .ok (.invokestatic 139, 3) := by decide +kernel
theorem dX12_takes_29 : decode cX12_takes 29 = .ok (.ifCond .ne 8, 3) := by decide +kernel
theorem dX12_takes_32 : decode cX12_takes 32 = .ok (.aload_n 0, 1) := by decide +kernel
theorem dX12_takes_33 : decode cX12_takes 33 = .ok (.iconst 3, 1) := by decide +kernel
theorem dX12_takes_34 : decode cX12_takes 34 = .ok (.invokevirtual 135, 3) := by decide +kernel
theorem dX12_takes_37 : decode cX12_takes 37 = .ok (.aload_n 0, 1) := by decide +kernel
theorem dX12_takes_38 : decode cX12_takes 38 = .ok (.getfield 118, 3) := by decide +kernel
theorem dX12_takes_41 : decode cX12_takes 41 = .ok (.istore_n 3, 1) := by decide +kernel
theorem dX12_takes_42 : decode cX12_takes 42 = .ok (.aload_n 0, 1) := by decide +kernel
theorem dX12_takes_43 : decode cX12_takes 43 = .ok (.getfield 123, 3) := by decide +kernel
theorem dX12_takes_46 : decode cX12_takes 46 = .ok (.ifCond .ne 7, 3) := by decide +kernel
theorem dX12_takes_49 : decode cX12_takes 49 = .ok (.aload_n 0, 1) := by decide +kernel
theorem dX12_takes_50 : decode cX12_takes 50 = .ok (.invokevirtual 132, 3) := by decide +kernel
theorem dX12_takes_53 : decode cX12_takes 53 = .ok (.iload_n 3, 1) := by decide +kernel
theorem dX12_takes_54 : decode cX12_takes 54 = .ok (.ireturn, 1) := by decide +kernel
theorem wX12_takes : Mw yX12_takes cX12_takes 4 (some .int) 2 := ⟨q_1410, q_130, by decide, ⟨by decide +kernel, by decide +kernel⟩, by decide +kernel, by decide +kernel⟩
/-- EyeTrainerModel.takes(II)I -/
def fX12_takes (T : Sh) (M : Me) (x0 : Nat) (x1 : Int32) (x2 : Int32) : Option (Int32 × Me) :=
  gd (kd T x0 = 11) <| Option.bind (fX12_is T M x0 (25 : Int32)) fun r2 => if r2 = 0 then (Option.bind (fX12_fails T M x0 (2 : Int32)) <| un2 fun _u M13 => lt (gI M13 x0 10) fun v14 => if (gI M13 x0 11) = 0 then (Option.bind (fX12_next T M13 x0) <| un2 fun _u M16 => some (v14, M16)) else (some (v14, M13))) else (Option.bind (fX12_within (Int32.toInt64 (gI M x0 10)) (Int32.toInt64 x1) (Int32.toInt64 x2)) fun r4 => if r4 = 0 then (Option.bind (fX12_fails T M x0 (3 : Int32)) <| un2 fun _u M9 => lt (gI M9 x0 10) fun v10 => if (gI M9 x0 11) = 0 then (Option.bind (fX12_next T M9 x0) <| un2 fun _u M12 => some (v10, M12)) else (some (v10, M9))) else (lt (gI M x0 10) fun v6 => if (gI M x0 11) = 0 then (Option.bind (fX12_next T M x0) <| un2 fun _u M8 => some (v6, M8)) else (some (v6, M))))
set_option maxHeartbeats 4000000 in
theorem kX12_takes {l : Launch} {B : Bx} {d : Nat} (hd : 6 ≤ d) {T : Sh} {M : Me} {x0 : Nat} {x1 : Int32} {x2 : Int32} {r : Int32} {M' : Me} (h : fX12_takes T M x0 x1 x2 = some (r, M')) : Kt l B yX12_takes cX12_takes 4 (some .int) d [.ref (x0), .int (x1), .int (x2)] T M (some (.int r)) T M' := by
  refine kt_of wX12_takes (Nat.le_refl _) (Nat.le_refl _) (Nat.le_of_ble_eq_true rfl) (fun X C hR hlx hin => ?_)
  subst hlx
  replace C : Cx X B cX12_takes 4 RX12 d (tp T, sl T, tp T, sl T) := C
  unfold fX12_takes at h
  show G X B 4 _ _ 0 [(0, .ref (x0)), (1, .int (x1)), (2, .int (x2))] [] T M
  refine g_aload_n (pc := 0) C dX12_takes_0 rfl 0 rfl ?_
  refine g_bipush (pc := 1) (v := 25) C dX12_takes_1 (by decide) ?_
  replace h := gd_some h; obtain ⟨hk1, h⟩ := h
  replace h := bnd h; obtain ⟨r2, h1, h⟩ := h
  refine g_callVi (pc := 3) (As := [.int ((25 : Int32))]) (st := []) C dX12_takes_3 wX12_is hk1 rfl (by decide) q_1397 q_56 q_1395 (by omega) rfl (Nat.le_of_ble_eq_true rfl) (kX12_is (d := 0) (Nat.le_refl _) h1) ?_
  refine g_if_ne (pc := 6) (tgt := 17) C dX12_takes_6 (by decide) (fun c3 => ?_) (fun c3 => ?_)
  · replace h := ifn c3 h
    refine g_aload_n (pc := 17) C dX12_takes_17 rfl 0 rfl ?_
    refine g_get (pc := 18) (v := .int (gI M x0 10)) C dX12_takes_18 kX12 hk1 10 (by decide) q_1237 rfl ?_
    refine g_i2l (pc := 21) C dX12_takes_21 ?_
    refine g_iload_n (pc := 22) C dX12_takes_22 rfl 1 rfl ?_
    refine g_i2l (pc := 23) C dX12_takes_23 ?_
    refine g_iload_n (pc := 24) C dX12_takes_24 rfl 2 rfl ?_
    refine g_i2l (pc := 25) C dX12_takes_25 ?_
    replace h := bnd h; obtain ⟨r4, h1, h⟩ := h
    refine g_callSi (pc := 26) (As := [.long (Int32.toInt64 (gI M x0 10)), .long (Int32.toInt64 x1), .long (Int32.toInt64 x2)]) (st := []) C dX12_takes_26 wX12_within q_1367 q_1366 (by omega) rfl (Nat.le_of_ble_eq_true rfl) (kX12_within (d := 0) (Nat.le_refl _) h1) ?_
    refine g_if_ne (pc := 29) (tgt := 37) C dX12_takes_29 (by decide) (fun c5 => ?_) (fun c5 => ?_)
    · replace h := ifn c5 h
      refine g_aload_n (pc := 37) C dX12_takes_37 rfl 0 rfl ?_
      refine g_get (pc := 38) (v := .int (gI M x0 10)) C dX12_takes_38 kX12 hk1 10 (by decide) q_1237 rfl ?_
      refine g_topi (fun v6 ev6 => ?_)
      replace h := lt_at ev6 h
      refine g_istore_n (pc := 41) (lo2 := [(3, .int (v6)), (0, .ref (x0)), (1, .int (x1)), (2, .int (x2))]) C dX12_takes_41 rfl (by decide) rfl ?_
      refine g_aload_n (pc := 42) C dX12_takes_42 rfl 1 rfl ?_
      refine g_get (pc := 43) (v := .int (gI M x0 11)) C dX12_takes_43 kX12 hk1 11 (by decide) q_1238 rfl ?_
      refine g_if_ne (pc := 46) (tgt := 53) C dX12_takes_46 (by decide) (fun c7 => ?_) (fun c7 => ?_)
      · replace h := ifn c7 h
        refine g_iload_n (pc := 53) C dX12_takes_53 rfl 0 rfl ?_
        obtain ⟨rfl, rfl⟩ := Prod.mk.inj (Option.some.inj h)
        exact g_iret C hR dX12_takes_54
      · replace h := ifp c7 h
        refine g_aload_n (pc := 49) C dX12_takes_49 rfl 1 rfl ?_
        replace h := bnd2 h; obtain ⟨_u, M8, h1, h⟩ := h
        refine g_callVv (pc := 50) (As := []) (st := []) C dX12_takes_50 wX12_next hk1 rfl (by decide) q_1371 q_52 q_1369 (by omega) rfl (Nat.le_of_ble_eq_true rfl) (kX12_next (d := 5) (Nat.le_refl _) h1) ?_
        refine g_iload_n (pc := 53) C dX12_takes_53 rfl 0 rfl ?_
        obtain ⟨rfl, rfl⟩ := Prod.mk.inj (Option.some.inj h)
        exact g_iret C hR dX12_takes_54
    · replace h := ifp c5 h
      refine g_aload_n (pc := 32) C dX12_takes_32 rfl 0 rfl ?_
      refine g_iconst (pc := 33) (v := 3) C dX12_takes_33 (by decide) ?_
      replace h := bnd2 h; obtain ⟨_u, M9, h1, h⟩ := h
      refine g_callVv (pc := 34) (As := [.int ((3 : Int32))]) (st := []) C dX12_takes_34 wX12_fails hk1 rfl (by decide) q_1401 q_57 q_1399 (by omega) rfl (Nat.le_of_ble_eq_true rfl) (kX12_fails (d := 0) (Nat.le_refl _) h1) ?_
      refine g_aload_n (pc := 37) C dX12_takes_37 rfl 0 rfl ?_
      refine g_get (pc := 38) (v := .int (gI M9 x0 10)) C dX12_takes_38 kX12 hk1 10 (by decide) q_1237 rfl ?_
      refine g_topi (fun v10 ev10 => ?_)
      replace h := lt_at ev10 h
      refine g_istore_n (pc := 41) (lo2 := [(3, .int (v10)), (0, .ref (x0)), (1, .int (x1)), (2, .int (x2))]) C dX12_takes_41 rfl (by decide) rfl ?_
      refine g_aload_n (pc := 42) C dX12_takes_42 rfl 1 rfl ?_
      refine g_get (pc := 43) (v := .int (gI M9 x0 11)) C dX12_takes_43 kX12 hk1 11 (by decide) q_1238 rfl ?_
      refine g_if_ne (pc := 46) (tgt := 53) C dX12_takes_46 (by decide) (fun c11 => ?_) (fun c11 => ?_)
      · replace h := ifn c11 h
        refine g_iload_n (pc := 53) C dX12_takes_53 rfl 0 rfl ?_
        obtain ⟨rfl, rfl⟩ := Prod.mk.inj (Option.some.inj h)
        exact g_iret C hR dX12_takes_54
      · replace h := ifp c11 h
        refine g_aload_n (pc := 49) C dX12_takes_49 rfl 1 rfl ?_
        replace h := bnd2 h; obtain ⟨_u, M12, h1, h⟩ := h
        refine g_callVv (pc := 50) (As := []) (st := []) C dX12_takes_50 wX12_next hk1 rfl (by decide) q_1371 q_52 q_1369 (by omega) rfl (Nat.le_of_ble_eq_true rfl) (kX12_next (d := 5) (Nat.le_refl _) h1) ?_
        refine g_iload_n (pc := 53) C dX12_takes_53 rfl 0 rfl ?_
        obtain ⟨rfl, rfl⟩ := Prod.mk.inj (Option.some.inj h)
        exact g_iret C hR dX12_takes_54
  · replace h := ifp c3 h
    refine g_aload_n (pc := 9) C dX12_takes_9 rfl 0 rfl ?_
    refine g_iconst (pc := 10) (v := 2) C dX12_takes_10 (by decide) ?_
    replace h := bnd2 h; obtain ⟨_u, M13, h1, h⟩ := h
    refine g_callVv (pc := 11) (As := [.int ((2 : Int32))]) (st := []) C dX12_takes_11 wX12_fails hk1 rfl (by decide) q_1401 q_57 q_1399 (by omega) rfl (Nat.le_of_ble_eq_true rfl) (kX12_fails (d := 0) (Nat.le_refl _) h1) ?_
    refine g_goto (pc := 14) (tgt := 37) C dX12_takes_14 (by decide) ?_
    refine g_aload_n (pc := 37) C dX12_takes_37 rfl 0 rfl ?_
    refine g_get (pc := 38) (v := .int (gI M13 x0 10)) C dX12_takes_38 kX12 hk1 10 (by decide) q_1237 rfl ?_
    refine g_topi (fun v14 ev14 => ?_)
    replace h := lt_at ev14 h
    refine g_istore_n (pc := 41) (lo2 := [(3, .int (v14)), (0, .ref (x0)), (1, .int (x1)), (2, .int (x2))]) C dX12_takes_41 rfl (by decide) rfl ?_
    refine g_aload_n (pc := 42) C dX12_takes_42 rfl 1 rfl ?_
    refine g_get (pc := 43) (v := .int (gI M13 x0 11)) C dX12_takes_43 kX12 hk1 11 (by decide) q_1238 rfl ?_
    refine g_if_ne (pc := 46) (tgt := 53) C dX12_takes_46 (by decide) (fun c15 => ?_) (fun c15 => ?_)
    · replace h := ifn c15 h
      refine g_iload_n (pc := 53) C dX12_takes_53 rfl 0 rfl ?_
      obtain ⟨rfl, rfl⟩ := Prod.mk.inj (Option.some.inj h)
      exact g_iret C hR dX12_takes_54
    · replace h := ifp c15 h
      refine g_aload_n (pc := 49) C dX12_takes_49 rfl 1 rfl ?_
      replace h := bnd2 h; obtain ⟨_u, M16, h1, h⟩ := h
      refine g_callVv (pc := 50) (As := []) (st := []) C dX12_takes_50 wX12_next hk1 rfl (by decide) q_1371 q_52 q_1369 (by omega) rfl (Nat.le_of_ble_eq_true rfl) (kX12_next (d := 5) (Nat.le_refl _) h1) ?_
      refine g_iload_n (pc := 53) C dX12_takes_53 rfl 0 rfl ?_
      obtain ⟨rfl, rfl⟩ := Prod.mk.inj (Option.some.inj h)
      exact g_iret C hR dX12_takes_54
theorem dX12_goesIn_0 : decode cX12_goesIn 0 = .ok (.iload_n 1, 1) := by decide +kernel
theorem dX12_goesIn_1 : decode cX12_goesIn 1 = .ok (.bipush 6, 2) := by decide +kernel
theorem dX12_goesIn_3 : decode cX12_goesIn 3 = .ok (.if_icmp .ne 8, 3) := by decide +kernel
theorem dX12_goesIn_6 : decode cX12_goesIn 6 = .ok (.aload_n 0, 1) := by decide +kernel
theorem dX12_goesIn_7 : decode cX12_goesIn 7 = .ok (.iconst 4, 1) := by decide +kernel
theorem dX12_goesIn_8 : decode cX12_goesIn 8 = .ok (.invokevirtual 135, 3) := by decide +kernel
theorem dX12_goesIn_11 : decode cX12_goesIn 11 = .ok (.aload_n 0, 1) := by decide +kernel
theorem dX12_goesIn_12 : decode cX12_goesIn 12 = .ok (.getfield 123, 3) := by decide +kernel
theorem dX12_goesIn_15 : decode cX12_goesIn 15 = .ok (.ifCond .ne 7, 3) := by decide +kernel
theorem dX12_goesIn_18 : decode cX12_goesIn 18 = .ok (.aload_n 0, 1) := by decide +kernel
theorem dX12_goesIn_19 : decode cX12_goesIn 19 = .ok (.invokevirtual 132, 3) := by decide +kernel
theorem dX12_goesIn_22 : decode cX12_goesIn 22 = .ok (.aload_n 0, 1) := by decide +kernel
theorem dX12_goesIn_23 : decode cX12_goesIn 23 = .ok (.getfield 123, 3) := by decide +kernel
theorem dX12_goesIn_26 : decode cX12_goesIn 26 = .ok (.ifCond .ne 7, 3) := by decide +kernel
theorem dX12_goesIn_29 : decode cX12_goesIn 29 = .ok (.iconst 1, 1) := by decide +kernel
theorem dX12_goesIn_30 : decode cX12_goesIn 30 = .ok (.goto 4, 3) := by decide +kernel
theorem dX12_goesIn_33 : decode cX12_goesIn 33 = .ok (.iconst 0, 1) := by decide +kernel
theorem dX12_goesIn_34 : decode cX12_goesIn 34 = .ok (.ireturn, 1) := by decide +kernel
theorem wX12_goesIn : Mw yX12_goesIn cX12_goesIn 2 (some .boolean) 1 := ⟨q_1454, q_130, by decide, ⟨by decide +kernel, by decide +kernel⟩, by decide +kernel, by decide +kernel⟩
/-- EyeTrainerModel.goesIn(I)Z -/
def fX12_goesIn (T : Sh) (M : Me) (x0 : Nat) (x1 : Int32) : Option (Int32 × Me) :=
  if x1 = (6 : Int32) then (gd (kd T x0 = 11) <| Option.bind (fX12_fails T M x0 (4 : Int32)) <| un2 fun _u M8 => if (gI M8 x0 11) = 0 then (Option.bind (fX12_next T M8 x0) <| un2 fun _u M11 => if (gI M11 x0 11) = 0 then (some ((1 : Int32), M11)) else (some ((0 : Int32), M11))) else (if (gI M8 x0 11) = 0 then (some ((1 : Int32), M8)) else (some ((0 : Int32), M8)))) else (gd (kd T x0 = 11) <| if (gI M x0 11) = 0 then (Option.bind (fX12_next T M x0) <| un2 fun _u M5 => if (gI M5 x0 11) = 0 then (some ((1 : Int32), M5)) else (some ((0 : Int32), M5))) else (if (gI M x0 11) = 0 then (some ((1 : Int32), M)) else (some ((0 : Int32), M))))
set_option maxHeartbeats 4000000 in
theorem kX12_goesIn {l : Launch} {B : Bx} {d : Nat} (hd : 6 ≤ d) {T : Sh} {M : Me} {x0 : Nat} {x1 : Int32} {r : Int32} {M' : Me} (h : fX12_goesIn T M x0 x1 = some (r, M')) : Kt l B yX12_goesIn cX12_goesIn 2 (some .boolean) d [.ref (x0), .int (x1)] T M (some (.int r)) T M' := by
  refine kt_of wX12_goesIn (Nat.le_refl _) (Nat.le_refl _) (Nat.le_of_ble_eq_true rfl) (fun X C hR hlx hin => ?_)
  subst hlx
  replace C : Cx X B cX12_goesIn 2 RX12 d (tp T, sl T, tp T, sl T) := C
  unfold fX12_goesIn at h
  show G X B 2 _ _ 0 [(0, .ref (x0)), (1, .int (x1))] [] T M
  refine g_iload_n (pc := 0) C dX12_goesIn_0 rfl 1 rfl ?_
  refine g_bipush (pc := 1) (v := 6) C dX12_goesIn_1 (by decide) ?_
  refine g_icmp_ne (pc := 3) (tgt := 11) C dX12_goesIn_3 (by decide) (fun c1 => ?_) (fun c1 => ?_)
  · replace h := ifn c1 h
    refine g_aload_n (pc := 11) C dX12_goesIn_11 rfl 0 rfl ?_
    replace h := gd_some h; obtain ⟨hk2, h⟩ := h
    refine g_get (pc := 12) (v := .int (gI M x0 11)) C dX12_goesIn_12 kX12 hk2 11 (by decide) q_1238 rfl ?_
    refine g_if_ne (pc := 15) (tgt := 22) C dX12_goesIn_15 (by decide) (fun c3 => ?_) (fun c3 => ?_)
    · replace h := ifn c3 h
      refine g_aload_n (pc := 22) C dX12_goesIn_22 rfl 0 rfl ?_
      refine g_get (pc := 23) (v := .int (gI M x0 11)) C dX12_goesIn_23 kX12 hk2 11 (by decide) q_1238 rfl ?_
      refine g_if_ne (pc := 26) (tgt := 33) C dX12_goesIn_26 (by decide) (fun c4 => ?_) (fun c4 => ?_)
      · replace h := ifn c4 h
        refine g_iconst (pc := 33) (v := 0) C dX12_goesIn_33 (by decide) ?_
        obtain ⟨rfl, rfl⟩ := Prod.mk.inj (Option.some.inj h)
        exact g_zret C hR dX12_goesIn_34 rfl
      · replace h := ifp c4 h
        refine g_iconst (pc := 29) (v := 1) C dX12_goesIn_29 (by decide) ?_
        refine g_goto (pc := 30) (tgt := 34) C dX12_goesIn_30 (by decide) ?_
        obtain ⟨rfl, rfl⟩ := Prod.mk.inj (Option.some.inj h)
        exact g_zret C hR dX12_goesIn_34 rfl
    · replace h := ifp c3 h
      refine g_aload_n (pc := 18) C dX12_goesIn_18 rfl 0 rfl ?_
      replace h := bnd2 h; obtain ⟨_u, M5, h1, h⟩ := h
      refine g_callVv (pc := 19) (As := []) (st := []) C dX12_goesIn_19 wX12_next hk2 rfl (by decide) q_1371 q_52 q_1369 (by omega) rfl (Nat.le_of_ble_eq_true rfl) (kX12_next (d := 5) (Nat.le_refl _) h1) ?_
      refine g_aload_n (pc := 22) C dX12_goesIn_22 rfl 0 rfl ?_
      refine g_get (pc := 23) (v := .int (gI M5 x0 11)) C dX12_goesIn_23 kX12 hk2 11 (by decide) q_1238 rfl ?_
      refine g_if_ne (pc := 26) (tgt := 33) C dX12_goesIn_26 (by decide) (fun c6 => ?_) (fun c6 => ?_)
      · replace h := ifn c6 h
        refine g_iconst (pc := 33) (v := 0) C dX12_goesIn_33 (by decide) ?_
        obtain ⟨rfl, rfl⟩ := Prod.mk.inj (Option.some.inj h)
        exact g_zret C hR dX12_goesIn_34 rfl
      · replace h := ifp c6 h
        refine g_iconst (pc := 29) (v := 1) C dX12_goesIn_29 (by decide) ?_
        refine g_goto (pc := 30) (tgt := 34) C dX12_goesIn_30 (by decide) ?_
        obtain ⟨rfl, rfl⟩ := Prod.mk.inj (Option.some.inj h)
        exact g_zret C hR dX12_goesIn_34 rfl
  · replace h := ifp c1 h
    refine g_aload_n (pc := 6) C dX12_goesIn_6 rfl 0 rfl ?_
    refine g_iconst (pc := 7) (v := 4) C dX12_goesIn_7 (by decide) ?_
    replace h := gd_some h; obtain ⟨hk7, h⟩ := h
    replace h := bnd2 h; obtain ⟨_u, M8, h1, h⟩ := h
    refine g_callVv (pc := 8) (As := [.int ((4 : Int32))]) (st := []) C dX12_goesIn_8 wX12_fails hk7 rfl (by decide) q_1401 q_57 q_1399 (by omega) rfl (Nat.le_of_ble_eq_true rfl) (kX12_fails (d := 0) (Nat.le_refl _) h1) ?_
    refine g_aload_n (pc := 11) C dX12_goesIn_11 rfl 0 rfl ?_
    refine g_get (pc := 12) (v := .int (gI M8 x0 11)) C dX12_goesIn_12 kX12 hk7 11 (by decide) q_1238 rfl ?_
    refine g_if_ne (pc := 15) (tgt := 22) C dX12_goesIn_15 (by decide) (fun c9 => ?_) (fun c9 => ?_)
    · replace h := ifn c9 h
      refine g_aload_n (pc := 22) C dX12_goesIn_22 rfl 0 rfl ?_
      refine g_get (pc := 23) (v := .int (gI M8 x0 11)) C dX12_goesIn_23 kX12 hk7 11 (by decide) q_1238 rfl ?_
      refine g_if_ne (pc := 26) (tgt := 33) C dX12_goesIn_26 (by decide) (fun c10 => ?_) (fun c10 => ?_)
      · replace h := ifn c10 h
        refine g_iconst (pc := 33) (v := 0) C dX12_goesIn_33 (by decide) ?_
        obtain ⟨rfl, rfl⟩ := Prod.mk.inj (Option.some.inj h)
        exact g_zret C hR dX12_goesIn_34 rfl
      · replace h := ifp c10 h
        refine g_iconst (pc := 29) (v := 1) C dX12_goesIn_29 (by decide) ?_
        refine g_goto (pc := 30) (tgt := 34) C dX12_goesIn_30 (by decide) ?_
        obtain ⟨rfl, rfl⟩ := Prod.mk.inj (Option.some.inj h)
        exact g_zret C hR dX12_goesIn_34 rfl
    · replace h := ifp c9 h
      refine g_aload_n (pc := 18) C dX12_goesIn_18 rfl 0 rfl ?_
      replace h := bnd2 h; obtain ⟨_u, M11, h1, h⟩ := h
      refine g_callVv (pc := 19) (As := []) (st := []) C dX12_goesIn_19 wX12_next hk7 rfl (by decide) q_1371 q_52 q_1369 (by omega) rfl (Nat.le_of_ble_eq_true rfl) (kX12_next (d := 5) (Nat.le_refl _) h1) ?_
      refine g_aload_n (pc := 22) C dX12_goesIn_22 rfl 0 rfl ?_
      refine g_get (pc := 23) (v := .int (gI M11 x0 11)) C dX12_goesIn_23 kX12 hk7 11 (by decide) q_1238 rfl ?_
      refine g_if_ne (pc := 26) (tgt := 33) C dX12_goesIn_26 (by decide) (fun c12 => ?_) (fun c12 => ?_)
      · replace h := ifn c12 h
        refine g_iconst (pc := 33) (v := 0) C dX12_goesIn_33 (by decide) ?_
        obtain ⟨rfl, rfl⟩ := Prod.mk.inj (Option.some.inj h)
        exact g_zret C hR dX12_goesIn_34 rfl
      · replace h := ifp c12 h
        refine g_iconst (pc := 29) (v := 1) C dX12_goesIn_29 (by decide) ?_
        refine g_goto (pc := 30) (tgt := 34) C dX12_goesIn_30 (by decide) ?_
        obtain ⟨rfl, rfl⟩ := Prod.mk.inj (Option.some.inj h)
        exact g_zret C hR dX12_goesIn_34 rfl
theorem dX12_named_0 : decode cX12_named 0 = .ok (.aload_n 0, 1) := by decide +kernel
theorem dX12_named_1 : decode cX12_named 1 = .ok (.iload_n 1, 1) := by decide +kernel
theorem dX12_named_2 : decode cX12_named 2 = .ok (.invokevirtual 158, 3) := by decide +kernel
theorem dX12_named_5 : decode cX12_named 5 = .ok (.ifCond .ne 8, 3) := by decide +kernel
theorem dX12_named_8 : decode cX12_named 8 = .ok (.aload_n 0, 1) := by decide +kernel
theorem dX12_named_9 : decode cX12_named 9 = .ok (.iconst 2, 1) := by decide +kernel
theorem dX12_named_10 : decode cX12_named 10 = .ok (.invokevirtual 135, 3) := by decide +kernel
theorem dX12_named_13 : decode cX12_named 13 = .ok (.aload_n 0, 1) := by decide +kernel
theorem dX12_named_14 : decode cX12_named 14 = .ok (.iload_n 2, 1) := by decide +kernel
theorem dX12_named_15 : decode cX12_named 15 = .ok (.iload_n 3, 1) := by decide +kernel
theorem dX12_named_16 : decode cX12_named 16 = .ok (.invokevirtual 179, 3) := by decide +kernel
theorem dX12_named_19 : decode cX12_named 19 = .ok (.ireturn, 1) := by decide +kernel
theorem wX12_named : Mw yX12_named cX12_named 4 (some .int) 3 := ⟨q_1406, q_130, by decide, ⟨by decide +kernel, by decide +kernel⟩, by decide +kernel, by decide +kernel⟩
/-- EyeTrainerModel.named(III)I -/
def fX12_named (T : Sh) (M : Me) (x0 : Nat) (x1 : Int32) (x2 : Int32) (x3 : Int32) : Option (Int32 × Me) :=
  gd (kd T x0 = 11) <| Option.bind (fX12_eats T M x0 x1) <| un2 fun r2 M3 => if r2 = 0 then (Option.bind (fX12_fails T M3 x0 (2 : Int32)) <| un2 fun _u M7 => Option.bind (fX12_takes T M7 x0 x2 x3) <| un2 fun r8 M9 => some (r8, M9)) else (Option.bind (fX12_takes T M3 x0 x2 x3) <| un2 fun r5 M6 => some (r5, M6))
set_option maxHeartbeats 4000000 in
theorem kX12_named {l : Launch} {B : Bx} {d : Nat} (hd : 7 ≤ d) {T : Sh} {M : Me} {x0 : Nat} {x1 : Int32} {x2 : Int32} {x3 : Int32} {r : Int32} {M' : Me} (h : fX12_named T M x0 x1 x2 x3 = some (r, M')) : Kt l B yX12_named cX12_named 4 (some .int) d [.ref (x0), .int (x1), .int (x2), .int (x3)] T M (some (.int r)) T M' := by
  refine kt_of wX12_named (Nat.le_refl _) (Nat.le_refl _) (Nat.le_of_ble_eq_true rfl) (fun X C hR hlx hin => ?_)
  subst hlx
  replace C : Cx X B cX12_named 4 RX12 d (tp T, sl T, tp T, sl T) := C
  unfold fX12_named at h
  show G X B 4 _ _ 0 [(0, .ref (x0)), (1, .int (x1)), (2, .int (x2)), (3, .int (x3))] [] T M
  refine g_aload_n (pc := 0) C dX12_named_0 rfl 0 rfl ?_
  refine g_iload_n (pc := 1) C dX12_named_1 rfl 1 rfl ?_
  replace h := gd_some h; obtain ⟨hk1, h⟩ := h
  replace h := bnd2 h; obtain ⟨r2, M3, h1, h⟩ := h
  refine g_callVi (pc := 2) (As := [.int (x1)]) (st := []) C dX12_named_2 wX12_eats hk1 rfl (by decide) q_1393 q_55 q_1391 (by omega) rfl (Nat.le_of_ble_eq_true rfl) (kX12_eats (d := 6) (Nat.le_refl _) h1) ?_
  refine g_if_ne (pc := 5) (tgt := 13) C dX12_named_5 (by decide) (fun c4 => ?_) (fun c4 => ?_)
  · replace h := ifn c4 h
    refine g_aload_n (pc := 13) C dX12_named_13 rfl 0 rfl ?_
    refine g_iload_n (pc := 14) C dX12_named_14 rfl 2 rfl ?_
    refine g_iload_n (pc := 15) C dX12_named_15 rfl 3 rfl ?_
    replace h := bnd2 h; obtain ⟨r5, M6, h1, h⟩ := h
    refine g_callVi (pc := 16) (As := [.int (x2), .int (x3)]) (st := []) C dX12_named_16 wX12_takes hk1 rfl (by decide) q_1409 q_59 q_1407 (by omega) rfl (Nat.le_of_ble_eq_true rfl) (kX12_takes (d := 6) (Nat.le_refl _) h1) ?_
    obtain ⟨rfl, rfl⟩ := Prod.mk.inj (Option.some.inj h)
    exact g_iret C hR dX12_named_19
  · replace h := ifp c4 h
    refine g_aload_n (pc := 8) C dX12_named_8 rfl 0 rfl ?_
    refine g_iconst (pc := 9) (v := 2) C dX12_named_9 (by decide) ?_
    replace h := bnd2 h; obtain ⟨_u, M7, h1, h⟩ := h
    refine g_callVv (pc := 10) (As := [.int ((2 : Int32))]) (st := []) C dX12_named_10 wX12_fails hk1 rfl (by decide) q_1401 q_57 q_1399 (by omega) rfl (Nat.le_of_ble_eq_true rfl) (kX12_fails (d := 0) (Nat.le_refl _) h1) ?_
    refine g_aload_n (pc := 13) C dX12_named_13 rfl 0 rfl ?_
    refine g_iload_n (pc := 14) C dX12_named_14 rfl 2 rfl ?_
    refine g_iload_n (pc := 15) C dX12_named_15 rfl 3 rfl ?_
    replace h := bnd2 h; obtain ⟨r8, M9, h1, h⟩ := h
    refine g_callVi (pc := 16) (As := [.int (x2), .int (x3)]) (st := []) C dX12_named_16 wX12_takes hk1 rfl (by decide) q_1409 q_59 q_1407 (by omega) rfl (Nat.le_of_ble_eq_true rfl) (kX12_takes (d := 6) (Nat.le_refl _) h1) ?_
    obtain ⟨rfl, rfl⟩ := Prod.mk.inj (Option.some.inj h)
    exact g_iret C hR dX12_named_19
theorem dX12_readLane_0 : decode cX12_readLane 0 = .ok (.aload_n 0, 1) := by decide +kernel
theorem dX12_readLane_1 : decode cX12_readLane 1 = .ok (.getfield 24, 3) := by decide +kernel
theorem dX12_readLane_4 : decode cX12_readLane 4 = .ok (.iconst 3, 1) := by decide +kernel
theorem dX12_readLane_5 : decode cX12_readLane 5 = .ok (.iaload, 1) := by decide +kernel
theorem dX12_readLane_6 : decode cX12_readLane 6 = .ok (.istore_n 1, 1) := by decide +kernel
theorem dX12_readLane_7 : decode cX12_readLane 7 = .ok (.iload_n 1, 1) := by decide +kernel
theorem dX12_readLane_8 : decode cX12_readLane 8 = .ok (.bipush 6, 2) := by decide +kernel
theorem dX12_readLane_10 : decode cX12_readLane 10 = .ok (.if_icmp .ne 8, 3) := by decide +kernel
theorem dX12_readLane_13 : decode cX12_readLane 13 = .ok (.aload_n 0, 1) := by decide +kernel
theorem dX12_readLane_14 : decode cX12_readLane 14 = .ok (.iconst 4, 1) := by decide +kernel
theorem dX12_readLane_15 : decode cX12_readLane 15 = .ok (.invokevirtual 135, 3) := by decide +kernel
theorem dX12_readLane_18 : decode cX12_readLane 18 = .ok (.aload_n 0, 1) := by decide +kernel
theorem dX12_readLane_19 : decode cX12_readLane 19 = .ok (.getfield 123, 3) := by decide +kernel
theorem dX12_readLane_22 : decode cX12_readLane 22 = .ok (.ifCond .eq 4, 3) := by decide +kernel
theorem dX12_readLane_25 : decode cX12_readLane 25 = .ok (.return_, 1) := by decide +kernel
theorem dX12_readLane_26 : decode cX12_readLane 26 = .ok (.aload_n 0, 1) := by decide +kernel
theorem dX12_readLane_27 : decode cX12_readLane 27 = .ok (.invokevirtual 132, 3) := by decide +kernel
theorem dX12_readLane_30 : decode cX12_readLane 30 = .ok (.aload_n 0, 1) := by decide +kernel
theorem dX12_readLane_31 : decode cX12_readLane 31 = .ok (.getfield 24, 3) := by decide +kernel
theorem dX12_readLane_34 : decode cX12_readLane 34 = .ok (.bipush 14, 2) := by decide +kernel
theorem dX12_readLane_36 : decode cX12_readLane 36 = .ok (.iload_n 1, 1) := by decide +kernel
theorem dX12_readLane_37 : decode cX12_readLane 37 = .ok (.iadd, 1) := by decide +kernel
theorem dX12_readLane_38 : decode cX12_readLane 38 = .ok (.aload_n 0, 1) := by decide +kernel
theorem dX12_readLane_39 : decode cX12_readLane 39 = .ok (.iconst 4, 1) := by decide +kernel
theorem dX12_readLane_40 : decode cX12_readLane 40 = .ok (.iconst 0, 1) := by decide +kernel
theorem dX12_readLane_41 : decode cX12_readLane 41 = .ok (.bipush 23, 2) := by decide +kernel
theorem dX12_readLane_43 : decode cX12_readLane 43 = .ok (.invokevirtual 183, 3) := by decide +kernel
theorem dX12_readLane_46 : decode cX12_readLane 46 = .ok (.iastore, 1) := by decide +kernel
theorem dX12_readLane_47 : decode cX12_readLane 47 = .ok (.aload_n 0, 1) := by decide +kernel
theorem dX12_readLane_48 : decode cX12_readLane 48 = .ok (.getfield 24, 3) := by decide +kernel
theorem dX12_readLane_51 : decode cX12_readLane 51 = .ok (.bipush 20, 2) := by decide +kernel
theorem dX12_readLane_53 : decode cX12_readLane 53 = .ok (.iload_n 1, 1) := by decide +kernel
theorem dX12_readLane_54 : decode cX12_readLane 54 = .ok (.iadd, 1) := by decide +kernel
theorem dX12_readLane_55 : decode cX12_readLane 55 = .ok (.aload_n 0, 1) := by decide +kernel
theorem dX12_readLane_56 : decode cX12_readLane 56 = .ok (.iconst 5, 1) := by decide +kernel
theorem dX12_readLane_57 : decode cX12_readLane 57 = .ok (.iconst 0, 1) := by decide +kernel
theorem dX12_readLane_58 : decode cX12_readLane 58 = .ok (.bipush 15, 2) := by decide +kernel
theorem dX12_readLane_60 : decode cX12_readLane 60 = .ok (.invokevirtual 183, 3) := by decide +kernel
theorem dX12_readLane_63 : decode cX12_readLane 63 = .ok (.iastore, 1) := by decide +kernel
theorem dX12_readLane_64 : decode cX12_readLane 64 = .ok (.aload_n 0, 1) := by decide +kernel
theorem dX12_readLane_65 : decode cX12_readLane 65 = .ok (.getfield 24, 3) := by decide +kernel
theorem dX12_readLane_68 : decode cX12_readLane 68 = .ok (.bipush 26, 2) := by decide +kernel
theorem dX12_readLane_70 : decode cX12_readLane 70 = .ok (.iload_n 1, 1) := by decide +kernel
theorem dX12_readLane_71 : decode cX12_readLane 71 = .ok (.iadd, 1) := by decide +kernel
theorem dX12_readLane_72 : decode cX12_readLane 72 = .ok (.aload_n 0, 1) := by decide +kernel
theorem dX12_readLane_73 : decode cX12_readLane 73 = .ok (.bipush 6, 2) := by decide +kernel
theorem dX12_readLane_75 : decode cX12_readLane 75 = .ok (.iconst 1, 1) := by decide +kernel
theorem dX12_readLane_76 : decode cX12_readLane 76 = .ok (.bipush 24, 2) := by decide +kernel
theorem dX12_readLane_78 : decode cX12_readLane 78 = .ok (.invokevirtual 183, 3) := by decide +kernel
theorem dX12_readLane_81 : decode cX12_readLane 81 = .ok (.iastore, 1) := by decide +kernel
theorem dX12_readLane_82 : decode cX12_readLane 82 = .ok (.aload_n 0, 1) := by decide +kernel
theorem dX12_readLane_83 : decode cX12_readLane 83 = .ok (.getfield 24, 3) := by decide +kernel
theorem dX12_readLane_86 : decode cX12_readLane 86 = .ok (.bipush 32, 2) := by decide +kernel
theorem dX12_readLane_88 : decode cX12_readLane 88 = .ok (.iload_n 1, 1) := by decide +kernel
theorem dX12_readLane_89 : decode cX12_readLane 89 = .ok (.iadd, 1) := by decide +kernel
theorem dX12_readLane_90 : decode cX12_readLane 90 = .ok (.aload_n 0, 1) := by decide +kernel
theorem dX12_readLane_91 : decode cX12_readLane 91 = .ok (.bipush 7, 2) := by decide +kernel
theorem dX12_readLane_93 : decode cX12_readLane 93 = .ok (.iconst 1, 1) := by decide +kernel
theorem dX12_readLane_94 : decode cX12_readLane 94 = .ok (.bipush 16, 2) := by decide +kernel
theorem dX12_readLane_96 : decode cX12_readLane 96 = .ok (.invokevirtual 183, 3) := by decide +kernel
theorem dX12_readLane_99 : decode cX12_readLane 99 = .ok (.iastore, 1) := by decide +kernel
theorem dX12_readLane_100 : decode cX12_readLane 100 = .ok (.aload_n 0, 1) := by decide +kernel
theorem dX12_readLane_101 : decode cX12_readLane 101 = .ok (.getfield 123, 3) := by decide +kernel
theorem dX12_readLane_104 : decode cX12_readLane 104 = .ok (.ifCond .ne 13, 3) := by decide +kernel
theorem dX12_readLane_107 : decode cX12_readLane 107 = .ok (.aload_n 0, 1) := by decide +kernel
theorem dX12_readLane_108 : decode cX12_readLane 108 = .ok (.getfield 24, 3) := by decide +kernel
theorem dX12_readLane_111 : decode cX12_readLane 111 = .ok (.iconst 3, 1) := by decide +kernel
theorem dX12_readLane_112 : decode cX12_readLane 112 = .ok (.dup2, 1) := by decide +kernel
theorem dX12_readLane_113 : decode cX12_readLane 113 = .ok (.iaload, 1) := by decide +kernel
theorem dX12_readLane_114 : decode cX12_readLane 114 = .ok (.iconst 1, 1) := by decide +kernel
theorem dX12_readLane_115 : decode cX12_readLane 115 = .ok (.iadd, 1) := by decide +kernel
theorem dX12_readLane_116 : decode cX12_readLane 116 = .ok (.iastore, 1) := by decide +kernel
theorem dX12_readLane_117 : decode cX12_readLane 117 = .ok (.return_, 1) := by decide +kernel
theorem wX12_readLane : Mw yX12_readLane cX12_readLane 2 none 0 := ⟨q_1422, q_130, by decide, ⟨by decide +kernel, by decide +kernel⟩, by decide +kernel, by decide +kernel⟩
def jX12_readLane_18 (T : Sh) (M : Me) (x0 : Nat) (x1 : Int32) : Option (Unit × Me) :=
  gd (kd T x0 = 11) <| if (gI M x0 11) = 0 then (Option.bind (fX12_next T M x0) <| un2 fun _u M9 => Option.bind (gR M9 x0 4) fun a10 => Option.bind (fX12_named T M9 x0 (4 : Int32) (0 : Int32) (23 : Int32)) <| un2 fun r11 M12 => gd (kd T a10 = 13) <| gv ((14 : Int32) + x1) (ln T a10) <| lt (pI M12 a10 (Int32.toNatClampNeg ((14 : Int32) + x1)) r11) fun M15 => Option.bind (gR M15 x0 4) fun a16 => Option.bind (fX12_named T M15 x0 (5 : Int32) (0 : Int32) (15 : Int32)) <| un2 fun r17 M18 => gd (kd T a16 = 13) <| gv ((20 : Int32) + x1) (ln T a16) <| lt (pI M18 a16 (Int32.toNatClampNeg ((20 : Int32) + x1)) r17) fun M21 => Option.bind (gR M21 x0 4) fun a22 => Option.bind (fX12_named T M21 x0 (6 : Int32) (1 : Int32) (24 : Int32)) <| un2 fun r23 M24 => gd (kd T a22 = 13) <| gv ((26 : Int32) + x1) (ln T a22) <| lt (pI M24 a22 (Int32.toNatClampNeg ((26 : Int32) + x1)) r23) fun M27 => Option.bind (gR M27 x0 4) fun a28 => Option.bind (fX12_named T M27 x0 (7 : Int32) (1 : Int32) (16 : Int32)) <| un2 fun r29 M30 => gd (kd T a28 = 13) <| gv ((32 : Int32) + x1) (ln T a28) <| lt (pI M30 a28 (Int32.toNatClampNeg ((32 : Int32) + x1)) r29) fun M33 => if (gI M33 x0 11) = 0 then (Option.bind (gR M33 x0 4) fun a35 => gd (kd T a35 = 13) <| gv (3 : Int32) (ln T a35) <| gv (3 : Int32) (ln T a35) <| lt (pI M33 a35 (Int32.toNatClampNeg (3 : Int32)) ((gI M33 a35 (Int32.toNatClampNeg (3 : Int32))) + (1 : Int32))) fun M39 => some ((), M39)) else (some ((), M33))) else (some ((), M))
set_option maxHeartbeats 4000000 in
theorem tjX12_readLane_18 {X : Fx} {B : Bx} {Z : Nat × Nat × Nat × Nat} {d : Nat} {T : Sh} {M : Me} {x0 : Nat} {x1 : Int32} {M' : Me} (C : Cx X B cX12_readLane 2 RX12 d Z) (hR : Rx X none) (hd : 8 ≤ d) (h : jX12_readLane_18 T M x0 x1 = some ((), M')) : G X B 2 Z (Qf X B Z none T M') 18 [(0, .ref (x0)), (1, .int (x1))] [] T M := by
  unfold jX12_readLane_18 at h
  refine g_aload_n (pc := 18) C dX12_readLane_18 rfl 0 rfl ?_
  replace h := gd_some h; obtain ⟨hk7, h⟩ := h
  refine g_get (pc := 19) (v := .int (gI M x0 11)) C dX12_readLane_19 kX12 hk7 11 (by decide) q_1238 rfl ?_
  refine g_if_eq (pc := 22) (tgt := 26) C dX12_readLane_22 (by decide) (fun c8 => ?_) (fun c8 => ?_)
  · replace h := ifp c8 h
    refine g_aload_n (pc := 26) C dX12_readLane_26 rfl 0 rfl ?_
    replace h := bnd2 h; obtain ⟨_u, M9, h1, h⟩ := h
    refine g_callVv (pc := 27) (As := []) (st := []) C dX12_readLane_27 wX12_next hk7 rfl (by decide) q_1371 q_52 q_1369 (by omega) rfl (Nat.le_of_ble_eq_true rfl) (kX12_next (d := 5) (Nat.le_refl _) h1) ?_
    refine g_aload_n (pc := 30) C dX12_readLane_30 rfl 0 rfl ?_
    refine g_get (pc := 31) (v := va_rf (gR M9 x0 4)) C dX12_readLane_31 kX12 hk7 4 (by decide) q_1231 rfl ?_
    replace h := bnd h; obtain ⟨a10, ea10, h⟩ := h
    refine g_refq ea10 ?_
    refine g_bipush (pc := 34) (v := 14) C dX12_readLane_34 (by decide) ?_
    refine g_iload_n (pc := 36) C dX12_readLane_36 rfl 1 rfl ?_
    refine g_iadd (pc := 37) C dX12_readLane_37 ?_
    refine g_aload_n (pc := 38) C dX12_readLane_38 rfl 0 rfl ?_
    refine g_iconst (pc := 39) (v := 4) C dX12_readLane_39 (by decide) ?_
    refine g_iconst (pc := 40) (v := 0) C dX12_readLane_40 (by decide) ?_
    refine g_bipush (pc := 41) (v := 23) C dX12_readLane_41 (by decide) ?_
    replace h := bnd2 h; obtain ⟨r11, M12, h1, h⟩ := h
    refine g_callVi (pc := 43) (As := [.int ((4 : Int32)), .int ((0 : Int32)), .int ((23 : Int32))]) (st := [.int ((14 : Int32) + x1), .ref (a10)]) C dX12_readLane_43 wX12_named hk7 rfl (by decide) q_1405 q_58 q_1403 (by omega) rfl (Nat.le_of_ble_eq_true rfl) (kX12_named (d := 7) (Nat.le_refl _) h1) ?_
    replace h := gd_some h; obtain ⟨hk13, h⟩ := h
    replace h := gv_some h; obtain ⟨hi14, h⟩ := h
    refine g_iast (pc := 46) C dX12_readLane_46 hk13 hi14 ?_
    refine g_mem (fun M15 eM15 => ?_)
    replace h := lt_at eM15 h
    refine g_aload_n (pc := 47) C dX12_readLane_47 rfl 0 rfl ?_
    refine g_get (pc := 48) (v := va_rf (gR M15 x0 4)) C dX12_readLane_48 kX12 hk7 4 (by decide) q_1231 rfl ?_
    replace h := bnd h; obtain ⟨a16, ea16, h⟩ := h
    refine g_refq ea16 ?_
    refine g_bipush (pc := 51) (v := 20) C dX12_readLane_51 (by decide) ?_
    refine g_iload_n (pc := 53) C dX12_readLane_53 rfl 1 rfl ?_
    refine g_iadd (pc := 54) C dX12_readLane_54 ?_
    refine g_aload_n (pc := 55) C dX12_readLane_55 rfl 0 rfl ?_
    refine g_iconst (pc := 56) (v := 5) C dX12_readLane_56 (by decide) ?_
    refine g_iconst (pc := 57) (v := 0) C dX12_readLane_57 (by decide) ?_
    refine g_bipush (pc := 58) (v := 15) C dX12_readLane_58 (by decide) ?_
    replace h := bnd2 h; obtain ⟨r17, M18, h1, h⟩ := h
    refine g_callVi (pc := 60) (As := [.int ((5 : Int32)), .int ((0 : Int32)), .int ((15 : Int32))]) (st := [.int ((20 : Int32) + x1), .ref (a16)]) C dX12_readLane_60 wX12_named hk7 rfl (by decide) q_1405 q_58 q_1403 (by omega) rfl (Nat.le_of_ble_eq_true rfl) (kX12_named (d := 7) (Nat.le_refl _) h1) ?_
    replace h := gd_some h; obtain ⟨hk19, h⟩ := h
    replace h := gv_some h; obtain ⟨hi20, h⟩ := h
    refine g_iast (pc := 63) C dX12_readLane_63 hk19 hi20 ?_
    refine g_mem (fun M21 eM21 => ?_)
    replace h := lt_at eM21 h
    refine g_aload_n (pc := 64) C dX12_readLane_64 rfl 0 rfl ?_
    refine g_get (pc := 65) (v := va_rf (gR M21 x0 4)) C dX12_readLane_65 kX12 hk7 4 (by decide) q_1231 rfl ?_
    replace h := bnd h; obtain ⟨a22, ea22, h⟩ := h
    refine g_refq ea22 ?_
    refine g_bipush (pc := 68) (v := 26) C dX12_readLane_68 (by decide) ?_
    refine g_iload_n (pc := 70) C dX12_readLane_70 rfl 1 rfl ?_
    refine g_iadd (pc := 71) C dX12_readLane_71 ?_
    refine g_aload_n (pc := 72) C dX12_readLane_72 rfl 0 rfl ?_
    refine g_bipush (pc := 73) (v := 6) C dX12_readLane_73 (by decide) ?_
    refine g_iconst (pc := 75) (v := 1) C dX12_readLane_75 (by decide) ?_
    refine g_bipush (pc := 76) (v := 24) C dX12_readLane_76 (by decide) ?_
    replace h := bnd2 h; obtain ⟨r23, M24, h1, h⟩ := h
    refine g_callVi (pc := 78) (As := [.int ((6 : Int32)), .int ((1 : Int32)), .int ((24 : Int32))]) (st := [.int ((26 : Int32) + x1), .ref (a22)]) C dX12_readLane_78 wX12_named hk7 rfl (by decide) q_1405 q_58 q_1403 (by omega) rfl (Nat.le_of_ble_eq_true rfl) (kX12_named (d := 7) (Nat.le_refl _) h1) ?_
    replace h := gd_some h; obtain ⟨hk25, h⟩ := h
    replace h := gv_some h; obtain ⟨hi26, h⟩ := h
    refine g_iast (pc := 81) C dX12_readLane_81 hk25 hi26 ?_
    refine g_mem (fun M27 eM27 => ?_)
    replace h := lt_at eM27 h
    refine g_aload_n (pc := 82) C dX12_readLane_82 rfl 0 rfl ?_
    refine g_get (pc := 83) (v := va_rf (gR M27 x0 4)) C dX12_readLane_83 kX12 hk7 4 (by decide) q_1231 rfl ?_
    replace h := bnd h; obtain ⟨a28, ea28, h⟩ := h
    refine g_refq ea28 ?_
    refine g_bipush (pc := 86) (v := 32) C dX12_readLane_86 (by decide) ?_
    refine g_iload_n (pc := 88) C dX12_readLane_88 rfl 1 rfl ?_
    refine g_iadd (pc := 89) C dX12_readLane_89 ?_
    refine g_aload_n (pc := 90) C dX12_readLane_90 rfl 0 rfl ?_
    refine g_bipush (pc := 91) (v := 7) C dX12_readLane_91 (by decide) ?_
    refine g_iconst (pc := 93) (v := 1) C dX12_readLane_93 (by decide) ?_
    refine g_bipush (pc := 94) (v := 16) C dX12_readLane_94 (by decide) ?_
    replace h := bnd2 h; obtain ⟨r29, M30, h1, h⟩ := h
    refine g_callVi (pc := 96) (As := [.int ((7 : Int32)), .int ((1 : Int32)), .int ((16 : Int32))]) (st := [.int ((32 : Int32) + x1), .ref (a28)]) C dX12_readLane_96 wX12_named hk7 rfl (by decide) q_1405 q_58 q_1403 (by omega) rfl (Nat.le_of_ble_eq_true rfl) (kX12_named (d := 7) (Nat.le_refl _) h1) ?_
    replace h := gd_some h; obtain ⟨hk31, h⟩ := h
    replace h := gv_some h; obtain ⟨hi32, h⟩ := h
    refine g_iast (pc := 99) C dX12_readLane_99 hk31 hi32 ?_
    refine g_mem (fun M33 eM33 => ?_)
    replace h := lt_at eM33 h
    refine g_aload_n (pc := 100) C dX12_readLane_100 rfl 0 rfl ?_
    refine g_get (pc := 101) (v := .int (gI M33 x0 11)) C dX12_readLane_101 kX12 hk7 11 (by decide) q_1238 rfl ?_
    refine g_if_ne (pc := 104) (tgt := 117) C dX12_readLane_104 (by decide) (fun c34 => ?_) (fun c34 => ?_)
    · replace h := ifn c34 h
      obtain ⟨-, rfl⟩ := Prod.mk.inj (Option.some.inj h)
      exact g_vret C hR dX12_readLane_117
    · replace h := ifp c34 h
      refine g_aload_n (pc := 107) C dX12_readLane_107 rfl 0 rfl ?_
      refine g_get (pc := 108) (v := va_rf (gR M33 x0 4)) C dX12_readLane_108 kX12 hk7 4 (by decide) q_1231 rfl ?_
      replace h := bnd h; obtain ⟨a35, ea35, h⟩ := h
      refine g_refq ea35 ?_
      refine g_iconst (pc := 111) (v := 3) C dX12_readLane_111 (by decide) ?_
      refine g_dup2 (pc := 112) C dX12_readLane_112 rfl rfl ?_
      replace h := gd_some h; obtain ⟨hk36, h⟩ := h
      replace h := gv_some h; obtain ⟨hi37, h⟩ := h
      refine g_iald (pc := 113) C dX12_readLane_113 hk36 hi37 ?_
      refine g_iconst (pc := 114) (v := 1) C dX12_readLane_114 (by decide) ?_
      refine g_iadd (pc := 115) C dX12_readLane_115 ?_
      replace h := gv_some h; obtain ⟨hi38, h⟩ := h
      refine g_iast (pc := 116) C dX12_readLane_116 hk36 hi38 ?_
      refine g_mem (fun M39 eM39 => ?_)
      replace h := lt_at eM39 h
      obtain ⟨-, rfl⟩ := Prod.mk.inj (Option.some.inj h)
      exact g_vret C hR dX12_readLane_117
  · replace h := ifn c8 h
    obtain ⟨-, rfl⟩ := Prod.mk.inj (Option.some.inj h)
    exact g_vret C hR dX12_readLane_25
/-- EyeTrainerModel.readLane()V -/
def fX12_readLane (T : Sh) (M : Me) (x0 : Nat) : Option (Unit × Me) :=
  gd (kd T x0 = 11) <| Option.bind (gR M x0 4) fun a2 => gd (kd T a2 = 13) <| gv (3 : Int32) (ln T a2) <| lt (gI M a2 (Int32.toNatClampNeg (3 : Int32))) fun v5 => if v5 = (6 : Int32) then (Option.bind (fX12_fails T M x0 (4 : Int32)) <| un2 fun _u M40 => jX12_readLane_18 T M40 x0 v5) else (jX12_readLane_18 T M x0 v5)
set_option maxHeartbeats 4000000 in
theorem kX12_readLane {l : Launch} {B : Bx} {d : Nat} (hd : 8 ≤ d) {T : Sh} {M : Me} {x0 : Nat} {M' : Me} (h : fX12_readLane T M x0 = some ((), M')) : Kt l B yX12_readLane cX12_readLane 2 none d [.ref (x0)] T M none T M' := by
  refine kt_of wX12_readLane (Nat.le_refl _) (Nat.le_refl _) (Nat.le_of_ble_eq_true rfl) (fun X C hR hlx hin => ?_)
  subst hlx
  replace C : Cx X B cX12_readLane 2 RX12 d (tp T, sl T, tp T, sl T) := C
  unfold fX12_readLane at h
  show G X B 2 _ _ 0 [(0, .ref (x0))] [] T M
  refine g_aload_n (pc := 0) C dX12_readLane_0 rfl 0 rfl ?_
  replace h := gd_some h; obtain ⟨hk1, h⟩ := h
  refine g_get (pc := 1) (v := va_rf (gR M x0 4)) C dX12_readLane_1 kX12 hk1 4 (by decide) q_1231 rfl ?_
  replace h := bnd h; obtain ⟨a2, ea2, h⟩ := h
  refine g_refq ea2 ?_
  refine g_iconst (pc := 4) (v := 3) C dX12_readLane_4 (by decide) ?_
  replace h := gd_some h; obtain ⟨hk3, h⟩ := h
  replace h := gv_some h; obtain ⟨hi4, h⟩ := h
  refine g_iald (pc := 5) C dX12_readLane_5 hk3 hi4 ?_
  refine g_topi (fun v5 ev5 => ?_)
  replace h := lt_at ev5 h
  refine g_istore_n (pc := 6) (lo2 := [(1, .int (v5)), (0, .ref (x0))]) C dX12_readLane_6 rfl (by decide) rfl ?_
  refine g_iload_n (pc := 7) C dX12_readLane_7 rfl 0 rfl ?_
  refine g_bipush (pc := 8) (v := 6) C dX12_readLane_8 (by decide) ?_
  refine g_icmp_ne (pc := 10) (tgt := 18) C dX12_readLane_10 (by decide) (fun c6 => ?_) (fun c6 => ?_)
  · replace h := ifn c6 h
    exact g_sub [1, 0] rfl (tjX12_readLane_18 C hR hd h)
  · replace h := ifp c6 h
    refine g_aload_n (pc := 13) C dX12_readLane_13 rfl 1 rfl ?_
    refine g_iconst (pc := 14) (v := 4) C dX12_readLane_14 (by decide) ?_
    replace h := bnd2 h; obtain ⟨_u, M40, h1, h⟩ := h
    refine g_callVv (pc := 15) (As := [.int ((4 : Int32))]) (st := []) C dX12_readLane_15 wX12_fails hk1 rfl (by decide) q_1401 q_57 q_1399 (by omega) rfl (Nat.le_of_ble_eq_true rfl) (kX12_fails (d := 0) (Nat.le_refl _) h1) ?_
    exact g_sub [1, 0] rfl (tjX12_readLane_18 C hR hd h)
theorem dX12_readPattern_0 : decode cX12_readPattern 0 = .ok (.aload_n 0, 1) := by decide +kernel
theorem dX12_readPattern_1 : decode cX12_readPattern 1 = .ok (.getfield 24, 3) := by decide +kernel
theorem dX12_readPattern_4 : decode cX12_readPattern 4 = .ok (.iconst 4, 1) := by decide +kernel
theorem dX12_readPattern_5 : decode cX12_readPattern 5 = .ok (.iaload, 1) := by decide +kernel
theorem dX12_readPattern_6 : decode cX12_readPattern 6 = .ok (.istore_n 1, 1) := by decide +kernel
theorem dX12_readPattern_7 : decode cX12_readPattern 7 = .ok (.iload_n 1, 1) := by decide +kernel
theorem dX12_readPattern_8 : decode cX12_readPattern 8 = .ok (.iconst 4, 1) := by decide +kernel
theorem dX12_readPattern_9 : decode cX12_readPattern 9 = .ok (.if_icmp .ne 8, 3) := by decide +kernel
theorem dX12_readPattern_12 : decode cX12_readPattern 12 = .ok (.aload_n 0, 1) := by decide +kernel
theorem dX12_readPattern_13 : decode cX12_readPattern 13 = .ok (.iconst 4, 1) := by decide +kernel
theorem dX12_readPattern_14 : decode cX12_readPattern 14 = .ok (.invokevirtual 135, 3) := by decide +kernel
theorem dX12_readPattern_17 : decode cX12_readPattern 17 = .ok (.aload_n 0, 1) := by decide +kernel
theorem dX12_readPattern_18 : decode cX12_readPattern 18 = .ok (.getfield 123, 3) := by decide +kernel
theorem dX12_readPattern_21 : decode cX12_readPattern 21 = .ok (.ifCond .eq 4, 3) := by decide +kernel
theorem dX12_readPattern_24 : decode cX12_readPattern 24 = .ok (.return_, 1) := by decide +kernel
theorem dX12_readPattern_25 : decode cX12_readPattern 25 = .ok (.aload_n 0, 1) := by decide +kernel
theorem dX12_readPattern_26 : decode cX12_readPattern 26 = .ok (.invokevirtual 132, 3) := by decide +kernel
theorem dX12_readPattern_29 : decode cX12_readPattern 29 = .ok (.aload_n 0, 1) := by decide +kernel
theorem dX12_readPattern_30 : decode cX12_readPattern 30 = .ok (.getfield 24, 3) := by decide +kernel
theorem dX12_readPattern_33 : decode cX12_readPattern 33 = .ok (.bipush 38, 2) := by decide +kernel
theorem dX12_readPattern_35 : decode cX12_readPattern 35 = .ok (.iload_n 1, 1) := by decide +kernel
theorem dX12_readPattern_36 : decode cX12_readPattern 36 = .ok (.iadd, 1) := by decide +kernel
theorem dX12_readPattern_37 : decode cX12_readPattern 37 = .ok (.aload_n 0, 1) := by decide +kernel
theorem dX12_readPattern_38 : decode cX12_readPattern 38 = .ok (.iconst 0, 1) := by decide +kernel
theorem dX12_readPattern_39 : decode cX12_readPattern 39 = .ok (.bipush 9, 2) := by decide +kernel
theorem dX12_readPattern_41 : decode cX12_readPattern 41 = .ok (.invokevirtual 179, 3) := by decide +kernel
theorem dX12_readPattern_44 : decode cX12_readPattern 44 = .ok (.iastore, 1) := by decide +kernel
theorem dX12_readPattern_45 : decode cX12_readPattern 45 = .ok (.aload_n 0, 1) := by decide +kernel
theorem dX12_readPattern_46 : decode cX12_readPattern 46 = .ok (.getfield 123, 3) := by decide +kernel
theorem dX12_readPattern_49 : decode cX12_readPattern 49 = .ok (.ifCond .ne 13, 3) := by decide +kernel
theorem dX12_readPattern_52 : decode cX12_readPattern 52 = .ok (.aload_n 0, 1) := by decide +kernel
theorem dX12_readPattern_53 : decode cX12_readPattern 53 = .ok (.getfield 24, 3) := by decide +kernel
theorem dX12_readPattern_56 : decode cX12_readPattern 56 = .ok (.iconst 4, 1) := by decide +kernel
theorem dX12_readPattern_57 : decode cX12_readPattern 57 = .ok (.dup2, 1) := by decide +kernel
theorem dX12_readPattern_58 : decode cX12_readPattern 58 = .ok (.iaload, 1) := by decide +kernel
theorem dX12_readPattern_59 : decode cX12_readPattern 59 = .ok (.iconst 1, 1) := by decide +kernel
theorem dX12_readPattern_60 : decode cX12_readPattern 60 = .ok (.iadd, 1) := by decide +kernel
theorem dX12_readPattern_61 : decode cX12_readPattern 61 = .ok (.iastore, 1) := by decide +kernel
theorem dX12_readPattern_62 : decode cX12_readPattern 62 = .ok (.return_, 1) := by decide +kernel
theorem wX12_readPattern : Mw yX12_readPattern cX12_readPattern 2 none 0 := ⟨q_1426, q_130, by decide, ⟨by decide +kernel, by decide +kernel⟩, by decide +kernel, by decide +kernel⟩
def jX12_readPattern_17 (T : Sh) (M : Me) (x0 : Nat) (x1 : Int32) : Option (Unit × Me) :=
  gd (kd T x0 = 11) <| if (gI M x0 11) = 0 then (Option.bind (fX12_next T M x0) <| un2 fun _u M9 => Option.bind (gR M9 x0 4) fun a10 => Option.bind (fX12_takes T M9 x0 (0 : Int32) (9 : Int32)) <| un2 fun r11 M12 => gd (kd T a10 = 13) <| gv ((38 : Int32) + x1) (ln T a10) <| lt (pI M12 a10 (Int32.toNatClampNeg ((38 : Int32) + x1)) r11) fun M15 => if (gI M15 x0 11) = 0 then (Option.bind (gR M15 x0 4) fun a17 => gd (kd T a17 = 13) <| gv (4 : Int32) (ln T a17) <| gv (4 : Int32) (ln T a17) <| lt (pI M15 a17 (Int32.toNatClampNeg (4 : Int32)) ((gI M15 a17 (Int32.toNatClampNeg (4 : Int32))) + (1 : Int32))) fun M21 => some ((), M21)) else (some ((), M15))) else (some ((), M))
set_option maxHeartbeats 4000000 in
theorem tjX12_readPattern_17 {X : Fx} {B : Bx} {Z : Nat × Nat × Nat × Nat} {d : Nat} {T : Sh} {M : Me} {x0 : Nat} {x1 : Int32} {M' : Me} (C : Cx X B cX12_readPattern 2 RX12 d Z) (hR : Rx X none) (hd : 7 ≤ d) (h : jX12_readPattern_17 T M x0 x1 = some ((), M')) : G X B 2 Z (Qf X B Z none T M') 17 [(0, .ref (x0)), (1, .int (x1))] [] T M := by
  unfold jX12_readPattern_17 at h
  refine g_aload_n (pc := 17) C dX12_readPattern_17 rfl 0 rfl ?_
  replace h := gd_some h; obtain ⟨hk7, h⟩ := h
  refine g_get (pc := 18) (v := .int (gI M x0 11)) C dX12_readPattern_18 kX12 hk7 11 (by decide) q_1238 rfl ?_
  refine g_if_eq (pc := 21) (tgt := 25) C dX12_readPattern_21 (by decide) (fun c8 => ?_) (fun c8 => ?_)
  · replace h := ifp c8 h
    refine g_aload_n (pc := 25) C dX12_readPattern_25 rfl 0 rfl ?_
    replace h := bnd2 h; obtain ⟨_u, M9, h1, h⟩ := h
    refine g_callVv (pc := 26) (As := []) (st := []) C dX12_readPattern_26 wX12_next hk7 rfl (by decide) q_1371 q_52 q_1369 (by omega) rfl (Nat.le_of_ble_eq_true rfl) (kX12_next (d := 5) (Nat.le_refl _) h1) ?_
    refine g_aload_n (pc := 29) C dX12_readPattern_29 rfl 0 rfl ?_
    refine g_get (pc := 30) (v := va_rf (gR M9 x0 4)) C dX12_readPattern_30 kX12 hk7 4 (by decide) q_1231 rfl ?_
    replace h := bnd h; obtain ⟨a10, ea10, h⟩ := h
    refine g_refq ea10 ?_
    refine g_bipush (pc := 33) (v := 38) C dX12_readPattern_33 (by decide) ?_
    refine g_iload_n (pc := 35) C dX12_readPattern_35 rfl 1 rfl ?_
    refine g_iadd (pc := 36) C dX12_readPattern_36 ?_
    refine g_aload_n (pc := 37) C dX12_readPattern_37 rfl 0 rfl ?_
    refine g_iconst (pc := 38) (v := 0) C dX12_readPattern_38 (by decide) ?_
    refine g_bipush (pc := 39) (v := 9) C dX12_readPattern_39 (by decide) ?_
    replace h := bnd2 h; obtain ⟨r11, M12, h1, h⟩ := h
    refine g_callVi (pc := 41) (As := [.int ((0 : Int32)), .int ((9 : Int32))]) (st := [.int ((38 : Int32) + x1), .ref (a10)]) C dX12_readPattern_41 wX12_takes hk7 rfl (by decide) q_1409 q_59 q_1407 (by omega) rfl (Nat.le_of_ble_eq_true rfl) (kX12_takes (d := 6) (Nat.le_refl _) h1) ?_
    replace h := gd_some h; obtain ⟨hk13, h⟩ := h
    replace h := gv_some h; obtain ⟨hi14, h⟩ := h
    refine g_iast (pc := 44) C dX12_readPattern_44 hk13 hi14 ?_
    refine g_mem (fun M15 eM15 => ?_)
    replace h := lt_at eM15 h
    refine g_aload_n (pc := 45) C dX12_readPattern_45 rfl 0 rfl ?_
    refine g_get (pc := 46) (v := .int (gI M15 x0 11)) C dX12_readPattern_46 kX12 hk7 11 (by decide) q_1238 rfl ?_
    refine g_if_ne (pc := 49) (tgt := 62) C dX12_readPattern_49 (by decide) (fun c16 => ?_) (fun c16 => ?_)
    · replace h := ifn c16 h
      obtain ⟨-, rfl⟩ := Prod.mk.inj (Option.some.inj h)
      exact g_vret C hR dX12_readPattern_62
    · replace h := ifp c16 h
      refine g_aload_n (pc := 52) C dX12_readPattern_52 rfl 0 rfl ?_
      refine g_get (pc := 53) (v := va_rf (gR M15 x0 4)) C dX12_readPattern_53 kX12 hk7 4 (by decide) q_1231 rfl ?_
      replace h := bnd h; obtain ⟨a17, ea17, h⟩ := h
      refine g_refq ea17 ?_
      refine g_iconst (pc := 56) (v := 4) C dX12_readPattern_56 (by decide) ?_
      refine g_dup2 (pc := 57) C dX12_readPattern_57 rfl rfl ?_
      replace h := gd_some h; obtain ⟨hk18, h⟩ := h
      replace h := gv_some h; obtain ⟨hi19, h⟩ := h
      refine g_iald (pc := 58) C dX12_readPattern_58 hk18 hi19 ?_
      refine g_iconst (pc := 59) (v := 1) C dX12_readPattern_59 (by decide) ?_
      refine g_iadd (pc := 60) C dX12_readPattern_60 ?_
      replace h := gv_some h; obtain ⟨hi20, h⟩ := h
      refine g_iast (pc := 61) C dX12_readPattern_61 hk18 hi20 ?_
      refine g_mem (fun M21 eM21 => ?_)
      replace h := lt_at eM21 h
      obtain ⟨-, rfl⟩ := Prod.mk.inj (Option.some.inj h)
      exact g_vret C hR dX12_readPattern_62
  · replace h := ifn c8 h
    obtain ⟨-, rfl⟩ := Prod.mk.inj (Option.some.inj h)
    exact g_vret C hR dX12_readPattern_24
/-- EyeTrainerModel.readPattern()V -/
def fX12_readPattern (T : Sh) (M : Me) (x0 : Nat) : Option (Unit × Me) :=
  gd (kd T x0 = 11) <| Option.bind (gR M x0 4) fun a2 => gd (kd T a2 = 13) <| gv (4 : Int32) (ln T a2) <| lt (gI M a2 (Int32.toNatClampNeg (4 : Int32))) fun v5 => if v5 = (4 : Int32) then (Option.bind (fX12_fails T M x0 (4 : Int32)) <| un2 fun _u M22 => jX12_readPattern_17 T M22 x0 v5) else (jX12_readPattern_17 T M x0 v5)
set_option maxHeartbeats 4000000 in
theorem kX12_readPattern {l : Launch} {B : Bx} {d : Nat} (hd : 7 ≤ d) {T : Sh} {M : Me} {x0 : Nat} {M' : Me} (h : fX12_readPattern T M x0 = some ((), M')) : Kt l B yX12_readPattern cX12_readPattern 2 none d [.ref (x0)] T M none T M' := by
  refine kt_of wX12_readPattern (Nat.le_refl _) (Nat.le_refl _) (Nat.le_of_ble_eq_true rfl) (fun X C hR hlx hin => ?_)
  subst hlx
  replace C : Cx X B cX12_readPattern 2 RX12 d (tp T, sl T, tp T, sl T) := C
  unfold fX12_readPattern at h
  show G X B 2 _ _ 0 [(0, .ref (x0))] [] T M
  refine g_aload_n (pc := 0) C dX12_readPattern_0 rfl 0 rfl ?_
  replace h := gd_some h; obtain ⟨hk1, h⟩ := h
  refine g_get (pc := 1) (v := va_rf (gR M x0 4)) C dX12_readPattern_1 kX12 hk1 4 (by decide) q_1231 rfl ?_
  replace h := bnd h; obtain ⟨a2, ea2, h⟩ := h
  refine g_refq ea2 ?_
  refine g_iconst (pc := 4) (v := 4) C dX12_readPattern_4 (by decide) ?_
  replace h := gd_some h; obtain ⟨hk3, h⟩ := h
  replace h := gv_some h; obtain ⟨hi4, h⟩ := h
  refine g_iald (pc := 5) C dX12_readPattern_5 hk3 hi4 ?_
  refine g_topi (fun v5 ev5 => ?_)
  replace h := lt_at ev5 h
  refine g_istore_n (pc := 6) (lo2 := [(1, .int (v5)), (0, .ref (x0))]) C dX12_readPattern_6 rfl (by decide) rfl ?_
  refine g_iload_n (pc := 7) C dX12_readPattern_7 rfl 0 rfl ?_
  refine g_iconst (pc := 8) (v := 4) C dX12_readPattern_8 (by decide) ?_
  refine g_icmp_ne (pc := 9) (tgt := 17) C dX12_readPattern_9 (by decide) (fun c6 => ?_) (fun c6 => ?_)
  · replace h := ifn c6 h
    exact g_sub [1, 0] rfl (tjX12_readPattern_17 C hR hd h)
  · replace h := ifp c6 h
    refine g_aload_n (pc := 12) C dX12_readPattern_12 rfl 1 rfl ?_
    refine g_iconst (pc := 13) (v := 4) C dX12_readPattern_13 (by decide) ?_
    replace h := bnd2 h; obtain ⟨_u, M22, h1, h⟩ := h
    refine g_callVv (pc := 14) (As := [.int ((4 : Int32))]) (st := []) C dX12_readPattern_14 wX12_fails hk1 rfl (by decide) q_1401 q_57 q_1399 (by omega) rfl (Nat.le_of_ble_eq_true rfl) (kX12_fails (d := 0) (Nat.le_refl _) h1) ?_
    exact g_sub [1, 0] rfl (tjX12_readPattern_17 C hR hd h)
theorem dX12_closes_0 : decode cX12_closes 0 = .ok (.aload_n 0, 1) := by decide +kernel
theorem dX12_closes_1 : decode cX12_closes 1 = .ok (.bipush 30, 2) := by decide +kernel
theorem dX12_closes_3 : decode cX12_closes 3 = .ok (.invokevirtual 158, 3) := by decide +kernel
theorem dX12_closes_6 : decode cX12_closes 6 = .ok (.ifCond .ne 8, 3) := by decide +kernel
theorem dX12_closes_9 : decode cX12_closes 9 = .ok (.aload_n 0, 1) := by decide +kernel
theorem dX12_closes_10 : decode cX12_closes 10 = .ok (.iconst 2, 1) := by decide +kernel
theorem dX12_closes_11 : decode cX12_closes 11 = .ok (.invokevirtual 135, 3) := by decide +kernel
theorem dX12_closes_14 : decode cX12_closes 14 = .ok (.aload_n 0, 1) := by decide +kernel
theorem dX12_closes_15 : decode cX12_closes 15 = .ok (.getfield 24, 3) := by decide +kernel
theorem dX12_closes_18 : decode cX12_closes 18 = .ok (.iconst 0, 1) := by decide +kernel
theorem dX12_closes_19 : decode cX12_closes 19 = .ok (.dup2, 1) := by decide +kernel
theorem dX12_closes_20 : decode cX12_closes 20 = .ok (.iaload, 1) := by decide +kernel
theorem dX12_closes_21 : decode cX12_closes 21 = .ok (.iconst 1, 1) := by decide +kernel
theorem dX12_closes_22 : decode cX12_closes 22 = .ok (.iadd, 1) := by decide +kernel
theorem dX12_closes_23 : decode cX12_closes 23 = .ok (.iastore, 1) := by decide +kernel
theorem dX12_closes_24 : decode cX12_closes 24 = .ok (.return_, 1) := by decide +kernel
theorem wX12_closes : Mw yX12_closes cX12_closes 1 none 0 := ⟨q_1414, q_130, by decide, ⟨by decide +kernel, by decide +kernel⟩, by decide +kernel, by decide +kernel⟩
/-- EyeTrainerModel.closes()V -/
def fX12_closes (T : Sh) (M : Me) (x0 : Nat) : Option (Unit × Me) :=
  gd (kd T x0 = 11) <| Option.bind (fX12_eats T M x0 (30 : Int32)) <| un2 fun r2 M3 => if r2 = 0 then (Option.bind (fX12_fails T M3 x0 (2 : Int32)) <| un2 fun _u M10 => Option.bind (gR M10 x0 4) fun a11 => gd (kd T a11 = 13) <| gv (0 : Int32) (ln T a11) <| gv (0 : Int32) (ln T a11) <| lt (pI M10 a11 (Int32.toNatClampNeg (0 : Int32)) ((gI M10 a11 (Int32.toNatClampNeg (0 : Int32))) + (1 : Int32))) fun M15 => some ((), M15)) else (Option.bind (gR M3 x0 4) fun a5 => gd (kd T a5 = 13) <| gv (0 : Int32) (ln T a5) <| gv (0 : Int32) (ln T a5) <| lt (pI M3 a5 (Int32.toNatClampNeg (0 : Int32)) ((gI M3 a5 (Int32.toNatClampNeg (0 : Int32))) + (1 : Int32))) fun M9 => some ((), M9))
set_option maxHeartbeats 4000000 in
theorem kX12_closes {l : Launch} {B : Bx} {d : Nat} (hd : 7 ≤ d) {T : Sh} {M : Me} {x0 : Nat} {M' : Me} (h : fX12_closes T M x0 = some ((), M')) : Kt l B yX12_closes cX12_closes 1 none d [.ref (x0)] T M none T M' := by
  refine kt_of wX12_closes (Nat.le_refl _) (Nat.le_refl _) (Nat.le_of_ble_eq_true rfl) (fun X C hR hlx hin => ?_)
  subst hlx
  replace C : Cx X B cX12_closes 1 RX12 d (tp T, sl T, tp T, sl T) := C
  unfold fX12_closes at h
  show G X B 1 _ _ 0 [(0, .ref (x0))] [] T M
  refine g_aload_n (pc := 0) C dX12_closes_0 rfl 0 rfl ?_
  refine g_bipush (pc := 1) (v := 30) C dX12_closes_1 (by decide) ?_
  replace h := gd_some h; obtain ⟨hk1, h⟩ := h
  replace h := bnd2 h; obtain ⟨r2, M3, h1, h⟩ := h
  refine g_callVi (pc := 3) (As := [.int ((30 : Int32))]) (st := []) C dX12_closes_3 wX12_eats hk1 rfl (by decide) q_1393 q_55 q_1391 (by omega) rfl (Nat.le_of_ble_eq_true rfl) (kX12_eats (d := 6) (Nat.le_refl _) h1) ?_
  refine g_if_ne (pc := 6) (tgt := 14) C dX12_closes_6 (by decide) (fun c4 => ?_) (fun c4 => ?_)
  · replace h := ifn c4 h
    refine g_aload_n (pc := 14) C dX12_closes_14 rfl 0 rfl ?_
    refine g_get (pc := 15) (v := va_rf (gR M3 x0 4)) C dX12_closes_15 kX12 hk1 4 (by decide) q_1231 rfl ?_
    replace h := bnd h; obtain ⟨a5, ea5, h⟩ := h
    refine g_refq ea5 ?_
    refine g_iconst (pc := 18) (v := 0) C dX12_closes_18 (by decide) ?_
    refine g_dup2 (pc := 19) C dX12_closes_19 rfl rfl ?_
    replace h := gd_some h; obtain ⟨hk6, h⟩ := h
    replace h := gv_some h; obtain ⟨hi7, h⟩ := h
    refine g_iald (pc := 20) C dX12_closes_20 hk6 hi7 ?_
    refine g_iconst (pc := 21) (v := 1) C dX12_closes_21 (by decide) ?_
    refine g_iadd (pc := 22) C dX12_closes_22 ?_
    replace h := gv_some h; obtain ⟨hi8, h⟩ := h
    refine g_iast (pc := 23) C dX12_closes_23 hk6 hi8 ?_
    refine g_mem (fun M9 eM9 => ?_)
    replace h := lt_at eM9 h
    obtain ⟨-, rfl⟩ := Prod.mk.inj (Option.some.inj h)
    exact g_vret C hR dX12_closes_24
  · replace h := ifp c4 h
    refine g_aload_n (pc := 9) C dX12_closes_9 rfl 0 rfl ?_
    refine g_iconst (pc := 10) (v := 2) C dX12_closes_10 (by decide) ?_
    replace h := bnd2 h; obtain ⟨_u, M10, h1, h⟩ := h
    refine g_callVv (pc := 11) (As := [.int ((2 : Int32))]) (st := []) C dX12_closes_11 wX12_fails hk1 rfl (by decide) q_1401 q_57 q_1399 (by omega) rfl (Nat.le_of_ble_eq_true rfl) (kX12_fails (d := 0) (Nat.le_refl _) h1) ?_
    refine g_aload_n (pc := 14) C dX12_closes_14 rfl 0 rfl ?_
    refine g_get (pc := 15) (v := va_rf (gR M10 x0 4)) C dX12_closes_15 kX12 hk1 4 (by decide) q_1231 rfl ?_
    replace h := bnd h; obtain ⟨a11, ea11, h⟩ := h
    refine g_refq ea11 ?_
    refine g_iconst (pc := 18) (v := 0) C dX12_closes_18 (by decide) ?_
    refine g_dup2 (pc := 19) C dX12_closes_19 rfl rfl ?_
    replace h := gd_some h; obtain ⟨hk12, h⟩ := h
    replace h := gv_some h; obtain ⟨hi13, h⟩ := h
    refine g_iald (pc := 20) C dX12_closes_20 hk12 hi13 ?_
    refine g_iconst (pc := 21) (v := 1) C dX12_closes_21 (by decide) ?_
    refine g_iadd (pc := 22) C dX12_closes_22 ?_
    replace h := gv_some h; obtain ⟨hi14, h⟩ := h
    refine g_iast (pc := 23) C dX12_closes_23 hk12 hi14 ?_
    refine g_mem (fun M15 eM15 => ?_)
    replace h := lt_at eM15 h
    obtain ⟨-, rfl⟩ := Prod.mk.inj (Option.some.inj h)
    exact g_vret C hR dX12_closes_24
