set_option maxRecDepth 20000 in
theorem q_116 : Cond.selects RX12 yX12_noSeen yX12_noSeen ∈ lw_gd := mem_gd (List.mem_of_getElem? (i := 116) (by decide +kernel)) rfl
set_option maxRecDepth 20000 in
theorem q_117 : Cond.selects RX12 yX12_driftsOf yX12_driftsOf ∈ lw_gd := mem_gd (List.mem_of_getElem? (i := 117) (by decide +kernel)) rfl
set_option maxRecDepth 20000 in
theorem q_1229 : Cond.fieldLink RX12 17 "EyeTrainerModel" "hasImage" "[Z" ∈ lw_gd := mem_gd (List.mem_of_getElem? (i := 1229) (by decide +kernel)) rfl
set_option maxRecDepth 20000 in
theorem q_1265 : Cond.fieldLink RX12 58 "EyeTrainerModel" "likely" "[J" ∈ lw_gd := mem_gd (List.mem_of_getElem? (i := 1265) (by decide +kernel)) rfl
set_option maxRecDepth 20000 in
theorem q_1266 : Cond.fieldLink RX12 61 "EyeTrainerModel" "likelyThen" "[J" ∈ lw_gd := mem_gd (List.mem_of_getElem? (i := 1266) (by decide +kernel)) rfl
set_option maxRecDepth 20000 in
theorem q_1820 : Cond.code yX12_drifts cX12_drifts 4 (some .int) ∈ lw_gd := mem_gd (List.mem_of_getElem? (i := 1820) (by decide +kernel)) rfl
set_option maxRecDepth 20000 in
theorem q_1821 : Cond.methodLink RX12 448 yX12_noSeen ∈ lw_gd := mem_gd (List.mem_of_getElem? (i := 1821) (by decide +kernel)) rfl
set_option maxRecDepth 20000 in
theorem q_1823 : Cond.instanceMethod yX12_noSeen ∈ lw_gd := mem_gd (List.mem_of_getElem? (i := 1823) (by decide +kernel)) rfl
set_option maxRecDepth 20000 in
theorem q_1824 : Cond.code yX12_noSeen cX12_noSeen 5 (some .int) ∈ lw_gd := mem_gd (List.mem_of_getElem? (i := 1824) (by decide +kernel)) rfl
set_option maxRecDepth 20000 in
theorem q_1825 : Cond.constantLong RX12 444 (8) ∈ lw_gd := mem_gd (List.mem_of_getElem? (i := 1825) (by decide +kernel)) rfl
set_option maxRecDepth 20000 in
theorem q_1826 : Cond.constantLong RX12 446 (767) ∈ lw_gd := mem_gd (List.mem_of_getElem? (i := 1826) (by decide +kernel)) rfl
set_option maxRecDepth 20000 in
theorem q_1827 : Cond.methodLink RX12 451 yX12_driftsOf ∈ lw_gd := mem_gd (List.mem_of_getElem? (i := 1827) (by decide +kernel)) rfl
set_option maxRecDepth 20000 in
theorem q_1829 : Cond.instanceMethod yX12_driftsOf ∈ lw_gd := mem_gd (List.mem_of_getElem? (i := 1829) (by decide +kernel)) rfl
set_option maxRecDepth 20000 in
theorem q_1830 : Cond.code yX12_driftsOf cX12_driftsOf 8 (some .int) ∈ lw_gd := mem_gd (List.mem_of_getElem? (i := 1830) (by decide +kernel)) rfl
set_option maxRecDepth 20000 in
theorem q_1834 : Cond.code yX12_attempt cX12_attempt 11 (some .int) ∈ lw_gd := mem_gd (List.mem_of_getElem? (i := 1834) (by decide +kernel)) rfl
set_option maxRecDepth 20000 in
theorem q_1843 : Cond.code yX12_likelyOf cX12_likelyOf 7 (some .long) ∈ lw_gd := mem_gd (List.mem_of_getElem? (i := 1843) (by decide +kernel)) rfl
set_option maxRecDepth 20000 in
theorem q_1846 : Cond.code yX12_wholeOf cX12_wholeOf 4 (some .long) ∈ lw_gd := mem_gd (List.mem_of_getElem? (i := 1846) (by decide +kernel)) rfl
set_option maxRecDepth 20000 in
theorem q_1860 : Cond.code yX12_numbers cX12_numbers 5 (some .int) ∈ lw_gd := mem_gd (List.mem_of_getElem? (i := 1860) (by decide +kernel)) rfl
set_option maxRecDepth 20000 in
theorem q_1864 : Cond.code yX12_write cX12_write 6 (some .long) ∈ lw_gd := mem_gd (List.mem_of_getElem? (i := 1864) (by decide +kernel)) rfl
set_option maxRecDepth 20000 in
theorem q_1865 : Cond.constantLong RX12 472 (-7) ∈ lw_gd := mem_gd (List.mem_of_getElem? (i := 1865) (by decide +kernel)) rfl
set_option maxRecDepth 20000 in
theorem q_1866 : Cond.methodLink RX12 474 yX12_cut ∈ lw_gd := mem_gd (List.mem_of_getElem? (i := 1866) (by decide +kernel)) rfl
set_option maxRecDepth 20000 in
theorem q_1867 : Cond.static yX12_cut ∈ lw_gd := mem_gd (List.mem_of_getElem? (i := 1867) (by decide +kernel)) rfl
set_option maxRecDepth 20000 in
theorem q_1868 : Cond.code yX12_cut cX12_cut 3 (some .long) ∈ lw_gd := mem_gd (List.mem_of_getElem? (i := 1868) (by decide +kernel)) rfl
set_option maxRecDepth 20000 in
theorem q_1872 : Cond.code yX12_lists cX12_lists 8 (some .int) ∈ lw_gd := mem_gd (List.mem_of_getElem? (i := 1872) (by decide +kernel)) rfl
set_option maxRecDepth 20000 in
theorem q_1876 : Cond.code yX12_image cX12_image 3 (some .int) ∈ lw_gd := mem_gd (List.mem_of_getElem? (i := 1876) (by decide +kernel)) rfl
set_option maxRecDepth 20000 in
theorem q_1880 : Cond.code yX12_restore cX12_restore 3 (some .int) ∈ lw_gd := mem_gd (List.mem_of_getElem? (i := 1880) (by decide +kernel)) rfl
set_option maxRecDepth 20000 in
theorem q_1884 : Cond.code yX12_count cX12_count 2 (some .int) ∈ lw_gd := mem_gd (List.mem_of_getElem? (i := 1884) (by decide +kernel)) rfl
theorem dX12_noSeen_0 : decode cX12_noSeen 0 = .ok (.iload_n 1, 1) := by decide +kernel
theorem dX12_noSeen_1 : decode cX12_noSeen 1 = .ok (.i2l, 1) := by decide +kernel
theorem dX12_noSeen_2 : decode cX12_noSeen 2 = .ok (.lconst 0, 1) := by decide +kernel
theorem dX12_noSeen_3 : decode cX12_noSeen 3 = .ok (.ldc2_w 384, 3) := by decide +kernel
theorem dX12_noSeen_6 : decode cX12_noSeen 6 = .ok (.invokestatic 139, 3) := by decide +kernel
theorem dX12_noSeen_9 : decode cX12_noSeen 9 = .ok (.ifCond .eq 12, 3) := by decide +kernel
theorem dX12_noSeen_12 : decode cX12_noSeen 12 = .ok (.aload_n 0, 1) := by decide +kernel
theorem dX12_noSeen_13 : decode cX12_noSeen 13 = .ok (.iload_n 2, 1) := by decide +kernel
theorem dX12_noSeen_14 : decode cX12_noSeen 14 = .ok (.i2l, 1) := by decide +kernel
theorem dX12_noSeen_15 : decode cX12_noSeen 15 = .ok (.invokevirtual 247, 3) := by decide +kernel
theorem dX12_noSeen_18 : decode cX12_noSeen 18 = .ok (.ifCond .ne 6, 3) := by decide +kernel
theorem dX12_noSeen_21 : decode cX12_noSeen 21 = .ok (.bipush (-2), 2) := by decide +kernel
theorem dX12_noSeen_23 : decode cX12_noSeen 23 = .ok (.ireturn, 1) := by decide +kernel
theorem dX12_noSeen_24 : decode cX12_noSeen 24 = .ok (.aload_n 0, 1) := by decide +kernel
theorem dX12_noSeen_25 : decode cX12_noSeen 25 = .ok (.iload_n 1, 1) := by decide +kernel
theorem dX12_noSeen_26 : decode cX12_noSeen 26 = .ok (.invokevirtual 386, 3) := by decide +kernel
theorem dX12_noSeen_29 : decode cX12_noSeen 29 = .ok (.istore_n 3, 1) := by decide +kernel
theorem dX12_noSeen_30 : decode cX12_noSeen 30 = .ok (.iload_n 3, 1) := by decide +kernel
theorem dX12_noSeen_31 : decode cX12_noSeen 31 = .ok (.ifCond .eq 5, 3) := by decide +kernel
theorem dX12_noSeen_34 : decode cX12_noSeen 34 = .ok (.iload_n 3, 1) := by decide +kernel
theorem dX12_noSeen_35 : decode cX12_noSeen 35 = .ok (.ireturn, 1) := by decide +kernel
theorem dX12_noSeen_36 : decode cX12_noSeen 36 = .ok (.aload_n 0, 1) := by decide +kernel
theorem dX12_noSeen_37 : decode cX12_noSeen 37 = .ok (.getfield 67, 3) := by decide +kernel
theorem dX12_noSeen_40 : decode cX12_noSeen 40 = .ok (.iload_n 1, 1) := by decide +kernel
theorem dX12_noSeen_41 : decode cX12_noSeen 41 = .ok (.iaload, 1) := by decide +kernel
theorem dX12_noSeen_42 : decode cX12_noSeen 42 = .ok (.i2l, 1) := by decide +kernel
theorem dX12_noSeen_43 : decode cX12_noSeen 43 = .ok (.lconst 1, 1) := by decide +kernel
theorem dX12_noSeen_44 : decode cX12_noSeen 44 = .ok (.ldc2_w 444, 3) := by decide +kernel
theorem dX12_noSeen_47 : decode cX12_noSeen 47 = .ok (.invokestatic 139, 3) := by decide +kernel
theorem dX12_noSeen_50 : decode cX12_noSeen 50 = .ok (.ifCond .ne 6, 3) := by decide +kernel
theorem dX12_noSeen_53 : decode cX12_noSeen 53 = .ok (.bipush (-4), 2) := by decide +kernel
theorem dX12_noSeen_55 : decode cX12_noSeen 55 = .ok (.ireturn, 1) := by decide +kernel
theorem dX12_noSeen_56 : decode cX12_noSeen 56 = .ok (.iconst 0, 1) := by decide +kernel
theorem dX12_noSeen_57 : decode cX12_noSeen 57 = .ok (.istore 4, 2) := by decide +kernel
theorem dX12_noSeen_59 : decode cX12_noSeen 59 = .ok (.iload 4, 2) := by decide +kernel
theorem dX12_noSeen_61 : decode cX12_noSeen 61 = .ok (.aload_n 0, 1) := by decide +kernel
theorem dX12_noSeen_62 : decode cX12_noSeen 62 = .ok (.getfield 67, 3) := by decide +kernel
theorem dX12_noSeen_65 : decode cX12_noSeen 65 = .ok (.iload_n 1, 1) := by decide +kernel
theorem dX12_noSeen_66 : decode cX12_noSeen 66 = .ok (.iaload, 1) := by decide +kernel
theorem dX12_noSeen_67 : decode cX12_noSeen 67 = .ok (.if_icmp .ge 34, 3) := by decide +kernel
theorem dX12_noSeen_70 : decode cX12_noSeen 70 = .ok (.aload_n 0, 1) := by decide +kernel
theorem dX12_noSeen_71 : decode cX12_noSeen 71 = .ok (.getfield 70, 3) := by decide +kernel
theorem dX12_noSeen_74 : decode cX12_noSeen 74 = .ok (.bipush 40, 2) := by decide +kernel
theorem dX12_noSeen_76 : decode cX12_noSeen 76 = .ok (.iload_n 1, 1) := by decide +kernel
theorem dX12_noSeen_77 : decode cX12_noSeen 77 = .ok (.imul, 1) := by decide +kernel
theorem dX12_noSeen_78 : decode cX12_noSeen 78 = .ok (.iload 4, 2) := by decide +kernel
theorem dX12_noSeen_80 : decode cX12_noSeen 80 = .ok (.iadd, 1) := by decide +kernel
theorem dX12_noSeen_81 : decode cX12_noSeen 81 = .ok (.laload, 1) := by decide +kernel
theorem dX12_noSeen_82 : decode cX12_noSeen 82 = .ok (.lconst 0, 1) := by decide +kernel
theorem dX12_noSeen_83 : decode cX12_noSeen 83 = .ok (.ldc2_w 446, 3) := by decide +kernel
theorem dX12_noSeen_86 : decode cX12_noSeen 86 = .ok (.invokestatic 139, 3) := by decide +kernel
theorem dX12_noSeen_89 : decode cX12_noSeen 89 = .ok (.ifCond .ne 6, 3) := by decide +kernel
theorem dX12_noSeen_92 : decode cX12_noSeen 92 = .ok (.bipush (-3), 2) := by decide +kernel
theorem dX12_noSeen_94 : decode cX12_noSeen 94 = .ok (.ireturn, 1) := by decide +kernel
theorem dX12_noSeen_95 : decode cX12_noSeen 95 = .ok (.iinc 4 1, 3) := by decide +kernel
theorem dX12_noSeen_98 : decode cX12_noSeen 98 = .ok (.goto (-39), 3) := by decide +kernel
theorem dX12_noSeen_101 : decode cX12_noSeen 101 = .ok (.iconst 0, 1) := by decide +kernel
theorem dX12_noSeen_102 : decode cX12_noSeen 102 = .ok (.ireturn, 1) := by decide +kernel
theorem wX12_noSeen : Mw yX12_noSeen cX12_noSeen 5 (some .int) 2 := ⟨q_1824, q_130, by decide, ⟨by decide +kernel, by decide +kernel⟩, by decide +kernel, by decide +kernel⟩
-- a loop of EyeTrainerModel.noSeen at 59
def bX12_noSeen_59 (T : Sh) (M : Me) (x0 : Nat) (x1 : Int32) (x4 : Int32) : Option ((Int32) ⊕ (Unit ⊕ Unit)) :=
  gd (kd T x0 = 11) <| Option.bind (gR M x0 41) fun a14 => gd (kd T a14 = 13) <| gv x1 (ln T a14) <| if (gI M a14 (Int32.toNatClampNeg x1)) ≤ x4 then (some (.inr (.inr ()))) else (Option.bind (gR M x0 42) fun a18 => gd (kd T a18 = 14) <| gv (((40 : Int32) * x1) + x4) (ln T a18) <| Option.bind (fX12_within (gJ M a18 (Int32.toNatClampNeg (((40 : Int32) * x1) + x4))) (0 : Int64) (767 : Int64)) fun r21 => if r21 = 0 then (some (.inr (.inl ()))) else (lt (x4 + (1 : Int32)) fun v23 => some (.inl v23)))
def PX12_noSeen_59 (X : Fx) (B : Bx) (Z : Nat × Nat × Nat × Nat) (Q : State → Prop) (T : Sh) (M : Me) (x0 : Nat) (x1 : Int32) (s : Int32) : Prop := G X B 5 Z Q 59 [(0, .ref (x0)), (1, .int (x1)), (4, .int (s))] [] T M
def EX12_noSeen_59 (X : Fx) (B : Bx) (Z : Nat × Nat × Nat × Nat) (Q : State → Prop) (T : Sh) (M : Me) (x0 : Nat) (x1 : Int32) (r : Unit ⊕ Unit) : Prop := Sum.elim (fun r => G X B 5 Z Q 92 [] [] T M) (fun r => G X B 5 Z Q 101 [] [] T M) r
set_option maxHeartbeats 4000000 in
theorem tbX12_noSeen_59 {X : Fx} {B : Bx} {Z : Nat × Nat × Nat × Nat} {Q : State → Prop} {d : Nat} {T : Sh} {M : Me} (C : Cx X B cX12_noSeen 5 RX12 d Z) (hd : 2 ≤ d) {x0 : Nat} {x1 : Int32} : ∀ (s : Int32) (o : (Int32) ⊕ (Unit ⊕ Unit)), bX12_noSeen_59 T M x0 x1 s = some o → lpE (PX12_noSeen_59 X B Z Q T M x0 x1) (EX12_noSeen_59 X B Z Q T M x0 x1) o → PX12_noSeen_59 X B Z Q T M x0 x1 s := by
  rintro x4 o h hE
  replace h : bX12_noSeen_59 T M x0 x1 x4 = some o := h
  unfold bX12_noSeen_59 at h
  show G X B 5 Z Q 59 [(0, .ref (x0)), (1, .int (x1)), (4, .int (x4))] [] T M
  refine g_iload (pc := 59) C dX12_noSeen_59 2 rfl ?_
  refine g_aload_n (pc := 61) C dX12_noSeen_61 rfl 0 rfl ?_
  replace h := gd_some h; obtain ⟨hk13, h⟩ := h
  refine g_get (pc := 62) (v := va_rf (gR M x0 41)) C dX12_noSeen_62 kX12 hk13 41 (by decide) q_1268 rfl ?_
  replace h := bnd h; obtain ⟨a14, ea14, h⟩ := h
  refine g_refq ea14 ?_
  refine g_iload_n (pc := 65) C dX12_noSeen_65 rfl 1 rfl ?_
  replace h := gd_some h; obtain ⟨hk15, h⟩ := h
  replace h := gv_some h; obtain ⟨hi16, h⟩ := h
  refine g_iald (pc := 66) C dX12_noSeen_66 hk15 hi16 ?_
  refine g_icmp_ge (pc := 67) (tgt := 101) C dX12_noSeen_67 (by decide) (fun c17 => ?_) (fun c17 => ?_)
  · replace h := ifp c17 h
    obtain rfl := Option.some.inj h
    exact g_sub [] rfl (show G X B 5 Z Q 101 [] [] T M from hE)
  · replace h := ifn c17 h
    refine g_aload_n (pc := 70) C dX12_noSeen_70 rfl 0 rfl ?_
    refine g_get (pc := 71) (v := va_rf (gR M x0 42)) C dX12_noSeen_71 kX12 hk13 42 (by decide) q_1269 rfl ?_
    replace h := bnd h; obtain ⟨a18, ea18, h⟩ := h
    refine g_refq ea18 ?_
    refine g_bipush (pc := 74) (v := 40) C dX12_noSeen_74 (by decide) ?_
    refine g_iload_n (pc := 76) C dX12_noSeen_76 rfl 1 rfl ?_
    refine g_imul (pc := 77) C dX12_noSeen_77 ?_
    refine g_iload (pc := 78) C dX12_noSeen_78 2 rfl ?_
    refine g_iadd (pc := 80) C dX12_noSeen_80 ?_
    replace h := gd_some h; obtain ⟨hk19, h⟩ := h
    replace h := gv_some h; obtain ⟨hi20, h⟩ := h
    refine g_lald (pc := 81) C dX12_noSeen_81 hk19 hi20 ?_
    refine g_lconst (pc := 82) (v := 0) C dX12_noSeen_82 rfl ?_
    refine g_ldc2 (pc := 83) C dX12_noSeen_83 q_1826 ?_
    replace h := bnd h; obtain ⟨r21, h1, h⟩ := h
    refine g_callSi (pc := 86) (As := [.long (gJ M a18 (Int32.toNatClampNeg (((40 : Int32) * x1) + x4))), .long ((0 : Int64)), .long ((767 : Int64))]) (st := []) C dX12_noSeen_86 wX12_within q_1367 q_1366 (by omega) rfl (Nat.le_of_ble_eq_true rfl) (kX12_within (d := 0) (Nat.le_refl _) h1) ?_
    refine g_if_ne (pc := 89) (tgt := 95) C dX12_noSeen_89 (by decide) (fun c22 => ?_) (fun c22 => ?_)
    · replace h := ifn c22 h
      obtain ⟨v23, ev23⟩ : ∃ y : Int32, y = x4 + (1 : Int32) := ⟨_, rfl⟩
      replace h := lt_at ev23 h
      refine g_iinc (pc := 95) (v := v23) (k := 2) (lo2 := [(4, .int (v23)), (0, .ref (x0)), (1, .int (x1))]) C dX12_noSeen_95 rfl (by rw [ev23]; rfl) (by decide) rfl ?_
      refine g_goto (pc := 98) (tgt := 59) C dX12_noSeen_98 (by decide) ?_
      obtain rfl := Option.some.inj h
      exact g_sub [1, 2, 0] rfl (show G X B 5 Z Q 59 [(0, .ref (x0)), (1, .int (x1)), (4, .int (v23))] [] T M from hE)
    · replace h := ifp c22 h
      obtain rfl := Option.some.inj h
      exact g_sub [] rfl (show G X B 5 Z Q 92 [] [] T M from hE)
/-- EyeTrainerModel.noSeen(II)I -/
def fX12_noSeen (T : Sh) (M : Me) (x0 : Nat) (x1 : Int32) (x2 : Int32) : Option (Int32) :=
  Option.bind (fX12_within (Int32.toInt64 x1) (0 : Int64) (3 : Int64)) fun r1 => if r1 = 0 then (some (-2 : Int32)) else (gd (kd T x0 = 11) <| Option.bind (fX12_isLane T M x0 (Int32.toInt64 x2)) fun r4 => if r4 = 0 then (some (-2 : Int32)) else (Option.bind (fX12_noTray T M x0 x1) fun r6 => if r6 = 0 then (Option.bind (gR M x0 41) fun a8 => gd (kd T a8 = 13) <| gv x1 (ln T a8) <| Option.bind (fX12_within (Int32.toInt64 (gI M a8 (Int32.toNatClampNeg x1))) (1 : Int64) (8 : Int64)) fun r11 => if r11 = 0 then (some (-4 : Int32)) else ((lp FU (fun s => bX12_noSeen_59 T M x0 x1 s) (0 : Int32)).bind (Sum.elim (fun _ => some (-3 : Int32)) (fun _ => some (0 : Int32))))) else (some r6)))
set_option maxHeartbeats 4000000 in
theorem kX12_noSeen {l : Launch} {B : Bx} {d : Nat} (hd : 2 ≤ d) {T : Sh} {M : Me} {x0 : Nat} {x1 : Int32} {x2 : Int32} {r : Int32} (h : fX12_noSeen T M x0 x1 x2 = some r) : Kt l B yX12_noSeen cX12_noSeen 5 (some .int) d [.ref (x0), .int (x1), .int (x2)] T M (some (.int r)) T M := by
  refine kt_of wX12_noSeen (Nat.le_refl _) (Nat.le_refl _) (Nat.le_of_ble_eq_true rfl) (fun X C hR hlx hin => ?_)
  subst hlx
  replace C : Cx X B cX12_noSeen 5 RX12 d (tp T, sl T, tp T, sl T) := C
  unfold fX12_noSeen at h
  show G X B 5 _ _ 0 [(0, .ref (x0)), (1, .int (x1)), (2, .int (x2))] [] T M
  refine g_iload_n (pc := 0) C dX12_noSeen_0 rfl 1 rfl ?_
  refine g_i2l (pc := 1) C dX12_noSeen_1 ?_
  refine g_lconst (pc := 2) (v := 0) C dX12_noSeen_2 rfl ?_
  refine g_ldc2 (pc := 3) C dX12_noSeen_3 q_1659 ?_
  replace h := bnd h; obtain ⟨r1, h1, h⟩ := h
  refine g_callSi (pc := 6) (As := [.long (Int32.toInt64 x1), .long ((0 : Int64)), .long ((3 : Int64))]) (st := []) C dX12_noSeen_6 wX12_within q_1367 q_1366 (by omega) rfl (Nat.le_of_ble_eq_true rfl) (kX12_within (d := 0) (Nat.le_refl _) h1) ?_
  refine g_if_eq (pc := 9) (tgt := 21) C dX12_noSeen_9 (by decide) (fun c2 => ?_) (fun c2 => ?_)
  · replace h := ifp c2 h
    refine g_bipush (pc := 21) (v := (-2)) C dX12_noSeen_21 (by decide) ?_
    obtain rfl := Option.some.inj h
    exact g_iret C hR dX12_noSeen_23
  · replace h := ifn c2 h
    refine g_aload_n (pc := 12) C dX12_noSeen_12 rfl 0 rfl ?_
    refine g_iload_n (pc := 13) C dX12_noSeen_13 rfl 2 rfl ?_
    refine g_i2l (pc := 14) C dX12_noSeen_14 ?_
    replace h := gd_some h; obtain ⟨hk3, h⟩ := h
    replace h := bnd h; obtain ⟨r4, h1, h⟩ := h
    refine g_callVi (pc := 15) (As := [.long (Int32.toInt64 x2)]) (st := []) C dX12_noSeen_15 wX12_isLane hk3 rfl (by decide) q_1481 q_75 q_1479 (by omega) rfl (Nat.le_of_ble_eq_true rfl) (kX12_isLane (d := 1) (Nat.le_refl _) h1) ?_
    refine g_if_ne (pc := 18) (tgt := 24) C dX12_noSeen_18 (by decide) (fun c5 => ?_) (fun c5 => ?_)
    · replace h := ifn c5 h
      refine g_aload_n (pc := 24) C dX12_noSeen_24 rfl 0 rfl ?_
      refine g_iload_n (pc := 25) C dX12_noSeen_25 rfl 1 rfl ?_
      replace h := bnd h; obtain ⟨r6, h1, h⟩ := h
      refine g_callVi (pc := 26) (As := [.int (x1)]) (st := []) C dX12_noSeen_26 wX12_noTray hk3 rfl (by decide) q_1662 q_101 q_1660 (by omega) rfl (Nat.le_of_ble_eq_true rfl) (kX12_noTray (d := 1) (Nat.le_refl _) h1) ?_
      refine g_istore_n (pc := 29) (lo2 := [(3, .int (r6)), (0, .ref (x0)), (1, .int (x1)), (2, .int (x2))]) C dX12_noSeen_29 rfl (by decide) rfl ?_
      refine g_iload_n (pc := 30) C dX12_noSeen_30 rfl 0 rfl ?_
      refine g_if_eq (pc := 31) (tgt := 36) C dX12_noSeen_31 (by decide) (fun c7 => ?_) (fun c7 => ?_)
      · replace h := ifp c7 h
        refine g_aload_n (pc := 36) C dX12_noSeen_36 rfl 1 rfl ?_
        refine g_get (pc := 37) (v := va_rf (gR M x0 41)) C dX12_noSeen_37 kX12 hk3 41 (by decide) q_1268 rfl ?_
        replace h := bnd h; obtain ⟨a8, ea8, h⟩ := h
        refine g_refq ea8 ?_
        refine g_iload_n (pc := 40) C dX12_noSeen_40 rfl 2 rfl ?_
        replace h := gd_some h; obtain ⟨hk9, h⟩ := h
        replace h := gv_some h; obtain ⟨hi10, h⟩ := h
        refine g_iald (pc := 41) C dX12_noSeen_41 hk9 hi10 ?_
        refine g_i2l (pc := 42) C dX12_noSeen_42 ?_
        refine g_lconst (pc := 43) (v := 1) C dX12_noSeen_43 rfl ?_
        refine g_ldc2 (pc := 44) C dX12_noSeen_44 q_1825 ?_
        replace h := bnd h; obtain ⟨r11, h1, h⟩ := h
        refine g_callSi (pc := 47) (As := [.long (Int32.toInt64 (gI M a8 (Int32.toNatClampNeg x1))), .long ((1 : Int64)), .long ((8 : Int64))]) (st := []) C dX12_noSeen_47 wX12_within q_1367 q_1366 (by omega) rfl (Nat.le_of_ble_eq_true rfl) (kX12_within (d := 0) (Nat.le_refl _) h1) ?_
        refine g_if_ne (pc := 50) (tgt := 56) C dX12_noSeen_50 (by decide) (fun c12 => ?_) (fun c12 => ?_)
        · replace h := ifn c12 h
          refine g_iconst (pc := 56) (v := 0) C dX12_noSeen_56 (by decide) ?_
          refine g_istore (pc := 57) (lo2 := [(4, .int ((0 : Int32))), (3, .int (r6)), (0, .ref (x0)), (1, .int (x1)), (2, .int (x2))]) C dX12_noSeen_57 (by decide) rfl ?_
          replace h := bndE h; rcases h with ⟨a1, h1, h⟩ | ⟨a1, h1, h⟩
          · refine g_sub [2, 3, 0] rfl ?_
            refine lp_G2 (P := PX12_noSeen_59 X B _ _ T M x0 x1) (E := EX12_noSeen_59 X B _ _ T M x0 x1) (tbX12_noSeen_59 C hd) h1 ?_
            show G X B 5 _ _ 92 [] [] T M
            refine g_bipush (pc := 92) (v := (-3)) C dX12_noSeen_92 (by decide) ?_
            obtain rfl := Option.some.inj h
            exact g_iret C hR dX12_noSeen_94
          · refine g_sub [2, 3, 0] rfl ?_
            refine lp_G2 (P := PX12_noSeen_59 X B _ _ T M x0 x1) (E := EX12_noSeen_59 X B _ _ T M x0 x1) (tbX12_noSeen_59 C hd) h1 ?_
            show G X B 5 _ _ 101 [] [] T M
            refine g_iconst (pc := 101) (v := 0) C dX12_noSeen_101 (by decide) ?_
            obtain rfl := Option.some.inj h
            exact g_iret C hR dX12_noSeen_102
        · replace h := ifp c12 h
          refine g_bipush (pc := 53) (v := (-4)) C dX12_noSeen_53 (by decide) ?_
          obtain rfl := Option.some.inj h
          exact g_iret C hR dX12_noSeen_55
      · replace h := ifn c7 h
        refine g_iload_n (pc := 34) C dX12_noSeen_34 rfl 0 rfl ?_
        obtain rfl := Option.some.inj h
        exact g_iret C hR dX12_noSeen_35
    · replace h := ifp c5 h
      refine g_bipush (pc := 21) (v := (-2)) C dX12_noSeen_21 (by decide) ?_
      obtain rfl := Option.some.inj h
      exact g_iret C hR dX12_noSeen_23
theorem dX12_driftsOf_0 : decode cX12_driftsOf 0 = .ok (.aload_n 0, 1) := by decide +kernel
theorem dX12_driftsOf_1 : decode cX12_driftsOf 1 = .ok (.invokevirtual 251, 3) := by decide +kernel
theorem dX12_driftsOf_4 : decode cX12_driftsOf 4 = .ok (.iconst 0, 1) := by decide +kernel
theorem dX12_driftsOf_5 : decode cX12_driftsOf 5 = .ok (.istore_n 3, 1) := by decide +kernel
theorem dX12_driftsOf_6 : decode cX12_driftsOf 6 = .ok (.iconst 0, 1) := by decide +kernel
theorem dX12_driftsOf_7 : decode cX12_driftsOf 7 = .ok (.istore 4, 2) := by decide +kernel
theorem dX12_driftsOf_9 : decode cX12_driftsOf 9 = .ok (.iload 4, 2) := by decide +kernel
theorem dX12_driftsOf_11 : decode cX12_driftsOf 11 = .ok (.bipush 30, 2) := by decide +kernel
theorem dX12_driftsOf_13 : decode cX12_driftsOf 13 = .ok (.if_icmp .gt 107, 3) := by decide +kernel
theorem dX12_driftsOf_16 : decode cX12_driftsOf 16 = .ok (.aload_n 0, 1) := by decide +kernel
theorem dX12_driftsOf_17 : decode cX12_driftsOf 17 = .ok (.iload 4, 2) := by decide +kernel
theorem dX12_driftsOf_19 : decode cX12_driftsOf 19 = .ok (.bipush 15, 2) := by decide +kernel
theorem dX12_driftsOf_21 : decode cX12_driftsOf 21 = .ok (.isub, 1) := by decide +kernel
theorem dX12_driftsOf_22 : decode cX12_driftsOf 22 = .ok (.putfield 220, 3) := by decide +kernel
theorem dX12_driftsOf_25 : decode cX12_driftsOf 25 = .ok (.iconst 1, 1) := by decide +kernel
theorem dX12_driftsOf_26 : decode cX12_driftsOf 26 = .ok (.istore 5, 2) := by decide +kernel
theorem dX12_driftsOf_28 : decode cX12_driftsOf 28 = .ok (.iconst 0, 1) := by decide +kernel
theorem dX12_driftsOf_29 : decode cX12_driftsOf 29 = .ok (.istore 6, 2) := by decide +kernel
theorem dX12_driftsOf_31 : decode cX12_driftsOf 31 = .ok (.iload 6, 2) := by decide +kernel
theorem dX12_driftsOf_33 : decode cX12_driftsOf 33 = .ok (.aload_n 0, 1) := by decide +kernel
theorem dX12_driftsOf_34 : decode cX12_driftsOf 34 = .ok (.getfield 67, 3) := by decide +kernel
theorem dX12_driftsOf_37 : decode cX12_driftsOf 37 = .ok (.iload_n 1, 1) := by decide +kernel
theorem dX12_driftsOf_38 : decode cX12_driftsOf 38 = .ok (.iaload, 1) := by decide +kernel
theorem dX12_driftsOf_39 : decode cX12_driftsOf 39 = .ok (.if_icmp .ge 59, 3) := by decide +kernel
theorem dX12_driftsOf_42 : decode cX12_driftsOf 42 = .ok (.aload_n 0, 1) := by decide +kernel
theorem dX12_driftsOf_43 : decode cX12_driftsOf 43 = .ok (.getfield 70, 3) := by decide +kernel
theorem dX12_driftsOf_46 : decode cX12_driftsOf 46 = .ok (.bipush 40, 2) := by decide +kernel
theorem dX12_driftsOf_48 : decode cX12_driftsOf 48 = .ok (.iload_n 1, 1) := by decide +kernel
theorem dX12_driftsOf_49 : decode cX12_driftsOf 49 = .ok (.imul, 1) := by decide +kernel
theorem dX12_driftsOf_50 : decode cX12_driftsOf 50 = .ok (.iload 6, 2) := by decide +kernel
theorem dX12_driftsOf_52 : decode cX12_driftsOf 52 = .ok (.iadd, 1) := by decide +kernel
theorem dX12_driftsOf_53 : decode cX12_driftsOf 53 = .ok (.laload, 1) := by decide +kernel
theorem dX12_driftsOf_54 : decode cX12_driftsOf 54 = .ok (.l2i, 1) := by decide +kernel
theorem dX12_driftsOf_55 : decode cX12_driftsOf 55 = .ok (.istore 7, 2) := by decide +kernel
theorem dX12_driftsOf_57 : decode cX12_driftsOf 57 = .ok (.iload 5, 2) := by decide +kernel
theorem dX12_driftsOf_59 : decode cX12_driftsOf 59 = .ok (.aload_n 0, 1) := by decide +kernel
theorem dX12_driftsOf_60 : decode cX12_driftsOf 60 = .ok (.iload_n 2, 1) := by decide +kernel
theorem dX12_driftsOf_61 : decode cX12_driftsOf 61 = .ok (.iload 7, 2) := by decide +kernel
theorem dX12_driftsOf_63 : decode cX12_driftsOf 63 = .ok (.iconst 2, 1) := by decide +kernel
theorem dX12_driftsOf_64 : decode cX12_driftsOf 64 = .ok (.idiv, 1) := by decide +kernel
theorem dX12_driftsOf_65 : decode cX12_driftsOf 65 = .ok (.invokevirtual 229, 3) := by decide +kernel
theorem dX12_driftsOf_68 : decode cX12_driftsOf 68 = .ok (.iload 7, 2) := by decide +kernel
theorem dX12_driftsOf_70 : decode cX12_driftsOf 70 = .ok (.iconst 2, 1) := by decide +kernel
theorem dX12_driftsOf_71 : decode cX12_driftsOf 71 = .ok (.irem, 1) := by decide +kernel
theorem dX12_driftsOf_72 : decode cX12_driftsOf 72 = .ok (.iconst 1, 1) := by decide +kernel
theorem dX12_driftsOf_73 : decode cX12_driftsOf 73 = .ok (.if_icmp .ne 7, 3) := by decide +kernel
theorem dX12_driftsOf_76 : decode cX12_driftsOf 76 = .ok (.iconst 1, 1) := by decide +kernel
theorem dX12_driftsOf_77 : decode cX12_driftsOf 77 = .ok (.goto 4, 3) := by decide +kernel
theorem dX12_driftsOf_80 : decode cX12_driftsOf 80 = .ok (.iconst 0, 1) := by decide +kernel
theorem dX12_driftsOf_81 : decode cX12_driftsOf 81 = .ok (.if_icmp .ne 7, 3) := by decide +kernel
theorem dX12_driftsOf_84 : decode cX12_driftsOf 84 = .ok (.iconst 1, 1) := by decide +kernel
theorem dX12_driftsOf_85 : decode cX12_driftsOf 85 = .ok (.goto 4, 3) := by decide +kernel
theorem dX12_driftsOf_88 : decode cX12_driftsOf 88 = .ok (.iconst 0, 1) := by decide +kernel
theorem dX12_driftsOf_89 : decode cX12_driftsOf 89 = .ok (.iand, 1) := by decide +kernel
theorem dX12_driftsOf_90 : decode cX12_driftsOf 90 = .ok (.istore 5, 2) := by decide +kernel
theorem dX12_driftsOf_92 : decode cX12_driftsOf 92 = .ok (.iinc 6 1, 3) := by decide +kernel
theorem dX12_driftsOf_95 : decode cX12_driftsOf 95 = .ok (.goto (-64), 3) := by decide +kernel
theorem dX12_driftsOf_98 : decode cX12_driftsOf 98 = .ok (.iload_n 3, 1) := by decide +kernel
theorem dX12_driftsOf_99 : decode cX12_driftsOf 99 = .ok (.iload 5, 2) := by decide +kernel
theorem dX12_driftsOf_101 : decode cX12_driftsOf 101 = .ok (.ifCond .eq 10, 3) := by decide +kernel
theorem dX12_driftsOf_104 : decode cX12_driftsOf 104 = .ok (.iconst 1, 1) := by decide +kernel
theorem dX12_driftsOf_105 : decode cX12_driftsOf 105 = .ok (.iload 4, 2) := by decide +kernel
theorem dX12_driftsOf_107 : decode cX12_driftsOf 107 = .ok (.ishl, 1) := by decide +kernel
theorem dX12_driftsOf_108 : decode cX12_driftsOf 108 = .ok (.goto 4, 3) := by decide +kernel
theorem dX12_driftsOf_111 : decode cX12_driftsOf 111 = .ok (.iconst 0, 1) := by decide +kernel
theorem dX12_driftsOf_112 : decode cX12_driftsOf 112 = .ok (.ior, 1) := by decide +kernel
theorem dX12_driftsOf_113 : decode cX12_driftsOf 113 = .ok (.istore_n 3, 1) := by decide +kernel
theorem dX12_driftsOf_114 : decode cX12_driftsOf 114 = .ok (.iinc 4 1, 3) := by decide +kernel
theorem dX12_driftsOf_117 : decode cX12_driftsOf 117 = .ok (.goto (-108), 3) := by decide +kernel
theorem dX12_driftsOf_120 : decode cX12_driftsOf 120 = .ok (.iload_n 3, 1) := by decide +kernel
theorem dX12_driftsOf_121 : decode cX12_driftsOf 121 = .ok (.ireturn, 1) := by decide +kernel
theorem wX12_driftsOf : Mw yX12_driftsOf cX12_driftsOf 8 (some .int) 2 := ⟨q_1830, q_130, by decide, ⟨by decide +kernel, by decide +kernel⟩, by decide +kernel, by decide +kernel⟩
-- a loop of EyeTrainerModel.driftsOf at 9
-- a loop of EyeTrainerModel.driftsOf at 31
def bX12_driftsOf_31 (T : Sh) (x0 : Nat) (x1 : Int32) (x2 : Int32) (x3 : Int32) (x4 : Int32) (x5 : Int32) (x6 : Int32) (M : Me) : Option ((Int32 × Int32 × Me) ⊕ ((Int32 × Me))) :=
  gd (kd T x0 = 11) <| Option.bind (gR M x0 41) fun a7 => gd (kd T a7 = 13) <| gv x1 (ln T a7) <| if (gI M a7 (Int32.toNatClampNeg x1)) ≤ x6 then (some (.inr (x5, M))) else (Option.bind (gR M x0 42) fun a11 => gd (kd T a11 = 14) <| gv (((40 : Int32) * x1) + x6) (ln T a11) <| lt (Int64.toInt32 (gJ M a11 (Int32.toNatClampNeg (((40 : Int32) * x1) + x6)))) fun v14 => Option.bind (fX12_isPassed T M x0 x2 (v14 / (2 : Int32))) <| un2 fun r15 M16 => if (v14 - v14 / (2 : Int32) * (2 : Int32)) = (1 : Int32) then (if r15 = (1 : Int32) then (lt (x5 &&& (1 : Int32)) fun v26 => lt (x6 + (1 : Int32)) fun v27 => some (.inl (v26, v27, M16))) else (lt (x5 &&& (0 : Int32)) fun v24 => lt (x6 + (1 : Int32)) fun v25 => some (.inl (v24, v25, M16)))) else (if r15 = (0 : Int32) then (lt (x5 &&& (1 : Int32)) fun v21 => lt (x6 + (1 : Int32)) fun v22 => some (.inl (v21, v22, M16))) else (lt (x5 &&& (0 : Int32)) fun v19 => lt (x6 + (1 : Int32)) fun v20 => some (.inl (v19, v20, M16)))))
def PX12_driftsOf_31 (X : Fx) (B : Bx) (Z : Nat × Nat × Nat × Nat) (Q : State → Prop) (T : Sh) (x0 : Nat) (x1 : Int32) (x2 : Int32) (x3 : Int32) (x4 : Int32) (s : Int32 × Int32 × Me) : Prop := G X B 8 Z Q 31 [(0, .ref (x0)), (1, .int (x1)), (2, .int (x2)), (3, .int (x3)), (4, .int (x4)), (5, .int (s.1)), (6, .int (s.2.1))] [] T s.2.2
def EX12_driftsOf_31 (X : Fx) (B : Bx) (Z : Nat × Nat × Nat × Nat) (Q : State → Prop) (T : Sh) (x0 : Nat) (x1 : Int32) (x2 : Int32) (x3 : Int32) (x4 : Int32) (r : (Int32 × Me)) : Prop := G X B 8 Z Q 98 [(0, .ref (x0)), (1, .int (x1)), (2, .int (x2)), (3, .int (x3)), (4, .int (x4)), (5, .int (r.1))] [] T r.2
set_option maxHeartbeats 4000000 in
theorem tbX12_driftsOf_31 {X : Fx} {B : Bx} {Z : Nat × Nat × Nat × Nat} {Q : State → Prop} {d : Nat} {T : Sh} (C : Cx X B cX12_driftsOf 8 RX12 d Z) (hd : 4 ≤ d) {x0 : Nat} {x1 : Int32} {x2 : Int32} {x3 : Int32} {x4 : Int32} : ∀ (s : Int32 × Int32 × Me) (o : (Int32 × Int32 × Me) ⊕ ((Int32 × Me))), bX12_driftsOf_31 T x0 x1 x2 x3 x4 s.1 s.2.1 s.2.2 = some o → lpE (PX12_driftsOf_31 X B Z Q T x0 x1 x2 x3 x4) (EX12_driftsOf_31 X B Z Q T x0 x1 x2 x3 x4) o → PX12_driftsOf_31 X B Z Q T x0 x1 x2 x3 x4 s := by
  rintro ⟨x5, x6, M⟩ o h hE
  replace h : bX12_driftsOf_31 T x0 x1 x2 x3 x4 x5 x6 M = some o := h
  unfold bX12_driftsOf_31 at h
  show G X B 8 Z Q 31 [(0, .ref (x0)), (1, .int (x1)), (2, .int (x2)), (3, .int (x3)), (4, .int (x4)), (5, .int (x5)), (6, .int (x6))] [] T M
  refine g_iload (pc := 31) C dX12_driftsOf_31 6 rfl ?_
  refine g_aload_n (pc := 33) C dX12_driftsOf_33 rfl 0 rfl ?_
  replace h := gd_some h; obtain ⟨hk6, h⟩ := h
  refine g_get (pc := 34) (v := va_rf (gR M x0 41)) C dX12_driftsOf_34 kX12 hk6 41 (by decide) q_1268 rfl ?_
  replace h := bnd h; obtain ⟨a7, ea7, h⟩ := h
  refine g_refq ea7 ?_
  refine g_iload_n (pc := 37) C dX12_driftsOf_37 rfl 1 rfl ?_
  replace h := gd_some h; obtain ⟨hk8, h⟩ := h
  replace h := gv_some h; obtain ⟨hi9, h⟩ := h
  refine g_iald (pc := 38) C dX12_driftsOf_38 hk8 hi9 ?_
  refine g_icmp_ge (pc := 39) (tgt := 98) C dX12_driftsOf_39 (by decide) (fun c10 => ?_) (fun c10 => ?_)
  · replace h := ifp c10 h
    obtain rfl := Option.some.inj h
    exact g_sub [0, 1, 2, 3, 4, 5] rfl (show G X B 8 Z Q 98 [(0, .ref (x0)), (1, .int (x1)), (2, .int (x2)), (3, .int (x3)), (4, .int (x4)), (5, .int (x5))] [] T M from hE)
  · replace h := ifn c10 h
    refine g_aload_n (pc := 42) C dX12_driftsOf_42 rfl 0 rfl ?_
    refine g_get (pc := 43) (v := va_rf (gR M x0 42)) C dX12_driftsOf_43 kX12 hk6 42 (by decide) q_1269 rfl ?_
    replace h := bnd h; obtain ⟨a11, ea11, h⟩ := h
    refine g_refq ea11 ?_
    refine g_bipush (pc := 46) (v := 40) C dX12_driftsOf_46 (by decide) ?_
    refine g_iload_n (pc := 48) C dX12_driftsOf_48 rfl 1 rfl ?_
    refine g_imul (pc := 49) C dX12_driftsOf_49 ?_
    refine g_iload (pc := 50) C dX12_driftsOf_50 6 rfl ?_
    refine g_iadd (pc := 52) C dX12_driftsOf_52 ?_
    replace h := gd_some h; obtain ⟨hk12, h⟩ := h
    replace h := gv_some h; obtain ⟨hi13, h⟩ := h
    refine g_lald (pc := 53) C dX12_driftsOf_53 hk12 hi13 ?_
    refine g_l2i (pc := 54) C dX12_driftsOf_54 ?_
    refine g_topi (fun v14 ev14 => ?_)
    replace h := lt_at ev14 h
    refine g_istore (pc := 55) (lo2 := [(7, .int (v14)), (0, .ref (x0)), (1, .int (x1)), (2, .int (x2)), (3, .int (x3)), (4, .int (x4)), (5, .int (x5)), (6, .int (x6))]) C dX12_driftsOf_55 (by decide) rfl ?_
    refine g_iload (pc := 57) C dX12_driftsOf_57 6 rfl ?_
    refine g_aload_n (pc := 59) C dX12_driftsOf_59 rfl 1 rfl ?_
    refine g_iload_n (pc := 60) C dX12_driftsOf_60 rfl 3 rfl ?_
    refine g_iload (pc := 61) C dX12_driftsOf_61 0 rfl ?_
    refine g_iconst (pc := 63) (v := 2) C dX12_driftsOf_63 (by decide) ?_
    refine g_idiv (pc := 64) C dX12_driftsOf_64 (by decide) ?_
    replace h := bnd2 h; obtain ⟨r15, M16, h1, h⟩ := h
    refine g_callVi (pc := 65) (As := [.int (x2), .int (v14 / (2 : Int32))]) (st := [.int (x5)]) C dX12_driftsOf_65 wX12_isPassed hk6 rfl (by decide) q_1506 q_80 q_1504 (by omega) rfl (Nat.le_of_ble_eq_true rfl) (kX12_isPassed (d := 2) (Nat.le_refl _) h1) ?_
    refine g_iload (pc := 68) C dX12_driftsOf_68 0 rfl ?_
    refine g_iconst (pc := 70) (v := 2) C dX12_driftsOf_70 (by decide) ?_
    refine g_irem (pc := 71) C dX12_driftsOf_71 (by decide) ?_
    refine g_iconst (pc := 72) (v := 1) C dX12_driftsOf_72 (by decide) ?_
    refine g_icmp_ne (pc := 73) (tgt := 80) C dX12_driftsOf_73 (by decide) (fun c17 => ?_) (fun c17 => ?_)
    · replace h := ifn c17 h
      refine g_iconst (pc := 80) (v := 0) C dX12_driftsOf_80 (by decide) ?_
      refine g_icmp_ne (pc := 81) (tgt := 88) C dX12_driftsOf_81 (by decide) (fun c18 => ?_) (fun c18 => ?_)
      · replace h := ifn c18 h
        refine g_iconst (pc := 88) (v := 0) C dX12_driftsOf_88 (by decide) ?_
        refine g_iand (pc := 89) C dX12_driftsOf_89 ?_
        refine g_topi (fun v19 ev19 => ?_)
        replace h := lt_at ev19 h
        refine g_istore (pc := 90) (lo2 := [(5, .int (v19)), (7, .int (v14)), (0, .ref (x0)), (1, .int (x1)), (2, .int (x2)), (3, .int (x3)), (4, .int (x4)), (6, .int (x6))]) C dX12_driftsOf_90 (by decide) rfl ?_
        obtain ⟨v20, ev20⟩ : ∃ y : Int32, y = x6 + (1 : Int32) := ⟨_, rfl⟩
        replace h := lt_at ev20 h
        refine g_iinc (pc := 92) (v := v20) (k := 7) (lo2 := [(6, .int (v20)), (5, .int (v19)), (7, .int (v14)), (0, .ref (x0)), (1, .int (x1)), (2, .int (x2)), (3, .int (x3)), (4, .int (x4))]) C dX12_driftsOf_92 rfl (by rw [ev20]; rfl) (by decide) rfl ?_
        refine g_goto (pc := 95) (tgt := 31) C dX12_driftsOf_95 (by decide) ?_
        obtain rfl := Option.some.inj h
        exact g_sub [3, 4, 5, 6, 7, 1, 0] rfl (show G X B 8 Z Q 31 [(0, .ref (x0)), (1, .int (x1)), (2, .int (x2)), (3, .int (x3)), (4, .int (x4)), (5, .int (v19)), (6, .int (v20))] [] T M16 from hE)
      · replace h := ifp c18 h
        refine g_iconst (pc := 84) (v := 1) C dX12_driftsOf_84 (by decide) ?_
        refine g_goto (pc := 85) (tgt := 89) C dX12_driftsOf_85 (by decide) ?_
        refine g_iand (pc := 89) C dX12_driftsOf_89 ?_
        refine g_topi (fun v21 ev21 => ?_)
        replace h := lt_at ev21 h
        refine g_istore (pc := 90) (lo2 := [(5, .int (v21)), (7, .int (v14)), (0, .ref (x0)), (1, .int (x1)), (2, .int (x2)), (3, .int (x3)), (4, .int (x4)), (6, .int (x6))]) C dX12_driftsOf_90 (by decide) rfl ?_
        obtain ⟨v22, ev22⟩ : ∃ y : Int32, y = x6 + (1 : Int32) := ⟨_, rfl⟩
        replace h := lt_at ev22 h
        refine g_iinc (pc := 92) (v := v22) (k := 7) (lo2 := [(6, .int (v22)), (5, .int (v21)), (7, .int (v14)), (0, .ref (x0)), (1, .int (x1)), (2, .int (x2)), (3, .int (x3)), (4, .int (x4))]) C dX12_driftsOf_92 rfl (by rw [ev22]; rfl) (by decide) rfl ?_
        refine g_goto (pc := 95) (tgt := 31) C dX12_driftsOf_95 (by decide) ?_
        obtain rfl := Option.some.inj h
        exact g_sub [3, 4, 5, 6, 7, 1, 0] rfl (show G X B 8 Z Q 31 [(0, .ref (x0)), (1, .int (x1)), (2, .int (x2)), (3, .int (x3)), (4, .int (x4)), (5, .int (v21)), (6, .int (v22))] [] T M16 from hE)
    · replace h := ifp c17 h
      refine g_iconst (pc := 76) (v := 1) C dX12_driftsOf_76 (by decide) ?_
      refine g_goto (pc := 77) (tgt := 81) C dX12_driftsOf_77 (by decide) ?_
      refine g_icmp_ne (pc := 81) (tgt := 88) C dX12_driftsOf_81 (by decide) (fun c23 => ?_) (fun c23 => ?_)
      · replace h := ifn c23 h
        refine g_iconst (pc := 88) (v := 0) C dX12_driftsOf_88 (by decide) ?_
        refine g_iand (pc := 89) C dX12_driftsOf_89 ?_
        refine g_topi (fun v24 ev24 => ?_)
        replace h := lt_at ev24 h
        refine g_istore (pc := 90) (lo2 := [(5, .int (v24)), (7, .int (v14)), (0, .ref (x0)), (1, .int (x1)), (2, .int (x2)), (3, .int (x3)), (4, .int (x4)), (6, .int (x6))]) C dX12_driftsOf_90 (by decide) rfl ?_
        obtain ⟨v25, ev25⟩ : ∃ y : Int32, y = x6 + (1 : Int32) := ⟨_, rfl⟩
        replace h := lt_at ev25 h
        refine g_iinc (pc := 92) (v := v25) (k := 7) (lo2 := [(6, .int (v25)), (5, .int (v24)), (7, .int (v14)), (0, .ref (x0)), (1, .int (x1)), (2, .int (x2)), (3, .int (x3)), (4, .int (x4))]) C dX12_driftsOf_92 rfl (by rw [ev25]; rfl) (by decide) rfl ?_
        refine g_goto (pc := 95) (tgt := 31) C dX12_driftsOf_95 (by decide) ?_
        obtain rfl := Option.some.inj h
        exact g_sub [3, 4, 5, 6, 7, 1, 0] rfl (show G X B 8 Z Q 31 [(0, .ref (x0)), (1, .int (x1)), (2, .int (x2)), (3, .int (x3)), (4, .int (x4)), (5, .int (v24)), (6, .int (v25))] [] T M16 from hE)
      · replace h := ifp c23 h
        refine g_iconst (pc := 84) (v := 1) C dX12_driftsOf_84 (by decide) ?_
        refine g_goto (pc := 85) (tgt := 89) C dX12_driftsOf_85 (by decide) ?_
        refine g_iand (pc := 89) C dX12_driftsOf_89 ?_
        refine g_topi (fun v26 ev26 => ?_)
        replace h := lt_at ev26 h
        refine g_istore (pc := 90) (lo2 := [(5, .int (v26)), (7, .int (v14)), (0, .ref (x0)), (1, .int (x1)), (2, .int (x2)), (3, .int (x3)), (4, .int (x4)), (6, .int (x6))]) C dX12_driftsOf_90 (by decide) rfl ?_
        obtain ⟨v27, ev27⟩ : ∃ y : Int32, y = x6 + (1 : Int32) := ⟨_, rfl⟩
        replace h := lt_at ev27 h
        refine g_iinc (pc := 92) (v := v27) (k := 7) (lo2 := [(6, .int (v27)), (5, .int (v26)), (7, .int (v14)), (0, .ref (x0)), (1, .int (x1)), (2, .int (x2)), (3, .int (x3)), (4, .int (x4))]) C dX12_driftsOf_92 rfl (by rw [ev27]; rfl) (by decide) rfl ?_
        refine g_goto (pc := 95) (tgt := 31) C dX12_driftsOf_95 (by decide) ?_
        obtain rfl := Option.some.inj h
        exact g_sub [3, 4, 5, 6, 7, 1, 0] rfl (show G X B 8 Z Q 31 [(0, .ref (x0)), (1, .int (x1)), (2, .int (x2)), (3, .int (x3)), (4, .int (x4)), (5, .int (v26)), (6, .int (v27))] [] T M16 from hE)
def bX12_driftsOf_9 (T : Sh) (x0 : Nat) (x1 : Int32) (x2 : Int32) (x3 : Int32) (x4 : Int32) (M : Me) : Option ((Int32 × Int32 × Me) ⊕ ((Int32 × Me))) :=
  if (30 : Int32) < x4 then (some (.inr (x3, M))) else (gd (kd T x0 = 11) <| lt (pI M x0 18 (x4 - (15 : Int32))) fun M5 => (lp FU (fun s => bX12_driftsOf_31 T x0 x1 x2 x3 x4 s.1 s.2.1 s.2.2) ((1 : Int32), (0 : Int32), M5)).bind (un2 fun x5_28 M29 => if x5_28 = 0 then (lt (x3 ||| (0 : Int32)) fun v31 => lt (x4 + (1 : Int32)) fun v32 => some (.inl (v31, v32, M29))) else (lt (x3 ||| ((1 : Int32) <<< (x4 &&& 31))) fun v33 => lt (x4 + (1 : Int32)) fun v34 => some (.inl (v33, v34, M29)))))
def PX12_driftsOf_9 (X : Fx) (B : Bx) (Z : Nat × Nat × Nat × Nat) (Q : State → Prop) (T : Sh) (x0 : Nat) (x1 : Int32) (x2 : Int32) (s : Int32 × Int32 × Me) : Prop := G X B 8 Z Q 9 [(0, .ref (x0)), (1, .int (x1)), (2, .int (x2)), (3, .int (s.1)), (4, .int (s.2.1))] [] T s.2.2
def EX12_driftsOf_9 (X : Fx) (B : Bx) (Z : Nat × Nat × Nat × Nat) (Q : State → Prop) (T : Sh) (x0 : Nat) (x1 : Int32) (x2 : Int32) (r : (Int32 × Me)) : Prop := G X B 8 Z Q 120 [(3, .int (r.1))] [] T r.2
set_option maxHeartbeats 4000000 in
theorem tbX12_driftsOf_9 {X : Fx} {B : Bx} {Z : Nat × Nat × Nat × Nat} {Q : State → Prop} {d : Nat} {T : Sh} (C : Cx X B cX12_driftsOf 8 RX12 d Z) (hd : 4 ≤ d) {x0 : Nat} {x1 : Int32} {x2 : Int32} : ∀ (s : Int32 × Int32 × Me) (o : (Int32 × Int32 × Me) ⊕ ((Int32 × Me))), bX12_driftsOf_9 T x0 x1 x2 s.1 s.2.1 s.2.2 = some o → lpE (PX12_driftsOf_9 X B Z Q T x0 x1 x2) (EX12_driftsOf_9 X B Z Q T x0 x1 x2) o → PX12_driftsOf_9 X B Z Q T x0 x1 x2 s := by
  rintro ⟨x3, x4, M⟩ o h hE
  replace h : bX12_driftsOf_9 T x0 x1 x2 x3 x4 M = some o := h
  unfold bX12_driftsOf_9 at h
  show G X B 8 Z Q 9 [(0, .ref (x0)), (1, .int (x1)), (2, .int (x2)), (3, .int (x3)), (4, .int (x4))] [] T M
  refine g_iload (pc := 9) C dX12_driftsOf_9 4 rfl ?_
  refine g_bipush (pc := 11) (v := 30) C dX12_driftsOf_11 (by decide) ?_
  refine g_icmp_gt (pc := 13) (tgt := 120) C dX12_driftsOf_13 (by decide) (fun c3 => ?_) (fun c3 => ?_)
  · replace h := ifp c3 h
    obtain rfl := Option.some.inj h
    exact g_sub [3] rfl (show G X B 8 Z Q 120 [(3, .int (x3))] [] T M from hE)
  · replace h := ifn c3 h
    refine g_aload_n (pc := 16) C dX12_driftsOf_16 rfl 0 rfl ?_
    refine g_iload (pc := 17) C dX12_driftsOf_17 4 rfl ?_
    refine g_bipush (pc := 19) (v := 15) C dX12_driftsOf_19 (by decide) ?_
    refine g_isub (pc := 21) C dX12_driftsOf_21 ?_
    replace h := gd_some h; obtain ⟨hk4, h⟩ := h
    refine g_putI (pc := 22) C dX12_driftsOf_22 kX12 hk4 18 (by decide) rfl rfl rfl q_1245 ?_
    refine g_mem (fun M5 eM5 => ?_)
    replace h := lt_at eM5 h
    refine g_iconst (pc := 25) (v := 1) C dX12_driftsOf_25 (by decide) ?_
    refine g_istore (pc := 26) (lo2 := [(5, .int ((1 : Int32))), (0, .ref (x0)), (1, .int (x1)), (2, .int (x2)), (3, .int (x3)), (4, .int (x4))]) C dX12_driftsOf_26 (by decide) rfl ?_
    refine g_iconst (pc := 28) (v := 0) C dX12_driftsOf_28 (by decide) ?_
    refine g_istore (pc := 29) (lo2 := [(6, .int ((0 : Int32))), (5, .int ((1 : Int32))), (0, .ref (x0)), (1, .int (x1)), (2, .int (x2)), (3, .int (x3)), (4, .int (x4))]) C dX12_driftsOf_29 (by decide) rfl ?_
    replace h := bnd2 h; obtain ⟨x5_28, M29, h1, h⟩ := h
    refine g_sub [2, 3, 4, 5, 6, 1, 0] rfl ?_
    refine lp_G2 (P := PX12_driftsOf_31 X B _ _ T x0 x1 x2 x3 x4) (E := EX12_driftsOf_31 X B _ _ T x0 x1 x2 x3 x4) (tbX12_driftsOf_31 C hd) h1 ?_
    show G X B 8 _ _ 98 [(0, .ref (x0)), (1, .int (x1)), (2, .int (x2)), (3, .int (x3)), (4, .int (x4)), (5, .int (x5_28))] [] T M29
    refine g_iload_n (pc := 98) C dX12_driftsOf_98 rfl 3 rfl ?_
    refine g_iload (pc := 99) C dX12_driftsOf_99 5 rfl ?_
    refine g_if_eq (pc := 101) (tgt := 111) C dX12_driftsOf_101 (by decide) (fun c30 => ?_) (fun c30 => ?_)
    · replace h := ifp c30 h
      refine g_iconst (pc := 111) (v := 0) C dX12_driftsOf_111 (by decide) ?_
      refine g_ior (pc := 112) C dX12_driftsOf_112 ?_
      refine g_topi (fun v31 ev31 => ?_)
      replace h := lt_at ev31 h
      refine g_istore_n (pc := 113) (lo2 := [(3, .int (v31)), (0, .ref (x0)), (1, .int (x1)), (2, .int (x2)), (4, .int (x4)), (5, .int (x5_28))]) C dX12_driftsOf_113 rfl (by decide) rfl ?_
      obtain ⟨v32, ev32⟩ : ∃ y : Int32, y = x4 + (1 : Int32) := ⟨_, rfl⟩
      replace h := lt_at ev32 h
      refine g_iinc (pc := 114) (v := v32) (k := 4) (lo2 := [(4, .int (v32)), (3, .int (v31)), (0, .ref (x0)), (1, .int (x1)), (2, .int (x2)), (5, .int (x5_28))]) C dX12_driftsOf_114 rfl (by rw [ev32]; rfl) (by decide) rfl ?_
      refine g_goto (pc := 117) (tgt := 9) C dX12_driftsOf_117 (by decide) ?_
      obtain rfl := Option.some.inj h
      exact g_sub [2, 3, 4, 1, 0] rfl (show G X B 8 Z Q 9 [(0, .ref (x0)), (1, .int (x1)), (2, .int (x2)), (3, .int (v31)), (4, .int (v32))] [] T M29 from hE)
    · replace h := ifn c30 h
      refine g_iconst (pc := 104) (v := 1) C dX12_driftsOf_104 (by decide) ?_
      refine g_iload (pc := 105) C dX12_driftsOf_105 4 rfl ?_
      refine g_ishl (pc := 107) C dX12_driftsOf_107 ?_
      refine g_goto (pc := 108) (tgt := 112) C dX12_driftsOf_108 (by decide) ?_
      refine g_ior (pc := 112) C dX12_driftsOf_112 ?_
      refine g_topi (fun v33 ev33 => ?_)
      replace h := lt_at ev33 h
      refine g_istore_n (pc := 113) (lo2 := [(3, .int (v33)), (0, .ref (x0)), (1, .int (x1)), (2, .int (x2)), (4, .int (x4)), (5, .int (x5_28))]) C dX12_driftsOf_113 rfl (by decide) rfl ?_
      obtain ⟨v34, ev34⟩ : ∃ y : Int32, y = x4 + (1 : Int32) := ⟨_, rfl⟩
      replace h := lt_at ev34 h
      refine g_iinc (pc := 114) (v := v34) (k := 4) (lo2 := [(4, .int (v34)), (3, .int (v33)), (0, .ref (x0)), (1, .int (x1)), (2, .int (x2)), (5, .int (x5_28))]) C dX12_driftsOf_114 rfl (by rw [ev34]; rfl) (by decide) rfl ?_
      refine g_goto (pc := 117) (tgt := 9) C dX12_driftsOf_117 (by decide) ?_
      obtain rfl := Option.some.inj h
      exact g_sub [2, 3, 4, 1, 0] rfl (show G X B 8 Z Q 9 [(0, .ref (x0)), (1, .int (x1)), (2, .int (x2)), (3, .int (v33)), (4, .int (v34))] [] T M29 from hE)
/-- EyeTrainerModel.driftsOf(II)I -/
def fX12_driftsOf (T : Sh) (M : Me) (x0 : Nat) (x1 : Int32) (x2 : Int32) : Option (Int32 × Me) :=
  gd (kd T x0 = 11) <| Option.bind (fX12_laysNow T M x0) <| un2 fun _u M2 => (lp FU (fun s => bX12_driftsOf_9 T x0 x1 x2 s.1 s.2.1 s.2.2) ((0 : Int32), (0 : Int32), M2)).bind (un2 fun x3_35 M36 => some (x3_35, M36))
set_option maxHeartbeats 4000000 in
theorem kX12_driftsOf {l : Launch} {B : Bx} {d : Nat} (hd : 4 ≤ d) {T : Sh} {M : Me} {x0 : Nat} {x1 : Int32} {x2 : Int32} {r : Int32} {M' : Me} (h : fX12_driftsOf T M x0 x1 x2 = some (r, M')) : Kt l B yX12_driftsOf cX12_driftsOf 8 (some .int) d [.ref (x0), .int (x1), .int (x2)] T M (some (.int r)) T M' := by
  refine kt_of wX12_driftsOf (Nat.le_refl _) (Nat.le_refl _) (Nat.le_of_ble_eq_true rfl) (fun X C hR hlx hin => ?_)
  subst hlx
  replace C : Cx X B cX12_driftsOf 8 RX12 d (tp T, sl T, tp T, sl T) := C
  unfold fX12_driftsOf at h
  show G X B 8 _ _ 0 [(0, .ref (x0)), (1, .int (x1)), (2, .int (x2))] [] T M
  refine g_aload_n (pc := 0) C dX12_driftsOf_0 rfl 0 rfl ?_
  replace h := gd_some h; obtain ⟨hk1, h⟩ := h
  replace h := bnd2 h; obtain ⟨_u, M2, h1, h⟩ := h
  refine g_callVv (pc := 1) (As := []) (st := []) C dX12_driftsOf_1 wX12_laysNow hk1 rfl (by decide) q_1485 q_76 q_1483 (by omega) rfl (Nat.le_of_ble_eq_true rfl) (kX12_laysNow (d := 3) (Nat.le_refl _) h1) ?_
  refine g_iconst (pc := 4) (v := 0) C dX12_driftsOf_4 (by decide) ?_
  refine g_istore_n (pc := 5) (lo2 := [(3, .int ((0 : Int32))), (0, .ref (x0)), (1, .int (x1)), (2, .int (x2))]) C dX12_driftsOf_5 rfl (by decide) rfl ?_
  refine g_iconst (pc := 6) (v := 0) C dX12_driftsOf_6 (by decide) ?_
  refine g_istore (pc := 7) (lo2 := [(4, .int ((0 : Int32))), (3, .int ((0 : Int32))), (0, .ref (x0)), (1, .int (x1)), (2, .int (x2))]) C dX12_driftsOf_7 (by decide) rfl ?_
  replace h := bnd2 h; obtain ⟨x3_35, M36, h1, h⟩ := h
  refine g_sub [2, 3, 4, 1, 0] rfl ?_
  refine lp_G2 (P := PX12_driftsOf_9 X B _ _ T x0 x1 x2) (E := EX12_driftsOf_9 X B _ _ T x0 x1 x2) (tbX12_driftsOf_9 C hd) h1 ?_
  show G X B 8 _ _ 120 [(3, .int (x3_35))] [] T M36
  refine g_iload_n (pc := 120) C dX12_driftsOf_120 rfl 0 rfl ?_
  obtain ⟨rfl, rfl⟩ := Prod.mk.inj (Option.some.inj h)
  exact g_iret C hR dX12_driftsOf_121
theorem dX12_drifts_0 : decode cX12_drifts 0 = .ok (.aload_n 0, 1) := by decide +kernel
theorem dX12_drifts_1 : decode cX12_drifts 1 = .ok (.iconst 0, 1) := by decide +kernel
theorem dX12_drifts_2 : decode cX12_drifts 2 = .ok (.putfield 1, 3) := by decide +kernel
theorem dX12_drifts_5 : decode cX12_drifts 5 = .ok (.aload_n 0, 1) := by decide +kernel
theorem dX12_drifts_6 : decode cX12_drifts 6 = .ok (.iload_n 1, 1) := by decide +kernel
theorem dX12_drifts_7 : decode cX12_drifts 7 = .ok (.iload_n 2, 1) := by decide +kernel
theorem dX12_drifts_8 : decode cX12_drifts 8 = .ok (.invokevirtual 448, 3) := by decide +kernel
theorem dX12_drifts_11 : decode cX12_drifts 11 = .ok (.istore_n 3, 1) := by decide +kernel
theorem dX12_drifts_12 : decode cX12_drifts 12 = .ok (.iload_n 3, 1) := by decide +kernel
theorem dX12_drifts_13 : decode cX12_drifts 13 = .ok (.ifCond .eq 7, 3) := by decide +kernel
theorem dX12_drifts_16 : decode cX12_drifts 16 = .ok (.iload_n 3, 1) := by decide +kernel
theorem dX12_drifts_17 : decode cX12_drifts 17 = .ok (.goto 9, 3) := by decide +kernel
theorem dX12_drifts_20 : decode cX12_drifts 20 = .ok (.aload_n 0, 1) := by decide +kernel
theorem dX12_drifts_21 : decode cX12_drifts 21 = .ok (.iload_n 1, 1) := by decide +kernel
theorem dX12_drifts_22 : decode cX12_drifts 22 = .ok (.iload_n 2, 1) := by decide +kernel
theorem dX12_drifts_23 : decode cX12_drifts 23 = .ok (.invokevirtual 451, 3) := by decide +kernel
theorem dX12_drifts_26 : decode cX12_drifts 26 = .ok (.ireturn, 1) := by decide +kernel
theorem wX12_drifts : Mw yX12_drifts cX12_drifts 4 (some .int) 2 := ⟨q_1820, q_130, by decide, ⟨by decide +kernel, by decide +kernel⟩, by decide +kernel, by decide +kernel⟩
/-- EyeTrainerModel.drifts(II)I -/
def fX12_drifts (T : Sh) (M : Me) (x0 : Nat) (x1 : Int32) (x2 : Int32) : Option (Int32 × Me) :=
  gd (kd T x0 = 11) <| lt (pI M x0 0 (0 : Int32)) fun M2 => Option.bind (fX12_noSeen T M2 x0 x1 x2) fun r3 => if r3 = 0 then (Option.bind (fX12_driftsOf T M2 x0 x1 x2) <| un2 fun r5 M6 => some (r5, M6)) else (some (r3, M2))
set_option maxHeartbeats 4000000 in
theorem kX12_drifts {l : Launch} {B : Bx} {d : Nat} (hd : 5 ≤ d) {T : Sh} {M : Me} {x0 : Nat} {x1 : Int32} {x2 : Int32} {r : Int32} {M' : Me} (h : fX12_drifts T M x0 x1 x2 = some (r, M')) : Kt l B yX12_drifts cX12_drifts 4 (some .int) d [.ref (x0), .int (x1), .int (x2)] T M (some (.int r)) T M' := by
  refine kt_of wX12_drifts (Nat.le_refl _) (Nat.le_refl _) (Nat.le_of_ble_eq_true rfl) (fun X C hR hlx hin => ?_)
  subst hlx
  replace C : Cx X B cX12_drifts 4 RX12 d (tp T, sl T, tp T, sl T) := C
  unfold fX12_drifts at h
  show G X B 4 _ _ 0 [(0, .ref (x0)), (1, .int (x1)), (2, .int (x2))] [] T M
  refine g_aload_n (pc := 0) C dX12_drifts_0 rfl 0 rfl ?_
  refine g_iconst (pc := 1) (v := 0) C dX12_drifts_1 (by decide) ?_
  replace h := gd_some h; obtain ⟨hk1, h⟩ := h
  refine g_putI (pc := 2) C dX12_drifts_2 kX12 hk1 0 (by decide) rfl rfl rfl q_1227 ?_
  refine g_mem (fun M2 eM2 => ?_)
  replace h := lt_at eM2 h
  refine g_aload_n (pc := 5) C dX12_drifts_5 rfl 0 rfl ?_
  refine g_iload_n (pc := 6) C dX12_drifts_6 rfl 1 rfl ?_
  refine g_iload_n (pc := 7) C dX12_drifts_7 rfl 2 rfl ?_
  replace h := bnd h; obtain ⟨r3, h1, h⟩ := h
  refine g_callVi (pc := 8) (As := [.int (x1), .int (x2)]) (st := []) C dX12_drifts_8 wX12_noSeen hk1 rfl (by decide) q_1823 q_116 q_1821 (by omega) rfl (Nat.le_of_ble_eq_true rfl) (kX12_noSeen (d := 2) (Nat.le_refl _) h1) ?_
  refine g_istore_n (pc := 11) (lo2 := [(3, .int (r3)), (0, .ref (x0)), (1, .int (x1)), (2, .int (x2))]) C dX12_drifts_11 rfl (by decide) rfl ?_
  refine g_iload_n (pc := 12) C dX12_drifts_12 rfl 0 rfl ?_
  refine g_if_eq (pc := 13) (tgt := 20) C dX12_drifts_13 (by decide) (fun c4 => ?_) (fun c4 => ?_)
  · replace h := ifp c4 h
    refine g_aload_n (pc := 20) C dX12_drifts_20 rfl 1 rfl ?_
    refine g_iload_n (pc := 21) C dX12_drifts_21 rfl 2 rfl ?_
    refine g_iload_n (pc := 22) C dX12_drifts_22 rfl 3 rfl ?_
    replace h := bnd2 h; obtain ⟨r5, M6, h1, h⟩ := h
    refine g_callVi (pc := 23) (As := [.int (x1), .int (x2)]) (st := []) C dX12_drifts_23 wX12_driftsOf hk1 rfl (by decide) q_1829 q_117 q_1827 (by omega) rfl (Nat.le_of_ble_eq_true rfl) (kX12_driftsOf (d := 4) (Nat.le_refl _) h1) ?_
    obtain ⟨rfl, rfl⟩ := Prod.mk.inj (Option.some.inj h)
    exact g_iret C hR dX12_drifts_26
  · replace h := ifn c4 h
    refine g_iload_n (pc := 16) C dX12_drifts_16 rfl 0 rfl ?_
    refine g_goto (pc := 17) (tgt := 26) C dX12_drifts_17 (by decide) ?_
    obtain ⟨rfl, rfl⟩ := Prod.mk.inj (Option.some.inj h)
    exact g_iret C hR dX12_drifts_26
theorem dX12_attempt_0 : decode cX12_attempt 0 = .ok (.aload_n 0, 1) := by decide +kernel
theorem dX12_attempt_1 : decode cX12_attempt 1 = .ok (.iconst 0, 1) := by decide +kernel
theorem dX12_attempt_2 : decode cX12_attempt 2 = .ok (.putfield 1, 3) := by decide +kernel
theorem dX12_attempt_5 : decode cX12_attempt 5 = .ok (.aload_n 0, 1) := by decide +kernel
theorem dX12_attempt_6 : decode cX12_attempt 6 = .ok (.iload_n 1, 1) := by decide +kernel
theorem dX12_attempt_7 : decode cX12_attempt 7 = .ok (.iload_n 2, 1) := by decide +kernel
theorem dX12_attempt_8 : decode cX12_attempt 8 = .ok (.invokevirtual 448, 3) := by decide +kernel
theorem dX12_attempt_11 : decode cX12_attempt 11 = .ok (.istore_n 3, 1) := by decide +kernel
theorem dX12_attempt_12 : decode cX12_attempt 12 = .ok (.iload_n 3, 1) := by decide +kernel
theorem dX12_attempt_13 : decode cX12_attempt 13 = .ok (.ifCond .eq 5, 3) := by decide +kernel
theorem dX12_attempt_16 : decode cX12_attempt 16 = .ok (.iload_n 3, 1) := by decide +kernel
theorem dX12_attempt_17 : decode cX12_attempt 17 = .ok (.ireturn, 1) := by decide +kernel
theorem dX12_attempt_18 : decode cX12_attempt 18 = .ok (.aload_n 0, 1) := by decide +kernel
theorem dX12_attempt_19 : decode cX12_attempt 19 = .ok (.iload_n 1, 1) := by decide +kernel
theorem dX12_attempt_20 : decode cX12_attempt 20 = .ok (.iload_n 2, 1) := by decide +kernel
theorem dX12_attempt_21 : decode cX12_attempt 21 = .ok (.invokevirtual 451, 3) := by decide +kernel
theorem dX12_attempt_24 : decode cX12_attempt 24 = .ok (.istore 4, 2) := by decide +kernel
theorem dX12_attempt_26 : decode cX12_attempt 26 = .ok (.iconst (-1), 1) := by decide +kernel
theorem dX12_attempt_27 : decode cX12_attempt 27 = .ok (.istore 5, 2) := by decide +kernel
theorem dX12_attempt_29 : decode cX12_attempt 29 = .ok (.ldc_w 294, 3) := by decide +kernel
theorem dX12_attempt_32 : decode cX12_attempt 32 = .ok (.istore 6, 2) := by decide +kernel
theorem dX12_attempt_34 : decode cX12_attempt 34 = .ok (.iconst 0, 1) := by decide +kernel
theorem dX12_attempt_35 : decode cX12_attempt 35 = .ok (.istore 7, 2) := by decide +kernel
theorem dX12_attempt_37 : decode cX12_attempt 37 = .ok (.iload 7, 2) := by decide +kernel
theorem dX12_attempt_39 : decode cX12_attempt 39 = .ok (.sipush 384, 3) := by decide +kernel
theorem dX12_attempt_42 : decode cX12_attempt 42 = .ok (.if_icmp .ge 112, 3) := by decide +kernel
theorem dX12_attempt_45 : decode cX12_attempt 45 = .ok (.iload 4, 2) := by decide +kernel
theorem dX12_attempt_47 : decode cX12_attempt 47 = .ok (.ifCond .eq 107, 3) := by decide +kernel
theorem dX12_attempt_50 : decode cX12_attempt 50 = .ok (.iconst 0, 1) := by decide +kernel
theorem dX12_attempt_51 : decode cX12_attempt 51 = .ok (.istore 8, 2) := by decide +kernel
theorem dX12_attempt_53 : decode cX12_attempt 53 = .ok (.iconst 0, 1) := by decide +kernel
theorem dX12_attempt_54 : decode cX12_attempt 54 = .ok (.istore 9, 2) := by decide +kernel
theorem dX12_attempt_56 : decode cX12_attempt 56 = .ok (.iconst 0, 1) := by decide +kernel
theorem dX12_attempt_57 : decode cX12_attempt 57 = .ok (.istore 10, 2) := by decide +kernel
theorem dX12_attempt_59 : decode cX12_attempt 59 = .ok (.iload 10, 2) := by decide +kernel
theorem dX12_attempt_61 : decode cX12_attempt 61 = .ok (.bipush 30, 2) := by decide +kernel
theorem dX12_attempt_63 : decode cX12_attempt 63 = .ok (.if_icmp .gt 51, 3) := by decide +kernel
theorem dX12_attempt_66 : decode cX12_attempt 66 = .ok (.iload 4, 2) := by decide +kernel
theorem dX12_attempt_68 : decode cX12_attempt 68 = .ok (.i2l, 1) := by decide +kernel
theorem dX12_attempt_69 : decode cX12_attempt 69 = .ok (.iload 10, 2) := by decide +kernel
theorem dX12_attempt_71 : decode cX12_attempt 71 = .ok (.invokestatic 240, 3) := by decide +kernel
theorem dX12_attempt_74 : decode cX12_attempt 74 = .ok (.ifCond .ne 6, 3) := by decide +kernel
theorem dX12_attempt_77 : decode cX12_attempt 77 = .ok (.goto 31, 3) := by decide +kernel
theorem dX12_attempt_80 : decode cX12_attempt 80 = .ok (.aload_n 0, 1) := by decide +kernel
theorem dX12_attempt_81 : decode cX12_attempt 81 = .ok (.iload 10, 2) := by decide +kernel
theorem dX12_attempt_83 : decode cX12_attempt 83 = .ok (.bipush 15, 2) := by decide +kernel
theorem dX12_attempt_85 : decode cX12_attempt 85 = .ok (.isub, 1) := by decide +kernel
theorem dX12_attempt_86 : decode cX12_attempt 86 = .ok (.putfield 220, 3) := by decide +kernel
theorem dX12_attempt_89 : decode cX12_attempt 89 = .ok (.aload_n 0, 1) := by decide +kernel
theorem dX12_attempt_90 : decode cX12_attempt 90 = .ok (.iload_n 2, 1) := by decide +kernel
theorem dX12_attempt_91 : decode cX12_attempt 91 = .ok (.iload 7, 2) := by decide +kernel
theorem dX12_attempt_93 : decode cX12_attempt 93 = .ok (.invokevirtual 229, 3) := by decide +kernel
theorem dX12_attempt_96 : decode cX12_attempt 96 = .ok (.ifCond .eq 9, 3) := by decide +kernel
theorem dX12_attempt_99 : decode cX12_attempt 99 = .ok (.iinc 8 1, 3) := by decide +kernel
theorem dX12_attempt_102 : decode cX12_attempt 102 = .ok (.goto 6, 3) := by decide +kernel
theorem dX12_attempt_105 : decode cX12_attempt 105 = .ok (.iinc 9 1, 3) := by decide +kernel
theorem dX12_attempt_108 : decode cX12_attempt 108 = .ok (.iinc 10 1, 3) := by decide +kernel
theorem dX12_attempt_111 : decode cX12_attempt 111 = .ok (.goto (-52), 3) := by decide +kernel
theorem dX12_attempt_114 : decode cX12_attempt 114 = .ok (.iload 8, 2) := by decide +kernel
theorem dX12_attempt_116 : decode cX12_attempt 116 = .ok (.iload 9, 2) := by decide +kernel
theorem dX12_attempt_118 : decode cX12_attempt 118 = .ok (.if_icmp .le 8, 3) := by decide +kernel
theorem dX12_attempt_121 : decode cX12_attempt 121 = .ok (.iload 8, 2) := by decide +kernel
theorem dX12_attempt_123 : decode cX12_attempt 123 = .ok (.goto 5, 3) := by decide +kernel
theorem dX12_attempt_126 : decode cX12_attempt 126 = .ok (.iload 9, 2) := by decide +kernel
theorem dX12_attempt_128 : decode cX12_attempt 128 = .ok (.istore 10, 2) := by decide +kernel
theorem dX12_attempt_130 : decode cX12_attempt 130 = .ok (.iload 10, 2) := by decide +kernel
theorem dX12_attempt_132 : decode cX12_attempt 132 = .ok (.iload 6, 2) := by decide +kernel
theorem dX12_attempt_134 : decode cX12_attempt 134 = .ok (.if_icmp .lt 6, 3) := by decide +kernel
theorem dX12_attempt_137 : decode cX12_attempt 137 = .ok (.goto 11, 3) := by decide +kernel
theorem dX12_attempt_140 : decode cX12_attempt 140 = .ok (.iload 7, 2) := by decide +kernel
theorem dX12_attempt_142 : decode cX12_attempt 142 = .ok (.istore 5, 2) := by decide +kernel
theorem dX12_attempt_144 : decode cX12_attempt 144 = .ok (.iload 10, 2) := by decide +kernel
theorem dX12_attempt_146 : decode cX12_attempt 146 = .ok (.istore 6, 2) := by decide +kernel
theorem dX12_attempt_148 : decode cX12_attempt 148 = .ok (.iinc 7 1, 3) := by decide +kernel
theorem dX12_attempt_151 : decode cX12_attempt 151 = .ok (.goto (-114), 3) := by decide +kernel
theorem dX12_attempt_154 : decode cX12_attempt 154 = .ok (.iload 5, 2) := by decide +kernel
theorem dX12_attempt_156 : decode cX12_attempt 156 = .ok (.ireturn, 1) := by decide +kernel
theorem wX12_attempt : Mw yX12_attempt cX12_attempt 11 (some .int) 2 := ⟨q_1834, q_130, by decide, ⟨by decide +kernel, by decide +kernel⟩, by decide +kernel, by decide +kernel⟩
-- a loop of EyeTrainerModel.attempt at 37
-- a loop of EyeTrainerModel.attempt at 59
def bX12_attempt_59 (T : Sh) (x0 : Nat) (x2 : Int32) (x4 : Int32) (x5 : Int32) (x6 : Int32) (x7 : Int32) (x8 : Int32) (x9 : Int32) (x10 : Int32) (M : Me) : Option ((Int32 × Int32 × Int32 × Me) ⊕ ((Int32 × Int32 × Me))) :=
  if (30 : Int32) < x10 then (some (.inr (x8, x9, M))) else (Option.bind (fX12_isIn (Int32.toInt64 x4) x10) fun r10 => if r10 = 0 then (lt (x10 + (1 : Int32)) fun v21 => some (.inl (x8, x9, v21, M))) else (gd (kd T x0 = 11) <| lt (pI M x0 18 (x10 - (15 : Int32))) fun M13 => Option.bind (fX12_isPassed T M13 x0 x2 x7) <| un2 fun r14 M15 => if r14 = 0 then (lt (x9 + (1 : Int32)) fun v17 => lt (x10 + (1 : Int32)) fun v18 => some (.inl (x8, v17, v18, M15))) else (lt (x8 + (1 : Int32)) fun v19 => lt (x10 + (1 : Int32)) fun v20 => some (.inl (v19, x9, v20, M15)))))
def PX12_attempt_59 (X : Fx) (B : Bx) (Z : Nat × Nat × Nat × Nat) (Q : State → Prop) (T : Sh) (x0 : Nat) (x2 : Int32) (x4 : Int32) (x5 : Int32) (x6 : Int32) (x7 : Int32) (s : Int32 × Int32 × Int32 × Me) : Prop := G X B 11 Z Q 59 [(0, .ref (x0)), (2, .int (x2)), (4, .int (x4)), (5, .int (x5)), (6, .int (x6)), (7, .int (x7)), (8, .int (s.1)), (9, .int (s.2.1)), (10, .int (s.2.2.1))] [] T s.2.2.2
def EX12_attempt_59 (X : Fx) (B : Bx) (Z : Nat × Nat × Nat × Nat) (Q : State → Prop) (T : Sh) (x0 : Nat) (x2 : Int32) (x4 : Int32) (x5 : Int32) (x6 : Int32) (x7 : Int32) (r : (Int32 × Int32 × Me)) : Prop := G X B 11 Z Q 114 [(0, .ref (x0)), (2, .int (x2)), (4, .int (x4)), (5, .int (x5)), (6, .int (x6)), (7, .int (x7)), (8, .int (r.1)), (9, .int (r.2.1))] [] T r.2.2
set_option maxHeartbeats 4000000 in
theorem tbX12_attempt_59 {X : Fx} {B : Bx} {Z : Nat × Nat × Nat × Nat} {Q : State → Prop} {d : Nat} {T : Sh} (C : Cx X B cX12_attempt 11 RX12 d Z) (hd : 5 ≤ d) {x0 : Nat} {x2 : Int32} {x4 : Int32} {x5 : Int32} {x6 : Int32} {x7 : Int32} : ∀ (s : Int32 × Int32 × Int32 × Me) (o : (Int32 × Int32 × Int32 × Me) ⊕ ((Int32 × Int32 × Me))), bX12_attempt_59 T x0 x2 x4 x5 x6 x7 s.1 s.2.1 s.2.2.1 s.2.2.2 = some o → lpE (PX12_attempt_59 X B Z Q T x0 x2 x4 x5 x6 x7) (EX12_attempt_59 X B Z Q T x0 x2 x4 x5 x6 x7) o → PX12_attempt_59 X B Z Q T x0 x2 x4 x5 x6 x7 s := by
  rintro ⟨x8, x9, x10, M⟩ o h hE
  replace h : bX12_attempt_59 T x0 x2 x4 x5 x6 x7 x8 x9 x10 M = some o := h
  unfold bX12_attempt_59 at h
  show G X B 11 Z Q 59 [(0, .ref (x0)), (2, .int (x2)), (4, .int (x4)), (5, .int (x5)), (6, .int (x6)), (7, .int (x7)), (8, .int (x8)), (9, .int (x9)), (10, .int (x10))] [] T M
  refine g_iload (pc := 59) C dX12_attempt_59 8 rfl ?_
  refine g_bipush (pc := 61) (v := 30) C dX12_attempt_61 (by decide) ?_
  refine g_icmp_gt (pc := 63) (tgt := 114) C dX12_attempt_63 (by decide) (fun c9 => ?_) (fun c9 => ?_)
  · replace h := ifp c9 h
    obtain rfl := Option.some.inj h
    exact g_sub [0, 1, 2, 3, 4, 5, 6, 7] rfl (show G X B 11 Z Q 114 [(0, .ref (x0)), (2, .int (x2)), (4, .int (x4)), (5, .int (x5)), (6, .int (x6)), (7, .int (x7)), (8, .int (x8)), (9, .int (x9))] [] T M from hE)
  · replace h := ifn c9 h
    refine g_iload (pc := 66) C dX12_attempt_66 2 rfl ?_
    refine g_i2l (pc := 68) C dX12_attempt_68 ?_
    refine g_iload (pc := 69) C dX12_attempt_69 8 rfl ?_
    replace h := bnd h; obtain ⟨r10, h1, h⟩ := h
    refine g_callSi (pc := 71) (As := [.long (Int32.toInt64 x4), .int (x10)]) (st := []) C dX12_attempt_71 wX12_isIn q_1580 q_1579 (by omega) rfl (Nat.le_of_ble_eq_true rfl) (kX12_isIn (d := 0) (Nat.le_refl _) h1) ?_
    refine g_if_ne (pc := 74) (tgt := 80) C dX12_attempt_74 (by decide) (fun c11 => ?_) (fun c11 => ?_)
    · replace h := ifn c11 h
      refine g_aload_n (pc := 80) C dX12_attempt_80 rfl 0 rfl ?_
      refine g_iload (pc := 81) C dX12_attempt_81 8 rfl ?_
      refine g_bipush (pc := 83) (v := 15) C dX12_attempt_83 (by decide) ?_
      refine g_isub (pc := 85) C dX12_attempt_85 ?_
      replace h := gd_some h; obtain ⟨hk12, h⟩ := h
      refine g_putI (pc := 86) C dX12_attempt_86 kX12 hk12 18 (by decide) rfl rfl rfl q_1245 ?_
      refine g_mem (fun M13 eM13 => ?_)
      replace h := lt_at eM13 h
      refine g_aload_n (pc := 89) C dX12_attempt_89 rfl 0 rfl ?_
      refine g_iload_n (pc := 90) C dX12_attempt_90 rfl 1 rfl ?_
      refine g_iload (pc := 91) C dX12_attempt_91 5 rfl ?_
      replace h := bnd2 h; obtain ⟨r14, M15, h1, h⟩ := h
      refine g_callVi (pc := 93) (As := [.int (x2), .int (x7)]) (st := []) C dX12_attempt_93 wX12_isPassed hk12 rfl (by decide) q_1506 q_80 q_1504 (by omega) rfl (Nat.le_of_ble_eq_true rfl) (kX12_isPassed (d := 2) (Nat.le_refl _) h1) ?_
      refine g_if_eq (pc := 96) (tgt := 105) C dX12_attempt_96 (by decide) (fun c16 => ?_) (fun c16 => ?_)
      · replace h := ifp c16 h
        obtain ⟨v17, ev17⟩ : ∃ y : Int32, y = x9 + (1 : Int32) := ⟨_, rfl⟩
        replace h := lt_at ev17 h
        refine g_iinc (pc := 105) (v := v17) (k := 7) (lo2 := [(9, .int (v17)), (0, .ref (x0)), (2, .int (x2)), (4, .int (x4)), (5, .int (x5)), (6, .int (x6)), (7, .int (x7)), (8, .int (x8)), (10, .int (x10))]) C dX12_attempt_105 rfl (by rw [ev17]; rfl) (by decide) rfl ?_
        obtain ⟨v18, ev18⟩ : ∃ y : Int32, y = x10 + (1 : Int32) := ⟨_, rfl⟩
        replace h := lt_at ev18 h
        refine g_iinc (pc := 108) (v := v18) (k := 8) (lo2 := [(10, .int (v18)), (9, .int (v17)), (0, .ref (x0)), (2, .int (x2)), (4, .int (x4)), (5, .int (x5)), (6, .int (x6)), (7, .int (x7)), (8, .int (x8))]) C dX12_attempt_108 rfl (by rw [ev18]; rfl) (by decide) rfl ?_
        refine g_goto (pc := 111) (tgt := 59) C dX12_attempt_111 (by decide) ?_
        obtain rfl := Option.some.inj h
        exact g_sub [2, 3, 4, 5, 6, 7, 8, 1, 0] rfl (show G X B 11 Z Q 59 [(0, .ref (x0)), (2, .int (x2)), (4, .int (x4)), (5, .int (x5)), (6, .int (x6)), (7, .int (x7)), (8, .int (x8)), (9, .int (v17)), (10, .int (v18))] [] T M15 from hE)
      · replace h := ifn c16 h
        obtain ⟨v19, ev19⟩ : ∃ y : Int32, y = x8 + (1 : Int32) := ⟨_, rfl⟩
        replace h := lt_at ev19 h
        refine g_iinc (pc := 99) (v := v19) (k := 6) (lo2 := [(8, .int (v19)), (0, .ref (x0)), (2, .int (x2)), (4, .int (x4)), (5, .int (x5)), (6, .int (x6)), (7, .int (x7)), (9, .int (x9)), (10, .int (x10))]) C dX12_attempt_99 rfl (by rw [ev19]; rfl) (by decide) rfl ?_
        refine g_goto (pc := 102) (tgt := 108) C dX12_attempt_102 (by decide) ?_
        obtain ⟨v20, ev20⟩ : ∃ y : Int32, y = x10 + (1 : Int32) := ⟨_, rfl⟩
        replace h := lt_at ev20 h
        refine g_iinc (pc := 108) (v := v20) (k := 8) (lo2 := [(10, .int (v20)), (8, .int (v19)), (0, .ref (x0)), (2, .int (x2)), (4, .int (x4)), (5, .int (x5)), (6, .int (x6)), (7, .int (x7)), (9, .int (x9))]) C dX12_attempt_108 rfl (by rw [ev20]; rfl) (by decide) rfl ?_
        refine g_goto (pc := 111) (tgt := 59) C dX12_attempt_111 (by decide) ?_
        obtain rfl := Option.some.inj h
        exact g_sub [2, 3, 4, 5, 6, 7, 1, 8, 0] rfl (show G X B 11 Z Q 59 [(0, .ref (x0)), (2, .int (x2)), (4, .int (x4)), (5, .int (x5)), (6, .int (x6)), (7, .int (x7)), (8, .int (v19)), (9, .int (x9)), (10, .int (v20))] [] T M15 from hE)
    · replace h := ifp c11 h
      refine g_goto (pc := 77) (tgt := 108) C dX12_attempt_77 (by decide) ?_
      obtain ⟨v21, ev21⟩ : ∃ y : Int32, y = x10 + (1 : Int32) := ⟨_, rfl⟩
      replace h := lt_at ev21 h
      refine g_iinc (pc := 108) (v := v21) (k := 8) (lo2 := [(10, .int (v21)), (0, .ref (x0)), (2, .int (x2)), (4, .int (x4)), (5, .int (x5)), (6, .int (x6)), (7, .int (x7)), (8, .int (x8)), (9, .int (x9))]) C dX12_attempt_108 rfl (by rw [ev21]; rfl) (by decide) rfl ?_
      refine g_goto (pc := 111) (tgt := 59) C dX12_attempt_111 (by decide) ?_
      obtain rfl := Option.some.inj h
      exact g_sub [1, 2, 3, 4, 5, 6, 7, 8, 0] rfl (show G X B 11 Z Q 59 [(0, .ref (x0)), (2, .int (x2)), (4, .int (x4)), (5, .int (x5)), (6, .int (x6)), (7, .int (x7)), (8, .int (x8)), (9, .int (x9)), (10, .int (v21))] [] T M from hE)
def bX12_attempt_37 (T : Sh) (x0 : Nat) (x2 : Int32) (x4 : Int32) (x5 : Int32) (x6 : Int32) (x7 : Int32) (M : Me) : Option ((Int32 × Int32 × Int32 × Me) ⊕ ((Int32 × Me))) :=
  if (384 : Int32) ≤ x7 then (some (.inr (x5, M))) else (if x4 = 0 then (some (.inr (x5, M))) else ((lp FU (fun s => bX12_attempt_59 T x0 x2 x4 x5 x6 x7 s.1 s.2.1 s.2.2.1 s.2.2.2) ((0 : Int32), (0 : Int32), (0 : Int32), M)).bind (un3 fun x8_22 x9_23 M24 => if x8_22 ≤ x9_23 then (if x9_23 < x6 then (lt (x7 + (1 : Int32)) fun v27 => some (.inl (x7, x9_23, v27, M24))) else (lt (x7 + (1 : Int32)) fun v28 => some (.inl (x5, x6, v28, M24)))) else (if x8_22 < x6 then (lt (x7 + (1 : Int32)) fun v30 => some (.inl (x7, x8_22, v30, M24))) else (lt (x7 + (1 : Int32)) fun v31 => some (.inl (x5, x6, v31, M24)))))))
def PX12_attempt_37 (X : Fx) (B : Bx) (Z : Nat × Nat × Nat × Nat) (Q : State → Prop) (T : Sh) (x0 : Nat) (x2 : Int32) (x4 : Int32) (s : Int32 × Int32 × Int32 × Me) : Prop := G X B 11 Z Q 37 [(0, .ref (x0)), (2, .int (x2)), (4, .int (x4)), (5, .int (s.1)), (6, .int (s.2.1)), (7, .int (s.2.2.1))] [] T s.2.2.2
def EX12_attempt_37 (X : Fx) (B : Bx) (Z : Nat × Nat × Nat × Nat) (Q : State → Prop) (T : Sh) (x0 : Nat) (x2 : Int32) (x4 : Int32) (r : (Int32 × Me)) : Prop := G X B 11 Z Q 154 [(5, .int (r.1))] [] T r.2
set_option maxHeartbeats 4000000 in
theorem tbX12_attempt_37 {X : Fx} {B : Bx} {Z : Nat × Nat × Nat × Nat} {Q : State → Prop} {d : Nat} {T : Sh} (C : Cx X B cX12_attempt 11 RX12 d Z) (hd : 5 ≤ d) {x0 : Nat} {x2 : Int32} {x4 : Int32} : ∀ (s : Int32 × Int32 × Int32 × Me) (o : (Int32 × Int32 × Int32 × Me) ⊕ ((Int32 × Me))), bX12_attempt_37 T x0 x2 x4 s.1 s.2.1 s.2.2.1 s.2.2.2 = some o → lpE (PX12_attempt_37 X B Z Q T x0 x2 x4) (EX12_attempt_37 X B Z Q T x0 x2 x4) o → PX12_attempt_37 X B Z Q T x0 x2 x4 s := by
  rintro ⟨x5, x6, x7, M⟩ o h hE
  replace h : bX12_attempt_37 T x0 x2 x4 x5 x6 x7 M = some o := h
  unfold bX12_attempt_37 at h
  show G X B 11 Z Q 37 [(0, .ref (x0)), (2, .int (x2)), (4, .int (x4)), (5, .int (x5)), (6, .int (x6)), (7, .int (x7))] [] T M
  refine g_iload (pc := 37) C dX12_attempt_37 5 rfl ?_
  refine g_sipush (pc := 39) (v := 384) C dX12_attempt_39 (by decide) ?_
  refine g_icmp_ge (pc := 42) (tgt := 154) C dX12_attempt_42 (by decide) (fun c7 => ?_) (fun c7 => ?_)
  · replace h := ifp c7 h
    obtain rfl := Option.some.inj h
    exact g_sub [3] rfl (show G X B 11 Z Q 154 [(5, .int (x5))] [] T M from hE)
  · replace h := ifn c7 h
    refine g_iload (pc := 45) C dX12_attempt_45 2 rfl ?_
    refine g_if_eq (pc := 47) (tgt := 154) C dX12_attempt_47 (by decide) (fun c8 => ?_) (fun c8 => ?_)
    · replace h := ifp c8 h
      obtain rfl := Option.some.inj h
      exact g_sub [3] rfl (show G X B 11 Z Q 154 [(5, .int (x5))] [] T M from hE)
    · replace h := ifn c8 h
      refine g_iconst (pc := 50) (v := 0) C dX12_attempt_50 (by decide) ?_
      refine g_istore (pc := 51) (lo2 := [(8, .int ((0 : Int32))), (0, .ref (x0)), (2, .int (x2)), (4, .int (x4)), (5, .int (x5)), (6, .int (x6)), (7, .int (x7))]) C dX12_attempt_51 (by decide) rfl ?_
      refine g_iconst (pc := 53) (v := 0) C dX12_attempt_53 (by decide) ?_
      refine g_istore (pc := 54) (lo2 := [(9, .int ((0 : Int32))), (8, .int ((0 : Int32))), (0, .ref (x0)), (2, .int (x2)), (4, .int (x4)), (5, .int (x5)), (6, .int (x6)), (7, .int (x7))]) C dX12_attempt_54 (by decide) rfl ?_
      refine g_iconst (pc := 56) (v := 0) C dX12_attempt_56 (by decide) ?_
      refine g_istore (pc := 57) (lo2 := [(10, .int ((0 : Int32))), (9, .int ((0 : Int32))), (8, .int ((0 : Int32))), (0, .ref (x0)), (2, .int (x2)), (4, .int (x4)), (5, .int (x5)), (6, .int (x6)), (7, .int (x7))]) C dX12_attempt_57 (by decide) rfl ?_
      replace h := bnd3 h; obtain ⟨x8_22, x9_23, M24, h1, h⟩ := h
      refine g_sub [3, 4, 5, 6, 7, 8, 2, 1, 0] rfl ?_
      refine lp_G2 (P := PX12_attempt_59 X B _ _ T x0 x2 x4 x5 x6 x7) (E := EX12_attempt_59 X B _ _ T x0 x2 x4 x5 x6 x7) (tbX12_attempt_59 C hd) h1 ?_
      show G X B 11 _ _ 114 [(0, .ref (x0)), (2, .int (x2)), (4, .int (x4)), (5, .int (x5)), (6, .int (x6)), (7, .int (x7)), (8, .int (x8_22)), (9, .int (x9_23))] [] T M24
      refine g_iload (pc := 114) C dX12_attempt_114 6 rfl ?_
      refine g_iload (pc := 116) C dX12_attempt_116 7 rfl ?_
      refine g_icmp_le (pc := 118) (tgt := 126) C dX12_attempt_118 (by decide) (fun c25 => ?_) (fun c25 => ?_)
      · replace h := ifp c25 h
        refine g_iload (pc := 126) C dX12_attempt_126 7 rfl ?_
        refine g_istore (pc := 128) (lo2 := [(10, .int (x9_23)), (0, .ref (x0)), (2, .int (x2)), (4, .int (x4)), (5, .int (x5)), (6, .int (x6)), (7, .int (x7)), (8, .int (x8_22)), (9, .int (x9_23))]) C dX12_attempt_128 (by decide) rfl ?_
        refine g_iload (pc := 130) C dX12_attempt_130 0 rfl ?_
        refine g_iload (pc := 132) C dX12_attempt_132 5 rfl ?_
        refine g_icmp_lt (pc := 134) (tgt := 140) C dX12_attempt_134 (by decide) (fun c26 => ?_) (fun c26 => ?_)
        · replace h := ifp c26 h
          refine g_iload (pc := 140) C dX12_attempt_140 6 rfl ?_
          refine g_istore (pc := 142) (lo2 := [(5, .int (x7)), (10, .int (x9_23)), (0, .ref (x0)), (2, .int (x2)), (4, .int (x4)), (6, .int (x6)), (7, .int (x7)), (8, .int (x8_22)), (9, .int (x9_23))]) C dX12_attempt_142 (by decide) rfl ?_
          refine g_iload (pc := 144) C dX12_attempt_144 1 rfl ?_
          refine g_istore (pc := 146) (lo2 := [(6, .int (x9_23)), (5, .int (x7)), (10, .int (x9_23)), (0, .ref (x0)), (2, .int (x2)), (4, .int (x4)), (7, .int (x7)), (8, .int (x8_22)), (9, .int (x9_23))]) C dX12_attempt_146 (by decide) rfl ?_
          obtain ⟨v27, ev27⟩ : ∃ y : Int32, y = x7 + (1 : Int32) := ⟨_, rfl⟩
          replace h := lt_at ev27 h
          refine g_iinc (pc := 148) (v := v27) (k := 6) (lo2 := [(7, .int (v27)), (6, .int (x9_23)), (5, .int (x7)), (10, .int (x9_23)), (0, .ref (x0)), (2, .int (x2)), (4, .int (x4)), (8, .int (x8_22)), (9, .int (x9_23))]) C dX12_attempt_148 rfl (by rw [ev27]; rfl) (by decide) rfl ?_
          refine g_goto (pc := 151) (tgt := 37) C dX12_attempt_151 (by decide) ?_
          obtain rfl := Option.some.inj h
          exact g_sub [4, 5, 6, 2, 1, 0] rfl (show G X B 11 Z Q 37 [(0, .ref (x0)), (2, .int (x2)), (4, .int (x4)), (5, .int (x7)), (6, .int (x9_23)), (7, .int (v27))] [] T M24 from hE)
        · replace h := ifn c26 h
          refine g_goto (pc := 137) (tgt := 148) C dX12_attempt_137 (by decide) ?_
          obtain ⟨v28, ev28⟩ : ∃ y : Int32, y = x7 + (1 : Int32) := ⟨_, rfl⟩
          replace h := lt_at ev28 h
          refine g_iinc (pc := 148) (v := v28) (k := 6) (lo2 := [(7, .int (v28)), (10, .int (x9_23)), (0, .ref (x0)), (2, .int (x2)), (4, .int (x4)), (5, .int (x5)), (6, .int (x6)), (8, .int (x8_22)), (9, .int (x9_23))]) C dX12_attempt_148 rfl (by rw [ev28]; rfl) (by decide) rfl ?_
          refine g_goto (pc := 151) (tgt := 37) C dX12_attempt_151 (by decide) ?_
          obtain rfl := Option.some.inj h
          exact g_sub [2, 3, 4, 5, 6, 0] rfl (show G X B 11 Z Q 37 [(0, .ref (x0)), (2, .int (x2)), (4, .int (x4)), (5, .int (x5)), (6, .int (x6)), (7, .int (v28))] [] T M24 from hE)
      · replace h := ifn c25 h
        refine g_iload (pc := 121) C dX12_attempt_121 6 rfl ?_
        refine g_goto (pc := 123) (tgt := 128) C dX12_attempt_123 (by decide) ?_
        refine g_istore (pc := 128) (lo2 := [(10, .int (x8_22)), (0, .ref (x0)), (2, .int (x2)), (4, .int (x4)), (5, .int (x5)), (6, .int (x6)), (7, .int (x7)), (8, .int (x8_22)), (9, .int (x9_23))]) C dX12_attempt_128 (by decide) rfl ?_
        refine g_iload (pc := 130) C dX12_attempt_130 0 rfl ?_
        refine g_iload (pc := 132) C dX12_attempt_132 5 rfl ?_
        refine g_icmp_lt (pc := 134) (tgt := 140) C dX12_attempt_134 (by decide) (fun c29 => ?_) (fun c29 => ?_)
        · replace h := ifp c29 h
          refine g_iload (pc := 140) C dX12_attempt_140 6 rfl ?_
          refine g_istore (pc := 142) (lo2 := [(5, .int (x7)), (10, .int (x8_22)), (0, .ref (x0)), (2, .int (x2)), (4, .int (x4)), (6, .int (x6)), (7, .int (x7)), (8, .int (x8_22)), (9, .int (x9_23))]) C dX12_attempt_142 (by decide) rfl ?_
          refine g_iload (pc := 144) C dX12_attempt_144 1 rfl ?_
          refine g_istore (pc := 146) (lo2 := [(6, .int (x8_22)), (5, .int (x7)), (10, .int (x8_22)), (0, .ref (x0)), (2, .int (x2)), (4, .int (x4)), (7, .int (x7)), (8, .int (x8_22)), (9, .int (x9_23))]) C dX12_attempt_146 (by decide) rfl ?_
          obtain ⟨v30, ev30⟩ : ∃ y : Int32, y = x7 + (1 : Int32) := ⟨_, rfl⟩
          replace h := lt_at ev30 h
          refine g_iinc (pc := 148) (v := v30) (k := 6) (lo2 := [(7, .int (v30)), (6, .int (x8_22)), (5, .int (x7)), (10, .int (x8_22)), (0, .ref (x0)), (2, .int (x2)), (4, .int (x4)), (8, .int (x8_22)), (9, .int (x9_23))]) C dX12_attempt_148 rfl (by rw [ev30]; rfl) (by decide) rfl ?_
          refine g_goto (pc := 151) (tgt := 37) C dX12_attempt_151 (by decide) ?_
          obtain rfl := Option.some.inj h
          exact g_sub [4, 5, 6, 2, 1, 0] rfl (show G X B 11 Z Q 37 [(0, .ref (x0)), (2, .int (x2)), (4, .int (x4)), (5, .int (x7)), (6, .int (x8_22)), (7, .int (v30))] [] T M24 from hE)
        · replace h := ifn c29 h
          refine g_goto (pc := 137) (tgt := 148) C dX12_attempt_137 (by decide) ?_
          obtain ⟨v31, ev31⟩ : ∃ y : Int32, y = x7 + (1 : Int32) := ⟨_, rfl⟩
          replace h := lt_at ev31 h
          refine g_iinc (pc := 148) (v := v31) (k := 6) (lo2 := [(7, .int (v31)), (10, .int (x8_22)), (0, .ref (x0)), (2, .int (x2)), (4, .int (x4)), (5, .int (x5)), (6, .int (x6)), (8, .int (x8_22)), (9, .int (x9_23))]) C dX12_attempt_148 rfl (by rw [ev31]; rfl) (by decide) rfl ?_
          refine g_goto (pc := 151) (tgt := 37) C dX12_attempt_151 (by decide) ?_
          obtain rfl := Option.some.inj h
          exact g_sub [2, 3, 4, 5, 6, 0] rfl (show G X B 11 Z Q 37 [(0, .ref (x0)), (2, .int (x2)), (4, .int (x4)), (5, .int (x5)), (6, .int (x6)), (7, .int (v31))] [] T M24 from hE)
/-- EyeTrainerModel.attempt(II)I -/
def fX12_attempt (T : Sh) (M : Me) (x0 : Nat) (x1 : Int32) (x2 : Int32) : Option (Int32 × Me) :=
  gd (kd T x0 = 11) <| lt (pI M x0 0 (0 : Int32)) fun M2 => Option.bind (fX12_noSeen T M2 x0 x1 x2) fun r3 => if r3 = 0 then (Option.bind (fX12_driftsOf T M2 x0 x1 x2) <| un2 fun r5 M6 => (lp FU (fun s => bX12_attempt_37 T x0 x2 r5 s.1 s.2.1 s.2.2.1 s.2.2.2) ((-1 : Int32), (268435456 : Int32), (0 : Int32), M6)).bind (un2 fun x5_32 M33 => some (x5_32, M33))) else (some (r3, M2))
set_option maxHeartbeats 4000000 in
theorem kX12_attempt {l : Launch} {B : Bx} {d : Nat} (hd : 5 ≤ d) {T : Sh} {M : Me} {x0 : Nat} {x1 : Int32} {x2 : Int32} {r : Int32} {M' : Me} (h : fX12_attempt T M x0 x1 x2 = some (r, M')) : Kt l B yX12_attempt cX12_attempt 11 (some .int) d [.ref (x0), .int (x1), .int (x2)] T M (some (.int r)) T M' := by
  refine kt_of wX12_attempt (Nat.le_refl _) (Nat.le_refl _) (Nat.le_of_ble_eq_true rfl) (fun X C hR hlx hin => ?_)
  subst hlx
  replace C : Cx X B cX12_attempt 11 RX12 d (tp T, sl T, tp T, sl T) := C
  unfold fX12_attempt at h
  show G X B 11 _ _ 0 [(0, .ref (x0)), (1, .int (x1)), (2, .int (x2))] [] T M
  refine g_aload_n (pc := 0) C dX12_attempt_0 rfl 0 rfl ?_
  refine g_iconst (pc := 1) (v := 0) C dX12_attempt_1 (by decide) ?_
  replace h := gd_some h; obtain ⟨hk1, h⟩ := h
  refine g_putI (pc := 2) C dX12_attempt_2 kX12 hk1 0 (by decide) rfl rfl rfl q_1227 ?_
  refine g_mem (fun M2 eM2 => ?_)
  replace h := lt_at eM2 h
  refine g_aload_n (pc := 5) C dX12_attempt_5 rfl 0 rfl ?_
  refine g_iload_n (pc := 6) C dX12_attempt_6 rfl 1 rfl ?_
  refine g_iload_n (pc := 7) C dX12_attempt_7 rfl 2 rfl ?_
  replace h := bnd h; obtain ⟨r3, h1, h⟩ := h
  refine g_callVi (pc := 8) (As := [.int (x1), .int (x2)]) (st := []) C dX12_attempt_8 wX12_noSeen hk1 rfl (by decide) q_1823 q_116 q_1821 (by omega) rfl (Nat.le_of_ble_eq_true rfl) (kX12_noSeen (d := 2) (Nat.le_refl _) h1) ?_
  refine g_istore_n (pc := 11) (lo2 := [(3, .int (r3)), (0, .ref (x0)), (1, .int (x1)), (2, .int (x2))]) C dX12_attempt_11 rfl (by decide) rfl ?_
  refine g_iload_n (pc := 12) C dX12_attempt_12 rfl 0 rfl ?_
  refine g_if_eq (pc := 13) (tgt := 18) C dX12_attempt_13 (by decide) (fun c4 => ?_) (fun c4 => ?_)
  · replace h := ifp c4 h
    refine g_aload_n (pc := 18) C dX12_attempt_18 rfl 1 rfl ?_
    refine g_iload_n (pc := 19) C dX12_attempt_19 rfl 2 rfl ?_
    refine g_iload_n (pc := 20) C dX12_attempt_20 rfl 3 rfl ?_
    replace h := bnd2 h; obtain ⟨r5, M6, h1, h⟩ := h
    refine g_callVi (pc := 21) (As := [.int (x1), .int (x2)]) (st := []) C dX12_attempt_21 wX12_driftsOf hk1 rfl (by decide) q_1829 q_117 q_1827 (by omega) rfl (Nat.le_of_ble_eq_true rfl) (kX12_driftsOf (d := 4) (Nat.le_refl _) h1) ?_
    refine g_istore (pc := 24) (lo2 := [(4, .int (r5)), (3, .int (r3)), (0, .ref (x0)), (1, .int (x1)), (2, .int (x2))]) C dX12_attempt_24 (by decide) rfl ?_
    refine g_iconst (pc := 26) (v := (-1)) C dX12_attempt_26 (by decide) ?_
    refine g_istore (pc := 27) (lo2 := [(5, .int ((-1 : Int32))), (4, .int (r5)), (3, .int (r3)), (0, .ref (x0)), (1, .int (x1)), (2, .int (x2))]) C dX12_attempt_27 (by decide) rfl ?_
    refine g_ldcw (pc := 29) C dX12_attempt_29 q_1619 ?_
    refine g_istore (pc := 32) (lo2 := [(6, .int ((268435456 : Int32))), (5, .int ((-1 : Int32))), (4, .int (r5)), (3, .int (r3)), (0, .ref (x0)), (1, .int (x1)), (2, .int (x2))]) C dX12_attempt_32 (by decide) rfl ?_
    refine g_iconst (pc := 34) (v := 0) C dX12_attempt_34 (by decide) ?_
    refine g_istore (pc := 35) (lo2 := [(7, .int ((0 : Int32))), (6, .int ((268435456 : Int32))), (5, .int ((-1 : Int32))), (4, .int (r5)), (3, .int (r3)), (0, .ref (x0)), (1, .int (x1)), (2, .int (x2))]) C dX12_attempt_35 (by decide) rfl ?_
    replace h := bnd2 h; obtain ⟨x5_32, M33, h1, h⟩ := h
    refine g_sub [5, 7, 3, 2, 1, 0] rfl ?_
    refine lp_G2 (P := PX12_attempt_37 X B _ _ T x0 x2 r5) (E := EX12_attempt_37 X B _ _ T x0 x2 r5) (tbX12_attempt_37 C hd) h1 ?_
    show G X B 11 _ _ 154 [(5, .int (x5_32))] [] T M33
    refine g_iload (pc := 154) C dX12_attempt_154 0 rfl ?_
    obtain ⟨rfl, rfl⟩ := Prod.mk.inj (Option.some.inj h)
    exact g_iret C hR dX12_attempt_156
  · replace h := ifn c4 h
    refine g_iload_n (pc := 16) C dX12_attempt_16 rfl 0 rfl ?_
    obtain ⟨rfl, rfl⟩ := Prod.mk.inj (Option.some.inj h)
    exact g_iret C hR dX12_attempt_17
theorem dX12_likelyOf_0 : decode cX12_likelyOf 0 = .ok (.aload_n 0, 1) := by decide +kernel
theorem dX12_likelyOf_1 : decode cX12_likelyOf 1 = .ok (.invokevirtual 251, 3) := by decide +kernel
theorem dX12_likelyOf_4 : decode cX12_likelyOf 4 = .ok (.iconst 0, 1) := by decide +kernel
theorem dX12_likelyOf_5 : decode cX12_likelyOf 5 = .ok (.istore_n 3, 1) := by decide +kernel
theorem dX12_likelyOf_6 : decode cX12_likelyOf 6 = .ok (.iload_n 3, 1) := by decide +kernel
theorem dX12_likelyOf_7 : decode cX12_likelyOf 7 = .ok (.bipush 24, 2) := by decide +kernel
theorem dX12_likelyOf_9 : decode cX12_likelyOf 9 = .ok (.if_icmp .ge 36, 3) := by decide +kernel
theorem dX12_likelyOf_12 : decode cX12_likelyOf 12 = .ok (.aload_n 0, 1) := by decide +kernel
theorem dX12_likelyOf_13 : decode cX12_likelyOf 13 = .ok (.getfield 58, 3) := by decide +kernel
theorem dX12_likelyOf_16 : decode cX12_likelyOf 16 = .ok (.iload_n 3, 1) := by decide +kernel
theorem dX12_likelyOf_17 : decode cX12_likelyOf 17 = .ok (.iload_n 3, 1) := by decide +kernel
theorem dX12_likelyOf_18 : decode cX12_likelyOf 18 = .ok (.aload_n 0, 1) := by decide +kernel
theorem dX12_likelyOf_19 : decode cX12_likelyOf 19 = .ok (.getfield 13, 3) := by decide +kernel
theorem dX12_likelyOf_22 : decode cX12_likelyOf 22 = .ok (.bipush 42, 2) := by decide +kernel
theorem dX12_likelyOf_24 : decode cX12_likelyOf 24 = .ok (.iload_n 1, 1) := by decide +kernel
theorem dX12_likelyOf_25 : decode cX12_likelyOf 25 = .ok (.iadd, 1) := by decide +kernel
theorem dX12_likelyOf_26 : decode cX12_likelyOf 26 = .ok (.iaload, 1) := by decide +kernel
theorem dX12_likelyOf_27 : decode cX12_likelyOf 27 = .ok (.bipush 24, 2) := by decide +kernel
theorem dX12_likelyOf_29 : decode cX12_likelyOf 29 = .ok (.irem, 1) := by decide +kernel
theorem dX12_likelyOf_30 : decode cX12_likelyOf 30 = .ok (.if_icmp .ne 7, 3) := by decide +kernel
theorem dX12_likelyOf_33 : decode cX12_likelyOf 33 = .ok (.lconst 1, 1) := by decide +kernel
theorem dX12_likelyOf_34 : decode cX12_likelyOf 34 = .ok (.goto 4, 3) := by decide +kernel
theorem dX12_likelyOf_37 : decode cX12_likelyOf 37 = .ok (.lconst 0, 1) := by decide +kernel
theorem dX12_likelyOf_38 : decode cX12_likelyOf 38 = .ok (.lastore, 1) := by decide +kernel
theorem dX12_likelyOf_39 : decode cX12_likelyOf 39 = .ok (.iinc 3 1, 3) := by decide +kernel
theorem dX12_likelyOf_42 : decode cX12_likelyOf 42 = .ok (.goto (-36), 3) := by decide +kernel
theorem dX12_likelyOf_45 : decode cX12_likelyOf 45 = .ok (.iconst 0, 1) := by decide +kernel
theorem dX12_likelyOf_46 : decode cX12_likelyOf 46 = .ok (.istore_n 3, 1) := by decide +kernel
theorem dX12_likelyOf_47 : decode cX12_likelyOf 47 = .ok (.iload_n 3, 1) := by decide +kernel
theorem dX12_likelyOf_48 : decode cX12_likelyOf 48 = .ok (.iload_n 2, 1) := by decide +kernel
theorem dX12_likelyOf_49 : decode cX12_likelyOf 49 = .ok (.if_icmp .ge 148, 3) := by decide +kernel
theorem dX12_likelyOf_52 : decode cX12_likelyOf 52 = .ok (.iconst 0, 1) := by decide +kernel
theorem dX12_likelyOf_53 : decode cX12_likelyOf 53 = .ok (.istore 4, 2) := by decide +kernel
theorem dX12_likelyOf_55 : decode cX12_likelyOf 55 = .ok (.iload 4, 2) := by decide +kernel
theorem dX12_likelyOf_57 : decode cX12_likelyOf 57 = .ok (.bipush 24, 2) := by decide +kernel
theorem dX12_likelyOf_59 : decode cX12_likelyOf 59 = .ok (.if_icmp .ge 27, 3) := by decide +kernel
theorem dX12_likelyOf_62 : decode cX12_likelyOf 62 = .ok (.aload_n 0, 1) := by decide +kernel
theorem dX12_likelyOf_63 : decode cX12_likelyOf 63 = .ok (.getfield 61, 3) := by decide +kernel
theorem dX12_likelyOf_66 : decode cX12_likelyOf 66 = .ok (.iload 4, 2) := by decide +kernel
theorem dX12_likelyOf_68 : decode cX12_likelyOf 68 = .ok (.ldc2_w 444, 3) := by decide +kernel
theorem dX12_likelyOf_71 : decode cX12_likelyOf 71 = .ok (.aload_n 0, 1) := by decide +kernel
theorem dX12_likelyOf_72 : decode cX12_likelyOf 72 = .ok (.getfield 58, 3) := by decide +kernel
theorem dX12_likelyOf_75 : decode cX12_likelyOf 75 = .ok (.iload 4, 2) := by decide +kernel
theorem dX12_likelyOf_77 : decode cX12_likelyOf 77 = .ok (.laload, 1) := by decide +kernel
theorem dX12_likelyOf_78 : decode cX12_likelyOf 78 = .ok (.lmul, 1) := by decide +kernel
theorem dX12_likelyOf_79 : decode cX12_likelyOf 79 = .ok (.lastore, 1) := by decide +kernel
theorem dX12_likelyOf_80 : decode cX12_likelyOf 80 = .ok (.iinc 4 1, 3) := by decide +kernel
theorem dX12_likelyOf_83 : decode cX12_likelyOf 83 = .ok (.goto (-28), 3) := by decide +kernel
theorem dX12_likelyOf_86 : decode cX12_likelyOf 86 = .ok (.iconst 0, 1) := by decide +kernel
theorem dX12_likelyOf_87 : decode cX12_likelyOf 87 = .ok (.istore 4, 2) := by decide +kernel
theorem dX12_likelyOf_89 : decode cX12_likelyOf 89 = .ok (.iload 4, 2) := by decide +kernel
theorem dX12_likelyOf_91 : decode cX12_likelyOf 91 = .ok (.bipush 24, 2) := by decide +kernel
theorem dX12_likelyOf_93 : decode cX12_likelyOf 93 = .ok (.if_icmp .ge 68, 3) := by decide +kernel
theorem dX12_likelyOf_96 : decode cX12_likelyOf 96 = .ok (.aload_n 0, 1) := by decide +kernel
theorem dX12_likelyOf_97 : decode cX12_likelyOf 97 = .ok (.getfield 61, 3) := by decide +kernel
theorem dX12_likelyOf_100 : decode cX12_likelyOf 100 = .ok (.iload 4, 2) := by decide +kernel
theorem dX12_likelyOf_102 : decode cX12_likelyOf 102 = .ok (.ifCond .le 10, 3) := by decide +kernel
theorem dX12_likelyOf_105 : decode cX12_likelyOf 105 = .ok (.iload 4, 2) := by decide +kernel
theorem dX12_likelyOf_107 : decode cX12_likelyOf 107 = .ok (.iconst 1, 1) := by decide +kernel
theorem dX12_likelyOf_108 : decode cX12_likelyOf 108 = .ok (.isub, 1) := by decide +kernel
theorem dX12_likelyOf_109 : decode cX12_likelyOf 109 = .ok (.goto 4, 3) := by decide +kernel
theorem dX12_likelyOf_112 : decode cX12_likelyOf 112 = .ok (.iconst 0, 1) := by decide +kernel
theorem dX12_likelyOf_113 : decode cX12_likelyOf 113 = .ok (.dup2, 1) := by decide +kernel
theorem dX12_likelyOf_114 : decode cX12_likelyOf 114 = .ok (.laload, 1) := by decide +kernel
theorem dX12_likelyOf_115 : decode cX12_likelyOf 115 = .ok (.aload_n 0, 1) := by decide +kernel
theorem dX12_likelyOf_116 : decode cX12_likelyOf 116 = .ok (.getfield 58, 3) := by decide +kernel
theorem dX12_likelyOf_119 : decode cX12_likelyOf 119 = .ok (.iload 4, 2) := by decide +kernel
theorem dX12_likelyOf_121 : decode cX12_likelyOf 121 = .ok (.laload, 1) := by decide +kernel
theorem dX12_likelyOf_122 : decode cX12_likelyOf 122 = .ok (.ladd, 1) := by decide +kernel
theorem dX12_likelyOf_123 : decode cX12_likelyOf 123 = .ok (.lastore, 1) := by decide +kernel
theorem dX12_likelyOf_124 : decode cX12_likelyOf 124 = .ok (.aload_n 0, 1) := by decide +kernel
theorem dX12_likelyOf_125 : decode cX12_likelyOf 125 = .ok (.getfield 61, 3) := by decide +kernel
theorem dX12_likelyOf_128 : decode cX12_likelyOf 128 = .ok (.iload 4, 2) := by decide +kernel
theorem dX12_likelyOf_130 : decode cX12_likelyOf 130 = .ok (.bipush 23, 2) := by decide +kernel
theorem dX12_likelyOf_132 : decode cX12_likelyOf 132 = .ok (.if_icmp .ge 10, 3) := by decide +kernel
theorem dX12_likelyOf_135 : decode cX12_likelyOf 135 = .ok (.iload 4, 2) := by decide +kernel
theorem dX12_likelyOf_137 : decode cX12_likelyOf 137 = .ok (.iconst 1, 1) := by decide +kernel
theorem dX12_likelyOf_138 : decode cX12_likelyOf 138 = .ok (.iadd, 1) := by decide +kernel
theorem dX12_likelyOf_139 : decode cX12_likelyOf 139 = .ok (.goto 5, 3) := by decide +kernel
theorem dX12_likelyOf_142 : decode cX12_likelyOf 142 = .ok (.iload 4, 2) := by decide +kernel
theorem dX12_likelyOf_144 : decode cX12_likelyOf 144 = .ok (.dup2, 1) := by decide +kernel
theorem dX12_likelyOf_145 : decode cX12_likelyOf 145 = .ok (.laload, 1) := by decide +kernel
theorem dX12_likelyOf_146 : decode cX12_likelyOf 146 = .ok (.aload_n 0, 1) := by decide +kernel
theorem dX12_likelyOf_147 : decode cX12_likelyOf 147 = .ok (.getfield 58, 3) := by decide +kernel
theorem dX12_likelyOf_150 : decode cX12_likelyOf 150 = .ok (.iload 4, 2) := by decide +kernel
theorem dX12_likelyOf_152 : decode cX12_likelyOf 152 = .ok (.laload, 1) := by decide +kernel
theorem dX12_likelyOf_153 : decode cX12_likelyOf 153 = .ok (.ladd, 1) := by decide +kernel
theorem dX12_likelyOf_154 : decode cX12_likelyOf 154 = .ok (.lastore, 1) := by decide +kernel
theorem dX12_likelyOf_155 : decode cX12_likelyOf 155 = .ok (.iinc 4 1, 3) := by decide +kernel
theorem dX12_likelyOf_158 : decode cX12_likelyOf 158 = .ok (.goto (-69), 3) := by decide +kernel
theorem dX12_likelyOf_161 : decode cX12_likelyOf 161 = .ok (.iconst 0, 1) := by decide +kernel
theorem dX12_likelyOf_162 : decode cX12_likelyOf 162 = .ok (.istore 4, 2) := by decide +kernel
theorem dX12_likelyOf_164 : decode cX12_likelyOf 164 = .ok (.iload 4, 2) := by decide +kernel
theorem dX12_likelyOf_166 : decode cX12_likelyOf 166 = .ok (.bipush 24, 2) := by decide +kernel
theorem dX12_likelyOf_168 : decode cX12_likelyOf 168 = .ok (.if_icmp .ge 23, 3) := by decide +kernel
theorem dX12_likelyOf_171 : decode cX12_likelyOf 171 = .ok (.aload_n 0, 1) := by decide +kernel
theorem dX12_likelyOf_172 : decode cX12_likelyOf 172 = .ok (.getfield 58, 3) := by decide +kernel
theorem dX12_likelyOf_175 : decode cX12_likelyOf 175 = .ok (.iload 4, 2) := by decide +kernel
theorem dX12_likelyOf_177 : decode cX12_likelyOf 177 = .ok (.aload_n 0, 1) := by decide +kernel
theorem dX12_likelyOf_178 : decode cX12_likelyOf 178 = .ok (.getfield 61, 3) := by decide +kernel
theorem dX12_likelyOf_181 : decode cX12_likelyOf 181 = .ok (.iload 4, 2) := by decide +kernel
theorem dX12_likelyOf_183 : decode cX12_likelyOf 183 = .ok (.laload, 1) := by decide +kernel
theorem dX12_likelyOf_184 : decode cX12_likelyOf 184 = .ok (.lastore, 1) := by decide +kernel
theorem dX12_likelyOf_185 : decode cX12_likelyOf 185 = .ok (.iinc 4 1, 3) := by decide +kernel
theorem dX12_likelyOf_188 : decode cX12_likelyOf 188 = .ok (.goto (-24), 3) := by decide +kernel
theorem dX12_likelyOf_191 : decode cX12_likelyOf 191 = .ok (.iinc 3 1, 3) := by decide +kernel
theorem dX12_likelyOf_194 : decode cX12_likelyOf 194 = .ok (.goto (-147), 3) := by decide +kernel
theorem dX12_likelyOf_197 : decode cX12_likelyOf 197 = .ok (.aload_n 0, 1) := by decide +kernel
theorem dX12_likelyOf_198 : decode cX12_likelyOf 198 = .ok (.iload_n 1, 1) := by decide +kernel
theorem dX12_likelyOf_199 : decode cX12_likelyOf 199 = .ok (.aload_n 0, 1) := by decide +kernel
theorem dX12_likelyOf_200 : decode cX12_likelyOf 200 = .ok (.getfield 13, 3) := by decide +kernel
theorem dX12_likelyOf_203 : decode cX12_likelyOf 203 = .ok (.bipush 42, 2) := by decide +kernel
theorem dX12_likelyOf_205 : decode cX12_likelyOf 205 = .ok (.iload_n 1, 1) := by decide +kernel
theorem dX12_likelyOf_206 : decode cX12_likelyOf 206 = .ok (.iadd, 1) := by decide +kernel
theorem dX12_likelyOf_207 : decode cX12_likelyOf 207 = .ok (.iaload, 1) := by decide +kernel
theorem dX12_likelyOf_208 : decode cX12_likelyOf 208 = .ok (.bipush 24, 2) := by decide +kernel
theorem dX12_likelyOf_210 : decode cX12_likelyOf 210 = .ok (.idiv, 1) := by decide +kernel
theorem dX12_likelyOf_211 : decode cX12_likelyOf 211 = .ok (.invokevirtual 233, 3) := by decide +kernel
theorem dX12_likelyOf_214 : decode cX12_likelyOf 214 = .ok (.istore_n 3, 1) := by decide +kernel
theorem dX12_likelyOf_215 : decode cX12_likelyOf 215 = .ok (.lconst 0, 1) := by decide +kernel
theorem dX12_likelyOf_216 : decode cX12_likelyOf 216 = .ok (.lstore 4, 2) := by decide +kernel
theorem dX12_likelyOf_218 : decode cX12_likelyOf 218 = .ok (.iconst 0, 1) := by decide +kernel
theorem dX12_likelyOf_219 : decode cX12_likelyOf 219 = .ok (.istore 6, 2) := by decide +kernel
theorem dX12_likelyOf_221 : decode cX12_likelyOf 221 = .ok (.iload 6, 2) := by decide +kernel
theorem dX12_likelyOf_223 : decode cX12_likelyOf 223 = .ok (.bipush 24, 2) := by decide +kernel
theorem dX12_likelyOf_225 : decode cX12_likelyOf 225 = .ok (.if_icmp .ge 35, 3) := by decide +kernel
theorem dX12_likelyOf_228 : decode cX12_likelyOf 228 = .ok (.lload 4, 2) := by decide +kernel
theorem dX12_likelyOf_230 : decode cX12_likelyOf 230 = .ok (.iload_n 3, 1) := by decide +kernel
theorem dX12_likelyOf_231 : decode cX12_likelyOf 231 = .ok (.i2l, 1) := by decide +kernel
theorem dX12_likelyOf_232 : decode cX12_likelyOf 232 = .ok (.iload 6, 2) := by decide +kernel
theorem dX12_likelyOf_234 : decode cX12_likelyOf 234 = .ok (.invokestatic 240, 3) := by decide +kernel
theorem dX12_likelyOf_237 : decode cX12_likelyOf 237 = .ok (.ifCond .eq 13, 3) := by decide +kernel
theorem dX12_likelyOf_240 : decode cX12_likelyOf 240 = .ok (.aload_n 0, 1) := by decide +kernel
theorem dX12_likelyOf_241 : decode cX12_likelyOf 241 = .ok (.getfield 58, 3) := by decide +kernel
theorem dX12_likelyOf_244 : decode cX12_likelyOf 244 = .ok (.iload 6, 2) := by decide +kernel
theorem dX12_likelyOf_246 : decode cX12_likelyOf 246 = .ok (.laload, 1) := by decide +kernel
theorem dX12_likelyOf_247 : decode cX12_likelyOf 247 = .ok (.goto 4, 3) := by decide +kernel
theorem dX12_likelyOf_250 : decode cX12_likelyOf 250 = .ok (.lconst 0, 1) := by decide +kernel
theorem dX12_likelyOf_251 : decode cX12_likelyOf 251 = .ok (.ladd, 1) := by decide +kernel
theorem dX12_likelyOf_252 : decode cX12_likelyOf 252 = .ok (.lstore 4, 2) := by decide +kernel
theorem dX12_likelyOf_254 : decode cX12_likelyOf 254 = .ok (.iinc 6 1, 3) := by decide +kernel
theorem dX12_likelyOf_257 : decode cX12_likelyOf 257 = .ok (.goto (-36), 3) := by decide +kernel
theorem dX12_likelyOf_260 : decode cX12_likelyOf 260 = .ok (.lload 4, 2) := by decide +kernel
theorem dX12_likelyOf_262 : decode cX12_likelyOf 262 = .ok (.lreturn, 1) := by decide +kernel
theorem wX12_likelyOf : Mw yX12_likelyOf cX12_likelyOf 7 (some .long) 2 := ⟨q_1843, q_130, by decide, ⟨by decide +kernel, by decide +kernel⟩, by decide +kernel, by decide +kernel⟩
-- a loop of EyeTrainerModel.likelyOf at 6
def bX12_likelyOf_6 (T : Sh) (x0 : Nat) (x1 : Int32) (x2 : Int32) (x3 : Int32) (M : Me) : Option ((Int32 × Me) ⊕ (Me)) :=
  if (24 : Int32) ≤ x3 then (some (.inr M)) else (gd (kd T x0 = 11) <| Option.bind (gR M x0 38) fun a5 => Option.bind (gR M x0 1) fun a6 => gd (kd T a6 = 13) <| gv ((42 : Int32) + x1) (ln T a6) <| if x3 = ((gI M a6 (Int32.toNatClampNeg ((42 : Int32) + x1))) - (gI M a6 (Int32.toNatClampNeg ((42 : Int32) + x1))) / (24 : Int32) * (24 : Int32)) then (gd (kd T a5 = 14) <| gv x3 (ln T a5) <| lt (pJ M a5 (Int32.toNatClampNeg x3) (1 : Int64)) fun M16 => lt (x3 + (1 : Int32)) fun v17 => some (.inl (v17, M16))) else (gd (kd T a5 = 14) <| gv x3 (ln T a5) <| lt (pJ M a5 (Int32.toNatClampNeg x3) (0 : Int64)) fun M12 => lt (x3 + (1 : Int32)) fun v13 => some (.inl (v13, M12))))
def PX12_likelyOf_6 (X : Fx) (B : Bx) (Z : Nat × Nat × Nat × Nat) (Q : State → Prop) (T : Sh) (x0 : Nat) (x1 : Int32) (x2 : Int32) (s : Int32 × Me) : Prop := G X B 7 Z Q 6 [(0, .ref (x0)), (1, .int (x1)), (2, .int (x2)), (3, .int (s.1))] [] T s.2
def EX12_likelyOf_6 (X : Fx) (B : Bx) (Z : Nat × Nat × Nat × Nat) (Q : State → Prop) (T : Sh) (x0 : Nat) (x1 : Int32) (x2 : Int32) (r : Me) : Prop := G X B 7 Z Q 45 [(0, .ref (x0)), (1, .int (x1)), (2, .int (x2))] [] T r
set_option maxHeartbeats 4000000 in
theorem tbX12_likelyOf_6 {X : Fx} {B : Bx} {Z : Nat × Nat × Nat × Nat} {Q : State → Prop} {d : Nat} {T : Sh} (C : Cx X B cX12_likelyOf 7 RX12 d Z) (hd : 4 ≤ d) {x0 : Nat} {x1 : Int32} {x2 : Int32} : ∀ (s : Int32 × Me) (o : (Int32 × Me) ⊕ (Me)), bX12_likelyOf_6 T x0 x1 x2 s.1 s.2 = some o → lpE (PX12_likelyOf_6 X B Z Q T x0 x1 x2) (EX12_likelyOf_6 X B Z Q T x0 x1 x2) o → PX12_likelyOf_6 X B Z Q T x0 x1 x2 s := by
  rintro ⟨x3, M⟩ o h hE
  replace h : bX12_likelyOf_6 T x0 x1 x2 x3 M = some o := h
  unfold bX12_likelyOf_6 at h
  show G X B 7 Z Q 6 [(0, .ref (x0)), (1, .int (x1)), (2, .int (x2)), (3, .int (x3))] [] T M
  refine g_iload_n (pc := 6) C dX12_likelyOf_6 rfl 3 rfl ?_
  refine g_bipush (pc := 7) (v := 24) C dX12_likelyOf_7 (by decide) ?_
  refine g_icmp_ge (pc := 9) (tgt := 45) C dX12_likelyOf_9 (by decide) (fun c3 => ?_) (fun c3 => ?_)
  · replace h := ifp c3 h
    obtain rfl := Option.some.inj h
    exact g_sub [0, 1, 2] rfl (show G X B 7 Z Q 45 [(0, .ref (x0)), (1, .int (x1)), (2, .int (x2))] [] T M from hE)
  · replace h := ifn c3 h
    refine g_aload_n (pc := 12) C dX12_likelyOf_12 rfl 0 rfl ?_
    replace h := gd_some h; obtain ⟨hk4, h⟩ := h
    refine g_get (pc := 13) (v := va_rf (gR M x0 38)) C dX12_likelyOf_13 kX12 hk4 38 (by decide) q_1265 rfl ?_
    replace h := bnd h; obtain ⟨a5, ea5, h⟩ := h
    refine g_refq ea5 ?_
    refine g_iload_n (pc := 16) C dX12_likelyOf_16 rfl 3 rfl ?_
    refine g_iload_n (pc := 17) C dX12_likelyOf_17 rfl 3 rfl ?_
    refine g_aload_n (pc := 18) C dX12_likelyOf_18 rfl 0 rfl ?_
    refine g_get (pc := 19) (v := va_rf (gR M x0 1)) C dX12_likelyOf_19 kX12 hk4 1 (by decide) q_1228 rfl ?_
    replace h := bnd h; obtain ⟨a6, ea6, h⟩ := h
    refine g_refq ea6 ?_
    refine g_bipush (pc := 22) (v := 42) C dX12_likelyOf_22 (by decide) ?_
    refine g_iload_n (pc := 24) C dX12_likelyOf_24 rfl 1 rfl ?_
    refine g_iadd (pc := 25) C dX12_likelyOf_25 ?_
    replace h := gd_some h; obtain ⟨hk7, h⟩ := h
    replace h := gv_some h; obtain ⟨hi8, h⟩ := h
    refine g_iald (pc := 26) C dX12_likelyOf_26 hk7 hi8 ?_
    refine g_bipush (pc := 27) (v := 24) C dX12_likelyOf_27 (by decide) ?_
    refine g_irem (pc := 29) C dX12_likelyOf_29 (by decide) ?_
    refine g_icmp_ne (pc := 30) (tgt := 37) C dX12_likelyOf_30 (by decide) (fun c9 => ?_) (fun c9 => ?_)
    · replace h := ifn c9 h
      refine g_lconst (pc := 37) (v := 0) C dX12_likelyOf_37 rfl ?_
      replace h := gd_some h; obtain ⟨hk10, h⟩ := h
      replace h := gv_some h; obtain ⟨hi11, h⟩ := h
      refine g_last (pc := 38) C dX12_likelyOf_38 hk10 hi11 ?_
      refine g_mem (fun M12 eM12 => ?_)
      replace h := lt_at eM12 h
      obtain ⟨v13, ev13⟩ : ∃ y : Int32, y = x3 + (1 : Int32) := ⟨_, rfl⟩
      replace h := lt_at ev13 h
      refine g_iinc (pc := 39) (v := v13) (k := 3) (lo2 := [(3, .int (v13)), (0, .ref (x0)), (1, .int (x1)), (2, .int (x2))]) C dX12_likelyOf_39 rfl (by rw [ev13]; rfl) (by decide) rfl ?_
      refine g_goto (pc := 42) (tgt := 6) C dX12_likelyOf_42 (by decide) ?_
      obtain rfl := Option.some.inj h
      exact g_sub [1, 2, 3, 0] rfl (show G X B 7 Z Q 6 [(0, .ref (x0)), (1, .int (x1)), (2, .int (x2)), (3, .int (v13))] [] T M12 from hE)
    · replace h := ifp c9 h
      refine g_lconst (pc := 33) (v := 1) C dX12_likelyOf_33 rfl ?_
      refine g_goto (pc := 34) (tgt := 38) C dX12_likelyOf_34 (by decide) ?_
      replace h := gd_some h; obtain ⟨hk14, h⟩ := h
      replace h := gv_some h; obtain ⟨hi15, h⟩ := h
      refine g_last (pc := 38) C dX12_likelyOf_38 hk14 hi15 ?_
      refine g_mem (fun M16 eM16 => ?_)
      replace h := lt_at eM16 h
      obtain ⟨v17, ev17⟩ : ∃ y : Int32, y = x3 + (1 : Int32) := ⟨_, rfl⟩
      replace h := lt_at ev17 h
      refine g_iinc (pc := 39) (v := v17) (k := 3) (lo2 := [(3, .int (v17)), (0, .ref (x0)), (1, .int (x1)), (2, .int (x2))]) C dX12_likelyOf_39 rfl (by rw [ev17]; rfl) (by decide) rfl ?_
      refine g_goto (pc := 42) (tgt := 6) C dX12_likelyOf_42 (by decide) ?_
      obtain rfl := Option.some.inj h
      exact g_sub [1, 2, 3, 0] rfl (show G X B 7 Z Q 6 [(0, .ref (x0)), (1, .int (x1)), (2, .int (x2)), (3, .int (v17))] [] T M16 from hE)
-- a loop of EyeTrainerModel.likelyOf at 47
-- a loop of EyeTrainerModel.likelyOf at 55
def bX12_likelyOf_55 (T : Sh) (x0 : Nat) (x1 : Int32) (x2 : Int32) (x3 : Int32) (x4 : Int32) (M : Me) : Option ((Int32 × Me) ⊕ (Me)) :=
  if (24 : Int32) ≤ x4 then (some (.inr M)) else (gd (kd T x0 = 11) <| Option.bind (gR M x0 39) fun a22 => Option.bind (gR M x0 38) fun a23 => gd (kd T a23 = 14) <| gv x4 (ln T a23) <| gd (kd T a22 = 14) <| gv x4 (ln T a22) <| lt (pJ M a22 (Int32.toNatClampNeg x4) ((8 : Int64) * (gJ M a23 (Int32.toNatClampNeg x4)))) fun M28 => lt (x4 + (1 : Int32)) fun v29 => some (.inl (v29, M28)))
def PX12_likelyOf_55 (X : Fx) (B : Bx) (Z : Nat × Nat × Nat × Nat) (Q : State → Prop) (T : Sh) (x0 : Nat) (x1 : Int32) (x2 : Int32) (x3 : Int32) (s : Int32 × Me) : Prop := G X B 7 Z Q 55 [(0, .ref (x0)), (1, .int (x1)), (2, .int (x2)), (3, .int (x3)), (4, .int (s.1))] [] T s.2
def EX12_likelyOf_55 (X : Fx) (B : Bx) (Z : Nat × Nat × Nat × Nat) (Q : State → Prop) (T : Sh) (x0 : Nat) (x1 : Int32) (x2 : Int32) (x3 : Int32) (r : Me) : Prop := G X B 7 Z Q 86 [(0, .ref (x0)), (1, .int (x1)), (2, .int (x2)), (3, .int (x3))] [] T r
set_option maxHeartbeats 4000000 in
theorem tbX12_likelyOf_55 {X : Fx} {B : Bx} {Z : Nat × Nat × Nat × Nat} {Q : State → Prop} {d : Nat} {T : Sh} (C : Cx X B cX12_likelyOf 7 RX12 d Z) (hd : 4 ≤ d) {x0 : Nat} {x1 : Int32} {x2 : Int32} {x3 : Int32} : ∀ (s : Int32 × Me) (o : (Int32 × Me) ⊕ (Me)), bX12_likelyOf_55 T x0 x1 x2 x3 s.1 s.2 = some o → lpE (PX12_likelyOf_55 X B Z Q T x0 x1 x2 x3) (EX12_likelyOf_55 X B Z Q T x0 x1 x2 x3) o → PX12_likelyOf_55 X B Z Q T x0 x1 x2 x3 s := by
  rintro ⟨x4, M⟩ o h hE
  replace h : bX12_likelyOf_55 T x0 x1 x2 x3 x4 M = some o := h
  unfold bX12_likelyOf_55 at h
  show G X B 7 Z Q 55 [(0, .ref (x0)), (1, .int (x1)), (2, .int (x2)), (3, .int (x3)), (4, .int (x4))] [] T M
  refine g_iload (pc := 55) C dX12_likelyOf_55 4 rfl ?_
  refine g_bipush (pc := 57) (v := 24) C dX12_likelyOf_57 (by decide) ?_
  refine g_icmp_ge (pc := 59) (tgt := 86) C dX12_likelyOf_59 (by decide) (fun c20 => ?_) (fun c20 => ?_)
  · replace h := ifp c20 h
    obtain rfl := Option.some.inj h
    exact g_sub [0, 1, 2, 3] rfl (show G X B 7 Z Q 86 [(0, .ref (x0)), (1, .int (x1)), (2, .int (x2)), (3, .int (x3))] [] T M from hE)
  · replace h := ifn c20 h
    refine g_aload_n (pc := 62) C dX12_likelyOf_62 rfl 0 rfl ?_
    replace h := gd_some h; obtain ⟨hk21, h⟩ := h
    refine g_get (pc := 63) (v := va_rf (gR M x0 39)) C dX12_likelyOf_63 kX12 hk21 39 (by decide) q_1266 rfl ?_
    replace h := bnd h; obtain ⟨a22, ea22, h⟩ := h
    refine g_refq ea22 ?_
    refine g_iload (pc := 66) C dX12_likelyOf_66 4 rfl ?_
    refine g_ldc2 (pc := 68) C dX12_likelyOf_68 q_1825 ?_
    refine g_aload_n (pc := 71) C dX12_likelyOf_71 rfl 0 rfl ?_
    refine g_get (pc := 72) (v := va_rf (gR M x0 38)) C dX12_likelyOf_72 kX12 hk21 38 (by decide) q_1265 rfl ?_
    replace h := bnd h; obtain ⟨a23, ea23, h⟩ := h
    refine g_refq ea23 ?_
    refine g_iload (pc := 75) C dX12_likelyOf_75 4 rfl ?_
    replace h := gd_some h; obtain ⟨hk24, h⟩ := h
    replace h := gv_some h; obtain ⟨hi25, h⟩ := h
    refine g_lald (pc := 77) C dX12_likelyOf_77 hk24 hi25 ?_
    refine g_lmul (pc := 78) C dX12_likelyOf_78 ?_
    replace h := gd_some h; obtain ⟨hk26, h⟩ := h
    replace h := gv_some h; obtain ⟨hi27, h⟩ := h
    refine g_last (pc := 79) C dX12_likelyOf_79 hk26 hi27 ?_
    refine g_mem (fun M28 eM28 => ?_)
    replace h := lt_at eM28 h
    obtain ⟨v29, ev29⟩ : ∃ y : Int32, y = x4 + (1 : Int32) := ⟨_, rfl⟩
    replace h := lt_at ev29 h
    refine g_iinc (pc := 80) (v := v29) (k := 4) (lo2 := [(4, .int (v29)), (0, .ref (x0)), (1, .int (x1)), (2, .int (x2)), (3, .int (x3))]) C dX12_likelyOf_80 rfl (by rw [ev29]; rfl) (by decide) rfl ?_
    refine g_goto (pc := 83) (tgt := 55) C dX12_likelyOf_83 (by decide) ?_
    obtain rfl := Option.some.inj h
    exact g_sub [1, 2, 3, 4, 0] rfl (show G X B 7 Z Q 55 [(0, .ref (x0)), (1, .int (x1)), (2, .int (x2)), (3, .int (x3)), (4, .int (v29))] [] T M28 from hE)
-- a loop of EyeTrainerModel.likelyOf at 89
def jX12_likelyOf_113 (T : Sh) (M : Me) (x0 : Nat) (x1 : Int32) (x2 : Int32) (x3 : Int32) (x4 : Int32) (s0 : Int32) (s1 : Nat) : Option ((Int32 × Me) ⊕ (Me)) :=
  gd (kd T s1 = 14) <| gv s0 (ln T s1) <| gd (kd T x0 = 11) <| Option.bind (gR M x0 38) fun a38 => gd (kd T a38 = 14) <| gv x4 (ln T a38) <| gv s0 (ln T s1) <| lt (pJ M s1 (Int32.toNatClampNeg s0) ((gJ M s1 (Int32.toNatClampNeg s0)) + (gJ M a38 (Int32.toNatClampNeg x4)))) fun M42 => Option.bind (gR M42 x0 39) fun a43 => if (23 : Int32) ≤ x4 then (gd (kd T a43 = 14) <| gv x4 (ln T a43) <| Option.bind (gR M42 x0 38) fun a47 => gd (kd T a47 = 14) <| gv x4 (ln T a47) <| gv x4 (ln T a43) <| lt (pJ M42 a43 (Int32.toNatClampNeg x4) ((gJ M42 a43 (Int32.toNatClampNeg x4)) + (gJ M42 a47 (Int32.toNatClampNeg x4)))) fun M51 => lt (x4 + (1 : Int32)) fun v52 => some (.inl (v52, M51))) else (gd (kd T a43 = 14) <| gv (x4 + (1 : Int32)) (ln T a43) <| Option.bind (gR M42 x0 38) fun a55 => gd (kd T a55 = 14) <| gv x4 (ln T a55) <| gv (x4 + (1 : Int32)) (ln T a43) <| lt (pJ M42 a43 (Int32.toNatClampNeg (x4 + (1 : Int32))) ((gJ M42 a43 (Int32.toNatClampNeg (x4 + (1 : Int32)))) + (gJ M42 a55 (Int32.toNatClampNeg x4)))) fun M59 => lt (x4 + (1 : Int32)) fun v60 => some (.inl (v60, M59)))
def bX12_likelyOf_89 (T : Sh) (x0 : Nat) (x1 : Int32) (x2 : Int32) (x3 : Int32) (x4 : Int32) (M : Me) : Option ((Int32 × Me) ⊕ (Me)) :=
  if (24 : Int32) ≤ x4 then (some (.inr M)) else (gd (kd T x0 = 11) <| Option.bind (gR M x0 39) fun a33 => if x4 ≤ 0 then (jX12_likelyOf_113 T M x0 x1 x2 x3 x4 (0 : Int32) a33) else (jX12_likelyOf_113 T M x0 x1 x2 x3 x4 (x4 - (1 : Int32)) a33))
def PX12_likelyOf_89 (X : Fx) (B : Bx) (Z : Nat × Nat × Nat × Nat) (Q : State → Prop) (T : Sh) (x0 : Nat) (x1 : Int32) (x2 : Int32) (x3 : Int32) (s : Int32 × Me) : Prop := G X B 7 Z Q 89 [(0, .ref (x0)), (1, .int (x1)), (2, .int (x2)), (3, .int (x3)), (4, .int (s.1))] [] T s.2
def EX12_likelyOf_89 (X : Fx) (B : Bx) (Z : Nat × Nat × Nat × Nat) (Q : State → Prop) (T : Sh) (x0 : Nat) (x1 : Int32) (x2 : Int32) (x3 : Int32) (r : Me) : Prop := G X B 7 Z Q 161 [(0, .ref (x0)), (1, .int (x1)), (2, .int (x2)), (3, .int (x3))] [] T r
set_option maxHeartbeats 4000000 in
theorem tjX12_likelyOf_113 {X : Fx} {B : Bx} {Z : Nat × Nat × Nat × Nat} {Q : State → Prop} {d : Nat} {T : Sh} {M : Me} {x0 : Nat} {x1 : Int32} {x2 : Int32} {x3 : Int32} {x4 : Int32} {s0 : Int32} {s1 : Nat} {o : (Int32 × Me) ⊕ (Me)} (C : Cx X B cX12_likelyOf 7 RX12 d Z) (hd : 4 ≤ d) (h : jX12_likelyOf_113 T M x0 x1 x2 x3 x4 s0 s1 = some o) (hE : lpE (PX12_likelyOf_89 X B Z Q T x0 x1 x2 x3) (EX12_likelyOf_89 X B Z Q T x0 x1 x2 x3) o) : G X B 7 Z Q 113 [(0, .ref (x0)), (1, .int (x1)), (2, .int (x2)), (3, .int (x3)), (4, .int (x4))] [.int (s0), .ref (s1)] T M := by
  unfold jX12_likelyOf_113 at h
  refine g_dup2 (pc := 113) C dX12_likelyOf_113 rfl rfl ?_
  replace h := gd_some h; obtain ⟨hk35, h⟩ := h
  replace h := gv_some h; obtain ⟨hi36, h⟩ := h
  refine g_lald (pc := 114) C dX12_likelyOf_114 hk35 hi36 ?_
  refine g_aload_n (pc := 115) C dX12_likelyOf_115 rfl 0 rfl ?_
  replace h := gd_some h; obtain ⟨hk37, h⟩ := h
  refine g_get (pc := 116) (v := va_rf (gR M x0 38)) C dX12_likelyOf_116 kX12 hk37 38 (by decide) q_1265 rfl ?_
  replace h := bnd h; obtain ⟨a38, ea38, h⟩ := h
  refine g_refq ea38 ?_
  refine g_iload (pc := 119) C dX12_likelyOf_119 4 rfl ?_
  replace h := gd_some h; obtain ⟨hk39, h⟩ := h
  replace h := gv_some h; obtain ⟨hi40, h⟩ := h
  refine g_lald (pc := 121) C dX12_likelyOf_121 hk39 hi40 ?_
  refine g_ladd (pc := 122) C dX12_likelyOf_122 ?_
  replace h := gv_some h; obtain ⟨hi41, h⟩ := h
  refine g_last (pc := 123) C dX12_likelyOf_123 hk35 hi41 ?_
  refine g_mem (fun M42 eM42 => ?_)
  replace h := lt_at eM42 h
  refine g_aload_n (pc := 124) C dX12_likelyOf_124 rfl 0 rfl ?_
  refine g_get (pc := 125) (v := va_rf (gR M42 x0 39)) C dX12_likelyOf_125 kX12 hk37 39 (by decide) q_1266 rfl ?_
  replace h := bnd h; obtain ⟨a43, ea43, h⟩ := h
  refine g_refq ea43 ?_
  refine g_iload (pc := 128) C dX12_likelyOf_128 4 rfl ?_
  refine g_bipush (pc := 130) (v := 23) C dX12_likelyOf_130 (by decide) ?_
  refine g_icmp_ge (pc := 132) (tgt := 142) C dX12_likelyOf_132 (by decide) (fun c44 => ?_) (fun c44 => ?_)
  · replace h := ifp c44 h
    refine g_iload (pc := 142) C dX12_likelyOf_142 4 rfl ?_
    refine g_dup2 (pc := 144) C dX12_likelyOf_144 rfl rfl ?_
    replace h := gd_some h; obtain ⟨hk45, h⟩ := h
    replace h := gv_some h; obtain ⟨hi46, h⟩ := h
    refine g_lald (pc := 145) C dX12_likelyOf_145 hk45 hi46 ?_
    refine g_aload_n (pc := 146) C dX12_likelyOf_146 rfl 0 rfl ?_
    refine g_get (pc := 147) (v := va_rf (gR M42 x0 38)) C dX12_likelyOf_147 kX12 hk37 38 (by decide) q_1265 rfl ?_
    replace h := bnd h; obtain ⟨a47, ea47, h⟩ := h
    refine g_refq ea47 ?_
    refine g_iload (pc := 150) C dX12_likelyOf_150 4 rfl ?_
    replace h := gd_some h; obtain ⟨hk48, h⟩ := h
    replace h := gv_some h; obtain ⟨hi49, h⟩ := h
    refine g_lald (pc := 152) C dX12_likelyOf_152 hk48 hi49 ?_
    refine g_ladd (pc := 153) C dX12_likelyOf_153 ?_
    replace h := gv_some h; obtain ⟨hi50, h⟩ := h
    refine g_last (pc := 154) C dX12_likelyOf_154 hk45 hi50 ?_
    refine g_mem (fun M51 eM51 => ?_)
    replace h := lt_at eM51 h
    obtain ⟨v52, ev52⟩ : ∃ y : Int32, y = x4 + (1 : Int32) := ⟨_, rfl⟩
    replace h := lt_at ev52 h
    refine g_iinc (pc := 155) (v := v52) (k := 4) (lo2 := [(4, .int (v52)), (0, .ref (x0)), (1, .int (x1)), (2, .int (x2)), (3, .int (x3))]) C dX12_likelyOf_155 rfl (by rw [ev52]; rfl) (by decide) rfl ?_
    refine g_goto (pc := 158) (tgt := 89) C dX12_likelyOf_158 (by decide) ?_
    obtain rfl := Option.some.inj h
    exact g_sub [1, 2, 3, 4, 0] rfl (show G X B 7 Z Q 89 [(0, .ref (x0)), (1, .int (x1)), (2, .int (x2)), (3, .int (x3)), (4, .int (v52))] [] T M51 from hE)
  · replace h := ifn c44 h
    refine g_iload (pc := 135) C dX12_likelyOf_135 4 rfl ?_
    refine g_iconst (pc := 137) (v := 1) C dX12_likelyOf_137 (by decide) ?_
    refine g_iadd (pc := 138) C dX12_likelyOf_138 ?_
    refine g_goto (pc := 139) (tgt := 144) C dX12_likelyOf_139 (by decide) ?_
    refine g_dup2 (pc := 144) C dX12_likelyOf_144 rfl rfl ?_
    replace h := gd_some h; obtain ⟨hk53, h⟩ := h
    replace h := gv_some h; obtain ⟨hi54, h⟩ := h
    refine g_lald (pc := 145) C dX12_likelyOf_145 hk53 hi54 ?_
    refine g_aload_n (pc := 146) C dX12_likelyOf_146 rfl 0 rfl ?_
    refine g_get (pc := 147) (v := va_rf (gR M42 x0 38)) C dX12_likelyOf_147 kX12 hk37 38 (by decide) q_1265 rfl ?_
    replace h := bnd h; obtain ⟨a55, ea55, h⟩ := h
    refine g_refq ea55 ?_
    refine g_iload (pc := 150) C dX12_likelyOf_150 4 rfl ?_
    replace h := gd_some h; obtain ⟨hk56, h⟩ := h
    replace h := gv_some h; obtain ⟨hi57, h⟩ := h
    refine g_lald (pc := 152) C dX12_likelyOf_152 hk56 hi57 ?_
    refine g_ladd (pc := 153) C dX12_likelyOf_153 ?_
    replace h := gv_some h; obtain ⟨hi58, h⟩ := h
    refine g_last (pc := 154) C dX12_likelyOf_154 hk53 hi58 ?_
    refine g_mem (fun M59 eM59 => ?_)
    replace h := lt_at eM59 h
    obtain ⟨v60, ev60⟩ : ∃ y : Int32, y = x4 + (1 : Int32) := ⟨_, rfl⟩
    replace h := lt_at ev60 h
    refine g_iinc (pc := 155) (v := v60) (k := 4) (lo2 := [(4, .int (v60)), (0, .ref (x0)), (1, .int (x1)), (2, .int (x2)), (3, .int (x3))]) C dX12_likelyOf_155 rfl (by rw [ev60]; rfl) (by decide) rfl ?_
    refine g_goto (pc := 158) (tgt := 89) C dX12_likelyOf_158 (by decide) ?_
    obtain rfl := Option.some.inj h
    exact g_sub [1, 2, 3, 4, 0] rfl (show G X B 7 Z Q 89 [(0, .ref (x0)), (1, .int (x1)), (2, .int (x2)), (3, .int (x3)), (4, .int (v60))] [] T M59 from hE)
set_option maxHeartbeats 4000000 in
theorem tbX12_likelyOf_89 {X : Fx} {B : Bx} {Z : Nat × Nat × Nat × Nat} {Q : State → Prop} {d : Nat} {T : Sh} (C : Cx X B cX12_likelyOf 7 RX12 d Z) (hd : 4 ≤ d) {x0 : Nat} {x1 : Int32} {x2 : Int32} {x3 : Int32} : ∀ (s : Int32 × Me) (o : (Int32 × Me) ⊕ (Me)), bX12_likelyOf_89 T x0 x1 x2 x3 s.1 s.2 = some o → lpE (PX12_likelyOf_89 X B Z Q T x0 x1 x2 x3) (EX12_likelyOf_89 X B Z Q T x0 x1 x2 x3) o → PX12_likelyOf_89 X B Z Q T x0 x1 x2 x3 s := by
  rintro ⟨x4, M⟩ o h hE
  replace h : bX12_likelyOf_89 T x0 x1 x2 x3 x4 M = some o := h
  unfold bX12_likelyOf_89 at h
  show G X B 7 Z Q 89 [(0, .ref (x0)), (1, .int (x1)), (2, .int (x2)), (3, .int (x3)), (4, .int (x4))] [] T M
  refine g_iload (pc := 89) C dX12_likelyOf_89 4 rfl ?_
  refine g_bipush (pc := 91) (v := 24) C dX12_likelyOf_91 (by decide) ?_
  refine g_icmp_ge (pc := 93) (tgt := 161) C dX12_likelyOf_93 (by decide) (fun c31 => ?_) (fun c31 => ?_)
  · replace h := ifp c31 h
    obtain rfl := Option.some.inj h
    exact g_sub [0, 1, 2, 3] rfl (show G X B 7 Z Q 161 [(0, .ref (x0)), (1, .int (x1)), (2, .int (x2)), (3, .int (x3))] [] T M from hE)
  · replace h := ifn c31 h
    refine g_aload_n (pc := 96) C dX12_likelyOf_96 rfl 0 rfl ?_
    replace h := gd_some h; obtain ⟨hk32, h⟩ := h
    refine g_get (pc := 97) (v := va_rf (gR M x0 39)) C dX12_likelyOf_97 kX12 hk32 39 (by decide) q_1266 rfl ?_
    replace h := bnd h; obtain ⟨a33, ea33, h⟩ := h
    refine g_refq ea33 ?_
    refine g_iload (pc := 100) C dX12_likelyOf_100 4 rfl ?_
    refine g_if_le (pc := 102) (tgt := 112) C dX12_likelyOf_102 (by decide) (fun c34 => ?_) (fun c34 => ?_)
    · replace h := ifp c34 h
      refine g_iconst (pc := 112) (v := 0) C dX12_likelyOf_112 (by decide) ?_
      exact g_sub [0, 1, 2, 3, 4] rfl (tjX12_likelyOf_113 C hd h hE)
    · replace h := ifn c34 h
      refine g_iload (pc := 105) C dX12_likelyOf_105 4 rfl ?_
      refine g_iconst (pc := 107) (v := 1) C dX12_likelyOf_107 (by decide) ?_
      refine g_isub (pc := 108) C dX12_likelyOf_108 ?_
      refine g_goto (pc := 109) (tgt := 113) C dX12_likelyOf_109 (by decide) ?_
      exact g_sub [0, 1, 2, 3, 4] rfl (tjX12_likelyOf_113 C hd h hE)
-- a loop of EyeTrainerModel.likelyOf at 164
def bX12_likelyOf_164 (T : Sh) (x0 : Nat) (x1 : Int32) (x2 : Int32) (x3 : Int32) (x4 : Int32) (M : Me) : Option ((Int32 × Me) ⊕ (Me)) :=
  if (24 : Int32) ≤ x4 then (some (.inr M)) else (gd (kd T x0 = 11) <| Option.bind (gR M x0 38) fun a64 => Option.bind (gR M x0 39) fun a65 => gd (kd T a65 = 14) <| gv x4 (ln T a65) <| gd (kd T a64 = 14) <| gv x4 (ln T a64) <| lt (pJ M a64 (Int32.toNatClampNeg x4) (gJ M a65 (Int32.toNatClampNeg x4))) fun M70 => lt (x4 + (1 : Int32)) fun v71 => some (.inl (v71, M70)))
def PX12_likelyOf_164 (X : Fx) (B : Bx) (Z : Nat × Nat × Nat × Nat) (Q : State → Prop) (T : Sh) (x0 : Nat) (x1 : Int32) (x2 : Int32) (x3 : Int32) (s : Int32 × Me) : Prop := G X B 7 Z Q 164 [(0, .ref (x0)), (1, .int (x1)), (2, .int (x2)), (3, .int (x3)), (4, .int (s.1))] [] T s.2
def EX12_likelyOf_164 (X : Fx) (B : Bx) (Z : Nat × Nat × Nat × Nat) (Q : State → Prop) (T : Sh) (x0 : Nat) (x1 : Int32) (x2 : Int32) (x3 : Int32) (r : Me) : Prop := G X B 7 Z Q 191 [(0, .ref (x0)), (1, .int (x1)), (2, .int (x2)), (3, .int (x3))] [] T r
set_option maxHeartbeats 4000000 in
theorem tbX12_likelyOf_164 {X : Fx} {B : Bx} {Z : Nat × Nat × Nat × Nat} {Q : State → Prop} {d : Nat} {T : Sh} (C : Cx X B cX12_likelyOf 7 RX12 d Z) (hd : 4 ≤ d) {x0 : Nat} {x1 : Int32} {x2 : Int32} {x3 : Int32} : ∀ (s : Int32 × Me) (o : (Int32 × Me) ⊕ (Me)), bX12_likelyOf_164 T x0 x1 x2 x3 s.1 s.2 = some o → lpE (PX12_likelyOf_164 X B Z Q T x0 x1 x2 x3) (EX12_likelyOf_164 X B Z Q T x0 x1 x2 x3) o → PX12_likelyOf_164 X B Z Q T x0 x1 x2 x3 s := by
  rintro ⟨x4, M⟩ o h hE
  replace h : bX12_likelyOf_164 T x0 x1 x2 x3 x4 M = some o := h
  unfold bX12_likelyOf_164 at h
  show G X B 7 Z Q 164 [(0, .ref (x0)), (1, .int (x1)), (2, .int (x2)), (3, .int (x3)), (4, .int (x4))] [] T M
  refine g_iload (pc := 164) C dX12_likelyOf_164 4 rfl ?_
  refine g_bipush (pc := 166) (v := 24) C dX12_likelyOf_166 (by decide) ?_
  refine g_icmp_ge (pc := 168) (tgt := 191) C dX12_likelyOf_168 (by decide) (fun c62 => ?_) (fun c62 => ?_)
  · replace h := ifp c62 h
    obtain rfl := Option.some.inj h
    exact g_sub [0, 1, 2, 3] rfl (show G X B 7 Z Q 191 [(0, .ref (x0)), (1, .int (x1)), (2, .int (x2)), (3, .int (x3))] [] T M from hE)
  · replace h := ifn c62 h
    refine g_aload_n (pc := 171) C dX12_likelyOf_171 rfl 0 rfl ?_
    replace h := gd_some h; obtain ⟨hk63, h⟩ := h
    refine g_get (pc := 172) (v := va_rf (gR M x0 38)) C dX12_likelyOf_172 kX12 hk63 38 (by decide) q_1265 rfl ?_
    replace h := bnd h; obtain ⟨a64, ea64, h⟩ := h
    refine g_refq ea64 ?_
    refine g_iload (pc := 175) C dX12_likelyOf_175 4 rfl ?_
    refine g_aload_n (pc := 177) C dX12_likelyOf_177 rfl 0 rfl ?_
    refine g_get (pc := 178) (v := va_rf (gR M x0 39)) C dX12_likelyOf_178 kX12 hk63 39 (by decide) q_1266 rfl ?_
    replace h := bnd h; obtain ⟨a65, ea65, h⟩ := h
    refine g_refq ea65 ?_
    refine g_iload (pc := 181) C dX12_likelyOf_181 4 rfl ?_
    replace h := gd_some h; obtain ⟨hk66, h⟩ := h
    replace h := gv_some h; obtain ⟨hi67, h⟩ := h
    refine g_lald (pc := 183) C dX12_likelyOf_183 hk66 hi67 ?_
    replace h := gd_some h; obtain ⟨hk68, h⟩ := h
    replace h := gv_some h; obtain ⟨hi69, h⟩ := h
    refine g_last (pc := 184) C dX12_likelyOf_184 hk68 hi69 ?_
    refine g_mem (fun M70 eM70 => ?_)
    replace h := lt_at eM70 h
    obtain ⟨v71, ev71⟩ : ∃ y : Int32, y = x4 + (1 : Int32) := ⟨_, rfl⟩
    replace h := lt_at ev71 h
    refine g_iinc (pc := 185) (v := v71) (k := 4) (lo2 := [(4, .int (v71)), (0, .ref (x0)), (1, .int (x1)), (2, .int (x2)), (3, .int (x3))]) C dX12_likelyOf_185 rfl (by rw [ev71]; rfl) (by decide) rfl ?_
    refine g_goto (pc := 188) (tgt := 164) C dX12_likelyOf_188 (by decide) ?_
    obtain rfl := Option.some.inj h
    exact g_sub [1, 2, 3, 4, 0] rfl (show G X B 7 Z Q 164 [(0, .ref (x0)), (1, .int (x1)), (2, .int (x2)), (3, .int (x3)), (4, .int (v71))] [] T M70 from hE)
def bX12_likelyOf_47 (T : Sh) (x0 : Nat) (x1 : Int32) (x2 : Int32) (x3 : Int32) (M : Me) : Option ((Int32 × Me) ⊕ (Me)) :=
  if x2 ≤ x3 then (some (.inr M)) else ((lp FU (fun s => bX12_likelyOf_55 T x0 x1 x2 x3 s.1 s.2) ((0 : Int32), M)).bind (fun M30 => (lp FU (fun s => bX12_likelyOf_89 T x0 x1 x2 x3 s.1 s.2) ((0 : Int32), M30)).bind (fun M61 => (lp FU (fun s => bX12_likelyOf_164 T x0 x1 x2 x3 s.1 s.2) ((0 : Int32), M61)).bind (fun M72 => lt (x3 + (1 : Int32)) fun v73 => some (.inl (v73, M72))))))
def PX12_likelyOf_47 (X : Fx) (B : Bx) (Z : Nat × Nat × Nat × Nat) (Q : State → Prop) (T : Sh) (x0 : Nat) (x1 : Int32) (x2 : Int32) (s : Int32 × Me) : Prop := G X B 7 Z Q 47 [(0, .ref (x0)), (1, .int (x1)), (2, .int (x2)), (3, .int (s.1))] [] T s.2
def EX12_likelyOf_47 (X : Fx) (B : Bx) (Z : Nat × Nat × Nat × Nat) (Q : State → Prop) (T : Sh) (x0 : Nat) (x1 : Int32) (x2 : Int32) (r : Me) : Prop := G X B 7 Z Q 197 [(0, .ref (x0)), (1, .int (x1))] [] T r
set_option maxHeartbeats 4000000 in
theorem tbX12_likelyOf_47 {X : Fx} {B : Bx} {Z : Nat × Nat × Nat × Nat} {Q : State → Prop} {d : Nat} {T : Sh} (C : Cx X B cX12_likelyOf 7 RX12 d Z) (hd : 4 ≤ d) {x0 : Nat} {x1 : Int32} {x2 : Int32} : ∀ (s : Int32 × Me) (o : (Int32 × Me) ⊕ (Me)), bX12_likelyOf_47 T x0 x1 x2 s.1 s.2 = some o → lpE (PX12_likelyOf_47 X B Z Q T x0 x1 x2) (EX12_likelyOf_47 X B Z Q T x0 x1 x2) o → PX12_likelyOf_47 X B Z Q T x0 x1 x2 s := by
  rintro ⟨x3, M⟩ o h hE
  replace h : bX12_likelyOf_47 T x0 x1 x2 x3 M = some o := h
  unfold bX12_likelyOf_47 at h
  show G X B 7 Z Q 47 [(0, .ref (x0)), (1, .int (x1)), (2, .int (x2)), (3, .int (x3))] [] T M
  refine g_iload_n (pc := 47) C dX12_likelyOf_47 rfl 3 rfl ?_
  refine g_iload_n (pc := 48) C dX12_likelyOf_48 rfl 2 rfl ?_
  refine g_icmp_ge (pc := 49) (tgt := 197) C dX12_likelyOf_49 (by decide) (fun c19 => ?_) (fun c19 => ?_)
  · replace h := ifp c19 h
    obtain rfl := Option.some.inj h
    exact g_sub [0, 1] rfl (show G X B 7 Z Q 197 [(0, .ref (x0)), (1, .int (x1))] [] T M from hE)
  · replace h := ifn c19 h
    refine g_iconst (pc := 52) (v := 0) C dX12_likelyOf_52 (by decide) ?_
    refine g_istore (pc := 53) (lo2 := [(4, .int ((0 : Int32))), (0, .ref (x0)), (1, .int (x1)), (2, .int (x2)), (3, .int (x3))]) C dX12_likelyOf_53 (by decide) rfl ?_
    replace h := bnd h; obtain ⟨M30, h1, h⟩ := h
    refine g_sub [1, 2, 3, 4, 0] rfl ?_
    refine lp_G2 (P := PX12_likelyOf_55 X B _ _ T x0 x1 x2 x3) (E := EX12_likelyOf_55 X B _ _ T x0 x1 x2 x3) (tbX12_likelyOf_55 C hd) h1 ?_
    show G X B 7 _ _ 86 [(0, .ref (x0)), (1, .int (x1)), (2, .int (x2)), (3, .int (x3))] [] T M30
    refine g_iconst (pc := 86) (v := 0) C dX12_likelyOf_86 (by decide) ?_
    refine g_istore (pc := 87) (lo2 := [(4, .int ((0 : Int32))), (0, .ref (x0)), (1, .int (x1)), (2, .int (x2)), (3, .int (x3))]) C dX12_likelyOf_87 (by decide) rfl ?_
    replace h := bnd h; obtain ⟨M61, h1, h⟩ := h
    refine g_sub [1, 2, 3, 4, 0] rfl ?_
    refine lp_G2 (P := PX12_likelyOf_89 X B _ _ T x0 x1 x2 x3) (E := EX12_likelyOf_89 X B _ _ T x0 x1 x2 x3) (tbX12_likelyOf_89 C hd) h1 ?_
    show G X B 7 _ _ 161 [(0, .ref (x0)), (1, .int (x1)), (2, .int (x2)), (3, .int (x3))] [] T M61
    refine g_iconst (pc := 161) (v := 0) C dX12_likelyOf_161 (by decide) ?_
    refine g_istore (pc := 162) (lo2 := [(4, .int ((0 : Int32))), (0, .ref (x0)), (1, .int (x1)), (2, .int (x2)), (3, .int (x3))]) C dX12_likelyOf_162 (by decide) rfl ?_
    replace h := bnd h; obtain ⟨M72, h1, h⟩ := h
    refine g_sub [1, 2, 3, 4, 0] rfl ?_
    refine lp_G2 (P := PX12_likelyOf_164 X B _ _ T x0 x1 x2 x3) (E := EX12_likelyOf_164 X B _ _ T x0 x1 x2 x3) (tbX12_likelyOf_164 C hd) h1 ?_
    show G X B 7 _ _ 191 [(0, .ref (x0)), (1, .int (x1)), (2, .int (x2)), (3, .int (x3))] [] T M72
    obtain ⟨v73, ev73⟩ : ∃ y : Int32, y = x3 + (1 : Int32) := ⟨_, rfl⟩
    replace h := lt_at ev73 h
    refine g_iinc (pc := 191) (v := v73) (k := 3) (lo2 := [(3, .int (v73)), (0, .ref (x0)), (1, .int (x1)), (2, .int (x2))]) C dX12_likelyOf_191 rfl (by rw [ev73]; rfl) (by decide) rfl ?_
    refine g_goto (pc := 194) (tgt := 47) C dX12_likelyOf_194 (by decide) ?_
    obtain rfl := Option.some.inj h
    exact g_sub [1, 2, 3, 0] rfl (show G X B 7 Z Q 47 [(0, .ref (x0)), (1, .int (x1)), (2, .int (x2)), (3, .int (v73))] [] T M72 from hE)
-- a loop of EyeTrainerModel.likelyOf at 221
def bX12_likelyOf_221 (T : Sh) (M : Me) (x0 : Nat) (x3 : Int32) (x4 : Int64) (x6 : Int32) : Option ((Int64 × Int32) ⊕ (Int64)) :=
  if (24 : Int32) ≤ x6 then (some (.inr x4)) else (Option.bind (fX12_isIn (Int32.toInt64 x3) x6) fun r81 => if r81 = 0 then (lt (x4 + (0 : Int64)) fun v83 => lt (x6 + (1 : Int32)) fun v84 => some (.inl (v83, v84))) else (gd (kd T x0 = 11) <| Option.bind (gR M x0 38) fun a86 => gd (kd T a86 = 14) <| gv x6 (ln T a86) <| lt (x4 + (gJ M a86 (Int32.toNatClampNeg x6))) fun v89 => lt (x6 + (1 : Int32)) fun v90 => some (.inl (v89, v90))))
def PX12_likelyOf_221 (X : Fx) (B : Bx) (Z : Nat × Nat × Nat × Nat) (Q : State → Prop) (T : Sh) (M : Me) (x0 : Nat) (x3 : Int32) (s : Int64 × Int32) : Prop := G X B 7 Z Q 221 [(0, .ref (x0)), (3, .int (x3)), (4, .long (s.1)), (6, .int (s.2))] [] T M
def EX12_likelyOf_221 (X : Fx) (B : Bx) (Z : Nat × Nat × Nat × Nat) (Q : State → Prop) (T : Sh) (M : Me) (x0 : Nat) (x3 : Int32) (r : Int64) : Prop := G X B 7 Z Q 260 [(4, .long (r))] [] T M
set_option maxHeartbeats 4000000 in
theorem tbX12_likelyOf_221 {X : Fx} {B : Bx} {Z : Nat × Nat × Nat × Nat} {Q : State → Prop} {d : Nat} {T : Sh} {M : Me} (C : Cx X B cX12_likelyOf 7 RX12 d Z) (hd : 4 ≤ d) {x0 : Nat} {x3 : Int32} : ∀ (s : Int64 × Int32) (o : (Int64 × Int32) ⊕ (Int64)), bX12_likelyOf_221 T M x0 x3 s.1 s.2 = some o → lpE (PX12_likelyOf_221 X B Z Q T M x0 x3) (EX12_likelyOf_221 X B Z Q T M x0 x3) o → PX12_likelyOf_221 X B Z Q T M x0 x3 s := by
  rintro ⟨x4, x6⟩ o h hE
  replace h : bX12_likelyOf_221 T M x0 x3 x4 x6 = some o := h
  unfold bX12_likelyOf_221 at h
  show G X B 7 Z Q 221 [(0, .ref (x0)), (3, .int (x3)), (4, .long (x4)), (6, .int (x6))] [] T M
  refine g_iload (pc := 221) C dX12_likelyOf_221 3 rfl ?_
  refine g_bipush (pc := 223) (v := 24) C dX12_likelyOf_223 (by decide) ?_
  refine g_icmp_ge (pc := 225) (tgt := 260) C dX12_likelyOf_225 (by decide) (fun c80 => ?_) (fun c80 => ?_)
  · replace h := ifp c80 h
    obtain rfl := Option.some.inj h
    exact g_sub [2] rfl (show G X B 7 Z Q 260 [(4, .long (x4))] [] T M from hE)
  · replace h := ifn c80 h
    refine g_lload (pc := 228) C dX12_likelyOf_228 2 rfl ?_
    refine g_iload_n (pc := 230) C dX12_likelyOf_230 rfl 1 rfl ?_
    refine g_i2l (pc := 231) C dX12_likelyOf_231 ?_
    refine g_iload (pc := 232) C dX12_likelyOf_232 3 rfl ?_
    replace h := bnd h; obtain ⟨r81, h1, h⟩ := h
    refine g_callSi (pc := 234) (As := [.long (Int32.toInt64 x3), .int (x6)]) (st := [.long (x4)]) C dX12_likelyOf_234 wX12_isIn q_1580 q_1579 (by omega) rfl (Nat.le_of_ble_eq_true rfl) (kX12_isIn (d := 0) (Nat.le_refl _) h1) ?_
    refine g_if_eq (pc := 237) (tgt := 250) C dX12_likelyOf_237 (by decide) (fun c82 => ?_) (fun c82 => ?_)
    · replace h := ifp c82 h
      refine g_lconst (pc := 250) (v := 0) C dX12_likelyOf_250 rfl ?_
      refine g_ladd (pc := 251) C dX12_likelyOf_251 ?_
      refine g_topl (fun v83 ev83 => ?_)
      replace h := lt_at ev83 h
      refine g_lstore (pc := 252) (lo2 := [(4, .long (v83)), (0, .ref (x0)), (3, .int (x3)), (6, .int (x6))]) C dX12_likelyOf_252 (by decide) rfl ?_
      obtain ⟨v84, ev84⟩ : ∃ y : Int32, y = x6 + (1 : Int32) := ⟨_, rfl⟩
      replace h := lt_at ev84 h
      refine g_iinc (pc := 254) (v := v84) (k := 3) (lo2 := [(6, .int (v84)), (4, .long (v83)), (0, .ref (x0)), (3, .int (x3))]) C dX12_likelyOf_254 rfl (by rw [ev84]; rfl) (by decide) rfl ?_
      refine g_goto (pc := 257) (tgt := 221) C dX12_likelyOf_257 (by decide) ?_
      obtain rfl := Option.some.inj h
      exact g_sub [2, 3, 1, 0] rfl (show G X B 7 Z Q 221 [(0, .ref (x0)), (3, .int (x3)), (4, .long (v83)), (6, .int (v84))] [] T M from hE)
    · replace h := ifn c82 h
      refine g_aload_n (pc := 240) C dX12_likelyOf_240 rfl 0 rfl ?_
      replace h := gd_some h; obtain ⟨hk85, h⟩ := h
      refine g_get (pc := 241) (v := va_rf (gR M x0 38)) C dX12_likelyOf_241 kX12 hk85 38 (by decide) q_1265 rfl ?_
      replace h := bnd h; obtain ⟨a86, ea86, h⟩ := h
      refine g_refq ea86 ?_
      refine g_iload (pc := 244) C dX12_likelyOf_244 3 rfl ?_
      replace h := gd_some h; obtain ⟨hk87, h⟩ := h
      replace h := gv_some h; obtain ⟨hi88, h⟩ := h
      refine g_lald (pc := 246) C dX12_likelyOf_246 hk87 hi88 ?_
      refine g_goto (pc := 247) (tgt := 251) C dX12_likelyOf_247 (by decide) ?_
      refine g_ladd (pc := 251) C dX12_likelyOf_251 ?_
      refine g_topl (fun v89 ev89 => ?_)
      replace h := lt_at ev89 h
      refine g_lstore (pc := 252) (lo2 := [(4, .long (v89)), (0, .ref (x0)), (3, .int (x3)), (6, .int (x6))]) C dX12_likelyOf_252 (by decide) rfl ?_
      obtain ⟨v90, ev90⟩ : ∃ y : Int32, y = x6 + (1 : Int32) := ⟨_, rfl⟩
      replace h := lt_at ev90 h
      refine g_iinc (pc := 254) (v := v90) (k := 3) (lo2 := [(6, .int (v90)), (4, .long (v89)), (0, .ref (x0)), (3, .int (x3))]) C dX12_likelyOf_254 rfl (by rw [ev90]; rfl) (by decide) rfl ?_
      refine g_goto (pc := 257) (tgt := 221) C dX12_likelyOf_257 (by decide) ?_
      obtain rfl := Option.some.inj h
      exact g_sub [2, 3, 1, 0] rfl (show G X B 7 Z Q 221 [(0, .ref (x0)), (3, .int (x3)), (4, .long (v89)), (6, .int (v90))] [] T M from hE)
/-- EyeTrainerModel.likelyOf(II)J -/
def fX12_likelyOf (T : Sh) (M : Me) (x0 : Nat) (x1 : Int32) (x2 : Int32) : Option (Int64 × Me) :=
  gd (kd T x0 = 11) <| Option.bind (fX12_laysNow T M x0) <| un2 fun _u M2 => (lp FU (fun s => bX12_likelyOf_6 T x0 x1 x2 s.1 s.2) ((0 : Int32), M2)).bind (fun M18 => (lp FU (fun s => bX12_likelyOf_47 T x0 x1 x2 s.1 s.2) ((0 : Int32), M18)).bind (fun M74 => Option.bind (gR M74 x0 1) fun a75 => gd (kd T a75 = 13) <| gv ((42 : Int32) + x1) (ln T a75) <| Option.bind (fX12_rowOf T M74 x0 x1 ((gI M74 a75 (Int32.toNatClampNeg ((42 : Int32) + x1))) / (24 : Int32))) <| un2 fun r78 M79 => (lp FU (fun s => bX12_likelyOf_221 T M79 x0 r78 s.1 s.2) ((0 : Int64), (0 : Int32))).bind (fun x4_91 => some (x4_91, M79))))
set_option maxHeartbeats 4000000 in
theorem kX12_likelyOf {l : Launch} {B : Bx} {d : Nat} (hd : 4 ≤ d) {T : Sh} {M : Me} {x0 : Nat} {x1 : Int32} {x2 : Int32} {r : Int64} {M' : Me} (h : fX12_likelyOf T M x0 x1 x2 = some (r, M')) : Kt l B yX12_likelyOf cX12_likelyOf 7 (some .long) d [.ref (x0), .int (x1), .int (x2)] T M (some (.long r)) T M' := by
  refine kt_of wX12_likelyOf (Nat.le_refl _) (Nat.le_refl _) (Nat.le_of_ble_eq_true rfl) (fun X C hR hlx hin => ?_)
  subst hlx
  replace C : Cx X B cX12_likelyOf 7 RX12 d (tp T, sl T, tp T, sl T) := C
  unfold fX12_likelyOf at h
  show G X B 7 _ _ 0 [(0, .ref (x0)), (1, .int (x1)), (2, .int (x2))] [] T M
  refine g_aload_n (pc := 0) C dX12_likelyOf_0 rfl 0 rfl ?_
  replace h := gd_some h; obtain ⟨hk1, h⟩ := h
  replace h := bnd2 h; obtain ⟨_u, M2, h1, h⟩ := h
  refine g_callVv (pc := 1) (As := []) (st := []) C dX12_likelyOf_1 wX12_laysNow hk1 rfl (by decide) q_1485 q_76 q_1483 (by omega) rfl (Nat.le_of_ble_eq_true rfl) (kX12_laysNow (d := 3) (Nat.le_refl _) h1) ?_
  refine g_iconst (pc := 4) (v := 0) C dX12_likelyOf_4 (by decide) ?_
  refine g_istore_n (pc := 5) (lo2 := [(3, .int ((0 : Int32))), (0, .ref (x0)), (1, .int (x1)), (2, .int (x2))]) C dX12_likelyOf_5 rfl (by decide) rfl ?_
  replace h := bnd h; obtain ⟨M18, h1, h⟩ := h
  refine g_sub [1, 2, 3, 0] rfl ?_
  refine lp_G2 (P := PX12_likelyOf_6 X B _ _ T x0 x1 x2) (E := EX12_likelyOf_6 X B _ _ T x0 x1 x2) (tbX12_likelyOf_6 C hd) h1 ?_
  show G X B 7 _ _ 45 [(0, .ref (x0)), (1, .int (x1)), (2, .int (x2))] [] T M18
  refine g_iconst (pc := 45) (v := 0) C dX12_likelyOf_45 (by decide) ?_
  refine g_istore_n (pc := 46) (lo2 := [(3, .int ((0 : Int32))), (0, .ref (x0)), (1, .int (x1)), (2, .int (x2))]) C dX12_likelyOf_46 rfl (by decide) rfl ?_
  replace h := bnd h; obtain ⟨M74, h1, h⟩ := h
  refine g_sub [1, 2, 3, 0] rfl ?_
  refine lp_G2 (P := PX12_likelyOf_47 X B _ _ T x0 x1 x2) (E := EX12_likelyOf_47 X B _ _ T x0 x1 x2) (tbX12_likelyOf_47 C hd) h1 ?_
  show G X B 7 _ _ 197 [(0, .ref (x0)), (1, .int (x1))] [] T M74
  refine g_aload_n (pc := 197) C dX12_likelyOf_197 rfl 0 rfl ?_
  refine g_iload_n (pc := 198) C dX12_likelyOf_198 rfl 1 rfl ?_
  refine g_aload_n (pc := 199) C dX12_likelyOf_199 rfl 0 rfl ?_
  refine g_get (pc := 200) (v := va_rf (gR M74 x0 1)) C dX12_likelyOf_200 kX12 hk1 1 (by decide) q_1228 rfl ?_
  replace h := bnd h; obtain ⟨a75, ea75, h⟩ := h
  refine g_refq ea75 ?_
  refine g_bipush (pc := 203) (v := 42) C dX12_likelyOf_203 (by decide) ?_
  refine g_iload_n (pc := 205) C dX12_likelyOf_205 rfl 1 rfl ?_
  refine g_iadd (pc := 206) C dX12_likelyOf_206 ?_
  replace h := gd_some h; obtain ⟨hk76, h⟩ := h
  replace h := gv_some h; obtain ⟨hi77, h⟩ := h
  refine g_iald (pc := 207) C dX12_likelyOf_207 hk76 hi77 ?_
  refine g_bipush (pc := 208) (v := 24) C dX12_likelyOf_208 (by decide) ?_
  refine g_idiv (pc := 210) C dX12_likelyOf_210 (by decide) ?_
  replace h := bnd2 h; obtain ⟨r78, M79, h1, h⟩ := h
  refine g_callVi (pc := 211) (As := [.int (x1), .int ((gI M74 a75 (Int32.toNatClampNeg ((42 : Int32) + x1))) / (24 : Int32))]) (st := []) C dX12_likelyOf_211 wX12_rowOf hk1 rfl (by decide) q_1540 q_82 q_1538 (by omega) rfl (Nat.le_of_ble_eq_true rfl) (kX12_rowOf (d := 3) (Nat.le_refl _) h1) ?_
  refine g_istore_n (pc := 214) (lo2 := [(3, .int (r78)), (0, .ref (x0)), (1, .int (x1))]) C dX12_likelyOf_214 rfl (by decide) rfl ?_
  refine g_lconst (pc := 215) (v := 0) C dX12_likelyOf_215 rfl ?_
  refine g_lstore (pc := 216) (lo2 := [(4, .long ((0 : Int64))), (3, .int (r78)), (0, .ref (x0)), (1, .int (x1))]) C dX12_likelyOf_216 (by decide) rfl ?_
  refine g_iconst (pc := 218) (v := 0) C dX12_likelyOf_218 (by decide) ?_
  refine g_istore (pc := 219) (lo2 := [(6, .int ((0 : Int32))), (4, .long ((0 : Int64))), (3, .int (r78)), (0, .ref (x0)), (1, .int (x1))]) C dX12_likelyOf_219 (by decide) rfl ?_
  replace h := bnd h; obtain ⟨x4_91, h1, h⟩ := h
  refine g_sub [3, 2, 1, 0] rfl ?_
  refine lp_G2 (P := PX12_likelyOf_221 X B _ _ T M79 x0 r78) (E := EX12_likelyOf_221 X B _ _ T M79 x0 r78) (tbX12_likelyOf_221 C hd) h1 ?_
  show G X B 7 _ _ 260 [(4, .long (x4_91))] [] T M79
  refine g_lload (pc := 260) C dX12_likelyOf_260 0 rfl ?_
  obtain ⟨rfl, rfl⟩ := Prod.mk.inj (Option.some.inj h)
  exact g_lret C hR dX12_likelyOf_262
theorem dX12_wholeOf_0 : decode cX12_wholeOf 0 = .ok (.lconst 1, 1) := by decide +kernel
theorem dX12_wholeOf_1 : decode cX12_wholeOf 1 = .ok (.lstore_n 1, 1) := by decide +kernel
theorem dX12_wholeOf_2 : decode cX12_wholeOf 2 = .ok (.iconst 0, 1) := by decide +kernel
theorem dX12_wholeOf_3 : decode cX12_wholeOf 3 = .ok (.istore_n 3, 1) := by decide +kernel
theorem dX12_wholeOf_4 : decode cX12_wholeOf 4 = .ok (.iload_n 3, 1) := by decide +kernel
theorem dX12_wholeOf_5 : decode cX12_wholeOf 5 = .ok (.iload_n 0, 1) := by decide +kernel
theorem dX12_wholeOf_6 : decode cX12_wholeOf 6 = .ok (.if_icmp .ge 15, 3) := by decide +kernel
theorem dX12_wholeOf_9 : decode cX12_wholeOf 9 = .ok (.lload_n 1, 1) := by decide +kernel
theorem dX12_wholeOf_10 : decode cX12_wholeOf 10 = .ok (.ldc2_w 358, 3) := by decide +kernel
theorem dX12_wholeOf_13 : decode cX12_wholeOf 13 = .ok (.lmul, 1) := by decide +kernel
theorem dX12_wholeOf_14 : decode cX12_wholeOf 14 = .ok (.lstore_n 1, 1) := by decide +kernel
theorem dX12_wholeOf_15 : decode cX12_wholeOf 15 = .ok (.iinc 3 1, 3) := by decide +kernel
theorem dX12_wholeOf_18 : decode cX12_wholeOf 18 = .ok (.goto (-14), 3) := by decide +kernel
theorem dX12_wholeOf_21 : decode cX12_wholeOf 21 = .ok (.lload_n 1, 1) := by decide +kernel
theorem dX12_wholeOf_22 : decode cX12_wholeOf 22 = .ok (.lreturn, 1) := by decide +kernel
theorem wX12_wholeOf : Mw yX12_wholeOf cX12_wholeOf 4 (some .long) 1 := ⟨q_1846, q_130, by decide, ⟨by decide +kernel, by decide +kernel⟩, by decide +kernel, by decide +kernel⟩
-- a loop of EyeTrainerModel.wholeOf at 4
def bX12_wholeOf_4 (x0 : Int32) (x1 : Int64) (x3 : Int32) : Option ((Int64 × Int32) ⊕ (Int64)) :=
  if x0 ≤ x3 then (some (.inr x1)) else (lt (x1 * (10 : Int64)) fun v2 => lt (x3 + (1 : Int32)) fun v3 => some (.inl (v2, v3)))
def PX12_wholeOf_4 (X : Fx) (B : Bx) (Z : Nat × Nat × Nat × Nat) (Q : State → Prop) (T : Sh) (M : Me) (x0 : Int32) (s : Int64 × Int32) : Prop := G X B 4 Z Q 4 [(0, .int (x0)), (1, .long (s.1)), (3, .int (s.2))] [] T M
def EX12_wholeOf_4 (X : Fx) (B : Bx) (Z : Nat × Nat × Nat × Nat) (Q : State → Prop) (T : Sh) (M : Me) (x0 : Int32) (r : Int64) : Prop := G X B 4 Z Q 21 [(1, .long (r))] [] T M
set_option maxHeartbeats 4000000 in
theorem tbX12_wholeOf_4 {X : Fx} {B : Bx} {Z : Nat × Nat × Nat × Nat} {Q : State → Prop} {d : Nat} {T : Sh} {M : Me} (C : Cx X B cX12_wholeOf 4 RX12 d Z) (hd : 0 ≤ d) {x0 : Int32} : ∀ (s : Int64 × Int32) (o : (Int64 × Int32) ⊕ (Int64)), bX12_wholeOf_4 x0 s.1 s.2 = some o → lpE (PX12_wholeOf_4 X B Z Q T M x0) (EX12_wholeOf_4 X B Z Q T M x0) o → PX12_wholeOf_4 X B Z Q T M x0 s := by
  rintro ⟨x1, x3⟩ o h hE
  replace h : bX12_wholeOf_4 x0 x1 x3 = some o := h
  unfold bX12_wholeOf_4 at h
  show G X B 4 Z Q 4 [(0, .int (x0)), (1, .long (x1)), (3, .int (x3))] [] T M
  refine g_iload_n (pc := 4) C dX12_wholeOf_4 rfl 2 rfl ?_
  refine g_iload_n (pc := 5) C dX12_wholeOf_5 rfl 0 rfl ?_
  refine g_icmp_ge (pc := 6) (tgt := 21) C dX12_wholeOf_6 (by decide) (fun c1 => ?_) (fun c1 => ?_)
  · replace h := ifp c1 h
    obtain rfl := Option.some.inj h
    exact g_sub [1] rfl (show G X B 4 Z Q 21 [(1, .long (x1))] [] T M from hE)
  · replace h := ifn c1 h
    refine g_lload_n (pc := 9) C dX12_wholeOf_9 rfl 1 rfl ?_
    refine g_ldc2 (pc := 10) C dX12_wholeOf_10 q_1654 ?_
    refine g_lmul (pc := 13) C dX12_wholeOf_13 ?_
    refine g_topl (fun v2 ev2 => ?_)
    replace h := lt_at ev2 h
    refine g_lstore_n (pc := 14) (lo2 := [(1, .long (v2)), (0, .int (x0)), (3, .int (x3))]) C dX12_wholeOf_14 rfl (by decide) rfl ?_
    obtain ⟨v3, ev3⟩ : ∃ y : Int32, y = x3 + (1 : Int32) := ⟨_, rfl⟩
    replace h := lt_at ev3 h
    refine g_iinc (pc := 15) (v := v3) (k := 2) (lo2 := [(3, .int (v3)), (1, .long (v2)), (0, .int (x0))]) C dX12_wholeOf_15 rfl (by rw [ev3]; rfl) (by decide) rfl ?_
    refine g_goto (pc := 18) (tgt := 4) C dX12_wholeOf_18 (by decide) ?_
    obtain rfl := Option.some.inj h
    exact g_sub [2, 1, 0] rfl (show G X B 4 Z Q 4 [(0, .int (x0)), (1, .long (v2)), (3, .int (v3))] [] T M from hE)
/-- EyeTrainerModel.wholeOf(I)J -/
def fX12_wholeOf (x0 : Int32) : Option (Int64) :=
  (lp FU (fun s => bX12_wholeOf_4 x0 s.1 s.2) ((1 : Int64), (0 : Int32))).bind (fun x1_4 => some x1_4)
set_option maxHeartbeats 4000000 in
theorem kX12_wholeOf {l : Launch} {B : Bx} {d : Nat} (hd : 0 ≤ d) {T : Sh} {M : Me} {x0 : Int32} {r : Int64} (h : fX12_wholeOf  x0 = some r) : Kt l B yX12_wholeOf cX12_wholeOf 4 (some .long) d [.int (x0)] T M (some (.long r)) T M := by
  refine kt_of wX12_wholeOf (Nat.le_refl _) (Nat.le_refl _) (Nat.le_of_ble_eq_true rfl) (fun X C hR hlx hin => ?_)
  subst hlx
  replace C : Cx X B cX12_wholeOf 4 RX12 d (tp T, sl T, tp T, sl T) := C
  unfold fX12_wholeOf at h
  show G X B 4 _ _ 0 [(0, .int (x0))] [] T M
  refine g_lconst (pc := 0) (v := 1) C dX12_wholeOf_0 rfl ?_
  refine g_lstore_n (pc := 1) (lo2 := [(1, .long ((1 : Int64))), (0, .int (x0))]) C dX12_wholeOf_1 rfl (by decide) rfl ?_
  refine g_iconst (pc := 2) (v := 0) C dX12_wholeOf_2 (by decide) ?_
  refine g_istore_n (pc := 3) (lo2 := [(3, .int ((0 : Int32))), (1, .long ((1 : Int64))), (0, .int (x0))]) C dX12_wholeOf_3 rfl (by decide) rfl ?_
  replace h := bnd h; obtain ⟨x1_4, h1, h⟩ := h
  refine g_sub [2, 1, 0] rfl ?_
  refine lp_G2 (P := PX12_wholeOf_4 X B _ _ T M x0) (E := EX12_wholeOf_4 X B _ _ T M x0) (tbX12_wholeOf_4 C hd) h1 ?_
  show G X B 4 _ _ 21 [(1, .long (x1_4))] [] T M
  refine g_lload_n (pc := 21) C dX12_wholeOf_21 rfl 0 rfl ?_
  obtain rfl := Option.some.inj h
  exact g_lret C hR dX12_wholeOf_22
theorem dX12_cut_0 : decode cX12_cut 0 = .ok (.iload_n 2, 1) := by decide +kernel
theorem dX12_cut_1 : decode cX12_cut 1 = .ok (.ifCond .ne 10, 3) := by decide +kernel
theorem dX12_cut_4 : decode cX12_cut 4 = .ok (.lload_n 0, 1) := by decide +kernel
theorem dX12_cut_5 : decode cX12_cut 5 = .ok (.l2i, 1) := by decide +kernel
theorem dX12_cut_6 : decode cX12_cut 6 = .ok (.i2b, 1) := by decide +kernel
theorem dX12_cut_7 : decode cX12_cut 7 = .ok (.i2l, 1) := by decide +kernel
theorem dX12_cut_8 : decode cX12_cut 8 = .ok (.goto 27, 3) := by decide +kernel
theorem dX12_cut_11 : decode cX12_cut 11 = .ok (.iload_n 2, 1) := by decide +kernel
theorem dX12_cut_12 : decode cX12_cut 12 = .ok (.iconst 1, 1) := by decide +kernel
theorem dX12_cut_13 : decode cX12_cut 13 = .ok (.if_icmp .ne 10, 3) := by decide +kernel
theorem dX12_cut_16 : decode cX12_cut 16 = .ok (.lload_n 0, 1) := by decide +kernel
theorem dX12_cut_17 : decode cX12_cut 17 = .ok (.l2i, 1) := by decide +kernel
theorem dX12_cut_18 : decode cX12_cut 18 = .ok (.i2s, 1) := by decide +kernel
theorem dX12_cut_19 : decode cX12_cut 19 = .ok (.i2l, 1) := by decide +kernel
theorem dX12_cut_20 : decode cX12_cut 20 = .ok (.goto 15, 3) := by decide +kernel
theorem dX12_cut_23 : decode cX12_cut 23 = .ok (.iload_n 2, 1) := by decide +kernel
theorem dX12_cut_24 : decode cX12_cut 24 = .ok (.iconst 2, 1) := by decide +kernel
theorem dX12_cut_25 : decode cX12_cut 25 = .ok (.if_icmp .ne 9, 3) := by decide +kernel
theorem dX12_cut_28 : decode cX12_cut 28 = .ok (.lload_n 0, 1) := by decide +kernel
theorem dX12_cut_29 : decode cX12_cut 29 = .ok (.l2i, 1) := by decide +kernel
theorem dX12_cut_30 : decode cX12_cut 30 = .ok (.i2l, 1) := by decide +kernel
theorem dX12_cut_31 : decode cX12_cut 31 = .ok (.goto 4, 3) := by decide +kernel
theorem dX12_cut_34 : decode cX12_cut 34 = .ok (.lload_n 0, 1) := by decide +kernel
theorem dX12_cut_35 : decode cX12_cut 35 = .ok (.lreturn, 1) := by decide +kernel
theorem wX12_cut : Mw yX12_cut cX12_cut 3 (some .long) 2 := ⟨q_1868, q_130, by decide, ⟨by decide +kernel, by decide +kernel⟩, by decide +kernel, by decide +kernel⟩
/-- EyeTrainerModel.cut(JI)J -/
def fX12_cut (x0 : Int64) (x2 : Int32) : Option (Int64) :=
  if x2 = 0 then (some (Int32.toInt64 (Int8.toInt32 (Int32.toInt8 (Int64.toInt32 x0))))) else (if x2 = (1 : Int32) then (some (Int32.toInt64 (Int16.toInt32 (Int32.toInt16 (Int64.toInt32 x0))))) else (if x2 = (2 : Int32) then (some (Int32.toInt64 (Int64.toInt32 x0))) else (some x0)))
set_option maxHeartbeats 4000000 in
theorem kX12_cut {l : Launch} {B : Bx} {d : Nat} (hd : 0 ≤ d) {T : Sh} {M : Me} {x0 : Int64} {x2 : Int32} {r : Int64} (h : fX12_cut  x0 x2 = some r) : Kt l B yX12_cut cX12_cut 3 (some .long) d [.long (x0), .int (x2)] T M (some (.long r)) T M := by
  refine kt_of wX12_cut (Nat.le_refl _) (Nat.le_refl _) (Nat.le_of_ble_eq_true rfl) (fun X C hR hlx hin => ?_)
  subst hlx
  replace C : Cx X B cX12_cut 3 RX12 d (tp T, sl T, tp T, sl T) := C
  unfold fX12_cut at h
  show G X B 3 _ _ 0 [(0, .long (x0)), (2, .int (x2))] [] T M
  refine g_iload_n (pc := 0) C dX12_cut_0 rfl 1 rfl ?_
  refine g_if_ne (pc := 1) (tgt := 11) C dX12_cut_1 (by decide) (fun c1 => ?_) (fun c1 => ?_)
  · replace h := ifn c1 h
    refine g_iload_n (pc := 11) C dX12_cut_11 rfl 1 rfl ?_
    refine g_iconst (pc := 12) (v := 1) C dX12_cut_12 (by decide) ?_
    refine g_icmp_ne (pc := 13) (tgt := 23) C dX12_cut_13 (by decide) (fun c2 => ?_) (fun c2 => ?_)
    · replace h := ifn c2 h
      refine g_iload_n (pc := 23) C dX12_cut_23 rfl 1 rfl ?_
      refine g_iconst (pc := 24) (v := 2) C dX12_cut_24 (by decide) ?_
      refine g_icmp_ne (pc := 25) (tgt := 34) C dX12_cut_25 (by decide) (fun c3 => ?_) (fun c3 => ?_)
      · replace h := ifn c3 h
        refine g_lload_n (pc := 34) C dX12_cut_34 rfl 0 rfl ?_
        obtain rfl := Option.some.inj h
        exact g_lret C hR dX12_cut_35
      · replace h := ifp c3 h
        refine g_lload_n (pc := 28) C dX12_cut_28 rfl 0 rfl ?_
        refine g_l2i (pc := 29) C dX12_cut_29 ?_
        refine g_i2l (pc := 30) C dX12_cut_30 ?_
        refine g_goto (pc := 31) (tgt := 35) C dX12_cut_31 (by decide) ?_
        obtain rfl := Option.some.inj h
        exact g_lret C hR dX12_cut_35
    · replace h := ifp c2 h
      refine g_lload_n (pc := 16) C dX12_cut_16 rfl 0 rfl ?_
      refine g_l2i (pc := 17) C dX12_cut_17 ?_
      refine g_i2s (pc := 18) C dX12_cut_18 ?_
      refine g_i2l (pc := 19) C dX12_cut_19 ?_
      refine g_goto (pc := 20) (tgt := 35) C dX12_cut_20 (by decide) ?_
      obtain rfl := Option.some.inj h
      exact g_lret C hR dX12_cut_35
  · replace h := ifp c1 h
    refine g_lload_n (pc := 4) C dX12_cut_4 rfl 0 rfl ?_
    refine g_l2i (pc := 5) C dX12_cut_5 ?_
    refine g_i2b (pc := 6) C dX12_cut_6 ?_
    refine g_i2l (pc := 7) C dX12_cut_7 ?_
    refine g_goto (pc := 8) (tgt := 35) C dX12_cut_8 (by decide) ?_
    obtain rfl := Option.some.inj h
    exact g_lret C hR dX12_cut_35
theorem dX12_numbers_0 : decode cX12_numbers 0 = .ok (.aload_n 0, 1) := by decide +kernel
theorem dX12_numbers_1 : decode cX12_numbers 1 = .ok (.iconst 0, 1) := by decide +kernel
theorem dX12_numbers_2 : decode cX12_numbers 2 = .ok (.putfield 1, 3) := by decide +kernel
theorem dX12_numbers_5 : decode cX12_numbers 5 = .ok (.iload_n 1, 1) := by decide +kernel
theorem dX12_numbers_6 : decode cX12_numbers 6 = .ok (.i2l, 1) := by decide +kernel
theorem dX12_numbers_7 : decode cX12_numbers 7 = .ok (.lconst 0, 1) := by decide +kernel
theorem dX12_numbers_8 : decode cX12_numbers 8 = .ok (.ldc2_w 384, 3) := by decide +kernel
theorem dX12_numbers_11 : decode cX12_numbers 11 = .ok (.invokestatic 139, 3) := by decide +kernel
theorem dX12_numbers_14 : decode cX12_numbers 14 = .ok (.ifCond .eq 15, 3) := by decide +kernel
theorem dX12_numbers_17 : decode cX12_numbers 17 = .ok (.iload_n 2, 1) := by decide +kernel
theorem dX12_numbers_18 : decode cX12_numbers 18 = .ok (.i2l, 1) := by decide +kernel
theorem dX12_numbers_19 : decode cX12_numbers 19 = .ok (.lconst 0, 1) := by decide +kernel
theorem dX12_numbers_20 : decode cX12_numbers 20 = .ok (.ldc2_w 384, 3) := by decide +kernel
theorem dX12_numbers_23 : decode cX12_numbers 23 = .ok (.invokestatic 139, 3) := by decide +kernel
theorem dX12_numbers_26 : decode cX12_numbers 26 = .ok (.ifCond .ne 6, 3) := by decide +kernel
theorem dX12_numbers_29 : decode cX12_numbers 29 = .ok (.bipush (-2), 2) := by decide +kernel
theorem dX12_numbers_31 : decode cX12_numbers 31 = .ok (.ireturn, 1) := by decide +kernel
theorem dX12_numbers_32 : decode cX12_numbers 32 = .ok (.iload_n 3, 1) := by decide +kernel
theorem dX12_numbers_33 : decode cX12_numbers 33 = .ok (.i2l, 1) := by decide +kernel
theorem dX12_numbers_34 : decode cX12_numbers 34 = .ok (.lconst 0, 1) := by decide +kernel
theorem dX12_numbers_35 : decode cX12_numbers 35 = .ok (.ldc2_w 402, 3) := by decide +kernel
theorem dX12_numbers_38 : decode cX12_numbers 38 = .ok (.invokestatic 139, 3) := by decide +kernel
theorem dX12_numbers_41 : decode cX12_numbers 41 = .ok (.ifCond .ne 6, 3) := by decide +kernel
theorem dX12_numbers_44 : decode cX12_numbers 44 = .ok (.bipush (-3), 2) := by decide +kernel
theorem dX12_numbers_46 : decode cX12_numbers 46 = .ok (.ireturn, 1) := by decide +kernel
theorem dX12_numbers_47 : decode cX12_numbers 47 = .ok (.aload_n 0, 1) := by decide +kernel
theorem dX12_numbers_48 : decode cX12_numbers 48 = .ok (.getfield 64, 3) := by decide +kernel
theorem dX12_numbers_51 : decode cX12_numbers 51 = .ok (.iload_n 1, 1) := by decide +kernel
theorem dX12_numbers_52 : decode cX12_numbers 52 = .ok (.iload_n 2, 1) := by decide +kernel
theorem dX12_numbers_53 : decode cX12_numbers 53 = .ok (.iastore, 1) := by decide +kernel
theorem dX12_numbers_54 : decode cX12_numbers 54 = .ok (.aload_n 0, 1) := by decide +kernel
theorem dX12_numbers_55 : decode cX12_numbers 55 = .ok (.getfield 67, 3) := by decide +kernel
theorem dX12_numbers_58 : decode cX12_numbers 58 = .ok (.iload_n 1, 1) := by decide +kernel
theorem dX12_numbers_59 : decode cX12_numbers 59 = .ok (.iload_n 3, 1) := by decide +kernel
theorem dX12_numbers_60 : decode cX12_numbers 60 = .ok (.iastore, 1) := by decide +kernel
theorem dX12_numbers_61 : decode cX12_numbers 61 = .ok (.iconst 0, 1) := by decide +kernel
theorem dX12_numbers_62 : decode cX12_numbers 62 = .ok (.istore 4, 2) := by decide +kernel
theorem dX12_numbers_64 : decode cX12_numbers 64 = .ok (.iload 4, 2) := by decide +kernel
theorem dX12_numbers_66 : decode cX12_numbers 66 = .ok (.iload_n 3, 1) := by decide +kernel
theorem dX12_numbers_67 : decode cX12_numbers 67 = .ok (.if_icmp .ge 22, 3) := by decide +kernel
theorem dX12_numbers_70 : decode cX12_numbers 70 = .ok (.aload_n 0, 1) := by decide +kernel
theorem dX12_numbers_71 : decode cX12_numbers 71 = .ok (.getfield 70, 3) := by decide +kernel
theorem dX12_numbers_74 : decode cX12_numbers 74 = .ok (.bipush 40, 2) := by decide +kernel
theorem dX12_numbers_76 : decode cX12_numbers 76 = .ok (.iload_n 1, 1) := by decide +kernel
theorem dX12_numbers_77 : decode cX12_numbers 77 = .ok (.imul, 1) := by decide +kernel
theorem dX12_numbers_78 : decode cX12_numbers 78 = .ok (.iload 4, 2) := by decide +kernel
theorem dX12_numbers_80 : decode cX12_numbers 80 = .ok (.iadd, 1) := by decide +kernel
theorem dX12_numbers_81 : decode cX12_numbers 81 = .ok (.lconst 0, 1) := by decide +kernel
theorem dX12_numbers_82 : decode cX12_numbers 82 = .ok (.lastore, 1) := by decide +kernel
theorem dX12_numbers_83 : decode cX12_numbers 83 = .ok (.iinc 4 1, 3) := by decide +kernel
theorem dX12_numbers_86 : decode cX12_numbers 86 = .ok (.goto (-22), 3) := by decide +kernel
theorem dX12_numbers_89 : decode cX12_numbers 89 = .ok (.iconst 0, 1) := by decide +kernel
theorem dX12_numbers_90 : decode cX12_numbers 90 = .ok (.ireturn, 1) := by decide +kernel
theorem wX12_numbers : Mw yX12_numbers cX12_numbers 5 (some .int) 3 := ⟨q_1860, q_130, by decide, ⟨by decide +kernel, by decide +kernel⟩, by decide +kernel, by decide +kernel⟩
-- a loop of EyeTrainerModel.numbers at 64
def bX12_numbers_64 (T : Sh) (x0 : Nat) (x1 : Int32) (x3 : Int32) (x4 : Int32) (M : Me) : Option ((Int32 × Me) ⊕ (Me)) :=
  if x3 ≤ x4 then (some (.inr M)) else (gd (kd T x0 = 11) <| Option.bind (gR M x0 42) fun a19 => gd (kd T a19 = 14) <| gv (((40 : Int32) * x1) + x4) (ln T a19) <| lt (pJ M a19 (Int32.toNatClampNeg (((40 : Int32) * x1) + x4)) (0 : Int64)) fun M22 => lt (x4 + (1 : Int32)) fun v23 => some (.inl (v23, M22)))
def PX12_numbers_64 (X : Fx) (B : Bx) (Z : Nat × Nat × Nat × Nat) (Q : State → Prop) (T : Sh) (x0 : Nat) (x1 : Int32) (x3 : Int32) (s : Int32 × Me) : Prop := G X B 5 Z Q 64 [(0, .ref (x0)), (1, .int (x1)), (3, .int (x3)), (4, .int (s.1))] [] T s.2
def EX12_numbers_64 (X : Fx) (B : Bx) (Z : Nat × Nat × Nat × Nat) (Q : State → Prop) (T : Sh) (x0 : Nat) (x1 : Int32) (x3 : Int32) (r : Me) : Prop := G X B 5 Z Q 89 [] [] T r
set_option maxHeartbeats 4000000 in
theorem tbX12_numbers_64 {X : Fx} {B : Bx} {Z : Nat × Nat × Nat × Nat} {Q : State → Prop} {d : Nat} {T : Sh} (C : Cx X B cX12_numbers 5 RX12 d Z) (hd : 1 ≤ d) {x0 : Nat} {x1 : Int32} {x3 : Int32} : ∀ (s : Int32 × Me) (o : (Int32 × Me) ⊕ (Me)), bX12_numbers_64 T x0 x1 x3 s.1 s.2 = some o → lpE (PX12_numbers_64 X B Z Q T x0 x1 x3) (EX12_numbers_64 X B Z Q T x0 x1 x3) o → PX12_numbers_64 X B Z Q T x0 x1 x3 s := by
  rintro ⟨x4, M⟩ o h hE
  replace h : bX12_numbers_64 T x0 x1 x3 x4 M = some o := h
  unfold bX12_numbers_64 at h
  show G X B 5 Z Q 64 [(0, .ref (x0)), (1, .int (x1)), (3, .int (x3)), (4, .int (x4))] [] T M
  refine g_iload (pc := 64) C dX12_numbers_64 3 rfl ?_
  refine g_iload_n (pc := 66) C dX12_numbers_66 rfl 2 rfl ?_
  refine g_icmp_ge (pc := 67) (tgt := 89) C dX12_numbers_67 (by decide) (fun c17 => ?_) (fun c17 => ?_)
  · replace h := ifp c17 h
    obtain rfl := Option.some.inj h
    exact g_sub [] rfl (show G X B 5 Z Q 89 [] [] T M from hE)
  · replace h := ifn c17 h
    refine g_aload_n (pc := 70) C dX12_numbers_70 rfl 0 rfl ?_
    replace h := gd_some h; obtain ⟨hk18, h⟩ := h
    refine g_get (pc := 71) (v := va_rf (gR M x0 42)) C dX12_numbers_71 kX12 hk18 42 (by decide) q_1269 rfl ?_
    replace h := bnd h; obtain ⟨a19, ea19, h⟩ := h
    refine g_refq ea19 ?_
    refine g_bipush (pc := 74) (v := 40) C dX12_numbers_74 (by decide) ?_
    refine g_iload_n (pc := 76) C dX12_numbers_76 rfl 1 rfl ?_
    refine g_imul (pc := 77) C dX12_numbers_77 ?_
    refine g_iload (pc := 78) C dX12_numbers_78 3 rfl ?_
    refine g_iadd (pc := 80) C dX12_numbers_80 ?_
    refine g_lconst (pc := 81) (v := 0) C dX12_numbers_81 rfl ?_
    replace h := gd_some h; obtain ⟨hk20, h⟩ := h
    replace h := gv_some h; obtain ⟨hi21, h⟩ := h
    refine g_last (pc := 82) C dX12_numbers_82 hk20 hi21 ?_
    refine g_mem (fun M22 eM22 => ?_)
    replace h := lt_at eM22 h
    obtain ⟨v23, ev23⟩ : ∃ y : Int32, y = x4 + (1 : Int32) := ⟨_, rfl⟩
    replace h := lt_at ev23 h
    refine g_iinc (pc := 83) (v := v23) (k := 3) (lo2 := [(4, .int (v23)), (0, .ref (x0)), (1, .int (x1)), (3, .int (x3))]) C dX12_numbers_83 rfl (by rw [ev23]; rfl) (by decide) rfl ?_
    refine g_goto (pc := 86) (tgt := 64) C dX12_numbers_86 (by decide) ?_
    obtain rfl := Option.some.inj h
    exact g_sub [1, 2, 3, 0] rfl (show G X B 5 Z Q 64 [(0, .ref (x0)), (1, .int (x1)), (3, .int (x3)), (4, .int (v23))] [] T M22 from hE)
/-- EyeTrainerModel.numbers(III)I -/
def fX12_numbers (T : Sh) (M : Me) (x0 : Nat) (x1 : Int32) (x2 : Int32) (x3 : Int32) : Option (Int32 × Me) :=
  gd (kd T x0 = 11) <| lt (pI M x0 0 (0 : Int32)) fun M2 => Option.bind (fX12_within (Int32.toInt64 x1) (0 : Int64) (3 : Int64)) fun r3 => if r3 = 0 then (some ((-2 : Int32), M2)) else (Option.bind (fX12_within (Int32.toInt64 x2) (0 : Int64) (3 : Int64)) fun r5 => if r5 = 0 then (some ((-2 : Int32), M2)) else (Option.bind (fX12_within (Int32.toInt64 x3) (0 : Int64) (40 : Int64)) fun r7 => if r7 = 0 then (some ((-3 : Int32), M2)) else (Option.bind (gR M2 x0 40) fun a9 => gd (kd T a9 = 13) <| gv x1 (ln T a9) <| lt (pI M2 a9 (Int32.toNatClampNeg x1) x2) fun M12 => Option.bind (gR M12 x0 41) fun a13 => gd (kd T a13 = 13) <| gv x1 (ln T a13) <| lt (pI M12 a13 (Int32.toNatClampNeg x1) x3) fun M16 => (lp FU (fun s => bX12_numbers_64 T x0 x1 x3 s.1 s.2) ((0 : Int32), M16)).bind (fun M24 => some ((0 : Int32), M24)))))
set_option maxHeartbeats 4000000 in
theorem kX12_numbers {l : Launch} {B : Bx} {d : Nat} (hd : 1 ≤ d) {T : Sh} {M : Me} {x0 : Nat} {x1 : Int32} {x2 : Int32} {x3 : Int32} {r : Int32} {M' : Me} (h : fX12_numbers T M x0 x1 x2 x3 = some (r, M')) : Kt l B yX12_numbers cX12_numbers 5 (some .int) d [.ref (x0), .int (x1), .int (x2), .int (x3)] T M (some (.int r)) T M' := by
  refine kt_of wX12_numbers (Nat.le_refl _) (Nat.le_refl _) (Nat.le_of_ble_eq_true rfl) (fun X C hR hlx hin => ?_)
  subst hlx
  replace C : Cx X B cX12_numbers 5 RX12 d (tp T, sl T, tp T, sl T) := C
  unfold fX12_numbers at h
  show G X B 5 _ _ 0 [(0, .ref (x0)), (1, .int (x1)), (2, .int (x2)), (3, .int (x3))] [] T M
  refine g_aload_n (pc := 0) C dX12_numbers_0 rfl 0 rfl ?_
  refine g_iconst (pc := 1) (v := 0) C dX12_numbers_1 (by decide) ?_
  replace h := gd_some h; obtain ⟨hk1, h⟩ := h
  refine g_putI (pc := 2) C dX12_numbers_2 kX12 hk1 0 (by decide) rfl rfl rfl q_1227 ?_
  refine g_mem (fun M2 eM2 => ?_)
  replace h := lt_at eM2 h
  refine g_iload_n (pc := 5) C dX12_numbers_5 rfl 1 rfl ?_
  refine g_i2l (pc := 6) C dX12_numbers_6 ?_
  refine g_lconst (pc := 7) (v := 0) C dX12_numbers_7 rfl ?_
  refine g_ldc2 (pc := 8) C dX12_numbers_8 q_1659 ?_
  replace h := bnd h; obtain ⟨r3, h1, h⟩ := h
  refine g_callSi (pc := 11) (As := [.long (Int32.toInt64 x1), .long ((0 : Int64)), .long ((3 : Int64))]) (st := []) C dX12_numbers_11 wX12_within q_1367 q_1366 (by omega) rfl (Nat.le_of_ble_eq_true rfl) (kX12_within (d := 0) (Nat.le_refl _) h1) ?_
  refine g_if_eq (pc := 14) (tgt := 29) C dX12_numbers_14 (by decide) (fun c4 => ?_) (fun c4 => ?_)
  · replace h := ifp c4 h
    refine g_bipush (pc := 29) (v := (-2)) C dX12_numbers_29 (by decide) ?_
    obtain ⟨rfl, rfl⟩ := Prod.mk.inj (Option.some.inj h)
    exact g_iret C hR dX12_numbers_31
  · replace h := ifn c4 h
    refine g_iload_n (pc := 17) C dX12_numbers_17 rfl 2 rfl ?_
    refine g_i2l (pc := 18) C dX12_numbers_18 ?_
    refine g_lconst (pc := 19) (v := 0) C dX12_numbers_19 rfl ?_
    refine g_ldc2 (pc := 20) C dX12_numbers_20 q_1659 ?_
    replace h := bnd h; obtain ⟨r5, h1, h⟩ := h
    refine g_callSi (pc := 23) (As := [.long (Int32.toInt64 x2), .long ((0 : Int64)), .long ((3 : Int64))]) (st := []) C dX12_numbers_23 wX12_within q_1367 q_1366 (by omega) rfl (Nat.le_of_ble_eq_true rfl) (kX12_within (d := 0) (Nat.le_refl _) h1) ?_
    refine g_if_ne (pc := 26) (tgt := 32) C dX12_numbers_26 (by decide) (fun c6 => ?_) (fun c6 => ?_)
    · replace h := ifn c6 h
      refine g_iload_n (pc := 32) C dX12_numbers_32 rfl 3 rfl ?_
      refine g_i2l (pc := 33) C dX12_numbers_33 ?_
      refine g_lconst (pc := 34) (v := 0) C dX12_numbers_34 rfl ?_
      refine g_ldc2 (pc := 35) C dX12_numbers_35 q_1695 ?_
      replace h := bnd h; obtain ⟨r7, h1, h⟩ := h
      refine g_callSi (pc := 38) (As := [.long (Int32.toInt64 x3), .long ((0 : Int64)), .long ((40 : Int64))]) (st := []) C dX12_numbers_38 wX12_within q_1367 q_1366 (by omega) rfl (Nat.le_of_ble_eq_true rfl) (kX12_within (d := 0) (Nat.le_refl _) h1) ?_
      refine g_if_ne (pc := 41) (tgt := 47) C dX12_numbers_41 (by decide) (fun c8 => ?_) (fun c8 => ?_)
      · replace h := ifn c8 h
        refine g_aload_n (pc := 47) C dX12_numbers_47 rfl 0 rfl ?_
        refine g_get (pc := 48) (v := va_rf (gR M2 x0 40)) C dX12_numbers_48 kX12 hk1 40 (by decide) q_1267 rfl ?_
        replace h := bnd h; obtain ⟨a9, ea9, h⟩ := h
        refine g_refq ea9 ?_
        refine g_iload_n (pc := 51) C dX12_numbers_51 rfl 1 rfl ?_
        refine g_iload_n (pc := 52) C dX12_numbers_52 rfl 2 rfl ?_
        replace h := gd_some h; obtain ⟨hk10, h⟩ := h
        replace h := gv_some h; obtain ⟨hi11, h⟩ := h
        refine g_iast (pc := 53) C dX12_numbers_53 hk10 hi11 ?_
        refine g_mem (fun M12 eM12 => ?_)
        replace h := lt_at eM12 h
        refine g_aload_n (pc := 54) C dX12_numbers_54 rfl 0 rfl ?_
        refine g_get (pc := 55) (v := va_rf (gR M12 x0 41)) C dX12_numbers_55 kX12 hk1 41 (by decide) q_1268 rfl ?_
        replace h := bnd h; obtain ⟨a13, ea13, h⟩ := h
        refine g_refq ea13 ?_
        refine g_iload_n (pc := 58) C dX12_numbers_58 rfl 1 rfl ?_
        refine g_iload_n (pc := 59) C dX12_numbers_59 rfl 3 rfl ?_
        replace h := gd_some h; obtain ⟨hk14, h⟩ := h
        replace h := gv_some h; obtain ⟨hi15, h⟩ := h
        refine g_iast (pc := 60) C dX12_numbers_60 hk14 hi15 ?_
        refine g_mem (fun M16 eM16 => ?_)
        replace h := lt_at eM16 h
        refine g_iconst (pc := 61) (v := 0) C dX12_numbers_61 (by decide) ?_
        refine g_istore (pc := 62) (lo2 := [(4, .int ((0 : Int32))), (0, .ref (x0)), (1, .int (x1)), (2, .int (x2)), (3, .int (x3))]) C dX12_numbers_62 (by decide) rfl ?_
        replace h := bnd h; obtain ⟨M24, h1, h⟩ := h
        refine g_sub [1, 2, 4, 0] rfl ?_
        refine lp_G2 (P := PX12_numbers_64 X B _ _ T x0 x1 x3) (E := EX12_numbers_64 X B _ _ T x0 x1 x3) (tbX12_numbers_64 C hd) h1 ?_
        show G X B 5 _ _ 89 [] [] T M24
        refine g_iconst (pc := 89) (v := 0) C dX12_numbers_89 (by decide) ?_
        obtain ⟨rfl, rfl⟩ := Prod.mk.inj (Option.some.inj h)
        exact g_iret C hR dX12_numbers_90
      · replace h := ifp c8 h
        refine g_bipush (pc := 44) (v := (-3)) C dX12_numbers_44 (by decide) ?_
        obtain ⟨rfl, rfl⟩ := Prod.mk.inj (Option.some.inj h)
        exact g_iret C hR dX12_numbers_46
    · replace h := ifp c6 h
      refine g_bipush (pc := 29) (v := (-2)) C dX12_numbers_29 (by decide) ?_
      obtain ⟨rfl, rfl⟩ := Prod.mk.inj (Option.some.inj h)
      exact g_iret C hR dX12_numbers_31
theorem dX12_write_0 : decode cX12_write 0 = .ok (.aload_n 0, 1) := by decide +kernel
theorem dX12_write_1 : decode cX12_write 1 = .ok (.iconst 0, 1) := by decide +kernel
theorem dX12_write_2 : decode cX12_write 2 = .ok (.putfield 1, 3) := by decide +kernel
theorem dX12_write_5 : decode cX12_write 5 = .ok (.aload_n 0, 1) := by decide +kernel
theorem dX12_write_6 : decode cX12_write 6 = .ok (.iload_n 1, 1) := by decide +kernel
theorem dX12_write_7 : decode cX12_write 7 = .ok (.invokevirtual 386, 3) := by decide +kernel
theorem dX12_write_10 : decode cX12_write 10 = .ok (.istore 5, 2) := by decide +kernel
theorem dX12_write_12 : decode cX12_write 12 = .ok (.iload 5, 2) := by decide +kernel
theorem dX12_write_14 : decode cX12_write 14 = .ok (.ifCond .eq 7, 3) := by decide +kernel
theorem dX12_write_17 : decode cX12_write 17 = .ok (.iload 5, 2) := by decide +kernel
theorem dX12_write_19 : decode cX12_write 19 = .ok (.i2l, 1) := by decide +kernel
theorem dX12_write_20 : decode cX12_write 20 = .ok (.lreturn, 1) := by decide +kernel
theorem dX12_write_21 : decode cX12_write 21 = .ok (.iload_n 2, 1) := by decide +kernel
theorem dX12_write_22 : decode cX12_write 22 = .ok (.i2l, 1) := by decide +kernel
theorem dX12_write_23 : decode cX12_write 23 = .ok (.lconst 0, 1) := by decide +kernel
theorem dX12_write_24 : decode cX12_write 24 = .ok (.aload_n 0, 1) := by decide +kernel
theorem dX12_write_25 : decode cX12_write 25 = .ok (.getfield 67, 3) := by decide +kernel
theorem dX12_write_28 : decode cX12_write 28 = .ok (.iload_n 1, 1) := by decide +kernel
theorem dX12_write_29 : decode cX12_write 29 = .ok (.iaload, 1) := by decide +kernel
theorem dX12_write_30 : decode cX12_write 30 = .ok (.iconst 1, 1) := by decide +kernel
theorem dX12_write_31 : decode cX12_write 31 = .ok (.isub, 1) := by decide +kernel
theorem dX12_write_32 : decode cX12_write 32 = .ok (.i2l, 1) := by decide +kernel
theorem dX12_write_33 : decode cX12_write 33 = .ok (.invokestatic 139, 3) := by decide +kernel
theorem dX12_write_36 : decode cX12_write 36 = .ok (.ifCond .ne 7, 3) := by decide +kernel
theorem dX12_write_39 : decode cX12_write 39 = .ok (.ldc2_w 472, 3) := by decide +kernel
theorem dX12_write_42 : decode cX12_write 42 = .ok (.lreturn, 1) := by decide +kernel
theorem dX12_write_43 : decode cX12_write 43 = .ok (.aload_n 0, 1) := by decide +kernel
theorem dX12_write_44 : decode cX12_write 44 = .ok (.getfield 70, 3) := by decide +kernel
theorem dX12_write_47 : decode cX12_write 47 = .ok (.bipush 40, 2) := by decide +kernel
theorem dX12_write_49 : decode cX12_write 49 = .ok (.iload_n 1, 1) := by decide +kernel
theorem dX12_write_50 : decode cX12_write 50 = .ok (.imul, 1) := by decide +kernel
theorem dX12_write_51 : decode cX12_write 51 = .ok (.iload_n 2, 1) := by decide +kernel
theorem dX12_write_52 : decode cX12_write 52 = .ok (.iadd, 1) := by decide +kernel
theorem dX12_write_53 : decode cX12_write 53 = .ok (.lload_n 3, 1) := by decide +kernel
theorem dX12_write_54 : decode cX12_write 54 = .ok (.aload_n 0, 1) := by decide +kernel
theorem dX12_write_55 : decode cX12_write 55 = .ok (.getfield 64, 3) := by decide +kernel
theorem dX12_write_58 : decode cX12_write 58 = .ok (.iload_n 1, 1) := by decide +kernel
theorem dX12_write_59 : decode cX12_write 59 = .ok (.iaload, 1) := by decide +kernel
theorem dX12_write_60 : decode cX12_write 60 = .ok (.invokestatic 474, 3) := by decide +kernel
theorem dX12_write_63 : decode cX12_write 63 = .ok (.lastore, 1) := by decide +kernel
theorem dX12_write_64 : decode cX12_write 64 = .ok (.aload_n 0, 1) := by decide +kernel
theorem dX12_write_65 : decode cX12_write 65 = .ok (.getfield 70, 3) := by decide +kernel
theorem dX12_write_68 : decode cX12_write 68 = .ok (.bipush 40, 2) := by decide +kernel
theorem dX12_write_70 : decode cX12_write 70 = .ok (.iload_n 1, 1) := by decide +kernel
theorem dX12_write_71 : decode cX12_write 71 = .ok (.imul, 1) := by decide +kernel
theorem dX12_write_72 : decode cX12_write 72 = .ok (.iload_n 2, 1) := by decide +kernel
theorem dX12_write_73 : decode cX12_write 73 = .ok (.iadd, 1) := by decide +kernel
theorem dX12_write_74 : decode cX12_write 74 = .ok (.laload, 1) := by decide +kernel
theorem dX12_write_75 : decode cX12_write 75 = .ok (.lreturn, 1) := by decide +kernel
theorem wX12_write : Mw yX12_write cX12_write 6 (some .long) 3 := ⟨q_1864, q_130, by decide, ⟨by decide +kernel, by decide +kernel⟩, by decide +kernel, by decide +kernel⟩
/-- EyeTrainerModel.write(IIJ)J -/
def fX12_write (T : Sh) (M : Me) (x0 : Nat) (x1 : Int32) (x2 : Int32) (x3 : Int64) : Option (Int64 × Me) :=
  gd (kd T x0 = 11) <| lt (pI M x0 0 (0 : Int32)) fun M2 => Option.bind (fX12_noTray T M2 x0 x1) fun r3 => if r3 = 0 then (Option.bind (gR M2 x0 41) fun a5 => gd (kd T a5 = 13) <| gv x1 (ln T a5) <| Option.bind (fX12_within (Int32.toInt64 x2) (0 : Int64) (Int32.toInt64 ((gI M2 a5 (Int32.toNatClampNeg x1)) - (1 : Int32)))) fun r8 => if r8 = 0 then (some ((-7 : Int64), M2)) else (Option.bind (gR M2 x0 42) fun a10 => Option.bind (gR M2 x0 40) fun a11 => gd (kd T a11 = 13) <| gv x1 (ln T a11) <| Option.bind (fX12_cut x3 (gI M2 a11 (Int32.toNatClampNeg x1))) fun r14 => gd (kd T a10 = 14) <| gv (((40 : Int32) * x1) + x2) (ln T a10) <| lt (pJ M2 a10 (Int32.toNatClampNeg (((40 : Int32) * x1) + x2)) r14) fun M17 => Option.bind (gR M17 x0 42) fun a18 => gd (kd T a18 = 14) <| gv (((40 : Int32) * x1) + x2) (ln T a18) <| some ((gJ M17 a18 (Int32.toNatClampNeg (((40 : Int32) * x1) + x2))), M17))) else (some ((Int32.toInt64 r3), M2))
set_option maxHeartbeats 4000000 in
theorem kX12_write {l : Launch} {B : Bx} {d : Nat} (hd : 2 ≤ d) {T : Sh} {M : Me} {x0 : Nat} {x1 : Int32} {x2 : Int32} {x3 : Int64} {r : Int64} {M' : Me} (h : fX12_write T M x0 x1 x2 x3 = some (r, M')) : Kt l B yX12_write cX12_write 6 (some .long) d [.ref (x0), .int (x1), .int (x2), .long (x3)] T M (some (.long r)) T M' := by
  refine kt_of wX12_write (Nat.le_refl _) (Nat.le_refl _) (Nat.le_of_ble_eq_true rfl) (fun X C hR hlx hin => ?_)
  subst hlx
  replace C : Cx X B cX12_write 6 RX12 d (tp T, sl T, tp T, sl T) := C
  unfold fX12_write at h
  show G X B 6 _ _ 0 [(0, .ref (x0)), (1, .int (x1)), (2, .int (x2)), (3, .long (x3))] [] T M
  refine g_aload_n (pc := 0) C dX12_write_0 rfl 0 rfl ?_
  refine g_iconst (pc := 1) (v := 0) C dX12_write_1 (by decide) ?_
  replace h := gd_some h; obtain ⟨hk1, h⟩ := h
  refine g_putI (pc := 2) C dX12_write_2 kX12 hk1 0 (by decide) rfl rfl rfl q_1227 ?_
  refine g_mem (fun M2 eM2 => ?_)
  replace h := lt_at eM2 h
  refine g_aload_n (pc := 5) C dX12_write_5 rfl 0 rfl ?_
  refine g_iload_n (pc := 6) C dX12_write_6 rfl 1 rfl ?_
  replace h := bnd h; obtain ⟨r3, h1, h⟩ := h
  refine g_callVi (pc := 7) (As := [.int (x1)]) (st := []) C dX12_write_7 wX12_noTray hk1 rfl (by decide) q_1662 q_101 q_1660 (by omega) rfl (Nat.le_of_ble_eq_true rfl) (kX12_noTray (d := 1) (Nat.le_refl _) h1) ?_
  refine g_istore (pc := 10) (lo2 := [(5, .int (r3)), (0, .ref (x0)), (1, .int (x1)), (2, .int (x2)), (3, .long (x3))]) C dX12_write_10 (by decide) rfl ?_
  refine g_iload (pc := 12) C dX12_write_12 0 rfl ?_
  refine g_if_eq (pc := 14) (tgt := 21) C dX12_write_14 (by decide) (fun c4 => ?_) (fun c4 => ?_)
  · replace h := ifp c4 h
    refine g_iload_n (pc := 21) C dX12_write_21 rfl 3 rfl ?_
    refine g_i2l (pc := 22) C dX12_write_22 ?_
    refine g_lconst (pc := 23) (v := 0) C dX12_write_23 rfl ?_
    refine g_aload_n (pc := 24) C dX12_write_24 rfl 1 rfl ?_
    refine g_get (pc := 25) (v := va_rf (gR M2 x0 41)) C dX12_write_25 kX12 hk1 41 (by decide) q_1268 rfl ?_
    replace h := bnd h; obtain ⟨a5, ea5, h⟩ := h
    refine g_refq ea5 ?_
    refine g_iload_n (pc := 28) C dX12_write_28 rfl 2 rfl ?_
    replace h := gd_some h; obtain ⟨hk6, h⟩ := h
    replace h := gv_some h; obtain ⟨hi7, h⟩ := h
    refine g_iald (pc := 29) C dX12_write_29 hk6 hi7 ?_
    refine g_iconst (pc := 30) (v := 1) C dX12_write_30 (by decide) ?_
    refine g_isub (pc := 31) C dX12_write_31 ?_
    refine g_i2l (pc := 32) C dX12_write_32 ?_
    replace h := bnd h; obtain ⟨r8, h1, h⟩ := h
    refine g_callSi (pc := 33) (As := [.long (Int32.toInt64 x2), .long ((0 : Int64)), .long (Int32.toInt64 ((gI M2 a5 (Int32.toNatClampNeg x1)) - (1 : Int32)))]) (st := []) C dX12_write_33 wX12_within q_1367 q_1366 (by omega) rfl (Nat.le_of_ble_eq_true rfl) (kX12_within (d := 0) (Nat.le_refl _) h1) ?_
    refine g_if_ne (pc := 36) (tgt := 43) C dX12_write_36 (by decide) (fun c9 => ?_) (fun c9 => ?_)
    · replace h := ifn c9 h
      refine g_aload_n (pc := 43) C dX12_write_43 rfl 1 rfl ?_
      refine g_get (pc := 44) (v := va_rf (gR M2 x0 42)) C dX12_write_44 kX12 hk1 42 (by decide) q_1269 rfl ?_
      replace h := bnd h; obtain ⟨a10, ea10, h⟩ := h
      refine g_refq ea10 ?_
      refine g_bipush (pc := 47) (v := 40) C dX12_write_47 (by decide) ?_
      refine g_iload_n (pc := 49) C dX12_write_49 rfl 2 rfl ?_
      refine g_imul (pc := 50) C dX12_write_50 ?_
      refine g_iload_n (pc := 51) C dX12_write_51 rfl 3 rfl ?_
      refine g_iadd (pc := 52) C dX12_write_52 ?_
      refine g_lload_n (pc := 53) C dX12_write_53 rfl 4 rfl ?_
      refine g_aload_n (pc := 54) C dX12_write_54 rfl 1 rfl ?_
      refine g_get (pc := 55) (v := va_rf (gR M2 x0 40)) C dX12_write_55 kX12 hk1 40 (by decide) q_1267 rfl ?_
      replace h := bnd h; obtain ⟨a11, ea11, h⟩ := h
      refine g_refq ea11 ?_
      refine g_iload_n (pc := 58) C dX12_write_58 rfl 2 rfl ?_
      replace h := gd_some h; obtain ⟨hk12, h⟩ := h
      replace h := gv_some h; obtain ⟨hi13, h⟩ := h
      refine g_iald (pc := 59) C dX12_write_59 hk12 hi13 ?_
      replace h := bnd h; obtain ⟨r14, h1, h⟩ := h
      refine g_callSl (pc := 60) (As := [.long (x3), .int (gI M2 a11 (Int32.toNatClampNeg x1))]) (st := [.int (((40 : Int32) * x1) + x2), .ref (a10)]) C dX12_write_60 wX12_cut q_1867 q_1866 (by omega) rfl (Nat.le_of_ble_eq_true rfl) (kX12_cut (d := 0) (Nat.le_refl _) h1) ?_
      replace h := gd_some h; obtain ⟨hk15, h⟩ := h
      replace h := gv_some h; obtain ⟨hi16, h⟩ := h
      refine g_last (pc := 63) C dX12_write_63 hk15 hi16 ?_
      refine g_mem (fun M17 eM17 => ?_)
      replace h := lt_at eM17 h
      refine g_aload_n (pc := 64) C dX12_write_64 rfl 1 rfl ?_
      refine g_get (pc := 65) (v := va_rf (gR M17 x0 42)) C dX12_write_65 kX12 hk1 42 (by decide) q_1269 rfl ?_
      replace h := bnd h; obtain ⟨a18, ea18, h⟩ := h
      refine g_refq ea18 ?_
      refine g_bipush (pc := 68) (v := 40) C dX12_write_68 (by decide) ?_
      refine g_iload_n (pc := 70) C dX12_write_70 rfl 2 rfl ?_
      refine g_imul (pc := 71) C dX12_write_71 ?_
      refine g_iload_n (pc := 72) C dX12_write_72 rfl 3 rfl ?_
      refine g_iadd (pc := 73) C dX12_write_73 ?_
      replace h := gd_some h; obtain ⟨hk19, h⟩ := h
      replace h := gv_some h; obtain ⟨hi20, h⟩ := h
      refine g_lald (pc := 74) C dX12_write_74 hk19 hi20 ?_
      obtain ⟨rfl, rfl⟩ := Prod.mk.inj (Option.some.inj h)
      exact g_lret C hR dX12_write_75
    · replace h := ifp c9 h
      refine g_ldc2 (pc := 39) C dX12_write_39 q_1865 ?_
      obtain ⟨rfl, rfl⟩ := Prod.mk.inj (Option.some.inj h)
      exact g_lret C hR dX12_write_42
  · replace h := ifn c4 h
    refine g_iload (pc := 17) C dX12_write_17 0 rfl ?_
    refine g_i2l (pc := 19) C dX12_write_19 ?_
    obtain ⟨rfl, rfl⟩ := Prod.mk.inj (Option.some.inj h)
    exact g_lret C hR dX12_write_20
theorem dX12_lists_0 : decode cX12_lists 0 = .ok (.aload_n 0, 1) := by decide +kernel
theorem dX12_lists_1 : decode cX12_lists 1 = .ok (.iconst 0, 1) := by decide +kernel
theorem dX12_lists_2 : decode cX12_lists 2 = .ok (.putfield 1, 3) := by decide +kernel
theorem dX12_lists_5 : decode cX12_lists 5 = .ok (.iload_n 1, 1) := by decide +kernel
theorem dX12_lists_6 : decode cX12_lists 6 = .ok (.i2l, 1) := by decide +kernel
theorem dX12_lists_7 : decode cX12_lists 7 = .ok (.lconst 0, 1) := by decide +kernel
theorem dX12_lists_8 : decode cX12_lists 8 = .ok (.ldc2_w 384, 3) := by decide +kernel
theorem dX12_lists_11 : decode cX12_lists 11 = .ok (.invokestatic 139, 3) := by decide +kernel
theorem dX12_lists_14 : decode cX12_lists 14 = .ok (.ifCond .eq 12, 3) := by decide +kernel
theorem dX12_lists_17 : decode cX12_lists 17 = .ok (.aload_n 0, 1) := by decide +kernel
theorem dX12_lists_18 : decode cX12_lists 18 = .ok (.iload_n 2, 1) := by decide +kernel
theorem dX12_lists_19 : decode cX12_lists 19 = .ok (.i2l, 1) := by decide +kernel
theorem dX12_lists_20 : decode cX12_lists 20 = .ok (.invokevirtual 247, 3) := by decide +kernel
theorem dX12_lists_23 : decode cX12_lists 23 = .ok (.ifCond .ne 6, 3) := by decide +kernel
theorem dX12_lists_26 : decode cX12_lists 26 = .ok (.bipush (-2), 2) := by decide +kernel
theorem dX12_lists_28 : decode cX12_lists 28 = .ok (.ireturn, 1) := by decide +kernel
theorem dX12_lists_29 : decode cX12_lists 29 = .ok (.aload_n 0, 1) := by decide +kernel
theorem dX12_lists_30 : decode cX12_lists 30 = .ok (.iload_n 1, 1) := by decide +kernel
theorem dX12_lists_31 : decode cX12_lists 31 = .ok (.invokevirtual 386, 3) := by decide +kernel
theorem dX12_lists_34 : decode cX12_lists 34 = .ok (.istore_n 3, 1) := by decide +kernel
theorem dX12_lists_35 : decode cX12_lists 35 = .ok (.iload_n 3, 1) := by decide +kernel
theorem dX12_lists_36 : decode cX12_lists 36 = .ok (.ifCond .eq 5, 3) := by decide +kernel
theorem dX12_lists_39 : decode cX12_lists 39 = .ok (.iload_n 3, 1) := by decide +kernel
theorem dX12_lists_40 : decode cX12_lists 40 = .ok (.ireturn, 1) := by decide +kernel
theorem dX12_lists_41 : decode cX12_lists 41 = .ok (.aload_n 0, 1) := by decide +kernel
theorem dX12_lists_42 : decode cX12_lists 42 = .ok (.invokevirtual 251, 3) := by decide +kernel
theorem dX12_lists_45 : decode cX12_lists 45 = .ok (.iconst 0, 1) := by decide +kernel
theorem dX12_lists_46 : decode cX12_lists 46 = .ok (.istore 4, 2) := by decide +kernel
theorem dX12_lists_48 : decode cX12_lists 48 = .ok (.iconst 0, 1) := by decide +kernel
theorem dX12_lists_49 : decode cX12_lists 49 = .ok (.istore 5, 2) := by decide +kernel
theorem dX12_lists_51 : decode cX12_lists 51 = .ok (.iload 5, 2) := by decide +kernel
theorem dX12_lists_53 : decode cX12_lists 53 = .ok (.aload_n 0, 1) := by decide +kernel
theorem dX12_lists_54 : decode cX12_lists 54 = .ok (.getfield 67, 3) := by decide +kernel
theorem dX12_lists_57 : decode cX12_lists 57 = .ok (.iload_n 1, 1) := by decide +kernel
theorem dX12_lists_58 : decode cX12_lists 58 = .ok (.iaload, 1) := by decide +kernel
theorem dX12_lists_59 : decode cX12_lists 59 = .ok (.if_icmp .ge 81, 3) := by decide +kernel
theorem dX12_lists_62 : decode cX12_lists 62 = .ok (.aload_n 0, 1) := by decide +kernel
theorem dX12_lists_63 : decode cX12_lists 63 = .ok (.getfield 70, 3) := by decide +kernel
theorem dX12_lists_66 : decode cX12_lists 66 = .ok (.bipush 40, 2) := by decide +kernel
theorem dX12_lists_68 : decode cX12_lists 68 = .ok (.iload_n 1, 1) := by decide +kernel
theorem dX12_lists_69 : decode cX12_lists 69 = .ok (.imul, 1) := by decide +kernel
theorem dX12_lists_70 : decode cX12_lists 70 = .ok (.iload 5, 2) := by decide +kernel
theorem dX12_lists_72 : decode cX12_lists 72 = .ok (.iadd, 1) := by decide +kernel
theorem dX12_lists_73 : decode cX12_lists 73 = .ok (.laload, 1) := by decide +kernel
theorem dX12_lists_74 : decode cX12_lists 74 = .ok (.lstore 6, 2) := by decide +kernel
theorem dX12_lists_76 : decode cX12_lists 76 = .ok (.lload 6, 2) := by decide +kernel
theorem dX12_lists_78 : decode cX12_lists 78 = .ok (.invokestatic 263, 3) := by decide +kernel
theorem dX12_lists_81 : decode cX12_lists 81 = .ok (.ifCond .ne 6, 3) := by decide +kernel
theorem dX12_lists_84 : decode cX12_lists 84 = .ok (.goto 50, 3) := by decide +kernel
theorem dX12_lists_87 : decode cX12_lists 87 = .ok (.aload_n 0, 1) := by decide +kernel
theorem dX12_lists_88 : decode cX12_lists 88 = .ok (.getfield 70, 3) := by decide +kernel
theorem dX12_lists_91 : decode cX12_lists 91 = .ok (.bipush 40, 2) := by decide +kernel
theorem dX12_lists_93 : decode cX12_lists 93 = .ok (.iload_n 1, 1) := by decide +kernel
theorem dX12_lists_94 : decode cX12_lists 94 = .ok (.imul, 1) := by decide +kernel
theorem dX12_lists_95 : decode cX12_lists 95 = .ok (.iload 5, 2) := by decide +kernel
theorem dX12_lists_97 : decode cX12_lists 97 = .ok (.iadd, 1) := by decide +kernel
theorem dX12_lists_98 : decode cX12_lists 98 = .ok (.ldc2_w 307, 3) := by decide +kernel
theorem dX12_lists_101 : decode cX12_lists 101 = .ok (.lload 6, 2) := by decide +kernel
theorem dX12_lists_103 : decode cX12_lists 103 = .ok (.lmul, 1) := by decide +kernel
theorem dX12_lists_104 : decode cX12_lists 104 = .ok (.aload_n 0, 1) := by decide +kernel
theorem dX12_lists_105 : decode cX12_lists 105 = .ok (.iload_n 2, 1) := by decide +kernel
theorem dX12_lists_106 : decode cX12_lists 106 = .ok (.lload 6, 2) := by decide +kernel
theorem dX12_lists_108 : decode cX12_lists 108 = .ok (.l2i, 1) := by decide +kernel
theorem dX12_lists_109 : decode cX12_lists 109 = .ok (.invokevirtual 229, 3) := by decide +kernel
theorem dX12_lists_112 : decode cX12_lists 112 = .ok (.ifCond .eq 7, 3) := by decide +kernel
theorem dX12_lists_115 : decode cX12_lists 115 = .ok (.lconst 1, 1) := by decide +kernel
theorem dX12_lists_116 : decode cX12_lists 116 = .ok (.goto 4, 3) := by decide +kernel
theorem dX12_lists_119 : decode cX12_lists 119 = .ok (.lconst 0, 1) := by decide +kernel
theorem dX12_lists_120 : decode cX12_lists 120 = .ok (.ladd, 1) := by decide +kernel
theorem dX12_lists_121 : decode cX12_lists 121 = .ok (.aload_n 0, 1) := by decide +kernel
theorem dX12_lists_122 : decode cX12_lists 122 = .ok (.getfield 64, 3) := by decide +kernel
theorem dX12_lists_125 : decode cX12_lists 125 = .ok (.iload_n 1, 1) := by decide +kernel
theorem dX12_lists_126 : decode cX12_lists 126 = .ok (.iaload, 1) := by decide +kernel
theorem dX12_lists_127 : decode cX12_lists 127 = .ok (.invokestatic 474, 3) := by decide +kernel
theorem dX12_lists_130 : decode cX12_lists 130 = .ok (.lastore, 1) := by decide +kernel
theorem dX12_lists_131 : decode cX12_lists 131 = .ok (.iinc 4 1, 3) := by decide +kernel
theorem dX12_lists_134 : decode cX12_lists 134 = .ok (.iinc 5 1, 3) := by decide +kernel
theorem dX12_lists_137 : decode cX12_lists 137 = .ok (.goto (-86), 3) := by decide +kernel
theorem dX12_lists_140 : decode cX12_lists 140 = .ok (.iload 4, 2) := by decide +kernel
theorem dX12_lists_142 : decode cX12_lists 142 = .ok (.ireturn, 1) := by decide +kernel
theorem wX12_lists : Mw yX12_lists cX12_lists 8 (some .int) 2 := ⟨q_1872, q_130, by decide, ⟨by decide +kernel, by decide +kernel⟩, by decide +kernel, by decide +kernel⟩
-- a loop of EyeTrainerModel.lists at 51
def bX12_lists_51 (T : Sh) (x0 : Nat) (x1 : Int32) (x2 : Int32) (x4 : Int32) (x5 : Int32) (M : Me) : Option ((Int32 × Int32 × Me) ⊕ ((Int32 × Me))) :=
  gd (kd T x0 = 11) <| Option.bind (gR M x0 41) fun a11 => gd (kd T a11 = 13) <| gv x1 (ln T a11) <| if (gI M a11 (Int32.toNatClampNeg x1)) ≤ x5 then (some (.inr (x4, M))) else (Option.bind (gR M x0 42) fun a15 => gd (kd T a15 = 14) <| gv (((40 : Int32) * x1) + x5) (ln T a15) <| lt (gJ M a15 (Int32.toNatClampNeg (((40 : Int32) * x1) + x5))) fun v18 => Option.bind (fX12_isCell v18) fun r19 => if r19 = 0 then (lt (x5 + (1 : Int32)) fun v43 => some (.inl (x4, v43, M))) else (Option.bind (gR M x0 42) fun a21 => Option.bind (fX12_isPassed T M x0 x2 (Int64.toInt32 v18)) <| un2 fun r22 M23 => if r22 = 0 then (Option.bind (gR M23 x0 40) fun a25 => gd (kd T a25 = 13) <| gv x1 (ln T a25) <| Option.bind (fX12_cut (((2 : Int64) * v18) + (0 : Int64)) (gI M23 a25 (Int32.toNatClampNeg x1))) fun r28 => gd (kd T a21 = 14) <| gv (((40 : Int32) * x1) + x5) (ln T a21) <| lt (pJ M23 a21 (Int32.toNatClampNeg (((40 : Int32) * x1) + x5)) r28) fun M31 => lt (x4 + (1 : Int32)) fun v32 => lt (x5 + (1 : Int32)) fun v33 => some (.inl (v32, v33, M31))) else (Option.bind (gR M23 x0 40) fun a34 => gd (kd T a34 = 13) <| gv x1 (ln T a34) <| Option.bind (fX12_cut (((2 : Int64) * v18) + (1 : Int64)) (gI M23 a34 (Int32.toNatClampNeg x1))) fun r37 => gd (kd T a21 = 14) <| gv (((40 : Int32) * x1) + x5) (ln T a21) <| lt (pJ M23 a21 (Int32.toNatClampNeg (((40 : Int32) * x1) + x5)) r37) fun M40 => lt (x4 + (1 : Int32)) fun v41 => lt (x5 + (1 : Int32)) fun v42 => some (.inl (v41, v42, M40)))))
def PX12_lists_51 (X : Fx) (B : Bx) (Z : Nat × Nat × Nat × Nat) (Q : State → Prop) (T : Sh) (x0 : Nat) (x1 : Int32) (x2 : Int32) (s : Int32 × Int32 × Me) : Prop := G X B 8 Z Q 51 [(0, .ref (x0)), (1, .int (x1)), (2, .int (x2)), (4, .int (s.1)), (5, .int (s.2.1))] [] T s.2.2
def EX12_lists_51 (X : Fx) (B : Bx) (Z : Nat × Nat × Nat × Nat) (Q : State → Prop) (T : Sh) (x0 : Nat) (x1 : Int32) (x2 : Int32) (r : (Int32 × Me)) : Prop := G X B 8 Z Q 140 [(4, .int (r.1))] [] T r.2
set_option maxHeartbeats 4000000 in
theorem tbX12_lists_51 {X : Fx} {B : Bx} {Z : Nat × Nat × Nat × Nat} {Q : State → Prop} {d : Nat} {T : Sh} (C : Cx X B cX12_lists 8 RX12 d Z) (hd : 4 ≤ d) {x0 : Nat} {x1 : Int32} {x2 : Int32} : ∀ (s : Int32 × Int32 × Me) (o : (Int32 × Int32 × Me) ⊕ ((Int32 × Me))), bX12_lists_51 T x0 x1 x2 s.1 s.2.1 s.2.2 = some o → lpE (PX12_lists_51 X B Z Q T x0 x1 x2) (EX12_lists_51 X B Z Q T x0 x1 x2) o → PX12_lists_51 X B Z Q T x0 x1 x2 s := by
  rintro ⟨x4, x5, M⟩ o h hE
  replace h : bX12_lists_51 T x0 x1 x2 x4 x5 M = some o := h
  unfold bX12_lists_51 at h
  show G X B 8 Z Q 51 [(0, .ref (x0)), (1, .int (x1)), (2, .int (x2)), (4, .int (x4)), (5, .int (x5))] [] T M
  refine g_iload (pc := 51) C dX12_lists_51 4 rfl ?_
  refine g_aload_n (pc := 53) C dX12_lists_53 rfl 0 rfl ?_
  replace h := gd_some h; obtain ⟨hk10, h⟩ := h
  refine g_get (pc := 54) (v := va_rf (gR M x0 41)) C dX12_lists_54 kX12 hk10 41 (by decide) q_1268 rfl ?_
  replace h := bnd h; obtain ⟨a11, ea11, h⟩ := h
  refine g_refq ea11 ?_
  refine g_iload_n (pc := 57) C dX12_lists_57 rfl 1 rfl ?_
  replace h := gd_some h; obtain ⟨hk12, h⟩ := h
  replace h := gv_some h; obtain ⟨hi13, h⟩ := h
  refine g_iald (pc := 58) C dX12_lists_58 hk12 hi13 ?_
  refine g_icmp_ge (pc := 59) (tgt := 140) C dX12_lists_59 (by decide) (fun c14 => ?_) (fun c14 => ?_)
  · replace h := ifp c14 h
    obtain rfl := Option.some.inj h
    exact g_sub [3] rfl (show G X B 8 Z Q 140 [(4, .int (x4))] [] T M from hE)
  · replace h := ifn c14 h
    refine g_aload_n (pc := 62) C dX12_lists_62 rfl 0 rfl ?_
    refine g_get (pc := 63) (v := va_rf (gR M x0 42)) C dX12_lists_63 kX12 hk10 42 (by decide) q_1269 rfl ?_
    replace h := bnd h; obtain ⟨a15, ea15, h⟩ := h
    refine g_refq ea15 ?_
    refine g_bipush (pc := 66) (v := 40) C dX12_lists_66 (by decide) ?_
    refine g_iload_n (pc := 68) C dX12_lists_68 rfl 1 rfl ?_
    refine g_imul (pc := 69) C dX12_lists_69 ?_
    refine g_iload (pc := 70) C dX12_lists_70 4 rfl ?_
    refine g_iadd (pc := 72) C dX12_lists_72 ?_
    replace h := gd_some h; obtain ⟨hk16, h⟩ := h
    replace h := gv_some h; obtain ⟨hi17, h⟩ := h
    refine g_lald (pc := 73) C dX12_lists_73 hk16 hi17 ?_
    refine g_topl (fun v18 ev18 => ?_)
    replace h := lt_at ev18 h
    refine g_lstore (pc := 74) (lo2 := [(6, .long (v18)), (0, .ref (x0)), (1, .int (x1)), (2, .int (x2)), (4, .int (x4)), (5, .int (x5))]) C dX12_lists_74 (by decide) rfl ?_
    refine g_lload (pc := 76) C dX12_lists_76 0 rfl ?_
    replace h := bnd h; obtain ⟨r19, h1, h⟩ := h
    refine g_callSi (pc := 78) (As := [.long (v18)]) (st := []) C dX12_lists_78 wX12_isCell q_1530 q_1529 (by omega) rfl (Nat.le_of_ble_eq_true rfl) (kX12_isCell (d := 1) (Nat.le_refl _) h1) ?_
    refine g_if_ne (pc := 81) (tgt := 87) C dX12_lists_81 (by decide) (fun c20 => ?_) (fun c20 => ?_)
    · replace h := ifn c20 h
      refine g_aload_n (pc := 87) C dX12_lists_87 rfl 1 rfl ?_
      refine g_get (pc := 88) (v := va_rf (gR M x0 42)) C dX12_lists_88 kX12 hk10 42 (by decide) q_1269 rfl ?_
      replace h := bnd h; obtain ⟨a21, ea21, h⟩ := h
      refine g_refq ea21 ?_
      refine g_bipush (pc := 91) (v := 40) C dX12_lists_91 (by decide) ?_
      refine g_iload_n (pc := 93) C dX12_lists_93 rfl 2 rfl ?_
      refine g_imul (pc := 94) C dX12_lists_94 ?_
      refine g_iload (pc := 95) C dX12_lists_95 5 rfl ?_
      refine g_iadd (pc := 97) C dX12_lists_97 ?_
      refine g_ldc2 (pc := 98) C dX12_lists_98 q_1574 ?_
      refine g_lload (pc := 101) C dX12_lists_101 0 rfl ?_
      refine g_lmul (pc := 103) C dX12_lists_103 ?_
      refine g_aload_n (pc := 104) C dX12_lists_104 rfl 1 rfl ?_
      refine g_iload_n (pc := 105) C dX12_lists_105 rfl 3 rfl ?_
      refine g_lload (pc := 106) C dX12_lists_106 0 rfl ?_
      refine g_l2i (pc := 108) C dX12_lists_108 ?_
      replace h := bnd2 h; obtain ⟨r22, M23, h1, h⟩ := h
      refine g_callVi (pc := 109) (As := [.int (x2), .int (Int64.toInt32 v18)]) (st := [.long ((2 : Int64) * v18), .int (((40 : Int32) * x1) + x5), .ref (a21)]) C dX12_lists_109 wX12_isPassed hk10 rfl (by decide) q_1506 q_80 q_1504 (by omega) rfl (Nat.le_of_ble_eq_true rfl) (kX12_isPassed (d := 2) (Nat.le_refl _) h1) ?_
      refine g_if_eq (pc := 112) (tgt := 119) C dX12_lists_112 (by decide) (fun c24 => ?_) (fun c24 => ?_)
      · replace h := ifp c24 h
        refine g_lconst (pc := 119) (v := 0) C dX12_lists_119 rfl ?_
        refine g_ladd (pc := 120) C dX12_lists_120 ?_
        refine g_aload_n (pc := 121) C dX12_lists_121 rfl 1 rfl ?_
        refine g_get (pc := 122) (v := va_rf (gR M23 x0 40)) C dX12_lists_122 kX12 hk10 40 (by decide) q_1267 rfl ?_
        replace h := bnd h; obtain ⟨a25, ea25, h⟩ := h
        refine g_refq ea25 ?_
        refine g_iload_n (pc := 125) C dX12_lists_125 rfl 2 rfl ?_
        replace h := gd_some h; obtain ⟨hk26, h⟩ := h
        replace h := gv_some h; obtain ⟨hi27, h⟩ := h
        refine g_iald (pc := 126) C dX12_lists_126 hk26 hi27 ?_
        replace h := bnd h; obtain ⟨r28, h1, h⟩ := h
        refine g_callSl (pc := 127) (As := [.long (((2 : Int64) * v18) + (0 : Int64)), .int (gI M23 a25 (Int32.toNatClampNeg x1))]) (st := [.int (((40 : Int32) * x1) + x5), .ref (a21)]) C dX12_lists_127 wX12_cut q_1867 q_1866 (by omega) rfl (Nat.le_of_ble_eq_true rfl) (kX12_cut (d := 0) (Nat.le_refl _) h1) ?_
        replace h := gd_some h; obtain ⟨hk29, h⟩ := h
        replace h := gv_some h; obtain ⟨hi30, h⟩ := h
        refine g_last (pc := 130) C dX12_lists_130 hk29 hi30 ?_
        refine g_mem (fun M31 eM31 => ?_)
        replace h := lt_at eM31 h
        obtain ⟨v32, ev32⟩ : ∃ y : Int32, y = x4 + (1 : Int32) := ⟨_, rfl⟩
        replace h := lt_at ev32 h
        refine g_iinc (pc := 131) (v := v32) (k := 4) (lo2 := [(4, .int (v32)), (6, .long (v18)), (0, .ref (x0)), (1, .int (x1)), (2, .int (x2)), (5, .int (x5))]) C dX12_lists_131 rfl (by rw [ev32]; rfl) (by decide) rfl ?_
        obtain ⟨v33, ev33⟩ : ∃ y : Int32, y = x5 + (1 : Int32) := ⟨_, rfl⟩
        replace h := lt_at ev33 h
        refine g_iinc (pc := 134) (v := v33) (k := 5) (lo2 := [(5, .int (v33)), (4, .int (v32)), (6, .long (v18)), (0, .ref (x0)), (1, .int (x1)), (2, .int (x2))]) C dX12_lists_134 rfl (by rw [ev33]; rfl) (by decide) rfl ?_
        refine g_goto (pc := 137) (tgt := 51) C dX12_lists_137 (by decide) ?_
        obtain rfl := Option.some.inj h
        exact g_sub [3, 4, 5, 1, 0] rfl (show G X B 8 Z Q 51 [(0, .ref (x0)), (1, .int (x1)), (2, .int (x2)), (4, .int (v32)), (5, .int (v33))] [] T M31 from hE)
      · replace h := ifn c24 h
        refine g_lconst (pc := 115) (v := 1) C dX12_lists_115 rfl ?_
        refine g_goto (pc := 116) (tgt := 120) C dX12_lists_116 (by decide) ?_
        refine g_ladd (pc := 120) C dX12_lists_120 ?_
        refine g_aload_n (pc := 121) C dX12_lists_121 rfl 1 rfl ?_
        refine g_get (pc := 122) (v := va_rf (gR M23 x0 40)) C dX12_lists_122 kX12 hk10 40 (by decide) q_1267 rfl ?_
        replace h := bnd h; obtain ⟨a34, ea34, h⟩ := h
        refine g_refq ea34 ?_
        refine g_iload_n (pc := 125) C dX12_lists_125 rfl 2 rfl ?_
        replace h := gd_some h; obtain ⟨hk35, h⟩ := h
        replace h := gv_some h; obtain ⟨hi36, h⟩ := h
        refine g_iald (pc := 126) C dX12_lists_126 hk35 hi36 ?_
        replace h := bnd h; obtain ⟨r37, h1, h⟩ := h
        refine g_callSl (pc := 127) (As := [.long (((2 : Int64) * v18) + (1 : Int64)), .int (gI M23 a34 (Int32.toNatClampNeg x1))]) (st := [.int (((40 : Int32) * x1) + x5), .ref (a21)]) C dX12_lists_127 wX12_cut q_1867 q_1866 (by omega) rfl (Nat.le_of_ble_eq_true rfl) (kX12_cut (d := 0) (Nat.le_refl _) h1) ?_
        replace h := gd_some h; obtain ⟨hk38, h⟩ := h
        replace h := gv_some h; obtain ⟨hi39, h⟩ := h
        refine g_last (pc := 130) C dX12_lists_130 hk38 hi39 ?_
        refine g_mem (fun M40 eM40 => ?_)
        replace h := lt_at eM40 h
        obtain ⟨v41, ev41⟩ : ∃ y : Int32, y = x4 + (1 : Int32) := ⟨_, rfl⟩
        replace h := lt_at ev41 h
        refine g_iinc (pc := 131) (v := v41) (k := 4) (lo2 := [(4, .int (v41)), (6, .long (v18)), (0, .ref (x0)), (1, .int (x1)), (2, .int (x2)), (5, .int (x5))]) C dX12_lists_131 rfl (by rw [ev41]; rfl) (by decide) rfl ?_
        obtain ⟨v42, ev42⟩ : ∃ y : Int32, y = x5 + (1 : Int32) := ⟨_, rfl⟩
        replace h := lt_at ev42 h
        refine g_iinc (pc := 134) (v := v42) (k := 5) (lo2 := [(5, .int (v42)), (4, .int (v41)), (6, .long (v18)), (0, .ref (x0)), (1, .int (x1)), (2, .int (x2))]) C dX12_lists_134 rfl (by rw [ev42]; rfl) (by decide) rfl ?_
        refine g_goto (pc := 137) (tgt := 51) C dX12_lists_137 (by decide) ?_
        obtain rfl := Option.some.inj h
        exact g_sub [3, 4, 5, 1, 0] rfl (show G X B 8 Z Q 51 [(0, .ref (x0)), (1, .int (x1)), (2, .int (x2)), (4, .int (v41)), (5, .int (v42))] [] T M40 from hE)
    · replace h := ifp c20 h
      refine g_goto (pc := 84) (tgt := 134) C dX12_lists_84 (by decide) ?_
      obtain ⟨v43, ev43⟩ : ∃ y : Int32, y = x5 + (1 : Int32) := ⟨_, rfl⟩
      replace h := lt_at ev43 h
      refine g_iinc (pc := 134) (v := v43) (k := 5) (lo2 := [(5, .int (v43)), (6, .long (v18)), (0, .ref (x0)), (1, .int (x1)), (2, .int (x2)), (4, .int (x4))]) C dX12_lists_134 rfl (by rw [ev43]; rfl) (by decide) rfl ?_
      refine g_goto (pc := 137) (tgt := 51) C dX12_lists_137 (by decide) ?_
      obtain rfl := Option.some.inj h
      exact g_sub [2, 3, 4, 5, 0] rfl (show G X B 8 Z Q 51 [(0, .ref (x0)), (1, .int (x1)), (2, .int (x2)), (4, .int (x4)), (5, .int (v43))] [] T M from hE)
/-- EyeTrainerModel.lists(II)I -/
def fX12_lists (T : Sh) (M : Me) (x0 : Nat) (x1 : Int32) (x2 : Int32) : Option (Int32 × Me) :=
  gd (kd T x0 = 11) <| lt (pI M x0 0 (0 : Int32)) fun M2 => Option.bind (fX12_within (Int32.toInt64 x1) (0 : Int64) (3 : Int64)) fun r3 => if r3 = 0 then (some ((-2 : Int32), M2)) else (Option.bind (fX12_isLane T M2 x0 (Int32.toInt64 x2)) fun r5 => if r5 = 0 then (some ((-2 : Int32), M2)) else (Option.bind (fX12_noTray T M2 x0 x1) fun r7 => if r7 = 0 then (Option.bind (fX12_laysNow T M2 x0) <| un2 fun _u M9 => (lp FU (fun s => bX12_lists_51 T x0 x1 x2 s.1 s.2.1 s.2.2) ((0 : Int32), (0 : Int32), M9)).bind (un2 fun x4_44 M45 => some (x4_44, M45))) else (some (r7, M2))))
set_option maxHeartbeats 4000000 in
theorem kX12_lists {l : Launch} {B : Bx} {d : Nat} (hd : 4 ≤ d) {T : Sh} {M : Me} {x0 : Nat} {x1 : Int32} {x2 : Int32} {r : Int32} {M' : Me} (h : fX12_lists T M x0 x1 x2 = some (r, M')) : Kt l B yX12_lists cX12_lists 8 (some .int) d [.ref (x0), .int (x1), .int (x2)] T M (some (.int r)) T M' := by
  refine kt_of wX12_lists (Nat.le_refl _) (Nat.le_refl _) (Nat.le_of_ble_eq_true rfl) (fun X C hR hlx hin => ?_)
  subst hlx
  replace C : Cx X B cX12_lists 8 RX12 d (tp T, sl T, tp T, sl T) := C
  unfold fX12_lists at h
  show G X B 8 _ _ 0 [(0, .ref (x0)), (1, .int (x1)), (2, .int (x2))] [] T M
  refine g_aload_n (pc := 0) C dX12_lists_0 rfl 0 rfl ?_
  refine g_iconst (pc := 1) (v := 0) C dX12_lists_1 (by decide) ?_
  replace h := gd_some h; obtain ⟨hk1, h⟩ := h
  refine g_putI (pc := 2) C dX12_lists_2 kX12 hk1 0 (by decide) rfl rfl rfl q_1227 ?_
  refine g_mem (fun M2 eM2 => ?_)
  replace h := lt_at eM2 h
  refine g_iload_n (pc := 5) C dX12_lists_5 rfl 1 rfl ?_
  refine g_i2l (pc := 6) C dX12_lists_6 ?_
  refine g_lconst (pc := 7) (v := 0) C dX12_lists_7 rfl ?_
  refine g_ldc2 (pc := 8) C dX12_lists_8 q_1659 ?_
  replace h := bnd h; obtain ⟨r3, h1, h⟩ := h
  refine g_callSi (pc := 11) (As := [.long (Int32.toInt64 x1), .long ((0 : Int64)), .long ((3 : Int64))]) (st := []) C dX12_lists_11 wX12_within q_1367 q_1366 (by omega) rfl (Nat.le_of_ble_eq_true rfl) (kX12_within (d := 0) (Nat.le_refl _) h1) ?_
  refine g_if_eq (pc := 14) (tgt := 26) C dX12_lists_14 (by decide) (fun c4 => ?_) (fun c4 => ?_)
  · replace h := ifp c4 h
    refine g_bipush (pc := 26) (v := (-2)) C dX12_lists_26 (by decide) ?_
    obtain ⟨rfl, rfl⟩ := Prod.mk.inj (Option.some.inj h)
    exact g_iret C hR dX12_lists_28
  · replace h := ifn c4 h
    refine g_aload_n (pc := 17) C dX12_lists_17 rfl 0 rfl ?_
    refine g_iload_n (pc := 18) C dX12_lists_18 rfl 2 rfl ?_
    refine g_i2l (pc := 19) C dX12_lists_19 ?_
    replace h := bnd h; obtain ⟨r5, h1, h⟩ := h
    refine g_callVi (pc := 20) (As := [.long (Int32.toInt64 x2)]) (st := []) C dX12_lists_20 wX12_isLane hk1 rfl (by decide) q_1481 q_75 q_1479 (by omega) rfl (Nat.le_of_ble_eq_true rfl) (kX12_isLane (d := 1) (Nat.le_refl _) h1) ?_
    refine g_if_ne (pc := 23) (tgt := 29) C dX12_lists_23 (by decide) (fun c6 => ?_) (fun c6 => ?_)
    · replace h := ifn c6 h
      refine g_aload_n (pc := 29) C dX12_lists_29 rfl 0 rfl ?_
      refine g_iload_n (pc := 30) C dX12_lists_30 rfl 1 rfl ?_
      replace h := bnd h; obtain ⟨r7, h1, h⟩ := h
      refine g_callVi (pc := 31) (As := [.int (x1)]) (st := []) C dX12_lists_31 wX12_noTray hk1 rfl (by decide) q_1662 q_101 q_1660 (by omega) rfl (Nat.le_of_ble_eq_true rfl) (kX12_noTray (d := 1) (Nat.le_refl _) h1) ?_
      refine g_istore_n (pc := 34) (lo2 := [(3, .int (r7)), (0, .ref (x0)), (1, .int (x1)), (2, .int (x2))]) C dX12_lists_34 rfl (by decide) rfl ?_
      refine g_iload_n (pc := 35) C dX12_lists_35 rfl 0 rfl ?_
      refine g_if_eq (pc := 36) (tgt := 41) C dX12_lists_36 (by decide) (fun c8 => ?_) (fun c8 => ?_)
      · replace h := ifp c8 h
        refine g_aload_n (pc := 41) C dX12_lists_41 rfl 1 rfl ?_
        replace h := bnd2 h; obtain ⟨_u, M9, h1, h⟩ := h
        refine g_callVv (pc := 42) (As := []) (st := []) C dX12_lists_42 wX12_laysNow hk1 rfl (by decide) q_1485 q_76 q_1483 (by omega) rfl (Nat.le_of_ble_eq_true rfl) (kX12_laysNow (d := 3) (Nat.le_refl _) h1) ?_
        refine g_iconst (pc := 45) (v := 0) C dX12_lists_45 (by decide) ?_
        refine g_istore (pc := 46) (lo2 := [(4, .int ((0 : Int32))), (3, .int (r7)), (0, .ref (x0)), (1, .int (x1)), (2, .int (x2))]) C dX12_lists_46 (by decide) rfl ?_
        refine g_iconst (pc := 48) (v := 0) C dX12_lists_48 (by decide) ?_
        refine g_istore (pc := 49) (lo2 := [(5, .int ((0 : Int32))), (4, .int ((0 : Int32))), (3, .int (r7)), (0, .ref (x0)), (1, .int (x1)), (2, .int (x2))]) C dX12_lists_49 (by decide) rfl ?_
        replace h := bnd2 h; obtain ⟨x4_44, M45, h1, h⟩ := h
        refine g_sub [3, 4, 5, 1, 0] rfl ?_
        refine lp_G2 (P := PX12_lists_51 X B _ _ T x0 x1 x2) (E := EX12_lists_51 X B _ _ T x0 x1 x2) (tbX12_lists_51 C hd) h1 ?_
        show G X B 8 _ _ 140 [(4, .int (x4_44))] [] T M45
        refine g_iload (pc := 140) C dX12_lists_140 0 rfl ?_
        obtain ⟨rfl, rfl⟩ := Prod.mk.inj (Option.some.inj h)
        exact g_iret C hR dX12_lists_142
      · replace h := ifn c8 h
        refine g_iload_n (pc := 39) C dX12_lists_39 rfl 0 rfl ?_
        obtain ⟨rfl, rfl⟩ := Prod.mk.inj (Option.some.inj h)
        exact g_iret C hR dX12_lists_40
    · replace h := ifp c6 h
      refine g_bipush (pc := 26) (v := (-2)) C dX12_lists_26 (by decide) ?_
      obtain ⟨rfl, rfl⟩ := Prod.mk.inj (Option.some.inj h)
      exact g_iret C hR dX12_lists_28
theorem dX12_image_0 : decode cX12_image 0 = .ok (.aload_n 0, 1) := by decide +kernel
theorem dX12_image_1 : decode cX12_image 1 = .ok (.iconst 0, 1) := by decide +kernel
theorem dX12_image_2 : decode cX12_image 2 = .ok (.putfield 1, 3) := by decide +kernel
theorem dX12_image_5 : decode cX12_image 5 = .ok (.iload_n 1, 1) := by decide +kernel
theorem dX12_image_6 : decode cX12_image 6 = .ok (.i2l, 1) := by decide +kernel
theorem dX12_image_7 : decode cX12_image 7 = .ok (.lconst 0, 1) := by decide +kernel
theorem dX12_image_8 : decode cX12_image 8 = .ok (.lconst 1, 1) := by decide +kernel
theorem dX12_image_9 : decode cX12_image 9 = .ok (.invokestatic 139, 3) := by decide +kernel
theorem dX12_image_12 : decode cX12_image 12 = .ok (.ifCond .ne 6, 3) := by decide +kernel
theorem dX12_image_15 : decode cX12_image 15 = .ok (.bipush (-2), 2) := by decide +kernel
theorem dX12_image_17 : decode cX12_image 17 = .ok (.ireturn, 1) := by decide +kernel
theorem dX12_image_18 : decode cX12_image 18 = .ok (.iconst 0, 1) := by decide +kernel
theorem dX12_image_19 : decode cX12_image 19 = .ok (.istore_n 2, 1) := by decide +kernel
theorem dX12_image_20 : decode cX12_image 20 = .ok (.iload_n 2, 1) := by decide +kernel
theorem dX12_image_21 : decode cX12_image 21 = .ok (.sipush 1032, 3) := by decide +kernel
theorem dX12_image_24 : decode cX12_image 24 = .ok (.if_icmp .ge 29, 3) := by decide +kernel
theorem dX12_image_27 : decode cX12_image 27 = .ok (.aload_n 0, 1) := by decide +kernel
theorem dX12_image_28 : decode cX12_image 28 = .ok (.getfield 13, 3) := by decide +kernel
theorem dX12_image_31 : decode cX12_image 31 = .ok (.sipush 1032, 3) := by decide +kernel
theorem dX12_image_34 : decode cX12_image 34 = .ok (.iload_n 1, 1) := by decide +kernel
theorem dX12_image_35 : decode cX12_image 35 = .ok (.iconst 1, 1) := by decide +kernel
theorem dX12_image_36 : decode cX12_image 36 = .ok (.iadd, 1) := by decide +kernel
theorem dX12_image_37 : decode cX12_image 37 = .ok (.imul, 1) := by decide +kernel
theorem dX12_image_38 : decode cX12_image 38 = .ok (.iload_n 2, 1) := by decide +kernel
theorem dX12_image_39 : decode cX12_image 39 = .ok (.iadd, 1) := by decide +kernel
theorem dX12_image_40 : decode cX12_image 40 = .ok (.aload_n 0, 1) := by decide +kernel
theorem dX12_image_41 : decode cX12_image 41 = .ok (.getfield 13, 3) := by decide +kernel
theorem dX12_image_44 : decode cX12_image 44 = .ok (.iload_n 2, 1) := by decide +kernel
theorem dX12_image_45 : decode cX12_image 45 = .ok (.iaload, 1) := by decide +kernel
theorem dX12_image_46 : decode cX12_image 46 = .ok (.iastore, 1) := by decide +kernel
theorem dX12_image_47 : decode cX12_image 47 = .ok (.iinc 2 1, 3) := by decide +kernel
theorem dX12_image_50 : decode cX12_image 50 = .ok (.goto (-30), 3) := by decide +kernel
theorem dX12_image_53 : decode cX12_image 53 = .ok (.aload_n 0, 1) := by decide +kernel
theorem dX12_image_54 : decode cX12_image 54 = .ok (.getfield 17, 3) := by decide +kernel
theorem dX12_image_57 : decode cX12_image 57 = .ok (.iload_n 1, 1) := by decide +kernel
theorem dX12_image_58 : decode cX12_image 58 = .ok (.iconst 1, 1) := by decide +kernel
theorem dX12_image_59 : decode cX12_image 59 = .ok (.bastore, 1) := by decide +kernel
theorem dX12_image_60 : decode cX12_image 60 = .ok (.iconst 0, 1) := by decide +kernel
theorem dX12_image_61 : decode cX12_image 61 = .ok (.ireturn, 1) := by decide +kernel
theorem wX12_image : Mw yX12_image cX12_image 3 (some .int) 1 := ⟨q_1876, q_130, by decide, ⟨by decide +kernel, by decide +kernel⟩, by decide +kernel, by decide +kernel⟩
-- a loop of EyeTrainerModel.image at 20
def bX12_image_20 (T : Sh) (x0 : Nat) (x1 : Int32) (x2 : Int32) (M : Me) : Option ((Int32 × Me) ⊕ (Me)) :=
  if (1032 : Int32) ≤ x2 then (some (.inr M)) else (gd (kd T x0 = 11) <| Option.bind (gR M x0 1) fun a7 => Option.bind (gR M x0 1) fun a8 => gd (kd T a8 = 13) <| gv x2 (ln T a8) <| gd (kd T a7 = 13) <| gv (((1032 : Int32) * (x1 + (1 : Int32))) + x2) (ln T a7) <| lt (pI M a7 (Int32.toNatClampNeg (((1032 : Int32) * (x1 + (1 : Int32))) + x2)) (gI M a8 (Int32.toNatClampNeg x2))) fun M13 => lt (x2 + (1 : Int32)) fun v14 => some (.inl (v14, M13)))
def PX12_image_20 (X : Fx) (B : Bx) (Z : Nat × Nat × Nat × Nat) (Q : State → Prop) (T : Sh) (x0 : Nat) (x1 : Int32) (s : Int32 × Me) : Prop := G X B 3 Z Q 20 [(0, .ref (x0)), (1, .int (x1)), (2, .int (s.1))] [] T s.2
def EX12_image_20 (X : Fx) (B : Bx) (Z : Nat × Nat × Nat × Nat) (Q : State → Prop) (T : Sh) (x0 : Nat) (x1 : Int32) (r : Me) : Prop := G X B 3 Z Q 53 [(0, .ref (x0)), (1, .int (x1))] [] T r
set_option maxHeartbeats 4000000 in
theorem tbX12_image_20 {X : Fx} {B : Bx} {Z : Nat × Nat × Nat × Nat} {Q : State → Prop} {d : Nat} {T : Sh} (C : Cx X B cX12_image 3 RX12 d Z) (hd : 1 ≤ d) {x0 : Nat} {x1 : Int32} : ∀ (s : Int32 × Me) (o : (Int32 × Me) ⊕ (Me)), bX12_image_20 T x0 x1 s.1 s.2 = some o → lpE (PX12_image_20 X B Z Q T x0 x1) (EX12_image_20 X B Z Q T x0 x1) o → PX12_image_20 X B Z Q T x0 x1 s := by
  rintro ⟨x2, M⟩ o h hE
  replace h : bX12_image_20 T x0 x1 x2 M = some o := h
  unfold bX12_image_20 at h
  show G X B 3 Z Q 20 [(0, .ref (x0)), (1, .int (x1)), (2, .int (x2))] [] T M
  refine g_iload_n (pc := 20) C dX12_image_20 rfl 2 rfl ?_
  refine g_sipush (pc := 21) (v := 1032) C dX12_image_21 (by decide) ?_
  refine g_icmp_ge (pc := 24) (tgt := 53) C dX12_image_24 (by decide) (fun c5 => ?_) (fun c5 => ?_)
  · replace h := ifp c5 h
    obtain rfl := Option.some.inj h
    exact g_sub [0, 1] rfl (show G X B 3 Z Q 53 [(0, .ref (x0)), (1, .int (x1))] [] T M from hE)
  · replace h := ifn c5 h
    refine g_aload_n (pc := 27) C dX12_image_27 rfl 0 rfl ?_
    replace h := gd_some h; obtain ⟨hk6, h⟩ := h
    refine g_get (pc := 28) (v := va_rf (gR M x0 1)) C dX12_image_28 kX12 hk6 1 (by decide) q_1228 rfl ?_
    replace h := bnd h; obtain ⟨a7, ea7, h⟩ := h
    refine g_refq ea7 ?_
    refine g_sipush (pc := 31) (v := 1032) C dX12_image_31 (by decide) ?_
    refine g_iload_n (pc := 34) C dX12_image_34 rfl 1 rfl ?_
    refine g_iconst (pc := 35) (v := 1) C dX12_image_35 (by decide) ?_
    refine g_iadd (pc := 36) C dX12_image_36 ?_
    refine g_imul (pc := 37) C dX12_image_37 ?_
    refine g_iload_n (pc := 38) C dX12_image_38 rfl 2 rfl ?_
    refine g_iadd (pc := 39) C dX12_image_39 ?_
    refine g_aload_n (pc := 40) C dX12_image_40 rfl 0 rfl ?_
    refine g_get (pc := 41) (v := va_rf (gR M x0 1)) C dX12_image_41 kX12 hk6 1 (by decide) q_1228 rfl ?_
    replace h := bnd h; obtain ⟨a8, ea8, h⟩ := h
    refine g_refq ea8 ?_
    refine g_iload_n (pc := 44) C dX12_image_44 rfl 2 rfl ?_
    replace h := gd_some h; obtain ⟨hk9, h⟩ := h
    replace h := gv_some h; obtain ⟨hi10, h⟩ := h
    refine g_iald (pc := 45) C dX12_image_45 hk9 hi10 ?_
    replace h := gd_some h; obtain ⟨hk11, h⟩ := h
    replace h := gv_some h; obtain ⟨hi12, h⟩ := h
    refine g_iast (pc := 46) C dX12_image_46 hk11 hi12 ?_
    refine g_mem (fun M13 eM13 => ?_)
    replace h := lt_at eM13 h
    obtain ⟨v14, ev14⟩ : ∃ y : Int32, y = x2 + (1 : Int32) := ⟨_, rfl⟩
    replace h := lt_at ev14 h
    refine g_iinc (pc := 47) (v := v14) (k := 2) (lo2 := [(2, .int (v14)), (0, .ref (x0)), (1, .int (x1))]) C dX12_image_47 rfl (by rw [ev14]; rfl) (by decide) rfl ?_
    refine g_goto (pc := 50) (tgt := 20) C dX12_image_50 (by decide) ?_
    obtain rfl := Option.some.inj h
    exact g_sub [1, 2, 0] rfl (show G X B 3 Z Q 20 [(0, .ref (x0)), (1, .int (x1)), (2, .int (v14))] [] T M13 from hE)
/-- EyeTrainerModel.image(I)I -/
def fX12_image (T : Sh) (M : Me) (x0 : Nat) (x1 : Int32) : Option (Int32 × Me) :=
  gd (kd T x0 = 11) <| lt (pI M x0 0 (0 : Int32)) fun M2 => Option.bind (fX12_within (Int32.toInt64 x1) (0 : Int64) (1 : Int64)) fun r3 => if r3 = 0 then (some ((-2 : Int32), M2)) else ((lp FU (fun s => bX12_image_20 T x0 x1 s.1 s.2) ((0 : Int32), M2)).bind (fun M15 => Option.bind (gR M15 x0 2) fun a16 => gd (kd T a16 = 15) <| gv x1 (ln T a16) <| lt (pI M15 a16 (Int32.toNatClampNeg x1) (vp_nar .boolean (1 : Int32))) fun M19 => some ((0 : Int32), M19)))
set_option maxHeartbeats 4000000 in
theorem kX12_image {l : Launch} {B : Bx} {d : Nat} (hd : 1 ≤ d) {T : Sh} {M : Me} {x0 : Nat} {x1 : Int32} {r : Int32} {M' : Me} (h : fX12_image T M x0 x1 = some (r, M')) : Kt l B yX12_image cX12_image 3 (some .int) d [.ref (x0), .int (x1)] T M (some (.int r)) T M' := by
  refine kt_of wX12_image (Nat.le_refl _) (Nat.le_refl _) (Nat.le_of_ble_eq_true rfl) (fun X C hR hlx hin => ?_)
  subst hlx
  replace C : Cx X B cX12_image 3 RX12 d (tp T, sl T, tp T, sl T) := C
  unfold fX12_image at h
  show G X B 3 _ _ 0 [(0, .ref (x0)), (1, .int (x1))] [] T M
  refine g_aload_n (pc := 0) C dX12_image_0 rfl 0 rfl ?_
  refine g_iconst (pc := 1) (v := 0) C dX12_image_1 (by decide) ?_
  replace h := gd_some h; obtain ⟨hk1, h⟩ := h
  refine g_putI (pc := 2) C dX12_image_2 kX12 hk1 0 (by decide) rfl rfl rfl q_1227 ?_
  refine g_mem (fun M2 eM2 => ?_)
  replace h := lt_at eM2 h
  refine g_iload_n (pc := 5) C dX12_image_5 rfl 1 rfl ?_
  refine g_i2l (pc := 6) C dX12_image_6 ?_
  refine g_lconst (pc := 7) (v := 0) C dX12_image_7 rfl ?_
  refine g_lconst (pc := 8) (v := 1) C dX12_image_8 rfl ?_
  replace h := bnd h; obtain ⟨r3, h1, h⟩ := h
  refine g_callSi (pc := 9) (As := [.long (Int32.toInt64 x1), .long ((0 : Int64)), .long ((1 : Int64))]) (st := []) C dX12_image_9 wX12_within q_1367 q_1366 (by omega) rfl (Nat.le_of_ble_eq_true rfl) (kX12_within (d := 0) (Nat.le_refl _) h1) ?_
  refine g_if_ne (pc := 12) (tgt := 18) C dX12_image_12 (by decide) (fun c4 => ?_) (fun c4 => ?_)
  · replace h := ifn c4 h
    refine g_iconst (pc := 18) (v := 0) C dX12_image_18 (by decide) ?_
    refine g_istore_n (pc := 19) (lo2 := [(2, .int ((0 : Int32))), (0, .ref (x0)), (1, .int (x1))]) C dX12_image_19 rfl (by decide) rfl ?_
    replace h := bnd h; obtain ⟨M15, h1, h⟩ := h
    refine g_sub [1, 2, 0] rfl ?_
    refine lp_G2 (P := PX12_image_20 X B _ _ T x0 x1) (E := EX12_image_20 X B _ _ T x0 x1) (tbX12_image_20 C hd) h1 ?_
    show G X B 3 _ _ 53 [(0, .ref (x0)), (1, .int (x1))] [] T M15
    refine g_aload_n (pc := 53) C dX12_image_53 rfl 0 rfl ?_
    refine g_get (pc := 54) (v := va_rf (gR M15 x0 2)) C dX12_image_54 kX12 hk1 2 (by decide) q_1229 rfl ?_
    replace h := bnd h; obtain ⟨a16, ea16, h⟩ := h
    refine g_refq ea16 ?_
    refine g_iload_n (pc := 57) C dX12_image_57 rfl 1 rfl ?_
    refine g_iconst (pc := 58) (v := 1) C dX12_image_58 (by decide) ?_
    replace h := gd_some h; obtain ⟨hk17, h⟩ := h
    replace h := gv_some h; obtain ⟨hi18, h⟩ := h
    refine g_zast (pc := 59) C dX12_image_59 hk17 hi18 ?_
    refine g_mem (fun M19 eM19 => ?_)
    replace h := lt_at eM19 h
    refine g_iconst (pc := 60) (v := 0) C dX12_image_60 (by decide) ?_
    obtain ⟨rfl, rfl⟩ := Prod.mk.inj (Option.some.inj h)
    exact g_iret C hR dX12_image_61
  · replace h := ifp c4 h
    refine g_bipush (pc := 15) (v := (-2)) C dX12_image_15 (by decide) ?_
    obtain ⟨rfl, rfl⟩ := Prod.mk.inj (Option.some.inj h)
    exact g_iret C hR dX12_image_17
theorem dX12_restore_0 : decode cX12_restore 0 = .ok (.aload_n 0, 1) := by decide +kernel
theorem dX12_restore_1 : decode cX12_restore 1 = .ok (.iconst 0, 1) := by decide +kernel
theorem dX12_restore_2 : decode cX12_restore 2 = .ok (.putfield 1, 3) := by decide +kernel
theorem dX12_restore_5 : decode cX12_restore 5 = .ok (.iload_n 1, 1) := by decide +kernel
theorem dX12_restore_6 : decode cX12_restore 6 = .ok (.i2l, 1) := by decide +kernel
theorem dX12_restore_7 : decode cX12_restore 7 = .ok (.lconst 0, 1) := by decide +kernel
theorem dX12_restore_8 : decode cX12_restore 8 = .ok (.lconst 1, 1) := by decide +kernel
theorem dX12_restore_9 : decode cX12_restore 9 = .ok (.invokestatic 139, 3) := by decide +kernel
theorem dX12_restore_12 : decode cX12_restore 12 = .ok (.ifCond .ne 6, 3) := by decide +kernel
theorem dX12_restore_15 : decode cX12_restore 15 = .ok (.bipush (-2), 2) := by decide +kernel
theorem dX12_restore_17 : decode cX12_restore 17 = .ok (.ireturn, 1) := by decide +kernel
theorem dX12_restore_18 : decode cX12_restore 18 = .ok (.aload_n 0, 1) := by decide +kernel
theorem dX12_restore_19 : decode cX12_restore 19 = .ok (.getfield 17, 3) := by decide +kernel
theorem dX12_restore_22 : decode cX12_restore 22 = .ok (.iload_n 1, 1) := by decide +kernel
theorem dX12_restore_23 : decode cX12_restore 23 = .ok (.baload, 1) := by decide +kernel
theorem dX12_restore_24 : decode cX12_restore 24 = .ok (.ifCond .ne 6, 3) := by decide +kernel
theorem dX12_restore_27 : decode cX12_restore 27 = .ok (.bipush (-5), 2) := by decide +kernel
theorem dX12_restore_29 : decode cX12_restore 29 = .ok (.ireturn, 1) := by decide +kernel
theorem dX12_restore_30 : decode cX12_restore 30 = .ok (.iconst 0, 1) := by decide +kernel
theorem dX12_restore_31 : decode cX12_restore 31 = .ok (.istore_n 2, 1) := by decide +kernel
theorem dX12_restore_32 : decode cX12_restore 32 = .ok (.iload_n 2, 1) := by decide +kernel
theorem dX12_restore_33 : decode cX12_restore 33 = .ok (.sipush 1032, 3) := by decide +kernel
theorem dX12_restore_36 : decode cX12_restore 36 = .ok (.if_icmp .ge 29, 3) := by decide +kernel
theorem dX12_restore_39 : decode cX12_restore 39 = .ok (.aload_n 0, 1) := by decide +kernel
theorem dX12_restore_40 : decode cX12_restore 40 = .ok (.getfield 13, 3) := by decide +kernel
theorem dX12_restore_43 : decode cX12_restore 43 = .ok (.iload_n 2, 1) := by decide +kernel
theorem dX12_restore_44 : decode cX12_restore 44 = .ok (.aload_n 0, 1) := by decide +kernel
theorem dX12_restore_45 : decode cX12_restore 45 = .ok (.getfield 13, 3) := by decide +kernel
theorem dX12_restore_48 : decode cX12_restore 48 = .ok (.sipush 1032, 3) := by decide +kernel
theorem dX12_restore_51 : decode cX12_restore 51 = .ok (.iload_n 1, 1) := by decide +kernel
theorem dX12_restore_52 : decode cX12_restore 52 = .ok (.iconst 1, 1) := by decide +kernel
theorem dX12_restore_53 : decode cX12_restore 53 = .ok (.iadd, 1) := by decide +kernel
theorem dX12_restore_54 : decode cX12_restore 54 = .ok (.imul, 1) := by decide +kernel
theorem dX12_restore_55 : decode cX12_restore 55 = .ok (.iload_n 2, 1) := by decide +kernel
theorem dX12_restore_56 : decode cX12_restore 56 = .ok (.iadd, 1) := by decide +kernel
theorem dX12_restore_57 : decode cX12_restore 57 = .ok (.iaload, 1) := by decide +kernel
theorem dX12_restore_58 : decode cX12_restore 58 = .ok (.iastore, 1) := by decide +kernel
theorem dX12_restore_59 : decode cX12_restore 59 = .ok (.iinc 2 1, 3) := by decide +kernel
theorem dX12_restore_62 : decode cX12_restore 62 = .ok (.goto (-30), 3) := by decide +kernel
theorem dX12_restore_65 : decode cX12_restore 65 = .ok (.aload_n 0, 1) := by decide +kernel
theorem dX12_restore_66 : decode cX12_restore 66 = .ok (.getfield 13, 3) := by decide +kernel
theorem dX12_restore_69 : decode cX12_restore 69 = .ok (.bipush 50, 2) := by decide +kernel
theorem dX12_restore_71 : decode cX12_restore 71 = .ok (.iconst 0, 1) := by decide +kernel
theorem dX12_restore_72 : decode cX12_restore 72 = .ok (.iastore, 1) := by decide +kernel
theorem dX12_restore_73 : decode cX12_restore 73 = .ok (.iconst 0, 1) := by decide +kernel
theorem dX12_restore_74 : decode cX12_restore 74 = .ok (.ireturn, 1) := by decide +kernel
theorem wX12_restore : Mw yX12_restore cX12_restore 3 (some .int) 1 := ⟨q_1880, q_130, by decide, ⟨by decide +kernel, by decide +kernel⟩, by decide +kernel, by decide +kernel⟩
-- a loop of EyeTrainerModel.restore at 32
def bX12_restore_32 (T : Sh) (x0 : Nat) (x1 : Int32) (x2 : Int32) (M : Me) : Option ((Int32 × Me) ⊕ (Me)) :=
  if (1032 : Int32) ≤ x2 then (some (.inr M)) else (gd (kd T x0 = 11) <| Option.bind (gR M x0 1) fun a11 => Option.bind (gR M x0 1) fun a12 => gd (kd T a12 = 13) <| gv (((1032 : Int32) * (x1 + (1 : Int32))) + x2) (ln T a12) <| gd (kd T a11 = 13) <| gv x2 (ln T a11) <| lt (pI M a11 (Int32.toNatClampNeg x2) (gI M a12 (Int32.toNatClampNeg (((1032 : Int32) * (x1 + (1 : Int32))) + x2)))) fun M17 => lt (x2 + (1 : Int32)) fun v18 => some (.inl (v18, M17)))
def PX12_restore_32 (X : Fx) (B : Bx) (Z : Nat × Nat × Nat × Nat) (Q : State → Prop) (T : Sh) (x0 : Nat) (x1 : Int32) (s : Int32 × Me) : Prop := G X B 3 Z Q 32 [(0, .ref (x0)), (1, .int (x1)), (2, .int (s.1))] [] T s.2
def EX12_restore_32 (X : Fx) (B : Bx) (Z : Nat × Nat × Nat × Nat) (Q : State → Prop) (T : Sh) (x0 : Nat) (x1 : Int32) (r : Me) : Prop := G X B 3 Z Q 65 [(0, .ref (x0))] [] T r
set_option maxHeartbeats 4000000 in
theorem tbX12_restore_32 {X : Fx} {B : Bx} {Z : Nat × Nat × Nat × Nat} {Q : State → Prop} {d : Nat} {T : Sh} (C : Cx X B cX12_restore 3 RX12 d Z) (hd : 1 ≤ d) {x0 : Nat} {x1 : Int32} : ∀ (s : Int32 × Me) (o : (Int32 × Me) ⊕ (Me)), bX12_restore_32 T x0 x1 s.1 s.2 = some o → lpE (PX12_restore_32 X B Z Q T x0 x1) (EX12_restore_32 X B Z Q T x0 x1) o → PX12_restore_32 X B Z Q T x0 x1 s := by
  rintro ⟨x2, M⟩ o h hE
  replace h : bX12_restore_32 T x0 x1 x2 M = some o := h
  unfold bX12_restore_32 at h
  show G X B 3 Z Q 32 [(0, .ref (x0)), (1, .int (x1)), (2, .int (x2))] [] T M
  refine g_iload_n (pc := 32) C dX12_restore_32 rfl 2 rfl ?_
  refine g_sipush (pc := 33) (v := 1032) C dX12_restore_33 (by decide) ?_
  refine g_icmp_ge (pc := 36) (tgt := 65) C dX12_restore_36 (by decide) (fun c9 => ?_) (fun c9 => ?_)
  · replace h := ifp c9 h
    obtain rfl := Option.some.inj h
    exact g_sub [0] rfl (show G X B 3 Z Q 65 [(0, .ref (x0))] [] T M from hE)
  · replace h := ifn c9 h
    refine g_aload_n (pc := 39) C dX12_restore_39 rfl 0 rfl ?_
    replace h := gd_some h; obtain ⟨hk10, h⟩ := h
    refine g_get (pc := 40) (v := va_rf (gR M x0 1)) C dX12_restore_40 kX12 hk10 1 (by decide) q_1228 rfl ?_
    replace h := bnd h; obtain ⟨a11, ea11, h⟩ := h
    refine g_refq ea11 ?_
    refine g_iload_n (pc := 43) C dX12_restore_43 rfl 2 rfl ?_
    refine g_aload_n (pc := 44) C dX12_restore_44 rfl 0 rfl ?_
    refine g_get (pc := 45) (v := va_rf (gR M x0 1)) C dX12_restore_45 kX12 hk10 1 (by decide) q_1228 rfl ?_
    replace h := bnd h; obtain ⟨a12, ea12, h⟩ := h
    refine g_refq ea12 ?_
    refine g_sipush (pc := 48) (v := 1032) C dX12_restore_48 (by decide) ?_
    refine g_iload_n (pc := 51) C dX12_restore_51 rfl 1 rfl ?_
    refine g_iconst (pc := 52) (v := 1) C dX12_restore_52 (by decide) ?_
    refine g_iadd (pc := 53) C dX12_restore_53 ?_
    refine g_imul (pc := 54) C dX12_restore_54 ?_
    refine g_iload_n (pc := 55) C dX12_restore_55 rfl 2 rfl ?_
    refine g_iadd (pc := 56) C dX12_restore_56 ?_
    replace h := gd_some h; obtain ⟨hk13, h⟩ := h
    replace h := gv_some h; obtain ⟨hi14, h⟩ := h
    refine g_iald (pc := 57) C dX12_restore_57 hk13 hi14 ?_
    replace h := gd_some h; obtain ⟨hk15, h⟩ := h
    replace h := gv_some h; obtain ⟨hi16, h⟩ := h
    refine g_iast (pc := 58) C dX12_restore_58 hk15 hi16 ?_
    refine g_mem (fun M17 eM17 => ?_)
    replace h := lt_at eM17 h
    obtain ⟨v18, ev18⟩ : ∃ y : Int32, y = x2 + (1 : Int32) := ⟨_, rfl⟩
    replace h := lt_at ev18 h
    refine g_iinc (pc := 59) (v := v18) (k := 2) (lo2 := [(2, .int (v18)), (0, .ref (x0)), (1, .int (x1))]) C dX12_restore_59 rfl (by rw [ev18]; rfl) (by decide) rfl ?_
    refine g_goto (pc := 62) (tgt := 32) C dX12_restore_62 (by decide) ?_
    obtain rfl := Option.some.inj h
    exact g_sub [1, 2, 0] rfl (show G X B 3 Z Q 32 [(0, .ref (x0)), (1, .int (x1)), (2, .int (v18))] [] T M17 from hE)
/-- EyeTrainerModel.restore(I)I -/
def fX12_restore (T : Sh) (M : Me) (x0 : Nat) (x1 : Int32) : Option (Int32 × Me) :=
  gd (kd T x0 = 11) <| lt (pI M x0 0 (0 : Int32)) fun M2 => Option.bind (fX12_within (Int32.toInt64 x1) (0 : Int64) (1 : Int64)) fun r3 => if r3 = 0 then (some ((-2 : Int32), M2)) else (Option.bind (gR M2 x0 2) fun a5 => gd (kd T a5 = 15) <| gv x1 (ln T a5) <| if (gI M2 a5 (Int32.toNatClampNeg x1)) = 0 then (some ((-5 : Int32), M2)) else ((lp FU (fun s => bX12_restore_32 T x0 x1 s.1 s.2) ((0 : Int32), M2)).bind (fun M19 => Option.bind (gR M19 x0 1) fun a20 => gd (kd T a20 = 13) <| gv (50 : Int32) (ln T a20) <| lt (pI M19 a20 (Int32.toNatClampNeg (50 : Int32)) (0 : Int32)) fun M23 => some ((0 : Int32), M23))))
set_option maxHeartbeats 4000000 in
theorem kX12_restore {l : Launch} {B : Bx} {d : Nat} (hd : 1 ≤ d) {T : Sh} {M : Me} {x0 : Nat} {x1 : Int32} {r : Int32} {M' : Me} (h : fX12_restore T M x0 x1 = some (r, M')) : Kt l B yX12_restore cX12_restore 3 (some .int) d [.ref (x0), .int (x1)] T M (some (.int r)) T M' := by
  refine kt_of wX12_restore (Nat.le_refl _) (Nat.le_refl _) (Nat.le_of_ble_eq_true rfl) (fun X C hR hlx hin => ?_)
  subst hlx
  replace C : Cx X B cX12_restore 3 RX12 d (tp T, sl T, tp T, sl T) := C
  unfold fX12_restore at h
  show G X B 3 _ _ 0 [(0, .ref (x0)), (1, .int (x1))] [] T M
  refine g_aload_n (pc := 0) C dX12_restore_0 rfl 0 rfl ?_
  refine g_iconst (pc := 1) (v := 0) C dX12_restore_1 (by decide) ?_
  replace h := gd_some h; obtain ⟨hk1, h⟩ := h
  refine g_putI (pc := 2) C dX12_restore_2 kX12 hk1 0 (by decide) rfl rfl rfl q_1227 ?_
  refine g_mem (fun M2 eM2 => ?_)
  replace h := lt_at eM2 h
  refine g_iload_n (pc := 5) C dX12_restore_5 rfl 1 rfl ?_
  refine g_i2l (pc := 6) C dX12_restore_6 ?_
  refine g_lconst (pc := 7) (v := 0) C dX12_restore_7 rfl ?_
  refine g_lconst (pc := 8) (v := 1) C dX12_restore_8 rfl ?_
  replace h := bnd h; obtain ⟨r3, h1, h⟩ := h
  refine g_callSi (pc := 9) (As := [.long (Int32.toInt64 x1), .long ((0 : Int64)), .long ((1 : Int64))]) (st := []) C dX12_restore_9 wX12_within q_1367 q_1366 (by omega) rfl (Nat.le_of_ble_eq_true rfl) (kX12_within (d := 0) (Nat.le_refl _) h1) ?_
  refine g_if_ne (pc := 12) (tgt := 18) C dX12_restore_12 (by decide) (fun c4 => ?_) (fun c4 => ?_)
  · replace h := ifn c4 h
    refine g_aload_n (pc := 18) C dX12_restore_18 rfl 0 rfl ?_
    refine g_get (pc := 19) (v := va_rf (gR M2 x0 2)) C dX12_restore_19 kX12 hk1 2 (by decide) q_1229 rfl ?_
    replace h := bnd h; obtain ⟨a5, ea5, h⟩ := h
    refine g_refq ea5 ?_
    refine g_iload_n (pc := 22) C dX12_restore_22 rfl 1 rfl ?_
    replace h := gd_some h; obtain ⟨hk6, h⟩ := h
    replace h := gv_some h; obtain ⟨hi7, h⟩ := h
    refine g_zald (pc := 23) C dX12_restore_23 hk6 hi7 ?_
    refine g_if_ne (pc := 24) (tgt := 30) C dX12_restore_24 (by decide) (fun c8 => ?_) (fun c8 => ?_)
    · replace h := ifn c8 h
      refine g_iconst (pc := 30) (v := 0) C dX12_restore_30 (by decide) ?_
      refine g_istore_n (pc := 31) (lo2 := [(2, .int ((0 : Int32))), (0, .ref (x0)), (1, .int (x1))]) C dX12_restore_31 rfl (by decide) rfl ?_
      replace h := bnd h; obtain ⟨M19, h1, h⟩ := h
      refine g_sub [1, 2, 0] rfl ?_
      refine lp_G2 (P := PX12_restore_32 X B _ _ T x0 x1) (E := EX12_restore_32 X B _ _ T x0 x1) (tbX12_restore_32 C hd) h1 ?_
      show G X B 3 _ _ 65 [(0, .ref (x0))] [] T M19
      refine g_aload_n (pc := 65) C dX12_restore_65 rfl 0 rfl ?_
      refine g_get (pc := 66) (v := va_rf (gR M19 x0 1)) C dX12_restore_66 kX12 hk1 1 (by decide) q_1228 rfl ?_
      replace h := bnd h; obtain ⟨a20, ea20, h⟩ := h
      refine g_refq ea20 ?_
      refine g_bipush (pc := 69) (v := 50) C dX12_restore_69 (by decide) ?_
      refine g_iconst (pc := 71) (v := 0) C dX12_restore_71 (by decide) ?_
      replace h := gd_some h; obtain ⟨hk21, h⟩ := h
      replace h := gv_some h; obtain ⟨hi22, h⟩ := h
      refine g_iast (pc := 72) C dX12_restore_72 hk21 hi22 ?_
      refine g_mem (fun M23 eM23 => ?_)
      replace h := lt_at eM23 h
      refine g_iconst (pc := 73) (v := 0) C dX12_restore_73 (by decide) ?_
      obtain ⟨rfl, rfl⟩ := Prod.mk.inj (Option.some.inj h)
      exact g_iret C hR dX12_restore_74
    · replace h := ifp c8 h
      refine g_bipush (pc := 27) (v := (-5)) C dX12_restore_27 (by decide) ?_
      obtain ⟨rfl, rfl⟩ := Prod.mk.inj (Option.some.inj h)
      exact g_iret C hR dX12_restore_29
  · replace h := ifp c4 h
    refine g_bipush (pc := 15) (v := (-2)) C dX12_restore_15 (by decide) ?_
    obtain ⟨rfl, rfl⟩ := Prod.mk.inj (Option.some.inj h)
    exact g_iret C hR dX12_restore_17
theorem dX12_count_0 : decode cX12_count 0 = .ok (.aload_n 0, 1) := by decide +kernel
theorem dX12_count_1 : decode cX12_count 1 = .ok (.iconst 0, 1) := by decide +kernel
theorem dX12_count_2 : decode cX12_count 2 = .ok (.putfield 1, 3) := by decide +kernel
theorem dX12_count_5 : decode cX12_count 5 = .ok (.iload_n 1, 1) := by decide +kernel
theorem dX12_count_6 : decode cX12_count 6 = .ok (.tableswitch 123 0 9 #[54, 61, 68, 75, 82, 90, 98, 103, 111, 116], 54) := by decide +kernel
theorem dX12_count_60 : decode cX12_count 60 = .ok (.aload_n 0, 1) := by decide +kernel
theorem dX12_count_61 : decode cX12_count 61 = .ok (.getfield 13, 3) := by decide +kernel
theorem dX12_count_64 : decode cX12_count 64 = .ok (.iconst 3, 1) := by decide +kernel
theorem dX12_count_65 : decode cX12_count 65 = .ok (.iaload, 1) := by decide +kernel
theorem dX12_count_66 : decode cX12_count 66 = .ok (.ireturn, 1) := by decide +kernel
theorem dX12_count_67 : decode cX12_count 67 = .ok (.aload_n 0, 1) := by decide +kernel
theorem dX12_count_68 : decode cX12_count 68 = .ok (.getfield 13, 3) := by decide +kernel
theorem dX12_count_71 : decode cX12_count 71 = .ok (.iconst 4, 1) := by decide +kernel
theorem dX12_count_72 : decode cX12_count 72 = .ok (.iaload, 1) := by decide +kernel
theorem dX12_count_73 : decode cX12_count 73 = .ok (.ireturn, 1) := by decide +kernel
theorem dX12_count_74 : decode cX12_count 74 = .ok (.aload_n 0, 1) := by decide +kernel
theorem dX12_count_75 : decode cX12_count 75 = .ok (.getfield 13, 3) := by decide +kernel
theorem dX12_count_78 : decode cX12_count 78 = .ok (.iconst 1, 1) := by decide +kernel
theorem dX12_count_79 : decode cX12_count 79 = .ok (.iaload, 1) := by decide +kernel
theorem dX12_count_80 : decode cX12_count 80 = .ok (.ireturn, 1) := by decide +kernel
theorem dX12_count_81 : decode cX12_count 81 = .ok (.aload_n 0, 1) := by decide +kernel
theorem dX12_count_82 : decode cX12_count 82 = .ok (.getfield 13, 3) := by decide +kernel
theorem dX12_count_85 : decode cX12_count 85 = .ok (.iconst 2, 1) := by decide +kernel
theorem dX12_count_86 : decode cX12_count 86 = .ok (.iaload, 1) := by decide +kernel
theorem dX12_count_87 : decode cX12_count 87 = .ok (.ireturn, 1) := by decide +kernel
theorem dX12_count_88 : decode cX12_count 88 = .ok (.aload_n 0, 1) := by decide +kernel
theorem dX12_count_89 : decode cX12_count 89 = .ok (.getfield 13, 3) := by decide +kernel
theorem dX12_count_92 : decode cX12_count 92 = .ok (.bipush 48, 2) := by decide +kernel
theorem dX12_count_94 : decode cX12_count 94 = .ok (.iaload, 1) := by decide +kernel
theorem dX12_count_95 : decode cX12_count 95 = .ok (.ireturn, 1) := by decide +kernel
theorem dX12_count_96 : decode cX12_count 96 = .ok (.aload_n 0, 1) := by decide +kernel
theorem dX12_count_97 : decode cX12_count 97 = .ok (.getfield 13, 3) := by decide +kernel
theorem dX12_count_100 : decode cX12_count 100 = .ok (.bipush 49, 2) := by decide +kernel
theorem dX12_count_102 : decode cX12_count 102 = .ok (.iaload, 1) := by decide +kernel
theorem dX12_count_103 : decode cX12_count 103 = .ok (.ireturn, 1) := by decide +kernel
theorem dX12_count_104 : decode cX12_count 104 = .ok (.aload_n 0, 1) := by decide +kernel
theorem dX12_count_105 : decode cX12_count 105 = .ok (.invokevirtual 349, 3) := by decide +kernel
theorem dX12_count_108 : decode cX12_count 108 = .ok (.ireturn, 1) := by decide +kernel
theorem dX12_count_109 : decode cX12_count 109 = .ok (.aload_n 0, 1) := by decide +kernel
theorem dX12_count_110 : decode cX12_count 110 = .ok (.getfield 13, 3) := by decide +kernel
theorem dX12_count_113 : decode cX12_count 113 = .ok (.bipush 50, 2) := by decide +kernel
theorem dX12_count_115 : decode cX12_count 115 = .ok (.iaload, 1) := by decide +kernel
theorem dX12_count_116 : decode cX12_count 116 = .ok (.ireturn, 1) := by decide +kernel
theorem dX12_count_117 : decode cX12_count 117 = .ok (.aload_n 0, 1) := by decide +kernel
theorem dX12_count_118 : decode cX12_count 118 = .ok (.getfield 77, 3) := by decide +kernel
theorem dX12_count_121 : decode cX12_count 121 = .ok (.ireturn, 1) := by decide +kernel
theorem dX12_count_122 : decode cX12_count 122 = .ok (.aload_n 0, 1) := by decide +kernel
theorem dX12_count_123 : decode cX12_count 123 = .ok (.getfield 13, 3) := by decide +kernel
theorem dX12_count_126 : decode cX12_count 126 = .ok (.iconst 0, 1) := by decide +kernel
theorem dX12_count_127 : decode cX12_count 127 = .ok (.iaload, 1) := by decide +kernel
theorem dX12_count_128 : decode cX12_count 128 = .ok (.ireturn, 1) := by decide +kernel
theorem dX12_count_129 : decode cX12_count 129 = .ok (.iconst (-1), 1) := by decide +kernel
theorem dX12_count_130 : decode cX12_count 130 = .ok (.ireturn, 1) := by decide +kernel
theorem wX12_count : Mw yX12_count cX12_count 2 (some .int) 1 := ⟨q_1884, q_130, by decide, ⟨by decide +kernel, by decide +kernel⟩, by decide +kernel, by decide +kernel⟩
/-- EyeTrainerModel.count(I)I -/
def fX12_count (T : Sh) (M : Me) (x0 : Nat) (x1 : Int32) : Option (Int32 × Me) :=
  gd (kd T x0 = 11) <| lt (pI M x0 0 (0 : Int32)) fun M2 => if x1 = (0 : Int32) then (Option.bind (gR M2 x0 1) fun a3 => gd (kd T a3 = 13) <| gv (3 : Int32) (ln T a3) <| some ((gI M2 a3 (Int32.toNatClampNeg (3 : Int32))), M2)) else (if x1 = (1 : Int32) then (Option.bind (gR M2 x0 1) fun a6 => gd (kd T a6 = 13) <| gv (4 : Int32) (ln T a6) <| some ((gI M2 a6 (Int32.toNatClampNeg (4 : Int32))), M2)) else (if x1 = (2 : Int32) then (Option.bind (gR M2 x0 1) fun a9 => gd (kd T a9 = 13) <| gv (1 : Int32) (ln T a9) <| some ((gI M2 a9 (Int32.toNatClampNeg (1 : Int32))), M2)) else (if x1 = (3 : Int32) then (Option.bind (gR M2 x0 1) fun a12 => gd (kd T a12 = 13) <| gv (2 : Int32) (ln T a12) <| some ((gI M2 a12 (Int32.toNatClampNeg (2 : Int32))), M2)) else (if x1 = (4 : Int32) then (Option.bind (gR M2 x0 1) fun a15 => gd (kd T a15 = 13) <| gv (48 : Int32) (ln T a15) <| some ((gI M2 a15 (Int32.toNatClampNeg (48 : Int32))), M2)) else (if x1 = (5 : Int32) then (Option.bind (gR M2 x0 1) fun a18 => gd (kd T a18 = 13) <| gv (49 : Int32) (ln T a18) <| some ((gI M2 a18 (Int32.toNatClampNeg (49 : Int32))), M2)) else (if x1 = (6 : Int32) then (Option.bind (fX12_passedNow T M2 x0) <| un2 fun r21 M22 => some (r21, M22)) else (if x1 = (7 : Int32) then (Option.bind (gR M2 x0 1) fun a23 => gd (kd T a23 = 13) <| gv (50 : Int32) (ln T a23) <| some ((gI M2 a23 (Int32.toNatClampNeg (50 : Int32))), M2)) else (if x1 = (8 : Int32) then (some ((gI M2 x0 5), M2)) else (if x1 = (9 : Int32) then (Option.bind (gR M2 x0 1) fun a26 => gd (kd T a26 = 13) <| gv (0 : Int32) (ln T a26) <| some ((gI M2 a26 (Int32.toNatClampNeg (0 : Int32))), M2)) else (some ((-1 : Int32), M2)))))))))))
set_option maxHeartbeats 4000000 in
theorem kX12_count {l : Launch} {B : Bx} {d : Nat} (hd : 5 ≤ d) {T : Sh} {M : Me} {x0 : Nat} {x1 : Int32} {r : Int32} {M' : Me} (h : fX12_count T M x0 x1 = some (r, M')) : Kt l B yX12_count cX12_count 2 (some .int) d [.ref (x0), .int (x1)] T M (some (.int r)) T M' := by
  refine kt_of wX12_count (Nat.le_refl _) (Nat.le_refl _) (Nat.le_of_ble_eq_true rfl) (fun X C hR hlx hin => ?_)
  subst hlx
  replace C : Cx X B cX12_count 2 RX12 d (tp T, sl T, tp T, sl T) := C
  unfold fX12_count at h
  show G X B 2 _ _ 0 [(0, .ref (x0)), (1, .int (x1))] [] T M
  refine g_aload_n (pc := 0) C dX12_count_0 rfl 0 rfl ?_
  refine g_iconst (pc := 1) (v := 0) C dX12_count_1 (by decide) ?_
  replace h := gd_some h; obtain ⟨hk1, h⟩ := h
  refine g_putI (pc := 2) C dX12_count_2 kX12 hk1 0 (by decide) rfl rfl rfl q_1227 ?_
  refine g_mem (fun M2 eM2 => ?_)
  replace h := lt_at eM2 h
  refine g_iload_n (pc := 5) C dX12_count_5 rfl 1 rfl ?_
  by_cases cw29_0 : x1 = (0 : Int32)
  · replace h := ifp cw29_0 h
    have hq : x1.toInt = 0 := by rw [cw29_0]; rfl
    refine g_tswIn (off := 54) (tgt := 60) C dX12_count_6 (by rw [hq]; decide) (by rw [hq]; decide) (by rw [hq]; rfl) (by decide) ?_
    refine g_aload_n (pc := 60) C dX12_count_60 rfl 0 rfl ?_
    refine g_get (pc := 61) (v := va_rf (gR M2 x0 1)) C dX12_count_61 kX12 hk1 1 (by decide) q_1228 rfl ?_
    replace h := bnd h; obtain ⟨a3, ea3, h⟩ := h
    refine g_refq ea3 ?_
    refine g_iconst (pc := 64) (v := 3) C dX12_count_64 (by decide) ?_
    replace h := gd_some h; obtain ⟨hk4, h⟩ := h
    replace h := gv_some h; obtain ⟨hi5, h⟩ := h
    refine g_iald (pc := 65) C dX12_count_65 hk4 hi5 ?_
    obtain ⟨rfl, rfl⟩ := Prod.mk.inj (Option.some.inj h)
    exact g_iret C hR dX12_count_66
  · replace h := ifn cw29_0 h
    by_cases cw29_1 : x1 = (1 : Int32)
    · replace h := ifp cw29_1 h
      have hq : x1.toInt = 1 := by rw [cw29_1]; rfl
      refine g_tswIn (off := 61) (tgt := 67) C dX12_count_6 (by rw [hq]; decide) (by rw [hq]; decide) (by rw [hq]; rfl) (by decide) ?_
      refine g_aload_n (pc := 67) C dX12_count_67 rfl 0 rfl ?_
      refine g_get (pc := 68) (v := va_rf (gR M2 x0 1)) C dX12_count_68 kX12 hk1 1 (by decide) q_1228 rfl ?_
      replace h := bnd h; obtain ⟨a6, ea6, h⟩ := h
      refine g_refq ea6 ?_
      refine g_iconst (pc := 71) (v := 4) C dX12_count_71 (by decide) ?_
      replace h := gd_some h; obtain ⟨hk7, h⟩ := h
      replace h := gv_some h; obtain ⟨hi8, h⟩ := h
      refine g_iald (pc := 72) C dX12_count_72 hk7 hi8 ?_
      obtain ⟨rfl, rfl⟩ := Prod.mk.inj (Option.some.inj h)
      exact g_iret C hR dX12_count_73
    · replace h := ifn cw29_1 h
      by_cases cw29_2 : x1 = (2 : Int32)
      · replace h := ifp cw29_2 h
        have hq : x1.toInt = 2 := by rw [cw29_2]; rfl
        refine g_tswIn (off := 68) (tgt := 74) C dX12_count_6 (by rw [hq]; decide) (by rw [hq]; decide) (by rw [hq]; rfl) (by decide) ?_
        refine g_aload_n (pc := 74) C dX12_count_74 rfl 0 rfl ?_
        refine g_get (pc := 75) (v := va_rf (gR M2 x0 1)) C dX12_count_75 kX12 hk1 1 (by decide) q_1228 rfl ?_
        replace h := bnd h; obtain ⟨a9, ea9, h⟩ := h
        refine g_refq ea9 ?_
        refine g_iconst (pc := 78) (v := 1) C dX12_count_78 (by decide) ?_
        replace h := gd_some h; obtain ⟨hk10, h⟩ := h
        replace h := gv_some h; obtain ⟨hi11, h⟩ := h
        refine g_iald (pc := 79) C dX12_count_79 hk10 hi11 ?_
        obtain ⟨rfl, rfl⟩ := Prod.mk.inj (Option.some.inj h)
        exact g_iret C hR dX12_count_80
      · replace h := ifn cw29_2 h
        by_cases cw29_3 : x1 = (3 : Int32)
        · replace h := ifp cw29_3 h
          have hq : x1.toInt = 3 := by rw [cw29_3]; rfl
          refine g_tswIn (off := 75) (tgt := 81) C dX12_count_6 (by rw [hq]; decide) (by rw [hq]; decide) (by rw [hq]; rfl) (by decide) ?_
          refine g_aload_n (pc := 81) C dX12_count_81 rfl 0 rfl ?_
          refine g_get (pc := 82) (v := va_rf (gR M2 x0 1)) C dX12_count_82 kX12 hk1 1 (by decide) q_1228 rfl ?_
          replace h := bnd h; obtain ⟨a12, ea12, h⟩ := h
          refine g_refq ea12 ?_
          refine g_iconst (pc := 85) (v := 2) C dX12_count_85 (by decide) ?_
          replace h := gd_some h; obtain ⟨hk13, h⟩ := h
          replace h := gv_some h; obtain ⟨hi14, h⟩ := h
          refine g_iald (pc := 86) C dX12_count_86 hk13 hi14 ?_
          obtain ⟨rfl, rfl⟩ := Prod.mk.inj (Option.some.inj h)
          exact g_iret C hR dX12_count_87
        · replace h := ifn cw29_3 h
          by_cases cw29_4 : x1 = (4 : Int32)
          · replace h := ifp cw29_4 h
            have hq : x1.toInt = 4 := by rw [cw29_4]; rfl
            refine g_tswIn (off := 82) (tgt := 88) C dX12_count_6 (by rw [hq]; decide) (by rw [hq]; decide) (by rw [hq]; rfl) (by decide) ?_
            refine g_aload_n (pc := 88) C dX12_count_88 rfl 0 rfl ?_
            refine g_get (pc := 89) (v := va_rf (gR M2 x0 1)) C dX12_count_89 kX12 hk1 1 (by decide) q_1228 rfl ?_
            replace h := bnd h; obtain ⟨a15, ea15, h⟩ := h
            refine g_refq ea15 ?_
            refine g_bipush (pc := 92) (v := 48) C dX12_count_92 (by decide) ?_
            replace h := gd_some h; obtain ⟨hk16, h⟩ := h
            replace h := gv_some h; obtain ⟨hi17, h⟩ := h
            refine g_iald (pc := 94) C dX12_count_94 hk16 hi17 ?_
            obtain ⟨rfl, rfl⟩ := Prod.mk.inj (Option.some.inj h)
            exact g_iret C hR dX12_count_95
          · replace h := ifn cw29_4 h
            by_cases cw29_5 : x1 = (5 : Int32)
            · replace h := ifp cw29_5 h
              have hq : x1.toInt = 5 := by rw [cw29_5]; rfl
              refine g_tswIn (off := 90) (tgt := 96) C dX12_count_6 (by rw [hq]; decide) (by rw [hq]; decide) (by rw [hq]; rfl) (by decide) ?_
              refine g_aload_n (pc := 96) C dX12_count_96 rfl 0 rfl ?_
              refine g_get (pc := 97) (v := va_rf (gR M2 x0 1)) C dX12_count_97 kX12 hk1 1 (by decide) q_1228 rfl ?_
              replace h := bnd h; obtain ⟨a18, ea18, h⟩ := h
              refine g_refq ea18 ?_
              refine g_bipush (pc := 100) (v := 49) C dX12_count_100 (by decide) ?_
              replace h := gd_some h; obtain ⟨hk19, h⟩ := h
              replace h := gv_some h; obtain ⟨hi20, h⟩ := h
              refine g_iald (pc := 102) C dX12_count_102 hk19 hi20 ?_
              obtain ⟨rfl, rfl⟩ := Prod.mk.inj (Option.some.inj h)
              exact g_iret C hR dX12_count_103
            · replace h := ifn cw29_5 h
              by_cases cw29_6 : x1 = (6 : Int32)
              · replace h := ifp cw29_6 h
                have hq : x1.toInt = 6 := by rw [cw29_6]; rfl
                refine g_tswIn (off := 98) (tgt := 104) C dX12_count_6 (by rw [hq]; decide) (by rw [hq]; decide) (by rw [hq]; rfl) (by decide) ?_
                refine g_aload_n (pc := 104) C dX12_count_104 rfl 0 rfl ?_
                replace h := bnd2 h; obtain ⟨r21, M22, h1, h⟩ := h
                refine g_callVi (pc := 105) (As := []) (st := []) C dX12_count_105 wX12_passedNow hk1 rfl (by decide) q_1639 q_100 q_1637 (by omega) rfl (Nat.le_of_ble_eq_true rfl) (kX12_passedNow (d := 4) (Nat.le_refl _) h1) ?_
                obtain ⟨rfl, rfl⟩ := Prod.mk.inj (Option.some.inj h)
                exact g_iret C hR dX12_count_108
              · replace h := ifn cw29_6 h
                by_cases cw29_7 : x1 = (7 : Int32)
                · replace h := ifp cw29_7 h
                  have hq : x1.toInt = 7 := by rw [cw29_7]; rfl
                  refine g_tswIn (off := 103) (tgt := 109) C dX12_count_6 (by rw [hq]; decide) (by rw [hq]; decide) (by rw [hq]; rfl) (by decide) ?_
                  refine g_aload_n (pc := 109) C dX12_count_109 rfl 0 rfl ?_
                  refine g_get (pc := 110) (v := va_rf (gR M2 x0 1)) C dX12_count_110 kX12 hk1 1 (by decide) q_1228 rfl ?_
                  replace h := bnd h; obtain ⟨a23, ea23, h⟩ := h
                  refine g_refq ea23 ?_
                  refine g_bipush (pc := 113) (v := 50) C dX12_count_113 (by decide) ?_
                  replace h := gd_some h; obtain ⟨hk24, h⟩ := h
                  replace h := gv_some h; obtain ⟨hi25, h⟩ := h
                  refine g_iald (pc := 115) C dX12_count_115 hk24 hi25 ?_
                  obtain ⟨rfl, rfl⟩ := Prod.mk.inj (Option.some.inj h)
                  exact g_iret C hR dX12_count_116
                · replace h := ifn cw29_7 h
                  by_cases cw29_8 : x1 = (8 : Int32)
                  · replace h := ifp cw29_8 h
                    have hq : x1.toInt = 8 := by rw [cw29_8]; rfl
                    refine g_tswIn (off := 111) (tgt := 117) C dX12_count_6 (by rw [hq]; decide) (by rw [hq]; decide) (by rw [hq]; rfl) (by decide) ?_
                    refine g_aload_n (pc := 117) C dX12_count_117 rfl 0 rfl ?_
                    refine g_get (pc := 118) (v := .int (gI M2 x0 5)) C dX12_count_118 kX12 hk1 5 (by decide) q_1232 rfl ?_
                    obtain ⟨rfl, rfl⟩ := Prod.mk.inj (Option.some.inj h)
                    exact g_iret C hR dX12_count_121
                  · replace h := ifn cw29_8 h
                    by_cases cw29_9 : x1 = (9 : Int32)
                    · replace h := ifp cw29_9 h
                      have hq : x1.toInt = 9 := by rw [cw29_9]; rfl
                      refine g_tswIn (off := 116) (tgt := 122) C dX12_count_6 (by rw [hq]; decide) (by rw [hq]; decide) (by rw [hq]; rfl) (by decide) ?_
                      refine g_aload_n (pc := 122) C dX12_count_122 rfl 0 rfl ?_
                      refine g_get (pc := 123) (v := va_rf (gR M2 x0 1)) C dX12_count_123 kX12 hk1 1 (by decide) q_1228 rfl ?_
                      replace h := bnd h; obtain ⟨a26, ea26, h⟩ := h
                      refine g_refq ea26 ?_
                      refine g_iconst (pc := 126) (v := 0) C dX12_count_126 (by decide) ?_
                      replace h := gd_some h; obtain ⟨hk27, h⟩ := h
                      replace h := gv_some h; obtain ⟨hi28, h⟩ := h
                      refine g_iald (pc := 127) C dX12_count_127 hk27 hi28 ?_
                      obtain ⟨rfl, rfl⟩ := Prod.mk.inj (Option.some.inj h)
                      exact g_iret C hR dX12_count_128
                    · replace h := ifn cw29_9 h
                      refine g_tswOut (tgt := 129) C dX12_count_6 (by
                          have := sw_ne cw29_0 (i := 0) rfl
                          have := sw_ne cw29_1 (i := 1) rfl
                          have := sw_ne cw29_2 (i := 2) rfl
                          have := sw_ne cw29_3 (i := 3) rfl
                          have := sw_ne cw29_4 (i := 4) rfl
                          have := sw_ne cw29_5 (i := 5) rfl
                          have := sw_ne cw29_6 (i := 6) rfl
                          have := sw_ne cw29_7 (i := 7) rfl
                          have := sw_ne cw29_8 (i := 8) rfl
                          have := sw_ne cw29_9 (i := 9) rfl
                          omega) (by decide) ?_
                      refine g_iconst (pc := 129) (v := (-1)) C dX12_count_129 (by decide) ?_
                      obtain ⟨rfl, rfl⟩ := Prod.mk.inj (Option.some.inj h)
                      exact g_iret C hR dX12_count_130
