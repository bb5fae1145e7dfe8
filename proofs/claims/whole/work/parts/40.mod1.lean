set_option maxRecDepth 20000 in
theorem q_77 : Cond.selects RX12 yX12_driftAt yX12_driftAt ∈ lw_gd := mem_gd (List.mem_of_getElem? (i := 77) (by decide +kernel)) rfl
set_option maxRecDepth 20000 in
theorem q_78 : Cond.selects RX12 yX12_reckons yX12_reckons ∈ lw_gd := mem_gd (List.mem_of_getElem? (i := 78) (by decide +kernel)) rfl
set_option maxRecDepth 20000 in
theorem q_130 : Cond.initialized RX12 ∈ lw_gd := mem_gd (List.mem_of_getElem? (i := 130) (by decide +kernel)) rfl
set_option maxRecDepth 20000 in
theorem q_1226 : Cond.code yX12_plain cX12_plain 2 none ∈ lw_gd := mem_gd (List.mem_of_getElem? (i := 1226) (by decide +kernel)) rfl
set_option maxRecDepth 20000 in
theorem q_1227 : Cond.fieldLink RX12 1 "EyeTrainerModel" "thrown" "I" ∈ lw_gd := mem_gd (List.mem_of_getElem? (i := 1227) (by decide +kernel)) rfl
set_option maxRecDepth 20000 in
theorem q_1228 : Cond.fieldLink RX12 13 "EyeTrainerModel" "all" "[I" ∈ lw_gd := mem_gd (List.mem_of_getElem? (i := 1228) (by decide +kernel)) rfl
set_option maxRecDepth 20000 in
theorem q_1230 : Cond.fieldLink RX12 21 "EyeTrainerModel" "tape" "[I" ∈ lw_gd := mem_gd (List.mem_of_getElem? (i := 1230) (by decide +kernel)) rfl
set_option maxRecDepth 20000 in
theorem q_1231 : Cond.fieldLink RX12 24 "EyeTrainerModel" "fresh" "[I" ∈ lw_gd := mem_gd (List.mem_of_getElem? (i := 1231) (by decide +kernel)) rfl
set_option maxRecDepth 20000 in
theorem q_1232 : Cond.fieldLink RX12 77 "EyeTrainerModel" "taped" "I" ∈ lw_gd := mem_gd (List.mem_of_getElem? (i := 1232) (by decide +kernel)) rfl
set_option maxRecDepth 20000 in
theorem q_1233 : Cond.fieldLink RX12 95 "EyeTrainerModel" "at" "I" ∈ lw_gd := mem_gd (List.mem_of_getElem? (i := 1233) (by decide +kernel)) rfl
set_option maxRecDepth 20000 in
theorem q_1235 : Cond.fieldLink RX12 80 "EyeTrainerModel" "size" "I" ∈ lw_gd := mem_gd (List.mem_of_getElem? (i := 1235) (by decide +kernel)) rfl
set_option maxRecDepth 20000 in
theorem q_1236 : Cond.fieldLink RX12 105 "EyeTrainerModel" "kind" "I" ∈ lw_gd := mem_gd (List.mem_of_getElem? (i := 1236) (by decide +kernel)) rfl
set_option maxRecDepth 20000 in
theorem q_1238 : Cond.fieldLink RX12 123 "EyeTrainerModel" "wrong" "I" ∈ lw_gd := mem_gd (List.mem_of_getElem? (i := 1238) (by decide +kernel)) rfl
set_option maxRecDepth 20000 in
theorem q_1239 : Cond.fieldLink RX12 126 "EyeTrainerModel" "wrongAt" "I" ∈ lw_gd := mem_gd (List.mem_of_getElem? (i := 1239) (by decide +kernel)) rfl
set_option maxRecDepth 20000 in
theorem q_1240 : Cond.fieldLink RX12 202 "EyeTrainerModel" "faultKind" "I" ∈ lw_gd := mem_gd (List.mem_of_getElem? (i := 1240) (by decide +kernel)) rfl
set_option maxRecDepth 20000 in
theorem q_1241 : Cond.fieldLink RX12 27 "EyeTrainerModel" "faultPlace" "I" ∈ lw_gd := mem_gd (List.mem_of_getElem? (i := 1241) (by decide +kernel)) rfl
set_option maxRecDepth 20000 in
theorem q_1242 : Cond.fieldLink RX12 143 "EyeTrainerModel" "reading" "I" ∈ lw_gd := mem_gd (List.mem_of_getElem? (i := 1242) (by decide +kernel)) rfl
set_option maxRecDepth 20000 in
theorem q_1243 : Cond.fieldLink RX12 30 "EyeTrainerModel" "reckoned" "[I" ∈ lw_gd := mem_gd (List.mem_of_getElem? (i := 1243) (by decide +kernel)) rfl
set_option maxRecDepth 20000 in
theorem q_1244 : Cond.fieldLink RX12 33 "EyeTrainerModel" "words" "[I" ∈ lw_gd := mem_gd (List.mem_of_getElem? (i := 1244) (by decide +kernel)) rfl
set_option maxRecDepth 20000 in
theorem q_1245 : Cond.fieldLink RX12 220 "EyeTrainerModel" "driftNow" "I" ∈ lw_gd := mem_gd (List.mem_of_getElem? (i := 1245) (by decide +kernel)) rfl
set_option maxRecDepth 20000 in
theorem q_1246 : Cond.fieldLink RX12 223 "EyeTrainerModel" "stressNow" "I" ∈ lw_gd := mem_gd (List.mem_of_getElem? (i := 1246) (by decide +kernel)) rfl
set_option maxRecDepth 20000 in
theorem q_1361 : Cond.code yX12_feed cX12_feed 8 (some .int) ∈ lw_gd := mem_gd (List.mem_of_getElem? (i := 1361) (by decide +kernel)) rfl
set_option maxRecDepth 20000 in
theorem q_1366 : Cond.methodLink RX12 139 yX12_within ∈ lw_gd := mem_gd (List.mem_of_getElem? (i := 1366) (by decide +kernel)) rfl
set_option maxRecDepth 20000 in
theorem q_1367 : Cond.static yX12_within ∈ lw_gd := mem_gd (List.mem_of_getElem? (i := 1367) (by decide +kernel)) rfl
set_option maxRecDepth 20000 in
theorem q_1368 : Cond.code yX12_within cX12_within 6 (some .boolean) ∈ lw_gd := mem_gd (List.mem_of_getElem? (i := 1368) (by decide +kernel)) rfl
set_option maxRecDepth 20000 in
theorem q_1376 : Cond.code yX12_see cX12_see 2 (some .int) ∈ lw_gd := mem_gd (List.mem_of_getElem? (i := 1376) (by decide +kernel)) rfl
set_option maxRecDepth 20000 in
theorem q_1379 : Cond.code yX12_isSmall cX12_isSmall 1 (some .boolean) ∈ lw_gd := mem_gd (List.mem_of_getElem? (i := 1379) (by decide +kernel)) rfl
set_option maxRecDepth 20000 in
theorem q_1389 : Cond.code yX12_isDigit cX12_isDigit 1 (some .boolean) ∈ lw_gd := mem_gd (List.mem_of_getElem? (i := 1389) (by decide +kernel)) rfl
set_option maxRecDepth 20000 in
theorem q_1398 : Cond.code yX12_is cX12_is 2 (some .boolean) ∈ lw_gd := mem_gd (List.mem_of_getElem? (i := 1398) (by decide +kernel)) rfl
set_option maxRecDepth 20000 in
theorem q_1402 : Cond.code yX12_fails cX12_fails 2 none ∈ lw_gd := mem_gd (List.mem_of_getElem? (i := 1402) (by decide +kernel)) rfl
set_option maxRecDepth 20000 in
theorem q_1446 : Cond.code yX12_codes cX12_codes 2 none ∈ lw_gd := mem_gd (List.mem_of_getElem? (i := 1446) (by decide +kernel)) rfl
set_option maxRecDepth 20000 in
theorem q_1450 : Cond.code yX12_wordOf cX12_wordOf 4 (some .int) ∈ lw_gd := mem_gd (List.mem_of_getElem? (i := 1450) (by decide +kernel)) rfl
set_option maxRecDepth 20000 in
theorem q_1474 : Cond.code yX12_fault cX12_fault 2 (some .int) ∈ lw_gd := mem_gd (List.mem_of_getElem? (i := 1474) (by decide +kernel)) rfl
set_option maxRecDepth 20000 in
theorem q_1482 : Cond.code yX12_isLane cX12_isLane 3 (some .boolean) ∈ lw_gd := mem_gd (List.mem_of_getElem? (i := 1482) (by decide +kernel)) rfl
set_option maxRecDepth 20000 in
theorem q_1486 : Cond.code yX12_laysNow cX12_laysNow 1 none ∈ lw_gd := mem_gd (List.mem_of_getElem? (i := 1486) (by decide +kernel)) rfl
set_option maxRecDepth 20000 in
theorem q_1487 : Cond.methodLink RX12 217 yX12_driftAt ∈ lw_gd := mem_gd (List.mem_of_getElem? (i := 1487) (by decide +kernel)) rfl
set_option maxRecDepth 20000 in
theorem q_1489 : Cond.instanceMethod yX12_driftAt ∈ lw_gd := mem_gd (List.mem_of_getElem? (i := 1489) (by decide +kernel)) rfl
set_option maxRecDepth 20000 in
theorem q_1490 : Cond.code yX12_driftAt cX12_driftAt 3 (some .int) ∈ lw_gd := mem_gd (List.mem_of_getElem? (i := 1490) (by decide +kernel)) rfl
set_option maxRecDepth 20000 in
theorem q_1491 : Cond.methodLink RX12 214 yX12_reckons ∈ lw_gd := mem_gd (List.mem_of_getElem? (i := 1491) (by decide +kernel)) rfl
set_option maxRecDepth 20000 in
theorem q_1493 : Cond.instanceMethod yX12_reckons ∈ lw_gd := mem_gd (List.mem_of_getElem? (i := 1493) (by decide +kernel)) rfl
set_option maxRecDepth 20000 in
theorem q_1494 : Cond.code yX12_reckons cX12_reckons 5 (some .int) ∈ lw_gd := mem_gd (List.mem_of_getElem? (i := 1494) (by decide +kernel)) rfl
set_option maxRecDepth 20000 in
theorem q_1495 : Cond.methodLink RX12 211 yX12_between ∈ lw_gd := mem_gd (List.mem_of_getElem? (i := 1495) (by decide +kernel)) rfl
set_option maxRecDepth 20000 in
theorem q_1496 : Cond.static yX12_between ∈ lw_gd := mem_gd (List.mem_of_getElem? (i := 1496) (by decide +kernel)) rfl
set_option maxRecDepth 20000 in
theorem q_1497 : Cond.code yX12_between cX12_between 5 (some .int) ∈ lw_gd := mem_gd (List.mem_of_getElem? (i := 1497) (by decide +kernel)) rfl
set_option maxRecDepth 20000 in
theorem q_1498 : Cond.constantLong RX12 207 (1000000) ∈ lw_gd := mem_gd (List.mem_of_getElem? (i := 1498) (by decide +kernel)) rfl
set_option maxRecDepth 20000 in
theorem q_1499 : Cond.constantLong RX12 209 (-1000000) ∈ lw_gd := mem_gd (List.mem_of_getElem? (i := 1499) (by decide +kernel)) rfl
set_option maxRecDepth 20000 in
theorem q_1507 : Cond.code yX12_isPassed cX12_isPassed 6 (some .boolean) ∈ lw_gd := mem_gd (List.mem_of_getElem? (i := 1507) (by decide +kernel)) rfl
set_option maxRecDepth 20000 in
theorem q_1508 : Cond.methodLink RX12 226 yX12_plainOf ∈ lw_gd := mem_gd (List.mem_of_getElem? (i := 1508) (by decide +kernel)) rfl
set_option maxRecDepth 20000 in
theorem q_1509 : Cond.static yX12_plainOf ∈ lw_gd := mem_gd (List.mem_of_getElem? (i := 1509) (by decide +kernel)) rfl
set_option maxRecDepth 20000 in
theorem q_1510 : Cond.code yX12_plainOf cX12_plainOf 1 (some .int) ∈ lw_gd := mem_gd (List.mem_of_getElem? (i := 1510) (by decide +kernel)) rfl
set_option maxRecDepth 20000 in
theorem q_1518 : Cond.code yX12_isPattern cX12_isPattern 3 (some .boolean) ∈ lw_gd := mem_gd (List.mem_of_getElem? (i := 1518) (by decide +kernel)) rfl
set_option maxRecDepth 20000 in
theorem q_1531 : Cond.code yX12_isCell cX12_isCell 2 (some .boolean) ∈ lw_gd := mem_gd (List.mem_of_getElem? (i := 1531) (by decide +kernel)) rfl
set_option maxRecDepth 20000 in
theorem q_1532 : Cond.constantLong RX12 205 (383) ∈ lw_gd := mem_gd (List.mem_of_getElem? (i := 1532) (by decide +kernel)) rfl
set_option maxRecDepth 20000 in
theorem q_1553 : Cond.code yX12_hasRisen cX12_hasRisen 3 (some .boolean) ∈ lw_gd := mem_gd (List.mem_of_getElem? (i := 1553) (by decide +kernel)) rfl
set_option maxRecDepth 20000 in
theorem q_1581 : Cond.code yX12_isIn cX12_isIn 3 (some .boolean) ∈ lw_gd := mem_gd (List.mem_of_getElem? (i := 1581) (by decide +kernel)) rfl
set_option maxRecDepth 20000 in
theorem q_1592 : Cond.code yX12_bitsOf cX12_bitsOf 3 (some .int) ∈ lw_gd := mem_gd (List.mem_of_getElem? (i := 1592) (by decide +kernel)) rfl
theorem dX12_within_0 : decode cX12_within 0 = .ok (.lload_n 0, 1) := by decide +kernel
theorem dX12_within_1 : decode cX12_within 1 = .ok (.lload_n 2, 1) := by decide +kernel
theorem dX12_within_2 : decode cX12_within 2 = .ok (.lcmp, 1) := by decide +kernel
theorem dX12_within_3 : decode cX12_within 3 = .ok (.ifCond .lt 14, 3) := by decide +kernel
theorem dX12_within_6 : decode cX12_within 6 = .ok (.lload_n 0, 1) := by decide +kernel
theorem dX12_within_7 : decode cX12_within 7 = .ok (.lload 4, 2) := by decide +kernel
theorem dX12_within_9 : decode cX12_within 9 = .ok (.lcmp, 1) := by decide +kernel
theorem dX12_within_10 : decode cX12_within 10 = .ok (.ifCond .gt 7, 3) := by decide +kernel
theorem dX12_within_13 : decode cX12_within 13 = .ok (.iconst 1, 1) := by decide +kernel
theorem dX12_within_14 : decode cX12_within 14 = .ok (.goto 4, 3) := by decide +kernel
theorem dX12_within_17 : decode cX12_within 17 = .ok (.iconst 0, 1) := by decide +kernel
theorem dX12_within_18 : decode cX12_within 18 = .ok (.ireturn, 1) := by decide +kernel
theorem wX12_within : Mw yX12_within cX12_within 6 (some .boolean) 3 := ⟨q_1368, q_130, by decide, ⟨by decide +kernel, by decide +kernel⟩, by decide +kernel, by decide +kernel⟩
/-- EyeTrainerModel.within(JJJ)Z -/
def fX12_within (x0 : Int64) (x2 : Int64) (x4 : Int64) : Option (Int32) :=
  if (lg_cmp x0 x2) < 0 then (some (0 : Int32)) else (if 0 < (lg_cmp x0 x4) then (some (0 : Int32)) else (some (1 : Int32)))
set_option maxHeartbeats 4000000 in
theorem kX12_within {l : Launch} {B : Bx} {d : Nat} (hd : 0 ≤ d) {T : Sh} {M : Me} {x0 : Int64} {x2 : Int64} {x4 : Int64} {r : Int32} (h : fX12_within  x0 x2 x4 = some r) : Kt l B yX12_within cX12_within 6 (some .boolean) d [.long (x0), .long (x2), .long (x4)] T M (some (.int r)) T M := by
  refine kt_of wX12_within (Nat.le_refl _) (Nat.le_refl _) (Nat.le_of_ble_eq_true rfl) (fun X C hR hlx hin => ?_)
  subst hlx
  replace C : Cx X B cX12_within 6 RX12 d (tp T, sl T, tp T, sl T) := C
  unfold fX12_within at h
  show G X B 6 _ _ 0 [(0, .long (x0)), (2, .long (x2)), (4, .long (x4))] [] T M
  refine g_lload_n (pc := 0) C dX12_within_0 rfl 0 rfl ?_
  refine g_lload_n (pc := 1) C dX12_within_1 rfl 1 rfl ?_
  refine g_lcmp (pc := 2) C dX12_within_2 ?_
  refine g_if_lt (pc := 3) (tgt := 17) C dX12_within_3 (by decide) (fun c1 => ?_) (fun c1 => ?_)
  · replace h := ifp c1 h
    refine g_iconst (pc := 17) (v := 0) C dX12_within_17 (by decide) ?_
    obtain rfl := Option.some.inj h
    exact g_zret C hR dX12_within_18 rfl
  · replace h := ifn c1 h
    refine g_lload_n (pc := 6) C dX12_within_6 rfl 0 rfl ?_
    refine g_lload (pc := 7) C dX12_within_7 2 rfl ?_
    refine g_lcmp (pc := 9) C dX12_within_9 ?_
    refine g_if_gt (pc := 10) (tgt := 17) C dX12_within_10 (by decide) (fun c2 => ?_) (fun c2 => ?_)
    · replace h := ifp c2 h
      refine g_iconst (pc := 17) (v := 0) C dX12_within_17 (by decide) ?_
      obtain rfl := Option.some.inj h
      exact g_zret C hR dX12_within_18 rfl
    · replace h := ifn c2 h
      refine g_iconst (pc := 13) (v := 1) C dX12_within_13 (by decide) ?_
      refine g_goto (pc := 14) (tgt := 18) C dX12_within_14 (by decide) ?_
      obtain rfl := Option.some.inj h
      exact g_zret C hR dX12_within_18 rfl
theorem dX12_plain_0 : decode cX12_plain 0 = .ok (.iconst 0, 1) := by decide +kernel
theorem dX12_plain_1 : decode cX12_plain 1 = .ok (.istore_n 1, 1) := by decide +kernel
theorem dX12_plain_2 : decode cX12_plain 2 = .ok (.iload_n 1, 1) := by decide +kernel
theorem dX12_plain_3 : decode cX12_plain 3 = .ok (.sipush 1032, 3) := by decide +kernel
theorem dX12_plain_6 : decode cX12_plain 6 = .ok (.if_icmp .ge 13, 3) := by decide +kernel
theorem dX12_plain_9 : decode cX12_plain 9 = .ok (.aload_n 0, 1) := by decide +kernel
theorem dX12_plain_10 : decode cX12_plain 10 = .ok (.iload_n 1, 1) := by decide +kernel
theorem dX12_plain_11 : decode cX12_plain 11 = .ok (.iconst 0, 1) := by decide +kernel
theorem dX12_plain_12 : decode cX12_plain 12 = .ok (.iastore, 1) := by decide +kernel
theorem dX12_plain_13 : decode cX12_plain 13 = .ok (.iinc 1 1, 3) := by decide +kernel
theorem dX12_plain_16 : decode cX12_plain 16 = .ok (.goto (-14), 3) := by decide +kernel
theorem dX12_plain_19 : decode cX12_plain 19 = .ok (.aload_n 0, 1) := by decide +kernel
theorem dX12_plain_20 : decode cX12_plain 20 = .ok (.iconst 1, 1) := by decide +kernel
theorem dX12_plain_21 : decode cX12_plain 21 = .ok (.iconst 1, 1) := by decide +kernel
theorem dX12_plain_22 : decode cX12_plain 22 = .ok (.iastore, 1) := by decide +kernel
theorem dX12_plain_23 : decode cX12_plain 23 = .ok (.aload_n 0, 1) := by decide +kernel
theorem dX12_plain_24 : decode cX12_plain 24 = .ok (.iconst 2, 1) := by decide +kernel
theorem dX12_plain_25 : decode cX12_plain 25 = .ok (.iconst 1, 1) := by decide +kernel
theorem dX12_plain_26 : decode cX12_plain 26 = .ok (.iastore, 1) := by decide +kernel
theorem dX12_plain_27 : decode cX12_plain 27 = .ok (.aload_n 0, 1) := by decide +kernel
theorem dX12_plain_28 : decode cX12_plain 28 = .ok (.bipush 49, 2) := by decide +kernel
theorem dX12_plain_30 : decode cX12_plain 30 = .ok (.iconst (-1), 1) := by decide +kernel
theorem dX12_plain_31 : decode cX12_plain 31 = .ok (.iastore, 1) := by decide +kernel
theorem dX12_plain_32 : decode cX12_plain 32 = .ok (.return_, 1) := by decide +kernel
theorem wX12_plain : Mw yX12_plain cX12_plain 2 none 1 := ⟨q_1226, q_130, by decide, ⟨by decide +kernel, by decide +kernel⟩, by decide +kernel, by decide +kernel⟩
-- a loop of EyeTrainerModel.plain at 2
def bX12_plain_2 (T : Sh) (x0 : Nat) (x1 : Int32) (M : Me) : Option ((Int32 × Me) ⊕ (Me)) :=
  if (1032 : Int32) ≤ x1 then (some (.inr M)) else (gd (kd T x0 = 13) <| gv x1 (ln T x0) <| lt (pI M x0 (Int32.toNatClampNeg x1) (0 : Int32)) fun M4 => lt (x1 + (1 : Int32)) fun v5 => some (.inl (v5, M4)))
def PX12_plain_2 (X : Fx) (B : Bx) (Z : Nat × Nat × Nat × Nat) (Q : State → Prop) (T : Sh) (x0 : Nat) (s : Int32 × Me) : Prop := G X B 2 Z Q 2 [(0, .ref (x0)), (1, .int (s.1))] [] T s.2
def EX12_plain_2 (X : Fx) (B : Bx) (Z : Nat × Nat × Nat × Nat) (Q : State → Prop) (T : Sh) (x0 : Nat) (r : Me) : Prop := G X B 2 Z Q 19 [(0, .ref (x0))] [] T r
set_option maxHeartbeats 4000000 in
theorem tbX12_plain_2 {X : Fx} {B : Bx} {Z : Nat × Nat × Nat × Nat} {Q : State → Prop} {d : Nat} {T : Sh} (C : Cx X B cX12_plain 2 RX12 d Z) (hd : 0 ≤ d) {x0 : Nat} : ∀ (s : Int32 × Me) (o : (Int32 × Me) ⊕ (Me)), bX12_plain_2 T x0 s.1 s.2 = some o → lpE (PX12_plain_2 X B Z Q T x0) (EX12_plain_2 X B Z Q T x0) o → PX12_plain_2 X B Z Q T x0 s := by
  rintro ⟨x1, M⟩ o h hE
  replace h : bX12_plain_2 T x0 x1 M = some o := h
  unfold bX12_plain_2 at h
  show G X B 2 Z Q 2 [(0, .ref (x0)), (1, .int (x1))] [] T M
  refine g_iload_n (pc := 2) C dX12_plain_2 rfl 1 rfl ?_
  refine g_sipush (pc := 3) (v := 1032) C dX12_plain_3 (by decide) ?_
  refine g_icmp_ge (pc := 6) (tgt := 19) C dX12_plain_6 (by decide) (fun c1 => ?_) (fun c1 => ?_)
  · replace h := ifp c1 h
    obtain rfl := Option.some.inj h
    exact g_sub [0] rfl (show G X B 2 Z Q 19 [(0, .ref (x0))] [] T M from hE)
  · replace h := ifn c1 h
    refine g_aload_n (pc := 9) C dX12_plain_9 rfl 0 rfl ?_
    refine g_iload_n (pc := 10) C dX12_plain_10 rfl 1 rfl ?_
    refine g_iconst (pc := 11) (v := 0) C dX12_plain_11 (by decide) ?_
    replace h := gd_some h; obtain ⟨hk2, h⟩ := h
    replace h := gv_some h; obtain ⟨hi3, h⟩ := h
    refine g_iast (pc := 12) C dX12_plain_12 hk2 hi3 ?_
    refine g_mem (fun M4 eM4 => ?_)
    replace h := lt_at eM4 h
    obtain ⟨v5, ev5⟩ : ∃ y : Int32, y = x1 + (1 : Int32) := ⟨_, rfl⟩
    replace h := lt_at ev5 h
    refine g_iinc (pc := 13) (v := v5) (k := 1) (lo2 := [(1, .int (v5)), (0, .ref (x0))]) C dX12_plain_13 rfl (by rw [ev5]; rfl) (by decide) rfl ?_
    refine g_goto (pc := 16) (tgt := 2) C dX12_plain_16 (by decide) ?_
    obtain rfl := Option.some.inj h
    exact g_sub [1, 0] rfl (show G X B 2 Z Q 2 [(0, .ref (x0)), (1, .int (v5))] [] T M4 from hE)
/-- EyeTrainerModel.plain([I)V -/
def fX12_plain (T : Sh) (M : Me) (x0 : Nat) : Option (Unit × Me) :=
  (lp FU (fun s => bX12_plain_2 T x0 s.1 s.2) ((0 : Int32), M)).bind (fun M6 => gd (kd T x0 = 13) <| gv (1 : Int32) (ln T x0) <| lt (pI M6 x0 (Int32.toNatClampNeg (1 : Int32)) (1 : Int32)) fun M9 => gv (2 : Int32) (ln T x0) <| lt (pI M9 x0 (Int32.toNatClampNeg (2 : Int32)) (1 : Int32)) fun M11 => gv (49 : Int32) (ln T x0) <| lt (pI M11 x0 (Int32.toNatClampNeg (49 : Int32)) (-1 : Int32)) fun M13 => some ((), M13))
set_option maxHeartbeats 4000000 in
theorem kX12_plain {l : Launch} {B : Bx} {d : Nat} (hd : 0 ≤ d) {T : Sh} {M : Me} {x0 : Nat} {M' : Me} (h : fX12_plain T M x0 = some ((), M')) : Kt l B yX12_plain cX12_plain 2 none d [.ref (x0)] T M none T M' := by
  refine kt_of wX12_plain (Nat.le_refl _) (Nat.le_refl _) (Nat.le_of_ble_eq_true rfl) (fun X C hR hlx hin => ?_)
  subst hlx
  replace C : Cx X B cX12_plain 2 RX12 d (tp T, sl T, tp T, sl T) := C
  unfold fX12_plain at h
  show G X B 2 _ _ 0 [(0, .ref (x0))] [] T M
  refine g_iconst (pc := 0) (v := 0) C dX12_plain_0 (by decide) ?_
  refine g_istore_n (pc := 1) (lo2 := [(1, .int ((0 : Int32))), (0, .ref (x0))]) C dX12_plain_1 rfl (by decide) rfl ?_
  replace h := bnd h; obtain ⟨M6, h1, h⟩ := h
  refine g_sub [1, 0] rfl ?_
  refine lp_G2 (P := PX12_plain_2 X B _ _ T x0) (E := EX12_plain_2 X B _ _ T x0) (tbX12_plain_2 C hd) h1 ?_
  show G X B 2 _ _ 19 [(0, .ref (x0))] [] T M6
  refine g_aload_n (pc := 19) C dX12_plain_19 rfl 0 rfl ?_
  refine g_iconst (pc := 20) (v := 1) C dX12_plain_20 (by decide) ?_
  refine g_iconst (pc := 21) (v := 1) C dX12_plain_21 (by decide) ?_
  replace h := gd_some h; obtain ⟨hk7, h⟩ := h
  replace h := gv_some h; obtain ⟨hi8, h⟩ := h
  refine g_iast (pc := 22) C dX12_plain_22 hk7 hi8 ?_
  refine g_mem (fun M9 eM9 => ?_)
  replace h := lt_at eM9 h
  refine g_aload_n (pc := 23) C dX12_plain_23 rfl 0 rfl ?_
  refine g_iconst (pc := 24) (v := 2) C dX12_plain_24 (by decide) ?_
  refine g_iconst (pc := 25) (v := 1) C dX12_plain_25 (by decide) ?_
  replace h := gv_some h; obtain ⟨hi10, h⟩ := h
  refine g_iast (pc := 26) C dX12_plain_26 hk7 hi10 ?_
  refine g_mem (fun M11 eM11 => ?_)
  replace h := lt_at eM11 h
  refine g_aload_n (pc := 27) C dX12_plain_27 rfl 0 rfl ?_
  refine g_bipush (pc := 28) (v := 49) C dX12_plain_28 (by decide) ?_
  refine g_iconst (pc := 30) (v := (-1)) C dX12_plain_30 (by decide) ?_
  replace h := gv_some h; obtain ⟨hi12, h⟩ := h
  refine g_iast (pc := 31) C dX12_plain_31 hk7 hi12 ?_
  refine g_mem (fun M13 eM13 => ?_)
  replace h := lt_at eM13 h
  obtain ⟨-, rfl⟩ := Prod.mk.inj (Option.some.inj h)
  exact g_vret C hR dX12_plain_32
theorem dX12_feed_0 : decode cX12_feed 0 = .ok (.aload_n 0, 1) := by decide +kernel
theorem dX12_feed_1 : decode cX12_feed 1 = .ok (.iconst 0, 1) := by decide +kernel
theorem dX12_feed_2 : decode cX12_feed 2 = .ok (.putfield 1, 3) := by decide +kernel
theorem dX12_feed_5 : decode cX12_feed 5 = .ok (.aload_n 0, 1) := by decide +kernel
theorem dX12_feed_6 : decode cX12_feed 6 = .ok (.getfield 77, 3) := by decide +kernel
theorem dX12_feed_9 : decode cX12_feed 9 = .ok (.bipush 20, 2) := by decide +kernel
theorem dX12_feed_11 : decode cX12_feed 11 = .ok (.iadd, 1) := by decide +kernel
theorem dX12_feed_12 : decode cX12_feed 12 = .ok (.sipush 900, 3) := by decide +kernel
theorem dX12_feed_15 : decode cX12_feed 15 = .ok (.if_icmp .le 6, 3) := by decide +kernel
theorem dX12_feed_18 : decode cX12_feed 18 = .ok (.bipush (-5), 2) := by decide +kernel
theorem dX12_feed_20 : decode cX12_feed 20 = .ok (.ireturn, 1) := by decide +kernel
theorem dX12_feed_21 : decode cX12_feed 21 = .ok (.iconst 0, 1) := by decide +kernel
theorem dX12_feed_22 : decode cX12_feed 22 = .ok (.istore 6, 2) := by decide +kernel
theorem dX12_feed_24 : decode cX12_feed 24 = .ok (.iload 6, 2) := by decide +kernel
theorem dX12_feed_26 : decode cX12_feed 26 = .ok (.bipush 20, 2) := by decide +kernel
theorem dX12_feed_28 : decode cX12_feed 28 = .ok (.if_icmp .ge 93, 3) := by decide +kernel
theorem dX12_feed_31 : decode cX12_feed 31 = .ok (.iload 6, 2) := by decide +kernel
theorem dX12_feed_33 : decode cX12_feed 33 = .ok (.iconst 4, 1) := by decide +kernel
theorem dX12_feed_34 : decode cX12_feed 34 = .ok (.if_icmp .ge 7, 3) := by decide +kernel
theorem dX12_feed_37 : decode cX12_feed 37 = .ok (.iload_n 1, 1) := by decide +kernel
theorem dX12_feed_38 : decode cX12_feed 38 = .ok (.goto 39, 3) := by decide +kernel
theorem dX12_feed_41 : decode cX12_feed 41 = .ok (.iload 6, 2) := by decide +kernel
theorem dX12_feed_43 : decode cX12_feed 43 = .ok (.bipush 8, 2) := by decide +kernel
theorem dX12_feed_45 : decode cX12_feed 45 = .ok (.if_icmp .ge 7, 3) := by decide +kernel
theorem dX12_feed_48 : decode cX12_feed 48 = .ok (.iload_n 2, 1) := by decide +kernel
theorem dX12_feed_49 : decode cX12_feed 49 = .ok (.goto 28, 3) := by decide +kernel
theorem dX12_feed_52 : decode cX12_feed 52 = .ok (.iload 6, 2) := by decide +kernel
theorem dX12_feed_54 : decode cX12_feed 54 = .ok (.bipush 12, 2) := by decide +kernel
theorem dX12_feed_56 : decode cX12_feed 56 = .ok (.if_icmp .ge 7, 3) := by decide +kernel
theorem dX12_feed_59 : decode cX12_feed 59 = .ok (.iload_n 3, 1) := by decide +kernel
theorem dX12_feed_60 : decode cX12_feed 60 = .ok (.goto 17, 3) := by decide +kernel
theorem dX12_feed_63 : decode cX12_feed 63 = .ok (.iload 6, 2) := by decide +kernel
theorem dX12_feed_65 : decode cX12_feed 65 = .ok (.bipush 16, 2) := by decide +kernel
theorem dX12_feed_67 : decode cX12_feed 67 = .ok (.if_icmp .ge 8, 3) := by decide +kernel
theorem dX12_feed_70 : decode cX12_feed 70 = .ok (.iload 4, 2) := by decide +kernel
theorem dX12_feed_72 : decode cX12_feed 72 = .ok (.goto 5, 3) := by decide +kernel
theorem dX12_feed_75 : decode cX12_feed 75 = .ok (.iload 5, 2) := by decide +kernel
theorem dX12_feed_77 : decode cX12_feed 77 = .ok (.istore 7, 2) := by decide +kernel
theorem dX12_feed_79 : decode cX12_feed 79 = .ok (.aload_n 0, 1) := by decide +kernel
theorem dX12_feed_80 : decode cX12_feed 80 = .ok (.getfield 21, 3) := by decide +kernel
theorem dX12_feed_83 : decode cX12_feed 83 = .ok (.aload_n 0, 1) := by decide +kernel
theorem dX12_feed_84 : decode cX12_feed 84 = .ok (.getfield 77, 3) := by decide +kernel
theorem dX12_feed_87 : decode cX12_feed 87 = .ok (.iload 7, 2) := by decide +kernel
theorem dX12_feed_89 : decode cX12_feed 89 = .ok (.bipush 24, 2) := by decide +kernel
theorem dX12_feed_91 : decode cX12_feed 91 = .ok (.bipush 8, 2) := by decide +kernel
theorem dX12_feed_93 : decode cX12_feed 93 = .ok (.iload 6, 2) := by decide +kernel
theorem dX12_feed_95 : decode cX12_feed 95 = .ok (.iconst 4, 1) := by decide +kernel
theorem dX12_feed_96 : decode cX12_feed 96 = .ok (.irem, 1) := by decide +kernel
theorem dX12_feed_97 : decode cX12_feed 97 = .ok (.imul, 1) := by decide +kernel
theorem dX12_feed_98 : decode cX12_feed 98 = .ok (.isub, 1) := by decide +kernel
theorem dX12_feed_99 : decode cX12_feed 99 = .ok (.ishr, 1) := by decide +kernel
theorem dX12_feed_100 : decode cX12_feed 100 = .ok (.sipush 255, 3) := by decide +kernel
theorem dX12_feed_103 : decode cX12_feed 103 = .ok (.iand, 1) := by decide +kernel
theorem dX12_feed_104 : decode cX12_feed 104 = .ok (.iastore, 1) := by decide +kernel
theorem dX12_feed_105 : decode cX12_feed 105 = .ok (.aload_n 0, 1) := by decide +kernel
theorem dX12_feed_106 : decode cX12_feed 106 = .ok (.dup, 1) := by decide +kernel
theorem dX12_feed_107 : decode cX12_feed 107 = .ok (.getfield 77, 3) := by decide +kernel
theorem dX12_feed_110 : decode cX12_feed 110 = .ok (.iconst 1, 1) := by decide +kernel
theorem dX12_feed_111 : decode cX12_feed 111 = .ok (.iadd, 1) := by decide +kernel
theorem dX12_feed_112 : decode cX12_feed 112 = .ok (.putfield 77, 3) := by decide +kernel
theorem dX12_feed_115 : decode cX12_feed 115 = .ok (.iinc 6 1, 3) := by decide +kernel
theorem dX12_feed_118 : decode cX12_feed 118 = .ok (.goto (-94), 3) := by decide +kernel
theorem dX12_feed_121 : decode cX12_feed 121 = .ok (.aload_n 0, 1) := by decide +kernel
theorem dX12_feed_122 : decode cX12_feed 122 = .ok (.getfield 77, 3) := by decide +kernel
theorem dX12_feed_125 : decode cX12_feed 125 = .ok (.ireturn, 1) := by decide +kernel
theorem wX12_feed : Mw yX12_feed cX12_feed 8 (some .int) 5 := ⟨q_1361, q_130, by decide, ⟨by decide +kernel, by decide +kernel⟩, by decide +kernel, by decide +kernel⟩
-- a loop of EyeTrainerModel.feed at 24
def jX12_feed_77 (T : Sh) (M : Me) (x0 : Nat) (x1 : Int32) (x2 : Int32) (x3 : Int32) (x4 : Int32) (x5 : Int32) (x6 : Int32) (s0 : Int32) : Option ((Int32 × Me) ⊕ (Me)) :=
  gd (kd T x0 = 11) <| Option.bind (gR M x0 3) fun a10 => gd (kd T a10 = 13) <| gv (gI M x0 5) (ln T a10) <| lt (pI M a10 (Int32.toNatClampNeg (gI M x0 5)) ((s0 >>> (((24 : Int32) - ((8 : Int32) * (x6 - x6 / (4 : Int32) * (4 : Int32)))) &&& 31)) &&& (255 : Int32))) fun M13 => lt (pI M13 x0 5 ((gI M13 x0 5) + (1 : Int32))) fun M14 => lt (x6 + (1 : Int32)) fun v15 => some (.inl (v15, M14))
def bX12_feed_24 (T : Sh) (x0 : Nat) (x1 : Int32) (x2 : Int32) (x3 : Int32) (x4 : Int32) (x5 : Int32) (x6 : Int32) (M : Me) : Option ((Int32 × Me) ⊕ (Me)) :=
  if (20 : Int32) ≤ x6 then (some (.inr M)) else (if (4 : Int32) ≤ x6 then (if (8 : Int32) ≤ x6 then (if (12 : Int32) ≤ x6 then (if (16 : Int32) ≤ x6 then (jX12_feed_77 T M x0 x1 x2 x3 x4 x5 x6 x5) else (jX12_feed_77 T M x0 x1 x2 x3 x4 x5 x6 x4)) else (jX12_feed_77 T M x0 x1 x2 x3 x4 x5 x6 x3)) else (jX12_feed_77 T M x0 x1 x2 x3 x4 x5 x6 x2)) else (jX12_feed_77 T M x0 x1 x2 x3 x4 x5 x6 x1))
def PX12_feed_24 (X : Fx) (B : Bx) (Z : Nat × Nat × Nat × Nat) (Q : State → Prop) (T : Sh) (x0 : Nat) (x1 : Int32) (x2 : Int32) (x3 : Int32) (x4 : Int32) (x5 : Int32) (s : Int32 × Me) : Prop := G X B 8 Z Q 24 [(0, .ref (x0)), (1, .int (x1)), (2, .int (x2)), (3, .int (x3)), (4, .int (x4)), (5, .int (x5)), (6, .int (s.1))] [] T s.2
def EX12_feed_24 (X : Fx) (B : Bx) (Z : Nat × Nat × Nat × Nat) (Q : State → Prop) (T : Sh) (x0 : Nat) (x1 : Int32) (x2 : Int32) (x3 : Int32) (x4 : Int32) (x5 : Int32) (r : Me) : Prop := G X B 8 Z Q 121 [(0, .ref (x0))] [] T r
set_option maxHeartbeats 4000000 in
theorem tjX12_feed_77 {X : Fx} {B : Bx} {Z : Nat × Nat × Nat × Nat} {Q : State → Prop} {d : Nat} {T : Sh} {M : Me} {x0 : Nat} {x1 : Int32} {x2 : Int32} {x3 : Int32} {x4 : Int32} {x5 : Int32} {x6 : Int32} {s0 : Int32} {o : (Int32 × Me) ⊕ (Me)} (C : Cx X B cX12_feed 8 RX12 d Z) (hd : 0 ≤ d) (h : jX12_feed_77 T M x0 x1 x2 x3 x4 x5 x6 s0 = some o) (hE : lpE (PX12_feed_24 X B Z Q T x0 x1 x2 x3 x4 x5) (EX12_feed_24 X B Z Q T x0 x1 x2 x3 x4 x5) o) : G X B 8 Z Q 77 [(0, .ref (x0)), (1, .int (x1)), (2, .int (x2)), (3, .int (x3)), (4, .int (x4)), (5, .int (x5)), (6, .int (x6))] [.int (s0)] T M := by
  unfold jX12_feed_77 at h
  refine g_istore (pc := 77) (lo2 := [(7, .int (s0)), (0, .ref (x0)), (1, .int (x1)), (2, .int (x2)), (3, .int (x3)), (4, .int (x4)), (5, .int (x5)), (6, .int (x6))]) C dX12_feed_77 (by decide) rfl ?_
  refine g_aload_n (pc := 79) C dX12_feed_79 rfl 1 rfl ?_
  replace h := gd_some h; obtain ⟨hk9, h⟩ := h
  refine g_get (pc := 80) (v := va_rf (gR M x0 3)) C dX12_feed_80 kX12 hk9 3 (by decide) q_1230 rfl ?_
  replace h := bnd h; obtain ⟨a10, ea10, h⟩ := h
  refine g_refq ea10 ?_
  refine g_aload_n (pc := 83) C dX12_feed_83 rfl 1 rfl ?_
  refine g_get (pc := 84) (v := .int (gI M x0 5)) C dX12_feed_84 kX12 hk9 5 (by decide) q_1232 rfl ?_
  refine g_iload (pc := 87) C dX12_feed_87 0 rfl ?_
  refine g_bipush (pc := 89) (v := 24) C dX12_feed_89 (by decide) ?_
  refine g_bipush (pc := 91) (v := 8) C dX12_feed_91 (by decide) ?_
  refine g_iload (pc := 93) C dX12_feed_93 7 rfl ?_
  refine g_iconst (pc := 95) (v := 4) C dX12_feed_95 (by decide) ?_
  refine g_irem (pc := 96) C dX12_feed_96 (by decide) ?_
  refine g_imul (pc := 97) C dX12_feed_97 ?_
  refine g_isub (pc := 98) C dX12_feed_98 ?_
  refine g_ishr (pc := 99) C dX12_feed_99 ?_
  refine g_sipush (pc := 100) (v := 255) C dX12_feed_100 (by decide) ?_
  refine g_iand (pc := 103) C dX12_feed_103 ?_
  replace h := gd_some h; obtain ⟨hk11, h⟩ := h
  replace h := gv_some h; obtain ⟨hi12, h⟩ := h
  refine g_iast (pc := 104) C dX12_feed_104 hk11 hi12 ?_
  refine g_mem (fun M13 eM13 => ?_)
  replace h := lt_at eM13 h
  refine g_aload_n (pc := 105) C dX12_feed_105 rfl 1 rfl ?_
  refine g_dup (pc := 106) C dX12_feed_106 rfl ?_
  refine g_get (pc := 107) (v := .int (gI M13 x0 5)) C dX12_feed_107 kX12 hk9 5 (by decide) q_1232 rfl ?_
  refine g_iconst (pc := 110) (v := 1) C dX12_feed_110 (by decide) ?_
  refine g_iadd (pc := 111) C dX12_feed_111 ?_
  refine g_putI (pc := 112) C dX12_feed_112 kX12 hk9 5 (by decide) rfl rfl rfl q_1232 ?_
  refine g_mem (fun M14 eM14 => ?_)
  replace h := lt_at eM14 h
  obtain ⟨v15, ev15⟩ : ∃ y : Int32, y = x6 + (1 : Int32) := ⟨_, rfl⟩
  replace h := lt_at ev15 h
  refine g_iinc (pc := 115) (v := v15) (k := 7) (lo2 := [(6, .int (v15)), (7, .int (s0)), (0, .ref (x0)), (1, .int (x1)), (2, .int (x2)), (3, .int (x3)), (4, .int (x4)), (5, .int (x5))]) C dX12_feed_115 rfl (by rw [ev15]; rfl) (by decide) rfl ?_
  refine g_goto (pc := 118) (tgt := 24) C dX12_feed_118 (by decide) ?_
  obtain rfl := Option.some.inj h
  exact g_sub [2, 3, 4, 5, 6, 7, 0] rfl (show G X B 8 Z Q 24 [(0, .ref (x0)), (1, .int (x1)), (2, .int (x2)), (3, .int (x3)), (4, .int (x4)), (5, .int (x5)), (6, .int (v15))] [] T M14 from hE)
set_option maxHeartbeats 4000000 in
theorem tbX12_feed_24 {X : Fx} {B : Bx} {Z : Nat × Nat × Nat × Nat} {Q : State → Prop} {d : Nat} {T : Sh} (C : Cx X B cX12_feed 8 RX12 d Z) (hd : 0 ≤ d) {x0 : Nat} {x1 : Int32} {x2 : Int32} {x3 : Int32} {x4 : Int32} {x5 : Int32} : ∀ (s : Int32 × Me) (o : (Int32 × Me) ⊕ (Me)), bX12_feed_24 T x0 x1 x2 x3 x4 x5 s.1 s.2 = some o → lpE (PX12_feed_24 X B Z Q T x0 x1 x2 x3 x4 x5) (EX12_feed_24 X B Z Q T x0 x1 x2 x3 x4 x5) o → PX12_feed_24 X B Z Q T x0 x1 x2 x3 x4 x5 s := by
  rintro ⟨x6, M⟩ o h hE
  replace h : bX12_feed_24 T x0 x1 x2 x3 x4 x5 x6 M = some o := h
  unfold bX12_feed_24 at h
  show G X B 8 Z Q 24 [(0, .ref (x0)), (1, .int (x1)), (2, .int (x2)), (3, .int (x3)), (4, .int (x4)), (5, .int (x5)), (6, .int (x6))] [] T M
  refine g_iload (pc := 24) C dX12_feed_24 6 rfl ?_
  refine g_bipush (pc := 26) (v := 20) C dX12_feed_26 (by decide) ?_
  refine g_icmp_ge (pc := 28) (tgt := 121) C dX12_feed_28 (by decide) (fun c4 => ?_) (fun c4 => ?_)
  · replace h := ifp c4 h
    obtain rfl := Option.some.inj h
    exact g_sub [0] rfl (show G X B 8 Z Q 121 [(0, .ref (x0))] [] T M from hE)
  · replace h := ifn c4 h
    refine g_iload (pc := 31) C dX12_feed_31 6 rfl ?_
    refine g_iconst (pc := 33) (v := 4) C dX12_feed_33 (by decide) ?_
    refine g_icmp_ge (pc := 34) (tgt := 41) C dX12_feed_34 (by decide) (fun c5 => ?_) (fun c5 => ?_)
    · replace h := ifp c5 h
      refine g_iload (pc := 41) C dX12_feed_41 6 rfl ?_
      refine g_bipush (pc := 43) (v := 8) C dX12_feed_43 (by decide) ?_
      refine g_icmp_ge (pc := 45) (tgt := 52) C dX12_feed_45 (by decide) (fun c6 => ?_) (fun c6 => ?_)
      · replace h := ifp c6 h
        refine g_iload (pc := 52) C dX12_feed_52 6 rfl ?_
        refine g_bipush (pc := 54) (v := 12) C dX12_feed_54 (by decide) ?_
        refine g_icmp_ge (pc := 56) (tgt := 63) C dX12_feed_56 (by decide) (fun c7 => ?_) (fun c7 => ?_)
        · replace h := ifp c7 h
          refine g_iload (pc := 63) C dX12_feed_63 6 rfl ?_
          refine g_bipush (pc := 65) (v := 16) C dX12_feed_65 (by decide) ?_
          refine g_icmp_ge (pc := 67) (tgt := 75) C dX12_feed_67 (by decide) (fun c8 => ?_) (fun c8 => ?_)
          · replace h := ifp c8 h
            refine g_iload (pc := 75) C dX12_feed_75 5 rfl ?_
            exact g_sub [0, 1, 2, 3, 4, 5, 6] rfl (tjX12_feed_77 C hd h hE)
          · replace h := ifn c8 h
            refine g_iload (pc := 70) C dX12_feed_70 4 rfl ?_
            refine g_goto (pc := 72) (tgt := 77) C dX12_feed_72 (by decide) ?_
            exact g_sub [0, 1, 2, 3, 4, 5, 6] rfl (tjX12_feed_77 C hd h hE)
        · replace h := ifn c7 h
          refine g_iload_n (pc := 59) C dX12_feed_59 rfl 3 rfl ?_
          refine g_goto (pc := 60) (tgt := 77) C dX12_feed_60 (by decide) ?_
          exact g_sub [0, 1, 2, 3, 4, 5, 6] rfl (tjX12_feed_77 C hd h hE)
      · replace h := ifn c6 h
        refine g_iload_n (pc := 48) C dX12_feed_48 rfl 2 rfl ?_
        refine g_goto (pc := 49) (tgt := 77) C dX12_feed_49 (by decide) ?_
        exact g_sub [0, 1, 2, 3, 4, 5, 6] rfl (tjX12_feed_77 C hd h hE)
    · replace h := ifn c5 h
      refine g_iload_n (pc := 37) C dX12_feed_37 rfl 1 rfl ?_
      refine g_goto (pc := 38) (tgt := 77) C dX12_feed_38 (by decide) ?_
      exact g_sub [0, 1, 2, 3, 4, 5, 6] rfl (tjX12_feed_77 C hd h hE)
/-- EyeTrainerModel.feed(IIIII)I -/
def fX12_feed (T : Sh) (M : Me) (x0 : Nat) (x1 : Int32) (x2 : Int32) (x3 : Int32) (x4 : Int32) (x5 : Int32) : Option (Int32 × Me) :=
  gd (kd T x0 = 11) <| lt (pI M x0 0 (0 : Int32)) fun M2 => if ((gI M2 x0 5) + (20 : Int32)) ≤ (900 : Int32) then ((lp FU (fun s => bX12_feed_24 T x0 x1 x2 x3 x4 x5 s.1 s.2) ((0 : Int32), M2)).bind (fun M16 => some ((gI M16 x0 5), M16))) else (some ((-5 : Int32), M2))
set_option maxHeartbeats 4000000 in
theorem kX12_feed {l : Launch} {B : Bx} {d : Nat} (hd : 0 ≤ d) {T : Sh} {M : Me} {x0 : Nat} {x1 : Int32} {x2 : Int32} {x3 : Int32} {x4 : Int32} {x5 : Int32} {r : Int32} {M' : Me} (h : fX12_feed T M x0 x1 x2 x3 x4 x5 = some (r, M')) : Kt l B yX12_feed cX12_feed 8 (some .int) d [.ref (x0), .int (x1), .int (x2), .int (x3), .int (x4), .int (x5)] T M (some (.int r)) T M' := by
  refine kt_of wX12_feed (Nat.le_refl _) (Nat.le_refl _) (Nat.le_of_ble_eq_true rfl) (fun X C hR hlx hin => ?_)
  subst hlx
  replace C : Cx X B cX12_feed 8 RX12 d (tp T, sl T, tp T, sl T) := C
  unfold fX12_feed at h
  show G X B 8 _ _ 0 [(0, .ref (x0)), (1, .int (x1)), (2, .int (x2)), (3, .int (x3)), (4, .int (x4)), (5, .int (x5))] [] T M
  refine g_aload_n (pc := 0) C dX12_feed_0 rfl 0 rfl ?_
  refine g_iconst (pc := 1) (v := 0) C dX12_feed_1 (by decide) ?_
  replace h := gd_some h; obtain ⟨hk1, h⟩ := h
  refine g_putI (pc := 2) C dX12_feed_2 kX12 hk1 0 (by decide) rfl rfl rfl q_1227 ?_
  refine g_mem (fun M2 eM2 => ?_)
  replace h := lt_at eM2 h
  refine g_aload_n (pc := 5) C dX12_feed_5 rfl 0 rfl ?_
  refine g_get (pc := 6) (v := .int (gI M2 x0 5)) C dX12_feed_6 kX12 hk1 5 (by decide) q_1232 rfl ?_
  refine g_bipush (pc := 9) (v := 20) C dX12_feed_9 (by decide) ?_
  refine g_iadd (pc := 11) C dX12_feed_11 ?_
  refine g_sipush (pc := 12) (v := 900) C dX12_feed_12 (by decide) ?_
  refine g_icmp_le (pc := 15) (tgt := 21) C dX12_feed_15 (by decide) (fun c3 => ?_) (fun c3 => ?_)
  · replace h := ifp c3 h
    refine g_iconst (pc := 21) (v := 0) C dX12_feed_21 (by decide) ?_
    refine g_istore (pc := 22) (lo2 := [(6, .int ((0 : Int32))), (0, .ref (x0)), (1, .int (x1)), (2, .int (x2)), (3, .int (x3)), (4, .int (x4)), (5, .int (x5))]) C dX12_feed_22 (by decide) rfl ?_
    replace h := bnd h; obtain ⟨M16, h1, h⟩ := h
    refine g_sub [1, 2, 3, 4, 5, 6, 0] rfl ?_
    refine lp_G2 (P := PX12_feed_24 X B _ _ T x0 x1 x2 x3 x4 x5) (E := EX12_feed_24 X B _ _ T x0 x1 x2 x3 x4 x5) (tbX12_feed_24 C hd) h1 ?_
    show G X B 8 _ _ 121 [(0, .ref (x0))] [] T M16
    refine g_aload_n (pc := 121) C dX12_feed_121 rfl 0 rfl ?_
    refine g_get (pc := 122) (v := .int (gI M16 x0 5)) C dX12_feed_122 kX12 hk1 5 (by decide) q_1232 rfl ?_
    obtain ⟨rfl, rfl⟩ := Prod.mk.inj (Option.some.inj h)
    exact g_iret C hR dX12_feed_125
  · replace h := ifn c3 h
    refine g_bipush (pc := 18) (v := (-5)) C dX12_feed_18 (by decide) ?_
    obtain ⟨rfl, rfl⟩ := Prod.mk.inj (Option.some.inj h)
    exact g_iret C hR dX12_feed_20
theorem dX12_see_0 : decode cX12_see 0 = .ok (.iload_n 1, 1) := by decide +kernel
theorem dX12_see_1 : decode cX12_see 1 = .ok (.aload_n 0, 1) := by decide +kernel
theorem dX12_see_2 : decode cX12_see 2 = .ok (.getfield 80, 3) := by decide +kernel
theorem dX12_see_5 : decode cX12_see 5 = .ok (.if_icmp .ge 12, 3) := by decide +kernel
theorem dX12_see_8 : decode cX12_see 8 = .ok (.aload_n 0, 1) := by decide +kernel
theorem dX12_see_9 : decode cX12_see 9 = .ok (.getfield 21, 3) := by decide +kernel
theorem dX12_see_12 : decode cX12_see 12 = .ok (.iload_n 1, 1) := by decide +kernel
theorem dX12_see_13 : decode cX12_see 13 = .ok (.iaload, 1) := by decide +kernel
theorem dX12_see_14 : decode cX12_see 14 = .ok (.goto 4, 3) := by decide +kernel
theorem dX12_see_17 : decode cX12_see 17 = .ok (.iconst (-1), 1) := by decide +kernel
theorem dX12_see_18 : decode cX12_see 18 = .ok (.ireturn, 1) := by decide +kernel
theorem wX12_see : Mw yX12_see cX12_see 2 (some .int) 1 := ⟨q_1376, q_130, by decide, ⟨by decide +kernel, by decide +kernel⟩, by decide +kernel, by decide +kernel⟩
/-- EyeTrainerModel.see(I)I -/
def fX12_see (T : Sh) (M : Me) (x0 : Nat) (x1 : Int32) : Option (Int32) :=
  gd (kd T x0 = 11) <| if (gI M x0 8) ≤ x1 then (some (-1 : Int32)) else (Option.bind (gR M x0 3) fun a3 => gd (kd T a3 = 13) <| gv x1 (ln T a3) <| some (gI M a3 (Int32.toNatClampNeg x1)))
set_option maxHeartbeats 4000000 in
theorem kX12_see {l : Launch} {B : Bx} {d : Nat} (hd : 0 ≤ d) {T : Sh} {M : Me} {x0 : Nat} {x1 : Int32} {r : Int32} (h : fX12_see T M x0 x1 = some r) : Kt l B yX12_see cX12_see 2 (some .int) d [.ref (x0), .int (x1)] T M (some (.int r)) T M := by
  refine kt_of wX12_see (Nat.le_refl _) (Nat.le_refl _) (Nat.le_of_ble_eq_true rfl) (fun X C hR hlx hin => ?_)
  subst hlx
  replace C : Cx X B cX12_see 2 RX12 d (tp T, sl T, tp T, sl T) := C
  unfold fX12_see at h
  show G X B 2 _ _ 0 [(0, .ref (x0)), (1, .int (x1))] [] T M
  refine g_iload_n (pc := 0) C dX12_see_0 rfl 1 rfl ?_
  refine g_aload_n (pc := 1) C dX12_see_1 rfl 0 rfl ?_
  replace h := gd_some h; obtain ⟨hk1, h⟩ := h
  refine g_get (pc := 2) (v := .int (gI M x0 8)) C dX12_see_2 kX12 hk1 8 (by decide) q_1235 rfl ?_
  refine g_icmp_ge (pc := 5) (tgt := 17) C dX12_see_5 (by decide) (fun c2 => ?_) (fun c2 => ?_)
  · replace h := ifp c2 h
    refine g_iconst (pc := 17) (v := (-1)) C dX12_see_17 (by decide) ?_
    obtain rfl := Option.some.inj h
    exact g_iret C hR dX12_see_18
  · replace h := ifn c2 h
    refine g_aload_n (pc := 8) C dX12_see_8 rfl 0 rfl ?_
    refine g_get (pc := 9) (v := va_rf (gR M x0 3)) C dX12_see_9 kX12 hk1 3 (by decide) q_1230 rfl ?_
    replace h := bnd h; obtain ⟨a3, ea3, h⟩ := h
    refine g_refq ea3 ?_
    refine g_iload_n (pc := 12) C dX12_see_12 rfl 1 rfl ?_
    replace h := gd_some h; obtain ⟨hk4, h⟩ := h
    replace h := gv_some h; obtain ⟨hi5, h⟩ := h
    refine g_iald (pc := 13) C dX12_see_13 hk4 hi5 ?_
    refine g_goto (pc := 14) (tgt := 18) C dX12_see_14 (by decide) ?_
    obtain rfl := Option.some.inj h
    exact g_iret C hR dX12_see_18
theorem dX12_isSmall_0 : decode cX12_isSmall 0 = .ok (.iload_n 0, 1) := by decide +kernel
theorem dX12_isSmall_1 : decode cX12_isSmall 1 = .ok (.bipush 97, 2) := by decide +kernel
theorem dX12_isSmall_3 : decode cX12_isSmall 3 = .ok (.if_icmp .lt 13, 3) := by decide +kernel
theorem dX12_isSmall_6 : decode cX12_isSmall 6 = .ok (.iload_n 0, 1) := by decide +kernel
theorem dX12_isSmall_7 : decode cX12_isSmall 7 = .ok (.bipush 122, 2) := by decide +kernel
theorem dX12_isSmall_9 : decode cX12_isSmall 9 = .ok (.if_icmp .gt 7, 3) := by decide +kernel
theorem dX12_isSmall_12 : decode cX12_isSmall 12 = .ok (.iconst 1, 1) := by decide +kernel
theorem dX12_isSmall_13 : decode cX12_isSmall 13 = .ok (.goto 4, 3) := by decide +kernel
theorem dX12_isSmall_16 : decode cX12_isSmall 16 = .ok (.iconst 0, 1) := by decide +kernel
theorem dX12_isSmall_17 : decode cX12_isSmall 17 = .ok (.ireturn, 1) := by decide +kernel
theorem wX12_isSmall : Mw yX12_isSmall cX12_isSmall 1 (some .boolean) 1 := ⟨q_1379, q_130, by decide, ⟨by decide +kernel, by decide +kernel⟩, by decide +kernel, by decide +kernel⟩
/-- EyeTrainerModel.isSmall(I)Z -/
def fX12_isSmall (x0 : Int32) : Option (Int32) :=
  if x0 < (97 : Int32) then (some (0 : Int32)) else (if (122 : Int32) < x0 then (some (0 : Int32)) else (some (1 : Int32)))
set_option maxHeartbeats 4000000 in
theorem kX12_isSmall {l : Launch} {B : Bx} {d : Nat} (hd : 0 ≤ d) {T : Sh} {M : Me} {x0 : Int32} {r : Int32} (h : fX12_isSmall  x0 = some r) : Kt l B yX12_isSmall cX12_isSmall 1 (some .boolean) d [.int (x0)] T M (some (.int r)) T M := by
  refine kt_of wX12_isSmall (Nat.le_refl _) (Nat.le_refl _) (Nat.le_of_ble_eq_true rfl) (fun X C hR hlx hin => ?_)
  subst hlx
  replace C : Cx X B cX12_isSmall 1 RX12 d (tp T, sl T, tp T, sl T) := C
  unfold fX12_isSmall at h
  show G X B 1 _ _ 0 [(0, .int (x0))] [] T M
  refine g_iload_n (pc := 0) C dX12_isSmall_0 rfl 0 rfl ?_
  refine g_bipush (pc := 1) (v := 97) C dX12_isSmall_1 (by decide) ?_
  refine g_icmp_lt (pc := 3) (tgt := 16) C dX12_isSmall_3 (by decide) (fun c1 => ?_) (fun c1 => ?_)
  · replace h := ifp c1 h
    refine g_iconst (pc := 16) (v := 0) C dX12_isSmall_16 (by decide) ?_
    obtain rfl := Option.some.inj h
    exact g_zret C hR dX12_isSmall_17 rfl
  · replace h := ifn c1 h
    refine g_iload_n (pc := 6) C dX12_isSmall_6 rfl 0 rfl ?_
    refine g_bipush (pc := 7) (v := 122) C dX12_isSmall_7 (by decide) ?_
    refine g_icmp_gt (pc := 9) (tgt := 16) C dX12_isSmall_9 (by decide) (fun c2 => ?_) (fun c2 => ?_)
    · replace h := ifp c2 h
      refine g_iconst (pc := 16) (v := 0) C dX12_isSmall_16 (by decide) ?_
      obtain rfl := Option.some.inj h
      exact g_zret C hR dX12_isSmall_17 rfl
    · replace h := ifn c2 h
      refine g_iconst (pc := 12) (v := 1) C dX12_isSmall_12 (by decide) ?_
      refine g_goto (pc := 13) (tgt := 17) C dX12_isSmall_13 (by decide) ?_
      obtain rfl := Option.some.inj h
      exact g_zret C hR dX12_isSmall_17 rfl
theorem dX12_isDigit_0 : decode cX12_isDigit 0 = .ok (.iload_n 0, 1) := by decide +kernel
theorem dX12_isDigit_1 : decode cX12_isDigit 1 = .ok (.bipush 48, 2) := by decide +kernel
theorem dX12_isDigit_3 : decode cX12_isDigit 3 = .ok (.if_icmp .lt 13, 3) := by decide +kernel
theorem dX12_isDigit_6 : decode cX12_isDigit 6 = .ok (.iload_n 0, 1) := by decide +kernel
theorem dX12_isDigit_7 : decode cX12_isDigit 7 = .ok (.bipush 57, 2) := by decide +kernel
theorem dX12_isDigit_9 : decode cX12_isDigit 9 = .ok (.if_icmp .gt 7, 3) := by decide +kernel
theorem dX12_isDigit_12 : decode cX12_isDigit 12 = .ok (.iconst 1, 1) := by decide +kernel
theorem dX12_isDigit_13 : decode cX12_isDigit 13 = .ok (.goto 4, 3) := by decide +kernel
theorem dX12_isDigit_16 : decode cX12_isDigit 16 = .ok (.iconst 0, 1) := by decide +kernel
theorem dX12_isDigit_17 : decode cX12_isDigit 17 = .ok (.ireturn, 1) := by decide +kernel
theorem wX12_isDigit : Mw yX12_isDigit cX12_isDigit 1 (some .boolean) 1 := ⟨q_1389, q_130, by decide, ⟨by decide +kernel, by decide +kernel⟩, by decide +kernel, by decide +kernel⟩
/-- EyeTrainerModel.isDigit(I)Z -/
def fX12_isDigit (x0 : Int32) : Option (Int32) :=
  if x0 < (48 : Int32) then (some (0 : Int32)) else (if (57 : Int32) < x0 then (some (0 : Int32)) else (some (1 : Int32)))
set_option maxHeartbeats 4000000 in
theorem kX12_isDigit {l : Launch} {B : Bx} {d : Nat} (hd : 0 ≤ d) {T : Sh} {M : Me} {x0 : Int32} {r : Int32} (h : fX12_isDigit  x0 = some r) : Kt l B yX12_isDigit cX12_isDigit 1 (some .boolean) d [.int (x0)] T M (some (.int r)) T M := by
  refine kt_of wX12_isDigit (Nat.le_refl _) (Nat.le_refl _) (Nat.le_of_ble_eq_true rfl) (fun X C hR hlx hin => ?_)
  subst hlx
  replace C : Cx X B cX12_isDigit 1 RX12 d (tp T, sl T, tp T, sl T) := C
  unfold fX12_isDigit at h
  show G X B 1 _ _ 0 [(0, .int (x0))] [] T M
  refine g_iload_n (pc := 0) C dX12_isDigit_0 rfl 0 rfl ?_
  refine g_bipush (pc := 1) (v := 48) C dX12_isDigit_1 (by decide) ?_
  refine g_icmp_lt (pc := 3) (tgt := 16) C dX12_isDigit_3 (by decide) (fun c1 => ?_) (fun c1 => ?_)
  · replace h := ifp c1 h
    refine g_iconst (pc := 16) (v := 0) C dX12_isDigit_16 (by decide) ?_
    obtain rfl := Option.some.inj h
    exact g_zret C hR dX12_isDigit_17 rfl
  · replace h := ifn c1 h
    refine g_iload_n (pc := 6) C dX12_isDigit_6 rfl 0 rfl ?_
    refine g_bipush (pc := 7) (v := 57) C dX12_isDigit_7 (by decide) ?_
    refine g_icmp_gt (pc := 9) (tgt := 16) C dX12_isDigit_9 (by decide) (fun c2 => ?_) (fun c2 => ?_)
    · replace h := ifp c2 h
      refine g_iconst (pc := 16) (v := 0) C dX12_isDigit_16 (by decide) ?_
      obtain rfl := Option.some.inj h
      exact g_zret C hR dX12_isDigit_17 rfl
    · replace h := ifn c2 h
      refine g_iconst (pc := 12) (v := 1) C dX12_isDigit_12 (by decide) ?_
      refine g_goto (pc := 13) (tgt := 17) C dX12_isDigit_13 (by decide) ?_
      obtain rfl := Option.some.inj h
      exact g_zret C hR dX12_isDigit_17 rfl
theorem dX12_fails_0 : decode cX12_fails 0 = .ok (.aload_n 0, 1) := by decide +kernel
theorem dX12_fails_1 : decode cX12_fails 1 = .ok (.getfield 123, 3) := by decide +kernel
theorem dX12_fails_4 : decode cX12_fails 4 = .ok (.ifCond .eq 4, 3) := by decide +kernel
theorem dX12_fails_7 : decode cX12_fails 7 = .ok (.return_, 1) := by decide +kernel
theorem dX12_fails_8 : decode cX12_fails 8 = .ok (.aload_n 0, 1) := by decide +kernel
theorem dX12_fails_9 : decode cX12_fails 9 = .ok (.aload_n 0, 1) := by decide +kernel
theorem dX12_fails_10 : decode cX12_fails 10 = .ok (.getfield 105, 3) := by decide +kernel
theorem dX12_fails_13 : decode cX12_fails 13 = .ok (.bipush 27, 2) := by decide +kernel
theorem dX12_fails_15 : decode cX12_fails 15 = .ok (.if_icmp .ne 7, 3) := by decide +kernel
theorem dX12_fails_18 : decode cX12_fails 18 = .ok (.iconst 1, 1) := by decide +kernel
theorem dX12_fails_19 : decode cX12_fails 19 = .ok (.goto 4, 3) := by decide +kernel
theorem dX12_fails_22 : decode cX12_fails 22 = .ok (.iload_n 1, 1) := by decide +kernel
theorem dX12_fails_23 : decode cX12_fails 23 = .ok (.putfield 123, 3) := by decide +kernel
theorem dX12_fails_26 : decode cX12_fails 26 = .ok (.aload_n 0, 1) := by decide +kernel
theorem dX12_fails_27 : decode cX12_fails 27 = .ok (.aload_n 0, 1) := by decide +kernel
theorem dX12_fails_28 : decode cX12_fails 28 = .ok (.getfield 95, 3) := by decide +kernel
theorem dX12_fails_31 : decode cX12_fails 31 = .ok (.putfield 126, 3) := by decide +kernel
theorem dX12_fails_34 : decode cX12_fails 34 = .ok (.return_, 1) := by decide +kernel
theorem wX12_fails : Mw yX12_fails cX12_fails 2 none 1 := ⟨q_1402, q_130, by decide, ⟨by decide +kernel, by decide +kernel⟩, by decide +kernel, by decide +kernel⟩
/-- EyeTrainerModel.fails(I)V -/
def fX12_fails (T : Sh) (M : Me) (x0 : Nat) (x1 : Int32) : Option (Unit × Me) :=
  gd (kd T x0 = 11) <| if (gI M x0 11) = 0 then (if (gI M x0 9) = (27 : Int32) then (lt (pI M x0 11 (1 : Int32)) fun M6 => lt (pI M6 x0 12 (gI M6 x0 6)) fun M7 => some ((), M7)) else (lt (pI M x0 11 x1) fun M4 => lt (pI M4 x0 12 (gI M4 x0 6)) fun M5 => some ((), M5))) else (some ((), M))
set_option maxHeartbeats 4000000 in
theorem kX12_fails {l : Launch} {B : Bx} {d : Nat} (hd : 0 ≤ d) {T : Sh} {M : Me} {x0 : Nat} {x1 : Int32} {M' : Me} (h : fX12_fails T M x0 x1 = some ((), M')) : Kt l B yX12_fails cX12_fails 2 none d [.ref (x0), .int (x1)] T M none T M' := by
  refine kt_of wX12_fails (Nat.le_refl _) (Nat.le_refl _) (Nat.le_of_ble_eq_true rfl) (fun X C hR hlx hin => ?_)
  subst hlx
  replace C : Cx X B cX12_fails 2 RX12 d (tp T, sl T, tp T, sl T) := C
  unfold fX12_fails at h
  show G X B 2 _ _ 0 [(0, .ref (x0)), (1, .int (x1))] [] T M
  refine g_aload_n (pc := 0) C dX12_fails_0 rfl 0 rfl ?_
  replace h := gd_some h; obtain ⟨hk1, h⟩ := h
  refine g_get (pc := 1) (v := .int (gI M x0 11)) C dX12_fails_1 kX12 hk1 11 (by decide) q_1238 rfl ?_
  refine g_if_eq (pc := 4) (tgt := 8) C dX12_fails_4 (by decide) (fun c2 => ?_) (fun c2 => ?_)
  · replace h := ifp c2 h
    refine g_aload_n (pc := 8) C dX12_fails_8 rfl 0 rfl ?_
    refine g_aload_n (pc := 9) C dX12_fails_9 rfl 0 rfl ?_
    refine g_get (pc := 10) (v := .int (gI M x0 9)) C dX12_fails_10 kX12 hk1 9 (by decide) q_1236 rfl ?_
    refine g_bipush (pc := 13) (v := 27) C dX12_fails_13 (by decide) ?_
    refine g_icmp_ne (pc := 15) (tgt := 22) C dX12_fails_15 (by decide) (fun c3 => ?_) (fun c3 => ?_)
    · replace h := ifn c3 h
      refine g_iload_n (pc := 22) C dX12_fails_22 rfl 1 rfl ?_
      refine g_putI (pc := 23) C dX12_fails_23 kX12 hk1 11 (by decide) rfl rfl rfl q_1238 ?_
      refine g_mem (fun M4 eM4 => ?_)
      replace h := lt_at eM4 h
      refine g_aload_n (pc := 26) C dX12_fails_26 rfl 0 rfl ?_
      refine g_aload_n (pc := 27) C dX12_fails_27 rfl 0 rfl ?_
      refine g_get (pc := 28) (v := .int (gI M4 x0 6)) C dX12_fails_28 kX12 hk1 6 (by decide) q_1233 rfl ?_
      refine g_putI (pc := 31) C dX12_fails_31 kX12 hk1 12 (by decide) rfl rfl rfl q_1239 ?_
      refine g_mem (fun M5 eM5 => ?_)
      replace h := lt_at eM5 h
      obtain ⟨-, rfl⟩ := Prod.mk.inj (Option.some.inj h)
      exact g_vret C hR dX12_fails_34
    · replace h := ifp c3 h
      refine g_iconst (pc := 18) (v := 1) C dX12_fails_18 (by decide) ?_
      refine g_goto (pc := 19) (tgt := 23) C dX12_fails_19 (by decide) ?_
      refine g_putI (pc := 23) C dX12_fails_23 kX12 hk1 11 (by decide) rfl rfl rfl q_1238 ?_
      refine g_mem (fun M6 eM6 => ?_)
      replace h := lt_at eM6 h
      refine g_aload_n (pc := 26) C dX12_fails_26 rfl 0 rfl ?_
      refine g_aload_n (pc := 27) C dX12_fails_27 rfl 0 rfl ?_
      refine g_get (pc := 28) (v := .int (gI M6 x0 6)) C dX12_fails_28 kX12 hk1 6 (by decide) q_1233 rfl ?_
      refine g_putI (pc := 31) C dX12_fails_31 kX12 hk1 12 (by decide) rfl rfl rfl q_1239 ?_
      refine g_mem (fun M7 eM7 => ?_)
      replace h := lt_at eM7 h
      obtain ⟨-, rfl⟩ := Prod.mk.inj (Option.some.inj h)
      exact g_vret C hR dX12_fails_34
  · replace h := ifn c2 h
    obtain ⟨-, rfl⟩ := Prod.mk.inj (Option.some.inj h)
    exact g_vret C hR dX12_fails_7
theorem dX12_is_0 : decode cX12_is 0 = .ok (.aload_n 0, 1) := by decide +kernel
theorem dX12_is_1 : decode cX12_is 1 = .ok (.getfield 123, 3) := by decide +kernel
theorem dX12_is_4 : decode cX12_is 4 = .ok (.ifCond .ne 15, 3) := by decide +kernel
theorem dX12_is_7 : decode cX12_is 7 = .ok (.aload_n 0, 1) := by decide +kernel
theorem dX12_is_8 : decode cX12_is 8 = .ok (.getfield 105, 3) := by decide +kernel
theorem dX12_is_11 : decode cX12_is 11 = .ok (.iload_n 1, 1) := by decide +kernel
theorem dX12_is_12 : decode cX12_is 12 = .ok (.if_icmp .ne 7, 3) := by decide +kernel
theorem dX12_is_15 : decode cX12_is 15 = .ok (.iconst 1, 1) := by decide +kernel
theorem dX12_is_16 : decode cX12_is 16 = .ok (.goto 4, 3) := by decide +kernel
theorem dX12_is_19 : decode cX12_is 19 = .ok (.iconst 0, 1) := by decide +kernel
theorem dX12_is_20 : decode cX12_is 20 = .ok (.ireturn, 1) := by decide +kernel
theorem wX12_is : Mw yX12_is cX12_is 2 (some .boolean) 1 := ⟨q_1398, q_130, by decide, ⟨by decide +kernel, by decide +kernel⟩, by decide +kernel, by decide +kernel⟩
/-- EyeTrainerModel.is(I)Z -/
def fX12_is (T : Sh) (M : Me) (x0 : Nat) (x1 : Int32) : Option (Int32) :=
  gd (kd T x0 = 11) <| if (gI M x0 11) = 0 then (if (gI M x0 9) = x1 then (some (1 : Int32)) else (some (0 : Int32))) else (some (0 : Int32))
set_option maxHeartbeats 4000000 in
theorem kX12_is {l : Launch} {B : Bx} {d : Nat} (hd : 0 ≤ d) {T : Sh} {M : Me} {x0 : Nat} {x1 : Int32} {r : Int32} (h : fX12_is T M x0 x1 = some r) : Kt l B yX12_is cX12_is 2 (some .boolean) d [.ref (x0), .int (x1)] T M (some (.int r)) T M := by
  refine kt_of wX12_is (Nat.le_refl _) (Nat.le_refl _) (Nat.le_of_ble_eq_true rfl) (fun X C hR hlx hin => ?_)
  subst hlx
  replace C : Cx X B cX12_is 2 RX12 d (tp T, sl T, tp T, sl T) := C
  unfold fX12_is at h
  show G X B 2 _ _ 0 [(0, .ref (x0)), (1, .int (x1))] [] T M
  refine g_aload_n (pc := 0) C dX12_is_0 rfl 0 rfl ?_
  replace h := gd_some h; obtain ⟨hk1, h⟩ := h
  refine g_get (pc := 1) (v := .int (gI M x0 11)) C dX12_is_1 kX12 hk1 11 (by decide) q_1238 rfl ?_
  refine g_if_ne (pc := 4) (tgt := 19) C dX12_is_4 (by decide) (fun c2 => ?_) (fun c2 => ?_)
  · replace h := ifn c2 h
    refine g_iconst (pc := 19) (v := 0) C dX12_is_19 (by decide) ?_
    obtain rfl := Option.some.inj h
    exact g_zret C hR dX12_is_20 rfl
  · replace h := ifp c2 h
    refine g_aload_n (pc := 7) C dX12_is_7 rfl 0 rfl ?_
    refine g_get (pc := 8) (v := .int (gI M x0 9)) C dX12_is_8 kX12 hk1 9 (by decide) q_1236 rfl ?_
    refine g_iload_n (pc := 11) C dX12_is_11 rfl 1 rfl ?_
    refine g_icmp_ne (pc := 12) (tgt := 19) C dX12_is_12 (by decide) (fun c3 => ?_) (fun c3 => ?_)
    · replace h := ifn c3 h
      refine g_iconst (pc := 19) (v := 0) C dX12_is_19 (by decide) ?_
      obtain rfl := Option.some.inj h
      exact g_zret C hR dX12_is_20 rfl
    · replace h := ifp c3 h
      refine g_iconst (pc := 15) (v := 1) C dX12_is_15 (by decide) ?_
      refine g_goto (pc := 16) (tgt := 20) C dX12_is_16 (by decide) ?_
      obtain rfl := Option.some.inj h
      exact g_zret C hR dX12_is_20 rfl
theorem dX12_isIn_0 : decode cX12_isIn 0 = .ok (.lload_n 0, 1) := by decide +kernel
theorem dX12_isIn_1 : decode cX12_isIn 1 = .ok (.iload_n 2, 1) := by decide +kernel
theorem dX12_isIn_2 : decode cX12_isIn 2 = .ok (.lshr, 1) := by decide +kernel
theorem dX12_isIn_3 : decode cX12_isIn 3 = .ok (.lconst 1, 1) := by decide +kernel
theorem dX12_isIn_4 : decode cX12_isIn 4 = .ok (.land, 1) := by decide +kernel
theorem dX12_isIn_5 : decode cX12_isIn 5 = .ok (.lconst 1, 1) := by decide +kernel
theorem dX12_isIn_6 : decode cX12_isIn 6 = .ok (.lcmp, 1) := by decide +kernel
theorem dX12_isIn_7 : decode cX12_isIn 7 = .ok (.ifCond .ne 7, 3) := by decide +kernel
theorem dX12_isIn_10 : decode cX12_isIn 10 = .ok (.iconst 1, 1) := by decide +kernel
theorem dX12_isIn_11 : decode cX12_isIn 11 = .ok (.goto 4, 3) := by decide +kernel
theorem dX12_isIn_14 : decode cX12_isIn 14 = .ok (.iconst 0, 1) := by decide +kernel
theorem dX12_isIn_15 : decode cX12_isIn 15 = .ok (.ireturn, 1) := by decide +kernel
theorem wX12_isIn : Mw yX12_isIn cX12_isIn 3 (some .boolean) 2 := ⟨q_1581, q_130, by decide, ⟨by decide +kernel, by decide +kernel⟩, by decide +kernel, by decide +kernel⟩
/-- EyeTrainerModel.isIn(JI)Z -/
def fX12_isIn (x0 : Int64) (x2 : Int32) : Option (Int32) :=
  if (lg_cmp ((x0 >>> (Int32.toInt64 x2 &&& 63)) &&& (1 : Int64)) (1 : Int64)) = 0 then (some (1 : Int32)) else (some (0 : Int32))
set_option maxHeartbeats 4000000 in
theorem kX12_isIn {l : Launch} {B : Bx} {d : Nat} (hd : 0 ≤ d) {T : Sh} {M : Me} {x0 : Int64} {x2 : Int32} {r : Int32} (h : fX12_isIn  x0 x2 = some r) : Kt l B yX12_isIn cX12_isIn 3 (some .boolean) d [.long (x0), .int (x2)] T M (some (.int r)) T M := by
  refine kt_of wX12_isIn (Nat.le_refl _) (Nat.le_refl _) (Nat.le_of_ble_eq_true rfl) (fun X C hR hlx hin => ?_)
  subst hlx
  replace C : Cx X B cX12_isIn 3 RX12 d (tp T, sl T, tp T, sl T) := C
  unfold fX12_isIn at h
  show G X B 3 _ _ 0 [(0, .long (x0)), (2, .int (x2))] [] T M
  refine g_lload_n (pc := 0) C dX12_isIn_0 rfl 0 rfl ?_
  refine g_iload_n (pc := 1) C dX12_isIn_1 rfl 1 rfl ?_
  refine g_lshr (pc := 2) C dX12_isIn_2 ?_
  refine g_lconst (pc := 3) (v := 1) C dX12_isIn_3 rfl ?_
  refine g_land (pc := 4) C dX12_isIn_4 ?_
  refine g_lconst (pc := 5) (v := 1) C dX12_isIn_5 rfl ?_
  refine g_lcmp (pc := 6) C dX12_isIn_6 ?_
  refine g_if_ne (pc := 7) (tgt := 14) C dX12_isIn_7 (by decide) (fun c1 => ?_) (fun c1 => ?_)
  · replace h := ifn c1 h
    refine g_iconst (pc := 14) (v := 0) C dX12_isIn_14 (by decide) ?_
    obtain rfl := Option.some.inj h
    exact g_zret C hR dX12_isIn_15 rfl
  · replace h := ifp c1 h
    refine g_iconst (pc := 10) (v := 1) C dX12_isIn_10 (by decide) ?_
    refine g_goto (pc := 11) (tgt := 15) C dX12_isIn_11 (by decide) ?_
    obtain rfl := Option.some.inj h
    exact g_zret C hR dX12_isIn_15 rfl
theorem dX12_wordOf_0 : decode cX12_wordOf 0 = .ok (.aload_n 0, 1) := by decide +kernel
theorem dX12_wordOf_1 : decode cX12_wordOf 1 = .ok (.getfield 143, 3) := by decide +kernel
theorem dX12_wordOf_4 : decode cX12_wordOf 4 = .ok (.iconst 2, 1) := by decide +kernel
theorem dX12_wordOf_5 : decode cX12_wordOf 5 = .ok (.if_icmp .ne 7, 3) := by decide +kernel
theorem dX12_wordOf_8 : decode cX12_wordOf 8 = .ok (.iconst 1, 1) := by decide +kernel
theorem dX12_wordOf_9 : decode cX12_wordOf 9 = .ok (.goto 4, 3) := by decide +kernel
theorem dX12_wordOf_12 : decode cX12_wordOf 12 = .ok (.iconst 0, 1) := by decide +kernel
theorem dX12_wordOf_13 : decode cX12_wordOf 13 = .ok (.istore_n 2, 1) := by decide +kernel
theorem dX12_wordOf_14 : decode cX12_wordOf 14 = .ok (.aload_n 0, 1) := by decide +kernel
theorem dX12_wordOf_15 : decode cX12_wordOf 15 = .ok (.getfield 143, 3) := by decide +kernel
theorem dX12_wordOf_18 : decode cX12_wordOf 18 = .ok (.ifCond .ne 7, 3) := by decide +kernel
theorem dX12_wordOf_21 : decode cX12_wordOf 21 = .ok (.iconst 1, 1) := by decide +kernel
theorem dX12_wordOf_22 : decode cX12_wordOf 22 = .ok (.goto 4, 3) := by decide +kernel
theorem dX12_wordOf_25 : decode cX12_wordOf 25 = .ok (.iconst 0, 1) := by decide +kernel
theorem dX12_wordOf_26 : decode cX12_wordOf 26 = .ok (.istore_n 3, 1) := by decide +kernel
theorem dX12_wordOf_27 : decode cX12_wordOf 27 = .ok (.iload_n 1, 1) := by decide +kernel
theorem dX12_wordOf_28 : decode cX12_wordOf 28 = .ok (.tableswitch 144 3 19 #[104, 144, 94, 144, 144, 144, 144, 144, 144, 144, 144, 144, 144, 84, 114, 124, 134], 84) := by decide +kernel
theorem dX12_wordOf_112 : decode cX12_wordOf 112 = .ok (.iload_n 2, 1) := by decide +kernel
theorem dX12_wordOf_113 : decode cX12_wordOf 113 = .ok (.ifCond .eq 7, 3) := by decide +kernel
theorem dX12_wordOf_116 : decode cX12_wordOf 116 = .ok (.iconst (-1), 1) := by decide +kernel
theorem dX12_wordOf_117 : decode cX12_wordOf 117 = .ok (.goto 4, 3) := by decide +kernel
theorem dX12_wordOf_120 : decode cX12_wordOf 120 = .ok (.iconst 0, 1) := by decide +kernel
theorem dX12_wordOf_121 : decode cX12_wordOf 121 = .ok (.ireturn, 1) := by decide +kernel
theorem dX12_wordOf_122 : decode cX12_wordOf 122 = .ok (.iload_n 3, 1) := by decide +kernel
theorem dX12_wordOf_123 : decode cX12_wordOf 123 = .ok (.ifCond .eq 7, 3) := by decide +kernel
theorem dX12_wordOf_126 : decode cX12_wordOf 126 = .ok (.iconst 1, 1) := by decide +kernel
theorem dX12_wordOf_127 : decode cX12_wordOf 127 = .ok (.goto 4, 3) := by decide +kernel
theorem dX12_wordOf_130 : decode cX12_wordOf 130 = .ok (.iconst (-1), 1) := by decide +kernel
theorem dX12_wordOf_131 : decode cX12_wordOf 131 = .ok (.ireturn, 1) := by decide +kernel
theorem dX12_wordOf_132 : decode cX12_wordOf 132 = .ok (.iload_n 2, 1) := by decide +kernel
theorem dX12_wordOf_133 : decode cX12_wordOf 133 = .ok (.ifCond .eq 7, 3) := by decide +kernel
theorem dX12_wordOf_136 : decode cX12_wordOf 136 = .ok (.iconst (-1), 1) := by decide +kernel
theorem dX12_wordOf_137 : decode cX12_wordOf 137 = .ok (.goto 4, 3) := by decide +kernel
theorem dX12_wordOf_140 : decode cX12_wordOf 140 = .ok (.iconst 2, 1) := by decide +kernel
theorem dX12_wordOf_141 : decode cX12_wordOf 141 = .ok (.ireturn, 1) := by decide +kernel
theorem dX12_wordOf_142 : decode cX12_wordOf 142 = .ok (.iload_n 3, 1) := by decide +kernel
theorem dX12_wordOf_143 : decode cX12_wordOf 143 = .ok (.ifCond .eq 7, 3) := by decide +kernel
theorem dX12_wordOf_146 : decode cX12_wordOf 146 = .ok (.iconst 3, 1) := by decide +kernel
theorem dX12_wordOf_147 : decode cX12_wordOf 147 = .ok (.goto 4, 3) := by decide +kernel
theorem dX12_wordOf_150 : decode cX12_wordOf 150 = .ok (.iconst (-1), 1) := by decide +kernel
theorem dX12_wordOf_151 : decode cX12_wordOf 151 = .ok (.ireturn, 1) := by decide +kernel
theorem dX12_wordOf_152 : decode cX12_wordOf 152 = .ok (.iload_n 2, 1) := by decide +kernel
theorem dX12_wordOf_153 : decode cX12_wordOf 153 = .ok (.ifCond .eq 7, 3) := by decide +kernel
theorem dX12_wordOf_156 : decode cX12_wordOf 156 = .ok (.iconst (-1), 1) := by decide +kernel
theorem dX12_wordOf_157 : decode cX12_wordOf 157 = .ok (.goto 4, 3) := by decide +kernel
theorem dX12_wordOf_160 : decode cX12_wordOf 160 = .ok (.iconst 4, 1) := by decide +kernel
theorem dX12_wordOf_161 : decode cX12_wordOf 161 = .ok (.ireturn, 1) := by decide +kernel
theorem dX12_wordOf_162 : decode cX12_wordOf 162 = .ok (.iload_n 2, 1) := by decide +kernel
theorem dX12_wordOf_163 : decode cX12_wordOf 163 = .ok (.ifCond .eq 7, 3) := by decide +kernel
theorem dX12_wordOf_166 : decode cX12_wordOf 166 = .ok (.iconst 5, 1) := by decide +kernel
theorem dX12_wordOf_167 : decode cX12_wordOf 167 = .ok (.goto 4, 3) := by decide +kernel
theorem dX12_wordOf_170 : decode cX12_wordOf 170 = .ok (.iconst (-1), 1) := by decide +kernel
theorem dX12_wordOf_171 : decode cX12_wordOf 171 = .ok (.ireturn, 1) := by decide +kernel
theorem dX12_wordOf_172 : decode cX12_wordOf 172 = .ok (.iconst (-1), 1) := by decide +kernel
theorem dX12_wordOf_173 : decode cX12_wordOf 173 = .ok (.ireturn, 1) := by decide +kernel
theorem wX12_wordOf : Mw yX12_wordOf cX12_wordOf 4 (some .int) 1 := ⟨q_1450, q_130, by decide, ⟨by decide +kernel, by decide +kernel⟩, by decide +kernel, by decide +kernel⟩
def jX12_wordOf_26 (T : Sh) (M : Me) (x1 : Int32) (x2 : Int32) (s0 : Int32) : Option (Int32) :=
  if x1 = (3 : Int32) then (if x2 = 0 then (some (2 : Int32)) else (some (-1 : Int32))) else (if x1 = (5 : Int32) then (if s0 = 0 then (some (-1 : Int32)) else (some (1 : Int32))) else (if x1 = (16 : Int32) then (if x2 = 0 then (some (0 : Int32)) else (some (-1 : Int32))) else (if x1 = (17 : Int32) then (if s0 = 0 then (some (-1 : Int32)) else (some (3 : Int32))) else (if x1 = (18 : Int32) then (if x2 = 0 then (some (4 : Int32)) else (some (-1 : Int32))) else (if x1 = (19 : Int32) then (if x2 = 0 then (some (-1 : Int32)) else (some (5 : Int32))) else (some (-1 : Int32)))))))
set_option maxHeartbeats 4000000 in
theorem tjX12_wordOf_26 {X : Fx} {B : Bx} {Z : Nat × Nat × Nat × Nat} {d : Nat} {T : Sh} {M : Me} {x1 : Int32} {x2 : Int32} {s0 : Int32} {r : Int32} (C : Cx X B cX12_wordOf 4 RX12 d Z) (hR : Rx X (some .int)) (hd : 0 ≤ d) (h : jX12_wordOf_26 T M x1 x2 s0 = some r) : G X B 4 Z (Qf X B Z (some (.int r)) T M) 26 [(1, .int (x1)), (2, .int (x2))] [.int (s0)] T M := by
  unfold jX12_wordOf_26 at h
  refine g_istore_n (pc := 26) (lo2 := [(3, .int (s0)), (1, .int (x1)), (2, .int (x2))]) C dX12_wordOf_26 rfl (by decide) rfl ?_
  refine g_iload_n (pc := 27) C dX12_wordOf_27 rfl 1 rfl ?_
  by_cases cw11_0 : x1 = (3 : Int32)
  · replace h := ifp cw11_0 h
    have hq : x1.toInt = 3 := by rw [cw11_0]; rfl
    refine g_tswIn (off := 104) (tgt := 132) C dX12_wordOf_28 (by rw [hq]; decide) (by rw [hq]; decide) (by rw [hq]; rfl) (by decide) ?_
    refine g_iload_n (pc := 132) C dX12_wordOf_132 rfl 2 rfl ?_
    refine g_if_eq (pc := 133) (tgt := 140) C dX12_wordOf_133 (by decide) (fun c5 => ?_) (fun c5 => ?_)
    · replace h := ifp c5 h
      refine g_iconst (pc := 140) (v := 2) C dX12_wordOf_140 (by decide) ?_
      obtain rfl := Option.some.inj h
      exact g_iret C hR dX12_wordOf_141
    · replace h := ifn c5 h
      refine g_iconst (pc := 136) (v := (-1)) C dX12_wordOf_136 (by decide) ?_
      refine g_goto (pc := 137) (tgt := 141) C dX12_wordOf_137 (by decide) ?_
      obtain rfl := Option.some.inj h
      exact g_iret C hR dX12_wordOf_141
  · replace h := ifn cw11_0 h
    by_cases cw11_1 : x1 = (5 : Int32)
    · replace h := ifp cw11_1 h
      have hq : x1.toInt = 5 := by rw [cw11_1]; rfl
      refine g_tswIn (off := 94) (tgt := 122) C dX12_wordOf_28 (by rw [hq]; decide) (by rw [hq]; decide) (by rw [hq]; rfl) (by decide) ?_
      refine g_iload_n (pc := 122) C dX12_wordOf_122 rfl 0 rfl ?_
      refine g_if_eq (pc := 123) (tgt := 130) C dX12_wordOf_123 (by decide) (fun c6 => ?_) (fun c6 => ?_)
      · replace h := ifp c6 h
        refine g_iconst (pc := 130) (v := (-1)) C dX12_wordOf_130 (by decide) ?_
        obtain rfl := Option.some.inj h
        exact g_iret C hR dX12_wordOf_131
      · replace h := ifn c6 h
        refine g_iconst (pc := 126) (v := 1) C dX12_wordOf_126 (by decide) ?_
        refine g_goto (pc := 127) (tgt := 131) C dX12_wordOf_127 (by decide) ?_
        obtain rfl := Option.some.inj h
        exact g_iret C hR dX12_wordOf_131
    · replace h := ifn cw11_1 h
      by_cases cw11_2 : x1 = (16 : Int32)
      · replace h := ifp cw11_2 h
        have hq : x1.toInt = 16 := by rw [cw11_2]; rfl
        refine g_tswIn (off := 84) (tgt := 112) C dX12_wordOf_28 (by rw [hq]; decide) (by rw [hq]; decide) (by rw [hq]; rfl) (by decide) ?_
        refine g_iload_n (pc := 112) C dX12_wordOf_112 rfl 2 rfl ?_
        refine g_if_eq (pc := 113) (tgt := 120) C dX12_wordOf_113 (by decide) (fun c7 => ?_) (fun c7 => ?_)
        · replace h := ifp c7 h
          refine g_iconst (pc := 120) (v := 0) C dX12_wordOf_120 (by decide) ?_
          obtain rfl := Option.some.inj h
          exact g_iret C hR dX12_wordOf_121
        · replace h := ifn c7 h
          refine g_iconst (pc := 116) (v := (-1)) C dX12_wordOf_116 (by decide) ?_
          refine g_goto (pc := 117) (tgt := 121) C dX12_wordOf_117 (by decide) ?_
          obtain rfl := Option.some.inj h
          exact g_iret C hR dX12_wordOf_121
      · replace h := ifn cw11_2 h
        by_cases cw11_3 : x1 = (17 : Int32)
        · replace h := ifp cw11_3 h
          have hq : x1.toInt = 17 := by rw [cw11_3]; rfl
          refine g_tswIn (off := 114) (tgt := 142) C dX12_wordOf_28 (by rw [hq]; decide) (by rw [hq]; decide) (by rw [hq]; rfl) (by decide) ?_
          refine g_iload_n (pc := 142) C dX12_wordOf_142 rfl 0 rfl ?_
          refine g_if_eq (pc := 143) (tgt := 150) C dX12_wordOf_143 (by decide) (fun c8 => ?_) (fun c8 => ?_)
          · replace h := ifp c8 h
            refine g_iconst (pc := 150) (v := (-1)) C dX12_wordOf_150 (by decide) ?_
            obtain rfl := Option.some.inj h
            exact g_iret C hR dX12_wordOf_151
          · replace h := ifn c8 h
            refine g_iconst (pc := 146) (v := 3) C dX12_wordOf_146 (by decide) ?_
            refine g_goto (pc := 147) (tgt := 151) C dX12_wordOf_147 (by decide) ?_
            obtain rfl := Option.some.inj h
            exact g_iret C hR dX12_wordOf_151
        · replace h := ifn cw11_3 h
          by_cases cw11_4 : x1 = (18 : Int32)
          · replace h := ifp cw11_4 h
            have hq : x1.toInt = 18 := by rw [cw11_4]; rfl
            refine g_tswIn (off := 124) (tgt := 152) C dX12_wordOf_28 (by rw [hq]; decide) (by rw [hq]; decide) (by rw [hq]; rfl) (by decide) ?_
            refine g_iload_n (pc := 152) C dX12_wordOf_152 rfl 2 rfl ?_
            refine g_if_eq (pc := 153) (tgt := 160) C dX12_wordOf_153 (by decide) (fun c9 => ?_) (fun c9 => ?_)
            · replace h := ifp c9 h
              refine g_iconst (pc := 160) (v := 4) C dX12_wordOf_160 (by decide) ?_
              obtain rfl := Option.some.inj h
              exact g_iret C hR dX12_wordOf_161
            · replace h := ifn c9 h
              refine g_iconst (pc := 156) (v := (-1)) C dX12_wordOf_156 (by decide) ?_
              refine g_goto (pc := 157) (tgt := 161) C dX12_wordOf_157 (by decide) ?_
              obtain rfl := Option.some.inj h
              exact g_iret C hR dX12_wordOf_161
          · replace h := ifn cw11_4 h
            by_cases cw11_5 : x1 = (19 : Int32)
            · replace h := ifp cw11_5 h
              have hq : x1.toInt = 19 := by rw [cw11_5]; rfl
              refine g_tswIn (off := 134) (tgt := 162) C dX12_wordOf_28 (by rw [hq]; decide) (by rw [hq]; decide) (by rw [hq]; rfl) (by decide) ?_
              refine g_iload_n (pc := 162) C dX12_wordOf_162 rfl 2 rfl ?_
              refine g_if_eq (pc := 163) (tgt := 170) C dX12_wordOf_163 (by decide) (fun c10 => ?_) (fun c10 => ?_)
              · replace h := ifp c10 h
                refine g_iconst (pc := 170) (v := (-1)) C dX12_wordOf_170 (by decide) ?_
                obtain rfl := Option.some.inj h
                exact g_iret C hR dX12_wordOf_171
              · replace h := ifn c10 h
                refine g_iconst (pc := 166) (v := 5) C dX12_wordOf_166 (by decide) ?_
                refine g_goto (pc := 167) (tgt := 171) C dX12_wordOf_167 (by decide) ?_
                obtain rfl := Option.some.inj h
                exact g_iret C hR dX12_wordOf_171
            · replace h := ifn cw11_5 h
              by_cases hs : x1.toInt < 3 ∨ 19 < x1.toInt
              · refine g_tswOut (tgt := 172) C dX12_wordOf_28 hs (by decide) ?_
                refine g_iconst (pc := 172) (v := (-1)) C dX12_wordOf_172 (by decide) ?_
                obtain rfl := Option.some.inj h
                exact g_iret C hR dX12_wordOf_173
              · have hq : x1.toInt = 4 ∨ x1.toInt = 6 ∨ x1.toInt = 7 ∨ x1.toInt = 8 ∨ x1.toInt = 9 ∨ x1.toInt = 10 ∨ x1.toInt = 11 ∨ x1.toInt = 12 ∨ x1.toInt = 13 ∨ x1.toInt = 14 ∨ x1.toInt = 15 := by
                  have := sw_ne cw11_0 (i := 3) rfl
                  have := sw_ne cw11_1 (i := 5) rfl
                  have := sw_ne cw11_2 (i := 16) rfl
                  have := sw_ne cw11_3 (i := 17) rfl
                  have := sw_ne cw11_4 (i := 18) rfl
                  have := sw_ne cw11_5 (i := 19) rfl
                  omega
                rcases hq with hq | hq | hq | hq | hq | hq | hq | hq | hq | hq | hq
                · refine g_tswIn (off := 144) (tgt := 172) C dX12_wordOf_28 (by rw [hq]; decide) (by rw [hq]; decide) (by rw [hq]; rfl) (by decide) ?_
                  refine g_iconst (pc := 172) (v := (-1)) C dX12_wordOf_172 (by decide) ?_
                  obtain rfl := Option.some.inj h
                  exact g_iret C hR dX12_wordOf_173
                · refine g_tswIn (off := 144) (tgt := 172) C dX12_wordOf_28 (by rw [hq]; decide) (by rw [hq]; decide) (by rw [hq]; rfl) (by decide) ?_
                  refine g_iconst (pc := 172) (v := (-1)) C dX12_wordOf_172 (by decide) ?_
                  obtain rfl := Option.some.inj h
                  exact g_iret C hR dX12_wordOf_173
                · refine g_tswIn (off := 144) (tgt := 172) C dX12_wordOf_28 (by rw [hq]; decide) (by rw [hq]; decide) (by rw [hq]; rfl) (by decide) ?_
                  refine g_iconst (pc := 172) (v := (-1)) C dX12_wordOf_172 (by decide) ?_
                  obtain rfl := Option.some.inj h
                  exact g_iret C hR dX12_wordOf_173
                · refine g_tswIn (off := 144) (tgt := 172) C dX12_wordOf_28 (by rw [hq]; decide) (by rw [hq]; decide) (by rw [hq]; rfl) (by decide) ?_
                  refine g_iconst (pc := 172) (v := (-1)) C dX12_wordOf_172 (by decide) ?_
                  obtain rfl := Option.some.inj h
                  exact g_iret C hR dX12_wordOf_173
                · refine g_tswIn (off := 144) (tgt := 172) C dX12_wordOf_28 (by rw [hq]; decide) (by rw [hq]; decide) (by rw [hq]; rfl) (by decide) ?_
                  refine g_iconst (pc := 172) (v := (-1)) C dX12_wordOf_172 (by decide) ?_
                  obtain rfl := Option.some.inj h
                  exact g_iret C hR dX12_wordOf_173
                · refine g_tswIn (off := 144) (tgt := 172) C dX12_wordOf_28 (by rw [hq]; decide) (by rw [hq]; decide) (by rw [hq]; rfl) (by decide) ?_
                  refine g_iconst (pc := 172) (v := (-1)) C dX12_wordOf_172 (by decide) ?_
                  obtain rfl := Option.some.inj h
                  exact g_iret C hR dX12_wordOf_173
                · refine g_tswIn (off := 144) (tgt := 172) C dX12_wordOf_28 (by rw [hq]; decide) (by rw [hq]; decide) (by rw [hq]; rfl) (by decide) ?_
                  refine g_iconst (pc := 172) (v := (-1)) C dX12_wordOf_172 (by decide) ?_
                  obtain rfl := Option.some.inj h
                  exact g_iret C hR dX12_wordOf_173
                · refine g_tswIn (off := 144) (tgt := 172) C dX12_wordOf_28 (by rw [hq]; decide) (by rw [hq]; decide) (by rw [hq]; rfl) (by decide) ?_
                  refine g_iconst (pc := 172) (v := (-1)) C dX12_wordOf_172 (by decide) ?_
                  obtain rfl := Option.some.inj h
                  exact g_iret C hR dX12_wordOf_173
                · refine g_tswIn (off := 144) (tgt := 172) C dX12_wordOf_28 (by rw [hq]; decide) (by rw [hq]; decide) (by rw [hq]; rfl) (by decide) ?_
                  refine g_iconst (pc := 172) (v := (-1)) C dX12_wordOf_172 (by decide) ?_
                  obtain rfl := Option.some.inj h
                  exact g_iret C hR dX12_wordOf_173
                · refine g_tswIn (off := 144) (tgt := 172) C dX12_wordOf_28 (by rw [hq]; decide) (by rw [hq]; decide) (by rw [hq]; rfl) (by decide) ?_
                  refine g_iconst (pc := 172) (v := (-1)) C dX12_wordOf_172 (by decide) ?_
                  obtain rfl := Option.some.inj h
                  exact g_iret C hR dX12_wordOf_173
                · refine g_tswIn (off := 144) (tgt := 172) C dX12_wordOf_28 (by rw [hq]; decide) (by rw [hq]; decide) (by rw [hq]; rfl) (by decide) ?_
                  refine g_iconst (pc := 172) (v := (-1)) C dX12_wordOf_172 (by decide) ?_
                  obtain rfl := Option.some.inj h
                  exact g_iret C hR dX12_wordOf_173
def jX12_wordOf_13 (T : Sh) (M : Me) (x0 : Nat) (x1 : Int32) (s0 : Int32) : Option (Int32) :=
  gd (kd T x0 = 11) <| if (gI M x0 15) = 0 then (jX12_wordOf_26 T M x1 s0 (1 : Int32)) else (jX12_wordOf_26 T M x1 s0 (0 : Int32))
set_option maxHeartbeats 4000000 in
theorem tjX12_wordOf_13 {X : Fx} {B : Bx} {Z : Nat × Nat × Nat × Nat} {d : Nat} {T : Sh} {M : Me} {x0 : Nat} {x1 : Int32} {s0 : Int32} {r : Int32} (C : Cx X B cX12_wordOf 4 RX12 d Z) (hR : Rx X (some .int)) (hd : 0 ≤ d) (h : jX12_wordOf_13 T M x0 x1 s0 = some r) : G X B 4 Z (Qf X B Z (some (.int r)) T M) 13 [(0, .ref (x0)), (1, .int (x1))] [.int (s0)] T M := by
  unfold jX12_wordOf_13 at h
  refine g_istore_n (pc := 13) (lo2 := [(2, .int (s0)), (0, .ref (x0)), (1, .int (x1))]) C dX12_wordOf_13 rfl (by decide) rfl ?_
  refine g_aload_n (pc := 14) C dX12_wordOf_14 rfl 1 rfl ?_
  replace h := gd_some h; obtain ⟨hk3, h⟩ := h
  refine g_get (pc := 15) (v := .int (gI M x0 15)) C dX12_wordOf_15 kX12 hk3 15 (by decide) q_1242 rfl ?_
  refine g_if_ne (pc := 18) (tgt := 25) C dX12_wordOf_18 (by decide) (fun c4 => ?_) (fun c4 => ?_)
  · replace h := ifn c4 h
    refine g_iconst (pc := 25) (v := 0) C dX12_wordOf_25 (by decide) ?_
    exact g_sub [2, 0] rfl (tjX12_wordOf_26 C hR hd h)
  · replace h := ifp c4 h
    refine g_iconst (pc := 21) (v := 1) C dX12_wordOf_21 (by decide) ?_
    refine g_goto (pc := 22) (tgt := 26) C dX12_wordOf_22 (by decide) ?_
    exact g_sub [2, 0] rfl (tjX12_wordOf_26 C hR hd h)
/-- EyeTrainerModel.wordOf(I)I -/
def fX12_wordOf (T : Sh) (M : Me) (x0 : Nat) (x1 : Int32) : Option (Int32) :=
  gd (kd T x0 = 11) <| if (gI M x0 15) = (2 : Int32) then (jX12_wordOf_13 T M x0 x1 (1 : Int32)) else (jX12_wordOf_13 T M x0 x1 (0 : Int32))
set_option maxHeartbeats 4000000 in
theorem kX12_wordOf {l : Launch} {B : Bx} {d : Nat} (hd : 0 ≤ d) {T : Sh} {M : Me} {x0 : Nat} {x1 : Int32} {r : Int32} (h : fX12_wordOf T M x0 x1 = some r) : Kt l B yX12_wordOf cX12_wordOf 4 (some .int) d [.ref (x0), .int (x1)] T M (some (.int r)) T M := by
  refine kt_of wX12_wordOf (Nat.le_refl _) (Nat.le_refl _) (Nat.le_of_ble_eq_true rfl) (fun X C hR hlx hin => ?_)
  subst hlx
  replace C : Cx X B cX12_wordOf 4 RX12 d (tp T, sl T, tp T, sl T) := C
  unfold fX12_wordOf at h
  show G X B 4 _ _ 0 [(0, .ref (x0)), (1, .int (x1))] [] T M
  refine g_aload_n (pc := 0) C dX12_wordOf_0 rfl 0 rfl ?_
  replace h := gd_some h; obtain ⟨hk1, h⟩ := h
  refine g_get (pc := 1) (v := .int (gI M x0 15)) C dX12_wordOf_1 kX12 hk1 15 (by decide) q_1242 rfl ?_
  refine g_iconst (pc := 4) (v := 2) C dX12_wordOf_4 (by decide) ?_
  refine g_icmp_ne (pc := 5) (tgt := 12) C dX12_wordOf_5 (by decide) (fun c2 => ?_) (fun c2 => ?_)
  · replace h := ifn c2 h
    refine g_iconst (pc := 12) (v := 0) C dX12_wordOf_12 (by decide) ?_
    exact g_sub [0, 1] rfl (tjX12_wordOf_13 C hR hd h)
  · replace h := ifp c2 h
    refine g_iconst (pc := 8) (v := 1) C dX12_wordOf_8 (by decide) ?_
    refine g_goto (pc := 9) (tgt := 13) C dX12_wordOf_9 (by decide) ?_
    exact g_sub [0, 1] rfl (tjX12_wordOf_13 C hR hd h)
theorem dX12_codes_0 : decode cX12_codes 0 = .ok (.aload_n 0, 1) := by decide +kernel
theorem dX12_codes_1 : decode cX12_codes 1 = .ok (.getfield 123, 3) := by decide +kernel
theorem dX12_codes_4 : decode cX12_codes 4 = .ok (.ifCond .eq 4, 3) := by decide +kernel
theorem dX12_codes_7 : decode cX12_codes 7 = .ok (.return_, 1) := by decide +kernel
theorem dX12_codes_8 : decode cX12_codes 8 = .ok (.aload_n 0, 1) := by decide +kernel
theorem dX12_codes_9 : decode cX12_codes 9 = .ok (.getfield 24, 3) := by decide +kernel
theorem dX12_codes_12 : decode cX12_codes 12 = .ok (.sipush 132, 3) := by decide +kernel
theorem dX12_codes_15 : decode cX12_codes 15 = .ok (.aload_n 0, 1) := by decide +kernel
theorem dX12_codes_16 : decode cX12_codes 16 = .ok (.getfield 24, 3) := by decide +kernel
theorem dX12_codes_19 : decode cX12_codes 19 = .ok (.sipush 131, 3) := by decide +kernel
theorem dX12_codes_22 : decode cX12_codes 22 = .ok (.iaload, 1) := by decide +kernel
theorem dX12_codes_23 : decode cX12_codes 23 = .ok (.iadd, 1) := by decide +kernel
theorem dX12_codes_24 : decode cX12_codes 24 = .ok (.iload_n 1, 1) := by decide +kernel
theorem dX12_codes_25 : decode cX12_codes 25 = .ok (.iastore, 1) := by decide +kernel
theorem dX12_codes_26 : decode cX12_codes 26 = .ok (.aload_n 0, 1) := by decide +kernel
theorem dX12_codes_27 : decode cX12_codes 27 = .ok (.getfield 24, 3) := by decide +kernel
theorem dX12_codes_30 : decode cX12_codes 30 = .ok (.sipush 131, 3) := by decide +kernel
theorem dX12_codes_33 : decode cX12_codes 33 = .ok (.dup2, 1) := by decide +kernel
theorem dX12_codes_34 : decode cX12_codes 34 = .ok (.iaload, 1) := by decide +kernel
theorem dX12_codes_35 : decode cX12_codes 35 = .ok (.iconst 1, 1) := by decide +kernel
theorem dX12_codes_36 : decode cX12_codes 36 = .ok (.iadd, 1) := by decide +kernel
theorem dX12_codes_37 : decode cX12_codes 37 = .ok (.iastore, 1) := by decide +kernel
theorem dX12_codes_38 : decode cX12_codes 38 = .ok (.return_, 1) := by decide +kernel
theorem wX12_codes : Mw yX12_codes cX12_codes 2 none 1 := ⟨q_1446, q_130, by decide, ⟨by decide +kernel, by decide +kernel⟩, by decide +kernel, by decide +kernel⟩
/-- EyeTrainerModel.codes(I)V -/
def fX12_codes (T : Sh) (M : Me) (x0 : Nat) (x1 : Int32) : Option (Unit × Me) :=
  gd (kd T x0 = 11) <| if (gI M x0 11) = 0 then (Option.bind (gR M x0 4) fun a3 => Option.bind (gR M x0 4) fun a4 => gd (kd T a4 = 13) <| gv (131 : Int32) (ln T a4) <| gd (kd T a3 = 13) <| gv ((132 : Int32) + (gI M a4 (Int32.toNatClampNeg (131 : Int32)))) (ln T a3) <| lt (pI M a3 (Int32.toNatClampNeg ((132 : Int32) + (gI M a4 (Int32.toNatClampNeg (131 : Int32))))) x1) fun M9 => Option.bind (gR M9 x0 4) fun a10 => gd (kd T a10 = 13) <| gv (131 : Int32) (ln T a10) <| gv (131 : Int32) (ln T a10) <| lt (pI M9 a10 (Int32.toNatClampNeg (131 : Int32)) ((gI M9 a10 (Int32.toNatClampNeg (131 : Int32))) + (1 : Int32))) fun M14 => some ((), M14)) else (some ((), M))
set_option maxHeartbeats 4000000 in
theorem kX12_codes {l : Launch} {B : Bx} {d : Nat} (hd : 0 ≤ d) {T : Sh} {M : Me} {x0 : Nat} {x1 : Int32} {M' : Me} (h : fX12_codes T M x0 x1 = some ((), M')) : Kt l B yX12_codes cX12_codes 2 none d [.ref (x0), .int (x1)] T M none T M' := by
  refine kt_of wX12_codes (Nat.le_refl _) (Nat.le_refl _) (Nat.le_of_ble_eq_true rfl) (fun X C hR hlx hin => ?_)
  subst hlx
  replace C : Cx X B cX12_codes 2 RX12 d (tp T, sl T, tp T, sl T) := C
  unfold fX12_codes at h
  show G X B 2 _ _ 0 [(0, .ref (x0)), (1, .int (x1))] [] T M
  refine g_aload_n (pc := 0) C dX12_codes_0 rfl 0 rfl ?_
  replace h := gd_some h; obtain ⟨hk1, h⟩ := h
  refine g_get (pc := 1) (v := .int (gI M x0 11)) C dX12_codes_1 kX12 hk1 11 (by decide) q_1238 rfl ?_
  refine g_if_eq (pc := 4) (tgt := 8) C dX12_codes_4 (by decide) (fun c2 => ?_) (fun c2 => ?_)
  · replace h := ifp c2 h
    refine g_aload_n (pc := 8) C dX12_codes_8 rfl 0 rfl ?_
    refine g_get (pc := 9) (v := va_rf (gR M x0 4)) C dX12_codes_9 kX12 hk1 4 (by decide) q_1231 rfl ?_
    replace h := bnd h; obtain ⟨a3, ea3, h⟩ := h
    refine g_refq ea3 ?_
    refine g_sipush (pc := 12) (v := 132) C dX12_codes_12 (by decide) ?_
    refine g_aload_n (pc := 15) C dX12_codes_15 rfl 0 rfl ?_
    refine g_get (pc := 16) (v := va_rf (gR M x0 4)) C dX12_codes_16 kX12 hk1 4 (by decide) q_1231 rfl ?_
    replace h := bnd h; obtain ⟨a4, ea4, h⟩ := h
    refine g_refq ea4 ?_
    refine g_sipush (pc := 19) (v := 131) C dX12_codes_19 (by decide) ?_
    replace h := gd_some h; obtain ⟨hk5, h⟩ := h
    replace h := gv_some h; obtain ⟨hi6, h⟩ := h
    refine g_iald (pc := 22) C dX12_codes_22 hk5 hi6 ?_
    refine g_iadd (pc := 23) C dX12_codes_23 ?_
    refine g_iload_n (pc := 24) C dX12_codes_24 rfl 1 rfl ?_
    replace h := gd_some h; obtain ⟨hk7, h⟩ := h
    replace h := gv_some h; obtain ⟨hi8, h⟩ := h
    refine g_iast (pc := 25) C dX12_codes_25 hk7 hi8 ?_
    refine g_mem (fun M9 eM9 => ?_)
    replace h := lt_at eM9 h
    refine g_aload_n (pc := 26) C dX12_codes_26 rfl 0 rfl ?_
    refine g_get (pc := 27) (v := va_rf (gR M9 x0 4)) C dX12_codes_27 kX12 hk1 4 (by decide) q_1231 rfl ?_
    replace h := bnd h; obtain ⟨a10, ea10, h⟩ := h
    refine g_refq ea10 ?_
    refine g_sipush (pc := 30) (v := 131) C dX12_codes_30 (by decide) ?_
    refine g_dup2 (pc := 33) C dX12_codes_33 rfl rfl ?_
    replace h := gd_some h; obtain ⟨hk11, h⟩ := h
    replace h := gv_some h; obtain ⟨hi12, h⟩ := h
    refine g_iald (pc := 34) C dX12_codes_34 hk11 hi12 ?_
    refine g_iconst (pc := 35) (v := 1) C dX12_codes_35 (by decide) ?_
    refine g_iadd (pc := 36) C dX12_codes_36 ?_
    replace h := gv_some h; obtain ⟨hi13, h⟩ := h
    refine g_iast (pc := 37) C dX12_codes_37 hk11 hi13 ?_
    refine g_mem (fun M14 eM14 => ?_)
    replace h := lt_at eM14 h
    obtain ⟨-, rfl⟩ := Prod.mk.inj (Option.some.inj h)
    exact g_vret C hR dX12_codes_38
  · replace h := ifn c2 h
    obtain ⟨-, rfl⟩ := Prod.mk.inj (Option.some.inj h)
    exact g_vret C hR dX12_codes_7
theorem dX12_fault_0 : decode cX12_fault 0 = .ok (.aload_n 0, 1) := by decide +kernel
theorem dX12_fault_1 : decode cX12_fault 1 = .ok (.iconst 0, 1) := by decide +kernel
theorem dX12_fault_2 : decode cX12_fault 2 = .ok (.putfield 1, 3) := by decide +kernel
theorem dX12_fault_5 : decode cX12_fault 5 = .ok (.iload_n 1, 1) := by decide +kernel
theorem dX12_fault_6 : decode cX12_fault 6 = .ok (.ifCond .ne 10, 3) := by decide +kernel
theorem dX12_fault_9 : decode cX12_fault 9 = .ok (.aload_n 0, 1) := by decide +kernel
theorem dX12_fault_10 : decode cX12_fault 10 = .ok (.getfield 202, 3) := by decide +kernel
theorem dX12_fault_13 : decode cX12_fault 13 = .ok (.goto 16, 3) := by decide +kernel
theorem dX12_fault_16 : decode cX12_fault 16 = .ok (.iload_n 1, 1) := by decide +kernel
theorem dX12_fault_17 : decode cX12_fault 17 = .ok (.iconst 1, 1) := by decide +kernel
theorem dX12_fault_18 : decode cX12_fault 18 = .ok (.if_icmp .ne 10, 3) := by decide +kernel
theorem dX12_fault_21 : decode cX12_fault 21 = .ok (.aload_n 0, 1) := by decide +kernel
theorem dX12_fault_22 : decode cX12_fault 22 = .ok (.getfield 27, 3) := by decide +kernel
theorem dX12_fault_25 : decode cX12_fault 25 = .ok (.goto 4, 3) := by decide +kernel
theorem dX12_fault_28 : decode cX12_fault 28 = .ok (.iconst (-1), 1) := by decide +kernel
theorem dX12_fault_29 : decode cX12_fault 29 = .ok (.ireturn, 1) := by decide +kernel
theorem wX12_fault : Mw yX12_fault cX12_fault 2 (some .int) 1 := ⟨q_1474, q_130, by decide, ⟨by decide +kernel, by decide +kernel⟩, by decide +kernel, by decide +kernel⟩
/-- EyeTrainerModel.fault(I)I -/
def fX12_fault (T : Sh) (M : Me) (x0 : Nat) (x1 : Int32) : Option (Int32 × Me) :=
  gd (kd T x0 = 11) <| lt (pI M x0 0 (0 : Int32)) fun M2 => if x1 = 0 then (some ((gI M2 x0 13), M2)) else (if x1 = (1 : Int32) then (some ((gI M2 x0 14), M2)) else (some ((-1 : Int32), M2)))
set_option maxHeartbeats 4000000 in
theorem kX12_fault {l : Launch} {B : Bx} {d : Nat} (hd : 0 ≤ d) {T : Sh} {M : Me} {x0 : Nat} {x1 : Int32} {r : Int32} {M' : Me} (h : fX12_fault T M x0 x1 = some (r, M')) : Kt l B yX12_fault cX12_fault 2 (some .int) d [.ref (x0), .int (x1)] T M (some (.int r)) T M' := by
  refine kt_of wX12_fault (Nat.le_refl _) (Nat.le_refl _) (Nat.le_of_ble_eq_true rfl) (fun X C hR hlx hin => ?_)
  subst hlx
  replace C : Cx X B cX12_fault 2 RX12 d (tp T, sl T, tp T, sl T) := C
  unfold fX12_fault at h
  show G X B 2 _ _ 0 [(0, .ref (x0)), (1, .int (x1))] [] T M
  refine g_aload_n (pc := 0) C dX12_fault_0 rfl 0 rfl ?_
  refine g_iconst (pc := 1) (v := 0) C dX12_fault_1 (by decide) ?_
  replace h := gd_some h; obtain ⟨hk1, h⟩ := h
  refine g_putI (pc := 2) C dX12_fault_2 kX12 hk1 0 (by decide) rfl rfl rfl q_1227 ?_
  refine g_mem (fun M2 eM2 => ?_)
  replace h := lt_at eM2 h
  refine g_iload_n (pc := 5) C dX12_fault_5 rfl 1 rfl ?_
  refine g_if_ne (pc := 6) (tgt := 16) C dX12_fault_6 (by decide) (fun c3 => ?_) (fun c3 => ?_)
  · replace h := ifn c3 h
    refine g_iload_n (pc := 16) C dX12_fault_16 rfl 1 rfl ?_
    refine g_iconst (pc := 17) (v := 1) C dX12_fault_17 (by decide) ?_
    refine g_icmp_ne (pc := 18) (tgt := 28) C dX12_fault_18 (by decide) (fun c4 => ?_) (fun c4 => ?_)
    · replace h := ifn c4 h
      refine g_iconst (pc := 28) (v := (-1)) C dX12_fault_28 (by decide) ?_
      obtain ⟨rfl, rfl⟩ := Prod.mk.inj (Option.some.inj h)
      exact g_iret C hR dX12_fault_29
    · replace h := ifp c4 h
      refine g_aload_n (pc := 21) C dX12_fault_21 rfl 0 rfl ?_
      refine g_get (pc := 22) (v := .int (gI M2 x0 14)) C dX12_fault_22 kX12 hk1 14 (by decide) q_1241 rfl ?_
      refine g_goto (pc := 25) (tgt := 29) C dX12_fault_25 (by decide) ?_
      obtain ⟨rfl, rfl⟩ := Prod.mk.inj (Option.some.inj h)
      exact g_iret C hR dX12_fault_29
  · replace h := ifp c3 h
    refine g_aload_n (pc := 9) C dX12_fault_9 rfl 0 rfl ?_
    refine g_get (pc := 10) (v := .int (gI M2 x0 13)) C dX12_fault_10 kX12 hk1 13 (by decide) q_1240 rfl ?_
    refine g_goto (pc := 13) (tgt := 29) C dX12_fault_13 (by decide) ?_
    obtain ⟨rfl, rfl⟩ := Prod.mk.inj (Option.some.inj h)
    exact g_iret C hR dX12_fault_29
theorem dX12_isLane_0 : decode cX12_isLane 0 = .ok (.lload_n 1, 1) := by decide +kernel
theorem dX12_isLane_1 : decode cX12_isLane 1 = .ok (.lconst 0, 1) := by decide +kernel
theorem dX12_isLane_2 : decode cX12_isLane 2 = .ok (.aload_n 0, 1) := by decide +kernel
theorem dX12_isLane_3 : decode cX12_isLane 3 = .ok (.getfield 13, 3) := by decide +kernel
theorem dX12_isLane_6 : decode cX12_isLane 6 = .ok (.iconst 3, 1) := by decide +kernel
theorem dX12_isLane_7 : decode cX12_isLane 7 = .ok (.iaload, 1) := by decide +kernel
theorem dX12_isLane_8 : decode cX12_isLane 8 = .ok (.iconst 1, 1) := by decide +kernel
theorem dX12_isLane_9 : decode cX12_isLane 9 = .ok (.isub, 1) := by decide +kernel
theorem dX12_isLane_10 : decode cX12_isLane 10 = .ok (.i2l, 1) := by decide +kernel
theorem dX12_isLane_11 : decode cX12_isLane 11 = .ok (.invokestatic 139, 3) := by decide +kernel
theorem dX12_isLane_14 : decode cX12_isLane 14 = .ok (.ireturn, 1) := by decide +kernel
theorem wX12_isLane : Mw yX12_isLane cX12_isLane 3 (some .boolean) 1 := ⟨q_1482, q_130, by decide, ⟨by decide +kernel, by decide +kernel⟩, by decide +kernel, by decide +kernel⟩
/-- EyeTrainerModel.isLane(J)Z -/
def fX12_isLane (T : Sh) (M : Me) (x0 : Nat) (x1 : Int64) : Option (Int32) :=
  gd (kd T x0 = 11) <| Option.bind (gR M x0 1) fun a2 => gd (kd T a2 = 13) <| gv (3 : Int32) (ln T a2) <| Option.bind (fX12_within x1 (0 : Int64) (Int32.toInt64 ((gI M a2 (Int32.toNatClampNeg (3 : Int32))) - (1 : Int32)))) fun r5 => gd (r5 = 0 ∨ r5 = 1) <| some r5
set_option maxHeartbeats 4000000 in
theorem kX12_isLane {l : Launch} {B : Bx} {d : Nat} (hd : 1 ≤ d) {T : Sh} {M : Me} {x0 : Nat} {x1 : Int64} {r : Int32} (h : fX12_isLane T M x0 x1 = some r) : Kt l B yX12_isLane cX12_isLane 3 (some .boolean) d [.ref (x0), .long (x1)] T M (some (.int r)) T M := by
  refine kt_of wX12_isLane (Nat.le_refl _) (Nat.le_refl _) (Nat.le_of_ble_eq_true rfl) (fun X C hR hlx hin => ?_)
  subst hlx
  replace C : Cx X B cX12_isLane 3 RX12 d (tp T, sl T, tp T, sl T) := C
  unfold fX12_isLane at h
  show G X B 3 _ _ 0 [(0, .ref (x0)), (1, .long (x1))] [] T M
  refine g_lload_n (pc := 0) C dX12_isLane_0 rfl 1 rfl ?_
  refine g_lconst (pc := 1) (v := 0) C dX12_isLane_1 rfl ?_
  refine g_aload_n (pc := 2) C dX12_isLane_2 rfl 0 rfl ?_
  replace h := gd_some h; obtain ⟨hk1, h⟩ := h
  refine g_get (pc := 3) (v := va_rf (gR M x0 1)) C dX12_isLane_3 kX12 hk1 1 (by decide) q_1228 rfl ?_
  replace h := bnd h; obtain ⟨a2, ea2, h⟩ := h
  refine g_refq ea2 ?_
  refine g_iconst (pc := 6) (v := 3) C dX12_isLane_6 (by decide) ?_
  replace h := gd_some h; obtain ⟨hk3, h⟩ := h
  replace h := gv_some h; obtain ⟨hi4, h⟩ := h
  refine g_iald (pc := 7) C dX12_isLane_7 hk3 hi4 ?_
  refine g_iconst (pc := 8) (v := 1) C dX12_isLane_8 (by decide) ?_
  refine g_isub (pc := 9) C dX12_isLane_9 ?_
  refine g_i2l (pc := 10) C dX12_isLane_10 ?_
  replace h := bnd h; obtain ⟨r5, h1, h⟩ := h
  refine g_callSi (pc := 11) (As := [.long (x1), .long ((0 : Int64)), .long (Int32.toInt64 ((gI M a2 (Int32.toNatClampNeg (3 : Int32))) - (1 : Int32)))]) (st := []) C dX12_isLane_11 wX12_within q_1367 q_1366 (by omega) rfl (Nat.le_of_ble_eq_true rfl) (kX12_within (d := 0) (Nat.le_refl _) h1) ?_
  replace h := gd_some h; obtain ⟨hb6, h⟩ := h
  obtain rfl := Option.some.inj h
  exact g_zret C hR dX12_isLane_14 (bz_nar hb6)
theorem dX12_isCell_0 : decode cX12_isCell 0 = .ok (.lload_n 0, 1) := by decide +kernel
theorem dX12_isCell_1 : decode cX12_isCell 1 = .ok (.lconst 0, 1) := by decide +kernel
theorem dX12_isCell_2 : decode cX12_isCell 2 = .ok (.ldc2_w 205, 3) := by decide +kernel
theorem dX12_isCell_5 : decode cX12_isCell 5 = .ok (.invokestatic 139, 3) := by decide +kernel
theorem dX12_isCell_8 : decode cX12_isCell 8 = .ok (.ireturn, 1) := by decide +kernel
theorem wX12_isCell : Mw yX12_isCell cX12_isCell 2 (some .boolean) 1 := ⟨q_1531, q_130, by decide, ⟨by decide +kernel, by decide +kernel⟩, by decide +kernel, by decide +kernel⟩
/-- EyeTrainerModel.isCell(J)Z -/
def fX12_isCell (x0 : Int64) : Option (Int32) :=
  Option.bind (fX12_within x0 (0 : Int64) (383 : Int64)) fun r1 => gd (r1 = 0 ∨ r1 = 1) <| some r1
set_option maxHeartbeats 4000000 in
theorem kX12_isCell {l : Launch} {B : Bx} {d : Nat} (hd : 1 ≤ d) {T : Sh} {M : Me} {x0 : Int64} {r : Int32} (h : fX12_isCell  x0 = some r) : Kt l B yX12_isCell cX12_isCell 2 (some .boolean) d [.long (x0)] T M (some (.int r)) T M := by
  refine kt_of wX12_isCell (Nat.le_refl _) (Nat.le_refl _) (Nat.le_of_ble_eq_true rfl) (fun X C hR hlx hin => ?_)
  subst hlx
  replace C : Cx X B cX12_isCell 2 RX12 d (tp T, sl T, tp T, sl T) := C
  unfold fX12_isCell at h
  show G X B 2 _ _ 0 [(0, .long (x0))] [] T M
  refine g_lload_n (pc := 0) C dX12_isCell_0 rfl 0 rfl ?_
  refine g_lconst (pc := 1) (v := 0) C dX12_isCell_1 rfl ?_
  refine g_ldc2 (pc := 2) C dX12_isCell_2 q_1532 ?_
  replace h := bnd h; obtain ⟨r1, h1, h⟩ := h
  refine g_callSi (pc := 5) (As := [.long (x0), .long ((0 : Int64)), .long ((383 : Int64))]) (st := []) C dX12_isCell_5 wX12_within q_1367 q_1366 (by omega) rfl (Nat.le_of_ble_eq_true rfl) (kX12_within (d := 0) (Nat.le_refl _) h1) ?_
  replace h := gd_some h; obtain ⟨hb2, h⟩ := h
  obtain rfl := Option.some.inj h
  exact g_zret C hR dX12_isCell_8 (bz_nar hb2)
theorem dX12_isPattern_0 : decode cX12_isPattern 0 = .ok (.lload_n 1, 1) := by decide +kernel
theorem dX12_isPattern_1 : decode cX12_isPattern 1 = .ok (.lconst 0, 1) := by decide +kernel
theorem dX12_isPattern_2 : decode cX12_isPattern 2 = .ok (.aload_n 0, 1) := by decide +kernel
theorem dX12_isPattern_3 : decode cX12_isPattern 3 = .ok (.getfield 13, 3) := by decide +kernel
theorem dX12_isPattern_6 : decode cX12_isPattern 6 = .ok (.iconst 4, 1) := by decide +kernel
theorem dX12_isPattern_7 : decode cX12_isPattern 7 = .ok (.iaload, 1) := by decide +kernel
theorem dX12_isPattern_8 : decode cX12_isPattern 8 = .ok (.iconst 1, 1) := by decide +kernel
theorem dX12_isPattern_9 : decode cX12_isPattern 9 = .ok (.isub, 1) := by decide +kernel
theorem dX12_isPattern_10 : decode cX12_isPattern 10 = .ok (.i2l, 1) := by decide +kernel
theorem dX12_isPattern_11 : decode cX12_isPattern 11 = .ok (.invokestatic 139, 3) := by decide +kernel
theorem dX12_isPattern_14 : decode cX12_isPattern 14 = .ok (.ireturn, 1) := by decide +kernel
theorem wX12_isPattern : Mw yX12_isPattern cX12_isPattern 3 (some .boolean) 1 := ⟨q_1518, q_130, by decide, ⟨by decide +kernel, by decide +kernel⟩, by decide +kernel, by decide +kernel⟩
/-- EyeTrainerModel.isPattern(J)Z -/
def fX12_isPattern (T : Sh) (M : Me) (x0 : Nat) (x1 : Int64) : Option (Int32) :=
  gd (kd T x0 = 11) <| Option.bind (gR M x0 1) fun a2 => gd (kd T a2 = 13) <| gv (4 : Int32) (ln T a2) <| Option.bind (fX12_within x1 (0 : Int64) (Int32.toInt64 ((gI M a2 (Int32.toNatClampNeg (4 : Int32))) - (1 : Int32)))) fun r5 => gd (r5 = 0 ∨ r5 = 1) <| some r5
set_option maxHeartbeats 4000000 in
theorem kX12_isPattern {l : Launch} {B : Bx} {d : Nat} (hd : 1 ≤ d) {T : Sh} {M : Me} {x0 : Nat} {x1 : Int64} {r : Int32} (h : fX12_isPattern T M x0 x1 = some r) : Kt l B yX12_isPattern cX12_isPattern 3 (some .boolean) d [.ref (x0), .long (x1)] T M (some (.int r)) T M := by
  refine kt_of wX12_isPattern (Nat.le_refl _) (Nat.le_refl _) (Nat.le_of_ble_eq_true rfl) (fun X C hR hlx hin => ?_)
  subst hlx
  replace C : Cx X B cX12_isPattern 3 RX12 d (tp T, sl T, tp T, sl T) := C
  unfold fX12_isPattern at h
  show G X B 3 _ _ 0 [(0, .ref (x0)), (1, .long (x1))] [] T M
  refine g_lload_n (pc := 0) C dX12_isPattern_0 rfl 1 rfl ?_
  refine g_lconst (pc := 1) (v := 0) C dX12_isPattern_1 rfl ?_
  refine g_aload_n (pc := 2) C dX12_isPattern_2 rfl 0 rfl ?_
  replace h := gd_some h; obtain ⟨hk1, h⟩ := h
  refine g_get (pc := 3) (v := va_rf (gR M x0 1)) C dX12_isPattern_3 kX12 hk1 1 (by decide) q_1228 rfl ?_
  replace h := bnd h; obtain ⟨a2, ea2, h⟩ := h
  refine g_refq ea2 ?_
  refine g_iconst (pc := 6) (v := 4) C dX12_isPattern_6 (by decide) ?_
  replace h := gd_some h; obtain ⟨hk3, h⟩ := h
  replace h := gv_some h; obtain ⟨hi4, h⟩ := h
  refine g_iald (pc := 7) C dX12_isPattern_7 hk3 hi4 ?_
  refine g_iconst (pc := 8) (v := 1) C dX12_isPattern_8 (by decide) ?_
  refine g_isub (pc := 9) C dX12_isPattern_9 ?_
  refine g_i2l (pc := 10) C dX12_isPattern_10 ?_
  replace h := bnd h; obtain ⟨r5, h1, h⟩ := h
  refine g_callSi (pc := 11) (As := [.long (x1), .long ((0 : Int64)), .long (Int32.toInt64 ((gI M a2 (Int32.toNatClampNeg (4 : Int32))) - (1 : Int32)))]) (st := []) C dX12_isPattern_11 wX12_within q_1367 q_1366 (by omega) rfl (Nat.le_of_ble_eq_true rfl) (kX12_within (d := 0) (Nat.le_refl _) h1) ?_
  replace h := gd_some h; obtain ⟨hb6, h⟩ := h
  obtain rfl := Option.some.inj h
  exact g_zret C hR dX12_isPattern_14 (bz_nar hb6)
theorem dX12_bitsOf_0 : decode cX12_bitsOf 0 = .ok (.iconst 0, 1) := by decide +kernel
theorem dX12_bitsOf_1 : decode cX12_bitsOf 1 = .ok (.istore_n 1, 1) := by decide +kernel
theorem dX12_bitsOf_2 : decode cX12_bitsOf 2 = .ok (.iconst 0, 1) := by decide +kernel
theorem dX12_bitsOf_3 : decode cX12_bitsOf 3 = .ok (.istore_n 2, 1) := by decide +kernel
theorem dX12_bitsOf_4 : decode cX12_bitsOf 4 = .ok (.iload_n 2, 1) := by decide +kernel
theorem dX12_bitsOf_5 : decode cX12_bitsOf 5 = .ok (.bipush 24, 2) := by decide +kernel
theorem dX12_bitsOf_7 : decode cX12_bitsOf 7 = .ok (.if_icmp .ge 17, 3) := by decide +kernel
theorem dX12_bitsOf_10 : decode cX12_bitsOf 10 = .ok (.iload_n 1, 1) := by decide +kernel
theorem dX12_bitsOf_11 : decode cX12_bitsOf 11 = .ok (.iload_n 0, 1) := by decide +kernel
theorem dX12_bitsOf_12 : decode cX12_bitsOf 12 = .ok (.iload_n 2, 1) := by decide +kernel
theorem dX12_bitsOf_13 : decode cX12_bitsOf 13 = .ok (.ishr, 1) := by decide +kernel
theorem dX12_bitsOf_14 : decode cX12_bitsOf 14 = .ok (.iconst 1, 1) := by decide +kernel
theorem dX12_bitsOf_15 : decode cX12_bitsOf 15 = .ok (.iand, 1) := by decide +kernel
theorem dX12_bitsOf_16 : decode cX12_bitsOf 16 = .ok (.iadd, 1) := by decide +kernel
theorem dX12_bitsOf_17 : decode cX12_bitsOf 17 = .ok (.istore_n 1, 1) := by decide +kernel
theorem dX12_bitsOf_18 : decode cX12_bitsOf 18 = .ok (.iinc 2 1, 3) := by decide +kernel
theorem dX12_bitsOf_21 : decode cX12_bitsOf 21 = .ok (.goto (-17), 3) := by decide +kernel
theorem dX12_bitsOf_24 : decode cX12_bitsOf 24 = .ok (.iload_n 1, 1) := by decide +kernel
theorem dX12_bitsOf_25 : decode cX12_bitsOf 25 = .ok (.ireturn, 1) := by decide +kernel
theorem wX12_bitsOf : Mw yX12_bitsOf cX12_bitsOf 3 (some .int) 1 := ⟨q_1592, q_130, by decide, ⟨by decide +kernel, by decide +kernel⟩, by decide +kernel, by decide +kernel⟩
-- a loop of EyeTrainerModel.bitsOf at 4
def bX12_bitsOf_4 (x0 : Int32) (x1 : Int32) (x2 : Int32) : Option ((Int32 × Int32) ⊕ (Int32)) :=
  if (24 : Int32) ≤ x2 then (some (.inr x1)) else (lt (x1 + ((x0 >>> (x2 &&& 31)) &&& (1 : Int32))) fun v2 => lt (x2 + (1 : Int32)) fun v3 => some (.inl (v2, v3)))
def PX12_bitsOf_4 (X : Fx) (B : Bx) (Z : Nat × Nat × Nat × Nat) (Q : State → Prop) (T : Sh) (M : Me) (x0 : Int32) (s : Int32 × Int32) : Prop := G X B 3 Z Q 4 [(0, .int (x0)), (1, .int (s.1)), (2, .int (s.2))] [] T M
def EX12_bitsOf_4 (X : Fx) (B : Bx) (Z : Nat × Nat × Nat × Nat) (Q : State → Prop) (T : Sh) (M : Me) (x0 : Int32) (r : Int32) : Prop := G X B 3 Z Q 24 [(1, .int (r))] [] T M
set_option maxHeartbeats 4000000 in
theorem tbX12_bitsOf_4 {X : Fx} {B : Bx} {Z : Nat × Nat × Nat × Nat} {Q : State → Prop} {d : Nat} {T : Sh} {M : Me} (C : Cx X B cX12_bitsOf 3 RX12 d Z) (hd : 0 ≤ d) {x0 : Int32} : ∀ (s : Int32 × Int32) (o : (Int32 × Int32) ⊕ (Int32)), bX12_bitsOf_4 x0 s.1 s.2 = some o → lpE (PX12_bitsOf_4 X B Z Q T M x0) (EX12_bitsOf_4 X B Z Q T M x0) o → PX12_bitsOf_4 X B Z Q T M x0 s := by
  rintro ⟨x1, x2⟩ o h hE
  replace h : bX12_bitsOf_4 x0 x1 x2 = some o := h
  unfold bX12_bitsOf_4 at h
  show G X B 3 Z Q 4 [(0, .int (x0)), (1, .int (x1)), (2, .int (x2))] [] T M
  refine g_iload_n (pc := 4) C dX12_bitsOf_4 rfl 2 rfl ?_
  refine g_bipush (pc := 5) (v := 24) C dX12_bitsOf_5 (by decide) ?_
  refine g_icmp_ge (pc := 7) (tgt := 24) C dX12_bitsOf_7 (by decide) (fun c1 => ?_) (fun c1 => ?_)
  · replace h := ifp c1 h
    obtain rfl := Option.some.inj h
    exact g_sub [1] rfl (show G X B 3 Z Q 24 [(1, .int (x1))] [] T M from hE)
  · replace h := ifn c1 h
    refine g_iload_n (pc := 10) C dX12_bitsOf_10 rfl 1 rfl ?_
    refine g_iload_n (pc := 11) C dX12_bitsOf_11 rfl 0 rfl ?_
    refine g_iload_n (pc := 12) C dX12_bitsOf_12 rfl 2 rfl ?_
    refine g_ishr (pc := 13) C dX12_bitsOf_13 ?_
    refine g_iconst (pc := 14) (v := 1) C dX12_bitsOf_14 (by decide) ?_
    refine g_iand (pc := 15) C dX12_bitsOf_15 ?_
    refine g_iadd (pc := 16) C dX12_bitsOf_16 ?_
    refine g_topi (fun v2 ev2 => ?_)
    replace h := lt_at ev2 h
    refine g_istore_n (pc := 17) (lo2 := [(1, .int (v2)), (0, .int (x0)), (2, .int (x2))]) C dX12_bitsOf_17 rfl (by decide) rfl ?_
    obtain ⟨v3, ev3⟩ : ∃ y : Int32, y = x2 + (1 : Int32) := ⟨_, rfl⟩
    replace h := lt_at ev3 h
    refine g_iinc (pc := 18) (v := v3) (k := 2) (lo2 := [(2, .int (v3)), (1, .int (v2)), (0, .int (x0))]) C dX12_bitsOf_18 rfl (by rw [ev3]; rfl) (by decide) rfl ?_
    refine g_goto (pc := 21) (tgt := 4) C dX12_bitsOf_21 (by decide) ?_
    obtain rfl := Option.some.inj h
    exact g_sub [2, 1, 0] rfl (show G X B 3 Z Q 4 [(0, .int (x0)), (1, .int (v2)), (2, .int (v3))] [] T M from hE)
/-- EyeTrainerModel.bitsOf(I)I -/
def fX12_bitsOf (x0 : Int32) : Option (Int32) :=
  (lp FU (fun s => bX12_bitsOf_4 x0 s.1 s.2) ((0 : Int32), (0 : Int32))).bind (fun x1_4 => some x1_4)
set_option maxHeartbeats 4000000 in
theorem kX12_bitsOf {l : Launch} {B : Bx} {d : Nat} (hd : 0 ≤ d) {T : Sh} {M : Me} {x0 : Int32} {r : Int32} (h : fX12_bitsOf  x0 = some r) : Kt l B yX12_bitsOf cX12_bitsOf 3 (some .int) d [.int (x0)] T M (some (.int r)) T M := by
  refine kt_of wX12_bitsOf (Nat.le_refl _) (Nat.le_refl _) (Nat.le_of_ble_eq_true rfl) (fun X C hR hlx hin => ?_)
  subst hlx
  replace C : Cx X B cX12_bitsOf 3 RX12 d (tp T, sl T, tp T, sl T) := C
  unfold fX12_bitsOf at h
  show G X B 3 _ _ 0 [(0, .int (x0))] [] T M
  refine g_iconst (pc := 0) (v := 0) C dX12_bitsOf_0 (by decide) ?_
  refine g_istore_n (pc := 1) (lo2 := [(1, .int ((0 : Int32))), (0, .int (x0))]) C dX12_bitsOf_1 rfl (by decide) rfl ?_
  refine g_iconst (pc := 2) (v := 0) C dX12_bitsOf_2 (by decide) ?_
  refine g_istore_n (pc := 3) (lo2 := [(2, .int ((0 : Int32))), (1, .int ((0 : Int32))), (0, .int (x0))]) C dX12_bitsOf_3 rfl (by decide) rfl ?_
  replace h := bnd h; obtain ⟨x1_4, h1, h⟩ := h
  refine g_sub [2, 1, 0] rfl ?_
  refine lp_G2 (P := PX12_bitsOf_4 X B _ _ T M x0) (E := EX12_bitsOf_4 X B _ _ T M x0) (tbX12_bitsOf_4 C hd) h1 ?_
  show G X B 3 _ _ 24 [(1, .int (x1_4))] [] T M
  refine g_iload_n (pc := 24) C dX12_bitsOf_24 rfl 0 rfl ?_
  obtain rfl := Option.some.inj h
  exact g_iret C hR dX12_bitsOf_25
theorem dX12_plainOf_0 : decode cX12_plainOf 0 = .ok (.iload_n 0, 1) := by decide +kernel
theorem dX12_plainOf_1 : decode cX12_plainOf 1 = .ok (.ifCond .ge 8, 3) := by decide +kernel
theorem dX12_plainOf_4 : decode cX12_plainOf 4 = .ok (.iload_n 0, 1) := by decide +kernel
theorem dX12_plainOf_5 : decode cX12_plainOf 5 = .ok (.ineg, 1) := by decide +kernel
theorem dX12_plainOf_6 : decode cX12_plainOf 6 = .ok (.goto 4, 3) := by decide +kernel
theorem dX12_plainOf_9 : decode cX12_plainOf 9 = .ok (.iload_n 0, 1) := by decide +kernel
theorem dX12_plainOf_10 : decode cX12_plainOf 10 = .ok (.ireturn, 1) := by decide +kernel
theorem wX12_plainOf : Mw yX12_plainOf cX12_plainOf 1 (some .int) 1 := ⟨q_1510, q_130, by decide, ⟨by decide +kernel, by decide +kernel⟩, by decide +kernel, by decide +kernel⟩
/-- EyeTrainerModel.plainOf(I)I -/
def fX12_plainOf (x0 : Int32) : Option (Int32) :=
  if 0 ≤ x0 then (some x0) else (some (-x0))
set_option maxHeartbeats 4000000 in
theorem kX12_plainOf {l : Launch} {B : Bx} {d : Nat} (hd : 0 ≤ d) {T : Sh} {M : Me} {x0 : Int32} {r : Int32} (h : fX12_plainOf  x0 = some r) : Kt l B yX12_plainOf cX12_plainOf 1 (some .int) d [.int (x0)] T M (some (.int r)) T M := by
  refine kt_of wX12_plainOf (Nat.le_refl _) (Nat.le_refl _) (Nat.le_of_ble_eq_true rfl) (fun X C hR hlx hin => ?_)
  subst hlx
  replace C : Cx X B cX12_plainOf 1 RX12 d (tp T, sl T, tp T, sl T) := C
  unfold fX12_plainOf at h
  show G X B 1 _ _ 0 [(0, .int (x0))] [] T M
  refine g_iload_n (pc := 0) C dX12_plainOf_0 rfl 0 rfl ?_
  refine g_if_ge (pc := 1) (tgt := 9) C dX12_plainOf_1 (by decide) (fun c1 => ?_) (fun c1 => ?_)
  · replace h := ifp c1 h
    refine g_iload_n (pc := 9) C dX12_plainOf_9 rfl 0 rfl ?_
    obtain rfl := Option.some.inj h
    exact g_iret C hR dX12_plainOf_10
  · replace h := ifn c1 h
    refine g_iload_n (pc := 4) C dX12_plainOf_4 rfl 0 rfl ?_
    refine g_ineg (pc := 5) C dX12_plainOf_5 ?_
    refine g_goto (pc := 6) (tgt := 10) C dX12_plainOf_6 (by decide) ?_
    obtain rfl := Option.some.inj h
    exact g_iret C hR dX12_plainOf_10
theorem dX12_between_0 : decode cX12_between 0 = .ok (.iload_n 0, 1) := by decide +kernel
theorem dX12_between_1 : decode cX12_between 1 = .ok (.tableswitch 80 3003 3008 #[39, 50, 61, 80, 72, 76], 39) := by decide +kernel
theorem dX12_between_40 : decode cX12_between 40 = .ok (.iload_n 1, 1) := by decide +kernel
theorem dX12_between_41 : decode cX12_between 41 = .ok (.iload_n 2, 1) := by decide +kernel
theorem dX12_between_42 : decode cX12_between 42 = .ok (.if_icmp .ne 7, 3) := by decide +kernel
theorem dX12_between_45 : decode cX12_between 45 = .ok (.iconst 1, 1) := by decide +kernel
theorem dX12_between_46 : decode cX12_between 46 = .ok (.goto 4, 3) := by decide +kernel
theorem dX12_between_49 : decode cX12_between 49 = .ok (.iconst 0, 1) := by decide +kernel
theorem dX12_between_50 : decode cX12_between 50 = .ok (.ireturn, 1) := by decide +kernel
theorem dX12_between_51 : decode cX12_between 51 = .ok (.iload_n 1, 1) := by decide +kernel
theorem dX12_between_52 : decode cX12_between 52 = .ok (.iload_n 2, 1) := by decide +kernel
theorem dX12_between_53 : decode cX12_between 53 = .ok (.if_icmp .ge 7, 3) := by decide +kernel
theorem dX12_between_56 : decode cX12_between 56 = .ok (.iconst 1, 1) := by decide +kernel
theorem dX12_between_57 : decode cX12_between 57 = .ok (.goto 4, 3) := by decide +kernel
theorem dX12_between_60 : decode cX12_between 60 = .ok (.iconst 0, 1) := by decide +kernel
theorem dX12_between_61 : decode cX12_between 61 = .ok (.ireturn, 1) := by decide +kernel
theorem dX12_between_62 : decode cX12_between 62 = .ok (.iload_n 1, 1) := by decide +kernel
theorem dX12_between_63 : decode cX12_between 63 = .ok (.iload_n 2, 1) := by decide +kernel
theorem dX12_between_64 : decode cX12_between 64 = .ok (.if_icmp .le 7, 3) := by decide +kernel
theorem dX12_between_67 : decode cX12_between 67 = .ok (.iconst 1, 1) := by decide +kernel
theorem dX12_between_68 : decode cX12_between 68 = .ok (.goto 4, 3) := by decide +kernel
theorem dX12_between_71 : decode cX12_between 71 = .ok (.iconst 0, 1) := by decide +kernel
theorem dX12_between_72 : decode cX12_between 72 = .ok (.ireturn, 1) := by decide +kernel
theorem dX12_between_73 : decode cX12_between 73 = .ok (.iload_n 1, 1) := by decide +kernel
theorem dX12_between_74 : decode cX12_between 74 = .ok (.iload_n 2, 1) := by decide +kernel
theorem dX12_between_75 : decode cX12_between 75 = .ok (.iand, 1) := by decide +kernel
theorem dX12_between_76 : decode cX12_between 76 = .ok (.ireturn, 1) := by decide +kernel
theorem dX12_between_77 : decode cX12_between 77 = .ok (.iload_n 1, 1) := by decide +kernel
theorem dX12_between_78 : decode cX12_between 78 = .ok (.iload_n 2, 1) := by decide +kernel
theorem dX12_between_79 : decode cX12_between 79 = .ok (.ior, 1) := by decide +kernel
theorem dX12_between_80 : decode cX12_between 80 = .ok (.ireturn, 1) := by decide +kernel
theorem dX12_between_81 : decode cX12_between 81 = .ok (.iload_n 0, 1) := by decide +kernel
theorem dX12_between_82 : decode cX12_between 82 = .ok (.sipush 3000, 3) := by decide +kernel
theorem dX12_between_85 : decode cX12_between 85 = .ok (.if_icmp .ne 11, 3) := by decide +kernel
theorem dX12_between_88 : decode cX12_between 88 = .ok (.iload_n 1, 1) := by decide +kernel
theorem dX12_between_89 : decode cX12_between 89 = .ok (.i2l, 1) := by decide +kernel
theorem dX12_between_90 : decode cX12_between 90 = .ok (.iload_n 2, 1) := by decide +kernel
theorem dX12_between_91 : decode cX12_between 91 = .ok (.i2l, 1) := by decide +kernel
theorem dX12_between_92 : decode cX12_between 92 = .ok (.ladd, 1) := by decide +kernel
theorem dX12_between_93 : decode cX12_between 93 = .ok (.goto 23, 3) := by decide +kernel
theorem dX12_between_96 : decode cX12_between 96 = .ok (.iload_n 0, 1) := by decide +kernel
theorem dX12_between_97 : decode cX12_between 97 = .ok (.sipush 3001, 3) := by decide +kernel
theorem dX12_between_100 : decode cX12_between 100 = .ok (.if_icmp .ne 11, 3) := by decide +kernel
theorem dX12_between_103 : decode cX12_between 103 = .ok (.iload_n 1, 1) := by decide +kernel
theorem dX12_between_104 : decode cX12_between 104 = .ok (.i2l, 1) := by decide +kernel
theorem dX12_between_105 : decode cX12_between 105 = .ok (.iload_n 2, 1) := by decide +kernel
theorem dX12_between_106 : decode cX12_between 106 = .ok (.i2l, 1) := by decide +kernel
theorem dX12_between_107 : decode cX12_between 107 = .ok (.lsub, 1) := by decide +kernel
theorem dX12_between_108 : decode cX12_between 108 = .ok (.goto 8, 3) := by decide +kernel
theorem dX12_between_111 : decode cX12_between 111 = .ok (.iload_n 1, 1) := by decide +kernel
theorem dX12_between_112 : decode cX12_between 112 = .ok (.i2l, 1) := by decide +kernel
theorem dX12_between_113 : decode cX12_between 113 = .ok (.iload_n 2, 1) := by decide +kernel
theorem dX12_between_114 : decode cX12_between 114 = .ok (.i2l, 1) := by decide +kernel
theorem dX12_between_115 : decode cX12_between 115 = .ok (.lmul, 1) := by decide +kernel
theorem dX12_between_116 : decode cX12_between 116 = .ok (.lstore_n 3, 1) := by decide +kernel
theorem dX12_between_117 : decode cX12_between 117 = .ok (.lload_n 3, 1) := by decide +kernel
theorem dX12_between_118 : decode cX12_between 118 = .ok (.ldc2_w 207, 3) := by decide +kernel
theorem dX12_between_121 : decode cX12_between 121 = .ok (.lcmp, 1) := by decide +kernel
theorem dX12_between_122 : decode cX12_between 122 = .ok (.ifCond .le 9, 3) := by decide +kernel
theorem dX12_between_125 : decode cX12_between 125 = .ok (.ldc2_w 207, 3) := by decide +kernel
theorem dX12_between_128 : decode cX12_between 128 = .ok (.goto 18, 3) := by decide +kernel
theorem dX12_between_131 : decode cX12_between 131 = .ok (.lload_n 3, 1) := by decide +kernel
theorem dX12_between_132 : decode cX12_between 132 = .ok (.ldc2_w 209, 3) := by decide +kernel
theorem dX12_between_135 : decode cX12_between 135 = .ok (.lcmp, 1) := by decide +kernel
theorem dX12_between_136 : decode cX12_between 136 = .ok (.ifCond .ge 9, 3) := by decide +kernel
theorem dX12_between_139 : decode cX12_between 139 = .ok (.ldc2_w 209, 3) := by decide +kernel
theorem dX12_between_142 : decode cX12_between 142 = .ok (.goto 4, 3) := by decide +kernel
theorem dX12_between_145 : decode cX12_between 145 = .ok (.lload_n 3, 1) := by decide +kernel
theorem dX12_between_146 : decode cX12_between 146 = .ok (.l2i, 1) := by decide +kernel
theorem dX12_between_147 : decode cX12_between 147 = .ok (.ireturn, 1) := by decide +kernel
theorem wX12_between : Mw yX12_between cX12_between 5 (some .int) 3 := ⟨q_1497, q_130, by decide, ⟨by decide +kernel, by decide +kernel⟩, by decide +kernel, by decide +kernel⟩
def jX12_between_116 (s0 : Int64) : Option (Int32) :=
  if (lg_cmp s0 (1000000 : Int64)) ≤ 0 then (if 0 ≤ (lg_cmp s0 (-1000000 : Int64)) then (some (Int64.toInt32 s0)) else (some (Int64.toInt32 (-1000000 : Int64)))) else (some (Int64.toInt32 (1000000 : Int64)))
set_option maxHeartbeats 4000000 in
theorem tjX12_between_116 {X : Fx} {B : Bx} {Z : Nat × Nat × Nat × Nat} {d : Nat} {T : Sh} {M : Me} {s0 : Int64} {r : Int32} (C : Cx X B cX12_between 5 RX12 d Z) (hR : Rx X (some .int)) (hd : 0 ≤ d) (h : jX12_between_116  s0 = some r) : G X B 5 Z (Qf X B Z (some (.int r)) T M) 116 [] [.long (s0)] T M := by
  unfold jX12_between_116 at h
  refine g_lstore_n (pc := 116) (lo2 := [(3, .long (s0))]) C dX12_between_116 rfl (by decide) rfl ?_
  refine g_lload_n (pc := 117) C dX12_between_117 rfl 0 rfl ?_
  refine g_ldc2 (pc := 118) C dX12_between_118 q_1498 ?_
  refine g_lcmp (pc := 121) C dX12_between_121 ?_
  refine g_if_le (pc := 122) (tgt := 131) C dX12_between_122 (by decide) (fun c6 => ?_) (fun c6 => ?_)
  · replace h := ifp c6 h
    refine g_lload_n (pc := 131) C dX12_between_131 rfl 0 rfl ?_
    refine g_ldc2 (pc := 132) C dX12_between_132 q_1499 ?_
    refine g_lcmp (pc := 135) C dX12_between_135 ?_
    refine g_if_ge (pc := 136) (tgt := 145) C dX12_between_136 (by decide) (fun c7 => ?_) (fun c7 => ?_)
    · replace h := ifp c7 h
      refine g_lload_n (pc := 145) C dX12_between_145 rfl 0 rfl ?_
      refine g_l2i (pc := 146) C dX12_between_146 ?_
      obtain rfl := Option.some.inj h
      exact g_iret C hR dX12_between_147
    · replace h := ifn c7 h
      refine g_ldc2 (pc := 139) C dX12_between_139 q_1499 ?_
      refine g_goto (pc := 142) (tgt := 146) C dX12_between_142 (by decide) ?_
      refine g_l2i (pc := 146) C dX12_between_146 ?_
      obtain rfl := Option.some.inj h
      exact g_iret C hR dX12_between_147
  · replace h := ifn c6 h
    refine g_ldc2 (pc := 125) C dX12_between_125 q_1498 ?_
    refine g_goto (pc := 128) (tgt := 146) C dX12_between_128 (by decide) ?_
    refine g_l2i (pc := 146) C dX12_between_146 ?_
    obtain rfl := Option.some.inj h
    exact g_iret C hR dX12_between_147
def jX12_between_81 (x0 : Int32) (x1 : Int32) (x2 : Int32) : Option (Int32) :=
  if x0 = (3000 : Int32) then (jX12_between_116 ((Int32.toInt64 x1) + (Int32.toInt64 x2))) else (if x0 = (3001 : Int32) then (jX12_between_116 ((Int32.toInt64 x1) - (Int32.toInt64 x2))) else (jX12_between_116 ((Int32.toInt64 x1) * (Int32.toInt64 x2))))
set_option maxHeartbeats 4000000 in
theorem tjX12_between_81 {X : Fx} {B : Bx} {Z : Nat × Nat × Nat × Nat} {d : Nat} {T : Sh} {M : Me} {x0 : Int32} {x1 : Int32} {x2 : Int32} {r : Int32} (C : Cx X B cX12_between 5 RX12 d Z) (hR : Rx X (some .int)) (hd : 0 ≤ d) (h : jX12_between_81  x0 x1 x2 = some r) : G X B 5 Z (Qf X B Z (some (.int r)) T M) 81 [(0, .int (x0)), (1, .int (x1)), (2, .int (x2))] [] T M := by
  unfold jX12_between_81 at h
  refine g_iload_n (pc := 81) C dX12_between_81 rfl 0 rfl ?_
  refine g_sipush (pc := 82) (v := 3000) C dX12_between_82 (by decide) ?_
  refine g_icmp_ne (pc := 85) (tgt := 96) C dX12_between_85 (by decide) (fun c4 => ?_) (fun c4 => ?_)
  · replace h := ifn c4 h
    refine g_iload_n (pc := 96) C dX12_between_96 rfl 0 rfl ?_
    refine g_sipush (pc := 97) (v := 3001) C dX12_between_97 (by decide) ?_
    refine g_icmp_ne (pc := 100) (tgt := 111) C dX12_between_100 (by decide) (fun c5 => ?_) (fun c5 => ?_)
    · replace h := ifn c5 h
      refine g_iload_n (pc := 111) C dX12_between_111 rfl 1 rfl ?_
      refine g_i2l (pc := 112) C dX12_between_112 ?_
      refine g_iload_n (pc := 113) C dX12_between_113 rfl 2 rfl ?_
      refine g_i2l (pc := 114) C dX12_between_114 ?_
      refine g_lmul (pc := 115) C dX12_between_115 ?_
      exact g_sub [] rfl (tjX12_between_116 C hR hd h)
    · replace h := ifp c5 h
      refine g_iload_n (pc := 103) C dX12_between_103 rfl 1 rfl ?_
      refine g_i2l (pc := 104) C dX12_between_104 ?_
      refine g_iload_n (pc := 105) C dX12_between_105 rfl 2 rfl ?_
      refine g_i2l (pc := 106) C dX12_between_106 ?_
      refine g_lsub (pc := 107) C dX12_between_107 ?_
      refine g_goto (pc := 108) (tgt := 116) C dX12_between_108 (by decide) ?_
      exact g_sub [] rfl (tjX12_between_116 C hR hd h)
  · replace h := ifp c4 h
    refine g_iload_n (pc := 88) C dX12_between_88 rfl 1 rfl ?_
    refine g_i2l (pc := 89) C dX12_between_89 ?_
    refine g_iload_n (pc := 90) C dX12_between_90 rfl 2 rfl ?_
    refine g_i2l (pc := 91) C dX12_between_91 ?_
    refine g_ladd (pc := 92) C dX12_between_92 ?_
    refine g_goto (pc := 93) (tgt := 116) C dX12_between_93 (by decide) ?_
    exact g_sub [] rfl (tjX12_between_116 C hR hd h)
/-- EyeTrainerModel.between(III)I -/
def fX12_between (x0 : Int32) (x1 : Int32) (x2 : Int32) : Option (Int32) :=
  if x0 = (3003 : Int32) then (if x1 = x2 then (some (1 : Int32)) else (some (0 : Int32))) else (if x0 = (3004 : Int32) then (if x2 ≤ x1 then (some (0 : Int32)) else (some (1 : Int32))) else (if x0 = (3005 : Int32) then (if x1 ≤ x2 then (some (0 : Int32)) else (some (1 : Int32))) else (if x0 = (3007 : Int32) then (some (x1 &&& x2)) else (if x0 = (3008 : Int32) then (some (x1 ||| x2)) else (jX12_between_81 x0 x1 x2)))))
set_option maxHeartbeats 4000000 in
theorem kX12_between {l : Launch} {B : Bx} {d : Nat} (hd : 0 ≤ d) {T : Sh} {M : Me} {x0 : Int32} {x1 : Int32} {x2 : Int32} {r : Int32} (h : fX12_between  x0 x1 x2 = some r) : Kt l B yX12_between cX12_between 5 (some .int) d [.int (x0), .int (x1), .int (x2)] T M (some (.int r)) T M := by
  refine kt_of wX12_between (Nat.le_refl _) (Nat.le_refl _) (Nat.le_of_ble_eq_true rfl) (fun X C hR hlx hin => ?_)
  subst hlx
  replace C : Cx X B cX12_between 5 RX12 d (tp T, sl T, tp T, sl T) := C
  unfold fX12_between at h
  show G X B 5 _ _ 0 [(0, .int (x0)), (1, .int (x1)), (2, .int (x2))] [] T M
  refine g_iload_n (pc := 0) C dX12_between_0 rfl 0 rfl ?_
  by_cases cw8_0 : x0 = (3003 : Int32)
  · replace h := ifp cw8_0 h
    have hq : x0.toInt = 3003 := by rw [cw8_0]; rfl
    refine g_tswIn (off := 39) (tgt := 40) C dX12_between_1 (by rw [hq]; decide) (by rw [hq]; decide) (by rw [hq]; rfl) (by decide) ?_
    refine g_iload_n (pc := 40) C dX12_between_40 rfl 1 rfl ?_
    refine g_iload_n (pc := 41) C dX12_between_41 rfl 2 rfl ?_
    refine g_icmp_ne (pc := 42) (tgt := 49) C dX12_between_42 (by decide) (fun c1 => ?_) (fun c1 => ?_)
    · replace h := ifn c1 h
      refine g_iconst (pc := 49) (v := 0) C dX12_between_49 (by decide) ?_
      obtain rfl := Option.some.inj h
      exact g_iret C hR dX12_between_50
    · replace h := ifp c1 h
      refine g_iconst (pc := 45) (v := 1) C dX12_between_45 (by decide) ?_
      refine g_goto (pc := 46) (tgt := 50) C dX12_between_46 (by decide) ?_
      obtain rfl := Option.some.inj h
      exact g_iret C hR dX12_between_50
  · replace h := ifn cw8_0 h
    by_cases cw8_1 : x0 = (3004 : Int32)
    · replace h := ifp cw8_1 h
      have hq : x0.toInt = 3004 := by rw [cw8_1]; rfl
      refine g_tswIn (off := 50) (tgt := 51) C dX12_between_1 (by rw [hq]; decide) (by rw [hq]; decide) (by rw [hq]; rfl) (by decide) ?_
      refine g_iload_n (pc := 51) C dX12_between_51 rfl 1 rfl ?_
      refine g_iload_n (pc := 52) C dX12_between_52 rfl 2 rfl ?_
      refine g_icmp_ge (pc := 53) (tgt := 60) C dX12_between_53 (by decide) (fun c2 => ?_) (fun c2 => ?_)
      · replace h := ifp c2 h
        refine g_iconst (pc := 60) (v := 0) C dX12_between_60 (by decide) ?_
        obtain rfl := Option.some.inj h
        exact g_iret C hR dX12_between_61
      · replace h := ifn c2 h
        refine g_iconst (pc := 56) (v := 1) C dX12_between_56 (by decide) ?_
        refine g_goto (pc := 57) (tgt := 61) C dX12_between_57 (by decide) ?_
        obtain rfl := Option.some.inj h
        exact g_iret C hR dX12_between_61
    · replace h := ifn cw8_1 h
      by_cases cw8_2 : x0 = (3005 : Int32)
      · replace h := ifp cw8_2 h
        have hq : x0.toInt = 3005 := by rw [cw8_2]; rfl
        refine g_tswIn (off := 61) (tgt := 62) C dX12_between_1 (by rw [hq]; decide) (by rw [hq]; decide) (by rw [hq]; rfl) (by decide) ?_
        refine g_iload_n (pc := 62) C dX12_between_62 rfl 1 rfl ?_
        refine g_iload_n (pc := 63) C dX12_between_63 rfl 2 rfl ?_
        refine g_icmp_le (pc := 64) (tgt := 71) C dX12_between_64 (by decide) (fun c3 => ?_) (fun c3 => ?_)
        · replace h := ifp c3 h
          refine g_iconst (pc := 71) (v := 0) C dX12_between_71 (by decide) ?_
          obtain rfl := Option.some.inj h
          exact g_iret C hR dX12_between_72
        · replace h := ifn c3 h
          refine g_iconst (pc := 67) (v := 1) C dX12_between_67 (by decide) ?_
          refine g_goto (pc := 68) (tgt := 72) C dX12_between_68 (by decide) ?_
          obtain rfl := Option.some.inj h
          exact g_iret C hR dX12_between_72
      · replace h := ifn cw8_2 h
        by_cases cw8_3 : x0 = (3007 : Int32)
        · replace h := ifp cw8_3 h
          have hq : x0.toInt = 3007 := by rw [cw8_3]; rfl
          refine g_tswIn (off := 72) (tgt := 73) C dX12_between_1 (by rw [hq]; decide) (by rw [hq]; decide) (by rw [hq]; rfl) (by decide) ?_
          refine g_iload_n (pc := 73) C dX12_between_73 rfl 1 rfl ?_
          refine g_iload_n (pc := 74) C dX12_between_74 rfl 2 rfl ?_
          refine g_iand (pc := 75) C dX12_between_75 ?_
          obtain rfl := Option.some.inj h
          exact g_iret C hR dX12_between_76
        · replace h := ifn cw8_3 h
          by_cases cw8_4 : x0 = (3008 : Int32)
          · replace h := ifp cw8_4 h
            have hq : x0.toInt = 3008 := by rw [cw8_4]; rfl
            refine g_tswIn (off := 76) (tgt := 77) C dX12_between_1 (by rw [hq]; decide) (by rw [hq]; decide) (by rw [hq]; rfl) (by decide) ?_
            refine g_iload_n (pc := 77) C dX12_between_77 rfl 1 rfl ?_
            refine g_iload_n (pc := 78) C dX12_between_78 rfl 2 rfl ?_
            refine g_ior (pc := 79) C dX12_between_79 ?_
            obtain rfl := Option.some.inj h
            exact g_iret C hR dX12_between_80
          · replace h := ifn cw8_4 h
            by_cases hs : x0.toInt < 3003 ∨ 3008 < x0.toInt
            · refine g_tswOut (tgt := 81) C dX12_between_1 hs (by decide) ?_
              exact g_sub [0, 1, 2] rfl (tjX12_between_81 C hR hd h)
            · have hq : x0.toInt = 3006 := by
                have := sw_ne cw8_0 (i := 3003) rfl
                have := sw_ne cw8_1 (i := 3004) rfl
                have := sw_ne cw8_2 (i := 3005) rfl
                have := sw_ne cw8_3 (i := 3007) rfl
                have := sw_ne cw8_4 (i := 3008) rfl
                omega
              rcases hq with hq
              · refine g_tswIn (off := 80) (tgt := 81) C dX12_between_1 (by rw [hq]; decide) (by rw [hq]; decide) (by rw [hq]; rfl) (by decide) ?_
                exact g_sub [0, 1, 2] rfl (tjX12_between_81 C hR hd h)
theorem dX12_reckons_0 : decode cX12_reckons 0 = .ok (.iconst 0, 1) := by decide +kernel
theorem dX12_reckons_1 : decode cX12_reckons 1 = .ok (.istore_n 2, 1) := by decide +kernel
theorem dX12_reckons_2 : decode cX12_reckons 2 = .ok (.iconst 0, 1) := by decide +kernel
theorem dX12_reckons_3 : decode cX12_reckons 3 = .ok (.istore_n 3, 1) := by decide +kernel
theorem dX12_reckons_4 : decode cX12_reckons 4 = .ok (.iload_n 3, 1) := by decide +kernel
theorem dX12_reckons_5 : decode cX12_reckons 5 = .ok (.aload_n 0, 1) := by decide +kernel
theorem dX12_reckons_6 : decode cX12_reckons 6 = .ok (.getfield 13, 3) := by decide +kernel
theorem dX12_reckons_9 : decode cX12_reckons 9 = .ok (.bipush 11, 2) := by decide +kernel
theorem dX12_reckons_11 : decode cX12_reckons 11 = .ok (.iload_n 1, 1) := by decide +kernel
theorem dX12_reckons_12 : decode cX12_reckons 12 = .ok (.iadd, 1) := by decide +kernel
theorem dX12_reckons_13 : decode cX12_reckons 13 = .ok (.iaload, 1) := by decide +kernel
theorem dX12_reckons_14 : decode cX12_reckons 14 = .ok (.if_icmp .ge 185, 3) := by decide +kernel
theorem dX12_reckons_17 : decode cX12_reckons 17 = .ok (.aload_n 0, 1) := by decide +kernel
theorem dX12_reckons_18 : decode cX12_reckons 18 = .ok (.getfield 13, 3) := by decide +kernel
theorem dX12_reckons_21 : decode cX12_reckons 21 = .ok (.sipush 132, 3) := by decide +kernel
theorem dX12_reckons_24 : decode cX12_reckons 24 = .ok (.aload_n 0, 1) := by decide +kernel
theorem dX12_reckons_25 : decode cX12_reckons 25 = .ok (.getfield 13, 3) := by decide +kernel
theorem dX12_reckons_28 : decode cX12_reckons 28 = .ok (.bipush 8, 2) := by decide +kernel
theorem dX12_reckons_30 : decode cX12_reckons 30 = .ok (.iload_n 1, 1) := by decide +kernel
theorem dX12_reckons_31 : decode cX12_reckons 31 = .ok (.iadd, 1) := by decide +kernel
theorem dX12_reckons_32 : decode cX12_reckons 32 = .ok (.iaload, 1) := by decide +kernel
theorem dX12_reckons_33 : decode cX12_reckons 33 = .ok (.iadd, 1) := by decide +kernel
theorem dX12_reckons_34 : decode cX12_reckons 34 = .ok (.iload_n 3, 1) := by decide +kernel
theorem dX12_reckons_35 : decode cX12_reckons 35 = .ok (.iadd, 1) := by decide +kernel
theorem dX12_reckons_36 : decode cX12_reckons 36 = .ok (.iaload, 1) := by decide +kernel
theorem dX12_reckons_37 : decode cX12_reckons 37 = .ok (.istore 4, 2) := by decide +kernel
theorem dX12_reckons_39 : decode cX12_reckons 39 = .ok (.iload 4, 2) := by decide +kernel
theorem dX12_reckons_41 : decode cX12_reckons 41 = .ok (.sipush 3000, 3) := by decide +kernel
theorem dX12_reckons_44 : decode cX12_reckons 44 = .ok (.if_icmp .ge 39, 3) := by decide +kernel
theorem dX12_reckons_47 : decode cX12_reckons 47 = .ok (.aload_n 0, 1) := by decide +kernel
theorem dX12_reckons_48 : decode cX12_reckons 48 = .ok (.getfield 30, 3) := by decide +kernel
theorem dX12_reckons_51 : decode cX12_reckons 51 = .ok (.iload_n 2, 1) := by decide +kernel
theorem dX12_reckons_52 : decode cX12_reckons 52 = .ok (.iload 4, 2) := by decide +kernel
theorem dX12_reckons_54 : decode cX12_reckons 54 = .ok (.sipush 1000, 3) := by decide +kernel
theorem dX12_reckons_57 : decode cX12_reckons 57 = .ok (.if_icmp .ge 8, 3) := by decide +kernel
theorem dX12_reckons_60 : decode cX12_reckons 60 = .ok (.iload 4, 2) := by decide +kernel
theorem dX12_reckons_62 : decode cX12_reckons 62 = .ok (.goto 14, 3) := by decide +kernel
theorem dX12_reckons_65 : decode cX12_reckons 65 = .ok (.aload_n 0, 1) := by decide +kernel
theorem dX12_reckons_66 : decode cX12_reckons 66 = .ok (.getfield 33, 3) := by decide +kernel
theorem dX12_reckons_69 : decode cX12_reckons 69 = .ok (.iload 4, 2) := by decide +kernel
theorem dX12_reckons_71 : decode cX12_reckons 71 = .ok (.sipush 1000, 3) := by decide +kernel
theorem dX12_reckons_74 : decode cX12_reckons 74 = .ok (.isub, 1) := by decide +kernel
theorem dX12_reckons_75 : decode cX12_reckons 75 = .ok (.iaload, 1) := by decide +kernel
theorem dX12_reckons_76 : decode cX12_reckons 76 = .ok (.iastore, 1) := by decide +kernel
theorem dX12_reckons_77 : decode cX12_reckons 77 = .ok (.iinc 2 1, 3) := by decide +kernel
theorem dX12_reckons_80 : decode cX12_reckons 80 = .ok (.goto 113, 3) := by decide +kernel
theorem dX12_reckons_83 : decode cX12_reckons 83 = .ok (.iload 4, 2) := by decide +kernel
theorem dX12_reckons_85 : decode cX12_reckons 85 = .ok (.sipush 3006, 3) := by decide +kernel
theorem dX12_reckons_88 : decode cX12_reckons 88 = .ok (.if_icmp .ne 24, 3) := by decide +kernel
theorem dX12_reckons_91 : decode cX12_reckons 91 = .ok (.aload_n 0, 1) := by decide +kernel
theorem dX12_reckons_92 : decode cX12_reckons 92 = .ok (.getfield 30, 3) := by decide +kernel
theorem dX12_reckons_95 : decode cX12_reckons 95 = .ok (.iload_n 2, 1) := by decide +kernel
theorem dX12_reckons_96 : decode cX12_reckons 96 = .ok (.iconst 1, 1) := by decide +kernel
theorem dX12_reckons_97 : decode cX12_reckons 97 = .ok (.isub, 1) := by decide +kernel
theorem dX12_reckons_98 : decode cX12_reckons 98 = .ok (.iconst 1, 1) := by decide +kernel
theorem dX12_reckons_99 : decode cX12_reckons 99 = .ok (.aload_n 0, 1) := by decide +kernel
theorem dX12_reckons_100 : decode cX12_reckons 100 = .ok (.getfield 30, 3) := by decide +kernel
theorem dX12_reckons_103 : decode cX12_reckons 103 = .ok (.iload_n 2, 1) := by decide +kernel
theorem dX12_reckons_104 : decode cX12_reckons 104 = .ok (.iconst 1, 1) := by decide +kernel
theorem dX12_reckons_105 : decode cX12_reckons 105 = .ok (.isub, 1) := by decide +kernel
theorem dX12_reckons_106 : decode cX12_reckons 106 = .ok (.iaload, 1) := by decide +kernel
theorem dX12_reckons_107 : decode cX12_reckons 107 = .ok (.isub, 1) := by decide +kernel
theorem dX12_reckons_108 : decode cX12_reckons 108 = .ok (.iastore, 1) := by decide +kernel
theorem dX12_reckons_109 : decode cX12_reckons 109 = .ok (.goto 84, 3) := by decide +kernel
theorem dX12_reckons_112 : decode cX12_reckons 112 = .ok (.iload 4, 2) := by decide +kernel
theorem dX12_reckons_114 : decode cX12_reckons 114 = .ok (.sipush 3009, 3) := by decide +kernel
theorem dX12_reckons_117 : decode cX12_reckons 117 = .ok (.if_icmp .ne 46, 3) := by decide +kernel
theorem dX12_reckons_120 : decode cX12_reckons 120 = .ok (.iinc 2 (-2), 3) := by decide +kernel
theorem dX12_reckons_123 : decode cX12_reckons 123 = .ok (.aload_n 0, 1) := by decide +kernel
theorem dX12_reckons_124 : decode cX12_reckons 124 = .ok (.getfield 30, 3) := by decide +kernel
theorem dX12_reckons_127 : decode cX12_reckons 127 = .ok (.iload_n 2, 1) := by decide +kernel
theorem dX12_reckons_128 : decode cX12_reckons 128 = .ok (.iconst 1, 1) := by decide +kernel
theorem dX12_reckons_129 : decode cX12_reckons 129 = .ok (.isub, 1) := by decide +kernel
theorem dX12_reckons_130 : decode cX12_reckons 130 = .ok (.aload_n 0, 1) := by decide +kernel
theorem dX12_reckons_131 : decode cX12_reckons 131 = .ok (.getfield 30, 3) := by decide +kernel
theorem dX12_reckons_134 : decode cX12_reckons 134 = .ok (.iload_n 2, 1) := by decide +kernel
theorem dX12_reckons_135 : decode cX12_reckons 135 = .ok (.iconst 1, 1) := by decide +kernel
theorem dX12_reckons_136 : decode cX12_reckons 136 = .ok (.isub, 1) := by decide +kernel
theorem dX12_reckons_137 : decode cX12_reckons 137 = .ok (.iaload, 1) := by decide +kernel
theorem dX12_reckons_138 : decode cX12_reckons 138 = .ok (.iconst 1, 1) := by decide +kernel
theorem dX12_reckons_139 : decode cX12_reckons 139 = .ok (.if_icmp .ne 12, 3) := by decide +kernel
theorem dX12_reckons_142 : decode cX12_reckons 142 = .ok (.aload_n 0, 1) := by decide +kernel
theorem dX12_reckons_143 : decode cX12_reckons 143 = .ok (.getfield 30, 3) := by decide +kernel
theorem dX12_reckons_146 : decode cX12_reckons 146 = .ok (.iload_n 2, 1) := by decide +kernel
theorem dX12_reckons_147 : decode cX12_reckons 147 = .ok (.iaload, 1) := by decide +kernel
theorem dX12_reckons_148 : decode cX12_reckons 148 = .ok (.goto 11, 3) := by decide +kernel
theorem dX12_reckons_151 : decode cX12_reckons 151 = .ok (.aload_n 0, 1) := by decide +kernel
theorem dX12_reckons_152 : decode cX12_reckons 152 = .ok (.getfield 30, 3) := by decide +kernel
theorem dX12_reckons_155 : decode cX12_reckons 155 = .ok (.iload_n 2, 1) := by decide +kernel
theorem dX12_reckons_156 : decode cX12_reckons 156 = .ok (.iconst 1, 1) := by decide +kernel
theorem dX12_reckons_157 : decode cX12_reckons 157 = .ok (.iadd, 1) := by decide +kernel
theorem dX12_reckons_158 : decode cX12_reckons 158 = .ok (.iaload, 1) := by decide +kernel
theorem dX12_reckons_159 : decode cX12_reckons 159 = .ok (.iastore, 1) := by decide +kernel
theorem dX12_reckons_160 : decode cX12_reckons 160 = .ok (.goto 33, 3) := by decide +kernel
theorem dX12_reckons_163 : decode cX12_reckons 163 = .ok (.iinc 2 (-1), 3) := by decide +kernel
theorem dX12_reckons_166 : decode cX12_reckons 166 = .ok (.aload_n 0, 1) := by decide +kernel
theorem dX12_reckons_167 : decode cX12_reckons 167 = .ok (.getfield 30, 3) := by decide +kernel
theorem dX12_reckons_170 : decode cX12_reckons 170 = .ok (.iload_n 2, 1) := by decide +kernel
theorem dX12_reckons_171 : decode cX12_reckons 171 = .ok (.iconst 1, 1) := by decide +kernel
theorem dX12_reckons_172 : decode cX12_reckons 172 = .ok (.isub, 1) := by decide +kernel
theorem dX12_reckons_173 : decode cX12_reckons 173 = .ok (.iload 4, 2) := by decide +kernel
theorem dX12_reckons_175 : decode cX12_reckons 175 = .ok (.aload_n 0, 1) := by decide +kernel
theorem dX12_reckons_176 : decode cX12_reckons 176 = .ok (.getfield 30, 3) := by decide +kernel
theorem dX12_reckons_179 : decode cX12_reckons 179 = .ok (.iload_n 2, 1) := by decide +kernel
theorem dX12_reckons_180 : decode cX12_reckons 180 = .ok (.iconst 1, 1) := by decide +kernel
theorem dX12_reckons_181 : decode cX12_reckons 181 = .ok (.isub, 1) := by decide +kernel
theorem dX12_reckons_182 : decode cX12_reckons 182 = .ok (.iaload, 1) := by decide +kernel
theorem dX12_reckons_183 : decode cX12_reckons 183 = .ok (.aload_n 0, 1) := by decide +kernel
theorem dX12_reckons_184 : decode cX12_reckons 184 = .ok (.getfield 30, 3) := by decide +kernel
theorem dX12_reckons_187 : decode cX12_reckons 187 = .ok (.iload_n 2, 1) := by decide +kernel
theorem dX12_reckons_188 : decode cX12_reckons 188 = .ok (.iaload, 1) := by decide +kernel
theorem dX12_reckons_189 : decode cX12_reckons 189 = .ok (.invokestatic 211, 3) := by decide +kernel
theorem dX12_reckons_192 : decode cX12_reckons 192 = .ok (.iastore, 1) := by decide +kernel
theorem dX12_reckons_193 : decode cX12_reckons 193 = .ok (.iinc 3 1, 3) := by decide +kernel
theorem dX12_reckons_196 : decode cX12_reckons 196 = .ok (.goto (-192), 3) := by decide +kernel
theorem dX12_reckons_199 : decode cX12_reckons 199 = .ok (.aload_n 0, 1) := by decide +kernel
theorem dX12_reckons_200 : decode cX12_reckons 200 = .ok (.getfield 30, 3) := by decide +kernel
theorem dX12_reckons_203 : decode cX12_reckons 203 = .ok (.iconst 0, 1) := by decide +kernel
theorem dX12_reckons_204 : decode cX12_reckons 204 = .ok (.iaload, 1) := by decide +kernel
theorem dX12_reckons_205 : decode cX12_reckons 205 = .ok (.ireturn, 1) := by decide +kernel
theorem wX12_reckons : Mw yX12_reckons cX12_reckons 5 (some .int) 1 := ⟨q_1494, q_130, by decide, ⟨by decide +kernel, by decide +kernel⟩, by decide +kernel, by decide +kernel⟩
-- a loop of EyeTrainerModel.reckons at 4
def bX12_reckons_4 (T : Sh) (x0 : Nat) (x1 : Int32) (x2 : Int32) (x3 : Int32) (M : Me) : Option ((Int32 × Int32 × Me) ⊕ (Me)) :=
  gd (kd T x0 = 11) <| Option.bind (gR M x0 1) fun a2 => gd (kd T a2 = 13) <| gv ((11 : Int32) + x1) (ln T a2) <| if (gI M a2 (Int32.toNatClampNeg ((11 : Int32) + x1))) ≤ x3 then (some (.inr M)) else (Option.bind (gR M x0 1) fun a6 => Option.bind (gR M x0 1) fun a7 => gd (kd T a7 = 13) <| gv ((8 : Int32) + x1) (ln T a7) <| gd (kd T a6 = 13) <| gv (((132 : Int32) + (gI M a7 (Int32.toNatClampNeg ((8 : Int32) + x1)))) + x3) (ln T a6) <| lt (gI M a6 (Int32.toNatClampNeg (((132 : Int32) + (gI M a7 (Int32.toNatClampNeg ((8 : Int32) + x1)))) + x3))) fun v12 => if (3000 : Int32) ≤ v12 then (if v12 = (3006 : Int32) then (Option.bind (gR M x0 16) fun a49 => Option.bind (gR M x0 16) fun a50 => gd (kd T a50 = 13) <| gv (x2 - (1 : Int32)) (ln T a50) <| gd (kd T a49 = 13) <| gv (x2 - (1 : Int32)) (ln T a49) <| lt (pI M a49 (Int32.toNatClampNeg (x2 - (1 : Int32))) ((1 : Int32) - (gI M a50 (Int32.toNatClampNeg (x2 - (1 : Int32)))))) fun M55 => lt (x3 + (1 : Int32)) fun v56 => some (.inl (x2, v56, M55))) else (if v12 = (3009 : Int32) then (lt (x2 + (-2 : Int32)) fun v29 => Option.bind (gR M x0 16) fun a30 => Option.bind (gR M x0 16) fun a31 => gd (kd T a31 = 13) <| gv (v29 - (1 : Int32)) (ln T a31) <| if (gI M a31 (Int32.toNatClampNeg (v29 - (1 : Int32)))) = (1 : Int32) then (Option.bind (gR M x0 16) fun a42 => gd (kd T a42 = 13) <| gv v29 (ln T a42) <| gd (kd T a30 = 13) <| gv (v29 - (1 : Int32)) (ln T a30) <| lt (pI M a30 (Int32.toNatClampNeg (v29 - (1 : Int32))) (gI M a42 (Int32.toNatClampNeg v29))) fun M47 => lt (x3 + (1 : Int32)) fun v48 => some (.inl (v29, v48, M47))) else (Option.bind (gR M x0 16) fun a35 => gd (kd T a35 = 13) <| gv (v29 + (1 : Int32)) (ln T a35) <| gd (kd T a30 = 13) <| gv (v29 - (1 : Int32)) (ln T a30) <| lt (pI M a30 (Int32.toNatClampNeg (v29 - (1 : Int32))) (gI M a35 (Int32.toNatClampNeg (v29 + (1 : Int32))))) fun M40 => lt (x3 + (1 : Int32)) fun v41 => some (.inl (v29, v41, M40)))) else (lt (x2 + (-1 : Int32)) fun v16 => Option.bind (gR M x0 16) fun a17 => Option.bind (gR M x0 16) fun a18 => gd (kd T a18 = 13) <| gv (v16 - (1 : Int32)) (ln T a18) <| Option.bind (gR M x0 16) fun a21 => gd (kd T a21 = 13) <| gv v16 (ln T a21) <| Option.bind (fX12_between v12 (gI M a18 (Int32.toNatClampNeg (v16 - (1 : Int32)))) (gI M a21 (Int32.toNatClampNeg v16))) fun r24 => gd (kd T a17 = 13) <| gv (v16 - (1 : Int32)) (ln T a17) <| lt (pI M a17 (Int32.toNatClampNeg (v16 - (1 : Int32))) r24) fun M27 => lt (x3 + (1 : Int32)) fun v28 => some (.inl (v16, v28, M27))))) else (Option.bind (gR M x0 16) fun a57 => if (1000 : Int32) ≤ v12 then (Option.bind (gR M x0 17) fun a59 => gd (kd T a59 = 13) <| gv (v12 - (1000 : Int32)) (ln T a59) <| gd (kd T a57 = 13) <| gv x2 (ln T a57) <| lt (pI M a57 (Int32.toNatClampNeg x2) (gI M a59 (Int32.toNatClampNeg (v12 - (1000 : Int32))))) fun M64 => lt (x2 + (1 : Int32)) fun v65 => lt (x3 + (1 : Int32)) fun v66 => some (.inl (v65, v66, M64))) else (gd (kd T a57 = 13) <| gv x2 (ln T a57) <| lt (pI M a57 (Int32.toNatClampNeg x2) v12) fun M69 => lt (x2 + (1 : Int32)) fun v70 => lt (x3 + (1 : Int32)) fun v71 => some (.inl (v70, v71, M69)))))
def PX12_reckons_4 (X : Fx) (B : Bx) (Z : Nat × Nat × Nat × Nat) (Q : State → Prop) (T : Sh) (x0 : Nat) (x1 : Int32) (s : Int32 × Int32 × Me) : Prop := G X B 5 Z Q 4 [(0, .ref (x0)), (1, .int (x1)), (2, .int (s.1)), (3, .int (s.2.1))] [] T s.2.2
def EX12_reckons_4 (X : Fx) (B : Bx) (Z : Nat × Nat × Nat × Nat) (Q : State → Prop) (T : Sh) (x0 : Nat) (x1 : Int32) (r : Me) : Prop := G X B 5 Z Q 199 [(0, .ref (x0))] [] T r
set_option maxHeartbeats 4000000 in
theorem tbX12_reckons_4 {X : Fx} {B : Bx} {Z : Nat × Nat × Nat × Nat} {Q : State → Prop} {d : Nat} {T : Sh} (C : Cx X B cX12_reckons 5 RX12 d Z) (hd : 1 ≤ d) {x0 : Nat} {x1 : Int32} : ∀ (s : Int32 × Int32 × Me) (o : (Int32 × Int32 × Me) ⊕ (Me)), bX12_reckons_4 T x0 x1 s.1 s.2.1 s.2.2 = some o → lpE (PX12_reckons_4 X B Z Q T x0 x1) (EX12_reckons_4 X B Z Q T x0 x1) o → PX12_reckons_4 X B Z Q T x0 x1 s := by
  rintro ⟨x2, x3, M⟩ o h hE
  replace h : bX12_reckons_4 T x0 x1 x2 x3 M = some o := h
  unfold bX12_reckons_4 at h
  show G X B 5 Z Q 4 [(0, .ref (x0)), (1, .int (x1)), (2, .int (x2)), (3, .int (x3))] [] T M
  refine g_iload_n (pc := 4) C dX12_reckons_4 rfl 3 rfl ?_
  refine g_aload_n (pc := 5) C dX12_reckons_5 rfl 0 rfl ?_
  replace h := gd_some h; obtain ⟨hk1, h⟩ := h
  refine g_get (pc := 6) (v := va_rf (gR M x0 1)) C dX12_reckons_6 kX12 hk1 1 (by decide) q_1228 rfl ?_
  replace h := bnd h; obtain ⟨a2, ea2, h⟩ := h
  refine g_refq ea2 ?_
  refine g_bipush (pc := 9) (v := 11) C dX12_reckons_9 (by decide) ?_
  refine g_iload_n (pc := 11) C dX12_reckons_11 rfl 1 rfl ?_
  refine g_iadd (pc := 12) C dX12_reckons_12 ?_
  replace h := gd_some h; obtain ⟨hk3, h⟩ := h
  replace h := gv_some h; obtain ⟨hi4, h⟩ := h
  refine g_iald (pc := 13) C dX12_reckons_13 hk3 hi4 ?_
  refine g_icmp_ge (pc := 14) (tgt := 199) C dX12_reckons_14 (by decide) (fun c5 => ?_) (fun c5 => ?_)
  · replace h := ifp c5 h
    obtain rfl := Option.some.inj h
    exact g_sub [0] rfl (show G X B 5 Z Q 199 [(0, .ref (x0))] [] T M from hE)
  · replace h := ifn c5 h
    refine g_aload_n (pc := 17) C dX12_reckons_17 rfl 0 rfl ?_
    refine g_get (pc := 18) (v := va_rf (gR M x0 1)) C dX12_reckons_18 kX12 hk1 1 (by decide) q_1228 rfl ?_
    replace h := bnd h; obtain ⟨a6, ea6, h⟩ := h
    refine g_refq ea6 ?_
    refine g_sipush (pc := 21) (v := 132) C dX12_reckons_21 (by decide) ?_
    refine g_aload_n (pc := 24) C dX12_reckons_24 rfl 0 rfl ?_
    refine g_get (pc := 25) (v := va_rf (gR M x0 1)) C dX12_reckons_25 kX12 hk1 1 (by decide) q_1228 rfl ?_
    replace h := bnd h; obtain ⟨a7, ea7, h⟩ := h
    refine g_refq ea7 ?_
    refine g_bipush (pc := 28) (v := 8) C dX12_reckons_28 (by decide) ?_
    refine g_iload_n (pc := 30) C dX12_reckons_30 rfl 1 rfl ?_
    refine g_iadd (pc := 31) C dX12_reckons_31 ?_
    replace h := gd_some h; obtain ⟨hk8, h⟩ := h
    replace h := gv_some h; obtain ⟨hi9, h⟩ := h
    refine g_iald (pc := 32) C dX12_reckons_32 hk8 hi9 ?_
    refine g_iadd (pc := 33) C dX12_reckons_33 ?_
    refine g_iload_n (pc := 34) C dX12_reckons_34 rfl 3 rfl ?_
    refine g_iadd (pc := 35) C dX12_reckons_35 ?_
    replace h := gd_some h; obtain ⟨hk10, h⟩ := h
    replace h := gv_some h; obtain ⟨hi11, h⟩ := h
    refine g_iald (pc := 36) C dX12_reckons_36 hk10 hi11 ?_
    refine g_topi (fun v12 ev12 => ?_)
    replace h := lt_at ev12 h
    refine g_istore (pc := 37) (lo2 := [(4, .int (v12)), (0, .ref (x0)), (1, .int (x1)), (2, .int (x2)), (3, .int (x3))]) C dX12_reckons_37 (by decide) rfl ?_
    refine g_iload (pc := 39) C dX12_reckons_39 0 rfl ?_
    refine g_sipush (pc := 41) (v := 3000) C dX12_reckons_41 (by decide) ?_
    refine g_icmp_ge (pc := 44) (tgt := 83) C dX12_reckons_44 (by decide) (fun c13 => ?_) (fun c13 => ?_)
    · replace h := ifp c13 h
      refine g_iload (pc := 83) C dX12_reckons_83 0 rfl ?_
      refine g_sipush (pc := 85) (v := 3006) C dX12_reckons_85 (by decide) ?_
      refine g_icmp_ne (pc := 88) (tgt := 112) C dX12_reckons_88 (by decide) (fun c14 => ?_) (fun c14 => ?_)
      · replace h := ifn c14 h
        refine g_iload (pc := 112) C dX12_reckons_112 0 rfl ?_
        refine g_sipush (pc := 114) (v := 3009) C dX12_reckons_114 (by decide) ?_
        refine g_icmp_ne (pc := 117) (tgt := 163) C dX12_reckons_117 (by decide) (fun c15 => ?_) (fun c15 => ?_)
        · replace h := ifn c15 h
          obtain ⟨v16, ev16⟩ : ∃ y : Int32, y = x2 + (-1 : Int32) := ⟨_, rfl⟩
          replace h := lt_at ev16 h
          refine g_iinc (pc := 163) (v := v16) (k := 3) (lo2 := [(2, .int (v16)), (4, .int (v12)), (0, .ref (x0)), (1, .int (x1)), (3, .int (x3))]) C dX12_reckons_163 rfl (by rw [ev16]; rfl) (by decide) rfl ?_
          refine g_aload_n (pc := 166) C dX12_reckons_166 rfl 2 rfl ?_
          refine g_get (pc := 167) (v := va_rf (gR M x0 16)) C dX12_reckons_167 kX12 hk1 16 (by decide) q_1243 rfl ?_
          replace h := bnd h; obtain ⟨a17, ea17, h⟩ := h
          refine g_refq ea17 ?_
          refine g_iload_n (pc := 170) C dX12_reckons_170 rfl 0 rfl ?_
          refine g_iconst (pc := 171) (v := 1) C dX12_reckons_171 (by decide) ?_
          refine g_isub (pc := 172) C dX12_reckons_172 ?_
          refine g_iload (pc := 173) C dX12_reckons_173 1 rfl ?_
          refine g_aload_n (pc := 175) C dX12_reckons_175 rfl 2 rfl ?_
          refine g_get (pc := 176) (v := va_rf (gR M x0 16)) C dX12_reckons_176 kX12 hk1 16 (by decide) q_1243 rfl ?_
          replace h := bnd h; obtain ⟨a18, ea18, h⟩ := h
          refine g_refq ea18 ?_
          refine g_iload_n (pc := 179) C dX12_reckons_179 rfl 0 rfl ?_
          refine g_iconst (pc := 180) (v := 1) C dX12_reckons_180 (by decide) ?_
          refine g_isub (pc := 181) C dX12_reckons_181 ?_
          replace h := gd_some h; obtain ⟨hk19, h⟩ := h
          replace h := gv_some h; obtain ⟨hi20, h⟩ := h
          refine g_iald (pc := 182) C dX12_reckons_182 hk19 hi20 ?_
          refine g_aload_n (pc := 183) C dX12_reckons_183 rfl 2 rfl ?_
          refine g_get (pc := 184) (v := va_rf (gR M x0 16)) C dX12_reckons_184 kX12 hk1 16 (by decide) q_1243 rfl ?_
          replace h := bnd h; obtain ⟨a21, ea21, h⟩ := h
          refine g_refq ea21 ?_
          refine g_iload_n (pc := 187) C dX12_reckons_187 rfl 0 rfl ?_
          replace h := gd_some h; obtain ⟨hk22, h⟩ := h
          replace h := gv_some h; obtain ⟨hi23, h⟩ := h
          refine g_iald (pc := 188) C dX12_reckons_188 hk22 hi23 ?_
          replace h := bnd h; obtain ⟨r24, h1, h⟩ := h
          refine g_callSi (pc := 189) (As := [.int (v12), .int (gI M a18 (Int32.toNatClampNeg (v16 - (1 : Int32)))), .int (gI M a21 (Int32.toNatClampNeg v16))]) (st := [.int (v16 - (1 : Int32)), .ref (a17)]) C dX12_reckons_189 wX12_between q_1496 q_1495 (by omega) rfl (Nat.le_of_ble_eq_true rfl) (kX12_between (d := 0) (Nat.le_refl _) h1) ?_
          replace h := gd_some h; obtain ⟨hk25, h⟩ := h
          replace h := gv_some h; obtain ⟨hi26, h⟩ := h
          refine g_iast (pc := 192) C dX12_reckons_192 hk25 hi26 ?_
          refine g_mem (fun M27 eM27 => ?_)
          replace h := lt_at eM27 h
          obtain ⟨v28, ev28⟩ : ∃ y : Int32, y = x3 + (1 : Int32) := ⟨_, rfl⟩
          replace h := lt_at ev28 h
          refine g_iinc (pc := 193) (v := v28) (k := 4) (lo2 := [(3, .int (v28)), (2, .int (v16)), (4, .int (v12)), (0, .ref (x0)), (1, .int (x1))]) C dX12_reckons_193 rfl (by rw [ev28]; rfl) (by decide) rfl ?_
          refine g_goto (pc := 196) (tgt := 4) C dX12_reckons_196 (by decide) ?_
          obtain rfl := Option.some.inj h
          exact g_sub [3, 4, 1, 0] rfl (show G X B 5 Z Q 4 [(0, .ref (x0)), (1, .int (x1)), (2, .int (v16)), (3, .int (v28))] [] T M27 from hE)
        · replace h := ifp c15 h
          obtain ⟨v29, ev29⟩ : ∃ y : Int32, y = x2 + (-2 : Int32) := ⟨_, rfl⟩
          replace h := lt_at ev29 h
          refine g_iinc (pc := 120) (v := v29) (k := 3) (lo2 := [(2, .int (v29)), (4, .int (v12)), (0, .ref (x0)), (1, .int (x1)), (3, .int (x3))]) C dX12_reckons_120 rfl (by rw [ev29]; rfl) (by decide) rfl ?_
          refine g_aload_n (pc := 123) C dX12_reckons_123 rfl 2 rfl ?_
          refine g_get (pc := 124) (v := va_rf (gR M x0 16)) C dX12_reckons_124 kX12 hk1 16 (by decide) q_1243 rfl ?_
          replace h := bnd h; obtain ⟨a30, ea30, h⟩ := h
          refine g_refq ea30 ?_
          refine g_iload_n (pc := 127) C dX12_reckons_127 rfl 0 rfl ?_
          refine g_iconst (pc := 128) (v := 1) C dX12_reckons_128 (by decide) ?_
          refine g_isub (pc := 129) C dX12_reckons_129 ?_
          refine g_aload_n (pc := 130) C dX12_reckons_130 rfl 2 rfl ?_
          refine g_get (pc := 131) (v := va_rf (gR M x0 16)) C dX12_reckons_131 kX12 hk1 16 (by decide) q_1243 rfl ?_
          replace h := bnd h; obtain ⟨a31, ea31, h⟩ := h
          refine g_refq ea31 ?_
          refine g_iload_n (pc := 134) C dX12_reckons_134 rfl 0 rfl ?_
          refine g_iconst (pc := 135) (v := 1) C dX12_reckons_135 (by decide) ?_
          refine g_isub (pc := 136) C dX12_reckons_136 ?_
          replace h := gd_some h; obtain ⟨hk32, h⟩ := h
          replace h := gv_some h; obtain ⟨hi33, h⟩ := h
          refine g_iald (pc := 137) C dX12_reckons_137 hk32 hi33 ?_
          refine g_iconst (pc := 138) (v := 1) C dX12_reckons_138 (by decide) ?_
          refine g_icmp_ne (pc := 139) (tgt := 151) C dX12_reckons_139 (by decide) (fun c34 => ?_) (fun c34 => ?_)
          · replace h := ifn c34 h
            refine g_aload_n (pc := 151) C dX12_reckons_151 rfl 2 rfl ?_
            refine g_get (pc := 152) (v := va_rf (gR M x0 16)) C dX12_reckons_152 kX12 hk1 16 (by decide) q_1243 rfl ?_
            replace h := bnd h; obtain ⟨a35, ea35, h⟩ := h
            refine g_refq ea35 ?_
            refine g_iload_n (pc := 155) C dX12_reckons_155 rfl 0 rfl ?_
            refine g_iconst (pc := 156) (v := 1) C dX12_reckons_156 (by decide) ?_
            refine g_iadd (pc := 157) C dX12_reckons_157 ?_
            replace h := gd_some h; obtain ⟨hk36, h⟩ := h
            replace h := gv_some h; obtain ⟨hi37, h⟩ := h
            refine g_iald (pc := 158) C dX12_reckons_158 hk36 hi37 ?_
            replace h := gd_some h; obtain ⟨hk38, h⟩ := h
            replace h := gv_some h; obtain ⟨hi39, h⟩ := h
            refine g_iast (pc := 159) C dX12_reckons_159 hk38 hi39 ?_
            refine g_mem (fun M40 eM40 => ?_)
            replace h := lt_at eM40 h
            refine g_goto (pc := 160) (tgt := 193) C dX12_reckons_160 (by decide) ?_
            obtain ⟨v41, ev41⟩ : ∃ y : Int32, y = x3 + (1 : Int32) := ⟨_, rfl⟩
            replace h := lt_at ev41 h
            refine g_iinc (pc := 193) (v := v41) (k := 4) (lo2 := [(3, .int (v41)), (2, .int (v29)), (4, .int (v12)), (0, .ref (x0)), (1, .int (x1))]) C dX12_reckons_193 rfl (by rw [ev41]; rfl) (by decide) rfl ?_
            refine g_goto (pc := 196) (tgt := 4) C dX12_reckons_196 (by decide) ?_
            obtain rfl := Option.some.inj h
            exact g_sub [3, 4, 1, 0] rfl (show G X B 5 Z Q 4 [(0, .ref (x0)), (1, .int (x1)), (2, .int (v29)), (3, .int (v41))] [] T M40 from hE)
          · replace h := ifp c34 h
            refine g_aload_n (pc := 142) C dX12_reckons_142 rfl 2 rfl ?_
            refine g_get (pc := 143) (v := va_rf (gR M x0 16)) C dX12_reckons_143 kX12 hk1 16 (by decide) q_1243 rfl ?_
            replace h := bnd h; obtain ⟨a42, ea42, h⟩ := h
            refine g_refq ea42 ?_
            refine g_iload_n (pc := 146) C dX12_reckons_146 rfl 0 rfl ?_
            replace h := gd_some h; obtain ⟨hk43, h⟩ := h
            replace h := gv_some h; obtain ⟨hi44, h⟩ := h
            refine g_iald (pc := 147) C dX12_reckons_147 hk43 hi44 ?_
            refine g_goto (pc := 148) (tgt := 159) C dX12_reckons_148 (by decide) ?_
            replace h := gd_some h; obtain ⟨hk45, h⟩ := h
            replace h := gv_some h; obtain ⟨hi46, h⟩ := h
            refine g_iast (pc := 159) C dX12_reckons_159 hk45 hi46 ?_
            refine g_mem (fun M47 eM47 => ?_)
            replace h := lt_at eM47 h
            refine g_goto (pc := 160) (tgt := 193) C dX12_reckons_160 (by decide) ?_
            obtain ⟨v48, ev48⟩ : ∃ y : Int32, y = x3 + (1 : Int32) := ⟨_, rfl⟩
            replace h := lt_at ev48 h
            refine g_iinc (pc := 193) (v := v48) (k := 4) (lo2 := [(3, .int (v48)), (2, .int (v29)), (4, .int (v12)), (0, .ref (x0)), (1, .int (x1))]) C dX12_reckons_193 rfl (by rw [ev48]; rfl) (by decide) rfl ?_
            refine g_goto (pc := 196) (tgt := 4) C dX12_reckons_196 (by decide) ?_
            obtain rfl := Option.some.inj h
            exact g_sub [3, 4, 1, 0] rfl (show G X B 5 Z Q 4 [(0, .ref (x0)), (1, .int (x1)), (2, .int (v29)), (3, .int (v48))] [] T M47 from hE)
      · replace h := ifp c14 h
        refine g_aload_n (pc := 91) C dX12_reckons_91 rfl 1 rfl ?_
        refine g_get (pc := 92) (v := va_rf (gR M x0 16)) C dX12_reckons_92 kX12 hk1 16 (by decide) q_1243 rfl ?_
        replace h := bnd h; obtain ⟨a49, ea49, h⟩ := h
        refine g_refq ea49 ?_
        refine g_iload_n (pc := 95) C dX12_reckons_95 rfl 3 rfl ?_
        refine g_iconst (pc := 96) (v := 1) C dX12_reckons_96 (by decide) ?_
        refine g_isub (pc := 97) C dX12_reckons_97 ?_
        refine g_iconst (pc := 98) (v := 1) C dX12_reckons_98 (by decide) ?_
        refine g_aload_n (pc := 99) C dX12_reckons_99 rfl 1 rfl ?_
        refine g_get (pc := 100) (v := va_rf (gR M x0 16)) C dX12_reckons_100 kX12 hk1 16 (by decide) q_1243 rfl ?_
        replace h := bnd h; obtain ⟨a50, ea50, h⟩ := h
        refine g_refq ea50 ?_
        refine g_iload_n (pc := 103) C dX12_reckons_103 rfl 3 rfl ?_
        refine g_iconst (pc := 104) (v := 1) C dX12_reckons_104 (by decide) ?_
        refine g_isub (pc := 105) C dX12_reckons_105 ?_
        replace h := gd_some h; obtain ⟨hk51, h⟩ := h
        replace h := gv_some h; obtain ⟨hi52, h⟩ := h
        refine g_iald (pc := 106) C dX12_reckons_106 hk51 hi52 ?_
        refine g_isub (pc := 107) C dX12_reckons_107 ?_
        replace h := gd_some h; obtain ⟨hk53, h⟩ := h
        replace h := gv_some h; obtain ⟨hi54, h⟩ := h
        refine g_iast (pc := 108) C dX12_reckons_108 hk53 hi54 ?_
        refine g_mem (fun M55 eM55 => ?_)
        replace h := lt_at eM55 h
        refine g_goto (pc := 109) (tgt := 193) C dX12_reckons_109 (by decide) ?_
        obtain ⟨v56, ev56⟩ : ∃ y : Int32, y = x3 + (1 : Int32) := ⟨_, rfl⟩
        replace h := lt_at ev56 h
        refine g_iinc (pc := 193) (v := v56) (k := 4) (lo2 := [(3, .int (v56)), (4, .int (v12)), (0, .ref (x0)), (1, .int (x1)), (2, .int (x2))]) C dX12_reckons_193 rfl (by rw [ev56]; rfl) (by decide) rfl ?_
        refine g_goto (pc := 196) (tgt := 4) C dX12_reckons_196 (by decide) ?_
        obtain rfl := Option.some.inj h
        exact g_sub [2, 3, 4, 0] rfl (show G X B 5 Z Q 4 [(0, .ref (x0)), (1, .int (x1)), (2, .int (x2)), (3, .int (v56))] [] T M55 from hE)
    · replace h := ifn c13 h
      refine g_aload_n (pc := 47) C dX12_reckons_47 rfl 1 rfl ?_
      refine g_get (pc := 48) (v := va_rf (gR M x0 16)) C dX12_reckons_48 kX12 hk1 16 (by decide) q_1243 rfl ?_
      replace h := bnd h; obtain ⟨a57, ea57, h⟩ := h
      refine g_refq ea57 ?_
      refine g_iload_n (pc := 51) C dX12_reckons_51 rfl 3 rfl ?_
      refine g_iload (pc := 52) C dX12_reckons_52 0 rfl ?_
      refine g_sipush (pc := 54) (v := 1000) C dX12_reckons_54 (by decide) ?_
      refine g_icmp_ge (pc := 57) (tgt := 65) C dX12_reckons_57 (by decide) (fun c58 => ?_) (fun c58 => ?_)
      · replace h := ifp c58 h
        refine g_aload_n (pc := 65) C dX12_reckons_65 rfl 1 rfl ?_
        refine g_get (pc := 66) (v := va_rf (gR M x0 17)) C dX12_reckons_66 kX12 hk1 17 (by decide) q_1244 rfl ?_
        replace h := bnd h; obtain ⟨a59, ea59, h⟩ := h
        refine g_refq ea59 ?_
        refine g_iload (pc := 69) C dX12_reckons_69 0 rfl ?_
        refine g_sipush (pc := 71) (v := 1000) C dX12_reckons_71 (by decide) ?_
        refine g_isub (pc := 74) C dX12_reckons_74 ?_
        replace h := gd_some h; obtain ⟨hk60, h⟩ := h
        replace h := gv_some h; obtain ⟨hi61, h⟩ := h
        refine g_iald (pc := 75) C dX12_reckons_75 hk60 hi61 ?_
        replace h := gd_some h; obtain ⟨hk62, h⟩ := h
        replace h := gv_some h; obtain ⟨hi63, h⟩ := h
        refine g_iast (pc := 76) C dX12_reckons_76 hk62 hi63 ?_
        refine g_mem (fun M64 eM64 => ?_)
        replace h := lt_at eM64 h
        obtain ⟨v65, ev65⟩ : ∃ y : Int32, y = x2 + (1 : Int32) := ⟨_, rfl⟩
        replace h := lt_at ev65 h
        refine g_iinc (pc := 77) (v := v65) (k := 3) (lo2 := [(2, .int (v65)), (4, .int (v12)), (0, .ref (x0)), (1, .int (x1)), (3, .int (x3))]) C dX12_reckons_77 rfl (by rw [ev65]; rfl) (by decide) rfl ?_
        refine g_goto (pc := 80) (tgt := 193) C dX12_reckons_80 (by decide) ?_
        obtain ⟨v66, ev66⟩ : ∃ y : Int32, y = x3 + (1 : Int32) := ⟨_, rfl⟩
        replace h := lt_at ev66 h
        refine g_iinc (pc := 193) (v := v66) (k := 4) (lo2 := [(3, .int (v66)), (2, .int (v65)), (4, .int (v12)), (0, .ref (x0)), (1, .int (x1))]) C dX12_reckons_193 rfl (by rw [ev66]; rfl) (by decide) rfl ?_
        refine g_goto (pc := 196) (tgt := 4) C dX12_reckons_196 (by decide) ?_
        obtain rfl := Option.some.inj h
        exact g_sub [3, 4, 1, 0] rfl (show G X B 5 Z Q 4 [(0, .ref (x0)), (1, .int (x1)), (2, .int (v65)), (3, .int (v66))] [] T M64 from hE)
      · replace h := ifn c58 h
        refine g_iload (pc := 60) C dX12_reckons_60 0 rfl ?_
        refine g_goto (pc := 62) (tgt := 76) C dX12_reckons_62 (by decide) ?_
        replace h := gd_some h; obtain ⟨hk67, h⟩ := h
        replace h := gv_some h; obtain ⟨hi68, h⟩ := h
        refine g_iast (pc := 76) C dX12_reckons_76 hk67 hi68 ?_
        refine g_mem (fun M69 eM69 => ?_)
        replace h := lt_at eM69 h
        obtain ⟨v70, ev70⟩ : ∃ y : Int32, y = x2 + (1 : Int32) := ⟨_, rfl⟩
        replace h := lt_at ev70 h
        refine g_iinc (pc := 77) (v := v70) (k := 3) (lo2 := [(2, .int (v70)), (4, .int (v12)), (0, .ref (x0)), (1, .int (x1)), (3, .int (x3))]) C dX12_reckons_77 rfl (by rw [ev70]; rfl) (by decide) rfl ?_
        refine g_goto (pc := 80) (tgt := 193) C dX12_reckons_80 (by decide) ?_
        obtain ⟨v71, ev71⟩ : ∃ y : Int32, y = x3 + (1 : Int32) := ⟨_, rfl⟩
        replace h := lt_at ev71 h
        refine g_iinc (pc := 193) (v := v71) (k := 4) (lo2 := [(3, .int (v71)), (2, .int (v70)), (4, .int (v12)), (0, .ref (x0)), (1, .int (x1))]) C dX12_reckons_193 rfl (by rw [ev71]; rfl) (by decide) rfl ?_
        refine g_goto (pc := 196) (tgt := 4) C dX12_reckons_196 (by decide) ?_
        obtain rfl := Option.some.inj h
        exact g_sub [3, 4, 1, 0] rfl (show G X B 5 Z Q 4 [(0, .ref (x0)), (1, .int (x1)), (2, .int (v70)), (3, .int (v71))] [] T M69 from hE)
/-- EyeTrainerModel.reckons(I)I -/
def fX12_reckons (T : Sh) (M : Me) (x0 : Nat) (x1 : Int32) : Option (Int32 × Me) :=
  (lp FU (fun s => bX12_reckons_4 T x0 x1 s.1 s.2.1 s.2.2) ((0 : Int32), (0 : Int32), M)).bind (fun M72 => gd (kd T x0 = 11) <| Option.bind (gR M72 x0 16) fun a74 => gd (kd T a74 = 13) <| gv (0 : Int32) (ln T a74) <| some ((gI M72 a74 (Int32.toNatClampNeg (0 : Int32))), M72))
set_option maxHeartbeats 4000000 in
theorem kX12_reckons {l : Launch} {B : Bx} {d : Nat} (hd : 1 ≤ d) {T : Sh} {M : Me} {x0 : Nat} {x1 : Int32} {r : Int32} {M' : Me} (h : fX12_reckons T M x0 x1 = some (r, M')) : Kt l B yX12_reckons cX12_reckons 5 (some .int) d [.ref (x0), .int (x1)] T M (some (.int r)) T M' := by
  refine kt_of wX12_reckons (Nat.le_refl _) (Nat.le_refl _) (Nat.le_of_ble_eq_true rfl) (fun X C hR hlx hin => ?_)
  subst hlx
  replace C : Cx X B cX12_reckons 5 RX12 d (tp T, sl T, tp T, sl T) := C
  unfold fX12_reckons at h
  show G X B 5 _ _ 0 [(0, .ref (x0)), (1, .int (x1))] [] T M
  refine g_iconst (pc := 0) (v := 0) C dX12_reckons_0 (by decide) ?_
  refine g_istore_n (pc := 1) (lo2 := [(2, .int ((0 : Int32))), (0, .ref (x0)), (1, .int (x1))]) C dX12_reckons_1 rfl (by decide) rfl ?_
  refine g_iconst (pc := 2) (v := 0) C dX12_reckons_2 (by decide) ?_
  refine g_istore_n (pc := 3) (lo2 := [(3, .int ((0 : Int32))), (2, .int ((0 : Int32))), (0, .ref (x0)), (1, .int (x1))]) C dX12_reckons_3 rfl (by decide) rfl ?_
  replace h := bnd h; obtain ⟨M72, h1, h⟩ := h
  refine g_sub [2, 3, 1, 0] rfl ?_
  refine lp_G2 (P := PX12_reckons_4 X B _ _ T x0 x1) (E := EX12_reckons_4 X B _ _ T x0 x1) (tbX12_reckons_4 C hd) h1 ?_
  show G X B 5 _ _ 199 [(0, .ref (x0))] [] T M72
  refine g_aload_n (pc := 199) C dX12_reckons_199 rfl 0 rfl ?_
  replace h := gd_some h; obtain ⟨hk73, h⟩ := h
  refine g_get (pc := 200) (v := va_rf (gR M72 x0 16)) C dX12_reckons_200 kX12 hk73 16 (by decide) q_1243 rfl ?_
  replace h := bnd h; obtain ⟨a74, ea74, h⟩ := h
  refine g_refq ea74 ?_
  refine g_iconst (pc := 203) (v := 0) C dX12_reckons_203 (by decide) ?_
  replace h := gd_some h; obtain ⟨hk75, h⟩ := h
  replace h := gv_some h; obtain ⟨hi76, h⟩ := h
  refine g_iald (pc := 204) C dX12_reckons_204 hk75 hi76 ?_
  obtain ⟨rfl, rfl⟩ := Prod.mk.inj (Option.some.inj h)
  exact g_iret C hR dX12_reckons_205
theorem dX12_driftAt_0 : decode cX12_driftAt 0 = .ok (.aload_n 0, 1) := by decide +kernel
theorem dX12_driftAt_1 : decode cX12_driftAt 1 = .ok (.getfield 33, 3) := by decide +kernel
theorem dX12_driftAt_4 : decode cX12_driftAt 4 = .ok (.iconst 5, 1) := by decide +kernel
theorem dX12_driftAt_5 : decode cX12_driftAt 5 = .ok (.iload_n 1, 1) := by decide +kernel
theorem dX12_driftAt_6 : decode cX12_driftAt 6 = .ok (.bipush 100, 2) := by decide +kernel
theorem dX12_driftAt_8 : decode cX12_driftAt 8 = .ok (.irem, 1) := by decide +kernel
theorem dX12_driftAt_9 : decode cX12_driftAt 9 = .ok (.iastore, 1) := by decide +kernel
theorem dX12_driftAt_10 : decode cX12_driftAt 10 = .ok (.aload_n 0, 1) := by decide +kernel
theorem dX12_driftAt_11 : decode cX12_driftAt 11 = .ok (.getfield 13, 3) := by decide +kernel
theorem dX12_driftAt_14 : decode cX12_driftAt 14 = .ok (.bipush 7, 2) := by decide +kernel
theorem dX12_driftAt_16 : decode cX12_driftAt 16 = .ok (.iaload, 1) := by decide +kernel
theorem dX12_driftAt_17 : decode cX12_driftAt 17 = .ok (.iconst 1, 1) := by decide +kernel
theorem dX12_driftAt_18 : decode cX12_driftAt 18 = .ok (.if_icmp .ne 11, 3) := by decide +kernel
theorem dX12_driftAt_21 : decode cX12_driftAt 21 = .ok (.aload_n 0, 1) := by decide +kernel
theorem dX12_driftAt_22 : decode cX12_driftAt 22 = .ok (.iconst 2, 1) := by decide +kernel
theorem dX12_driftAt_23 : decode cX12_driftAt 23 = .ok (.invokevirtual 214, 3) := by decide +kernel
theorem dX12_driftAt_26 : decode cX12_driftAt 26 = .ok (.goto 4, 3) := by decide +kernel
theorem dX12_driftAt_29 : decode cX12_driftAt 29 = .ok (.iconst 0, 1) := by decide +kernel
theorem dX12_driftAt_30 : decode cX12_driftAt 30 = .ok (.istore_n 2, 1) := by decide +kernel
theorem dX12_driftAt_31 : decode cX12_driftAt 31 = .ok (.iload_n 2, 1) := by decide +kernel
theorem dX12_driftAt_32 : decode cX12_driftAt 32 = .ok (.bipush (-15), 2) := by decide +kernel
theorem dX12_driftAt_34 : decode cX12_driftAt 34 = .ok (.if_icmp .ge 8, 3) := by decide +kernel
theorem dX12_driftAt_37 : decode cX12_driftAt 37 = .ok (.bipush (-15), 2) := by decide +kernel
theorem dX12_driftAt_39 : decode cX12_driftAt 39 = .ok (.goto 15, 3) := by decide +kernel
theorem dX12_driftAt_42 : decode cX12_driftAt 42 = .ok (.iload_n 2, 1) := by decide +kernel
theorem dX12_driftAt_43 : decode cX12_driftAt 43 = .ok (.bipush 15, 2) := by decide +kernel
theorem dX12_driftAt_45 : decode cX12_driftAt 45 = .ok (.if_icmp .le 8, 3) := by decide +kernel
theorem dX12_driftAt_48 : decode cX12_driftAt 48 = .ok (.bipush 15, 2) := by decide +kernel
theorem dX12_driftAt_50 : decode cX12_driftAt 50 = .ok (.goto 4, 3) := by decide +kernel
theorem dX12_driftAt_53 : decode cX12_driftAt 53 = .ok (.iload_n 2, 1) := by decide +kernel
theorem dX12_driftAt_54 : decode cX12_driftAt 54 = .ok (.ireturn, 1) := by decide +kernel
theorem wX12_driftAt : Mw yX12_driftAt cX12_driftAt 3 (some .int) 1 := ⟨q_1490, q_130, by decide, ⟨by decide +kernel, by decide +kernel⟩, by decide +kernel, by decide +kernel⟩
/-- EyeTrainerModel.driftAt(I)I -/
def fX12_driftAt (T : Sh) (M : Me) (x0 : Nat) (x1 : Int32) : Option (Int32 × Me) :=
  gd (kd T x0 = 11) <| Option.bind (gR M x0 17) fun a2 => gd (kd T a2 = 13) <| gv (5 : Int32) (ln T a2) <| lt (pI M a2 (Int32.toNatClampNeg (5 : Int32)) (x1 - x1 / (100 : Int32) * (100 : Int32))) fun M5 => Option.bind (gR M5 x0 1) fun a6 => gd (kd T a6 = 13) <| gv (7 : Int32) (ln T a6) <| if (gI M5 a6 (Int32.toNatClampNeg (7 : Int32))) = (1 : Int32) then (Option.bind (fX12_reckons T M5 x0 (2 : Int32)) <| un2 fun r12 M13 => if (-15 : Int32) ≤ r12 then (if r12 ≤ (15 : Int32) then (some (r12, M13)) else (some ((15 : Int32), M13))) else (some ((-15 : Int32), M13))) else (if (-15 : Int32) ≤ (0 : Int32) then (if (0 : Int32) ≤ (15 : Int32) then (some ((0 : Int32), M5)) else (some ((15 : Int32), M5))) else (some ((-15 : Int32), M5)))
set_option maxHeartbeats 4000000 in
theorem kX12_driftAt {l : Launch} {B : Bx} {d : Nat} (hd : 2 ≤ d) {T : Sh} {M : Me} {x0 : Nat} {x1 : Int32} {r : Int32} {M' : Me} (h : fX12_driftAt T M x0 x1 = some (r, M')) : Kt l B yX12_driftAt cX12_driftAt 3 (some .int) d [.ref (x0), .int (x1)] T M (some (.int r)) T M' := by
  refine kt_of wX12_driftAt (Nat.le_refl _) (Nat.le_refl _) (Nat.le_of_ble_eq_true rfl) (fun X C hR hlx hin => ?_)
  subst hlx
  replace C : Cx X B cX12_driftAt 3 RX12 d (tp T, sl T, tp T, sl T) := C
  unfold fX12_driftAt at h
  show G X B 3 _ _ 0 [(0, .ref (x0)), (1, .int (x1))] [] T M
  refine g_aload_n (pc := 0) C dX12_driftAt_0 rfl 0 rfl ?_
  replace h := gd_some h; obtain ⟨hk1, h⟩ := h
  refine g_get (pc := 1) (v := va_rf (gR M x0 17)) C dX12_driftAt_1 kX12 hk1 17 (by decide) q_1244 rfl ?_
  replace h := bnd h; obtain ⟨a2, ea2, h⟩ := h
  refine g_refq ea2 ?_
  refine g_iconst (pc := 4) (v := 5) C dX12_driftAt_4 (by decide) ?_
  refine g_iload_n (pc := 5) C dX12_driftAt_5 rfl 1 rfl ?_
  refine g_bipush (pc := 6) (v := 100) C dX12_driftAt_6 (by decide) ?_
  refine g_irem (pc := 8) C dX12_driftAt_8 (by decide) ?_
  replace h := gd_some h; obtain ⟨hk3, h⟩ := h
  replace h := gv_some h; obtain ⟨hi4, h⟩ := h
  refine g_iast (pc := 9) C dX12_driftAt_9 hk3 hi4 ?_
  refine g_mem (fun M5 eM5 => ?_)
  replace h := lt_at eM5 h
  refine g_aload_n (pc := 10) C dX12_driftAt_10 rfl 0 rfl ?_
  refine g_get (pc := 11) (v := va_rf (gR M5 x0 1)) C dX12_driftAt_11 kX12 hk1 1 (by decide) q_1228 rfl ?_
  replace h := bnd h; obtain ⟨a6, ea6, h⟩ := h
  refine g_refq ea6 ?_
  refine g_bipush (pc := 14) (v := 7) C dX12_driftAt_14 (by decide) ?_
  replace h := gd_some h; obtain ⟨hk7, h⟩ := h
  replace h := gv_some h; obtain ⟨hi8, h⟩ := h
  refine g_iald (pc := 16) C dX12_driftAt_16 hk7 hi8 ?_
  refine g_iconst (pc := 17) (v := 1) C dX12_driftAt_17 (by decide) ?_
  refine g_icmp_ne (pc := 18) (tgt := 29) C dX12_driftAt_18 (by decide) (fun c9 => ?_) (fun c9 => ?_)
  · replace h := ifn c9 h
    refine g_iconst (pc := 29) (v := 0) C dX12_driftAt_29 (by decide) ?_
    refine g_istore_n (pc := 30) (lo2 := [(2, .int ((0 : Int32))), (0, .ref (x0)), (1, .int (x1))]) C dX12_driftAt_30 rfl (by decide) rfl ?_
    refine g_iload_n (pc := 31) C dX12_driftAt_31 rfl 0 rfl ?_
    refine g_bipush (pc := 32) (v := (-15)) C dX12_driftAt_32 (by decide) ?_
    refine g_icmp_ge (pc := 34) (tgt := 42) C dX12_driftAt_34 (by decide) (fun c10 => ?_) (fun c10 => ?_)
    · replace h := ifp c10 h
      refine g_iload_n (pc := 42) C dX12_driftAt_42 rfl 0 rfl ?_
      refine g_bipush (pc := 43) (v := 15) C dX12_driftAt_43 (by decide) ?_
      refine g_icmp_le (pc := 45) (tgt := 53) C dX12_driftAt_45 (by decide) (fun c11 => ?_) (fun c11 => ?_)
      · replace h := ifp c11 h
        refine g_iload_n (pc := 53) C dX12_driftAt_53 rfl 0 rfl ?_
        obtain ⟨rfl, rfl⟩ := Prod.mk.inj (Option.some.inj h)
        exact g_iret C hR dX12_driftAt_54
      · replace h := ifn c11 h
        refine g_bipush (pc := 48) (v := 15) C dX12_driftAt_48 (by decide) ?_
        refine g_goto (pc := 50) (tgt := 54) C dX12_driftAt_50 (by decide) ?_
        obtain ⟨rfl, rfl⟩ := Prod.mk.inj (Option.some.inj h)
        exact g_iret C hR dX12_driftAt_54
    · replace h := ifn c10 h
      refine g_bipush (pc := 37) (v := (-15)) C dX12_driftAt_37 (by decide) ?_
      refine g_goto (pc := 39) (tgt := 54) C dX12_driftAt_39 (by decide) ?_
      obtain ⟨rfl, rfl⟩ := Prod.mk.inj (Option.some.inj h)
      exact g_iret C hR dX12_driftAt_54
  · replace h := ifp c9 h
    refine g_aload_n (pc := 21) C dX12_driftAt_21 rfl 0 rfl ?_
    refine g_iconst (pc := 22) (v := 2) C dX12_driftAt_22 (by decide) ?_
    replace h := bnd2 h; obtain ⟨r12, M13, h1, h⟩ := h
    refine g_callVi (pc := 23) (As := [.int ((2 : Int32))]) (st := []) C dX12_driftAt_23 wX12_reckons hk1 rfl (by decide) q_1493 q_78 q_1491 (by omega) rfl (Nat.le_of_ble_eq_true rfl) (kX12_reckons (d := 1) (Nat.le_refl _) h1) ?_
    refine g_goto (pc := 26) (tgt := 30) C dX12_driftAt_26 (by decide) ?_
    refine g_istore_n (pc := 30) (lo2 := [(2, .int (r12)), (0, .ref (x0)), (1, .int (x1))]) C dX12_driftAt_30 rfl (by decide) rfl ?_
    refine g_iload_n (pc := 31) C dX12_driftAt_31 rfl 0 rfl ?_
    refine g_bipush (pc := 32) (v := (-15)) C dX12_driftAt_32 (by decide) ?_
    refine g_icmp_ge (pc := 34) (tgt := 42) C dX12_driftAt_34 (by decide) (fun c14 => ?_) (fun c14 => ?_)
    · replace h := ifp c14 h
      refine g_iload_n (pc := 42) C dX12_driftAt_42 rfl 0 rfl ?_
      refine g_bipush (pc := 43) (v := 15) C dX12_driftAt_43 (by decide) ?_
      refine g_icmp_le (pc := 45) (tgt := 53) C dX12_driftAt_45 (by decide) (fun c15 => ?_) (fun c15 => ?_)
      · replace h := ifp c15 h
        refine g_iload_n (pc := 53) C dX12_driftAt_53 rfl 0 rfl ?_
        obtain ⟨rfl, rfl⟩ := Prod.mk.inj (Option.some.inj h)
        exact g_iret C hR dX12_driftAt_54
      · replace h := ifn c15 h
        refine g_bipush (pc := 48) (v := 15) C dX12_driftAt_48 (by decide) ?_
        refine g_goto (pc := 50) (tgt := 54) C dX12_driftAt_50 (by decide) ?_
        obtain ⟨rfl, rfl⟩ := Prod.mk.inj (Option.some.inj h)
        exact g_iret C hR dX12_driftAt_54
    · replace h := ifn c14 h
      refine g_bipush (pc := 37) (v := (-15)) C dX12_driftAt_37 (by decide) ?_
      refine g_goto (pc := 39) (tgt := 54) C dX12_driftAt_39 (by decide) ?_
      obtain ⟨rfl, rfl⟩ := Prod.mk.inj (Option.some.inj h)
      exact g_iret C hR dX12_driftAt_54
theorem dX12_laysNow_0 : decode cX12_laysNow 0 = .ok (.aload_n 0, 1) := by decide +kernel
theorem dX12_laysNow_1 : decode cX12_laysNow 1 = .ok (.aload_n 0, 1) := by decide +kernel
theorem dX12_laysNow_2 : decode cX12_laysNow 2 = .ok (.aload_n 0, 1) := by decide +kernel
theorem dX12_laysNow_3 : decode cX12_laysNow 3 = .ok (.getfield 13, 3) := by decide +kernel
theorem dX12_laysNow_6 : decode cX12_laysNow 6 = .ok (.bipush 48, 2) := by decide +kernel
theorem dX12_laysNow_8 : decode cX12_laysNow 8 = .ok (.iaload, 1) := by decide +kernel
theorem dX12_laysNow_9 : decode cX12_laysNow 9 = .ok (.invokevirtual 217, 3) := by decide +kernel
theorem dX12_laysNow_12 : decode cX12_laysNow 12 = .ok (.putfield 220, 3) := by decide +kernel
theorem dX12_laysNow_15 : decode cX12_laysNow 15 = .ok (.aload_n 0, 1) := by decide +kernel
theorem dX12_laysNow_16 : decode cX12_laysNow 16 = .ok (.aload_n 0, 1) := by decide +kernel
theorem dX12_laysNow_17 : decode cX12_laysNow 17 = .ok (.getfield 13, 3) := by decide +kernel
theorem dX12_laysNow_20 : decode cX12_laysNow 20 = .ok (.bipush 49, 2) := by decide +kernel
theorem dX12_laysNow_22 : decode cX12_laysNow 22 = .ok (.iaload, 1) := by decide +kernel
theorem dX12_laysNow_23 : decode cX12_laysNow 23 = .ok (.iconst (-1), 1) := by decide +kernel
theorem dX12_laysNow_24 : decode cX12_laysNow 24 = .ok (.if_icmp .ne 7, 3) := by decide +kernel
theorem dX12_laysNow_27 : decode cX12_laysNow 27 = .ok (.iconst 0, 1) := by decide +kernel
theorem dX12_laysNow_28 : decode cX12_laysNow 28 = .ok (.goto 18, 3) := by decide +kernel
theorem dX12_laysNow_31 : decode cX12_laysNow 31 = .ok (.aload_n 0, 1) := by decide +kernel
theorem dX12_laysNow_32 : decode cX12_laysNow 32 = .ok (.getfield 13, 3) := by decide +kernel
theorem dX12_laysNow_35 : decode cX12_laysNow 35 = .ok (.bipush 38, 2) := by decide +kernel
theorem dX12_laysNow_37 : decode cX12_laysNow 37 = .ok (.aload_n 0, 1) := by decide +kernel
theorem dX12_laysNow_38 : decode cX12_laysNow 38 = .ok (.getfield 13, 3) := by decide +kernel
theorem dX12_laysNow_41 : decode cX12_laysNow 41 = .ok (.bipush 49, 2) := by decide +kernel
theorem dX12_laysNow_43 : decode cX12_laysNow 43 = .ok (.iaload, 1) := by decide +kernel
theorem dX12_laysNow_44 : decode cX12_laysNow 44 = .ok (.iadd, 1) := by decide +kernel
theorem dX12_laysNow_45 : decode cX12_laysNow 45 = .ok (.iaload, 1) := by decide +kernel
theorem dX12_laysNow_46 : decode cX12_laysNow 46 = .ok (.putfield 223, 3) := by decide +kernel
theorem dX12_laysNow_49 : decode cX12_laysNow 49 = .ok (.return_, 1) := by decide +kernel
theorem wX12_laysNow : Mw yX12_laysNow cX12_laysNow 1 none 0 := ⟨q_1486, q_130, by decide, ⟨by decide +kernel, by decide +kernel⟩, by decide +kernel, by decide +kernel⟩
/-- EyeTrainerModel.laysNow()V -/
def fX12_laysNow (T : Sh) (M : Me) (x0 : Nat) : Option (Unit × Me) :=
  gd (kd T x0 = 11) <| Option.bind (gR M x0 1) fun a2 => gd (kd T a2 = 13) <| gv (48 : Int32) (ln T a2) <| Option.bind (fX12_driftAt T M x0 (gI M a2 (Int32.toNatClampNeg (48 : Int32)))) <| un2 fun r5 M6 => lt (pI M6 x0 18 r5) fun M7 => Option.bind (gR M7 x0 1) fun a8 => gd (kd T a8 = 13) <| gv (49 : Int32) (ln T a8) <| if (gI M7 a8 (Int32.toNatClampNeg (49 : Int32))) = (-1 : Int32) then (lt (pI M7 x0 19 (0 : Int32)) fun M19 => some ((), M19)) else (Option.bind (gR M7 x0 1) fun a12 => Option.bind (gR M7 x0 1) fun a13 => gd (kd T a13 = 13) <| gv (49 : Int32) (ln T a13) <| gd (kd T a12 = 13) <| gv ((38 : Int32) + (gI M7 a13 (Int32.toNatClampNeg (49 : Int32)))) (ln T a12) <| lt (pI M7 x0 19 (gI M7 a12 (Int32.toNatClampNeg ((38 : Int32) + (gI M7 a13 (Int32.toNatClampNeg (49 : Int32))))))) fun M18 => some ((), M18))
set_option maxHeartbeats 4000000 in
theorem kX12_laysNow {l : Launch} {B : Bx} {d : Nat} (hd : 3 ≤ d) {T : Sh} {M : Me} {x0 : Nat} {M' : Me} (h : fX12_laysNow T M x0 = some ((), M')) : Kt l B yX12_laysNow cX12_laysNow 1 none d [.ref (x0)] T M none T M' := by
  refine kt_of wX12_laysNow (Nat.le_refl _) (Nat.le_refl _) (Nat.le_of_ble_eq_true rfl) (fun X C hR hlx hin => ?_)
  subst hlx
  replace C : Cx X B cX12_laysNow 1 RX12 d (tp T, sl T, tp T, sl T) := C
  unfold fX12_laysNow at h
  show G X B 1 _ _ 0 [(0, .ref (x0))] [] T M
  refine g_aload_n (pc := 0) C dX12_laysNow_0 rfl 0 rfl ?_
  refine g_aload_n (pc := 1) C dX12_laysNow_1 rfl 0 rfl ?_
  refine g_aload_n (pc := 2) C dX12_laysNow_2 rfl 0 rfl ?_
  replace h := gd_some h; obtain ⟨hk1, h⟩ := h
  refine g_get (pc := 3) (v := va_rf (gR M x0 1)) C dX12_laysNow_3 kX12 hk1 1 (by decide) q_1228 rfl ?_
  replace h := bnd h; obtain ⟨a2, ea2, h⟩ := h
  refine g_refq ea2 ?_
  refine g_bipush (pc := 6) (v := 48) C dX12_laysNow_6 (by decide) ?_
  replace h := gd_some h; obtain ⟨hk3, h⟩ := h
  replace h := gv_some h; obtain ⟨hi4, h⟩ := h
  refine g_iald (pc := 8) C dX12_laysNow_8 hk3 hi4 ?_
  replace h := bnd2 h; obtain ⟨r5, M6, h1, h⟩ := h
  refine g_callVi (pc := 9) (As := [.int (gI M a2 (Int32.toNatClampNeg (48 : Int32)))]) (st := [.ref (x0)]) C dX12_laysNow_9 wX12_driftAt hk1 rfl (by decide) q_1489 q_77 q_1487 (by omega) rfl (Nat.le_of_ble_eq_true rfl) (kX12_driftAt (d := 2) (Nat.le_refl _) h1) ?_
  refine g_putI (pc := 12) C dX12_laysNow_12 kX12 hk1 18 (by decide) rfl rfl rfl q_1245 ?_
  refine g_mem (fun M7 eM7 => ?_)
  replace h := lt_at eM7 h
  refine g_aload_n (pc := 15) C dX12_laysNow_15 rfl 0 rfl ?_
  refine g_aload_n (pc := 16) C dX12_laysNow_16 rfl 0 rfl ?_
  refine g_get (pc := 17) (v := va_rf (gR M7 x0 1)) C dX12_laysNow_17 kX12 hk1 1 (by decide) q_1228 rfl ?_
  replace h := bnd h; obtain ⟨a8, ea8, h⟩ := h
  refine g_refq ea8 ?_
  refine g_bipush (pc := 20) (v := 49) C dX12_laysNow_20 (by decide) ?_
  replace h := gd_some h; obtain ⟨hk9, h⟩ := h
  replace h := gv_some h; obtain ⟨hi10, h⟩ := h
  refine g_iald (pc := 22) C dX12_laysNow_22 hk9 hi10 ?_
  refine g_iconst (pc := 23) (v := (-1)) C dX12_laysNow_23 (by decide) ?_
  refine g_icmp_ne (pc := 24) (tgt := 31) C dX12_laysNow_24 (by decide) (fun c11 => ?_) (fun c11 => ?_)
  · replace h := ifn c11 h
    refine g_aload_n (pc := 31) C dX12_laysNow_31 rfl 0 rfl ?_
    refine g_get (pc := 32) (v := va_rf (gR M7 x0 1)) C dX12_laysNow_32 kX12 hk1 1 (by decide) q_1228 rfl ?_
    replace h := bnd h; obtain ⟨a12, ea12, h⟩ := h
    refine g_refq ea12 ?_
    refine g_bipush (pc := 35) (v := 38) C dX12_laysNow_35 (by decide) ?_
    refine g_aload_n (pc := 37) C dX12_laysNow_37 rfl 0 rfl ?_
    refine g_get (pc := 38) (v := va_rf (gR M7 x0 1)) C dX12_laysNow_38 kX12 hk1 1 (by decide) q_1228 rfl ?_
    replace h := bnd h; obtain ⟨a13, ea13, h⟩ := h
    refine g_refq ea13 ?_
    refine g_bipush (pc := 41) (v := 49) C dX12_laysNow_41 (by decide) ?_
    replace h := gd_some h; obtain ⟨hk14, h⟩ := h
    replace h := gv_some h; obtain ⟨hi15, h⟩ := h
    refine g_iald (pc := 43) C dX12_laysNow_43 hk14 hi15 ?_
    refine g_iadd (pc := 44) C dX12_laysNow_44 ?_
    replace h := gd_some h; obtain ⟨hk16, h⟩ := h
    replace h := gv_some h; obtain ⟨hi17, h⟩ := h
    refine g_iald (pc := 45) C dX12_laysNow_45 hk16 hi17 ?_
    refine g_putI (pc := 46) C dX12_laysNow_46 kX12 hk1 19 (by decide) rfl rfl rfl q_1246 ?_
    refine g_mem (fun M18 eM18 => ?_)
    replace h := lt_at eM18 h
    obtain ⟨-, rfl⟩ := Prod.mk.inj (Option.some.inj h)
    exact g_vret C hR dX12_laysNow_49
  · replace h := ifp c11 h
    refine g_iconst (pc := 27) (v := 0) C dX12_laysNow_27 (by decide) ?_
    refine g_goto (pc := 28) (tgt := 46) C dX12_laysNow_28 (by decide) ?_
    refine g_putI (pc := 46) C dX12_laysNow_46 kX12 hk1 19 (by decide) rfl rfl rfl q_1246 ?_
    refine g_mem (fun M19 eM19 => ?_)
    replace h := lt_at eM19 h
    obtain ⟨-, rfl⟩ := Prod.mk.inj (Option.some.inj h)
    exact g_vret C hR dX12_laysNow_49
theorem dX12_isPassed_0 : decode cX12_isPassed 0 = .ok (.iload_n 2, 1) := by decide +kernel
theorem dX12_isPassed_1 : decode cX12_isPassed 1 = .ok (.bipush 24, 2) := by decide +kernel
theorem dX12_isPassed_3 : decode cX12_isPassed 3 = .ok (.irem, 1) := by decide +kernel
theorem dX12_isPassed_4 : decode cX12_isPassed 4 = .ok (.istore_n 3, 1) := by decide +kernel
theorem dX12_isPassed_5 : decode cX12_isPassed 5 = .ok (.iload_n 2, 1) := by decide +kernel
theorem dX12_isPassed_6 : decode cX12_isPassed 6 = .ok (.bipush 24, 2) := by decide +kernel
theorem dX12_isPassed_8 : decode cX12_isPassed 8 = .ok (.idiv, 1) := by decide +kernel
theorem dX12_isPassed_9 : decode cX12_isPassed 9 = .ok (.istore 4, 2) := by decide +kernel
theorem dX12_isPassed_11 : decode cX12_isPassed 11 = .ok (.aload_n 0, 1) := by decide +kernel
theorem dX12_isPassed_12 : decode cX12_isPassed 12 = .ok (.getfield 13, 3) := by decide +kernel
theorem dX12_isPassed_15 : decode cX12_isPassed 15 = .ok (.iconst 5, 1) := by decide +kernel
theorem dX12_isPassed_16 : decode cX12_isPassed 16 = .ok (.iaload, 1) := by decide +kernel
theorem dX12_isPassed_17 : decode cX12_isPassed 17 = .ok (.iconst 1, 1) := by decide +kernel
theorem dX12_isPassed_18 : decode cX12_isPassed 18 = .ok (.if_icmp .ne 60, 3) := by decide +kernel
theorem dX12_isPassed_21 : decode cX12_isPassed 21 = .ok (.aload_n 0, 1) := by decide +kernel
theorem dX12_isPassed_22 : decode cX12_isPassed 22 = .ok (.getfield 33, 3) := by decide +kernel
theorem dX12_isPassed_25 : decode cX12_isPassed 25 = .ok (.iconst 0, 1) := by decide +kernel
theorem dX12_isPassed_26 : decode cX12_isPassed 26 = .ok (.iload_n 3, 1) := by decide +kernel
theorem dX12_isPassed_27 : decode cX12_isPassed 27 = .ok (.iastore, 1) := by decide +kernel
theorem dX12_isPassed_28 : decode cX12_isPassed 28 = .ok (.aload_n 0, 1) := by decide +kernel
theorem dX12_isPassed_29 : decode cX12_isPassed 29 = .ok (.getfield 33, 3) := by decide +kernel
theorem dX12_isPassed_32 : decode cX12_isPassed 32 = .ok (.iconst 1, 1) := by decide +kernel
theorem dX12_isPassed_33 : decode cX12_isPassed 33 = .ok (.iload 4, 2) := by decide +kernel
theorem dX12_isPassed_35 : decode cX12_isPassed 35 = .ok (.iastore, 1) := by decide +kernel
theorem dX12_isPassed_36 : decode cX12_isPassed 36 = .ok (.aload_n 0, 1) := by decide +kernel
theorem dX12_isPassed_37 : decode cX12_isPassed 37 = .ok (.getfield 33, 3) := by decide +kernel
theorem dX12_isPassed_40 : decode cX12_isPassed 40 = .ok (.iconst 2, 1) := by decide +kernel
theorem dX12_isPassed_41 : decode cX12_isPassed 41 = .ok (.iload_n 1, 1) := by decide +kernel
theorem dX12_isPassed_42 : decode cX12_isPassed 42 = .ok (.iastore, 1) := by decide +kernel
theorem dX12_isPassed_43 : decode cX12_isPassed 43 = .ok (.aload_n 0, 1) := by decide +kernel
theorem dX12_isPassed_44 : decode cX12_isPassed 44 = .ok (.getfield 33, 3) := by decide +kernel
theorem dX12_isPassed_47 : decode cX12_isPassed 47 = .ok (.iconst 3, 1) := by decide +kernel
theorem dX12_isPassed_48 : decode cX12_isPassed 48 = .ok (.aload_n 0, 1) := by decide +kernel
theorem dX12_isPassed_49 : decode cX12_isPassed 49 = .ok (.getfield 223, 3) := by decide +kernel
theorem dX12_isPassed_52 : decode cX12_isPassed 52 = .ok (.iastore, 1) := by decide +kernel
theorem dX12_isPassed_53 : decode cX12_isPassed 53 = .ok (.aload_n 0, 1) := by decide +kernel
theorem dX12_isPassed_54 : decode cX12_isPassed 54 = .ok (.getfield 33, 3) := by decide +kernel
theorem dX12_isPassed_57 : decode cX12_isPassed 57 = .ok (.iconst 4, 1) := by decide +kernel
theorem dX12_isPassed_58 : decode cX12_isPassed 58 = .ok (.aload_n 0, 1) := by decide +kernel
theorem dX12_isPassed_59 : decode cX12_isPassed 59 = .ok (.getfield 220, 3) := by decide +kernel
theorem dX12_isPassed_62 : decode cX12_isPassed 62 = .ok (.iastore, 1) := by decide +kernel
theorem dX12_isPassed_63 : decode cX12_isPassed 63 = .ok (.aload_n 0, 1) := by decide +kernel
theorem dX12_isPassed_64 : decode cX12_isPassed 64 = .ok (.iconst 0, 1) := by decide +kernel
theorem dX12_isPassed_65 : decode cX12_isPassed 65 = .ok (.invokevirtual 214, 3) := by decide +kernel
theorem dX12_isPassed_68 : decode cX12_isPassed 68 = .ok (.iconst 1, 1) := by decide +kernel
theorem dX12_isPassed_69 : decode cX12_isPassed 69 = .ok (.if_icmp .ne 7, 3) := by decide +kernel
theorem dX12_isPassed_72 : decode cX12_isPassed 72 = .ok (.iconst 1, 1) := by decide +kernel
theorem dX12_isPassed_73 : decode cX12_isPassed 73 = .ok (.goto 4, 3) := by decide +kernel
theorem dX12_isPassed_76 : decode cX12_isPassed 76 = .ok (.iconst 0, 1) := by decide +kernel
theorem dX12_isPassed_77 : decode cX12_isPassed 77 = .ok (.ireturn, 1) := by decide +kernel
theorem dX12_isPassed_78 : decode cX12_isPassed 78 = .ok (.aload_n 0, 1) := by decide +kernel
theorem dX12_isPassed_79 : decode cX12_isPassed 79 = .ok (.getfield 13, 3) := by decide +kernel
theorem dX12_isPassed_82 : decode cX12_isPassed 82 = .ok (.bipush 26, 2) := by decide +kernel
theorem dX12_isPassed_84 : decode cX12_isPassed 84 = .ok (.iload_n 1, 1) := by decide +kernel
theorem dX12_isPassed_85 : decode cX12_isPassed 85 = .ok (.iadd, 1) := by decide +kernel
theorem dX12_isPassed_86 : decode cX12_isPassed 86 = .ok (.iaload, 1) := by decide +kernel
theorem dX12_isPassed_87 : decode cX12_isPassed 87 = .ok (.aload_n 0, 1) := by decide +kernel
theorem dX12_isPassed_88 : decode cX12_isPassed 88 = .ok (.getfield 223, 3) := by decide +kernel
theorem dX12_isPassed_91 : decode cX12_isPassed 91 = .ok (.isub, 1) := by decide +kernel
theorem dX12_isPassed_92 : decode cX12_isPassed 92 = .ok (.istore 5, 2) := by decide +kernel
theorem dX12_isPassed_94 : decode cX12_isPassed 94 = .ok (.iload 5, 2) := by decide +kernel
theorem dX12_isPassed_96 : decode cX12_isPassed 96 = .ok (.ifCond .le 70, 3) := by decide +kernel
theorem dX12_isPassed_99 : decode cX12_isPassed 99 = .ok (.iload_n 3, 1) := by decide +kernel
theorem dX12_isPassed_100 : decode cX12_isPassed 100 = .ok (.aload_n 0, 1) := by decide +kernel
theorem dX12_isPassed_101 : decode cX12_isPassed 101 = .ok (.getfield 13, 3) := by decide +kernel
theorem dX12_isPassed_104 : decode cX12_isPassed 104 = .ok (.bipush 14, 2) := by decide +kernel
theorem dX12_isPassed_106 : decode cX12_isPassed 106 = .ok (.iload_n 1, 1) := by decide +kernel
theorem dX12_isPassed_107 : decode cX12_isPassed 107 = .ok (.iadd, 1) := by decide +kernel
theorem dX12_isPassed_108 : decode cX12_isPassed 108 = .ok (.iaload, 1) := by decide +kernel
theorem dX12_isPassed_109 : decode cX12_isPassed 109 = .ok (.isub, 1) := by decide +kernel
theorem dX12_isPassed_110 : decode cX12_isPassed 110 = .ok (.aload_n 0, 1) := by decide +kernel
theorem dX12_isPassed_111 : decode cX12_isPassed 111 = .ok (.getfield 220, 3) := by decide +kernel
theorem dX12_isPassed_114 : decode cX12_isPassed 114 = .ok (.isub, 1) := by decide +kernel
theorem dX12_isPassed_115 : decode cX12_isPassed 115 = .ok (.invokestatic 226, 3) := by decide +kernel
theorem dX12_isPassed_118 : decode cX12_isPassed 118 = .ok (.aload_n 0, 1) := by decide +kernel
theorem dX12_isPassed_119 : decode cX12_isPassed 119 = .ok (.getfield 13, 3) := by decide +kernel
theorem dX12_isPassed_122 : decode cX12_isPassed 122 = .ok (.bipush 32, 2) := by decide +kernel
theorem dX12_isPassed_124 : decode cX12_isPassed 124 = .ok (.iload_n 1, 1) := by decide +kernel
theorem dX12_isPassed_125 : decode cX12_isPassed 125 = .ok (.iadd, 1) := by decide +kernel
theorem dX12_isPassed_126 : decode cX12_isPassed 126 = .ok (.iaload, 1) := by decide +kernel
theorem dX12_isPassed_127 : decode cX12_isPassed 127 = .ok (.imul, 1) := by decide +kernel
theorem dX12_isPassed_128 : decode cX12_isPassed 128 = .ok (.iload 4, 2) := by decide +kernel
theorem dX12_isPassed_130 : decode cX12_isPassed 130 = .ok (.aload_n 0, 1) := by decide +kernel
theorem dX12_isPassed_131 : decode cX12_isPassed 131 = .ok (.getfield 13, 3) := by decide +kernel
theorem dX12_isPassed_134 : decode cX12_isPassed 134 = .ok (.bipush 20, 2) := by decide +kernel
theorem dX12_isPassed_136 : decode cX12_isPassed 136 = .ok (.iload_n 1, 1) := by decide +kernel
theorem dX12_isPassed_137 : decode cX12_isPassed 137 = .ok (.iadd, 1) := by decide +kernel
theorem dX12_isPassed_138 : decode cX12_isPassed 138 = .ok (.iaload, 1) := by decide +kernel
theorem dX12_isPassed_139 : decode cX12_isPassed 139 = .ok (.isub, 1) := by decide +kernel
theorem dX12_isPassed_140 : decode cX12_isPassed 140 = .ok (.invokestatic 226, 3) := by decide +kernel
theorem dX12_isPassed_143 : decode cX12_isPassed 143 = .ok (.iload 5, 2) := by decide +kernel
theorem dX12_isPassed_145 : decode cX12_isPassed 145 = .ok (.imul, 1) := by decide +kernel
theorem dX12_isPassed_146 : decode cX12_isPassed 146 = .ok (.iadd, 1) := by decide +kernel
theorem dX12_isPassed_147 : decode cX12_isPassed 147 = .ok (.iload 5, 2) := by decide +kernel
theorem dX12_isPassed_149 : decode cX12_isPassed 149 = .ok (.aload_n 0, 1) := by decide +kernel
theorem dX12_isPassed_150 : decode cX12_isPassed 150 = .ok (.getfield 13, 3) := by decide +kernel
theorem dX12_isPassed_153 : decode cX12_isPassed 153 = .ok (.bipush 32, 2) := by decide +kernel
theorem dX12_isPassed_155 : decode cX12_isPassed 155 = .ok (.iload_n 1, 1) := by decide +kernel
theorem dX12_isPassed_156 : decode cX12_isPassed 156 = .ok (.iadd, 1) := by decide +kernel
theorem dX12_isPassed_157 : decode cX12_isPassed 157 = .ok (.iaload, 1) := by decide +kernel
theorem dX12_isPassed_158 : decode cX12_isPassed 158 = .ok (.imul, 1) := by decide +kernel
theorem dX12_isPassed_159 : decode cX12_isPassed 159 = .ok (.if_icmp .ge 7, 3) := by decide +kernel
theorem dX12_isPassed_162 : decode cX12_isPassed 162 = .ok (.iconst 1, 1) := by decide +kernel
theorem dX12_isPassed_163 : decode cX12_isPassed 163 = .ok (.goto 4, 3) := by decide +kernel
theorem dX12_isPassed_166 : decode cX12_isPassed 166 = .ok (.iconst 0, 1) := by decide +kernel
theorem dX12_isPassed_167 : decode cX12_isPassed 167 = .ok (.ireturn, 1) := by decide +kernel
theorem wX12_isPassed : Mw yX12_isPassed cX12_isPassed 6 (some .boolean) 2 := ⟨q_1507, q_130, by decide, ⟨by decide +kernel, by decide +kernel⟩, by decide +kernel, by decide +kernel⟩
/-- EyeTrainerModel.isPassed(II)Z -/
def fX12_isPassed (T : Sh) (M : Me) (x0 : Nat) (x1 : Int32) (x2 : Int32) : Option (Int32 × Me) :=
  lt (x2 - x2 / (24 : Int32) * (24 : Int32)) fun v1 => lt (x2 / (24 : Int32)) fun v2 => gd (kd T x0 = 11) <| Option.bind (gR M x0 1) fun a4 => gd (kd T a4 = 13) <| gv (5 : Int32) (ln T a4) <| if (gI M a4 (Int32.toNatClampNeg (5 : Int32))) = (1 : Int32) then (Option.bind (gR M x0 17) fun a28 => gd (kd T a28 = 13) <| gv (0 : Int32) (ln T a28) <| lt (pI M a28 (Int32.toNatClampNeg (0 : Int32)) v1) fun M31 => Option.bind (gR M31 x0 17) fun a32 => gd (kd T a32 = 13) <| gv (1 : Int32) (ln T a32) <| lt (pI M31 a32 (Int32.toNatClampNeg (1 : Int32)) v2) fun M35 => Option.bind (gR M35 x0 17) fun a36 => gd (kd T a36 = 13) <| gv (2 : Int32) (ln T a36) <| lt (pI M35 a36 (Int32.toNatClampNeg (2 : Int32)) x1) fun M39 => Option.bind (gR M39 x0 17) fun a40 => gd (kd T a40 = 13) <| gv (3 : Int32) (ln T a40) <| lt (pI M39 a40 (Int32.toNatClampNeg (3 : Int32)) (gI M39 x0 19)) fun M43 => Option.bind (gR M43 x0 17) fun a44 => gd (kd T a44 = 13) <| gv (4 : Int32) (ln T a44) <| lt (pI M43 a44 (Int32.toNatClampNeg (4 : Int32)) (gI M43 x0 18)) fun M47 => Option.bind (fX12_reckons T M47 x0 (0 : Int32)) <| un2 fun r48 M49 => if r48 = (1 : Int32) then (some ((1 : Int32), M49)) else (some ((0 : Int32), M49))) else (Option.bind (gR M x0 1) fun a8 => gd (kd T a8 = 13) <| gv ((26 : Int32) + x1) (ln T a8) <| lt ((gI M a8 (Int32.toNatClampNeg ((26 : Int32) + x1))) - (gI M x0 19)) fun v11 => if v11 ≤ 0 then (some ((0 : Int32), M)) else (Option.bind (gR M x0 1) fun a13 => gd (kd T a13 = 13) <| gv ((14 : Int32) + x1) (ln T a13) <| Option.bind (fX12_plainOf ((v1 - (gI M a13 (Int32.toNatClampNeg ((14 : Int32) + x1)))) - (gI M x0 18))) fun r16 => Option.bind (gR M x0 1) fun a17 => gd (kd T a17 = 13) <| gv ((32 : Int32) + x1) (ln T a17) <| Option.bind (gR M x0 1) fun a20 => gd (kd T a20 = 13) <| gv ((20 : Int32) + x1) (ln T a20) <| Option.bind (fX12_plainOf (v2 - (gI M a20 (Int32.toNatClampNeg ((20 : Int32) + x1))))) fun r23 => Option.bind (gR M x0 1) fun a24 => gd (kd T a24 = 13) <| gv ((32 : Int32) + x1) (ln T a24) <| if (v11 * (gI M a24 (Int32.toNatClampNeg ((32 : Int32) + x1)))) ≤ ((r16 * (gI M a17 (Int32.toNatClampNeg ((32 : Int32) + x1)))) + (r23 * v11)) then (some ((0 : Int32), M)) else (some ((1 : Int32), M))))
set_option maxHeartbeats 4000000 in
theorem kX12_isPassed {l : Launch} {B : Bx} {d : Nat} (hd : 2 ≤ d) {T : Sh} {M : Me} {x0 : Nat} {x1 : Int32} {x2 : Int32} {r : Int32} {M' : Me} (h : fX12_isPassed T M x0 x1 x2 = some (r, M')) : Kt l B yX12_isPassed cX12_isPassed 6 (some .boolean) d [.ref (x0), .int (x1), .int (x2)] T M (some (.int r)) T M' := by
  refine kt_of wX12_isPassed (Nat.le_refl _) (Nat.le_refl _) (Nat.le_of_ble_eq_true rfl) (fun X C hR hlx hin => ?_)
  subst hlx
  replace C : Cx X B cX12_isPassed 6 RX12 d (tp T, sl T, tp T, sl T) := C
  unfold fX12_isPassed at h
  show G X B 6 _ _ 0 [(0, .ref (x0)), (1, .int (x1)), (2, .int (x2))] [] T M
  refine g_iload_n (pc := 0) C dX12_isPassed_0 rfl 2 rfl ?_
  refine g_bipush (pc := 1) (v := 24) C dX12_isPassed_1 (by decide) ?_
  refine g_irem (pc := 3) C dX12_isPassed_3 (by decide) ?_
  refine g_topi (fun v1 ev1 => ?_)
  replace h := lt_at ev1 h
  refine g_istore_n (pc := 4) (lo2 := [(3, .int (v1)), (0, .ref (x0)), (1, .int (x1)), (2, .int (x2))]) C dX12_isPassed_4 rfl (by decide) rfl ?_
  refine g_iload_n (pc := 5) C dX12_isPassed_5 rfl 3 rfl ?_
  refine g_bipush (pc := 6) (v := 24) C dX12_isPassed_6 (by decide) ?_
  refine g_idiv (pc := 8) C dX12_isPassed_8 (by decide) ?_
  refine g_topi (fun v2 ev2 => ?_)
  replace h := lt_at ev2 h
  refine g_istore (pc := 9) (lo2 := [(4, .int (v2)), (3, .int (v1)), (0, .ref (x0)), (1, .int (x1)), (2, .int (x2))]) C dX12_isPassed_9 (by decide) rfl ?_
  refine g_aload_n (pc := 11) C dX12_isPassed_11 rfl 2 rfl ?_
  replace h := gd_some h; obtain ⟨hk3, h⟩ := h
  refine g_get (pc := 12) (v := va_rf (gR M x0 1)) C dX12_isPassed_12 kX12 hk3 1 (by decide) q_1228 rfl ?_
  replace h := bnd h; obtain ⟨a4, ea4, h⟩ := h
  refine g_refq ea4 ?_
  refine g_iconst (pc := 15) (v := 5) C dX12_isPassed_15 (by decide) ?_
  replace h := gd_some h; obtain ⟨hk5, h⟩ := h
  replace h := gv_some h; obtain ⟨hi6, h⟩ := h
  refine g_iald (pc := 16) C dX12_isPassed_16 hk5 hi6 ?_
  refine g_iconst (pc := 17) (v := 1) C dX12_isPassed_17 (by decide) ?_
  refine g_icmp_ne (pc := 18) (tgt := 78) C dX12_isPassed_18 (by decide) (fun c7 => ?_) (fun c7 => ?_)
  · replace h := ifn c7 h
    refine g_aload_n (pc := 78) C dX12_isPassed_78 rfl 2 rfl ?_
    refine g_get (pc := 79) (v := va_rf (gR M x0 1)) C dX12_isPassed_79 kX12 hk3 1 (by decide) q_1228 rfl ?_
    replace h := bnd h; obtain ⟨a8, ea8, h⟩ := h
    refine g_refq ea8 ?_
    refine g_bipush (pc := 82) (v := 26) C dX12_isPassed_82 (by decide) ?_
    refine g_iload_n (pc := 84) C dX12_isPassed_84 rfl 3 rfl ?_
    refine g_iadd (pc := 85) C dX12_isPassed_85 ?_
    replace h := gd_some h; obtain ⟨hk9, h⟩ := h
    replace h := gv_some h; obtain ⟨hi10, h⟩ := h
    refine g_iald (pc := 86) C dX12_isPassed_86 hk9 hi10 ?_
    refine g_aload_n (pc := 87) C dX12_isPassed_87 rfl 2 rfl ?_
    refine g_get (pc := 88) (v := .int (gI M x0 19)) C dX12_isPassed_88 kX12 hk3 19 (by decide) q_1246 rfl ?_
    refine g_isub (pc := 91) C dX12_isPassed_91 ?_
    refine g_topi (fun v11 ev11 => ?_)
    replace h := lt_at ev11 h
    refine g_istore (pc := 92) (lo2 := [(5, .int (v11)), (4, .int (v2)), (3, .int (v1)), (0, .ref (x0)), (1, .int (x1)), (2, .int (x2))]) C dX12_isPassed_92 (by decide) rfl ?_
    refine g_iload (pc := 94) C dX12_isPassed_94 0 rfl ?_
    refine g_if_le (pc := 96) (tgt := 166) C dX12_isPassed_96 (by decide) (fun c12 => ?_) (fun c12 => ?_)
    · replace h := ifp c12 h
      refine g_iconst (pc := 166) (v := 0) C dX12_isPassed_166 (by decide) ?_
      obtain ⟨rfl, rfl⟩ := Prod.mk.inj (Option.some.inj h)
      exact g_zret C hR dX12_isPassed_167 rfl
    · replace h := ifn c12 h
      refine g_iload_n (pc := 99) C dX12_isPassed_99 rfl 2 rfl ?_
      refine g_aload_n (pc := 100) C dX12_isPassed_100 rfl 3 rfl ?_
      refine g_get (pc := 101) (v := va_rf (gR M x0 1)) C dX12_isPassed_101 kX12 hk3 1 (by decide) q_1228 rfl ?_
      replace h := bnd h; obtain ⟨a13, ea13, h⟩ := h
      refine g_refq ea13 ?_
      refine g_bipush (pc := 104) (v := 14) C dX12_isPassed_104 (by decide) ?_
      refine g_iload_n (pc := 106) C dX12_isPassed_106 rfl 4 rfl ?_
      refine g_iadd (pc := 107) C dX12_isPassed_107 ?_
      replace h := gd_some h; obtain ⟨hk14, h⟩ := h
      replace h := gv_some h; obtain ⟨hi15, h⟩ := h
      refine g_iald (pc := 108) C dX12_isPassed_108 hk14 hi15 ?_
      refine g_isub (pc := 109) C dX12_isPassed_109 ?_
      refine g_aload_n (pc := 110) C dX12_isPassed_110 rfl 3 rfl ?_
      refine g_get (pc := 111) (v := .int (gI M x0 18)) C dX12_isPassed_111 kX12 hk3 18 (by decide) q_1245 rfl ?_
      refine g_isub (pc := 114) C dX12_isPassed_114 ?_
      replace h := bnd h; obtain ⟨r16, h1, h⟩ := h
      refine g_callSi (pc := 115) (As := [.int ((v1 - (gI M a13 (Int32.toNatClampNeg ((14 : Int32) + x1)))) - (gI M x0 18))]) (st := []) C dX12_isPassed_115 wX12_plainOf q_1509 q_1508 (by omega) rfl (Nat.le_of_ble_eq_true rfl) (kX12_plainOf (d := 0) (Nat.le_refl _) h1) ?_
      refine g_aload_n (pc := 118) C dX12_isPassed_118 rfl 3 rfl ?_
      refine g_get (pc := 119) (v := va_rf (gR M x0 1)) C dX12_isPassed_119 kX12 hk3 1 (by decide) q_1228 rfl ?_
      replace h := bnd h; obtain ⟨a17, ea17, h⟩ := h
      refine g_refq ea17 ?_
      refine g_bipush (pc := 122) (v := 32) C dX12_isPassed_122 (by decide) ?_
      refine g_iload_n (pc := 124) C dX12_isPassed_124 rfl 4 rfl ?_
      refine g_iadd (pc := 125) C dX12_isPassed_125 ?_
      replace h := gd_some h; obtain ⟨hk18, h⟩ := h
      replace h := gv_some h; obtain ⟨hi19, h⟩ := h
      refine g_iald (pc := 126) C dX12_isPassed_126 hk18 hi19 ?_
      refine g_imul (pc := 127) C dX12_isPassed_127 ?_
      refine g_iload (pc := 128) C dX12_isPassed_128 1 rfl ?_
      refine g_aload_n (pc := 130) C dX12_isPassed_130 rfl 3 rfl ?_
      refine g_get (pc := 131) (v := va_rf (gR M x0 1)) C dX12_isPassed_131 kX12 hk3 1 (by decide) q_1228 rfl ?_
      replace h := bnd h; obtain ⟨a20, ea20, h⟩ := h
      refine g_refq ea20 ?_
      refine g_bipush (pc := 134) (v := 20) C dX12_isPassed_134 (by decide) ?_
      refine g_iload_n (pc := 136) C dX12_isPassed_136 rfl 4 rfl ?_
      refine g_iadd (pc := 137) C dX12_isPassed_137 ?_
      replace h := gd_some h; obtain ⟨hk21, h⟩ := h
      replace h := gv_some h; obtain ⟨hi22, h⟩ := h
      refine g_iald (pc := 138) C dX12_isPassed_138 hk21 hi22 ?_
      refine g_isub (pc := 139) C dX12_isPassed_139 ?_
      replace h := bnd h; obtain ⟨r23, h1, h⟩ := h
      refine g_callSi (pc := 140) (As := [.int (v2 - (gI M a20 (Int32.toNatClampNeg ((20 : Int32) + x1))))]) (st := [.int (r16 * (gI M a17 (Int32.toNatClampNeg ((32 : Int32) + x1))))]) C dX12_isPassed_140 wX12_plainOf q_1509 q_1508 (by omega) rfl (Nat.le_of_ble_eq_true rfl) (kX12_plainOf (d := 0) (Nat.le_refl _) h1) ?_
      refine g_iload (pc := 143) C dX12_isPassed_143 0 rfl ?_
      refine g_imul (pc := 145) C dX12_isPassed_145 ?_
      refine g_iadd (pc := 146) C dX12_isPassed_146 ?_
      refine g_iload (pc := 147) C dX12_isPassed_147 0 rfl ?_
      refine g_aload_n (pc := 149) C dX12_isPassed_149 rfl 3 rfl ?_
      refine g_get (pc := 150) (v := va_rf (gR M x0 1)) C dX12_isPassed_150 kX12 hk3 1 (by decide) q_1228 rfl ?_
      replace h := bnd h; obtain ⟨a24, ea24, h⟩ := h
      refine g_refq ea24 ?_
      refine g_bipush (pc := 153) (v := 32) C dX12_isPassed_153 (by decide) ?_
      refine g_iload_n (pc := 155) C dX12_isPassed_155 rfl 4 rfl ?_
      refine g_iadd (pc := 156) C dX12_isPassed_156 ?_
      replace h := gd_some h; obtain ⟨hk25, h⟩ := h
      replace h := gv_some h; obtain ⟨hi26, h⟩ := h
      refine g_iald (pc := 157) C dX12_isPassed_157 hk25 hi26 ?_
      refine g_imul (pc := 158) C dX12_isPassed_158 ?_
      refine g_icmp_ge (pc := 159) (tgt := 166) C dX12_isPassed_159 (by decide) (fun c27 => ?_) (fun c27 => ?_)
      · replace h := ifp c27 h
        refine g_iconst (pc := 166) (v := 0) C dX12_isPassed_166 (by decide) ?_
        obtain ⟨rfl, rfl⟩ := Prod.mk.inj (Option.some.inj h)
        exact g_zret C hR dX12_isPassed_167 rfl
      · replace h := ifn c27 h
        refine g_iconst (pc := 162) (v := 1) C dX12_isPassed_162 (by decide) ?_
        refine g_goto (pc := 163) (tgt := 167) C dX12_isPassed_163 (by decide) ?_
        obtain ⟨rfl, rfl⟩ := Prod.mk.inj (Option.some.inj h)
        exact g_zret C hR dX12_isPassed_167 rfl
  · replace h := ifp c7 h
    refine g_aload_n (pc := 21) C dX12_isPassed_21 rfl 2 rfl ?_
    refine g_get (pc := 22) (v := va_rf (gR M x0 17)) C dX12_isPassed_22 kX12 hk3 17 (by decide) q_1244 rfl ?_
    replace h := bnd h; obtain ⟨a28, ea28, h⟩ := h
    refine g_refq ea28 ?_
    refine g_iconst (pc := 25) (v := 0) C dX12_isPassed_25 (by decide) ?_
    refine g_iload_n (pc := 26) C dX12_isPassed_26 rfl 1 rfl ?_
    replace h := gd_some h; obtain ⟨hk29, h⟩ := h
    replace h := gv_some h; obtain ⟨hi30, h⟩ := h
    refine g_iast (pc := 27) C dX12_isPassed_27 hk29 hi30 ?_
    refine g_mem (fun M31 eM31 => ?_)
    replace h := lt_at eM31 h
    refine g_aload_n (pc := 28) C dX12_isPassed_28 rfl 2 rfl ?_
    refine g_get (pc := 29) (v := va_rf (gR M31 x0 17)) C dX12_isPassed_29 kX12 hk3 17 (by decide) q_1244 rfl ?_
    replace h := bnd h; obtain ⟨a32, ea32, h⟩ := h
    refine g_refq ea32 ?_
    refine g_iconst (pc := 32) (v := 1) C dX12_isPassed_32 (by decide) ?_
    refine g_iload (pc := 33) C dX12_isPassed_33 0 rfl ?_
    replace h := gd_some h; obtain ⟨hk33, h⟩ := h
    replace h := gv_some h; obtain ⟨hi34, h⟩ := h
    refine g_iast (pc := 35) C dX12_isPassed_35 hk33 hi34 ?_
    refine g_mem (fun M35 eM35 => ?_)
    replace h := lt_at eM35 h
    refine g_aload_n (pc := 36) C dX12_isPassed_36 rfl 2 rfl ?_
    refine g_get (pc := 37) (v := va_rf (gR M35 x0 17)) C dX12_isPassed_37 kX12 hk3 17 (by decide) q_1244 rfl ?_
    replace h := bnd h; obtain ⟨a36, ea36, h⟩ := h
    refine g_refq ea36 ?_
    refine g_iconst (pc := 40) (v := 2) C dX12_isPassed_40 (by decide) ?_
    refine g_iload_n (pc := 41) C dX12_isPassed_41 rfl 3 rfl ?_
    replace h := gd_some h; obtain ⟨hk37, h⟩ := h
    replace h := gv_some h; obtain ⟨hi38, h⟩ := h
    refine g_iast (pc := 42) C dX12_isPassed_42 hk37 hi38 ?_
    refine g_mem (fun M39 eM39 => ?_)
    replace h := lt_at eM39 h
    refine g_aload_n (pc := 43) C dX12_isPassed_43 rfl 2 rfl ?_
    refine g_get (pc := 44) (v := va_rf (gR M39 x0 17)) C dX12_isPassed_44 kX12 hk3 17 (by decide) q_1244 rfl ?_
    replace h := bnd h; obtain ⟨a40, ea40, h⟩ := h
    refine g_refq ea40 ?_
    refine g_iconst (pc := 47) (v := 3) C dX12_isPassed_47 (by decide) ?_
    refine g_aload_n (pc := 48) C dX12_isPassed_48 rfl 2 rfl ?_
    refine g_get (pc := 49) (v := .int (gI M39 x0 19)) C dX12_isPassed_49 kX12 hk3 19 (by decide) q_1246 rfl ?_
    replace h := gd_some h; obtain ⟨hk41, h⟩ := h
    replace h := gv_some h; obtain ⟨hi42, h⟩ := h
    refine g_iast (pc := 52) C dX12_isPassed_52 hk41 hi42 ?_
    refine g_mem (fun M43 eM43 => ?_)
    replace h := lt_at eM43 h
    refine g_aload_n (pc := 53) C dX12_isPassed_53 rfl 2 rfl ?_
    refine g_get (pc := 54) (v := va_rf (gR M43 x0 17)) C dX12_isPassed_54 kX12 hk3 17 (by decide) q_1244 rfl ?_
    replace h := bnd h; obtain ⟨a44, ea44, h⟩ := h
    refine g_refq ea44 ?_
    refine g_iconst (pc := 57) (v := 4) C dX12_isPassed_57 (by decide) ?_
    refine g_aload_n (pc := 58) C dX12_isPassed_58 rfl 2 rfl ?_
    refine g_get (pc := 59) (v := .int (gI M43 x0 18)) C dX12_isPassed_59 kX12 hk3 18 (by decide) q_1245 rfl ?_
    replace h := gd_some h; obtain ⟨hk45, h⟩ := h
    replace h := gv_some h; obtain ⟨hi46, h⟩ := h
    refine g_iast (pc := 62) C dX12_isPassed_62 hk45 hi46 ?_
    refine g_mem (fun M47 eM47 => ?_)
    replace h := lt_at eM47 h
    refine g_aload_n (pc := 63) C dX12_isPassed_63 rfl 2 rfl ?_
    refine g_iconst (pc := 64) (v := 0) C dX12_isPassed_64 (by decide) ?_
    replace h := bnd2 h; obtain ⟨r48, M49, h1, h⟩ := h
    refine g_callVi (pc := 65) (As := [.int ((0 : Int32))]) (st := []) C dX12_isPassed_65 wX12_reckons hk3 rfl (by decide) q_1493 q_78 q_1491 (by omega) rfl (Nat.le_of_ble_eq_true rfl) (kX12_reckons (d := 1) (Nat.le_refl _) h1) ?_
    refine g_iconst (pc := 68) (v := 1) C dX12_isPassed_68 (by decide) ?_
    refine g_icmp_ne (pc := 69) (tgt := 76) C dX12_isPassed_69 (by decide) (fun c50 => ?_) (fun c50 => ?_)
    · replace h := ifn c50 h
      refine g_iconst (pc := 76) (v := 0) C dX12_isPassed_76 (by decide) ?_
      obtain ⟨rfl, rfl⟩ := Prod.mk.inj (Option.some.inj h)
      exact g_zret C hR dX12_isPassed_77 rfl
    · replace h := ifp c50 h
      refine g_iconst (pc := 72) (v := 1) C dX12_isPassed_72 (by decide) ?_
      refine g_goto (pc := 73) (tgt := 77) C dX12_isPassed_73 (by decide) ?_
      obtain ⟨rfl, rfl⟩ := Prod.mk.inj (Option.some.inj h)
      exact g_zret C hR dX12_isPassed_77 rfl
theorem dX12_hasRisen_0 : decode cX12_hasRisen 0 = .ok (.aload_n 0, 1) := by decide +kernel
theorem dX12_hasRisen_1 : decode cX12_hasRisen 1 = .ok (.getfield 13, 3) := by decide +kernel
theorem dX12_hasRisen_4 : decode cX12_hasRisen 4 = .ok (.bipush 6, 2) := by decide +kernel
theorem dX12_hasRisen_6 : decode cX12_hasRisen 6 = .ok (.iaload, 1) := by decide +kernel
theorem dX12_hasRisen_7 : decode cX12_hasRisen 7 = .ok (.ifCond .ne 27, 3) := by decide +kernel
theorem dX12_hasRisen_10 : decode cX12_hasRisen 10 = .ok (.iload_n 2, 1) := by decide +kernel
theorem dX12_hasRisen_11 : decode cX12_hasRisen 11 = .ok (.aload_n 0, 1) := by decide +kernel
theorem dX12_hasRisen_12 : decode cX12_hasRisen 12 = .ok (.getfield 13, 3) := by decide +kernel
theorem dX12_hasRisen_15 : decode cX12_hasRisen 15 = .ok (.bipush 14, 2) := by decide +kernel
theorem dX12_hasRisen_17 : decode cX12_hasRisen 17 = .ok (.iload_n 1, 1) := by decide +kernel
theorem dX12_hasRisen_18 : decode cX12_hasRisen 18 = .ok (.iadd, 1) := by decide +kernel
theorem dX12_hasRisen_19 : decode cX12_hasRisen 19 = .ok (.iaload, 1) := by decide +kernel
theorem dX12_hasRisen_20 : decode cX12_hasRisen 20 = .ok (.aload_n 0, 1) := by decide +kernel
theorem dX12_hasRisen_21 : decode cX12_hasRisen 21 = .ok (.getfield 220, 3) := by decide +kernel
theorem dX12_hasRisen_24 : decode cX12_hasRisen 24 = .ok (.iadd, 1) := by decide +kernel
theorem dX12_hasRisen_25 : decode cX12_hasRisen 25 = .ok (.if_icmp .lt 7, 3) := by decide +kernel
theorem dX12_hasRisen_28 : decode cX12_hasRisen 28 = .ok (.iconst 1, 1) := by decide +kernel
theorem dX12_hasRisen_29 : decode cX12_hasRisen 29 = .ok (.goto 4, 3) := by decide +kernel
theorem dX12_hasRisen_32 : decode cX12_hasRisen 32 = .ok (.iconst 0, 1) := by decide +kernel
theorem dX12_hasRisen_33 : decode cX12_hasRisen 33 = .ok (.ireturn, 1) := by decide +kernel
theorem dX12_hasRisen_34 : decode cX12_hasRisen 34 = .ok (.aload_n 0, 1) := by decide +kernel
theorem dX12_hasRisen_35 : decode cX12_hasRisen 35 = .ok (.getfield 33, 3) := by decide +kernel
theorem dX12_hasRisen_38 : decode cX12_hasRisen 38 = .ok (.iconst 0, 1) := by decide +kernel
theorem dX12_hasRisen_39 : decode cX12_hasRisen 39 = .ok (.iload_n 2, 1) := by decide +kernel
theorem dX12_hasRisen_40 : decode cX12_hasRisen 40 = .ok (.iastore, 1) := by decide +kernel
theorem dX12_hasRisen_41 : decode cX12_hasRisen 41 = .ok (.aload_n 0, 1) := by decide +kernel
theorem dX12_hasRisen_42 : decode cX12_hasRisen 42 = .ok (.getfield 33, 3) := by decide +kernel
theorem dX12_hasRisen_45 : decode cX12_hasRisen 45 = .ok (.iconst 2, 1) := by decide +kernel
theorem dX12_hasRisen_46 : decode cX12_hasRisen 46 = .ok (.iload_n 1, 1) := by decide +kernel
theorem dX12_hasRisen_47 : decode cX12_hasRisen 47 = .ok (.iastore, 1) := by decide +kernel
theorem dX12_hasRisen_48 : decode cX12_hasRisen 48 = .ok (.aload_n 0, 1) := by decide +kernel
theorem dX12_hasRisen_49 : decode cX12_hasRisen 49 = .ok (.getfield 33, 3) := by decide +kernel
theorem dX12_hasRisen_52 : decode cX12_hasRisen 52 = .ok (.iconst 4, 1) := by decide +kernel
theorem dX12_hasRisen_53 : decode cX12_hasRisen 53 = .ok (.aload_n 0, 1) := by decide +kernel
theorem dX12_hasRisen_54 : decode cX12_hasRisen 54 = .ok (.getfield 220, 3) := by decide +kernel
theorem dX12_hasRisen_57 : decode cX12_hasRisen 57 = .ok (.iastore, 1) := by decide +kernel
theorem dX12_hasRisen_58 : decode cX12_hasRisen 58 = .ok (.aload_n 0, 1) := by decide +kernel
theorem dX12_hasRisen_59 : decode cX12_hasRisen 59 = .ok (.iconst 1, 1) := by decide +kernel
theorem dX12_hasRisen_60 : decode cX12_hasRisen 60 = .ok (.invokevirtual 214, 3) := by decide +kernel
theorem dX12_hasRisen_63 : decode cX12_hasRisen 63 = .ok (.iconst 1, 1) := by decide +kernel
theorem dX12_hasRisen_64 : decode cX12_hasRisen 64 = .ok (.if_icmp .ne 7, 3) := by decide +kernel
theorem dX12_hasRisen_67 : decode cX12_hasRisen 67 = .ok (.iconst 1, 1) := by decide +kernel
theorem dX12_hasRisen_68 : decode cX12_hasRisen 68 = .ok (.goto 4, 3) := by decide +kernel
theorem dX12_hasRisen_71 : decode cX12_hasRisen 71 = .ok (.iconst 0, 1) := by decide +kernel
theorem dX12_hasRisen_72 : decode cX12_hasRisen 72 = .ok (.ireturn, 1) := by decide +kernel
theorem wX12_hasRisen : Mw yX12_hasRisen cX12_hasRisen 3 (some .boolean) 2 := ⟨q_1553, q_130, by decide, ⟨by decide +kernel, by decide +kernel⟩, by decide +kernel, by decide +kernel⟩
/-- EyeTrainerModel.hasRisen(II)Z -/
def fX12_hasRisen (T : Sh) (M : Me) (x0 : Nat) (x1 : Int32) (x2 : Int32) : Option (Int32 × Me) :=
  gd (kd T x0 = 11) <| Option.bind (gR M x0 1) fun a2 => gd (kd T a2 = 13) <| gv (6 : Int32) (ln T a2) <| if (gI M a2 (Int32.toNatClampNeg (6 : Int32))) = 0 then (Option.bind (gR M x0 1) fun a21 => gd (kd T a21 = 13) <| gv ((14 : Int32) + x1) (ln T a21) <| if x2 < ((gI M a21 (Int32.toNatClampNeg ((14 : Int32) + x1))) + (gI M x0 18)) then (some ((0 : Int32), M)) else (some ((1 : Int32), M))) else (Option.bind (gR M x0 17) fun a6 => gd (kd T a6 = 13) <| gv (0 : Int32) (ln T a6) <| lt (pI M a6 (Int32.toNatClampNeg (0 : Int32)) x2) fun M9 => Option.bind (gR M9 x0 17) fun a10 => gd (kd T a10 = 13) <| gv (2 : Int32) (ln T a10) <| lt (pI M9 a10 (Int32.toNatClampNeg (2 : Int32)) x1) fun M13 => Option.bind (gR M13 x0 17) fun a14 => gd (kd T a14 = 13) <| gv (4 : Int32) (ln T a14) <| lt (pI M13 a14 (Int32.toNatClampNeg (4 : Int32)) (gI M13 x0 18)) fun M17 => Option.bind (fX12_reckons T M17 x0 (1 : Int32)) <| un2 fun r18 M19 => if r18 = (1 : Int32) then (some ((1 : Int32), M19)) else (some ((0 : Int32), M19)))
set_option maxHeartbeats 4000000 in
theorem kX12_hasRisen {l : Launch} {B : Bx} {d : Nat} (hd : 2 ≤ d) {T : Sh} {M : Me} {x0 : Nat} {x1 : Int32} {x2 : Int32} {r : Int32} {M' : Me} (h : fX12_hasRisen T M x0 x1 x2 = some (r, M')) : Kt l B yX12_hasRisen cX12_hasRisen 3 (some .boolean) d [.ref (x0), .int (x1), .int (x2)] T M (some (.int r)) T M' := by
  refine kt_of wX12_hasRisen (Nat.le_refl _) (Nat.le_refl _) (Nat.le_of_ble_eq_true rfl) (fun X C hR hlx hin => ?_)
  subst hlx
  replace C : Cx X B cX12_hasRisen 3 RX12 d (tp T, sl T, tp T, sl T) := C
  unfold fX12_hasRisen at h
  show G X B 3 _ _ 0 [(0, .ref (x0)), (1, .int (x1)), (2, .int (x2))] [] T M
  refine g_aload_n (pc := 0) C dX12_hasRisen_0 rfl 0 rfl ?_
  replace h := gd_some h; obtain ⟨hk1, h⟩ := h
  refine g_get (pc := 1) (v := va_rf (gR M x0 1)) C dX12_hasRisen_1 kX12 hk1 1 (by decide) q_1228 rfl ?_
  replace h := bnd h; obtain ⟨a2, ea2, h⟩ := h
  refine g_refq ea2 ?_
  refine g_bipush (pc := 4) (v := 6) C dX12_hasRisen_4 (by decide) ?_
  replace h := gd_some h; obtain ⟨hk3, h⟩ := h
  replace h := gv_some h; obtain ⟨hi4, h⟩ := h
  refine g_iald (pc := 6) C dX12_hasRisen_6 hk3 hi4 ?_
  refine g_if_ne (pc := 7) (tgt := 34) C dX12_hasRisen_7 (by decide) (fun c5 => ?_) (fun c5 => ?_)
  · replace h := ifn c5 h
    refine g_aload_n (pc := 34) C dX12_hasRisen_34 rfl 0 rfl ?_
    refine g_get (pc := 35) (v := va_rf (gR M x0 17)) C dX12_hasRisen_35 kX12 hk1 17 (by decide) q_1244 rfl ?_
    replace h := bnd h; obtain ⟨a6, ea6, h⟩ := h
    refine g_refq ea6 ?_
    refine g_iconst (pc := 38) (v := 0) C dX12_hasRisen_38 (by decide) ?_
    refine g_iload_n (pc := 39) C dX12_hasRisen_39 rfl 2 rfl ?_
    replace h := gd_some h; obtain ⟨hk7, h⟩ := h
    replace h := gv_some h; obtain ⟨hi8, h⟩ := h
    refine g_iast (pc := 40) C dX12_hasRisen_40 hk7 hi8 ?_
    refine g_mem (fun M9 eM9 => ?_)
    replace h := lt_at eM9 h
    refine g_aload_n (pc := 41) C dX12_hasRisen_41 rfl 0 rfl ?_
    refine g_get (pc := 42) (v := va_rf (gR M9 x0 17)) C dX12_hasRisen_42 kX12 hk1 17 (by decide) q_1244 rfl ?_
    replace h := bnd h; obtain ⟨a10, ea10, h⟩ := h
    refine g_refq ea10 ?_
    refine g_iconst (pc := 45) (v := 2) C dX12_hasRisen_45 (by decide) ?_
    refine g_iload_n (pc := 46) C dX12_hasRisen_46 rfl 1 rfl ?_
    replace h := gd_some h; obtain ⟨hk11, h⟩ := h
    replace h := gv_some h; obtain ⟨hi12, h⟩ := h
    refine g_iast (pc := 47) C dX12_hasRisen_47 hk11 hi12 ?_
    refine g_mem (fun M13 eM13 => ?_)
    replace h := lt_at eM13 h
    refine g_aload_n (pc := 48) C dX12_hasRisen_48 rfl 0 rfl ?_
    refine g_get (pc := 49) (v := va_rf (gR M13 x0 17)) C dX12_hasRisen_49 kX12 hk1 17 (by decide) q_1244 rfl ?_
    replace h := bnd h; obtain ⟨a14, ea14, h⟩ := h
    refine g_refq ea14 ?_
    refine g_iconst (pc := 52) (v := 4) C dX12_hasRisen_52 (by decide) ?_
    refine g_aload_n (pc := 53) C dX12_hasRisen_53 rfl 0 rfl ?_
    refine g_get (pc := 54) (v := .int (gI M13 x0 18)) C dX12_hasRisen_54 kX12 hk1 18 (by decide) q_1245 rfl ?_
    replace h := gd_some h; obtain ⟨hk15, h⟩ := h
    replace h := gv_some h; obtain ⟨hi16, h⟩ := h
    refine g_iast (pc := 57) C dX12_hasRisen_57 hk15 hi16 ?_
    refine g_mem (fun M17 eM17 => ?_)
    replace h := lt_at eM17 h
    refine g_aload_n (pc := 58) C dX12_hasRisen_58 rfl 0 rfl ?_
    refine g_iconst (pc := 59) (v := 1) C dX12_hasRisen_59 (by decide) ?_
    replace h := bnd2 h; obtain ⟨r18, M19, h1, h⟩ := h
    refine g_callVi (pc := 60) (As := [.int ((1 : Int32))]) (st := []) C dX12_hasRisen_60 wX12_reckons hk1 rfl (by decide) q_1493 q_78 q_1491 (by omega) rfl (Nat.le_of_ble_eq_true rfl) (kX12_reckons (d := 1) (Nat.le_refl _) h1) ?_
    refine g_iconst (pc := 63) (v := 1) C dX12_hasRisen_63 (by decide) ?_
    refine g_icmp_ne (pc := 64) (tgt := 71) C dX12_hasRisen_64 (by decide) (fun c20 => ?_) (fun c20 => ?_)
    · replace h := ifn c20 h
      refine g_iconst (pc := 71) (v := 0) C dX12_hasRisen_71 (by decide) ?_
      obtain ⟨rfl, rfl⟩ := Prod.mk.inj (Option.some.inj h)
      exact g_zret C hR dX12_hasRisen_72 rfl
    · replace h := ifp c20 h
      refine g_iconst (pc := 67) (v := 1) C dX12_hasRisen_67 (by decide) ?_
      refine g_goto (pc := 68) (tgt := 72) C dX12_hasRisen_68 (by decide) ?_
      obtain ⟨rfl, rfl⟩ := Prod.mk.inj (Option.some.inj h)
      exact g_zret C hR dX12_hasRisen_72 rfl
  · replace h := ifp c5 h
    refine g_iload_n (pc := 10) C dX12_hasRisen_10 rfl 2 rfl ?_
    refine g_aload_n (pc := 11) C dX12_hasRisen_11 rfl 0 rfl ?_
    refine g_get (pc := 12) (v := va_rf (gR M x0 1)) C dX12_hasRisen_12 kX12 hk1 1 (by decide) q_1228 rfl ?_
    replace h := bnd h; obtain ⟨a21, ea21, h⟩ := h
    refine g_refq ea21 ?_
    refine g_bipush (pc := 15) (v := 14) C dX12_hasRisen_15 (by decide) ?_
    refine g_iload_n (pc := 17) C dX12_hasRisen_17 rfl 1 rfl ?_
    refine g_iadd (pc := 18) C dX12_hasRisen_18 ?_
    replace h := gd_some h; obtain ⟨hk22, h⟩ := h
    replace h := gv_some h; obtain ⟨hi23, h⟩ := h
    refine g_iald (pc := 19) C dX12_hasRisen_19 hk22 hi23 ?_
    refine g_aload_n (pc := 20) C dX12_hasRisen_20 rfl 0 rfl ?_
    refine g_get (pc := 21) (v := .int (gI M x0 18)) C dX12_hasRisen_21 kX12 hk1 18 (by decide) q_1245 rfl ?_
    refine g_iadd (pc := 24) C dX12_hasRisen_24 ?_
    refine g_icmp_lt (pc := 25) (tgt := 32) C dX12_hasRisen_25 (by decide) (fun c24 => ?_) (fun c24 => ?_)
    · replace h := ifp c24 h
      refine g_iconst (pc := 32) (v := 0) C dX12_hasRisen_32 (by decide) ?_
      obtain ⟨rfl, rfl⟩ := Prod.mk.inj (Option.some.inj h)
      exact g_zret C hR dX12_hasRisen_33 rfl
    · replace h := ifn c24 h
      refine g_iconst (pc := 28) (v := 1) C dX12_hasRisen_28 (by decide) ?_
      refine g_goto (pc := 29) (tgt := 33) C dX12_hasRisen_29 (by decide) ?_
      obtain ⟨rfl, rfl⟩ := Prod.mk.inj (Option.some.inj h)
      exact g_zret C hR dX12_hasRisen_33 rfl
