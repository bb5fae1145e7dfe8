set_option maxRecDepth 20000 in
theorem q_20 : Cond.selects RX11 yX11_noLane yX11_noLane ∈ lw_gd := mem_gd (List.mem_of_getElem? (i := 20) (by decide +kernel)) rfl
set_option maxRecDepth 20000 in
theorem q_21 : Cond.selects RX11 yX11_passesInPoint yX11_passesInPoint ∈ lw_gd := mem_gd (List.mem_of_getElem? (i := 21) (by decide +kernel)) rfl
set_option maxRecDepth 20000 in
theorem q_22 : Cond.selects RX11 yX11_passesLater yX11_passesLater ∈ lw_gd := mem_gd (List.mem_of_getElem? (i := 22) (by decide +kernel)) rfl
set_option maxRecDepth 20000 in
theorem q_24 : Cond.selects RX11 yX11_rowNow yX11_rowNow ∈ lw_gd := mem_gd (List.mem_of_getElem? (i := 24) (by decide +kernel)) rfl
set_option maxRecDepth 20000 in
theorem q_27 : Cond.selects RX11 yX11_edgeOf yX11_edgeOf ∈ lw_gd := mem_gd (List.mem_of_getElem? (i := 27) (by decide +kernel)) rfl
set_option maxRecDepth 20000 in
theorem q_28 : Cond.selects RX11 yX11_look yX11_look ∈ lw_gd := mem_gd (List.mem_of_getElem? (i := 28) (by decide +kernel)) rfl
set_option maxRecDepth 20000 in
theorem q_120 : Cond.initialized RX11 ∈ lw_gd := mem_gd (List.mem_of_getElem? (i := 120) (by decide +kernel)) rfl
set_option maxRecDepth 20000 in
theorem q_237 : Cond.fieldLink RX11 254 "EyeTrainer$Lab" "aspect" "I" ∈ lw_gd := mem_gd (List.mem_of_getElem? (i := 237) (by decide +kernel)) rfl
set_option maxRecDepth 20000 in
theorem q_240 : Cond.fieldLink RX11 357 "EyeTrainer$Lab" "hold" "I" ∈ lw_gd := mem_gd (List.mem_of_getElem? (i := 240) (by decide +kernel)) rfl
set_option maxRecDepth 20000 in
theorem q_242 : Cond.fieldLink RX11 272 "EyeTrainer$Lab" "lanes" "I" ∈ lw_gd := mem_gd (List.mem_of_getElem? (i := 242) (by decide +kernel)) rfl
set_option maxRecDepth 20000 in
theorem q_244 : Cond.fieldLink RX11 133 "EyeTrainer$Lab" "patterns" "I" ∈ lw_gd := mem_gd (List.mem_of_getElem? (i := 244) (by decide +kernel)) rfl
set_option maxRecDepth 20000 in
theorem q_288 : Cond.fieldLink RX11 111 "EyeTrainer$Maps" "lab" "LEyeTrainer$Lab;" ∈ lw_gd := mem_gd (List.mem_of_getElem? (i := 288) (by decide +kernel)) rfl
set_option maxRecDepth 20000 in
theorem q_315 : Cond.fieldLink RX11 359 "EyeTrainer$Shapes" "map" "[I" ∈ lw_gd := mem_gd (List.mem_of_getElem? (i := 315) (by decide +kernel)) rfl
set_option maxRecDepth 20000 in
theorem q_334 : Cond.fieldLink RX11 263 "EyeTrainer$Shapes" "ellipseCell" "I" ∈ lw_gd := mem_gd (List.mem_of_getElem? (i := 334) (by decide +kernel)) rfl
set_option maxRecDepth 20000 in
theorem q_375 : Cond.fieldLink RX11 127 "EyeTrainer$Stand" "points" "[I" ∈ lw_gd := mem_gd (List.mem_of_getElem? (i := 375) (by decide +kernel)) rfl
set_option maxRecDepth 20000 in
theorem q_377 : Cond.fieldLink RX11 151 "EyeTrainer$Stand" "time" "I" ∈ lw_gd := mem_gd (List.mem_of_getElem? (i := 377) (by decide +kernel)) rfl
set_option maxRecDepth 20000 in
theorem q_379 : Cond.fieldLink RX11 179 "EyeTrainer$Stand" "pattern" "I" ∈ lw_gd := mem_gd (List.mem_of_getElem? (i := 379) (by decide +kernel)) rfl
set_option maxRecDepth 20000 in
theorem q_424 : Cond.fieldLink RX11 9 "EyeTrainer" "tape" "[B" ∈ lw_gd := mem_gd (List.mem_of_getElem? (i := 424) (by decide +kernel)) rfl
set_option maxRecDepth 20000 in
theorem q_425 : Cond.fieldLink RX11 77 "EyeTrainer" "taped" "I" ∈ lw_gd := mem_gd (List.mem_of_getElem? (i := 425) (by decide +kernel)) rfl
set_option maxRecDepth 20000 in
theorem q_427 : Cond.fieldLink RX11 28 "EyeTrainer" "maps" "LEyeTrainer$Maps;" ∈ lw_gd := mem_gd (List.mem_of_getElem? (i := 427) (by decide +kernel)) rfl
set_option maxRecDepth 20000 in
theorem q_428 : Cond.fieldLink RX11 35 "EyeTrainer" "shapes" "LEyeTrainer$Shapes;" ∈ lw_gd := mem_gd (List.mem_of_getElem? (i := 428) (by decide +kernel)) rfl
set_option maxRecDepth 20000 in
theorem q_429 : Cond.fieldLink RX11 42 "EyeTrainer" "now" "LEyeTrainer$Stand;" ∈ lw_gd := mem_gd (List.mem_of_getElem? (i := 429) (by decide +kernel)) rfl
set_option maxRecDepth 20000 in
theorem q_431 : Cond.fieldLink RX11 49 "EyeTrainer" "past" "[LEyeTrainer$Stand;" ∈ lw_gd := mem_gd (List.mem_of_getElem? (i := 431) (by decide +kernel)) rfl
set_option maxRecDepth 20000 in
theorem q_432 : Cond.fieldLink RX11 98 "EyeTrainer" "undoable" "I" ∈ lw_gd := mem_gd (List.mem_of_getElem? (i := 432) (by decide +kernel)) rfl
set_option maxRecDepth 20000 in
theorem q_474 : Cond.code yX11_putBytes cX11_putBytes 3 none ∈ lw_gd := mem_gd (List.mem_of_getElem? (i := 474) (by decide +kernel)) rfl
set_option maxRecDepth 20000 in
theorem q_767 : Cond.methodLink RX11 107 yX11_noLane ∈ lw_gd := mem_gd (List.mem_of_getElem? (i := 767) (by decide +kernel)) rfl
set_option maxRecDepth 20000 in
theorem q_769 : Cond.instanceMethod yX11_noLane ∈ lw_gd := mem_gd (List.mem_of_getElem? (i := 769) (by decide +kernel)) rfl
set_option maxRecDepth 20000 in
theorem q_770 : Cond.code yX11_noLane cX11_noLane 2 (some .boolean) ∈ lw_gd := mem_gd (List.mem_of_getElem? (i := 770) (by decide +kernel)) rfl
set_option maxRecDepth 20000 in
theorem q_771 : Cond.methodLink RX11 130 yX11_passesInPoint ∈ lw_gd := mem_gd (List.mem_of_getElem? (i := 771) (by decide +kernel)) rfl
set_option maxRecDepth 20000 in
theorem q_773 : Cond.instanceMethod yX11_passesInPoint ∈ lw_gd := mem_gd (List.mem_of_getElem? (i := 773) (by decide +kernel)) rfl
set_option maxRecDepth 20000 in
theorem q_774 : Cond.code yX11_passesInPoint cX11_passesInPoint 2 (some .boolean) ∈ lw_gd := mem_gd (List.mem_of_getElem? (i := 774) (by decide +kernel)) rfl
set_option maxRecDepth 20000 in
theorem q_775 : Cond.methodLink RX11 296 yX11_passesLater ∈ lw_gd := mem_gd (List.mem_of_getElem? (i := 775) (by decide +kernel)) rfl
set_option maxRecDepth 20000 in
theorem q_777 : Cond.instanceMethod yX11_passesLater ∈ lw_gd := mem_gd (List.mem_of_getElem? (i := 777) (by decide +kernel)) rfl
set_option maxRecDepth 20000 in
theorem q_778 : Cond.code yX11_passesLater cX11_passesLater 5 (some .boolean) ∈ lw_gd := mem_gd (List.mem_of_getElem? (i := 778) (by decide +kernel)) rfl
set_option maxRecDepth 20000 in
theorem q_779 : Cond.methodLink RX11 140 yX5_driftAt ∈ lw_gd := mem_gd (List.mem_of_getElem? (i := 779) (by decide +kernel)) rfl
set_option maxRecDepth 20000 in
theorem q_780 : Cond.instanceMethod yX5_driftAt ∈ lw_gd := mem_gd (List.mem_of_getElem? (i := 780) (by decide +kernel)) rfl
set_option maxRecDepth 20000 in
theorem q_781 : Cond.selects RX5 yX5_driftAt yX5_driftAt ∈ lw_gd := mem_gd (List.mem_of_getElem? (i := 781) (by decide +kernel)) rfl
set_option maxRecDepth 20000 in
theorem q_796 : Cond.methodLink RX11 289 yX5_passing ∈ lw_gd := mem_gd (List.mem_of_getElem? (i := 796) (by decide +kernel)) rfl
set_option maxRecDepth 20000 in
theorem q_797 : Cond.instanceMethod yX5_passing ∈ lw_gd := mem_gd (List.mem_of_getElem? (i := 797) (by decide +kernel)) rfl
set_option maxRecDepth 20000 in
theorem q_798 : Cond.selects RX5 yX5_passing yX5_passing ∈ lw_gd := mem_gd (List.mem_of_getElem? (i := 798) (by decide +kernel)) rfl
set_option maxRecDepth 20000 in
theorem q_824 : Cond.code yX11_noCell cX11_noCell 1 (some .boolean) ∈ lw_gd := mem_gd (List.mem_of_getElem? (i := 824) (by decide +kernel)) rfl
set_option maxRecDepth 20000 in
theorem q_825 : Cond.methodLink RX11 147 yX11_rowNow ∈ lw_gd := mem_gd (List.mem_of_getElem? (i := 825) (by decide +kernel)) rfl
set_option maxRecDepth 20000 in
theorem q_827 : Cond.instanceMethod yX11_rowNow ∈ lw_gd := mem_gd (List.mem_of_getElem? (i := 827) (by decide +kernel)) rfl
set_option maxRecDepth 20000 in
theorem q_828 : Cond.code yX11_rowNow cX11_rowNow 3 (some .int) ∈ lw_gd := mem_gd (List.mem_of_getElem? (i := 828) (by decide +kernel)) rfl
set_option maxRecDepth 20000 in
theorem q_837 : Cond.methodLink RX11 154 yX5_risenAt ∈ lw_gd := mem_gd (List.mem_of_getElem? (i := 837) (by decide +kernel)) rfl
set_option maxRecDepth 20000 in
theorem q_838 : Cond.instanceMethod yX5_risenAt ∈ lw_gd := mem_gd (List.mem_of_getElem? (i := 838) (by decide +kernel)) rfl
set_option maxRecDepth 20000 in
theorem q_839 : Cond.selects RX5 yX5_risenAt yX5_risenAt ∈ lw_gd := mem_gd (List.mem_of_getElem? (i := 839) (by decide +kernel)) rfl
set_option maxRecDepth 20000 in
theorem q_848 : Cond.code yX11_remember cX11_remember 4 none ∈ lw_gd := mem_gd (List.mem_of_getElem? (i := 848) (by decide +kernel)) rfl
set_option maxRecDepth 20000 in
theorem q_849 : Cond.methodLink RX11 182 yX8_copy ∈ lw_gd := mem_gd (List.mem_of_getElem? (i := 849) (by decide +kernel)) rfl
set_option maxRecDepth 20000 in
theorem q_850 : Cond.instanceMethod yX8_copy ∈ lw_gd := mem_gd (List.mem_of_getElem? (i := 850) (by decide +kernel)) rfl
set_option maxRecDepth 20000 in
theorem q_851 : Cond.selects RX8 yX8_copy yX8_copy ∈ lw_gd := mem_gd (List.mem_of_getElem? (i := 851) (by decide +kernel)) rfl
set_option maxRecDepth 20000 in
theorem q_860 : Cond.code yX11_trainedPoint cX11_trainedPoint 4 (some .int) ∈ lw_gd := mem_gd (List.mem_of_getElem? (i := 860) (by decide +kernel)) rfl
set_option maxRecDepth 20000 in
theorem q_861 : Cond.methodLink RX11 269 yX11_edgeOf ∈ lw_gd := mem_gd (List.mem_of_getElem? (i := 861) (by decide +kernel)) rfl
set_option maxRecDepth 20000 in
theorem q_863 : Cond.instanceMethod yX11_edgeOf ∈ lw_gd := mem_gd (List.mem_of_getElem? (i := 863) (by decide +kernel)) rfl
set_option maxRecDepth 20000 in
theorem q_864 : Cond.code yX11_edgeOf cX11_edgeOf 6 (some .int) ∈ lw_gd := mem_gd (List.mem_of_getElem? (i := 864) (by decide +kernel)) rfl
set_option maxRecDepth 20000 in
theorem q_865 : Cond.methodLink RX11 218 yX11_look ∈ lw_gd := mem_gd (List.mem_of_getElem? (i := 865) (by decide +kernel)) rfl
set_option maxRecDepth 20000 in
theorem q_867 : Cond.instanceMethod yX11_look ∈ lw_gd := mem_gd (List.mem_of_getElem? (i := 867) (by decide +kernel)) rfl
set_option maxRecDepth 20000 in
theorem q_868 : Cond.code yX11_look cX11_look 4 none ∈ lw_gd := mem_gd (List.mem_of_getElem? (i := 868) (by decide +kernel)) rfl
set_option maxRecDepth 20000 in
theorem q_869 : Cond.methodLink RX11 221 yX7_cells ∈ lw_gd := mem_gd (List.mem_of_getElem? (i := 869) (by decide +kernel)) rfl
set_option maxRecDepth 20000 in
theorem q_870 : Cond.instanceMethod yX7_cells ∈ lw_gd := mem_gd (List.mem_of_getElem? (i := 870) (by decide +kernel)) rfl
set_option maxRecDepth 20000 in
theorem q_871 : Cond.selects RX7 yX7_cells yX7_cells ∈ lw_gd := mem_gd (List.mem_of_getElem? (i := 871) (by decide +kernel)) rfl
set_option maxRecDepth 20000 in
theorem q_879 : Cond.methodLink RX11 233 yX7_findRectangle ∈ lw_gd := mem_gd (List.mem_of_getElem? (i := 879) (by decide +kernel)) rfl
set_option maxRecDepth 20000 in
theorem q_880 : Cond.instanceMethod yX7_findRectangle ∈ lw_gd := mem_gd (List.mem_of_getElem? (i := 880) (by decide +kernel)) rfl
set_option maxRecDepth 20000 in
theorem q_881 : Cond.selects RX7 yX7_findRectangle yX7_findRectangle ∈ lw_gd := mem_gd (List.mem_of_getElem? (i := 881) (by decide +kernel)) rfl
set_option maxRecDepth 20000 in
theorem q_890 : Cond.methodLink RX11 251 yX7_middle ∈ lw_gd := mem_gd (List.mem_of_getElem? (i := 890) (by decide +kernel)) rfl
set_option maxRecDepth 20000 in
theorem q_891 : Cond.instanceMethod yX7_middle ∈ lw_gd := mem_gd (List.mem_of_getElem? (i := 891) (by decide +kernel)) rfl
set_option maxRecDepth 20000 in
theorem q_892 : Cond.selects RX7 yX7_middle yX7_middle ∈ lw_gd := mem_gd (List.mem_of_getElem? (i := 892) (by decide +kernel)) rfl
set_option maxRecDepth 20000 in
theorem q_894 : Cond.methodLink RX11 257 yX7_findEllipse ∈ lw_gd := mem_gd (List.mem_of_getElem? (i := 894) (by decide +kernel)) rfl
set_option maxRecDepth 20000 in
theorem q_895 : Cond.instanceMethod yX7_findEllipse ∈ lw_gd := mem_gd (List.mem_of_getElem? (i := 895) (by decide +kernel)) rfl
set_option maxRecDepth 20000 in
theorem q_896 : Cond.selects RX7 yX7_findEllipse yX7_findEllipse ∈ lw_gd := mem_gd (List.mem_of_getElem? (i := 896) (by decide +kernel)) rfl
set_option maxRecDepth 20000 in
theorem q_922 : Cond.code yX11_passingLanes cX11_passingLanes 3 (some .int) ∈ lw_gd := mem_gd (List.mem_of_getElem? (i := 922) (by decide +kernel)) rfl
set_option maxRecDepth 20000 in
theorem q_931 : Cond.code yX11_followAll cX11_followAll 4 none ∈ lw_gd := mem_gd (List.mem_of_getElem? (i := 931) (by decide +kernel)) rfl
set_option maxRecDepth 20000 in
theorem q_932 : Cond.methodLink RX11 300 yX0_followed ∈ lw_gd := mem_gd (List.mem_of_getElem? (i := 932) (by decide +kernel)) rfl
set_option maxRecDepth 20000 in
theorem q_933 : Cond.static yX0_followed ∈ lw_gd := mem_gd (List.mem_of_getElem? (i := 933) (by decide +kernel)) rfl
set_option maxRecDepth 20000 in
theorem q_942 : Cond.code yX11_noPatternToUse cX11_noPatternToUse 2 (some .boolean) ∈ lw_gd := mem_gd (List.mem_of_getElem? (i := 942) (by decide +kernel)) rfl
set_option maxRecDepth 20000 in
theorem q_953 : Cond.code yX11_noTray cX11_noTray 1 (some .boolean) ∈ lw_gd := mem_gd (List.mem_of_getElem? (i := 953) (by decide +kernel)) rfl
theorem dX11_putBytes_0 : decode cX11_putBytes 0 = .ok (.bipush 24, 2) := by decide +kernel
theorem dX11_putBytes_2 : decode cX11_putBytes 2 = .ok (.istore_n 2, 1) := by decide +kernel
theorem dX11_putBytes_3 : decode cX11_putBytes 3 = .ok (.iload_n 2, 1) := by decide +kernel
theorem dX11_putBytes_4 : decode cX11_putBytes 4 = .ok (.ifCond .lt 42, 3) := by decide +kernel
theorem dX11_putBytes_7 : decode cX11_putBytes 7 = .ok (.aload_n 0, 1) := by decide +kernel
theorem dX11_putBytes_8 : decode cX11_putBytes 8 = .ok (.getfield 77, 3) := by decide +kernel
theorem dX11_putBytes_11 : decode cX11_putBytes 11 = .ok (.sipush 900, 3) := by decide +kernel
theorem dX11_putBytes_14 : decode cX11_putBytes 14 = .ok (.if_icmp .ge 32, 3) := by decide +kernel
theorem dX11_putBytes_17 : decode cX11_putBytes 17 = .ok (.aload_n 0, 1) := by decide +kernel
theorem dX11_putBytes_18 : decode cX11_putBytes 18 = .ok (.getfield 9, 3) := by decide +kernel
theorem dX11_putBytes_21 : decode cX11_putBytes 21 = .ok (.aload_n 0, 1) := by decide +kernel
theorem dX11_putBytes_22 : decode cX11_putBytes 22 = .ok (.getfield 77, 3) := by decide +kernel
theorem dX11_putBytes_25 : decode cX11_putBytes 25 = .ok (.iload_n 1, 1) := by decide +kernel
theorem dX11_putBytes_26 : decode cX11_putBytes 26 = .ok (.iload_n 2, 1) := by decide +kernel
theorem dX11_putBytes_27 : decode cX11_putBytes 27 = .ok (.ishr, 1) := by decide +kernel
theorem dX11_putBytes_28 : decode cX11_putBytes 28 = .ok (.i2b, 1) := by decide +kernel
theorem dX11_putBytes_29 : decode cX11_putBytes 29 = .ok (.bastore, 1) := by decide +kernel
theorem dX11_putBytes_30 : decode cX11_putBytes 30 = .ok (.aload_n 0, 1) := by decide +kernel
theorem dX11_putBytes_31 : decode cX11_putBytes 31 = .ok (.dup, 1) := by decide +kernel
theorem dX11_putBytes_32 : decode cX11_putBytes 32 = .ok (.getfield 77, 3) := by decide +kernel
theorem dX11_putBytes_35 : decode cX11_putBytes 35 = .ok (.iconst 1, 1) := by decide +kernel
theorem dX11_putBytes_36 : decode cX11_putBytes 36 = .ok (.iadd, 1) := by decide +kernel
theorem dX11_putBytes_37 : decode cX11_putBytes 37 = .ok (.putfield 77, 3) := by decide +kernel
theorem dX11_putBytes_40 : decode cX11_putBytes 40 = .ok (.iinc 2 (-8), 3) := by decide +kernel
theorem dX11_putBytes_43 : decode cX11_putBytes 43 = .ok (.goto (-40), 3) := by decide +kernel
theorem dX11_putBytes_46 : decode cX11_putBytes 46 = .ok (.return_, 1) := by decide +kernel
theorem wX11_putBytes : Mw yX11_putBytes cX11_putBytes 3 none 1 := ⟨q_474, q_120, by decide, ⟨by decide +kernel, by decide +kernel⟩, by decide +kernel, by decide +kernel⟩
-- a loop of EyeTrainer.putBytes at 3
def bX11_putBytes_3 (T : Sh) (x0 : Nat) (x1 : Int32) (x2 : Int32) (M : Me) : Option ((Int32 × Me) ⊕ (Me)) :=
  if x2 < 0 then (some (.inr M)) else (gd (kd T x0 = 10) <| if (900 : Int32) ≤ (gI M x0 1) then (some (.inr M)) else (Option.bind (gR M x0 0) fun a4 => gd (kd T a4 = 12) <| gv (gI M x0 1) (ln T a4) <| lt (pI M a4 (Int32.toNatClampNeg (gI M x0 1)) (vp_nar .byte (Int8.toInt32 (Int32.toInt8 (x1 >>> (x2 &&& 31)))))) fun M7 => lt (pI M7 x0 1 ((gI M7 x0 1) + (1 : Int32))) fun M8 => lt (x2 + (-8 : Int32)) fun v9 => some (.inl (v9, M8))))
def PX11_putBytes_3 (X : Fx) (B : Bx) (Z : Nat × Nat × Nat × Nat) (Q : State → Prop) (T : Sh) (x0 : Nat) (x1 : Int32) (s : Int32 × Me) : Prop := G X B 3 Z Q 3 [(0, .ref (x0)), (1, .int (x1)), (2, .int (s.1))] [] T s.2
def EX11_putBytes_3 (X : Fx) (B : Bx) (Z : Nat × Nat × Nat × Nat) (Q : State → Prop) (T : Sh) (x0 : Nat) (x1 : Int32) (r : Me) : Prop := G X B 3 Z Q 46 [] [] T r
set_option maxHeartbeats 4000000 in
theorem tbX11_putBytes_3 {X : Fx} {B : Bx} {Z : Nat × Nat × Nat × Nat} {Q : State → Prop} {d : Nat} {T : Sh} (C : Cx X B cX11_putBytes 3 RX11 d Z) (hd : 0 ≤ d) {x0 : Nat} {x1 : Int32} : ∀ (s : Int32 × Me) (o : (Int32 × Me) ⊕ (Me)), bX11_putBytes_3 T x0 x1 s.1 s.2 = some o → lpE (PX11_putBytes_3 X B Z Q T x0 x1) (EX11_putBytes_3 X B Z Q T x0 x1) o → PX11_putBytes_3 X B Z Q T x0 x1 s := by
  rintro ⟨x2, M⟩ o h hE
  replace h : bX11_putBytes_3 T x0 x1 x2 M = some o := h
  unfold bX11_putBytes_3 at h
  show G X B 3 Z Q 3 [(0, .ref (x0)), (1, .int (x1)), (2, .int (x2))] [] T M
  refine g_iload_n (pc := 3) C dX11_putBytes_3 rfl 2 rfl ?_
  refine g_if_lt (pc := 4) (tgt := 46) C dX11_putBytes_4 (by decide) (fun c1 => ?_) (fun c1 => ?_)
  · replace h := ifp c1 h
    obtain rfl := Option.some.inj h
    exact g_sub [] rfl (show G X B 3 Z Q 46 [] [] T M from hE)
  · replace h := ifn c1 h
    refine g_aload_n (pc := 7) C dX11_putBytes_7 rfl 0 rfl ?_
    replace h := gd_some h; obtain ⟨hk2, h⟩ := h
    refine g_get (pc := 8) (v := .int (gI M x0 1)) C dX11_putBytes_8 kX11 hk2 1 (by decide) q_425 rfl ?_
    refine g_sipush (pc := 11) (v := 900) C dX11_putBytes_11 (by decide) ?_
    refine g_icmp_ge (pc := 14) (tgt := 46) C dX11_putBytes_14 (by decide) (fun c3 => ?_) (fun c3 => ?_)
    · replace h := ifp c3 h
      obtain rfl := Option.some.inj h
      exact g_sub [] rfl (show G X B 3 Z Q 46 [] [] T M from hE)
    · replace h := ifn c3 h
      refine g_aload_n (pc := 17) C dX11_putBytes_17 rfl 0 rfl ?_
      refine g_get (pc := 18) (v := va_rf (gR M x0 0)) C dX11_putBytes_18 kX11 hk2 0 (by decide) q_424 rfl ?_
      replace h := bnd h; obtain ⟨a4, ea4, h⟩ := h
      refine g_refq ea4 ?_
      refine g_aload_n (pc := 21) C dX11_putBytes_21 rfl 0 rfl ?_
      refine g_get (pc := 22) (v := .int (gI M x0 1)) C dX11_putBytes_22 kX11 hk2 1 (by decide) q_425 rfl ?_
      refine g_iload_n (pc := 25) C dX11_putBytes_25 rfl 1 rfl ?_
      refine g_iload_n (pc := 26) C dX11_putBytes_26 rfl 2 rfl ?_
      refine g_ishr (pc := 27) C dX11_putBytes_27 ?_
      refine g_i2b (pc := 28) C dX11_putBytes_28 ?_
      replace h := gd_some h; obtain ⟨hk5, h⟩ := h
      replace h := gv_some h; obtain ⟨hi6, h⟩ := h
      refine g_bast (pc := 29) C dX11_putBytes_29 hk5 hi6 ?_
      refine g_mem (fun M7 eM7 => ?_)
      replace h := lt_at eM7 h
      refine g_aload_n (pc := 30) C dX11_putBytes_30 rfl 0 rfl ?_
      refine g_dup (pc := 31) C dX11_putBytes_31 rfl ?_
      refine g_get (pc := 32) (v := .int (gI M7 x0 1)) C dX11_putBytes_32 kX11 hk2 1 (by decide) q_425 rfl ?_
      refine g_iconst (pc := 35) (v := 1) C dX11_putBytes_35 (by decide) ?_
      refine g_iadd (pc := 36) C dX11_putBytes_36 ?_
      refine g_putI (pc := 37) C dX11_putBytes_37 kX11 hk2 1 (by decide) rfl rfl rfl q_425 ?_
      refine g_mem (fun M8 eM8 => ?_)
      replace h := lt_at eM8 h
      obtain ⟨v9, ev9⟩ : ∃ y : Int32, y = x2 + (-8 : Int32) := ⟨_, rfl⟩
      replace h := lt_at ev9 h
      refine g_iinc (pc := 40) (v := v9) (k := 2) (lo2 := [(2, .int (v9)), (0, .ref (x0)), (1, .int (x1))]) C dX11_putBytes_40 rfl (by rw [ev9]; rfl) (by decide) rfl ?_
      refine g_goto (pc := 43) (tgt := 3) C dX11_putBytes_43 (by decide) ?_
      obtain rfl := Option.some.inj h
      exact g_sub [1, 2, 0] rfl (show G X B 3 Z Q 3 [(0, .ref (x0)), (1, .int (x1)), (2, .int (v9))] [] T M8 from hE)
/-- EyeTrainer.putBytes(I)V -/
def fX11_putBytes (T : Sh) (M : Me) (x0 : Nat) (x1 : Int32) : Option (Unit × Me) :=
  (lp FU (fun s => bX11_putBytes_3 T x0 x1 s.1 s.2) ((24 : Int32), M)).bind (fun M10 => some ((), M10))
set_option maxHeartbeats 4000000 in
theorem kX11_putBytes {l : Launch} {B : Bx} {d : Nat} (hd : 0 ≤ d) {T : Sh} {M : Me} {x0 : Nat} {x1 : Int32} {M' : Me} (h : fX11_putBytes T M x0 x1 = some ((), M')) : Kt l B yX11_putBytes cX11_putBytes 3 none d [.ref (x0), .int (x1)] T M none T M' := by
  refine kt_of wX11_putBytes (Nat.le_refl _) (Nat.le_refl _) (Nat.le_of_ble_eq_true rfl) (fun X C hR hlx hin => ?_)
  subst hlx
  replace C : Cx X B cX11_putBytes 3 RX11 d (tp T, sl T, tp T, sl T) := C
  unfold fX11_putBytes at h
  show G X B 3 _ _ 0 [(0, .ref (x0)), (1, .int (x1))] [] T M
  refine g_bipush (pc := 0) (v := 24) C dX11_putBytes_0 (by decide) ?_
  refine g_istore_n (pc := 2) (lo2 := [(2, .int ((24 : Int32))), (0, .ref (x0)), (1, .int (x1))]) C dX11_putBytes_2 rfl (by decide) rfl ?_
  replace h := bnd h; obtain ⟨M10, h1, h⟩ := h
  refine g_sub [1, 2, 0] rfl ?_
  refine lp_G2 (P := PX11_putBytes_3 X B _ _ T x0 x1) (E := EX11_putBytes_3 X B _ _ T x0 x1) (tbX11_putBytes_3 C hd) h1 ?_
  show G X B 3 _ _ 46 [] [] T M10
  obtain ⟨-, rfl⟩ := Prod.mk.inj (Option.some.inj h)
  exact g_vret C hR dX11_putBytes_46
theorem dX11_noLane_0 : decode cX11_noLane 0 = .ok (.iload_n 1, 1) := by decide +kernel
theorem dX11_noLane_1 : decode cX11_noLane 1 = .ok (.ifCond .lt 17, 3) := by decide +kernel
theorem dX11_noLane_4 : decode cX11_noLane 4 = .ok (.iload_n 1, 1) := by decide +kernel
theorem dX11_noLane_5 : decode cX11_noLane 5 = .ok (.aload_n 0, 1) := by decide +kernel
theorem dX11_noLane_6 : decode cX11_noLane 6 = .ok (.getfield 28, 3) := by decide +kernel
theorem dX11_noLane_9 : decode cX11_noLane 9 = .ok (.getfield 111, 3) := by decide +kernel
theorem dX11_noLane_12 : decode cX11_noLane 12 = .ok (.getfield 272, 3) := by decide +kernel
theorem dX11_noLane_15 : decode cX11_noLane 15 = .ok (.if_icmp .lt 7, 3) := by decide +kernel
theorem dX11_noLane_18 : decode cX11_noLane 18 = .ok (.iconst 1, 1) := by decide +kernel
theorem dX11_noLane_19 : decode cX11_noLane 19 = .ok (.goto 4, 3) := by decide +kernel
theorem dX11_noLane_22 : decode cX11_noLane 22 = .ok (.iconst 0, 1) := by decide +kernel
theorem dX11_noLane_23 : decode cX11_noLane 23 = .ok (.ireturn, 1) := by decide +kernel
theorem wX11_noLane : Mw yX11_noLane cX11_noLane 2 (some .boolean) 1 := ⟨q_770, q_120, by decide, ⟨by decide +kernel, by decide +kernel⟩, by decide +kernel, by decide +kernel⟩
/-- EyeTrainer.noLane(I)Z -/
def fX11_noLane (T : Sh) (M : Me) (x0 : Nat) (x1 : Int32) : Option (Int32) :=
  if x1 < 0 then (some (1 : Int32)) else (gd (kd T x0 = 10) <| Option.bind (gR M x0 3) fun a3 => gd (kd T a3 = 4) <| Option.bind (gR M a3 0) fun a5 => gd (kd T a5 = 2) <| if x1 < (gI M a5 7) then (some (0 : Int32)) else (some (1 : Int32)))
set_option maxHeartbeats 4000000 in
theorem kX11_noLane {l : Launch} {B : Bx} {d : Nat} (hd : 0 ≤ d) {T : Sh} {M : Me} {x0 : Nat} {x1 : Int32} {r : Int32} (h : fX11_noLane T M x0 x1 = some r) : Kt l B yX11_noLane cX11_noLane 2 (some .boolean) d [.ref (x0), .int (x1)] T M (some (.int r)) T M := by
  refine kt_of wX11_noLane (Nat.le_refl _) (Nat.le_refl _) (Nat.le_of_ble_eq_true rfl) (fun X C hR hlx hin => ?_)
  subst hlx
  replace C : Cx X B cX11_noLane 2 RX11 d (tp T, sl T, tp T, sl T) := C
  unfold fX11_noLane at h
  show G X B 2 _ _ 0 [(0, .ref (x0)), (1, .int (x1))] [] T M
  refine g_iload_n (pc := 0) C dX11_noLane_0 rfl 1 rfl ?_
  refine g_if_lt (pc := 1) (tgt := 18) C dX11_noLane_1 (by decide) (fun c1 => ?_) (fun c1 => ?_)
  · replace h := ifp c1 h
    refine g_iconst (pc := 18) (v := 1) C dX11_noLane_18 (by decide) ?_
    refine g_goto (pc := 19) (tgt := 23) C dX11_noLane_19 (by decide) ?_
    obtain rfl := Option.some.inj h
    exact g_zret C hR dX11_noLane_23 rfl
  · replace h := ifn c1 h
    refine g_iload_n (pc := 4) C dX11_noLane_4 rfl 1 rfl ?_
    refine g_aload_n (pc := 5) C dX11_noLane_5 rfl 0 rfl ?_
    replace h := gd_some h; obtain ⟨hk2, h⟩ := h
    refine g_get (pc := 6) (v := va_rf (gR M x0 3)) C dX11_noLane_6 kX11 hk2 3 (by decide) q_427 rfl ?_
    replace h := bnd h; obtain ⟨a3, ea3, h⟩ := h
    refine g_refq ea3 ?_
    replace h := gd_some h; obtain ⟨hk4, h⟩ := h
    refine g_get (pc := 9) (v := va_rf (gR M a3 0)) C dX11_noLane_9 kX5 hk4 0 (by decide) q_288 rfl ?_
    replace h := bnd h; obtain ⟨a5, ea5, h⟩ := h
    refine g_refq ea5 ?_
    replace h := gd_some h; obtain ⟨hk6, h⟩ := h
    refine g_get (pc := 12) (v := .int (gI M a5 7)) C dX11_noLane_12 kX3 hk6 7 (by decide) q_242 rfl ?_
    refine g_icmp_lt (pc := 15) (tgt := 22) C dX11_noLane_15 (by decide) (fun c7 => ?_) (fun c7 => ?_)
    · replace h := ifp c7 h
      refine g_iconst (pc := 22) (v := 0) C dX11_noLane_22 (by decide) ?_
      obtain rfl := Option.some.inj h
      exact g_zret C hR dX11_noLane_23 rfl
    · replace h := ifn c7 h
      refine g_iconst (pc := 18) (v := 1) C dX11_noLane_18 (by decide) ?_
      refine g_goto (pc := 19) (tgt := 23) C dX11_noLane_19 (by decide) ?_
      obtain rfl := Option.some.inj h
      exact g_zret C hR dX11_noLane_23 rfl
theorem dX11_noCell_0 : decode cX11_noCell 0 = .ok (.iload_n 0, 1) := by decide +kernel
theorem dX11_noCell_1 : decode cX11_noCell 1 = .ok (.ifCond .lt 10, 3) := by decide +kernel
theorem dX11_noCell_4 : decode cX11_noCell 4 = .ok (.iload_n 0, 1) := by decide +kernel
theorem dX11_noCell_5 : decode cX11_noCell 5 = .ok (.sipush 384, 3) := by decide +kernel
theorem dX11_noCell_8 : decode cX11_noCell 8 = .ok (.if_icmp .lt 7, 3) := by decide +kernel
theorem dX11_noCell_11 : decode cX11_noCell 11 = .ok (.iconst 1, 1) := by decide +kernel
theorem dX11_noCell_12 : decode cX11_noCell 12 = .ok (.goto 4, 3) := by decide +kernel
theorem dX11_noCell_15 : decode cX11_noCell 15 = .ok (.iconst 0, 1) := by decide +kernel
theorem dX11_noCell_16 : decode cX11_noCell 16 = .ok (.ireturn, 1) := by decide +kernel
theorem wX11_noCell : Mw yX11_noCell cX11_noCell 1 (some .boolean) 1 := ⟨q_824, q_120, by decide, ⟨by decide +kernel, by decide +kernel⟩, by decide +kernel, by decide +kernel⟩
/-- EyeTrainer.noCell(I)Z -/
def fX11_noCell (x0 : Int32) : Option (Int32) :=
  if x0 < 0 then (some (1 : Int32)) else (if x0 < (384 : Int32) then (some (0 : Int32)) else (some (1 : Int32)))
set_option maxHeartbeats 4000000 in
theorem kX11_noCell {l : Launch} {B : Bx} {d : Nat} (hd : 0 ≤ d) {T : Sh} {M : Me} {x0 : Int32} {r : Int32} (h : fX11_noCell  x0 = some r) : Kt l B yX11_noCell cX11_noCell 1 (some .boolean) d [.int (x0)] T M (some (.int r)) T M := by
  refine kt_of wX11_noCell (Nat.le_refl _) (Nat.le_refl _) (Nat.le_of_ble_eq_true rfl) (fun X C hR hlx hin => ?_)
  subst hlx
  replace C : Cx X B cX11_noCell 1 RX11 d (tp T, sl T, tp T, sl T) := C
  unfold fX11_noCell at h
  show G X B 1 _ _ 0 [(0, .int (x0))] [] T M
  refine g_iload_n (pc := 0) C dX11_noCell_0 rfl 0 rfl ?_
  refine g_if_lt (pc := 1) (tgt := 11) C dX11_noCell_1 (by decide) (fun c1 => ?_) (fun c1 => ?_)
  · replace h := ifp c1 h
    refine g_iconst (pc := 11) (v := 1) C dX11_noCell_11 (by decide) ?_
    refine g_goto (pc := 12) (tgt := 16) C dX11_noCell_12 (by decide) ?_
    obtain rfl := Option.some.inj h
    exact g_zret C hR dX11_noCell_16 rfl
  · replace h := ifn c1 h
    refine g_iload_n (pc := 4) C dX11_noCell_4 rfl 0 rfl ?_
    refine g_sipush (pc := 5) (v := 384) C dX11_noCell_5 (by decide) ?_
    refine g_icmp_lt (pc := 8) (tgt := 15) C dX11_noCell_8 (by decide) (fun c2 => ?_) (fun c2 => ?_)
    · replace h := ifp c2 h
      refine g_iconst (pc := 15) (v := 0) C dX11_noCell_15 (by decide) ?_
      obtain rfl := Option.some.inj h
      exact g_zret C hR dX11_noCell_16 rfl
    · replace h := ifn c2 h
      refine g_iconst (pc := 11) (v := 1) C dX11_noCell_11 (by decide) ?_
      refine g_goto (pc := 12) (tgt := 16) C dX11_noCell_12 (by decide) ?_
      obtain rfl := Option.some.inj h
      exact g_zret C hR dX11_noCell_16 rfl
theorem dX11_noPatternToUse_0 : decode cX11_noPatternToUse 0 = .ok (.iload_n 1, 1) := by decide +kernel
theorem dX11_noPatternToUse_1 : decode cX11_noPatternToUse 1 = .ok (.iconst (-1), 1) := by decide +kernel
theorem dX11_noPatternToUse_2 : decode cX11_noPatternToUse 2 = .ok (.if_icmp .lt 17, 3) := by decide +kernel
theorem dX11_noPatternToUse_5 : decode cX11_noPatternToUse 5 = .ok (.iload_n 1, 1) := by decide +kernel
theorem dX11_noPatternToUse_6 : decode cX11_noPatternToUse 6 = .ok (.aload_n 0, 1) := by decide +kernel
theorem dX11_noPatternToUse_7 : decode cX11_noPatternToUse 7 = .ok (.getfield 28, 3) := by decide +kernel
theorem dX11_noPatternToUse_10 : decode cX11_noPatternToUse 10 = .ok (.getfield 111, 3) := by decide +kernel
theorem dX11_noPatternToUse_13 : decode cX11_noPatternToUse 13 = .ok (.getfield 133, 3) := by decide +kernel
theorem dX11_noPatternToUse_16 : decode cX11_noPatternToUse 16 = .ok (.if_icmp .lt 7, 3) := by decide +kernel
theorem dX11_noPatternToUse_19 : decode cX11_noPatternToUse 19 = .ok (.iconst 1, 1) := by decide +kernel
theorem dX11_noPatternToUse_20 : decode cX11_noPatternToUse 20 = .ok (.goto 4, 3) := by decide +kernel
theorem dX11_noPatternToUse_23 : decode cX11_noPatternToUse 23 = .ok (.iconst 0, 1) := by decide +kernel
theorem dX11_noPatternToUse_24 : decode cX11_noPatternToUse 24 = .ok (.ireturn, 1) := by decide +kernel
theorem wX11_noPatternToUse : Mw yX11_noPatternToUse cX11_noPatternToUse 2 (some .boolean) 1 := ⟨q_942, q_120, by decide, ⟨by decide +kernel, by decide +kernel⟩, by decide +kernel, by decide +kernel⟩
/-- EyeTrainer.noPatternToUse(I)Z -/
def fX11_noPatternToUse (T : Sh) (M : Me) (x0 : Nat) (x1 : Int32) : Option (Int32) :=
  if x1 < (-1 : Int32) then (some (1 : Int32)) else (gd (kd T x0 = 10) <| Option.bind (gR M x0 3) fun a3 => gd (kd T a3 = 4) <| Option.bind (gR M a3 0) fun a5 => gd (kd T a5 = 2) <| if x1 < (gI M a5 8) then (some (0 : Int32)) else (some (1 : Int32)))
set_option maxHeartbeats 4000000 in
theorem kX11_noPatternToUse {l : Launch} {B : Bx} {d : Nat} (hd : 0 ≤ d) {T : Sh} {M : Me} {x0 : Nat} {x1 : Int32} {r : Int32} (h : fX11_noPatternToUse T M x0 x1 = some r) : Kt l B yX11_noPatternToUse cX11_noPatternToUse 2 (some .boolean) d [.ref (x0), .int (x1)] T M (some (.int r)) T M := by
  refine kt_of wX11_noPatternToUse (Nat.le_refl _) (Nat.le_refl _) (Nat.le_of_ble_eq_true rfl) (fun X C hR hlx hin => ?_)
  subst hlx
  replace C : Cx X B cX11_noPatternToUse 2 RX11 d (tp T, sl T, tp T, sl T) := C
  unfold fX11_noPatternToUse at h
  show G X B 2 _ _ 0 [(0, .ref (x0)), (1, .int (x1))] [] T M
  refine g_iload_n (pc := 0) C dX11_noPatternToUse_0 rfl 1 rfl ?_
  refine g_iconst (pc := 1) (v := (-1)) C dX11_noPatternToUse_1 (by decide) ?_
  refine g_icmp_lt (pc := 2) (tgt := 19) C dX11_noPatternToUse_2 (by decide) (fun c1 => ?_) (fun c1 => ?_)
  · replace h := ifp c1 h
    refine g_iconst (pc := 19) (v := 1) C dX11_noPatternToUse_19 (by decide) ?_
    refine g_goto (pc := 20) (tgt := 24) C dX11_noPatternToUse_20 (by decide) ?_
    obtain rfl := Option.some.inj h
    exact g_zret C hR dX11_noPatternToUse_24 rfl
  · replace h := ifn c1 h
    refine g_iload_n (pc := 5) C dX11_noPatternToUse_5 rfl 1 rfl ?_
    refine g_aload_n (pc := 6) C dX11_noPatternToUse_6 rfl 0 rfl ?_
    replace h := gd_some h; obtain ⟨hk2, h⟩ := h
    refine g_get (pc := 7) (v := va_rf (gR M x0 3)) C dX11_noPatternToUse_7 kX11 hk2 3 (by decide) q_427 rfl ?_
    replace h := bnd h; obtain ⟨a3, ea3, h⟩ := h
    refine g_refq ea3 ?_
    replace h := gd_some h; obtain ⟨hk4, h⟩ := h
    refine g_get (pc := 10) (v := va_rf (gR M a3 0)) C dX11_noPatternToUse_10 kX5 hk4 0 (by decide) q_288 rfl ?_
    replace h := bnd h; obtain ⟨a5, ea5, h⟩ := h
    refine g_refq ea5 ?_
    replace h := gd_some h; obtain ⟨hk6, h⟩ := h
    refine g_get (pc := 13) (v := .int (gI M a5 8)) C dX11_noPatternToUse_13 kX3 hk6 8 (by decide) q_244 rfl ?_
    refine g_icmp_lt (pc := 16) (tgt := 23) C dX11_noPatternToUse_16 (by decide) (fun c7 => ?_) (fun c7 => ?_)
    · replace h := ifp c7 h
      refine g_iconst (pc := 23) (v := 0) C dX11_noPatternToUse_23 (by decide) ?_
      obtain rfl := Option.some.inj h
      exact g_zret C hR dX11_noPatternToUse_24 rfl
    · replace h := ifn c7 h
      refine g_iconst (pc := 19) (v := 1) C dX11_noPatternToUse_19 (by decide) ?_
      refine g_goto (pc := 20) (tgt := 24) C dX11_noPatternToUse_20 (by decide) ?_
      obtain rfl := Option.some.inj h
      exact g_zret C hR dX11_noPatternToUse_24 rfl
theorem dX11_noTray_0 : decode cX11_noTray 0 = .ok (.iload_n 0, 1) := by decide +kernel
theorem dX11_noTray_1 : decode cX11_noTray 1 = .ok (.ifCond .lt 8, 3) := by decide +kernel
theorem dX11_noTray_4 : decode cX11_noTray 4 = .ok (.iload_n 0, 1) := by decide +kernel
theorem dX11_noTray_5 : decode cX11_noTray 5 = .ok (.iconst 4, 1) := by decide +kernel
theorem dX11_noTray_6 : decode cX11_noTray 6 = .ok (.if_icmp .lt 7, 3) := by decide +kernel
theorem dX11_noTray_9 : decode cX11_noTray 9 = .ok (.iconst 1, 1) := by decide +kernel
theorem dX11_noTray_10 : decode cX11_noTray 10 = .ok (.goto 4, 3) := by decide +kernel
theorem dX11_noTray_13 : decode cX11_noTray 13 = .ok (.iconst 0, 1) := by decide +kernel
theorem dX11_noTray_14 : decode cX11_noTray 14 = .ok (.ireturn, 1) := by decide +kernel
theorem wX11_noTray : Mw yX11_noTray cX11_noTray 1 (some .boolean) 1 := ⟨q_953, q_120, by decide, ⟨by decide +kernel, by decide +kernel⟩, by decide +kernel, by decide +kernel⟩
/-- EyeTrainer.noTray(I)Z -/
def fX11_noTray (x0 : Int32) : Option (Int32) :=
  if x0 < 0 then (some (1 : Int32)) else (if x0 < (4 : Int32) then (some (0 : Int32)) else (some (1 : Int32)))
set_option maxHeartbeats 4000000 in
theorem kX11_noTray {l : Launch} {B : Bx} {d : Nat} (hd : 0 ≤ d) {T : Sh} {M : Me} {x0 : Int32} {r : Int32} (h : fX11_noTray  x0 = some r) : Kt l B yX11_noTray cX11_noTray 1 (some .boolean) d [.int (x0)] T M (some (.int r)) T M := by
  refine kt_of wX11_noTray (Nat.le_refl _) (Nat.le_refl _) (Nat.le_of_ble_eq_true rfl) (fun X C hR hlx hin => ?_)
  subst hlx
  replace C : Cx X B cX11_noTray 1 RX11 d (tp T, sl T, tp T, sl T) := C
  unfold fX11_noTray at h
  show G X B 1 _ _ 0 [(0, .int (x0))] [] T M
  refine g_iload_n (pc := 0) C dX11_noTray_0 rfl 0 rfl ?_
  refine g_if_lt (pc := 1) (tgt := 9) C dX11_noTray_1 (by decide) (fun c1 => ?_) (fun c1 => ?_)
  · replace h := ifp c1 h
    refine g_iconst (pc := 9) (v := 1) C dX11_noTray_9 (by decide) ?_
    refine g_goto (pc := 10) (tgt := 14) C dX11_noTray_10 (by decide) ?_
    obtain rfl := Option.some.inj h
    exact g_zret C hR dX11_noTray_14 rfl
  · replace h := ifn c1 h
    refine g_iload_n (pc := 4) C dX11_noTray_4 rfl 0 rfl ?_
    refine g_iconst (pc := 5) (v := 4) C dX11_noTray_5 (by decide) ?_
    refine g_icmp_lt (pc := 6) (tgt := 13) C dX11_noTray_6 (by decide) (fun c2 => ?_) (fun c2 => ?_)
    · replace h := ifp c2 h
      refine g_iconst (pc := 13) (v := 0) C dX11_noTray_13 (by decide) ?_
      obtain rfl := Option.some.inj h
      exact g_zret C hR dX11_noTray_14 rfl
    · replace h := ifn c2 h
      refine g_iconst (pc := 9) (v := 1) C dX11_noTray_9 (by decide) ?_
      refine g_goto (pc := 10) (tgt := 14) C dX11_noTray_10 (by decide) ?_
      obtain rfl := Option.some.inj h
      exact g_zret C hR dX11_noTray_14 rfl
theorem dX11_rowNow_0 : decode cX11_rowNow 0 = .ok (.aload_n 0, 1) := by decide +kernel
theorem dX11_rowNow_1 : decode cX11_rowNow 1 = .ok (.getfield 28, 3) := by decide +kernel
theorem dX11_rowNow_4 : decode cX11_rowNow 4 = .ok (.iload_n 1, 1) := by decide +kernel
theorem dX11_rowNow_5 : decode cX11_rowNow 5 = .ok (.aload_n 0, 1) := by decide +kernel
theorem dX11_rowNow_6 : decode cX11_rowNow 6 = .ok (.getfield 42, 3) := by decide +kernel
theorem dX11_rowNow_9 : decode cX11_rowNow 9 = .ok (.getfield 179, 3) := by decide +kernel
theorem dX11_rowNow_12 : decode cX11_rowNow 12 = .ok (.aload_n 0, 1) := by decide +kernel
theorem dX11_rowNow_13 : decode cX11_rowNow 13 = .ok (.getfield 28, 3) := by decide +kernel
theorem dX11_rowNow_16 : decode cX11_rowNow 16 = .ok (.aload_n 0, 1) := by decide +kernel
theorem dX11_rowNow_17 : decode cX11_rowNow 17 = .ok (.getfield 42, 3) := by decide +kernel
theorem dX11_rowNow_20 : decode cX11_rowNow 20 = .ok (.getfield 151, 3) := by decide +kernel
theorem dX11_rowNow_23 : decode cX11_rowNow 23 = .ok (.invokevirtual 140, 3) := by decide +kernel
theorem dX11_rowNow_26 : decode cX11_rowNow 26 = .ok (.iload_n 2, 1) := by decide +kernel
theorem dX11_rowNow_27 : decode cX11_rowNow 27 = .ok (.invokevirtual 289, 3) := by decide +kernel
theorem dX11_rowNow_30 : decode cX11_rowNow 30 = .ok (.ireturn, 1) := by decide +kernel
theorem wX11_rowNow : Mw yX11_rowNow cX11_rowNow 3 (some .int) 2 := ⟨q_828, q_120, by decide, ⟨by decide +kernel, by decide +kernel⟩, by decide +kernel, by decide +kernel⟩
/-- EyeTrainer.rowNow(II)I -/
def fX11_rowNow (T : Sh) (M : Me) (x0 : Nat) (x1 : Int32) (x2 : Int32) : Option (Int32 × Me) :=
  gd (kd T x0 = 10) <| Option.bind (gR M x0 3) fun a2 => Option.bind (gR M x0 5) fun a3 => gd (kd T a3 = 7) <| Option.bind (gR M x0 3) fun a5 => Option.bind (gR M x0 5) fun a6 => gd (kd T a6 = 7) <| gd (kd T a5 = 4) <| Option.bind (fX5_driftAt T M a5 (gI M a6 1)) <| un2 fun r9 M10 => gd (kd T a2 = 4) <| Option.bind (fX5_passing T M10 a2 x1 (gI M a3 2) r9 x2) <| un2 fun r12 M13 => some (r12, M13)
set_option maxHeartbeats 4000000 in
theorem kX11_rowNow {l : Launch} {B : Bx} {d : Nat} (hd : 3 ≤ d) {T : Sh} {M : Me} {x0 : Nat} {x1 : Int32} {x2 : Int32} {r : Int32} {M' : Me} (h : fX11_rowNow T M x0 x1 x2 = some (r, M')) : Kt l B yX11_rowNow cX11_rowNow 3 (some .int) d [.ref (x0), .int (x1), .int (x2)] T M (some (.int r)) T M' := by
  refine kt_of wX11_rowNow (Nat.le_refl _) (Nat.le_refl _) (Nat.le_of_ble_eq_true rfl) (fun X C hR hlx hin => ?_)
  subst hlx
  replace C : Cx X B cX11_rowNow 3 RX11 d (tp T, sl T, tp T, sl T) := C
  unfold fX11_rowNow at h
  show G X B 3 _ _ 0 [(0, .ref (x0)), (1, .int (x1)), (2, .int (x2))] [] T M
  refine g_aload_n (pc := 0) C dX11_rowNow_0 rfl 0 rfl ?_
  replace h := gd_some h; obtain ⟨hk1, h⟩ := h
  refine g_get (pc := 1) (v := va_rf (gR M x0 3)) C dX11_rowNow_1 kX11 hk1 3 (by decide) q_427 rfl ?_
  replace h := bnd h; obtain ⟨a2, ea2, h⟩ := h
  refine g_refq ea2 ?_
  refine g_iload_n (pc := 4) C dX11_rowNow_4 rfl 1 rfl ?_
  refine g_aload_n (pc := 5) C dX11_rowNow_5 rfl 0 rfl ?_
  refine g_get (pc := 6) (v := va_rf (gR M x0 5)) C dX11_rowNow_6 kX11 hk1 5 (by decide) q_429 rfl ?_
  replace h := bnd h; obtain ⟨a3, ea3, h⟩ := h
  refine g_refq ea3 ?_
  replace h := gd_some h; obtain ⟨hk4, h⟩ := h
  refine g_get (pc := 9) (v := .int (gI M a3 2)) C dX11_rowNow_9 kX8 hk4 2 (by decide) q_379 rfl ?_
  refine g_aload_n (pc := 12) C dX11_rowNow_12 rfl 0 rfl ?_
  refine g_get (pc := 13) (v := va_rf (gR M x0 3)) C dX11_rowNow_13 kX11 hk1 3 (by decide) q_427 rfl ?_
  replace h := bnd h; obtain ⟨a5, ea5, h⟩ := h
  refine g_refq ea5 ?_
  refine g_aload_n (pc := 16) C dX11_rowNow_16 rfl 0 rfl ?_
  refine g_get (pc := 17) (v := va_rf (gR M x0 5)) C dX11_rowNow_17 kX11 hk1 5 (by decide) q_429 rfl ?_
  replace h := bnd h; obtain ⟨a6, ea6, h⟩ := h
  refine g_refq ea6 ?_
  replace h := gd_some h; obtain ⟨hk7, h⟩ := h
  refine g_get (pc := 20) (v := .int (gI M a6 1)) C dX11_rowNow_20 kX8 hk7 1 (by decide) q_377 rfl ?_
  replace h := gd_some h; obtain ⟨hk8, h⟩ := h
  replace h := bnd2 h; obtain ⟨r9, M10, h1, h⟩ := h
  refine g_callVi (pc := 23) (As := [.int (gI M a6 1)]) (st := [.int (gI M a3 2), .int (x1), .ref (a2)]) C dX11_rowNow_23 wX5_driftAt hk8 rfl (by decide) q_780 q_781 q_779 (by omega) rfl (Nat.le_of_ble_eq_true rfl) (kX5_driftAt (d := 1) (Nat.le_refl _) h1) ?_
  refine g_iload_n (pc := 26) C dX11_rowNow_26 rfl 2 rfl ?_
  replace h := gd_some h; obtain ⟨hk11, h⟩ := h
  replace h := bnd2 h; obtain ⟨r12, M13, h1, h⟩ := h
  refine g_callVi (pc := 27) (As := [.int (x1), .int (gI M a3 2), .int (r9), .int (x2)]) (st := []) C dX11_rowNow_27 wX5_passing hk11 rfl (by decide) q_797 q_798 q_796 (by omega) rfl (Nat.le_of_ble_eq_true rfl) (kX5_passing (d := 2) (Nat.le_refl _) h1) ?_
  obtain ⟨rfl, rfl⟩ := Prod.mk.inj (Option.some.inj h)
  exact g_iret C hR dX11_rowNow_30
theorem dX11_passesLater_0 : decode cX11_passesLater 0 = .ok (.aload_n 0, 1) := by decide +kernel
theorem dX11_passesLater_1 : decode cX11_passesLater 1 = .ok (.getfield 42, 3) := by decide +kernel
theorem dX11_passesLater_4 : decode cX11_passesLater 4 = .ok (.getfield 127, 3) := by decide +kernel
theorem dX11_passesLater_7 : decode cX11_passesLater 7 = .ok (.iload_n 1, 1) := by decide +kernel
theorem dX11_passesLater_8 : decode cX11_passesLater 8 = .ok (.iaload, 1) := by decide +kernel
theorem dX11_passesLater_9 : decode cX11_passesLater 9 = .ok (.istore_n 3, 1) := by decide +kernel
theorem dX11_passesLater_10 : decode cX11_passesLater 10 = .ok (.aload_n 0, 1) := by decide +kernel
theorem dX11_passesLater_11 : decode cX11_passesLater 11 = .ok (.getfield 28, 3) := by decide +kernel
theorem dX11_passesLater_14 : decode cX11_passesLater 14 = .ok (.iload_n 1, 1) := by decide +kernel
theorem dX11_passesLater_15 : decode cX11_passesLater 15 = .ok (.aload_n 0, 1) := by decide +kernel
theorem dX11_passesLater_16 : decode cX11_passesLater 16 = .ok (.getfield 42, 3) := by decide +kernel
theorem dX11_passesLater_19 : decode cX11_passesLater 19 = .ok (.getfield 179, 3) := by decide +kernel
theorem dX11_passesLater_22 : decode cX11_passesLater 22 = .ok (.aload_n 0, 1) := by decide +kernel
theorem dX11_passesLater_23 : decode cX11_passesLater 23 = .ok (.getfield 28, 3) := by decide +kernel
theorem dX11_passesLater_26 : decode cX11_passesLater 26 = .ok (.aload_n 0, 1) := by decide +kernel
theorem dX11_passesLater_27 : decode cX11_passesLater 27 = .ok (.getfield 42, 3) := by decide +kernel
theorem dX11_passesLater_30 : decode cX11_passesLater 30 = .ok (.getfield 151, 3) := by decide +kernel
theorem dX11_passesLater_33 : decode cX11_passesLater 33 = .ok (.iload_n 2, 1) := by decide +kernel
theorem dX11_passesLater_34 : decode cX11_passesLater 34 = .ok (.iadd, 1) := by decide +kernel
theorem dX11_passesLater_35 : decode cX11_passesLater 35 = .ok (.invokevirtual 140, 3) := by decide +kernel
theorem dX11_passesLater_38 : decode cX11_passesLater 38 = .ok (.iload_n 3, 1) := by decide +kernel
theorem dX11_passesLater_39 : decode cX11_passesLater 39 = .ok (.bipush 24, 2) := by decide +kernel
theorem dX11_passesLater_41 : decode cX11_passesLater 41 = .ok (.idiv, 1) := by decide +kernel
theorem dX11_passesLater_42 : decode cX11_passesLater 42 = .ok (.invokevirtual 289, 3) := by decide +kernel
theorem dX11_passesLater_45 : decode cX11_passesLater 45 = .ok (.istore 4, 2) := by decide +kernel
theorem dX11_passesLater_47 : decode cX11_passesLater 47 = .ok (.iload 4, 2) := by decide +kernel
theorem dX11_passesLater_49 : decode cX11_passesLater 49 = .ok (.iload_n 3, 1) := by decide +kernel
theorem dX11_passesLater_50 : decode cX11_passesLater 50 = .ok (.bipush 24, 2) := by decide +kernel
theorem dX11_passesLater_52 : decode cX11_passesLater 52 = .ok (.irem, 1) := by decide +kernel
theorem dX11_passesLater_53 : decode cX11_passesLater 53 = .ok (.ishr, 1) := by decide +kernel
theorem dX11_passesLater_54 : decode cX11_passesLater 54 = .ok (.iconst 1, 1) := by decide +kernel
theorem dX11_passesLater_55 : decode cX11_passesLater 55 = .ok (.iand, 1) := by decide +kernel
theorem dX11_passesLater_56 : decode cX11_passesLater 56 = .ok (.ifCond .eq 7, 3) := by decide +kernel
theorem dX11_passesLater_59 : decode cX11_passesLater 59 = .ok (.iconst 1, 1) := by decide +kernel
theorem dX11_passesLater_60 : decode cX11_passesLater 60 = .ok (.goto 4, 3) := by decide +kernel
theorem dX11_passesLater_63 : decode cX11_passesLater 63 = .ok (.iconst 0, 1) := by decide +kernel
theorem dX11_passesLater_64 : decode cX11_passesLater 64 = .ok (.ireturn, 1) := by decide +kernel
theorem wX11_passesLater : Mw yX11_passesLater cX11_passesLater 5 (some .boolean) 2 := ⟨q_778, q_120, by decide, ⟨by decide +kernel, by decide +kernel⟩, by decide +kernel, by decide +kernel⟩
/-- EyeTrainer.passesLater(II)Z -/
def fX11_passesLater (T : Sh) (M : Me) (x0 : Nat) (x1 : Int32) (x2 : Int32) : Option (Int32 × Me) :=
  gd (kd T x0 = 10) <| Option.bind (gR M x0 5) fun a2 => gd (kd T a2 = 7) <| Option.bind (gR M a2 0) fun a4 => gd (kd T a4 = 13) <| gv x1 (ln T a4) <| lt (gI M a4 (Int32.toNatClampNeg x1)) fun v7 => Option.bind (gR M x0 3) fun a8 => Option.bind (gR M x0 5) fun a9 => gd (kd T a9 = 7) <| Option.bind (gR M x0 3) fun a11 => Option.bind (gR M x0 5) fun a12 => gd (kd T a12 = 7) <| gd (kd T a11 = 4) <| Option.bind (fX5_driftAt T M a11 ((gI M a12 1) + x2)) <| un2 fun r15 M16 => gd (kd T a8 = 4) <| Option.bind (fX5_passing T M16 a8 x1 (gI M a9 2) r15 (v7 / (24 : Int32))) <| un2 fun r18 M19 => if ((r18 >>> ((v7 - v7 / (24 : Int32) * (24 : Int32)) &&& 31)) &&& (1 : Int32)) = 0 then (some ((0 : Int32), M19)) else (some ((1 : Int32), M19))
set_option maxHeartbeats 4000000 in
theorem kX11_passesLater {l : Launch} {B : Bx} {d : Nat} (hd : 3 ≤ d) {T : Sh} {M : Me} {x0 : Nat} {x1 : Int32} {x2 : Int32} {r : Int32} {M' : Me} (h : fX11_passesLater T M x0 x1 x2 = some (r, M')) : Kt l B yX11_passesLater cX11_passesLater 5 (some .boolean) d [.ref (x0), .int (x1), .int (x2)] T M (some (.int r)) T M' := by
  refine kt_of wX11_passesLater (Nat.le_refl _) (Nat.le_refl _) (Nat.le_of_ble_eq_true rfl) (fun X C hR hlx hin => ?_)
  subst hlx
  replace C : Cx X B cX11_passesLater 5 RX11 d (tp T, sl T, tp T, sl T) := C
  unfold fX11_passesLater at h
  show G X B 5 _ _ 0 [(0, .ref (x0)), (1, .int (x1)), (2, .int (x2))] [] T M
  refine g_aload_n (pc := 0) C dX11_passesLater_0 rfl 0 rfl ?_
  replace h := gd_some h; obtain ⟨hk1, h⟩ := h
  refine g_get (pc := 1) (v := va_rf (gR M x0 5)) C dX11_passesLater_1 kX11 hk1 5 (by decide) q_429 rfl ?_
  replace h := bnd h; obtain ⟨a2, ea2, h⟩ := h
  refine g_refq ea2 ?_
  replace h := gd_some h; obtain ⟨hk3, h⟩ := h
  refine g_get (pc := 4) (v := va_rf (gR M a2 0)) C dX11_passesLater_4 kX8 hk3 0 (by decide) q_375 rfl ?_
  replace h := bnd h; obtain ⟨a4, ea4, h⟩ := h
  refine g_refq ea4 ?_
  refine g_iload_n (pc := 7) C dX11_passesLater_7 rfl 1 rfl ?_
  replace h := gd_some h; obtain ⟨hk5, h⟩ := h
  replace h := gv_some h; obtain ⟨hi6, h⟩ := h
  refine g_iald (pc := 8) C dX11_passesLater_8 hk5 hi6 ?_
  refine g_topi (fun v7 ev7 => ?_)
  replace h := lt_at ev7 h
  refine g_istore_n (pc := 9) (lo2 := [(3, .int (v7)), (0, .ref (x0)), (1, .int (x1)), (2, .int (x2))]) C dX11_passesLater_9 rfl (by decide) rfl ?_
  refine g_aload_n (pc := 10) C dX11_passesLater_10 rfl 1 rfl ?_
  refine g_get (pc := 11) (v := va_rf (gR M x0 3)) C dX11_passesLater_11 kX11 hk1 3 (by decide) q_427 rfl ?_
  replace h := bnd h; obtain ⟨a8, ea8, h⟩ := h
  refine g_refq ea8 ?_
  refine g_iload_n (pc := 14) C dX11_passesLater_14 rfl 2 rfl ?_
  refine g_aload_n (pc := 15) C dX11_passesLater_15 rfl 1 rfl ?_
  refine g_get (pc := 16) (v := va_rf (gR M x0 5)) C dX11_passesLater_16 kX11 hk1 5 (by decide) q_429 rfl ?_
  replace h := bnd h; obtain ⟨a9, ea9, h⟩ := h
  refine g_refq ea9 ?_
  replace h := gd_some h; obtain ⟨hk10, h⟩ := h
  refine g_get (pc := 19) (v := .int (gI M a9 2)) C dX11_passesLater_19 kX8 hk10 2 (by decide) q_379 rfl ?_
  refine g_aload_n (pc := 22) C dX11_passesLater_22 rfl 1 rfl ?_
  refine g_get (pc := 23) (v := va_rf (gR M x0 3)) C dX11_passesLater_23 kX11 hk1 3 (by decide) q_427 rfl ?_
  replace h := bnd h; obtain ⟨a11, ea11, h⟩ := h
  refine g_refq ea11 ?_
  refine g_aload_n (pc := 26) C dX11_passesLater_26 rfl 1 rfl ?_
  refine g_get (pc := 27) (v := va_rf (gR M x0 5)) C dX11_passesLater_27 kX11 hk1 5 (by decide) q_429 rfl ?_
  replace h := bnd h; obtain ⟨a12, ea12, h⟩ := h
  refine g_refq ea12 ?_
  replace h := gd_some h; obtain ⟨hk13, h⟩ := h
  refine g_get (pc := 30) (v := .int (gI M a12 1)) C dX11_passesLater_30 kX8 hk13 1 (by decide) q_377 rfl ?_
  refine g_iload_n (pc := 33) C dX11_passesLater_33 rfl 3 rfl ?_
  refine g_iadd (pc := 34) C dX11_passesLater_34 ?_
  replace h := gd_some h; obtain ⟨hk14, h⟩ := h
  replace h := bnd2 h; obtain ⟨r15, M16, h1, h⟩ := h
  refine g_callVi (pc := 35) (As := [.int ((gI M a12 1) + x2)]) (st := [.int (gI M a9 2), .int (x1), .ref (a8)]) C dX11_passesLater_35 wX5_driftAt hk14 rfl (by decide) q_780 q_781 q_779 (by omega) rfl (Nat.le_of_ble_eq_true rfl) (kX5_driftAt (d := 1) (Nat.le_refl _) h1) ?_
  refine g_iload_n (pc := 38) C dX11_passesLater_38 rfl 0 rfl ?_
  refine g_bipush (pc := 39) (v := 24) C dX11_passesLater_39 (by decide) ?_
  refine g_idiv (pc := 41) C dX11_passesLater_41 (by decide) ?_
  replace h := gd_some h; obtain ⟨hk17, h⟩ := h
  replace h := bnd2 h; obtain ⟨r18, M19, h1, h⟩ := h
  refine g_callVi (pc := 42) (As := [.int (x1), .int (gI M a9 2), .int (r15), .int (v7 / (24 : Int32))]) (st := []) C dX11_passesLater_42 wX5_passing hk17 rfl (by decide) q_797 q_798 q_796 (by omega) rfl (Nat.le_of_ble_eq_true rfl) (kX5_passing (d := 2) (Nat.le_refl _) h1) ?_
  refine g_istore (pc := 45) (lo2 := [(4, .int (r18)), (3, .int (v7)), (0, .ref (x0)), (1, .int (x1)), (2, .int (x2))]) C dX11_passesLater_45 (by decide) rfl ?_
  refine g_iload (pc := 47) C dX11_passesLater_47 0 rfl ?_
  refine g_iload_n (pc := 49) C dX11_passesLater_49 rfl 1 rfl ?_
  refine g_bipush (pc := 50) (v := 24) C dX11_passesLater_50 (by decide) ?_
  refine g_irem (pc := 52) C dX11_passesLater_52 (by decide) ?_
  refine g_ishr (pc := 53) C dX11_passesLater_53 ?_
  refine g_iconst (pc := 54) (v := 1) C dX11_passesLater_54 (by decide) ?_
  refine g_iand (pc := 55) C dX11_passesLater_55 ?_
  refine g_if_eq (pc := 56) (tgt := 63) C dX11_passesLater_56 (by decide) (fun c20 => ?_) (fun c20 => ?_)
  · replace h := ifp c20 h
    refine g_iconst (pc := 63) (v := 0) C dX11_passesLater_63 (by decide) ?_
    obtain ⟨rfl, rfl⟩ := Prod.mk.inj (Option.some.inj h)
    exact g_zret C hR dX11_passesLater_64 rfl
  · replace h := ifn c20 h
    refine g_iconst (pc := 59) (v := 1) C dX11_passesLater_59 (by decide) ?_
    refine g_goto (pc := 60) (tgt := 64) C dX11_passesLater_60 (by decide) ?_
    obtain ⟨rfl, rfl⟩ := Prod.mk.inj (Option.some.inj h)
    exact g_zret C hR dX11_passesLater_64 rfl
theorem dX11_passesInPoint_0 : decode cX11_passesInPoint 0 = .ok (.aload_n 0, 1) := by decide +kernel
theorem dX11_passesInPoint_1 : decode cX11_passesInPoint 1 = .ok (.iload_n 1, 1) := by decide +kernel
theorem dX11_passesInPoint_2 : decode cX11_passesInPoint 2 = .ok (.iconst 0, 1) := by decide +kernel
theorem dX11_passesInPoint_3 : decode cX11_passesInPoint 3 = .ok (.invokevirtual 296, 3) := by decide +kernel
theorem dX11_passesInPoint_6 : decode cX11_passesInPoint 6 = .ok (.ireturn, 1) := by decide +kernel
theorem wX11_passesInPoint : Mw yX11_passesInPoint cX11_passesInPoint 2 (some .boolean) 1 := ⟨q_774, q_120, by decide, ⟨by decide +kernel, by decide +kernel⟩, by decide +kernel, by decide +kernel⟩
/-- EyeTrainer.passesInPoint(I)Z -/
def fX11_passesInPoint (T : Sh) (M : Me) (x0 : Nat) (x1 : Int32) : Option (Int32 × Me) :=
  gd (kd T x0 = 10) <| Option.bind (fX11_passesLater T M x0 x1 (0 : Int32)) <| un2 fun r2 M3 => gd (r2 = 0 ∨ r2 = 1) <| some (r2, M3)
set_option maxHeartbeats 4000000 in
theorem kX11_passesInPoint {l : Launch} {B : Bx} {d : Nat} (hd : 4 ≤ d) {T : Sh} {M : Me} {x0 : Nat} {x1 : Int32} {r : Int32} {M' : Me} (h : fX11_passesInPoint T M x0 x1 = some (r, M')) : Kt l B yX11_passesInPoint cX11_passesInPoint 2 (some .boolean) d [.ref (x0), .int (x1)] T M (some (.int r)) T M' := by
  refine kt_of wX11_passesInPoint (Nat.le_refl _) (Nat.le_refl _) (Nat.le_of_ble_eq_true rfl) (fun X C hR hlx hin => ?_)
  subst hlx
  replace C : Cx X B cX11_passesInPoint 2 RX11 d (tp T, sl T, tp T, sl T) := C
  unfold fX11_passesInPoint at h
  show G X B 2 _ _ 0 [(0, .ref (x0)), (1, .int (x1))] [] T M
  refine g_aload_n (pc := 0) C dX11_passesInPoint_0 rfl 0 rfl ?_
  refine g_iload_n (pc := 1) C dX11_passesInPoint_1 rfl 1 rfl ?_
  refine g_iconst (pc := 2) (v := 0) C dX11_passesInPoint_2 (by decide) ?_
  replace h := gd_some h; obtain ⟨hk1, h⟩ := h
  replace h := bnd2 h; obtain ⟨r2, M3, h1, h⟩ := h
  refine g_callVi (pc := 3) (As := [.int (x1), .int ((0 : Int32))]) (st := []) C dX11_passesInPoint_3 wX11_passesLater hk1 rfl (by decide) q_777 q_22 q_775 (by omega) rfl (Nat.le_of_ble_eq_true rfl) (kX11_passesLater (d := 3) (Nat.le_refl _) h1) ?_
  replace h := gd_some h; obtain ⟨hb4, h⟩ := h
  obtain ⟨rfl, rfl⟩ := Prod.mk.inj (Option.some.inj h)
  exact g_zret C hR dX11_passesInPoint_6 (bz_nar hb4)
theorem dX11_passingLanes_0 : decode cX11_passingLanes 0 = .ok (.iconst 0, 1) := by decide +kernel
theorem dX11_passingLanes_1 : decode cX11_passingLanes 1 = .ok (.istore_n 1, 1) := by decide +kernel
theorem dX11_passingLanes_2 : decode cX11_passingLanes 2 = .ok (.iconst 0, 1) := by decide +kernel
theorem dX11_passingLanes_3 : decode cX11_passingLanes 3 = .ok (.istore_n 2, 1) := by decide +kernel
theorem dX11_passingLanes_4 : decode cX11_passingLanes 4 = .ok (.iload_n 2, 1) := by decide +kernel
theorem dX11_passingLanes_5 : decode cX11_passingLanes 5 = .ok (.aload_n 0, 1) := by decide +kernel
theorem dX11_passingLanes_6 : decode cX11_passingLanes 6 = .ok (.getfield 28, 3) := by decide +kernel
theorem dX11_passingLanes_9 : decode cX11_passingLanes 9 = .ok (.getfield 111, 3) := by decide +kernel
theorem dX11_passingLanes_12 : decode cX11_passingLanes 12 = .ok (.getfield 272, 3) := by decide +kernel
theorem dX11_passingLanes_15 : decode cX11_passingLanes 15 = .ok (.if_icmp .ge 27, 3) := by decide +kernel
theorem dX11_passingLanes_18 : decode cX11_passingLanes 18 = .ok (.iload_n 1, 1) := by decide +kernel
theorem dX11_passingLanes_19 : decode cX11_passingLanes 19 = .ok (.aload_n 0, 1) := by decide +kernel
theorem dX11_passingLanes_20 : decode cX11_passingLanes 20 = .ok (.iload_n 2, 1) := by decide +kernel
theorem dX11_passingLanes_21 : decode cX11_passingLanes 21 = .ok (.invokevirtual 130, 3) := by decide +kernel
theorem dX11_passingLanes_24 : decode cX11_passingLanes 24 = .ok (.ifCond .eq 9, 3) := by decide +kernel
theorem dX11_passingLanes_27 : decode cX11_passingLanes 27 = .ok (.iconst 1, 1) := by decide +kernel
theorem dX11_passingLanes_28 : decode cX11_passingLanes 28 = .ok (.iload_n 2, 1) := by decide +kernel
theorem dX11_passingLanes_29 : decode cX11_passingLanes 29 = .ok (.ishl, 1) := by decide +kernel
theorem dX11_passingLanes_30 : decode cX11_passingLanes 30 = .ok (.goto 4, 3) := by decide +kernel
theorem dX11_passingLanes_33 : decode cX11_passingLanes 33 = .ok (.iconst 0, 1) := by decide +kernel
theorem dX11_passingLanes_34 : decode cX11_passingLanes 34 = .ok (.ior, 1) := by decide +kernel
theorem dX11_passingLanes_35 : decode cX11_passingLanes 35 = .ok (.istore_n 1, 1) := by decide +kernel
theorem dX11_passingLanes_36 : decode cX11_passingLanes 36 = .ok (.iinc 2 1, 3) := by decide +kernel
theorem dX11_passingLanes_39 : decode cX11_passingLanes 39 = .ok (.goto (-35), 3) := by decide +kernel
theorem dX11_passingLanes_42 : decode cX11_passingLanes 42 = .ok (.iload_n 1, 1) := by decide +kernel
theorem dX11_passingLanes_43 : decode cX11_passingLanes 43 = .ok (.ireturn, 1) := by decide +kernel
theorem wX11_passingLanes : Mw yX11_passingLanes cX11_passingLanes 3 (some .int) 0 := ⟨q_922, q_120, by decide, ⟨by decide +kernel, by decide +kernel⟩, by decide +kernel, by decide +kernel⟩
-- a loop of EyeTrainer.passingLanes at 4
def bX11_passingLanes_4 (T : Sh) (x0 : Nat) (x1 : Int32) (x2 : Int32) (M : Me) : Option ((Int32 × Int32 × Me) ⊕ ((Int32 × Me))) :=
  gd (kd T x0 = 10) <| Option.bind (gR M x0 3) fun a2 => gd (kd T a2 = 4) <| Option.bind (gR M a2 0) fun a4 => gd (kd T a4 = 2) <| if (gI M a4 7) ≤ x2 then (some (.inr (x1, M))) else (Option.bind (fX11_passesInPoint T M x0 x2) <| un2 fun r7 M8 => if r7 = 0 then (lt (x1 ||| (0 : Int32)) fun v10 => lt (x2 + (1 : Int32)) fun v11 => some (.inl (v10, v11, M8))) else (lt (x1 ||| ((1 : Int32) <<< (x2 &&& 31))) fun v12 => lt (x2 + (1 : Int32)) fun v13 => some (.inl (v12, v13, M8))))
def PX11_passingLanes_4 (X : Fx) (B : Bx) (Z : Nat × Nat × Nat × Nat) (Q : State → Prop) (T : Sh) (x0 : Nat) (s : Int32 × Int32 × Me) : Prop := G X B 3 Z Q 4 [(0, .ref (x0)), (1, .int (s.1)), (2, .int (s.2.1))] [] T s.2.2
def EX11_passingLanes_4 (X : Fx) (B : Bx) (Z : Nat × Nat × Nat × Nat) (Q : State → Prop) (T : Sh) (x0 : Nat) (r : (Int32 × Me)) : Prop := G X B 3 Z Q 42 [(1, .int (r.1))] [] T r.2
set_option maxHeartbeats 4000000 in
theorem tbX11_passingLanes_4 {X : Fx} {B : Bx} {Z : Nat × Nat × Nat × Nat} {Q : State → Prop} {d : Nat} {T : Sh} (C : Cx X B cX11_passingLanes 3 RX11 d Z) (hd : 5 ≤ d) {x0 : Nat} : ∀ (s : Int32 × Int32 × Me) (o : (Int32 × Int32 × Me) ⊕ ((Int32 × Me))), bX11_passingLanes_4 T x0 s.1 s.2.1 s.2.2 = some o → lpE (PX11_passingLanes_4 X B Z Q T x0) (EX11_passingLanes_4 X B Z Q T x0) o → PX11_passingLanes_4 X B Z Q T x0 s := by
  rintro ⟨x1, x2, M⟩ o h hE
  replace h : bX11_passingLanes_4 T x0 x1 x2 M = some o := h
  unfold bX11_passingLanes_4 at h
  show G X B 3 Z Q 4 [(0, .ref (x0)), (1, .int (x1)), (2, .int (x2))] [] T M
  refine g_iload_n (pc := 4) C dX11_passingLanes_4 rfl 2 rfl ?_
  refine g_aload_n (pc := 5) C dX11_passingLanes_5 rfl 0 rfl ?_
  replace h := gd_some h; obtain ⟨hk1, h⟩ := h
  refine g_get (pc := 6) (v := va_rf (gR M x0 3)) C dX11_passingLanes_6 kX11 hk1 3 (by decide) q_427 rfl ?_
  replace h := bnd h; obtain ⟨a2, ea2, h⟩ := h
  refine g_refq ea2 ?_
  replace h := gd_some h; obtain ⟨hk3, h⟩ := h
  refine g_get (pc := 9) (v := va_rf (gR M a2 0)) C dX11_passingLanes_9 kX5 hk3 0 (by decide) q_288 rfl ?_
  replace h := bnd h; obtain ⟨a4, ea4, h⟩ := h
  refine g_refq ea4 ?_
  replace h := gd_some h; obtain ⟨hk5, h⟩ := h
  refine g_get (pc := 12) (v := .int (gI M a4 7)) C dX11_passingLanes_12 kX3 hk5 7 (by decide) q_242 rfl ?_
  refine g_icmp_ge (pc := 15) (tgt := 42) C dX11_passingLanes_15 (by decide) (fun c6 => ?_) (fun c6 => ?_)
  · replace h := ifp c6 h
    obtain rfl := Option.some.inj h
    exact g_sub [1] rfl (show G X B 3 Z Q 42 [(1, .int (x1))] [] T M from hE)
  · replace h := ifn c6 h
    refine g_iload_n (pc := 18) C dX11_passingLanes_18 rfl 1 rfl ?_
    refine g_aload_n (pc := 19) C dX11_passingLanes_19 rfl 0 rfl ?_
    refine g_iload_n (pc := 20) C dX11_passingLanes_20 rfl 2 rfl ?_
    replace h := bnd2 h; obtain ⟨r7, M8, h1, h⟩ := h
    refine g_callVi (pc := 21) (As := [.int (x2)]) (st := [.int (x1)]) C dX11_passingLanes_21 wX11_passesInPoint hk1 rfl (by decide) q_773 q_21 q_771 (by omega) rfl (Nat.le_of_ble_eq_true rfl) (kX11_passesInPoint (d := 4) (Nat.le_refl _) h1) ?_
    refine g_if_eq (pc := 24) (tgt := 33) C dX11_passingLanes_24 (by decide) (fun c9 => ?_) (fun c9 => ?_)
    · replace h := ifp c9 h
      refine g_iconst (pc := 33) (v := 0) C dX11_passingLanes_33 (by decide) ?_
      refine g_ior (pc := 34) C dX11_passingLanes_34 ?_
      refine g_topi (fun v10 ev10 => ?_)
      replace h := lt_at ev10 h
      refine g_istore_n (pc := 35) (lo2 := [(1, .int (v10)), (0, .ref (x0)), (2, .int (x2))]) C dX11_passingLanes_35 rfl (by decide) rfl ?_
      obtain ⟨v11, ev11⟩ : ∃ y : Int32, y = x2 + (1 : Int32) := ⟨_, rfl⟩
      replace h := lt_at ev11 h
      refine g_iinc (pc := 36) (v := v11) (k := 2) (lo2 := [(2, .int (v11)), (1, .int (v10)), (0, .ref (x0))]) C dX11_passingLanes_36 rfl (by rw [ev11]; rfl) (by decide) rfl ?_
      refine g_goto (pc := 39) (tgt := 4) C dX11_passingLanes_39 (by decide) ?_
      obtain rfl := Option.some.inj h
      exact g_sub [2, 1, 0] rfl (show G X B 3 Z Q 4 [(0, .ref (x0)), (1, .int (v10)), (2, .int (v11))] [] T M8 from hE)
    · replace h := ifn c9 h
      refine g_iconst (pc := 27) (v := 1) C dX11_passingLanes_27 (by decide) ?_
      refine g_iload_n (pc := 28) C dX11_passingLanes_28 rfl 2 rfl ?_
      refine g_ishl (pc := 29) C dX11_passingLanes_29 ?_
      refine g_goto (pc := 30) (tgt := 34) C dX11_passingLanes_30 (by decide) ?_
      refine g_ior (pc := 34) C dX11_passingLanes_34 ?_
      refine g_topi (fun v12 ev12 => ?_)
      replace h := lt_at ev12 h
      refine g_istore_n (pc := 35) (lo2 := [(1, .int (v12)), (0, .ref (x0)), (2, .int (x2))]) C dX11_passingLanes_35 rfl (by decide) rfl ?_
      obtain ⟨v13, ev13⟩ : ∃ y : Int32, y = x2 + (1 : Int32) := ⟨_, rfl⟩
      replace h := lt_at ev13 h
      refine g_iinc (pc := 36) (v := v13) (k := 2) (lo2 := [(2, .int (v13)), (1, .int (v12)), (0, .ref (x0))]) C dX11_passingLanes_36 rfl (by rw [ev13]; rfl) (by decide) rfl ?_
      refine g_goto (pc := 39) (tgt := 4) C dX11_passingLanes_39 (by decide) ?_
      obtain rfl := Option.some.inj h
      exact g_sub [2, 1, 0] rfl (show G X B 3 Z Q 4 [(0, .ref (x0)), (1, .int (v12)), (2, .int (v13))] [] T M8 from hE)
/-- EyeTrainer.passingLanes()I -/
def fX11_passingLanes (T : Sh) (M : Me) (x0 : Nat) : Option (Int32 × Me) :=
  (lp FU (fun s => bX11_passingLanes_4 T x0 s.1 s.2.1 s.2.2) ((0 : Int32), (0 : Int32), M)).bind (un2 fun x1_14 M15 => some (x1_14, M15))
set_option maxHeartbeats 4000000 in
theorem kX11_passingLanes {l : Launch} {B : Bx} {d : Nat} (hd : 5 ≤ d) {T : Sh} {M : Me} {x0 : Nat} {r : Int32} {M' : Me} (h : fX11_passingLanes T M x0 = some (r, M')) : Kt l B yX11_passingLanes cX11_passingLanes 3 (some .int) d [.ref (x0)] T M (some (.int r)) T M' := by
  refine kt_of wX11_passingLanes (Nat.le_refl _) (Nat.le_refl _) (Nat.le_of_ble_eq_true rfl) (fun X C hR hlx hin => ?_)
  subst hlx
  replace C : Cx X B cX11_passingLanes 3 RX11 d (tp T, sl T, tp T, sl T) := C
  unfold fX11_passingLanes at h
  show G X B 3 _ _ 0 [(0, .ref (x0))] [] T M
  refine g_iconst (pc := 0) (v := 0) C dX11_passingLanes_0 (by decide) ?_
  refine g_istore_n (pc := 1) (lo2 := [(1, .int ((0 : Int32))), (0, .ref (x0))]) C dX11_passingLanes_1 rfl (by decide) rfl ?_
  refine g_iconst (pc := 2) (v := 0) C dX11_passingLanes_2 (by decide) ?_
  refine g_istore_n (pc := 3) (lo2 := [(2, .int ((0 : Int32))), (1, .int ((0 : Int32))), (0, .ref (x0))]) C dX11_passingLanes_3 rfl (by decide) rfl ?_
  replace h := bnd2 h; obtain ⟨x1_14, M15, h1, h⟩ := h
  refine g_sub [2, 1, 0] rfl ?_
  refine lp_G2 (P := PX11_passingLanes_4 X B _ _ T x0) (E := EX11_passingLanes_4 X B _ _ T x0) (tbX11_passingLanes_4 C hd) h1 ?_
  show G X B 3 _ _ 42 [(1, .int (x1_14))] [] T M15
  refine g_iload_n (pc := 42) C dX11_passingLanes_42 rfl 0 rfl ?_
  obtain ⟨rfl, rfl⟩ := Prod.mk.inj (Option.some.inj h)
  exact g_iret C hR dX11_passingLanes_43
theorem dX11_look_0 : decode cX11_look 0 = .ok (.aload_n 0, 1) := by decide +kernel
theorem dX11_look_1 : decode cX11_look 1 = .ok (.getfield 28, 3) := by decide +kernel
theorem dX11_look_4 : decode cX11_look 4 = .ok (.aload_n 0, 1) := by decide +kernel
theorem dX11_look_5 : decode cX11_look 5 = .ok (.getfield 42, 3) := by decide +kernel
theorem dX11_look_8 : decode cX11_look 8 = .ok (.getfield 151, 3) := by decide +kernel
theorem dX11_look_11 : decode cX11_look 11 = .ok (.invokevirtual 140, 3) := by decide +kernel
theorem dX11_look_14 : decode cX11_look 14 = .ok (.istore_n 2, 1) := by decide +kernel
theorem dX11_look_15 : decode cX11_look 15 = .ok (.iconst 0, 1) := by decide +kernel
theorem dX11_look_16 : decode cX11_look 16 = .ok (.istore_n 3, 1) := by decide +kernel
theorem dX11_look_17 : decode cX11_look 17 = .ok (.iload_n 3, 1) := by decide +kernel
theorem dX11_look_18 : decode cX11_look 18 = .ok (.bipush 16, 2) := by decide +kernel
theorem dX11_look_20 : decode cX11_look 20 = .ok (.if_icmp .ge 35, 3) := by decide +kernel
theorem dX11_look_23 : decode cX11_look 23 = .ok (.aload_n 0, 1) := by decide +kernel
theorem dX11_look_24 : decode cX11_look 24 = .ok (.getfield 35, 3) := by decide +kernel
theorem dX11_look_27 : decode cX11_look 27 = .ok (.getfield 359, 3) := by decide +kernel
theorem dX11_look_30 : decode cX11_look 30 = .ok (.iload_n 3, 1) := by decide +kernel
theorem dX11_look_31 : decode cX11_look 31 = .ok (.aload_n 0, 1) := by decide +kernel
theorem dX11_look_32 : decode cX11_look 32 = .ok (.getfield 28, 3) := by decide +kernel
theorem dX11_look_35 : decode cX11_look 35 = .ok (.iload_n 1, 1) := by decide +kernel
theorem dX11_look_36 : decode cX11_look 36 = .ok (.aload_n 0, 1) := by decide +kernel
theorem dX11_look_37 : decode cX11_look 37 = .ok (.getfield 42, 3) := by decide +kernel
theorem dX11_look_40 : decode cX11_look 40 = .ok (.getfield 179, 3) := by decide +kernel
theorem dX11_look_43 : decode cX11_look 43 = .ok (.iload_n 2, 1) := by decide +kernel
theorem dX11_look_44 : decode cX11_look 44 = .ok (.iload_n 3, 1) := by decide +kernel
theorem dX11_look_45 : decode cX11_look 45 = .ok (.invokevirtual 289, 3) := by decide +kernel
theorem dX11_look_48 : decode cX11_look 48 = .ok (.iastore, 1) := by decide +kernel
theorem dX11_look_49 : decode cX11_look 49 = .ok (.iinc 3 1, 3) := by decide +kernel
theorem dX11_look_52 : decode cX11_look 52 = .ok (.goto (-35), 3) := by decide +kernel
theorem dX11_look_55 : decode cX11_look 55 = .ok (.return_, 1) := by decide +kernel
theorem wX11_look : Mw yX11_look cX11_look 4 none 1 := ⟨q_868, q_120, by decide, ⟨by decide +kernel, by decide +kernel⟩, by decide +kernel, by decide +kernel⟩
-- a loop of EyeTrainer.look at 17
def bX11_look_17 (T : Sh) (x0 : Nat) (x1 : Int32) (x2 : Int32) (x3 : Int32) (M : Me) : Option ((Int32 × Me) ⊕ (Me)) :=
  if (16 : Int32) ≤ x3 then (some (.inr M)) else (gd (kd T x0 = 10) <| Option.bind (gR M x0 4) fun a10 => gd (kd T a10 = 6) <| Option.bind (gR M a10 0) fun a12 => Option.bind (gR M x0 3) fun a13 => Option.bind (gR M x0 5) fun a14 => gd (kd T a14 = 7) <| gd (kd T a13 = 4) <| Option.bind (fX5_passing T M a13 x1 (gI M a14 2) x2 x3) <| un2 fun r17 M18 => gd (kd T a12 = 13) <| gv x3 (ln T a12) <| lt (pI M18 a12 (Int32.toNatClampNeg x3) r17) fun M21 => lt (x3 + (1 : Int32)) fun v22 => some (.inl (v22, M21)))
def PX11_look_17 (X : Fx) (B : Bx) (Z : Nat × Nat × Nat × Nat) (Q : State → Prop) (T : Sh) (x0 : Nat) (x1 : Int32) (x2 : Int32) (s : Int32 × Me) : Prop := G X B 4 Z Q 17 [(0, .ref (x0)), (1, .int (x1)), (2, .int (x2)), (3, .int (s.1))] [] T s.2
def EX11_look_17 (X : Fx) (B : Bx) (Z : Nat × Nat × Nat × Nat) (Q : State → Prop) (T : Sh) (x0 : Nat) (x1 : Int32) (x2 : Int32) (r : Me) : Prop := G X B 4 Z Q 55 [] [] T r
set_option maxHeartbeats 4000000 in
theorem tbX11_look_17 {X : Fx} {B : Bx} {Z : Nat × Nat × Nat × Nat} {Q : State → Prop} {d : Nat} {T : Sh} (C : Cx X B cX11_look 4 RX11 d Z) (hd : 3 ≤ d) {x0 : Nat} {x1 : Int32} {x2 : Int32} : ∀ (s : Int32 × Me) (o : (Int32 × Me) ⊕ (Me)), bX11_look_17 T x0 x1 x2 s.1 s.2 = some o → lpE (PX11_look_17 X B Z Q T x0 x1 x2) (EX11_look_17 X B Z Q T x0 x1 x2) o → PX11_look_17 X B Z Q T x0 x1 x2 s := by
  rintro ⟨x3, M⟩ o h hE
  replace h : bX11_look_17 T x0 x1 x2 x3 M = some o := h
  unfold bX11_look_17 at h
  show G X B 4 Z Q 17 [(0, .ref (x0)), (1, .int (x1)), (2, .int (x2)), (3, .int (x3))] [] T M
  refine g_iload_n (pc := 17) C dX11_look_17 rfl 3 rfl ?_
  refine g_bipush (pc := 18) (v := 16) C dX11_look_18 (by decide) ?_
  refine g_icmp_ge (pc := 20) (tgt := 55) C dX11_look_20 (by decide) (fun c8 => ?_) (fun c8 => ?_)
  · replace h := ifp c8 h
    obtain rfl := Option.some.inj h
    exact g_sub [] rfl (show G X B 4 Z Q 55 [] [] T M from hE)
  · replace h := ifn c8 h
    refine g_aload_n (pc := 23) C dX11_look_23 rfl 0 rfl ?_
    replace h := gd_some h; obtain ⟨hk9, h⟩ := h
    refine g_get (pc := 24) (v := va_rf (gR M x0 4)) C dX11_look_24 kX11 hk9 4 (by decide) q_428 rfl ?_
    replace h := bnd h; obtain ⟨a10, ea10, h⟩ := h
    refine g_refq ea10 ?_
    replace h := gd_some h; obtain ⟨hk11, h⟩ := h
    refine g_get (pc := 27) (v := va_rf (gR M a10 0)) C dX11_look_27 kX7 hk11 0 (by decide) q_315 rfl ?_
    replace h := bnd h; obtain ⟨a12, ea12, h⟩ := h
    refine g_refq ea12 ?_
    refine g_iload_n (pc := 30) C dX11_look_30 rfl 3 rfl ?_
    refine g_aload_n (pc := 31) C dX11_look_31 rfl 0 rfl ?_
    refine g_get (pc := 32) (v := va_rf (gR M x0 3)) C dX11_look_32 kX11 hk9 3 (by decide) q_427 rfl ?_
    replace h := bnd h; obtain ⟨a13, ea13, h⟩ := h
    refine g_refq ea13 ?_
    refine g_iload_n (pc := 35) C dX11_look_35 rfl 1 rfl ?_
    refine g_aload_n (pc := 36) C dX11_look_36 rfl 0 rfl ?_
    refine g_get (pc := 37) (v := va_rf (gR M x0 5)) C dX11_look_37 kX11 hk9 5 (by decide) q_429 rfl ?_
    replace h := bnd h; obtain ⟨a14, ea14, h⟩ := h
    refine g_refq ea14 ?_
    replace h := gd_some h; obtain ⟨hk15, h⟩ := h
    refine g_get (pc := 40) (v := .int (gI M a14 2)) C dX11_look_40 kX8 hk15 2 (by decide) q_379 rfl ?_
    refine g_iload_n (pc := 43) C dX11_look_43 rfl 2 rfl ?_
    refine g_iload_n (pc := 44) C dX11_look_44 rfl 3 rfl ?_
    replace h := gd_some h; obtain ⟨hk16, h⟩ := h
    replace h := bnd2 h; obtain ⟨r17, M18, h1, h⟩ := h
    refine g_callVi (pc := 45) (As := [.int (x1), .int (gI M a14 2), .int (x2), .int (x3)]) (st := [.int (x3), .ref (a12)]) C dX11_look_45 wX5_passing hk16 rfl (by decide) q_797 q_798 q_796 (by omega) rfl (Nat.le_of_ble_eq_true rfl) (kX5_passing (d := 2) (Nat.le_refl _) h1) ?_
    replace h := gd_some h; obtain ⟨hk19, h⟩ := h
    replace h := gv_some h; obtain ⟨hi20, h⟩ := h
    refine g_iast (pc := 48) C dX11_look_48 hk19 hi20 ?_
    refine g_mem (fun M21 eM21 => ?_)
    replace h := lt_at eM21 h
    obtain ⟨v22, ev22⟩ : ∃ y : Int32, y = x3 + (1 : Int32) := ⟨_, rfl⟩
    replace h := lt_at ev22 h
    refine g_iinc (pc := 49) (v := v22) (k := 3) (lo2 := [(3, .int (v22)), (0, .ref (x0)), (1, .int (x1)), (2, .int (x2))]) C dX11_look_49 rfl (by rw [ev22]; rfl) (by decide) rfl ?_
    refine g_goto (pc := 52) (tgt := 17) C dX11_look_52 (by decide) ?_
    obtain rfl := Option.some.inj h
    exact g_sub [1, 2, 3, 0] rfl (show G X B 4 Z Q 17 [(0, .ref (x0)), (1, .int (x1)), (2, .int (x2)), (3, .int (v22))] [] T M21 from hE)
/-- EyeTrainer.look(I)V -/
def fX11_look (T : Sh) (M : Me) (x0 : Nat) (x1 : Int32) : Option (Unit × Me) :=
  gd (kd T x0 = 10) <| Option.bind (gR M x0 3) fun a2 => Option.bind (gR M x0 5) fun a3 => gd (kd T a3 = 7) <| gd (kd T a2 = 4) <| Option.bind (fX5_driftAt T M a2 (gI M a3 1)) <| un2 fun r6 M7 => (lp FU (fun s => bX11_look_17 T x0 x1 r6 s.1 s.2) ((0 : Int32), M7)).bind (fun M23 => some ((), M23))
set_option maxHeartbeats 4000000 in
theorem kX11_look {l : Launch} {B : Bx} {d : Nat} (hd : 3 ≤ d) {T : Sh} {M : Me} {x0 : Nat} {x1 : Int32} {M' : Me} (h : fX11_look T M x0 x1 = some ((), M')) : Kt l B yX11_look cX11_look 4 none d [.ref (x0), .int (x1)] T M none T M' := by
  refine kt_of wX11_look (Nat.le_refl _) (Nat.le_refl _) (Nat.le_of_ble_eq_true rfl) (fun X C hR hlx hin => ?_)
  subst hlx
  replace C : Cx X B cX11_look 4 RX11 d (tp T, sl T, tp T, sl T) := C
  unfold fX11_look at h
  show G X B 4 _ _ 0 [(0, .ref (x0)), (1, .int (x1))] [] T M
  refine g_aload_n (pc := 0) C dX11_look_0 rfl 0 rfl ?_
  replace h := gd_some h; obtain ⟨hk1, h⟩ := h
  refine g_get (pc := 1) (v := va_rf (gR M x0 3)) C dX11_look_1 kX11 hk1 3 (by decide) q_427 rfl ?_
  replace h := bnd h; obtain ⟨a2, ea2, h⟩ := h
  refine g_refq ea2 ?_
  refine g_aload_n (pc := 4) C dX11_look_4 rfl 0 rfl ?_
  refine g_get (pc := 5) (v := va_rf (gR M x0 5)) C dX11_look_5 kX11 hk1 5 (by decide) q_429 rfl ?_
  replace h := bnd h; obtain ⟨a3, ea3, h⟩ := h
  refine g_refq ea3 ?_
  replace h := gd_some h; obtain ⟨hk4, h⟩ := h
  refine g_get (pc := 8) (v := .int (gI M a3 1)) C dX11_look_8 kX8 hk4 1 (by decide) q_377 rfl ?_
  replace h := gd_some h; obtain ⟨hk5, h⟩ := h
  replace h := bnd2 h; obtain ⟨r6, M7, h1, h⟩ := h
  refine g_callVi (pc := 11) (As := [.int (gI M a3 1)]) (st := []) C dX11_look_11 wX5_driftAt hk5 rfl (by decide) q_780 q_781 q_779 (by omega) rfl (Nat.le_of_ble_eq_true rfl) (kX5_driftAt (d := 1) (Nat.le_refl _) h1) ?_
  refine g_istore_n (pc := 14) (lo2 := [(2, .int (r6)), (0, .ref (x0)), (1, .int (x1))]) C dX11_look_14 rfl (by decide) rfl ?_
  refine g_iconst (pc := 15) (v := 0) C dX11_look_15 (by decide) ?_
  refine g_istore_n (pc := 16) (lo2 := [(3, .int ((0 : Int32))), (2, .int (r6)), (0, .ref (x0)), (1, .int (x1))]) C dX11_look_16 rfl (by decide) rfl ?_
  replace h := bnd h; obtain ⟨M23, h1, h⟩ := h
  refine g_sub [2, 3, 1, 0] rfl ?_
  refine lp_G2 (P := PX11_look_17 X B _ _ T x0 x1 r6) (E := EX11_look_17 X B _ _ T x0 x1 r6) (tbX11_look_17 C hd) h1 ?_
  show G X B 4 _ _ 55 [] [] T M23
  obtain ⟨-, rfl⟩ := Prod.mk.inj (Option.some.inj h)
  exact g_vret C hR dX11_look_55
theorem dX11_edgeOf_0 : decode cX11_edgeOf 0 = .ok (.aload_n 0, 1) := by decide +kernel
theorem dX11_edgeOf_1 : decode cX11_edgeOf 1 = .ok (.getfield 28, 3) := by decide +kernel
theorem dX11_edgeOf_4 : decode cX11_edgeOf 4 = .ok (.iload_n 1, 1) := by decide +kernel
theorem dX11_edgeOf_5 : decode cX11_edgeOf 5 = .ok (.aload_n 0, 1) := by decide +kernel
theorem dX11_edgeOf_6 : decode cX11_edgeOf 6 = .ok (.getfield 28, 3) := by decide +kernel
theorem dX11_edgeOf_9 : decode cX11_edgeOf 9 = .ok (.aload_n 0, 1) := by decide +kernel
theorem dX11_edgeOf_10 : decode cX11_edgeOf 10 = .ok (.getfield 42, 3) := by decide +kernel
theorem dX11_edgeOf_13 : decode cX11_edgeOf 13 = .ok (.getfield 151, 3) := by decide +kernel
theorem dX11_edgeOf_16 : decode cX11_edgeOf 16 = .ok (.invokevirtual 140, 3) := by decide +kernel
theorem dX11_edgeOf_19 : decode cX11_edgeOf 19 = .ok (.invokevirtual 154, 3) := by decide +kernel
theorem dX11_edgeOf_22 : decode cX11_edgeOf 22 = .ok (.istore_n 2, 1) := by decide +kernel
theorem dX11_edgeOf_23 : decode cX11_edgeOf 23 = .ok (.aload_n 0, 1) := by decide +kernel
theorem dX11_edgeOf_24 : decode cX11_edgeOf 24 = .ok (.getfield 28, 3) := by decide +kernel
theorem dX11_edgeOf_27 : decode cX11_edgeOf 27 = .ok (.getfield 111, 3) := by decide +kernel
theorem dX11_edgeOf_30 : decode cX11_edgeOf 30 = .ok (.getfield 357, 3) := by decide +kernel
theorem dX11_edgeOf_33 : decode cX11_edgeOf 33 = .ok (.istore_n 3, 1) := by decide +kernel
theorem dX11_edgeOf_34 : decode cX11_edgeOf 34 = .ok (.iconst 1, 1) := by decide +kernel
theorem dX11_edgeOf_35 : decode cX11_edgeOf 35 = .ok (.iload_n 3, 1) := by decide +kernel
theorem dX11_edgeOf_36 : decode cX11_edgeOf 36 = .ok (.ishl, 1) := by decide +kernel
theorem dX11_edgeOf_37 : decode cX11_edgeOf 37 = .ok (.iconst 1, 1) := by decide +kernel
theorem dX11_edgeOf_38 : decode cX11_edgeOf 38 = .ok (.isub, 1) := by decide +kernel
theorem dX11_edgeOf_39 : decode cX11_edgeOf 39 = .ok (.istore 4, 2) := by decide +kernel
theorem dX11_edgeOf_41 : decode cX11_edgeOf 41 = .ok (.iconst 1, 1) := by decide +kernel
theorem dX11_edgeOf_42 : decode cX11_edgeOf 42 = .ok (.istore 5, 2) := by decide +kernel
theorem dX11_edgeOf_44 : decode cX11_edgeOf 44 = .ok (.iload 5, 2) := by decide +kernel
theorem dX11_edgeOf_46 : decode cX11_edgeOf 46 = .ok (.iload_n 3, 1) := by decide +kernel
theorem dX11_edgeOf_47 : decode cX11_edgeOf 47 = .ok (.iadd, 1) := by decide +kernel
theorem dX11_edgeOf_48 : decode cX11_edgeOf 48 = .ok (.bipush 24, 2) := by decide +kernel
theorem dX11_edgeOf_50 : decode cX11_edgeOf 50 = .ok (.if_icmp .gt 35, 3) := by decide +kernel
theorem dX11_edgeOf_53 : decode cX11_edgeOf 53 = .ok (.iload_n 2, 1) := by decide +kernel
theorem dX11_edgeOf_54 : decode cX11_edgeOf 54 = .ok (.iload 5, 2) := by decide +kernel
theorem dX11_edgeOf_56 : decode cX11_edgeOf 56 = .ok (.iconst 1, 1) := by decide +kernel
theorem dX11_edgeOf_57 : decode cX11_edgeOf 57 = .ok (.isub, 1) := by decide +kernel
theorem dX11_edgeOf_58 : decode cX11_edgeOf 58 = .ok (.ishr, 1) := by decide +kernel
theorem dX11_edgeOf_59 : decode cX11_edgeOf 59 = .ok (.iconst 1, 1) := by decide +kernel
theorem dX11_edgeOf_60 : decode cX11_edgeOf 60 = .ok (.iand, 1) := by decide +kernel
theorem dX11_edgeOf_61 : decode cX11_edgeOf 61 = .ok (.ifCond .ne 18, 3) := by decide +kernel
theorem dX11_edgeOf_64 : decode cX11_edgeOf 64 = .ok (.iload_n 2, 1) := by decide +kernel
theorem dX11_edgeOf_65 : decode cX11_edgeOf 65 = .ok (.iload 5, 2) := by decide +kernel
theorem dX11_edgeOf_67 : decode cX11_edgeOf 67 = .ok (.ishr, 1) := by decide +kernel
theorem dX11_edgeOf_68 : decode cX11_edgeOf 68 = .ok (.iload 4, 2) := by decide +kernel
theorem dX11_edgeOf_70 : decode cX11_edgeOf 70 = .ok (.iand, 1) := by decide +kernel
theorem dX11_edgeOf_71 : decode cX11_edgeOf 71 = .ok (.iload 4, 2) := by decide +kernel
theorem dX11_edgeOf_73 : decode cX11_edgeOf 73 = .ok (.if_icmp .ne 6, 3) := by decide +kernel
theorem dX11_edgeOf_76 : decode cX11_edgeOf 76 = .ok (.iload 5, 2) := by decide +kernel
theorem dX11_edgeOf_78 : decode cX11_edgeOf 78 = .ok (.ireturn, 1) := by decide +kernel
theorem dX11_edgeOf_79 : decode cX11_edgeOf 79 = .ok (.iinc 5 1, 3) := by decide +kernel
theorem dX11_edgeOf_82 : decode cX11_edgeOf 82 = .ok (.goto (-38), 3) := by decide +kernel
theorem dX11_edgeOf_85 : decode cX11_edgeOf 85 = .ok (.iconst (-1), 1) := by decide +kernel
theorem dX11_edgeOf_86 : decode cX11_edgeOf 86 = .ok (.ireturn, 1) := by decide +kernel
theorem wX11_edgeOf : Mw yX11_edgeOf cX11_edgeOf 6 (some .int) 1 := ⟨q_864, q_120, by decide, ⟨by decide +kernel, by decide +kernel⟩, by decide +kernel, by decide +kernel⟩
-- a loop of EyeTrainer.edgeOf at 44
def bX11_edgeOf_44 (T : Sh) (M : Me) (x2 : Int32) (x3 : Int32) (x4 : Int32) (x5 : Int32) : Option ((Int32) ⊕ (Int32 ⊕ Unit)) :=
  if (24 : Int32) < (x5 + x3) then (some (.inr (.inr ()))) else (if ((x2 >>> ((x5 - (1 : Int32)) &&& 31)) &&& (1 : Int32)) = 0 then (if ((x2 >>> (x5 &&& 31)) &&& x4) = x4 then (some (.inr (.inl x5))) else (lt (x5 + (1 : Int32)) fun v22 => some (.inl v22))) else (lt (x5 + (1 : Int32)) fun v20 => some (.inl v20)))
def PX11_edgeOf_44 (X : Fx) (B : Bx) (Z : Nat × Nat × Nat × Nat) (Q : State → Prop) (T : Sh) (M : Me) (x2 : Int32) (x3 : Int32) (x4 : Int32) (s : Int32) : Prop := G X B 6 Z Q 44 [(2, .int (x2)), (3, .int (x3)), (4, .int (x4)), (5, .int (s))] [] T M
def EX11_edgeOf_44 (X : Fx) (B : Bx) (Z : Nat × Nat × Nat × Nat) (Q : State → Prop) (T : Sh) (M : Me) (x2 : Int32) (x3 : Int32) (x4 : Int32) (r : Int32 ⊕ Unit) : Prop := Sum.elim (fun r => G X B 6 Z Q 76 [(5, .int (r))] [] T M) (fun r => G X B 6 Z Q 85 [] [] T M) r
set_option maxHeartbeats 4000000 in
theorem tbX11_edgeOf_44 {X : Fx} {B : Bx} {Z : Nat × Nat × Nat × Nat} {Q : State → Prop} {d : Nat} {T : Sh} {M : Me} (C : Cx X B cX11_edgeOf 6 RX11 d Z) (hd : 2 ≤ d) {x2 : Int32} {x3 : Int32} {x4 : Int32} : ∀ (s : Int32) (o : (Int32) ⊕ (Int32 ⊕ Unit)), bX11_edgeOf_44 T M x2 x3 x4 s = some o → lpE (PX11_edgeOf_44 X B Z Q T M x2 x3 x4) (EX11_edgeOf_44 X B Z Q T M x2 x3 x4) o → PX11_edgeOf_44 X B Z Q T M x2 x3 x4 s := by
  rintro x5 o h hE
  replace h : bX11_edgeOf_44 T M x2 x3 x4 x5 = some o := h
  unfold bX11_edgeOf_44 at h
  show G X B 6 Z Q 44 [(2, .int (x2)), (3, .int (x3)), (4, .int (x4)), (5, .int (x5))] [] T M
  refine g_iload (pc := 44) C dX11_edgeOf_44 3 rfl ?_
  refine g_iload_n (pc := 46) C dX11_edgeOf_46 rfl 1 rfl ?_
  refine g_iadd (pc := 47) C dX11_edgeOf_47 ?_
  refine g_bipush (pc := 48) (v := 24) C dX11_edgeOf_48 (by decide) ?_
  refine g_icmp_gt (pc := 50) (tgt := 85) C dX11_edgeOf_50 (by decide) (fun c18 => ?_) (fun c18 => ?_)
  · replace h := ifp c18 h
    obtain rfl := Option.some.inj h
    exact g_sub [] rfl (show G X B 6 Z Q 85 [] [] T M from hE)
  · replace h := ifn c18 h
    refine g_iload_n (pc := 53) C dX11_edgeOf_53 rfl 0 rfl ?_
    refine g_iload (pc := 54) C dX11_edgeOf_54 3 rfl ?_
    refine g_iconst (pc := 56) (v := 1) C dX11_edgeOf_56 (by decide) ?_
    refine g_isub (pc := 57) C dX11_edgeOf_57 ?_
    refine g_ishr (pc := 58) C dX11_edgeOf_58 ?_
    refine g_iconst (pc := 59) (v := 1) C dX11_edgeOf_59 (by decide) ?_
    refine g_iand (pc := 60) C dX11_edgeOf_60 ?_
    refine g_if_ne (pc := 61) (tgt := 79) C dX11_edgeOf_61 (by decide) (fun c19 => ?_) (fun c19 => ?_)
    · replace h := ifn c19 h
      obtain ⟨v20, ev20⟩ : ∃ y : Int32, y = x5 + (1 : Int32) := ⟨_, rfl⟩
      replace h := lt_at ev20 h
      refine g_iinc (pc := 79) (v := v20) (k := 3) (lo2 := [(5, .int (v20)), (2, .int (x2)), (3, .int (x3)), (4, .int (x4))]) C dX11_edgeOf_79 rfl (by rw [ev20]; rfl) (by decide) rfl ?_
      refine g_goto (pc := 82) (tgt := 44) C dX11_edgeOf_82 (by decide) ?_
      obtain rfl := Option.some.inj h
      exact g_sub [1, 2, 3, 0] rfl (show G X B 6 Z Q 44 [(2, .int (x2)), (3, .int (x3)), (4, .int (x4)), (5, .int (v20))] [] T M from hE)
    · replace h := ifp c19 h
      refine g_iload_n (pc := 64) C dX11_edgeOf_64 rfl 0 rfl ?_
      refine g_iload (pc := 65) C dX11_edgeOf_65 3 rfl ?_
      refine g_ishr (pc := 67) C dX11_edgeOf_67 ?_
      refine g_iload (pc := 68) C dX11_edgeOf_68 2 rfl ?_
      refine g_iand (pc := 70) C dX11_edgeOf_70 ?_
      refine g_iload (pc := 71) C dX11_edgeOf_71 2 rfl ?_
      refine g_icmp_ne (pc := 73) (tgt := 79) C dX11_edgeOf_73 (by decide) (fun c21 => ?_) (fun c21 => ?_)
      · replace h := ifn c21 h
        obtain ⟨v22, ev22⟩ : ∃ y : Int32, y = x5 + (1 : Int32) := ⟨_, rfl⟩
        replace h := lt_at ev22 h
        refine g_iinc (pc := 79) (v := v22) (k := 3) (lo2 := [(5, .int (v22)), (2, .int (x2)), (3, .int (x3)), (4, .int (x4))]) C dX11_edgeOf_79 rfl (by rw [ev22]; rfl) (by decide) rfl ?_
        refine g_goto (pc := 82) (tgt := 44) C dX11_edgeOf_82 (by decide) ?_
        obtain rfl := Option.some.inj h
        exact g_sub [1, 2, 3, 0] rfl (show G X B 6 Z Q 44 [(2, .int (x2)), (3, .int (x3)), (4, .int (x4)), (5, .int (v22))] [] T M from hE)
      · replace h := ifp c21 h
        obtain rfl := Option.some.inj h
        exact g_sub [3] rfl (show G X B 6 Z Q 76 [(5, .int (x5))] [] T M from hE)
/-- EyeTrainer.edgeOf(I)I -/
def fX11_edgeOf (T : Sh) (M : Me) (x0 : Nat) (x1 : Int32) : Option (Int32 × Me) :=
  gd (kd T x0 = 10) <| Option.bind (gR M x0 3) fun a2 => Option.bind (gR M x0 3) fun a3 => Option.bind (gR M x0 5) fun a4 => gd (kd T a4 = 7) <| gd (kd T a3 = 4) <| Option.bind (fX5_driftAt T M a3 (gI M a4 1)) <| un2 fun r7 M8 => gd (kd T a2 = 4) <| Option.bind (fX5_risenAt T M8 a2 x1 r7) <| un2 fun r10 M11 => Option.bind (gR M11 x0 3) fun a12 => gd (kd T a12 = 4) <| Option.bind (gR M11 a12 0) fun a14 => gd (kd T a14 = 2) <| lt (gI M11 a14 6) fun v16 => lt (((1 : Int32) <<< (v16 &&& 31)) - (1 : Int32)) fun v17 => (lp FU (fun s => bX11_edgeOf_44 T M11 r10 v16 v17 s) (1 : Int32)).bind (Sum.elim (fun x5_23 => some (x5_23, M11)) (fun _ => some ((-1 : Int32), M11)))
set_option maxHeartbeats 4000000 in
theorem kX11_edgeOf {l : Launch} {B : Bx} {d : Nat} (hd : 2 ≤ d) {T : Sh} {M : Me} {x0 : Nat} {x1 : Int32} {r : Int32} {M' : Me} (h : fX11_edgeOf T M x0 x1 = some (r, M')) : Kt l B yX11_edgeOf cX11_edgeOf 6 (some .int) d [.ref (x0), .int (x1)] T M (some (.int r)) T M' := by
  refine kt_of wX11_edgeOf (Nat.le_refl _) (Nat.le_refl _) (Nat.le_of_ble_eq_true rfl) (fun X C hR hlx hin => ?_)
  subst hlx
  replace C : Cx X B cX11_edgeOf 6 RX11 d (tp T, sl T, tp T, sl T) := C
  unfold fX11_edgeOf at h
  show G X B 6 _ _ 0 [(0, .ref (x0)), (1, .int (x1))] [] T M
  refine g_aload_n (pc := 0) C dX11_edgeOf_0 rfl 0 rfl ?_
  replace h := gd_some h; obtain ⟨hk1, h⟩ := h
  refine g_get (pc := 1) (v := va_rf (gR M x0 3)) C dX11_edgeOf_1 kX11 hk1 3 (by decide) q_427 rfl ?_
  replace h := bnd h; obtain ⟨a2, ea2, h⟩ := h
  refine g_refq ea2 ?_
  refine g_iload_n (pc := 4) C dX11_edgeOf_4 rfl 1 rfl ?_
  refine g_aload_n (pc := 5) C dX11_edgeOf_5 rfl 0 rfl ?_
  refine g_get (pc := 6) (v := va_rf (gR M x0 3)) C dX11_edgeOf_6 kX11 hk1 3 (by decide) q_427 rfl ?_
  replace h := bnd h; obtain ⟨a3, ea3, h⟩ := h
  refine g_refq ea3 ?_
  refine g_aload_n (pc := 9) C dX11_edgeOf_9 rfl 0 rfl ?_
  refine g_get (pc := 10) (v := va_rf (gR M x0 5)) C dX11_edgeOf_10 kX11 hk1 5 (by decide) q_429 rfl ?_
  replace h := bnd h; obtain ⟨a4, ea4, h⟩ := h
  refine g_refq ea4 ?_
  replace h := gd_some h; obtain ⟨hk5, h⟩ := h
  refine g_get (pc := 13) (v := .int (gI M a4 1)) C dX11_edgeOf_13 kX8 hk5 1 (by decide) q_377 rfl ?_
  replace h := gd_some h; obtain ⟨hk6, h⟩ := h
  replace h := bnd2 h; obtain ⟨r7, M8, h1, h⟩ := h
  refine g_callVi (pc := 16) (As := [.int (gI M a4 1)]) (st := [.int (x1), .ref (a2)]) C dX11_edgeOf_16 wX5_driftAt hk6 rfl (by decide) q_780 q_781 q_779 (by omega) rfl (Nat.le_of_ble_eq_true rfl) (kX5_driftAt (d := 1) (Nat.le_refl _) h1) ?_
  replace h := gd_some h; obtain ⟨hk9, h⟩ := h
  replace h := bnd2 h; obtain ⟨r10, M11, h1, h⟩ := h
  refine g_callVi (pc := 19) (As := [.int (x1), .int (r7)]) (st := []) C dX11_edgeOf_19 wX5_risenAt hk9 rfl (by decide) q_838 q_839 q_837 (by omega) rfl (Nat.le_of_ble_eq_true rfl) (kX5_risenAt (d := 1) (Nat.le_refl _) h1) ?_
  refine g_istore_n (pc := 22) (lo2 := [(2, .int (r10)), (0, .ref (x0)), (1, .int (x1))]) C dX11_edgeOf_22 rfl (by decide) rfl ?_
  refine g_aload_n (pc := 23) C dX11_edgeOf_23 rfl 1 rfl ?_
  refine g_get (pc := 24) (v := va_rf (gR M11 x0 3)) C dX11_edgeOf_24 kX11 hk1 3 (by decide) q_427 rfl ?_
  replace h := bnd h; obtain ⟨a12, ea12, h⟩ := h
  refine g_refq ea12 ?_
  replace h := gd_some h; obtain ⟨hk13, h⟩ := h
  refine g_get (pc := 27) (v := va_rf (gR M11 a12 0)) C dX11_edgeOf_27 kX5 hk13 0 (by decide) q_288 rfl ?_
  replace h := bnd h; obtain ⟨a14, ea14, h⟩ := h
  refine g_refq ea14 ?_
  replace h := gd_some h; obtain ⟨hk15, h⟩ := h
  refine g_get (pc := 30) (v := .int (gI M11 a14 6)) C dX11_edgeOf_30 kX3 hk15 6 (by decide) q_240 rfl ?_
  refine g_topi (fun v16 ev16 => ?_)
  replace h := lt_at ev16 h
  refine g_istore_n (pc := 33) (lo2 := [(3, .int (v16)), (2, .int (r10)), (0, .ref (x0)), (1, .int (x1))]) C dX11_edgeOf_33 rfl (by decide) rfl ?_
  refine g_iconst (pc := 34) (v := 1) C dX11_edgeOf_34 (by decide) ?_
  refine g_iload_n (pc := 35) C dX11_edgeOf_35 rfl 0 rfl ?_
  refine g_ishl (pc := 36) C dX11_edgeOf_36 ?_
  refine g_iconst (pc := 37) (v := 1) C dX11_edgeOf_37 (by decide) ?_
  refine g_isub (pc := 38) C dX11_edgeOf_38 ?_
  refine g_topi (fun v17 ev17 => ?_)
  replace h := lt_at ev17 h
  refine g_istore (pc := 39) (lo2 := [(4, .int (v17)), (3, .int (v16)), (2, .int (r10)), (0, .ref (x0)), (1, .int (x1))]) C dX11_edgeOf_39 (by decide) rfl ?_
  refine g_iconst (pc := 41) (v := 1) C dX11_edgeOf_41 (by decide) ?_
  refine g_istore (pc := 42) (lo2 := [(5, .int ((1 : Int32))), (4, .int (v17)), (3, .int (v16)), (2, .int (r10)), (0, .ref (x0)), (1, .int (x1))]) C dX11_edgeOf_42 (by decide) rfl ?_
  replace h := bndE h; rcases h with ⟨x5_23, h1, h⟩ | ⟨a1, h1, h⟩
  · refine g_sub [3, 2, 1, 0] rfl ?_
    refine lp_G2 (P := PX11_edgeOf_44 X B _ _ T M11 r10 v16 v17) (E := EX11_edgeOf_44 X B _ _ T M11 r10 v16 v17) (tbX11_edgeOf_44 C hd) h1 ?_
    show G X B 6 _ _ 76 [(5, .int (x5_23))] [] T M11
    refine g_iload (pc := 76) C dX11_edgeOf_76 0 rfl ?_
    obtain ⟨rfl, rfl⟩ := Prod.mk.inj (Option.some.inj h)
    exact g_iret C hR dX11_edgeOf_78
  · refine g_sub [3, 2, 1, 0] rfl ?_
    refine lp_G2 (P := PX11_edgeOf_44 X B _ _ T M11 r10 v16 v17) (E := EX11_edgeOf_44 X B _ _ T M11 r10 v16 v17) (tbX11_edgeOf_44 C hd) h1 ?_
    show G X B 6 _ _ 85 [] [] T M11
    refine g_iconst (pc := 85) (v := (-1)) C dX11_edgeOf_85 (by decide) ?_
    obtain ⟨rfl, rfl⟩ := Prod.mk.inj (Option.some.inj h)
    exact g_iret C hR dX11_edgeOf_86
theorem dX11_trainedPoint_0 : decode cX11_trainedPoint 0 = .ok (.aload_n 0, 1) := by decide +kernel
theorem dX11_trainedPoint_1 : decode cX11_trainedPoint 1 = .ok (.iload_n 1, 1) := by decide +kernel
theorem dX11_trainedPoint_2 : decode cX11_trainedPoint 2 = .ok (.invokevirtual 107, 3) := by decide +kernel
theorem dX11_trainedPoint_5 : decode cX11_trainedPoint 5 = .ok (.ifCond .ne 12, 3) := by decide +kernel
theorem dX11_trainedPoint_8 : decode cX11_trainedPoint 8 = .ok (.iload_n 2, 1) := by decide +kernel
theorem dX11_trainedPoint_9 : decode cX11_trainedPoint 9 = .ok (.ifCond .lt 8, 3) := by decide +kernel
theorem dX11_trainedPoint_12 : decode cX11_trainedPoint 12 = .ok (.iload_n 2, 1) := by decide +kernel
theorem dX11_trainedPoint_13 : decode cX11_trainedPoint 13 = .ok (.iconst 2, 1) := by decide +kernel
theorem dX11_trainedPoint_14 : decode cX11_trainedPoint 14 = .ok (.if_icmp .le 5, 3) := by decide +kernel
theorem dX11_trainedPoint_17 : decode cX11_trainedPoint 17 = .ok (.iconst (-1), 1) := by decide +kernel
theorem dX11_trainedPoint_18 : decode cX11_trainedPoint 18 = .ok (.ireturn, 1) := by decide +kernel
theorem dX11_trainedPoint_19 : decode cX11_trainedPoint 19 = .ok (.iload_n 2, 1) := by decide +kernel
theorem dX11_trainedPoint_20 : decode cX11_trainedPoint 20 = .ok (.iconst 2, 1) := by decide +kernel
theorem dX11_trainedPoint_21 : decode cX11_trainedPoint 21 = .ok (.if_icmp .ne 37, 3) := by decide +kernel
theorem dX11_trainedPoint_24 : decode cX11_trainedPoint 24 = .ok (.aload_n 0, 1) := by decide +kernel
theorem dX11_trainedPoint_25 : decode cX11_trainedPoint 25 = .ok (.iload_n 1, 1) := by decide +kernel
theorem dX11_trainedPoint_26 : decode cX11_trainedPoint 26 = .ok (.invokevirtual 269, 3) := by decide +kernel
theorem dX11_trainedPoint_29 : decode cX11_trainedPoint 29 = .ok (.istore_n 3, 1) := by decide +kernel
theorem dX11_trainedPoint_30 : decode cX11_trainedPoint 30 = .ok (.iload_n 3, 1) := by decide +kernel
theorem dX11_trainedPoint_31 : decode cX11_trainedPoint 31 = .ok (.iconst (-1), 1) := by decide +kernel
theorem dX11_trainedPoint_32 : decode cX11_trainedPoint 32 = .ok (.if_icmp .ne 8, 3) := by decide +kernel
theorem dX11_trainedPoint_35 : decode cX11_trainedPoint 35 = .ok (.bipush (-2), 2) := by decide +kernel
theorem dX11_trainedPoint_37 : decode cX11_trainedPoint 37 = .ok (.goto 20, 3) := by decide +kernel
theorem dX11_trainedPoint_40 : decode cX11_trainedPoint 40 = .ok (.aload_n 0, 1) := by decide +kernel
theorem dX11_trainedPoint_41 : decode cX11_trainedPoint 41 = .ok (.getfield 42, 3) := by decide +kernel
theorem dX11_trainedPoint_44 : decode cX11_trainedPoint 44 = .ok (.getfield 127, 3) := by decide +kernel
theorem dX11_trainedPoint_47 : decode cX11_trainedPoint 47 = .ok (.iload_n 1, 1) := by decide +kernel
theorem dX11_trainedPoint_48 : decode cX11_trainedPoint 48 = .ok (.iaload, 1) := by decide +kernel
theorem dX11_trainedPoint_49 : decode cX11_trainedPoint 49 = .ok (.bipush 24, 2) := by decide +kernel
theorem dX11_trainedPoint_51 : decode cX11_trainedPoint 51 = .ok (.idiv, 1) := by decide +kernel
theorem dX11_trainedPoint_52 : decode cX11_trainedPoint 52 = .ok (.bipush 24, 2) := by decide +kernel
theorem dX11_trainedPoint_54 : decode cX11_trainedPoint 54 = .ok (.imul, 1) := by decide +kernel
theorem dX11_trainedPoint_55 : decode cX11_trainedPoint 55 = .ok (.iload_n 3, 1) := by decide +kernel
theorem dX11_trainedPoint_56 : decode cX11_trainedPoint 56 = .ok (.iadd, 1) := by decide +kernel
theorem dX11_trainedPoint_57 : decode cX11_trainedPoint 57 = .ok (.ireturn, 1) := by decide +kernel
theorem dX11_trainedPoint_58 : decode cX11_trainedPoint 58 = .ok (.aload_n 0, 1) := by decide +kernel
theorem dX11_trainedPoint_59 : decode cX11_trainedPoint 59 = .ok (.iload_n 1, 1) := by decide +kernel
theorem dX11_trainedPoint_60 : decode cX11_trainedPoint 60 = .ok (.invokevirtual 218, 3) := by decide +kernel
theorem dX11_trainedPoint_63 : decode cX11_trainedPoint 63 = .ok (.aload_n 0, 1) := by decide +kernel
theorem dX11_trainedPoint_64 : decode cX11_trainedPoint 64 = .ok (.getfield 35, 3) := by decide +kernel
theorem dX11_trainedPoint_67 : decode cX11_trainedPoint 67 = .ok (.invokevirtual 221, 3) := by decide +kernel
theorem dX11_trainedPoint_70 : decode cX11_trainedPoint 70 = .ok (.ifCond .ne 6, 3) := by decide +kernel
theorem dX11_trainedPoint_73 : decode cX11_trainedPoint 73 = .ok (.bipush (-2), 2) := by decide +kernel
theorem dX11_trainedPoint_75 : decode cX11_trainedPoint 75 = .ok (.ireturn, 1) := by decide +kernel
theorem dX11_trainedPoint_76 : decode cX11_trainedPoint 76 = .ok (.iload_n 2, 1) := by decide +kernel
theorem dX11_trainedPoint_77 : decode cX11_trainedPoint 77 = .ok (.ifCond .ne 18, 3) := by decide +kernel
theorem dX11_trainedPoint_80 : decode cX11_trainedPoint 80 = .ok (.aload_n 0, 1) := by decide +kernel
theorem dX11_trainedPoint_81 : decode cX11_trainedPoint 81 = .ok (.getfield 35, 3) := by decide +kernel
theorem dX11_trainedPoint_84 : decode cX11_trainedPoint 84 = .ok (.invokevirtual 233, 3) := by decide +kernel
theorem dX11_trainedPoint_87 : decode cX11_trainedPoint 87 = .ok (.aload_n 0, 1) := by decide +kernel
theorem dX11_trainedPoint_88 : decode cX11_trainedPoint 88 = .ok (.getfield 35, 3) := by decide +kernel
theorem dX11_trainedPoint_91 : decode cX11_trainedPoint 91 = .ok (.invokevirtual 251, 3) := by decide +kernel
theorem dX11_trainedPoint_94 : decode cX11_trainedPoint 94 = .ok (.ireturn, 1) := by decide +kernel
theorem dX11_trainedPoint_95 : decode cX11_trainedPoint 95 = .ok (.aload_n 0, 1) := by decide +kernel
theorem dX11_trainedPoint_96 : decode cX11_trainedPoint 96 = .ok (.getfield 35, 3) := by decide +kernel
theorem dX11_trainedPoint_99 : decode cX11_trainedPoint 99 = .ok (.aload_n 0, 1) := by decide +kernel
theorem dX11_trainedPoint_100 : decode cX11_trainedPoint 100 = .ok (.getfield 28, 3) := by decide +kernel
theorem dX11_trainedPoint_103 : decode cX11_trainedPoint 103 = .ok (.getfield 111, 3) := by decide +kernel
theorem dX11_trainedPoint_106 : decode cX11_trainedPoint 106 = .ok (.getfield 254, 3) := by decide +kernel
theorem dX11_trainedPoint_109 : decode cX11_trainedPoint 109 = .ok (.invokevirtual 257, 3) := by decide +kernel
theorem dX11_trainedPoint_112 : decode cX11_trainedPoint 112 = .ok (.aload_n 0, 1) := by decide +kernel
theorem dX11_trainedPoint_113 : decode cX11_trainedPoint 113 = .ok (.getfield 35, 3) := by decide +kernel
theorem dX11_trainedPoint_116 : decode cX11_trainedPoint 116 = .ok (.getfield 263, 3) := by decide +kernel
theorem dX11_trainedPoint_119 : decode cX11_trainedPoint 119 = .ok (.ireturn, 1) := by decide +kernel
theorem wX11_trainedPoint : Mw yX11_trainedPoint cX11_trainedPoint 4 (some .int) 2 := ⟨q_860, q_120, by decide, ⟨by decide +kernel, by decide +kernel⟩, by decide +kernel, by decide +kernel⟩
/-- EyeTrainer.trainedPoint(II)I -/
def fX11_trainedPoint (T : Sh) (M : Me) (x0 : Nat) (x1 : Int32) (x2 : Int32) : Option (Int32 × Me) :=
  gd (kd T x0 = 10) <| Option.bind (fX11_noLane T M x0 x1) fun r2 => if r2 = 0 then (if x2 < 0 then (some ((-1 : Int32), M)) else (if x2 ≤ (2 : Int32) then (if x2 = (2 : Int32) then (Option.bind (fX11_edgeOf T M x0 x1) <| un2 fun r28 M29 => if r28 = (-1 : Int32) then (some ((-2 : Int32), M29)) else (Option.bind (gR M29 x0 5) fun a31 => gd (kd T a31 = 7) <| Option.bind (gR M29 a31 0) fun a33 => gd (kd T a33 = 13) <| gv x1 (ln T a33) <| some (((((gI M29 a33 (Int32.toNatClampNeg x1)) / (24 : Int32)) * (24 : Int32)) + r28), M29))) else (Option.bind (fX11_look T M x0 x1) <| un2 fun _u M7 => Option.bind (gR M7 x0 4) fun a8 => gd (kd T a8 = 6) <| Option.bind (fX7_cells T M7 a8) fun r10 => if r10 = 0 then (some ((-2 : Int32), M7)) else (if x2 = 0 then (Option.bind (gR M7 x0 4) fun a22 => gd (kd T a22 = 6) <| Option.bind (fX7_findRectangle T M7 a22) <| un2 fun _u M24 => Option.bind (gR M24 x0 4) fun a25 => gd (kd T a25 = 6) <| Option.bind (fX7_middle T M24 a25) fun r27 => some (r27, M24)) else (Option.bind (gR M7 x0 4) fun a13 => Option.bind (gR M7 x0 3) fun a14 => gd (kd T a14 = 4) <| Option.bind (gR M7 a14 0) fun a16 => gd (kd T a16 = 2) <| gd (kd T a13 = 6) <| Option.bind (fX7_findEllipse T M7 a13 (gI M7 a16 5)) <| un2 fun _u M19 => Option.bind (gR M19 x0 4) fun a20 => gd (kd T a20 = 6) <| some ((gI M19 a20 11), M19))))) else (some ((-1 : Int32), M)))) else (some ((-1 : Int32), M))
set_option maxHeartbeats 4000000 in
theorem kX11_trainedPoint {l : Launch} {B : Bx} {d : Nat} (hd : 4 ≤ d) {T : Sh} {M : Me} {x0 : Nat} {x1 : Int32} {x2 : Int32} {r : Int32} {M' : Me} (h : fX11_trainedPoint T M x0 x1 x2 = some (r, M')) : Kt l B yX11_trainedPoint cX11_trainedPoint 4 (some .int) d [.ref (x0), .int (x1), .int (x2)] T M (some (.int r)) T M' := by
  refine kt_of wX11_trainedPoint (Nat.le_refl _) (Nat.le_refl _) (Nat.le_of_ble_eq_true rfl) (fun X C hR hlx hin => ?_)
  subst hlx
  replace C : Cx X B cX11_trainedPoint 4 RX11 d (tp T, sl T, tp T, sl T) := C
  unfold fX11_trainedPoint at h
  show G X B 4 _ _ 0 [(0, .ref (x0)), (1, .int (x1)), (2, .int (x2))] [] T M
  refine g_aload_n (pc := 0) C dX11_trainedPoint_0 rfl 0 rfl ?_
  refine g_iload_n (pc := 1) C dX11_trainedPoint_1 rfl 1 rfl ?_
  replace h := gd_some h; obtain ⟨hk1, h⟩ := h
  replace h := bnd h; obtain ⟨r2, h1, h⟩ := h
  refine g_callVi (pc := 2) (As := [.int (x1)]) (st := []) C dX11_trainedPoint_2 wX11_noLane hk1 rfl (by decide) q_769 q_20 q_767 (by omega) rfl (Nat.le_of_ble_eq_true rfl) (kX11_noLane (d := 0) (Nat.le_refl _) h1) ?_
  refine g_if_ne (pc := 5) (tgt := 17) C dX11_trainedPoint_5 (by decide) (fun c3 => ?_) (fun c3 => ?_)
  · replace h := ifn c3 h
    refine g_iconst (pc := 17) (v := (-1)) C dX11_trainedPoint_17 (by decide) ?_
    obtain ⟨rfl, rfl⟩ := Prod.mk.inj (Option.some.inj h)
    exact g_iret C hR dX11_trainedPoint_18
  · replace h := ifp c3 h
    refine g_iload_n (pc := 8) C dX11_trainedPoint_8 rfl 2 rfl ?_
    refine g_if_lt (pc := 9) (tgt := 17) C dX11_trainedPoint_9 (by decide) (fun c4 => ?_) (fun c4 => ?_)
    · replace h := ifp c4 h
      refine g_iconst (pc := 17) (v := (-1)) C dX11_trainedPoint_17 (by decide) ?_
      obtain ⟨rfl, rfl⟩ := Prod.mk.inj (Option.some.inj h)
      exact g_iret C hR dX11_trainedPoint_18
    · replace h := ifn c4 h
      refine g_iload_n (pc := 12) C dX11_trainedPoint_12 rfl 2 rfl ?_
      refine g_iconst (pc := 13) (v := 2) C dX11_trainedPoint_13 (by decide) ?_
      refine g_icmp_le (pc := 14) (tgt := 19) C dX11_trainedPoint_14 (by decide) (fun c5 => ?_) (fun c5 => ?_)
      · replace h := ifp c5 h
        refine g_iload_n (pc := 19) C dX11_trainedPoint_19 rfl 2 rfl ?_
        refine g_iconst (pc := 20) (v := 2) C dX11_trainedPoint_20 (by decide) ?_
        refine g_icmp_ne (pc := 21) (tgt := 58) C dX11_trainedPoint_21 (by decide) (fun c6 => ?_) (fun c6 => ?_)
        · replace h := ifn c6 h
          refine g_aload_n (pc := 58) C dX11_trainedPoint_58 rfl 0 rfl ?_
          refine g_iload_n (pc := 59) C dX11_trainedPoint_59 rfl 1 rfl ?_
          replace h := bnd2 h; obtain ⟨_u, M7, h1, h⟩ := h
          refine g_callVv (pc := 60) (As := [.int (x1)]) (st := []) C dX11_trainedPoint_60 wX11_look hk1 rfl (by decide) q_867 q_28 q_865 (by omega) rfl (Nat.le_of_ble_eq_true rfl) (kX11_look (d := 3) (Nat.le_refl _) h1) ?_
          refine g_aload_n (pc := 63) C dX11_trainedPoint_63 rfl 0 rfl ?_
          refine g_get (pc := 64) (v := va_rf (gR M7 x0 4)) C dX11_trainedPoint_64 kX11 hk1 4 (by decide) q_428 rfl ?_
          replace h := bnd h; obtain ⟨a8, ea8, h⟩ := h
          refine g_refq ea8 ?_
          replace h := gd_some h; obtain ⟨hk9, h⟩ := h
          replace h := bnd h; obtain ⟨r10, h1, h⟩ := h
          refine g_callVi (pc := 67) (As := []) (st := []) C dX11_trainedPoint_67 wX7_cells hk9 rfl (by decide) q_870 q_871 q_869 (by omega) rfl (Nat.le_of_ble_eq_true rfl) (kX7_cells (d := 1) (Nat.le_refl _) h1) ?_
          refine g_if_ne (pc := 70) (tgt := 76) C dX11_trainedPoint_70 (by decide) (fun c11 => ?_) (fun c11 => ?_)
          · replace h := ifn c11 h
            refine g_iload_n (pc := 76) C dX11_trainedPoint_76 rfl 2 rfl ?_
            refine g_if_ne (pc := 77) (tgt := 95) C dX11_trainedPoint_77 (by decide) (fun c12 => ?_) (fun c12 => ?_)
            · replace h := ifn c12 h
              refine g_aload_n (pc := 95) C dX11_trainedPoint_95 rfl 0 rfl ?_
              refine g_get (pc := 96) (v := va_rf (gR M7 x0 4)) C dX11_trainedPoint_96 kX11 hk1 4 (by decide) q_428 rfl ?_
              replace h := bnd h; obtain ⟨a13, ea13, h⟩ := h
              refine g_refq ea13 ?_
              refine g_aload_n (pc := 99) C dX11_trainedPoint_99 rfl 0 rfl ?_
              refine g_get (pc := 100) (v := va_rf (gR M7 x0 3)) C dX11_trainedPoint_100 kX11 hk1 3 (by decide) q_427 rfl ?_
              replace h := bnd h; obtain ⟨a14, ea14, h⟩ := h
              refine g_refq ea14 ?_
              replace h := gd_some h; obtain ⟨hk15, h⟩ := h
              refine g_get (pc := 103) (v := va_rf (gR M7 a14 0)) C dX11_trainedPoint_103 kX5 hk15 0 (by decide) q_288 rfl ?_
              replace h := bnd h; obtain ⟨a16, ea16, h⟩ := h
              refine g_refq ea16 ?_
              replace h := gd_some h; obtain ⟨hk17, h⟩ := h
              refine g_get (pc := 106) (v := .int (gI M7 a16 5)) C dX11_trainedPoint_106 kX3 hk17 5 (by decide) q_237 rfl ?_
              replace h := gd_some h; obtain ⟨hk18, h⟩ := h
              replace h := bnd2 h; obtain ⟨_u, M19, h1, h⟩ := h
              refine g_callVv (pc := 109) (As := [.int (gI M7 a16 5)]) (st := []) C dX11_trainedPoint_109 wX7_findEllipse hk18 rfl (by decide) q_895 q_896 q_894 (by omega) rfl (Nat.le_of_ble_eq_true rfl) (kX7_findEllipse (d := 2) (Nat.le_refl _) h1) ?_
              refine g_aload_n (pc := 112) C dX11_trainedPoint_112 rfl 0 rfl ?_
              refine g_get (pc := 113) (v := va_rf (gR M19 x0 4)) C dX11_trainedPoint_113 kX11 hk1 4 (by decide) q_428 rfl ?_
              replace h := bnd h; obtain ⟨a20, ea20, h⟩ := h
              refine g_refq ea20 ?_
              replace h := gd_some h; obtain ⟨hk21, h⟩ := h
              refine g_get (pc := 116) (v := .int (gI M19 a20 11)) C dX11_trainedPoint_116 kX7 hk21 11 (by decide) q_334 rfl ?_
              obtain ⟨rfl, rfl⟩ := Prod.mk.inj (Option.some.inj h)
              exact g_iret C hR dX11_trainedPoint_119
            · replace h := ifp c12 h
              refine g_aload_n (pc := 80) C dX11_trainedPoint_80 rfl 0 rfl ?_
              refine g_get (pc := 81) (v := va_rf (gR M7 x0 4)) C dX11_trainedPoint_81 kX11 hk1 4 (by decide) q_428 rfl ?_
              replace h := bnd h; obtain ⟨a22, ea22, h⟩ := h
              refine g_refq ea22 ?_
              replace h := gd_some h; obtain ⟨hk23, h⟩ := h
              replace h := bnd2 h; obtain ⟨_u, M24, h1, h⟩ := h
              refine g_callVv (pc := 84) (As := []) (st := []) C dX11_trainedPoint_84 wX7_findRectangle hk23 rfl (by decide) q_880 q_881 q_879 (by omega) rfl (Nat.le_of_ble_eq_true rfl) (kX7_findRectangle (d := 1) (Nat.le_refl _) h1) ?_
              refine g_aload_n (pc := 87) C dX11_trainedPoint_87 rfl 0 rfl ?_
              refine g_get (pc := 88) (v := va_rf (gR M24 x0 4)) C dX11_trainedPoint_88 kX11 hk1 4 (by decide) q_428 rfl ?_
              replace h := bnd h; obtain ⟨a25, ea25, h⟩ := h
              refine g_refq ea25 ?_
              replace h := gd_some h; obtain ⟨hk26, h⟩ := h
              replace h := bnd h; obtain ⟨r27, h1, h⟩ := h
              refine g_callVi (pc := 91) (As := []) (st := []) C dX11_trainedPoint_91 wX7_middle hk26 rfl (by decide) q_891 q_892 q_890 (by omega) rfl (Nat.le_of_ble_eq_true rfl) (kX7_middle (d := 0) (Nat.le_refl _) h1) ?_
              obtain ⟨rfl, rfl⟩ := Prod.mk.inj (Option.some.inj h)
              exact g_iret C hR dX11_trainedPoint_94
          · replace h := ifp c11 h
            refine g_bipush (pc := 73) (v := (-2)) C dX11_trainedPoint_73 (by decide) ?_
            obtain ⟨rfl, rfl⟩ := Prod.mk.inj (Option.some.inj h)
            exact g_iret C hR dX11_trainedPoint_75
        · replace h := ifp c6 h
          refine g_aload_n (pc := 24) C dX11_trainedPoint_24 rfl 0 rfl ?_
          refine g_iload_n (pc := 25) C dX11_trainedPoint_25 rfl 1 rfl ?_
          replace h := bnd2 h; obtain ⟨r28, M29, h1, h⟩ := h
          refine g_callVi (pc := 26) (As := [.int (x1)]) (st := []) C dX11_trainedPoint_26 wX11_edgeOf hk1 rfl (by decide) q_863 q_27 q_861 (by omega) rfl (Nat.le_of_ble_eq_true rfl) (kX11_edgeOf (d := 2) (Nat.le_refl _) h1) ?_
          refine g_istore_n (pc := 29) (lo2 := [(3, .int (r28)), (0, .ref (x0)), (1, .int (x1)), (2, .int (x2))]) C dX11_trainedPoint_29 rfl (by decide) rfl ?_
          refine g_iload_n (pc := 30) C dX11_trainedPoint_30 rfl 0 rfl ?_
          refine g_iconst (pc := 31) (v := (-1)) C dX11_trainedPoint_31 (by decide) ?_
          refine g_icmp_ne (pc := 32) (tgt := 40) C dX11_trainedPoint_32 (by decide) (fun c30 => ?_) (fun c30 => ?_)
          · replace h := ifn c30 h
            refine g_aload_n (pc := 40) C dX11_trainedPoint_40 rfl 1 rfl ?_
            refine g_get (pc := 41) (v := va_rf (gR M29 x0 5)) C dX11_trainedPoint_41 kX11 hk1 5 (by decide) q_429 rfl ?_
            replace h := bnd h; obtain ⟨a31, ea31, h⟩ := h
            refine g_refq ea31 ?_
            replace h := gd_some h; obtain ⟨hk32, h⟩ := h
            refine g_get (pc := 44) (v := va_rf (gR M29 a31 0)) C dX11_trainedPoint_44 kX8 hk32 0 (by decide) q_375 rfl ?_
            replace h := bnd h; obtain ⟨a33, ea33, h⟩ := h
            refine g_refq ea33 ?_
            refine g_iload_n (pc := 47) C dX11_trainedPoint_47 rfl 2 rfl ?_
            replace h := gd_some h; obtain ⟨hk34, h⟩ := h
            replace h := gv_some h; obtain ⟨hi35, h⟩ := h
            refine g_iald (pc := 48) C dX11_trainedPoint_48 hk34 hi35 ?_
            refine g_bipush (pc := 49) (v := 24) C dX11_trainedPoint_49 (by decide) ?_
            refine g_idiv (pc := 51) C dX11_trainedPoint_51 (by decide) ?_
            refine g_bipush (pc := 52) (v := 24) C dX11_trainedPoint_52 (by decide) ?_
            refine g_imul (pc := 54) C dX11_trainedPoint_54 ?_
            refine g_iload_n (pc := 55) C dX11_trainedPoint_55 rfl 0 rfl ?_
            refine g_iadd (pc := 56) C dX11_trainedPoint_56 ?_
            obtain ⟨rfl, rfl⟩ := Prod.mk.inj (Option.some.inj h)
            exact g_iret C hR dX11_trainedPoint_57
          · replace h := ifp c30 h
            refine g_bipush (pc := 35) (v := (-2)) C dX11_trainedPoint_35 (by decide) ?_
            refine g_goto (pc := 37) (tgt := 57) C dX11_trainedPoint_37 (by decide) ?_
            obtain ⟨rfl, rfl⟩ := Prod.mk.inj (Option.some.inj h)
            exact g_iret C hR dX11_trainedPoint_57
      · replace h := ifn c5 h
        refine g_iconst (pc := 17) (v := (-1)) C dX11_trainedPoint_17 (by decide) ?_
        obtain ⟨rfl, rfl⟩ := Prod.mk.inj (Option.some.inj h)
        exact g_iret C hR dX11_trainedPoint_18
theorem dX11_followAll_0 : decode cX11_followAll 0 = .ok (.iconst 0, 1) := by decide +kernel
theorem dX11_followAll_1 : decode cX11_followAll 1 = .ok (.istore_n 1, 1) := by decide +kernel
theorem dX11_followAll_2 : decode cX11_followAll 2 = .ok (.iload_n 1, 1) := by decide +kernel
theorem dX11_followAll_3 : decode cX11_followAll 3 = .ok (.aload_n 0, 1) := by decide +kernel
theorem dX11_followAll_4 : decode cX11_followAll 4 = .ok (.getfield 28, 3) := by decide +kernel
theorem dX11_followAll_7 : decode cX11_followAll 7 = .ok (.getfield 111, 3) := by decide +kernel
theorem dX11_followAll_10 : decode cX11_followAll 10 = .ok (.getfield 272, 3) := by decide +kernel
theorem dX11_followAll_13 : decode cX11_followAll 13 = .ok (.if_icmp .ge 59, 3) := by decide +kernel
theorem dX11_followAll_16 : decode cX11_followAll 16 = .ok (.aload_n 0, 1) := by decide +kernel
theorem dX11_followAll_17 : decode cX11_followAll 17 = .ok (.getfield 42, 3) := by decide +kernel
theorem dX11_followAll_20 : decode cX11_followAll 20 = .ok (.getfield 127, 3) := by decide +kernel
theorem dX11_followAll_23 : decode cX11_followAll 23 = .ok (.iload_n 1, 1) := by decide +kernel
theorem dX11_followAll_24 : decode cX11_followAll 24 = .ok (.iaload, 1) := by decide +kernel
theorem dX11_followAll_25 : decode cX11_followAll 25 = .ok (.bipush 24, 2) := by decide +kernel
theorem dX11_followAll_27 : decode cX11_followAll 27 = .ok (.idiv, 1) := by decide +kernel
theorem dX11_followAll_28 : decode cX11_followAll 28 = .ok (.istore_n 2, 1) := by decide +kernel
theorem dX11_followAll_29 : decode cX11_followAll 29 = .ok (.aload_n 0, 1) := by decide +kernel
theorem dX11_followAll_30 : decode cX11_followAll 30 = .ok (.getfield 42, 3) := by decide +kernel
theorem dX11_followAll_33 : decode cX11_followAll 33 = .ok (.getfield 127, 3) := by decide +kernel
theorem dX11_followAll_36 : decode cX11_followAll 36 = .ok (.iload_n 1, 1) := by decide +kernel
theorem dX11_followAll_37 : decode cX11_followAll 37 = .ok (.iaload, 1) := by decide +kernel
theorem dX11_followAll_38 : decode cX11_followAll 38 = .ok (.bipush 24, 2) := by decide +kernel
theorem dX11_followAll_40 : decode cX11_followAll 40 = .ok (.irem, 1) := by decide +kernel
theorem dX11_followAll_41 : decode cX11_followAll 41 = .ok (.istore_n 3, 1) := by decide +kernel
theorem dX11_followAll_42 : decode cX11_followAll 42 = .ok (.aload_n 0, 1) := by decide +kernel
theorem dX11_followAll_43 : decode cX11_followAll 43 = .ok (.getfield 42, 3) := by decide +kernel
theorem dX11_followAll_46 : decode cX11_followAll 46 = .ok (.getfield 127, 3) := by decide +kernel
theorem dX11_followAll_49 : decode cX11_followAll 49 = .ok (.iload_n 1, 1) := by decide +kernel
theorem dX11_followAll_50 : decode cX11_followAll 50 = .ok (.iload_n 2, 1) := by decide +kernel
theorem dX11_followAll_51 : decode cX11_followAll 51 = .ok (.bipush 24, 2) := by decide +kernel
theorem dX11_followAll_53 : decode cX11_followAll 53 = .ok (.imul, 1) := by decide +kernel
theorem dX11_followAll_54 : decode cX11_followAll 54 = .ok (.aload_n 0, 1) := by decide +kernel
theorem dX11_followAll_55 : decode cX11_followAll 55 = .ok (.iload_n 1, 1) := by decide +kernel
theorem dX11_followAll_56 : decode cX11_followAll 56 = .ok (.iload_n 2, 1) := by decide +kernel
theorem dX11_followAll_57 : decode cX11_followAll 57 = .ok (.invokevirtual 147, 3) := by decide +kernel
theorem dX11_followAll_60 : decode cX11_followAll 60 = .ok (.iload_n 3, 1) := by decide +kernel
theorem dX11_followAll_61 : decode cX11_followAll 61 = .ok (.invokestatic 300, 3) := by decide +kernel
theorem dX11_followAll_64 : decode cX11_followAll 64 = .ok (.iadd, 1) := by decide +kernel
theorem dX11_followAll_65 : decode cX11_followAll 65 = .ok (.iastore, 1) := by decide +kernel
theorem dX11_followAll_66 : decode cX11_followAll 66 = .ok (.iinc 1 1, 3) := by decide +kernel
theorem dX11_followAll_69 : decode cX11_followAll 69 = .ok (.goto (-67), 3) := by decide +kernel
theorem dX11_followAll_72 : decode cX11_followAll 72 = .ok (.return_, 1) := by decide +kernel
theorem wX11_followAll : Mw yX11_followAll cX11_followAll 4 none 0 := ⟨q_931, q_120, by decide, ⟨by decide +kernel, by decide +kernel⟩, by decide +kernel, by decide +kernel⟩
-- a loop of EyeTrainer.followAll at 2
def bX11_followAll_2 (T : Sh) (x0 : Nat) (x1 : Int32) (M : Me) : Option ((Int32 × Me) ⊕ (Me)) :=
  gd (kd T x0 = 10) <| Option.bind (gR M x0 3) fun a2 => gd (kd T a2 = 4) <| Option.bind (gR M a2 0) fun a4 => gd (kd T a4 = 2) <| if (gI M a4 7) ≤ x1 then (some (.inr M)) else (Option.bind (gR M x0 5) fun a7 => gd (kd T a7 = 7) <| Option.bind (gR M a7 0) fun a9 => gd (kd T a9 = 13) <| gv x1 (ln T a9) <| lt ((gI M a9 (Int32.toNatClampNeg x1)) / (24 : Int32)) fun v12 => Option.bind (gR M x0 5) fun a13 => gd (kd T a13 = 7) <| Option.bind (gR M a13 0) fun a15 => gd (kd T a15 = 13) <| gv x1 (ln T a15) <| lt ((gI M a15 (Int32.toNatClampNeg x1)) - (gI M a15 (Int32.toNatClampNeg x1)) / (24 : Int32) * (24 : Int32)) fun v18 => Option.bind (gR M x0 5) fun a19 => gd (kd T a19 = 7) <| Option.bind (gR M a19 0) fun a21 => Option.bind (fX11_rowNow T M x0 x1 v12) <| un2 fun r22 M23 => Option.bind (fX0_followed r22 v18) fun r24 => gd (kd T a21 = 13) <| gv x1 (ln T a21) <| lt (pI M23 a21 (Int32.toNatClampNeg x1) ((v12 * (24 : Int32)) + r24)) fun M27 => lt (x1 + (1 : Int32)) fun v28 => some (.inl (v28, M27)))
def PX11_followAll_2 (X : Fx) (B : Bx) (Z : Nat × Nat × Nat × Nat) (Q : State → Prop) (T : Sh) (x0 : Nat) (s : Int32 × Me) : Prop := G X B 4 Z Q 2 [(0, .ref (x0)), (1, .int (s.1))] [] T s.2
def EX11_followAll_2 (X : Fx) (B : Bx) (Z : Nat × Nat × Nat × Nat) (Q : State → Prop) (T : Sh) (x0 : Nat) (r : Me) : Prop := G X B 4 Z Q 72 [] [] T r
set_option maxHeartbeats 4000000 in
theorem tbX11_followAll_2 {X : Fx} {B : Bx} {Z : Nat × Nat × Nat × Nat} {Q : State → Prop} {d : Nat} {T : Sh} (C : Cx X B cX11_followAll 4 RX11 d Z) (hd : 4 ≤ d) {x0 : Nat} : ∀ (s : Int32 × Me) (o : (Int32 × Me) ⊕ (Me)), bX11_followAll_2 T x0 s.1 s.2 = some o → lpE (PX11_followAll_2 X B Z Q T x0) (EX11_followAll_2 X B Z Q T x0) o → PX11_followAll_2 X B Z Q T x0 s := by
  rintro ⟨x1, M⟩ o h hE
  replace h : bX11_followAll_2 T x0 x1 M = some o := h
  unfold bX11_followAll_2 at h
  show G X B 4 Z Q 2 [(0, .ref (x0)), (1, .int (x1))] [] T M
  refine g_iload_n (pc := 2) C dX11_followAll_2 rfl 1 rfl ?_
  refine g_aload_n (pc := 3) C dX11_followAll_3 rfl 0 rfl ?_
  replace h := gd_some h; obtain ⟨hk1, h⟩ := h
  refine g_get (pc := 4) (v := va_rf (gR M x0 3)) C dX11_followAll_4 kX11 hk1 3 (by decide) q_427 rfl ?_
  replace h := bnd h; obtain ⟨a2, ea2, h⟩ := h
  refine g_refq ea2 ?_
  replace h := gd_some h; obtain ⟨hk3, h⟩ := h
  refine g_get (pc := 7) (v := va_rf (gR M a2 0)) C dX11_followAll_7 kX5 hk3 0 (by decide) q_288 rfl ?_
  replace h := bnd h; obtain ⟨a4, ea4, h⟩ := h
  refine g_refq ea4 ?_
  replace h := gd_some h; obtain ⟨hk5, h⟩ := h
  refine g_get (pc := 10) (v := .int (gI M a4 7)) C dX11_followAll_10 kX3 hk5 7 (by decide) q_242 rfl ?_
  refine g_icmp_ge (pc := 13) (tgt := 72) C dX11_followAll_13 (by decide) (fun c6 => ?_) (fun c6 => ?_)
  · replace h := ifp c6 h
    obtain rfl := Option.some.inj h
    exact g_sub [] rfl (show G X B 4 Z Q 72 [] [] T M from hE)
  · replace h := ifn c6 h
    refine g_aload_n (pc := 16) C dX11_followAll_16 rfl 0 rfl ?_
    refine g_get (pc := 17) (v := va_rf (gR M x0 5)) C dX11_followAll_17 kX11 hk1 5 (by decide) q_429 rfl ?_
    replace h := bnd h; obtain ⟨a7, ea7, h⟩ := h
    refine g_refq ea7 ?_
    replace h := gd_some h; obtain ⟨hk8, h⟩ := h
    refine g_get (pc := 20) (v := va_rf (gR M a7 0)) C dX11_followAll_20 kX8 hk8 0 (by decide) q_375 rfl ?_
    replace h := bnd h; obtain ⟨a9, ea9, h⟩ := h
    refine g_refq ea9 ?_
    refine g_iload_n (pc := 23) C dX11_followAll_23 rfl 1 rfl ?_
    replace h := gd_some h; obtain ⟨hk10, h⟩ := h
    replace h := gv_some h; obtain ⟨hi11, h⟩ := h
    refine g_iald (pc := 24) C dX11_followAll_24 hk10 hi11 ?_
    refine g_bipush (pc := 25) (v := 24) C dX11_followAll_25 (by decide) ?_
    refine g_idiv (pc := 27) C dX11_followAll_27 (by decide) ?_
    refine g_topi (fun v12 ev12 => ?_)
    replace h := lt_at ev12 h
    refine g_istore_n (pc := 28) (lo2 := [(2, .int (v12)), (0, .ref (x0)), (1, .int (x1))]) C dX11_followAll_28 rfl (by decide) rfl ?_
    refine g_aload_n (pc := 29) C dX11_followAll_29 rfl 1 rfl ?_
    refine g_get (pc := 30) (v := va_rf (gR M x0 5)) C dX11_followAll_30 kX11 hk1 5 (by decide) q_429 rfl ?_
    replace h := bnd h; obtain ⟨a13, ea13, h⟩ := h
    refine g_refq ea13 ?_
    replace h := gd_some h; obtain ⟨hk14, h⟩ := h
    refine g_get (pc := 33) (v := va_rf (gR M a13 0)) C dX11_followAll_33 kX8 hk14 0 (by decide) q_375 rfl ?_
    replace h := bnd h; obtain ⟨a15, ea15, h⟩ := h
    refine g_refq ea15 ?_
    refine g_iload_n (pc := 36) C dX11_followAll_36 rfl 2 rfl ?_
    replace h := gd_some h; obtain ⟨hk16, h⟩ := h
    replace h := gv_some h; obtain ⟨hi17, h⟩ := h
    refine g_iald (pc := 37) C dX11_followAll_37 hk16 hi17 ?_
    refine g_bipush (pc := 38) (v := 24) C dX11_followAll_38 (by decide) ?_
    refine g_irem (pc := 40) C dX11_followAll_40 (by decide) ?_
    refine g_topi (fun v18 ev18 => ?_)
    replace h := lt_at ev18 h
    refine g_istore_n (pc := 41) (lo2 := [(3, .int (v18)), (2, .int (v12)), (0, .ref (x0)), (1, .int (x1))]) C dX11_followAll_41 rfl (by decide) rfl ?_
    refine g_aload_n (pc := 42) C dX11_followAll_42 rfl 2 rfl ?_
    refine g_get (pc := 43) (v := va_rf (gR M x0 5)) C dX11_followAll_43 kX11 hk1 5 (by decide) q_429 rfl ?_
    replace h := bnd h; obtain ⟨a19, ea19, h⟩ := h
    refine g_refq ea19 ?_
    replace h := gd_some h; obtain ⟨hk20, h⟩ := h
    refine g_get (pc := 46) (v := va_rf (gR M a19 0)) C dX11_followAll_46 kX8 hk20 0 (by decide) q_375 rfl ?_
    replace h := bnd h; obtain ⟨a21, ea21, h⟩ := h
    refine g_refq ea21 ?_
    refine g_iload_n (pc := 49) C dX11_followAll_49 rfl 3 rfl ?_
    refine g_iload_n (pc := 50) C dX11_followAll_50 rfl 1 rfl ?_
    refine g_bipush (pc := 51) (v := 24) C dX11_followAll_51 (by decide) ?_
    refine g_imul (pc := 53) C dX11_followAll_53 ?_
    refine g_aload_n (pc := 54) C dX11_followAll_54 rfl 2 rfl ?_
    refine g_iload_n (pc := 55) C dX11_followAll_55 rfl 3 rfl ?_
    refine g_iload_n (pc := 56) C dX11_followAll_56 rfl 1 rfl ?_
    replace h := bnd2 h; obtain ⟨r22, M23, h1, h⟩ := h
    refine g_callVi (pc := 57) (As := [.int (x1), .int (v12)]) (st := [.int (v12 * (24 : Int32)), .int (x1), .ref (a21)]) C dX11_followAll_57 wX11_rowNow hk1 rfl (by decide) q_827 q_24 q_825 (by omega) rfl (Nat.le_of_ble_eq_true rfl) (kX11_rowNow (d := 3) (Nat.le_refl _) h1) ?_
    refine g_iload_n (pc := 60) C dX11_followAll_60 rfl 0 rfl ?_
    replace h := bnd h; obtain ⟨r24, h1, h⟩ := h
    refine g_callSi (pc := 61) (As := [.int (r22), .int (v18)]) (st := [.int (v12 * (24 : Int32)), .int (x1), .ref (a21)]) C dX11_followAll_61 wX0_followed q_933 q_932 (by omega) rfl (Nat.le_of_ble_eq_true rfl) (kX0_followed (d := 0) (Nat.le_refl _) h1) ?_
    refine g_iadd (pc := 64) C dX11_followAll_64 ?_
    replace h := gd_some h; obtain ⟨hk25, h⟩ := h
    replace h := gv_some h; obtain ⟨hi26, h⟩ := h
    refine g_iast (pc := 65) C dX11_followAll_65 hk25 hi26 ?_
    refine g_mem (fun M27 eM27 => ?_)
    replace h := lt_at eM27 h
    obtain ⟨v28, ev28⟩ : ∃ y : Int32, y = x1 + (1 : Int32) := ⟨_, rfl⟩
    replace h := lt_at ev28 h
    refine g_iinc (pc := 66) (v := v28) (k := 3) (lo2 := [(1, .int (v28)), (3, .int (v18)), (2, .int (v12)), (0, .ref (x0))]) C dX11_followAll_66 rfl (by rw [ev28]; rfl) (by decide) rfl ?_
    refine g_goto (pc := 69) (tgt := 2) C dX11_followAll_69 (by decide) ?_
    obtain rfl := Option.some.inj h
    exact g_sub [3, 0] rfl (show G X B 4 Z Q 2 [(0, .ref (x0)), (1, .int (v28))] [] T M27 from hE)
/-- EyeTrainer.followAll()V -/
def fX11_followAll (T : Sh) (M : Me) (x0 : Nat) : Option (Unit × Me) :=
  (lp FU (fun s => bX11_followAll_2 T x0 s.1 s.2) ((0 : Int32), M)).bind (fun M29 => some ((), M29))
set_option maxHeartbeats 4000000 in
theorem kX11_followAll {l : Launch} {B : Bx} {d : Nat} (hd : 4 ≤ d) {T : Sh} {M : Me} {x0 : Nat} {M' : Me} (h : fX11_followAll T M x0 = some ((), M')) : Kt l B yX11_followAll cX11_followAll 4 none d [.ref (x0)] T M none T M' := by
  refine kt_of wX11_followAll (Nat.le_refl _) (Nat.le_refl _) (Nat.le_of_ble_eq_true rfl) (fun X C hR hlx hin => ?_)
  subst hlx
  replace C : Cx X B cX11_followAll 4 RX11 d (tp T, sl T, tp T, sl T) := C
  unfold fX11_followAll at h
  show G X B 4 _ _ 0 [(0, .ref (x0))] [] T M
  refine g_iconst (pc := 0) (v := 0) C dX11_followAll_0 (by decide) ?_
  refine g_istore_n (pc := 1) (lo2 := [(1, .int ((0 : Int32))), (0, .ref (x0))]) C dX11_followAll_1 rfl (by decide) rfl ?_
  replace h := bnd h; obtain ⟨M29, h1, h⟩ := h
  refine g_sub [1, 0] rfl ?_
  refine lp_G2 (P := PX11_followAll_2 X B _ _ T x0) (E := EX11_followAll_2 X B _ _ T x0) (tbX11_followAll_2 C hd) h1 ?_
  show G X B 4 _ _ 72 [] [] T M29
  obtain ⟨-, rfl⟩ := Prod.mk.inj (Option.some.inj h)
  exact g_vret C hR dX11_followAll_72
theorem dX11_remember_0 : decode cX11_remember 0 = .ok (.aload_n 0, 1) := by decide +kernel
theorem dX11_remember_1 : decode cX11_remember 1 = .ok (.getfield 98, 3) := by decide +kernel
theorem dX11_remember_4 : decode cX11_remember 4 = .ok (.bipush 10, 2) := by decide +kernel
theorem dX11_remember_6 : decode cX11_remember 6 = .ok (.if_icmp .ne 56, 3) := by decide +kernel
theorem dX11_remember_9 : decode cX11_remember 9 = .ok (.aload_n 0, 1) := by decide +kernel
theorem dX11_remember_10 : decode cX11_remember 10 = .ok (.getfield 49, 3) := by decide +kernel
theorem dX11_remember_13 : decode cX11_remember 13 = .ok (.iconst 0, 1) := by decide +kernel
theorem dX11_remember_14 : decode cX11_remember 14 = .ok (.aaload, 1) := by decide +kernel
theorem dX11_remember_15 : decode cX11_remember 15 = .ok (.astore_n 2, 1) := by decide +kernel
theorem dX11_remember_16 : decode cX11_remember 16 = .ok (.iconst 1, 1) := by decide +kernel
theorem dX11_remember_17 : decode cX11_remember 17 = .ok (.istore_n 3, 1) := by decide +kernel
theorem dX11_remember_18 : decode cX11_remember 18 = .ok (.iload_n 3, 1) := by decide +kernel
theorem dX11_remember_19 : decode cX11_remember 19 = .ok (.bipush 10, 2) := by decide +kernel
theorem dX11_remember_21 : decode cX11_remember 21 = .ok (.if_icmp .ge 23, 3) := by decide +kernel
theorem dX11_remember_24 : decode cX11_remember 24 = .ok (.aload_n 0, 1) := by decide +kernel
theorem dX11_remember_25 : decode cX11_remember 25 = .ok (.getfield 49, 3) := by decide +kernel
theorem dX11_remember_28 : decode cX11_remember 28 = .ok (.iload_n 3, 1) := by decide +kernel
theorem dX11_remember_29 : decode cX11_remember 29 = .ok (.iconst 1, 1) := by decide +kernel
theorem dX11_remember_30 : decode cX11_remember 30 = .ok (.isub, 1) := by decide +kernel
theorem dX11_remember_31 : decode cX11_remember 31 = .ok (.aload_n 0, 1) := by decide +kernel
theorem dX11_remember_32 : decode cX11_remember 32 = .ok (.getfield 49, 3) := by decide +kernel
theorem dX11_remember_35 : decode cX11_remember 35 = .ok (.iload_n 3, 1) := by decide +kernel
theorem dX11_remember_36 : decode cX11_remember 36 = .ok (.aaload, 1) := by decide +kernel
theorem dX11_remember_37 : decode cX11_remember 37 = .ok (.aastore, 1) := by decide +kernel
theorem dX11_remember_38 : decode cX11_remember 38 = .ok (.iinc 3 1, 3) := by decide +kernel
theorem dX11_remember_41 : decode cX11_remember 41 = .ok (.goto (-23), 3) := by decide +kernel
theorem dX11_remember_44 : decode cX11_remember 44 = .ok (.aload_n 0, 1) := by decide +kernel
theorem dX11_remember_45 : decode cX11_remember 45 = .ok (.getfield 49, 3) := by decide +kernel
theorem dX11_remember_48 : decode cX11_remember 48 = .ok (.bipush 9, 2) := by decide +kernel
theorem dX11_remember_50 : decode cX11_remember 50 = .ok (.aload_n 2, 1) := by decide +kernel
theorem dX11_remember_51 : decode cX11_remember 51 = .ok (.aastore, 1) := by decide +kernel
theorem dX11_remember_52 : decode cX11_remember 52 = .ok (.aload_n 0, 1) := by decide +kernel
theorem dX11_remember_53 : decode cX11_remember 53 = .ok (.dup, 1) := by decide +kernel
theorem dX11_remember_54 : decode cX11_remember 54 = .ok (.getfield 98, 3) := by decide +kernel
theorem dX11_remember_57 : decode cX11_remember 57 = .ok (.iconst 1, 1) := by decide +kernel
theorem dX11_remember_58 : decode cX11_remember 58 = .ok (.isub, 1) := by decide +kernel
theorem dX11_remember_59 : decode cX11_remember 59 = .ok (.putfield 98, 3) := by decide +kernel
theorem dX11_remember_62 : decode cX11_remember 62 = .ok (.aload_n 0, 1) := by decide +kernel
theorem dX11_remember_63 : decode cX11_remember 63 = .ok (.getfield 49, 3) := by decide +kernel
theorem dX11_remember_66 : decode cX11_remember 66 = .ok (.aload_n 0, 1) := by decide +kernel
theorem dX11_remember_67 : decode cX11_remember 67 = .ok (.getfield 98, 3) := by decide +kernel
theorem dX11_remember_70 : decode cX11_remember 70 = .ok (.aaload, 1) := by decide +kernel
theorem dX11_remember_71 : decode cX11_remember 71 = .ok (.aload_n 1, 1) := by decide +kernel
theorem dX11_remember_72 : decode cX11_remember 72 = .ok (.invokevirtual 182, 3) := by decide +kernel
theorem dX11_remember_75 : decode cX11_remember 75 = .ok (.aload_n 0, 1) := by decide +kernel
theorem dX11_remember_76 : decode cX11_remember 76 = .ok (.dup, 1) := by decide +kernel
theorem dX11_remember_77 : decode cX11_remember 77 = .ok (.getfield 98, 3) := by decide +kernel
theorem dX11_remember_80 : decode cX11_remember 80 = .ok (.iconst 1, 1) := by decide +kernel
theorem dX11_remember_81 : decode cX11_remember 81 = .ok (.iadd, 1) := by decide +kernel
theorem dX11_remember_82 : decode cX11_remember 82 = .ok (.putfield 98, 3) := by decide +kernel
theorem dX11_remember_85 : decode cX11_remember 85 = .ok (.return_, 1) := by decide +kernel
theorem wX11_remember : Mw yX11_remember cX11_remember 4 none 1 := ⟨q_848, q_120, by decide, ⟨by decide +kernel, by decide +kernel⟩, by decide +kernel, by decide +kernel⟩
-- a loop of EyeTrainer.remember at 18
def bX11_remember_18 (T : Sh) (x0 : Nat) (x1 : Nat) (x2 : Nat) (x3 : Int32) (M : Me) : Option ((Int32 × Me) ⊕ (Me)) :=
  if (10 : Int32) ≤ x3 then (some (.inr M)) else (gd (kd T x0 = 10) <| Option.bind (gR M x0 7) fun a16 => Option.bind (gR M x0 7) fun a17 => gd (kd T a17 = 17) <| gv x3 (ln T a17) <| Option.bind (gR M a17 (Int32.toNatClampNeg x3)) fun a20 => gd (kd T a16 = 17) <| gd (kd T a20 = 7) <| gv (x3 - (1 : Int32)) (ln T a16) <| lt (pR M a16 (Int32.toNatClampNeg (x3 - (1 : Int32))) (some a20)) fun M24 => lt (x3 + (1 : Int32)) fun v25 => some (.inl (v25, M24)))
def PX11_remember_18 (X : Fx) (B : Bx) (Z : Nat × Nat × Nat × Nat) (Q : State → Prop) (T : Sh) (x0 : Nat) (x1 : Nat) (x2 : Nat) (s : Int32 × Me) : Prop := G X B 4 Z Q 18 [(0, .ref (x0)), (1, .ref (x1)), (2, .ref (x2)), (3, .int (s.1))] [] T s.2
def EX11_remember_18 (X : Fx) (B : Bx) (Z : Nat × Nat × Nat × Nat) (Q : State → Prop) (T : Sh) (x0 : Nat) (x1 : Nat) (x2 : Nat) (r : Me) : Prop := G X B 4 Z Q 44 [(0, .ref (x0)), (1, .ref (x1)), (2, .ref (x2))] [] T r
set_option maxHeartbeats 4000000 in
theorem tbX11_remember_18 {X : Fx} {B : Bx} {Z : Nat × Nat × Nat × Nat} {Q : State → Prop} {d : Nat} {T : Sh} (C : Cx X B cX11_remember 4 RX11 d Z) (hd : 1 ≤ d) {x0 : Nat} {x1 : Nat} {x2 : Nat} : ∀ (s : Int32 × Me) (o : (Int32 × Me) ⊕ (Me)), bX11_remember_18 T x0 x1 x2 s.1 s.2 = some o → lpE (PX11_remember_18 X B Z Q T x0 x1 x2) (EX11_remember_18 X B Z Q T x0 x1 x2) o → PX11_remember_18 X B Z Q T x0 x1 x2 s := by
  rintro ⟨x3, M⟩ o h hE
  replace h : bX11_remember_18 T x0 x1 x2 x3 M = some o := h
  unfold bX11_remember_18 at h
  show G X B 4 Z Q 18 [(0, .ref (x0)), (1, .ref (x1)), (2, .ref (x2)), (3, .int (x3))] [] T M
  refine g_iload_n (pc := 18) C dX11_remember_18 rfl 3 rfl ?_
  refine g_bipush (pc := 19) (v := 10) C dX11_remember_19 (by decide) ?_
  refine g_icmp_ge (pc := 21) (tgt := 44) C dX11_remember_21 (by decide) (fun c14 => ?_) (fun c14 => ?_)
  · replace h := ifp c14 h
    obtain rfl := Option.some.inj h
    exact g_sub [0, 1, 2] rfl (show G X B 4 Z Q 44 [(0, .ref (x0)), (1, .ref (x1)), (2, .ref (x2))] [] T M from hE)
  · replace h := ifn c14 h
    refine g_aload_n (pc := 24) C dX11_remember_24 rfl 0 rfl ?_
    replace h := gd_some h; obtain ⟨hk15, h⟩ := h
    refine g_get (pc := 25) (v := va_rf (gR M x0 7)) C dX11_remember_25 kX11 hk15 7 (by decide) q_431 rfl ?_
    replace h := bnd h; obtain ⟨a16, ea16, h⟩ := h
    refine g_refq ea16 ?_
    refine g_iload_n (pc := 28) C dX11_remember_28 rfl 3 rfl ?_
    refine g_iconst (pc := 29) (v := 1) C dX11_remember_29 (by decide) ?_
    refine g_isub (pc := 30) C dX11_remember_30 ?_
    refine g_aload_n (pc := 31) C dX11_remember_31 rfl 0 rfl ?_
    refine g_get (pc := 32) (v := va_rf (gR M x0 7)) C dX11_remember_32 kX11 hk15 7 (by decide) q_431 rfl ?_
    replace h := bnd h; obtain ⟨a17, ea17, h⟩ := h
    refine g_refq ea17 ?_
    refine g_iload_n (pc := 35) C dX11_remember_35 rfl 3 rfl ?_
    replace h := gd_some h; obtain ⟨hk18, h⟩ := h
    replace h := gv_some h; obtain ⟨hi19, h⟩ := h
    refine g_aald17 (pc := 36) C dX11_remember_36 hk18 hi19 ?_
    replace h := bnd h; obtain ⟨a20, ea20, h⟩ := h
    refine g_refq ea20 ?_
    replace h := gd_some h; obtain ⟨hk21, h⟩ := h
    replace h := gd_some h; obtain ⟨hk22, h⟩ := h
    replace h := gv_some h; obtain ⟨hi23, h⟩ := h
    refine g_aast17 (pc := 37) C dX11_remember_37 hk21 hk22 (by decide) rfl rfl hi23 ?_
    refine g_mem (fun M24 eM24 => ?_)
    replace h := lt_at eM24 h
    obtain ⟨v25, ev25⟩ : ∃ y : Int32, y = x3 + (1 : Int32) := ⟨_, rfl⟩
    replace h := lt_at ev25 h
    refine g_iinc (pc := 38) (v := v25) (k := 3) (lo2 := [(3, .int (v25)), (0, .ref (x0)), (1, .ref (x1)), (2, .ref (x2))]) C dX11_remember_38 rfl (by rw [ev25]; rfl) (by decide) rfl ?_
    refine g_goto (pc := 41) (tgt := 18) C dX11_remember_41 (by decide) ?_
    obtain rfl := Option.some.inj h
    exact g_sub [1, 2, 3, 0] rfl (show G X B 4 Z Q 18 [(0, .ref (x0)), (1, .ref (x1)), (2, .ref (x2)), (3, .int (v25))] [] T M24 from hE)
/-- EyeTrainer.remember(LEyeTrainer$Stand;)V -/
def fX11_remember (T : Sh) (M : Me) (x0 : Nat) (x1 : Nat) : Option (Unit × Me) :=
  gd (kd T x0 = 10) <| if (gI M x0 8) = (10 : Int32) then (Option.bind (gR M x0 7) fun a10 => gd (kd T a10 = 17) <| gv (0 : Int32) (ln T a10) <| Option.bind (gR M a10 (Int32.toNatClampNeg (0 : Int32))) fun a13 => (lp FU (fun s => bX11_remember_18 T x0 x1 a13 s.1 s.2) ((1 : Int32), M)).bind (fun M26 => Option.bind (gR M26 x0 7) fun a27 => gd (kd T a27 = 17) <| gd (kd T a13 = 7) <| gv (9 : Int32) (ln T a27) <| lt (pR M26 a27 (Int32.toNatClampNeg (9 : Int32)) (some a13)) fun M31 => lt (pI M31 x0 8 ((gI M31 x0 8) - (1 : Int32))) fun M32 => Option.bind (gR M32 x0 7) fun a33 => gd (kd T a33 = 17) <| gv (gI M32 x0 8) (ln T a33) <| Option.bind (gR M32 a33 (Int32.toNatClampNeg (gI M32 x0 8))) fun a36 => gd (kd T a36 = 7) <| Option.bind (fX8_copy T M32 a36 x1) <| un2 fun _u M38 => lt (pI M38 x0 8 ((gI M38 x0 8) + (1 : Int32))) fun M39 => some ((), M39))) else (Option.bind (gR M x0 7) fun a3 => gd (kd T a3 = 17) <| gv (gI M x0 8) (ln T a3) <| Option.bind (gR M a3 (Int32.toNatClampNeg (gI M x0 8))) fun a6 => gd (kd T a6 = 7) <| Option.bind (fX8_copy T M a6 x1) <| un2 fun _u M8 => lt (pI M8 x0 8 ((gI M8 x0 8) + (1 : Int32))) fun M9 => some ((), M9))
set_option maxHeartbeats 4000000 in
theorem kX11_remember {l : Launch} {B : Bx} {d : Nat} (hd : 1 ≤ d) {T : Sh} {M : Me} {x0 : Nat} {x1 : Nat} {M' : Me} (h : fX11_remember T M x0 x1 = some ((), M')) : Kt l B yX11_remember cX11_remember 4 none d [.ref (x0), .ref (x1)] T M none T M' := by
  refine kt_of wX11_remember (Nat.le_refl _) (Nat.le_refl _) (Nat.le_of_ble_eq_true rfl) (fun X C hR hlx hin => ?_)
  subst hlx
  replace C : Cx X B cX11_remember 4 RX11 d (tp T, sl T, tp T, sl T) := C
  unfold fX11_remember at h
  show G X B 4 _ _ 0 [(0, .ref (x0)), (1, .ref (x1))] [] T M
  refine g_aload_n (pc := 0) C dX11_remember_0 rfl 0 rfl ?_
  replace h := gd_some h; obtain ⟨hk1, h⟩ := h
  refine g_get (pc := 1) (v := .int (gI M x0 8)) C dX11_remember_1 kX11 hk1 8 (by decide) q_432 rfl ?_
  refine g_bipush (pc := 4) (v := 10) C dX11_remember_4 (by decide) ?_
  refine g_icmp_ne (pc := 6) (tgt := 62) C dX11_remember_6 (by decide) (fun c2 => ?_) (fun c2 => ?_)
  · replace h := ifn c2 h
    refine g_aload_n (pc := 62) C dX11_remember_62 rfl 0 rfl ?_
    refine g_get (pc := 63) (v := va_rf (gR M x0 7)) C dX11_remember_63 kX11 hk1 7 (by decide) q_431 rfl ?_
    replace h := bnd h; obtain ⟨a3, ea3, h⟩ := h
    refine g_refq ea3 ?_
    refine g_aload_n (pc := 66) C dX11_remember_66 rfl 0 rfl ?_
    refine g_get (pc := 67) (v := .int (gI M x0 8)) C dX11_remember_67 kX11 hk1 8 (by decide) q_432 rfl ?_
    replace h := gd_some h; obtain ⟨hk4, h⟩ := h
    replace h := gv_some h; obtain ⟨hi5, h⟩ := h
    refine g_aald17 (pc := 70) C dX11_remember_70 hk4 hi5 ?_
    replace h := bnd h; obtain ⟨a6, ea6, h⟩ := h
    refine g_refq ea6 ?_
    refine g_aload_n (pc := 71) C dX11_remember_71 rfl 1 rfl ?_
    replace h := gd_some h; obtain ⟨hk7, h⟩ := h
    replace h := bnd2 h; obtain ⟨_u, M8, h1, h⟩ := h
    refine g_callVv (pc := 72) (As := [.ref (x1)]) (st := []) C dX11_remember_72 wX8_copy hk7 rfl (by decide) q_850 q_851 q_849 (by omega) rfl (Nat.le_of_ble_eq_true rfl) (kX8_copy (d := 0) (Nat.le_refl _) h1) ?_
    refine g_aload_n (pc := 75) C dX11_remember_75 rfl 0 rfl ?_
    refine g_dup (pc := 76) C dX11_remember_76 rfl ?_
    refine g_get (pc := 77) (v := .int (gI M8 x0 8)) C dX11_remember_77 kX11 hk1 8 (by decide) q_432 rfl ?_
    refine g_iconst (pc := 80) (v := 1) C dX11_remember_80 (by decide) ?_
    refine g_iadd (pc := 81) C dX11_remember_81 ?_
    refine g_putI (pc := 82) C dX11_remember_82 kX11 hk1 8 (by decide) rfl rfl rfl q_432 ?_
    refine g_mem (fun M9 eM9 => ?_)
    replace h := lt_at eM9 h
    obtain ⟨-, rfl⟩ := Prod.mk.inj (Option.some.inj h)
    exact g_vret C hR dX11_remember_85
  · replace h := ifp c2 h
    refine g_aload_n (pc := 9) C dX11_remember_9 rfl 0 rfl ?_
    refine g_get (pc := 10) (v := va_rf (gR M x0 7)) C dX11_remember_10 kX11 hk1 7 (by decide) q_431 rfl ?_
    replace h := bnd h; obtain ⟨a10, ea10, h⟩ := h
    refine g_refq ea10 ?_
    refine g_iconst (pc := 13) (v := 0) C dX11_remember_13 (by decide) ?_
    replace h := gd_some h; obtain ⟨hk11, h⟩ := h
    replace h := gv_some h; obtain ⟨hi12, h⟩ := h
    refine g_aald17 (pc := 14) C dX11_remember_14 hk11 hi12 ?_
    replace h := bnd h; obtain ⟨a13, ea13, h⟩ := h
    refine g_refq ea13 ?_
    refine g_astore_n (pc := 15) (lo2 := [(2, .ref (a13)), (0, .ref (x0)), (1, .ref (x1))]) C dX11_remember_15 rfl (by decide) rfl ?_
    refine g_iconst (pc := 16) (v := 1) C dX11_remember_16 (by decide) ?_
    refine g_istore_n (pc := 17) (lo2 := [(3, .int ((1 : Int32))), (2, .ref (a13)), (0, .ref (x0)), (1, .ref (x1))]) C dX11_remember_17 rfl (by decide) rfl ?_
    replace h := bnd h; obtain ⟨M26, h1, h⟩ := h
    refine g_sub [2, 3, 1, 0] rfl ?_
    refine lp_G2 (P := PX11_remember_18 X B _ _ T x0 x1 a13) (E := EX11_remember_18 X B _ _ T x0 x1 a13) (tbX11_remember_18 C hd) h1 ?_
    show G X B 4 _ _ 44 [(0, .ref (x0)), (1, .ref (x1)), (2, .ref (a13))] [] T M26
    refine g_aload_n (pc := 44) C dX11_remember_44 rfl 0 rfl ?_
    refine g_get (pc := 45) (v := va_rf (gR M26 x0 7)) C dX11_remember_45 kX11 hk1 7 (by decide) q_431 rfl ?_
    replace h := bnd h; obtain ⟨a27, ea27, h⟩ := h
    refine g_refq ea27 ?_
    refine g_bipush (pc := 48) (v := 9) C dX11_remember_48 (by decide) ?_
    refine g_aload_n (pc := 50) C dX11_remember_50 rfl 2 rfl ?_
    replace h := gd_some h; obtain ⟨hk28, h⟩ := h
    replace h := gd_some h; obtain ⟨hk29, h⟩ := h
    replace h := gv_some h; obtain ⟨hi30, h⟩ := h
    refine g_aast17 (pc := 51) C dX11_remember_51 hk28 hk29 (by decide) rfl rfl hi30 ?_
    refine g_mem (fun M31 eM31 => ?_)
    replace h := lt_at eM31 h
    refine g_aload_n (pc := 52) C dX11_remember_52 rfl 0 rfl ?_
    refine g_dup (pc := 53) C dX11_remember_53 rfl ?_
    refine g_get (pc := 54) (v := .int (gI M31 x0 8)) C dX11_remember_54 kX11 hk1 8 (by decide) q_432 rfl ?_
    refine g_iconst (pc := 57) (v := 1) C dX11_remember_57 (by decide) ?_
    refine g_isub (pc := 58) C dX11_remember_58 ?_
    refine g_putI (pc := 59) C dX11_remember_59 kX11 hk1 8 (by decide) rfl rfl rfl q_432 ?_
    refine g_mem (fun M32 eM32 => ?_)
    replace h := lt_at eM32 h
    refine g_aload_n (pc := 62) C dX11_remember_62 rfl 0 rfl ?_
    refine g_get (pc := 63) (v := va_rf (gR M32 x0 7)) C dX11_remember_63 kX11 hk1 7 (by decide) q_431 rfl ?_
    replace h := bnd h; obtain ⟨a33, ea33, h⟩ := h
    refine g_refq ea33 ?_
    refine g_aload_n (pc := 66) C dX11_remember_66 rfl 0 rfl ?_
    refine g_get (pc := 67) (v := .int (gI M32 x0 8)) C dX11_remember_67 kX11 hk1 8 (by decide) q_432 rfl ?_
    replace h := gd_some h; obtain ⟨hk34, h⟩ := h
    replace h := gv_some h; obtain ⟨hi35, h⟩ := h
    refine g_aald17 (pc := 70) C dX11_remember_70 hk34 hi35 ?_
    replace h := bnd h; obtain ⟨a36, ea36, h⟩ := h
    refine g_refq ea36 ?_
    refine g_aload_n (pc := 71) C dX11_remember_71 rfl 1 rfl ?_
    replace h := gd_some h; obtain ⟨hk37, h⟩ := h
    replace h := bnd2 h; obtain ⟨_u, M38, h1, h⟩ := h
    refine g_callVv (pc := 72) (As := [.ref (x1)]) (st := []) C dX11_remember_72 wX8_copy hk37 rfl (by decide) q_850 q_851 q_849 (by omega) rfl (Nat.le_of_ble_eq_true rfl) (kX8_copy (d := 0) (Nat.le_refl _) h1) ?_
    refine g_aload_n (pc := 75) C dX11_remember_75 rfl 0 rfl ?_
    refine g_dup (pc := 76) C dX11_remember_76 rfl ?_
    refine g_get (pc := 77) (v := .int (gI M38 x0 8)) C dX11_remember_77 kX11 hk1 8 (by decide) q_432 rfl ?_
    refine g_iconst (pc := 80) (v := 1) C dX11_remember_80 (by decide) ?_
    refine g_iadd (pc := 81) C dX11_remember_81 ?_
    refine g_putI (pc := 82) C dX11_remember_82 kX11 hk1 8 (by decide) rfl rfl rfl q_432 ?_
    refine g_mem (fun M39 eM39 => ?_)
    replace h := lt_at eM39 h
    obtain ⟨-, rfl⟩ := Prod.mk.inj (Option.some.inj h)
    exact g_vret C hR dX11_remember_85
