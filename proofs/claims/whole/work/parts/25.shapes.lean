set_option maxRecDepth 20000 in
theorem q_29 : Cond.selects RX7 yX7_measureGaps yX7_measureGaps ∈ lw_gd := mem_gd (List.mem_of_getElem? (i := 29) (by decide +kernel)) rfl
set_option maxRecDepth 20000 in
theorem q_30 : Cond.selects RX7 yX7_has yX7_has ∈ lw_gd := mem_gd (List.mem_of_getElem? (i := 30) (by decide +kernel)) rfl
set_option maxRecDepth 20000 in
theorem q_31 : Cond.selects RX7 yX7_nearestOutside yX7_nearestOutside ∈ lw_gd := mem_gd (List.mem_of_getElem? (i := 31) (by decide +kernel)) rfl
set_option maxRecDepth 20000 in
theorem q_32 : Cond.selects RX7 yX7_squaredGap yX7_squaredGap ∈ lw_gd := mem_gd (List.mem_of_getElem? (i := 32) (by decide +kernel)) rfl
set_option maxRecDepth 20000 in
theorem q_126 : Cond.initialized RX7 ∈ lw_gd := mem_gd (List.mem_of_getElem? (i := 126) (by decide +kernel)) rfl
set_option maxRecDepth 20000 in
theorem q_314 : Cond.fieldLink RX7 11 "EyeTrainer$Shapes" "map" "[I" ∈ lw_gd := mem_gd (List.mem_of_getElem? (i := 314) (by decide +kernel)) rfl
set_option maxRecDepth 20000 in
theorem q_316 : Cond.fieldLink RX7 15 "EyeTrainer$Shapes" "cellNumbers" "[I" ∈ lw_gd := mem_gd (List.mem_of_getElem? (i := 316) (by decide +kernel)) rfl
set_option maxRecDepth 20000 in
theorem q_321 : Cond.fieldLink RX7 34 "EyeTrainer$Shapes" "most" "I" ∈ lw_gd := mem_gd (List.mem_of_getElem? (i := 321) (by decide +kernel)) rfl
set_option maxRecDepth 20000 in
theorem q_323 : Cond.fieldLink RX7 48 "EyeTrainer$Shapes" "left" "I" ∈ lw_gd := mem_gd (List.mem_of_getElem? (i := 323) (by decide +kernel)) rfl
set_option maxRecDepth 20000 in
theorem q_325 : Cond.fieldLink RX7 51 "EyeTrainer$Shapes" "right" "I" ∈ lw_gd := mem_gd (List.mem_of_getElem? (i := 325) (by decide +kernel)) rfl
set_option maxRecDepth 20000 in
theorem q_327 : Cond.fieldLink RX7 54 "EyeTrainer$Shapes" "low" "I" ∈ lw_gd := mem_gd (List.mem_of_getElem? (i := 327) (by decide +kernel)) rfl
set_option maxRecDepth 20000 in
theorem q_329 : Cond.fieldLink RX7 57 "EyeTrainer$Shapes" "high" "I" ∈ lw_gd := mem_gd (List.mem_of_getElem? (i := 329) (by decide +kernel)) rfl
set_option maxRecDepth 20000 in
theorem q_331 : Cond.fieldLink RX7 60 "EyeTrainer$Shapes" "ellipseSize" "I" ∈ lw_gd := mem_gd (List.mem_of_getElem? (i := 331) (by decide +kernel)) rfl
set_option maxRecDepth 20000 in
theorem q_333 : Cond.fieldLink RX7 63 "EyeTrainer$Shapes" "ellipseCell" "I" ∈ lw_gd := mem_gd (List.mem_of_getElem? (i := 333) (by decide +kernel)) rfl
set_option maxRecDepth 20000 in
theorem q_872 : Cond.code yX7_cells cX7_cells 3 (some .int) ∈ lw_gd := mem_gd (List.mem_of_getElem? (i := 872) (by decide +kernel)) rfl
set_option maxRecDepth 20000 in
theorem q_873 : Cond.methodLink RX7 28 yJ6_bitCount_0f7a4 ∈ lw_gd := mem_gd (List.mem_of_getElem? (i := 873) (by decide +kernel)) rfl
set_option maxRecDepth 20000 in
theorem q_874 : Cond.static yJ6_bitCount_0f7a4 ∈ lw_gd := mem_gd (List.mem_of_getElem? (i := 874) (by decide +kernel)) rfl
set_option maxRecDepth 20000 in
theorem q_882 : Cond.code yX7_findRectangle cX7_findRectangle 5 none ∈ lw_gd := mem_gd (List.mem_of_getElem? (i := 882) (by decide +kernel)) rfl
set_option maxRecDepth 20000 in
theorem q_883 : Cond.constant RX7 38 (16777215) ∈ lw_gd := mem_gd (List.mem_of_getElem? (i := 883) (by decide +kernel)) rfl
set_option maxRecDepth 20000 in
theorem q_884 : Cond.methodLink RX7 39 yX0_longest ∈ lw_gd := mem_gd (List.mem_of_getElem? (i := 884) (by decide +kernel)) rfl
set_option maxRecDepth 20000 in
theorem q_885 : Cond.static yX0_longest ∈ lw_gd := mem_gd (List.mem_of_getElem? (i := 885) (by decide +kernel)) rfl
set_option maxRecDepth 20000 in
theorem q_887 : Cond.methodLink RX7 44 yX0_firstRun ∈ lw_gd := mem_gd (List.mem_of_getElem? (i := 887) (by decide +kernel)) rfl
set_option maxRecDepth 20000 in
theorem q_888 : Cond.static yX0_firstRun ∈ lw_gd := mem_gd (List.mem_of_getElem? (i := 888) (by decide +kernel)) rfl
set_option maxRecDepth 20000 in
theorem q_893 : Cond.code yX7_middle cX7_middle 1 (some .int) ∈ lw_gd := mem_gd (List.mem_of_getElem? (i := 893) (by decide +kernel)) rfl
set_option maxRecDepth 20000 in
theorem q_897 : Cond.code yX7_findEllipse cX7_findEllipse 4 none ∈ lw_gd := mem_gd (List.mem_of_getElem? (i := 897) (by decide +kernel)) rfl
set_option maxRecDepth 20000 in
theorem q_898 : Cond.methodLink RX7 66 yX7_measureGaps ∈ lw_gd := mem_gd (List.mem_of_getElem? (i := 898) (by decide +kernel)) rfl
set_option maxRecDepth 20000 in
theorem q_900 : Cond.instanceMethod yX7_measureGaps ∈ lw_gd := mem_gd (List.mem_of_getElem? (i := 900) (by decide +kernel)) rfl
set_option maxRecDepth 20000 in
theorem q_901 : Cond.code yX7_measureGaps cX7_measureGaps 5 none ∈ lw_gd := mem_gd (List.mem_of_getElem? (i := 901) (by decide +kernel)) rfl
set_option maxRecDepth 20000 in
theorem q_902 : Cond.methodLink RX7 70 yX7_has ∈ lw_gd := mem_gd (List.mem_of_getElem? (i := 902) (by decide +kernel)) rfl
set_option maxRecDepth 20000 in
theorem q_904 : Cond.instanceMethod yX7_has ∈ lw_gd := mem_gd (List.mem_of_getElem? (i := 904) (by decide +kernel)) rfl
set_option maxRecDepth 20000 in
theorem q_905 : Cond.code yX7_has cX7_has 2 (some .boolean) ∈ lw_gd := mem_gd (List.mem_of_getElem? (i := 905) (by decide +kernel)) rfl
set_option maxRecDepth 20000 in
theorem q_906 : Cond.methodLink RX7 77 yJ9_min_7cf53 ∈ lw_gd := mem_gd (List.mem_of_getElem? (i := 906) (by decide +kernel)) rfl
set_option maxRecDepth 20000 in
theorem q_907 : Cond.methodLink RX7 74 yX7_nearestOutside ∈ lw_gd := mem_gd (List.mem_of_getElem? (i := 907) (by decide +kernel)) rfl
set_option maxRecDepth 20000 in
theorem q_909 : Cond.instanceMethod yX7_nearestOutside ∈ lw_gd := mem_gd (List.mem_of_getElem? (i := 909) (by decide +kernel)) rfl
set_option maxRecDepth 20000 in
theorem q_910 : Cond.code yX7_nearestOutside cX7_nearestOutside 6 (some .int) ∈ lw_gd := mem_gd (List.mem_of_getElem? (i := 910) (by decide +kernel)) rfl
set_option maxRecDepth 20000 in
theorem q_911 : Cond.methodLink RX7 82 yX7_squaredGap ∈ lw_gd := mem_gd (List.mem_of_getElem? (i := 911) (by decide +kernel)) rfl
set_option maxRecDepth 20000 in
theorem q_913 : Cond.instanceMethod yX7_squaredGap ∈ lw_gd := mem_gd (List.mem_of_getElem? (i := 913) (by decide +kernel)) rfl
set_option maxRecDepth 20000 in
theorem q_914 : Cond.code yX7_squaredGap cX7_squaredGap 2 (some .int) ∈ lw_gd := mem_gd (List.mem_of_getElem? (i := 914) (by decide +kernel)) rfl
set_option maxRecDepth 20000 in
theorem q_1023 : Cond.methodLink RX7 85 yX7_beside ∈ lw_gd := mem_gd (List.mem_of_getElem? (i := 1023) (by decide +kernel)) rfl
set_option maxRecDepth 20000 in
theorem q_1024 : Cond.static yX7_beside ∈ lw_gd := mem_gd (List.mem_of_getElem? (i := 1024) (by decide +kernel)) rfl
set_option maxRecDepth 20000 in
theorem q_1025 : Cond.code yX7_beside cX7_beside 2 (some .int) ∈ lw_gd := mem_gd (List.mem_of_getElem? (i := 1025) (by decide +kernel)) rfl
set_option maxRecDepth 20000 in
theorem q_1046 : Cond.code yX7_marginOf cX7_marginOf 5 (some .int) ∈ lw_gd := mem_gd (List.mem_of_getElem? (i := 1046) (by decide +kernel)) rfl
theorem dX7_cells_0 : decode cX7_cells 0 = .ok (.iconst 0, 1) := by decide +kernel
theorem dX7_cells_1 : decode cX7_cells 1 = .ok (.istore_n 1, 1) := by decide +kernel
theorem dX7_cells_2 : decode cX7_cells 2 = .ok (.iconst 0, 1) := by decide +kernel
theorem dX7_cells_3 : decode cX7_cells 3 = .ok (.istore_n 2, 1) := by decide +kernel
theorem dX7_cells_4 : decode cX7_cells 4 = .ok (.iload_n 2, 1) := by decide +kernel
theorem dX7_cells_5 : decode cX7_cells 5 = .ok (.bipush 16, 2) := by decide +kernel
theorem dX7_cells_7 : decode cX7_cells 7 = .ok (.if_icmp .ge 21, 3) := by decide +kernel
theorem dX7_cells_10 : decode cX7_cells 10 = .ok (.iload_n 1, 1) := by decide +kernel
theorem dX7_cells_11 : decode cX7_cells 11 = .ok (.aload_n 0, 1) := by decide +kernel
theorem dX7_cells_12 : decode cX7_cells 12 = .ok (.getfield 11, 3) := by decide +kernel
theorem dX7_cells_15 : decode cX7_cells 15 = .ok (.iload_n 2, 1) := by decide +kernel
theorem dX7_cells_16 : decode cX7_cells 16 = .ok (.iaload, 1) := by decide +kernel
theorem dX7_cells_17 : decode cX7_cells 17 = .ok (.invokestatic 28, 3) := by decide +kernel
theorem dX7_cells_20 : decode cX7_cells 20 = .ok (.iadd, 1) := by decide +kernel
theorem dX7_cells_21 : decode cX7_cells 21 = .ok (.istore_n 1, 1) := by decide +kernel
theorem dX7_cells_22 : decode cX7_cells 22 = .ok (.iinc 2 1, 3) := by decide +kernel
theorem dX7_cells_25 : decode cX7_cells 25 = .ok (.goto (-21), 3) := by decide +kernel
theorem dX7_cells_28 : decode cX7_cells 28 = .ok (.iload_n 1, 1) := by decide +kernel
theorem dX7_cells_29 : decode cX7_cells 29 = .ok (.ireturn, 1) := by decide +kernel
theorem wX7_cells : Mw yX7_cells cX7_cells 3 (some .int) 0 := ⟨q_872, q_126, by decide, ⟨by decide +kernel, by decide +kernel⟩, by decide +kernel, by decide +kernel⟩
-- a loop of EyeTrainer$Shapes.cells at 4
def bX7_cells_4 (T : Sh) (M : Me) (x0 : Nat) (x1 : Int32) (x2 : Int32) : Option ((Int32 × Int32) ⊕ (Int32)) :=
  if (16 : Int32) ≤ x2 then (some (.inr x1)) else (gd (kd T x0 = 6) <| Option.bind (gR M x0 0) fun a3 => gd (kd T a3 = 13) <| gv x2 (ln T a3) <| Option.bind (fJ6_bitCount_0f7a4 (gI M a3 (Int32.toNatClampNeg x2))) fun r6 => lt (x1 + r6) fun v7 => lt (x2 + (1 : Int32)) fun v8 => some (.inl (v7, v8)))
def PX7_cells_4 (X : Fx) (B : Bx) (Z : Nat × Nat × Nat × Nat) (Q : State → Prop) (T : Sh) (M : Me) (x0 : Nat) (s : Int32 × Int32) : Prop := G X B 3 Z Q 4 [(0, .ref (x0)), (1, .int (s.1)), (2, .int (s.2))] [] T M
def EX7_cells_4 (X : Fx) (B : Bx) (Z : Nat × Nat × Nat × Nat) (Q : State → Prop) (T : Sh) (M : Me) (x0 : Nat) (r : Int32) : Prop := G X B 3 Z Q 28 [(1, .int (r))] [] T M
set_option maxHeartbeats 4000000 in
theorem tbX7_cells_4 {X : Fx} {B : Bx} {Z : Nat × Nat × Nat × Nat} {Q : State → Prop} {d : Nat} {T : Sh} {M : Me} (C : Cx X B cX7_cells 3 RX7 d Z) (hd : 1 ≤ d) {x0 : Nat} : ∀ (s : Int32 × Int32) (o : (Int32 × Int32) ⊕ (Int32)), bX7_cells_4 T M x0 s.1 s.2 = some o → lpE (PX7_cells_4 X B Z Q T M x0) (EX7_cells_4 X B Z Q T M x0) o → PX7_cells_4 X B Z Q T M x0 s := by
  rintro ⟨x1, x2⟩ o h hE
  replace h : bX7_cells_4 T M x0 x1 x2 = some o := h
  unfold bX7_cells_4 at h
  show G X B 3 Z Q 4 [(0, .ref (x0)), (1, .int (x1)), (2, .int (x2))] [] T M
  refine g_iload_n (pc := 4) C dX7_cells_4 rfl 2 rfl ?_
  refine g_bipush (pc := 5) (v := 16) C dX7_cells_5 (by decide) ?_
  refine g_icmp_ge (pc := 7) (tgt := 28) C dX7_cells_7 (by decide) (fun c1 => ?_) (fun c1 => ?_)
  · replace h := ifp c1 h
    obtain rfl := Option.some.inj h
    exact g_sub [1] rfl (show G X B 3 Z Q 28 [(1, .int (x1))] [] T M from hE)
  · replace h := ifn c1 h
    refine g_iload_n (pc := 10) C dX7_cells_10 rfl 1 rfl ?_
    refine g_aload_n (pc := 11) C dX7_cells_11 rfl 0 rfl ?_
    replace h := gd_some h; obtain ⟨hk2, h⟩ := h
    refine g_get (pc := 12) (v := va_rf (gR M x0 0)) C dX7_cells_12 kX7 hk2 0 (by decide) q_314 rfl ?_
    replace h := bnd h; obtain ⟨a3, ea3, h⟩ := h
    refine g_refq ea3 ?_
    refine g_iload_n (pc := 15) C dX7_cells_15 rfl 2 rfl ?_
    replace h := gd_some h; obtain ⟨hk4, h⟩ := h
    replace h := gv_some h; obtain ⟨hi5, h⟩ := h
    refine g_iald (pc := 16) C dX7_cells_16 hk4 hi5 ?_
    replace h := bnd h; obtain ⟨r6, h1, h⟩ := h
    refine g_callSi (pc := 17) (As := [.int (gI M a3 (Int32.toNatClampNeg x2))]) (st := [.int (x1)]) C dX7_cells_17 wJ6_bitCount_0f7a4 q_874 q_873 (by omega) rfl (Nat.le_of_ble_eq_true rfl) (kJ6_bitCount_0f7a4 (d := 0) (Nat.le_refl _) h1) ?_
    refine g_iadd (pc := 20) C dX7_cells_20 ?_
    refine g_topi (fun v7 ev7 => ?_)
    replace h := lt_at ev7 h
    refine g_istore_n (pc := 21) (lo2 := [(1, .int (v7)), (0, .ref (x0)), (2, .int (x2))]) C dX7_cells_21 rfl (by decide) rfl ?_
    obtain ⟨v8, ev8⟩ : ∃ y : Int32, y = x2 + (1 : Int32) := ⟨_, rfl⟩
    replace h := lt_at ev8 h
    refine g_iinc (pc := 22) (v := v8) (k := 2) (lo2 := [(2, .int (v8)), (1, .int (v7)), (0, .ref (x0))]) C dX7_cells_22 rfl (by rw [ev8]; rfl) (by decide) rfl ?_
    refine g_goto (pc := 25) (tgt := 4) C dX7_cells_25 (by decide) ?_
    obtain rfl := Option.some.inj h
    exact g_sub [2, 1, 0] rfl (show G X B 3 Z Q 4 [(0, .ref (x0)), (1, .int (v7)), (2, .int (v8))] [] T M from hE)
/-- EyeTrainer$Shapes.cells()I -/
def fX7_cells (T : Sh) (M : Me) (x0 : Nat) : Option (Int32) :=
  (lp FU (fun s => bX7_cells_4 T M x0 s.1 s.2) ((0 : Int32), (0 : Int32))).bind (fun x1_9 => some x1_9)
set_option maxHeartbeats 4000000 in
theorem kX7_cells {l : Launch} {B : Bx} {d : Nat} (hd : 1 ≤ d) {T : Sh} {M : Me} {x0 : Nat} {r : Int32} (h : fX7_cells T M x0 = some r) : Kt l B yX7_cells cX7_cells 3 (some .int) d [.ref (x0)] T M (some (.int r)) T M := by
  refine kt_of wX7_cells (Nat.le_refl _) (Nat.le_refl _) (Nat.le_of_ble_eq_true rfl) (fun X C hR hlx hin => ?_)
  subst hlx
  replace C : Cx X B cX7_cells 3 RX7 d (tp T, sl T, tp T, sl T) := C
  unfold fX7_cells at h
  show G X B 3 _ _ 0 [(0, .ref (x0))] [] T M
  refine g_iconst (pc := 0) (v := 0) C dX7_cells_0 (by decide) ?_
  refine g_istore_n (pc := 1) (lo2 := [(1, .int ((0 : Int32))), (0, .ref (x0))]) C dX7_cells_1 rfl (by decide) rfl ?_
  refine g_iconst (pc := 2) (v := 0) C dX7_cells_2 (by decide) ?_
  refine g_istore_n (pc := 3) (lo2 := [(2, .int ((0 : Int32))), (1, .int ((0 : Int32))), (0, .ref (x0))]) C dX7_cells_3 rfl (by decide) rfl ?_
  replace h := bnd h; obtain ⟨x1_9, h1, h⟩ := h
  refine g_sub [2, 1, 0] rfl ?_
  refine lp_G2 (P := PX7_cells_4 X B _ _ T M x0) (E := EX7_cells_4 X B _ _ T M x0) (tbX7_cells_4 C hd) h1 ?_
  show G X B 3 _ _ 28 [(1, .int (x1_9))] [] T M
  refine g_iload_n (pc := 28) C dX7_cells_28 rfl 0 rfl ?_
  obtain rfl := Option.some.inj h
  exact g_iret C hR dX7_cells_29
theorem dX7_has_0 : decode cX7_has 0 = .ok (.aload_n 0, 1) := by decide +kernel
theorem dX7_has_1 : decode cX7_has 1 = .ok (.getfield 11, 3) := by decide +kernel
theorem dX7_has_4 : decode cX7_has 4 = .ok (.iload_n 1, 1) := by decide +kernel
theorem dX7_has_5 : decode cX7_has 5 = .ok (.bipush 24, 2) := by decide +kernel
theorem dX7_has_7 : decode cX7_has 7 = .ok (.idiv, 1) := by decide +kernel
theorem dX7_has_8 : decode cX7_has 8 = .ok (.iaload, 1) := by decide +kernel
theorem dX7_has_9 : decode cX7_has 9 = .ok (.iload_n 1, 1) := by decide +kernel
theorem dX7_has_10 : decode cX7_has 10 = .ok (.bipush 24, 2) := by decide +kernel
theorem dX7_has_12 : decode cX7_has 12 = .ok (.irem, 1) := by decide +kernel
theorem dX7_has_13 : decode cX7_has 13 = .ok (.ishr, 1) := by decide +kernel
theorem dX7_has_14 : decode cX7_has 14 = .ok (.iconst 1, 1) := by decide +kernel
theorem dX7_has_15 : decode cX7_has 15 = .ok (.iand, 1) := by decide +kernel
theorem dX7_has_16 : decode cX7_has 16 = .ok (.ifCond .eq 7, 3) := by decide +kernel
theorem dX7_has_19 : decode cX7_has 19 = .ok (.iconst 1, 1) := by decide +kernel
theorem dX7_has_20 : decode cX7_has 20 = .ok (.goto 4, 3) := by decide +kernel
theorem dX7_has_23 : decode cX7_has 23 = .ok (.iconst 0, 1) := by decide +kernel
theorem dX7_has_24 : decode cX7_has 24 = .ok (.ireturn, 1) := by decide +kernel
theorem wX7_has : Mw yX7_has cX7_has 2 (some .boolean) 1 := ⟨q_905, q_126, by decide, ⟨by decide +kernel, by decide +kernel⟩, by decide +kernel, by decide +kernel⟩
/-- EyeTrainer$Shapes.has(I)Z -/
def fX7_has (T : Sh) (M : Me) (x0 : Nat) (x1 : Int32) : Option (Int32) :=
  gd (kd T x0 = 6) <| Option.bind (gR M x0 0) fun a2 => gd (kd T a2 = 13) <| gv (x1 / (24 : Int32)) (ln T a2) <| if (((gI M a2 (Int32.toNatClampNeg (x1 / (24 : Int32)))) >>> ((x1 - x1 / (24 : Int32) * (24 : Int32)) &&& 31)) &&& (1 : Int32)) = 0 then (some (0 : Int32)) else (some (1 : Int32))
set_option maxHeartbeats 4000000 in
theorem kX7_has {l : Launch} {B : Bx} {d : Nat} (hd : 0 ≤ d) {T : Sh} {M : Me} {x0 : Nat} {x1 : Int32} {r : Int32} (h : fX7_has T M x0 x1 = some r) : Kt l B yX7_has cX7_has 2 (some .boolean) d [.ref (x0), .int (x1)] T M (some (.int r)) T M := by
  refine kt_of wX7_has (Nat.le_refl _) (Nat.le_refl _) (Nat.le_of_ble_eq_true rfl) (fun X C hR hlx hin => ?_)
  subst hlx
  replace C : Cx X B cX7_has 2 RX7 d (tp T, sl T, tp T, sl T) := C
  unfold fX7_has at h
  show G X B 2 _ _ 0 [(0, .ref (x0)), (1, .int (x1))] [] T M
  refine g_aload_n (pc := 0) C dX7_has_0 rfl 0 rfl ?_
  replace h := gd_some h; obtain ⟨hk1, h⟩ := h
  refine g_get (pc := 1) (v := va_rf (gR M x0 0)) C dX7_has_1 kX7 hk1 0 (by decide) q_314 rfl ?_
  replace h := bnd h; obtain ⟨a2, ea2, h⟩ := h
  refine g_refq ea2 ?_
  refine g_iload_n (pc := 4) C dX7_has_4 rfl 1 rfl ?_
  refine g_bipush (pc := 5) (v := 24) C dX7_has_5 (by decide) ?_
  refine g_idiv (pc := 7) C dX7_has_7 (by decide) ?_
  replace h := gd_some h; obtain ⟨hk3, h⟩ := h
  replace h := gv_some h; obtain ⟨hi4, h⟩ := h
  refine g_iald (pc := 8) C dX7_has_8 hk3 hi4 ?_
  refine g_iload_n (pc := 9) C dX7_has_9 rfl 1 rfl ?_
  refine g_bipush (pc := 10) (v := 24) C dX7_has_10 (by decide) ?_
  refine g_irem (pc := 12) C dX7_has_12 (by decide) ?_
  refine g_ishr (pc := 13) C dX7_has_13 ?_
  refine g_iconst (pc := 14) (v := 1) C dX7_has_14 (by decide) ?_
  refine g_iand (pc := 15) C dX7_has_15 ?_
  refine g_if_eq (pc := 16) (tgt := 23) C dX7_has_16 (by decide) (fun c5 => ?_) (fun c5 => ?_)
  · replace h := ifp c5 h
    refine g_iconst (pc := 23) (v := 0) C dX7_has_23 (by decide) ?_
    obtain rfl := Option.some.inj h
    exact g_zret C hR dX7_has_24 rfl
  · replace h := ifn c5 h
    refine g_iconst (pc := 19) (v := 1) C dX7_has_19 (by decide) ?_
    refine g_goto (pc := 20) (tgt := 24) C dX7_has_20 (by decide) ?_
    obtain rfl := Option.some.inj h
    exact g_zret C hR dX7_has_24 rfl
theorem dX7_beside_0 : decode cX7_beside 0 = .ok (.iload_n 1, 1) := by decide +kernel
theorem dX7_beside_1 : decode cX7_beside 1 = .ok (.tableswitch 74 0 2 #[27, 42, 59], 27) := by decide +kernel
theorem dX7_beside_28 : decode cX7_beside 28 = .ok (.iload_n 0, 1) := by decide +kernel
theorem dX7_beside_29 : decode cX7_beside 29 = .ok (.bipush 24, 2) := by decide +kernel
theorem dX7_beside_31 : decode cX7_beside 31 = .ok (.irem, 1) := by decide +kernel
theorem dX7_beside_32 : decode cX7_beside 32 = .ok (.ifCond .ne 7, 3) := by decide +kernel
theorem dX7_beside_35 : decode cX7_beside 35 = .ok (.iconst (-1), 1) := by decide +kernel
theorem dX7_beside_36 : decode cX7_beside 36 = .ok (.goto 6, 3) := by decide +kernel
theorem dX7_beside_39 : decode cX7_beside 39 = .ok (.iload_n 0, 1) := by decide +kernel
theorem dX7_beside_40 : decode cX7_beside 40 = .ok (.iconst 1, 1) := by decide +kernel
theorem dX7_beside_41 : decode cX7_beside 41 = .ok (.isub, 1) := by decide +kernel
theorem dX7_beside_42 : decode cX7_beside 42 = .ok (.ireturn, 1) := by decide +kernel
theorem dX7_beside_43 : decode cX7_beside 43 = .ok (.iload_n 0, 1) := by decide +kernel
theorem dX7_beside_44 : decode cX7_beside 44 = .ok (.bipush 24, 2) := by decide +kernel
theorem dX7_beside_46 : decode cX7_beside 46 = .ok (.irem, 1) := by decide +kernel
theorem dX7_beside_47 : decode cX7_beside 47 = .ok (.bipush 23, 2) := by decide +kernel
theorem dX7_beside_49 : decode cX7_beside 49 = .ok (.if_icmp .ne 7, 3) := by decide +kernel
theorem dX7_beside_52 : decode cX7_beside 52 = .ok (.iconst (-1), 1) := by decide +kernel
theorem dX7_beside_53 : decode cX7_beside 53 = .ok (.goto 6, 3) := by decide +kernel
theorem dX7_beside_56 : decode cX7_beside 56 = .ok (.iload_n 0, 1) := by decide +kernel
theorem dX7_beside_57 : decode cX7_beside 57 = .ok (.iconst 1, 1) := by decide +kernel
theorem dX7_beside_58 : decode cX7_beside 58 = .ok (.iadd, 1) := by decide +kernel
theorem dX7_beside_59 : decode cX7_beside 59 = .ok (.ireturn, 1) := by decide +kernel
theorem dX7_beside_60 : decode cX7_beside 60 = .ok (.iload_n 0, 1) := by decide +kernel
theorem dX7_beside_61 : decode cX7_beside 61 = .ok (.bipush 24, 2) := by decide +kernel
theorem dX7_beside_63 : decode cX7_beside 63 = .ok (.if_icmp .ge 7, 3) := by decide +kernel
theorem dX7_beside_66 : decode cX7_beside 66 = .ok (.iconst (-1), 1) := by decide +kernel
theorem dX7_beside_67 : decode cX7_beside 67 = .ok (.goto 7, 3) := by decide +kernel
theorem dX7_beside_70 : decode cX7_beside 70 = .ok (.iload_n 0, 1) := by decide +kernel
theorem dX7_beside_71 : decode cX7_beside 71 = .ok (.bipush 24, 2) := by decide +kernel
theorem dX7_beside_73 : decode cX7_beside 73 = .ok (.isub, 1) := by decide +kernel
theorem dX7_beside_74 : decode cX7_beside 74 = .ok (.ireturn, 1) := by decide +kernel
theorem dX7_beside_75 : decode cX7_beside 75 = .ok (.iload_n 0, 1) := by decide +kernel
theorem dX7_beside_76 : decode cX7_beside 76 = .ok (.sipush 360, 3) := by decide +kernel
theorem dX7_beside_79 : decode cX7_beside 79 = .ok (.if_icmp .lt 7, 3) := by decide +kernel
theorem dX7_beside_82 : decode cX7_beside 82 = .ok (.iconst (-1), 1) := by decide +kernel
theorem dX7_beside_83 : decode cX7_beside 83 = .ok (.goto 7, 3) := by decide +kernel
theorem dX7_beside_86 : decode cX7_beside 86 = .ok (.iload_n 0, 1) := by decide +kernel
theorem dX7_beside_87 : decode cX7_beside 87 = .ok (.bipush 24, 2) := by decide +kernel
theorem dX7_beside_89 : decode cX7_beside 89 = .ok (.iadd, 1) := by decide +kernel
theorem dX7_beside_90 : decode cX7_beside 90 = .ok (.ireturn, 1) := by decide +kernel
theorem wX7_beside : Mw yX7_beside cX7_beside 2 (some .int) 2 := ⟨q_1025, q_126, by decide, ⟨by decide +kernel, by decide +kernel⟩, by decide +kernel, by decide +kernel⟩
/-- EyeTrainer$Shapes.beside(II)I -/
def fX7_beside (x0 : Int32) (x1 : Int32) : Option (Int32) :=
  if x1 = (0 : Int32) then (if (x0 - x0 / (24 : Int32) * (24 : Int32)) = 0 then (some (-1 : Int32)) else (some (x0 - (1 : Int32)))) else (if x1 = (1 : Int32) then (if (x0 - x0 / (24 : Int32) * (24 : Int32)) = (23 : Int32) then (some (-1 : Int32)) else (some (x0 + (1 : Int32)))) else (if x1 = (2 : Int32) then (if (24 : Int32) ≤ x0 then (some (x0 - (24 : Int32))) else (some (-1 : Int32))) else (if x0 < (360 : Int32) then (some (x0 + (24 : Int32))) else (some (-1 : Int32)))))
set_option maxHeartbeats 4000000 in
theorem kX7_beside {l : Launch} {B : Bx} {d : Nat} (hd : 0 ≤ d) {T : Sh} {M : Me} {x0 : Int32} {x1 : Int32} {r : Int32} (h : fX7_beside  x0 x1 = some r) : Kt l B yX7_beside cX7_beside 2 (some .int) d [.int (x0), .int (x1)] T M (some (.int r)) T M := by
  refine kt_of wX7_beside (Nat.le_refl _) (Nat.le_refl _) (Nat.le_of_ble_eq_true rfl) (fun X C hR hlx hin => ?_)
  subst hlx
  replace C : Cx X B cX7_beside 2 RX7 d (tp T, sl T, tp T, sl T) := C
  unfold fX7_beside at h
  show G X B 2 _ _ 0 [(0, .int (x0)), (1, .int (x1))] [] T M
  refine g_iload_n (pc := 0) C dX7_beside_0 rfl 1 rfl ?_
  by_cases cw5_0 : x1 = (0 : Int32)
  · replace h := ifp cw5_0 h
    have hq : x1.toInt = 0 := by rw [cw5_0]; rfl
    refine g_tswIn (off := 27) (tgt := 28) C dX7_beside_1 (by rw [hq]; decide) (by rw [hq]; decide) (by rw [hq]; rfl) (by decide) ?_
    refine g_iload_n (pc := 28) C dX7_beside_28 rfl 0 rfl ?_
    refine g_bipush (pc := 29) (v := 24) C dX7_beside_29 (by decide) ?_
    refine g_irem (pc := 31) C dX7_beside_31 (by decide) ?_
    refine g_if_ne (pc := 32) (tgt := 39) C dX7_beside_32 (by decide) (fun c1 => ?_) (fun c1 => ?_)
    · replace h := ifn c1 h
      refine g_iload_n (pc := 39) C dX7_beside_39 rfl 0 rfl ?_
      refine g_iconst (pc := 40) (v := 1) C dX7_beside_40 (by decide) ?_
      refine g_isub (pc := 41) C dX7_beside_41 ?_
      obtain rfl := Option.some.inj h
      exact g_iret C hR dX7_beside_42
    · replace h := ifp c1 h
      refine g_iconst (pc := 35) (v := (-1)) C dX7_beside_35 (by decide) ?_
      refine g_goto (pc := 36) (tgt := 42) C dX7_beside_36 (by decide) ?_
      obtain rfl := Option.some.inj h
      exact g_iret C hR dX7_beside_42
  · replace h := ifn cw5_0 h
    by_cases cw5_1 : x1 = (1 : Int32)
    · replace h := ifp cw5_1 h
      have hq : x1.toInt = 1 := by rw [cw5_1]; rfl
      refine g_tswIn (off := 42) (tgt := 43) C dX7_beside_1 (by rw [hq]; decide) (by rw [hq]; decide) (by rw [hq]; rfl) (by decide) ?_
      refine g_iload_n (pc := 43) C dX7_beside_43 rfl 0 rfl ?_
      refine g_bipush (pc := 44) (v := 24) C dX7_beside_44 (by decide) ?_
      refine g_irem (pc := 46) C dX7_beside_46 (by decide) ?_
      refine g_bipush (pc := 47) (v := 23) C dX7_beside_47 (by decide) ?_
      refine g_icmp_ne (pc := 49) (tgt := 56) C dX7_beside_49 (by decide) (fun c2 => ?_) (fun c2 => ?_)
      · replace h := ifn c2 h
        refine g_iload_n (pc := 56) C dX7_beside_56 rfl 0 rfl ?_
        refine g_iconst (pc := 57) (v := 1) C dX7_beside_57 (by decide) ?_
        refine g_iadd (pc := 58) C dX7_beside_58 ?_
        obtain rfl := Option.some.inj h
        exact g_iret C hR dX7_beside_59
      · replace h := ifp c2 h
        refine g_iconst (pc := 52) (v := (-1)) C dX7_beside_52 (by decide) ?_
        refine g_goto (pc := 53) (tgt := 59) C dX7_beside_53 (by decide) ?_
        obtain rfl := Option.some.inj h
        exact g_iret C hR dX7_beside_59
    · replace h := ifn cw5_1 h
      by_cases cw5_2 : x1 = (2 : Int32)
      · replace h := ifp cw5_2 h
        have hq : x1.toInt = 2 := by rw [cw5_2]; rfl
        refine g_tswIn (off := 59) (tgt := 60) C dX7_beside_1 (by rw [hq]; decide) (by rw [hq]; decide) (by rw [hq]; rfl) (by decide) ?_
        refine g_iload_n (pc := 60) C dX7_beside_60 rfl 0 rfl ?_
        refine g_bipush (pc := 61) (v := 24) C dX7_beside_61 (by decide) ?_
        refine g_icmp_ge (pc := 63) (tgt := 70) C dX7_beside_63 (by decide) (fun c3 => ?_) (fun c3 => ?_)
        · replace h := ifp c3 h
          refine g_iload_n (pc := 70) C dX7_beside_70 rfl 0 rfl ?_
          refine g_bipush (pc := 71) (v := 24) C dX7_beside_71 (by decide) ?_
          refine g_isub (pc := 73) C dX7_beside_73 ?_
          obtain rfl := Option.some.inj h
          exact g_iret C hR dX7_beside_74
        · replace h := ifn c3 h
          refine g_iconst (pc := 66) (v := (-1)) C dX7_beside_66 (by decide) ?_
          refine g_goto (pc := 67) (tgt := 74) C dX7_beside_67 (by decide) ?_
          obtain rfl := Option.some.inj h
          exact g_iret C hR dX7_beside_74
      · replace h := ifn cw5_2 h
        refine g_tswOut (tgt := 75) C dX7_beside_1 (by
            have := sw_ne cw5_0 (i := 0) rfl
            have := sw_ne cw5_1 (i := 1) rfl
            have := sw_ne cw5_2 (i := 2) rfl
            omega) (by decide) ?_
        refine g_iload_n (pc := 75) C dX7_beside_75 rfl 0 rfl ?_
        refine g_sipush (pc := 76) (v := 360) C dX7_beside_76 (by decide) ?_
        refine g_icmp_lt (pc := 79) (tgt := 86) C dX7_beside_79 (by decide) (fun c4 => ?_) (fun c4 => ?_)
        · replace h := ifp c4 h
          refine g_iload_n (pc := 86) C dX7_beside_86 rfl 0 rfl ?_
          refine g_bipush (pc := 87) (v := 24) C dX7_beside_87 (by decide) ?_
          refine g_iadd (pc := 89) C dX7_beside_89 ?_
          obtain rfl := Option.some.inj h
          exact g_iret C hR dX7_beside_90
        · replace h := ifn c4 h
          refine g_iconst (pc := 82) (v := (-1)) C dX7_beside_82 (by decide) ?_
          refine g_goto (pc := 83) (tgt := 90) C dX7_beside_83 (by decide) ?_
          obtain rfl := Option.some.inj h
          exact g_iret C hR dX7_beside_90
theorem dX7_findRectangle_0 : decode cX7_findRectangle 0 = .ok (.aload_n 0, 1) := by decide +kernel
theorem dX7_findRectangle_1 : decode cX7_findRectangle 1 = .ok (.iconst 0, 1) := by decide +kernel
theorem dX7_findRectangle_2 : decode cX7_findRectangle 2 = .ok (.putfield 34, 3) := by decide +kernel
theorem dX7_findRectangle_5 : decode cX7_findRectangle 5 = .ok (.iconst 0, 1) := by decide +kernel
theorem dX7_findRectangle_6 : decode cX7_findRectangle 6 = .ok (.istore_n 1, 1) := by decide +kernel
theorem dX7_findRectangle_7 : decode cX7_findRectangle 7 = .ok (.iload_n 1, 1) := by decide +kernel
theorem dX7_findRectangle_8 : decode cX7_findRectangle 8 = .ok (.bipush 16, 2) := by decide +kernel
theorem dX7_findRectangle_10 : decode cX7_findRectangle 10 = .ok (.if_icmp .ge 105, 3) := by decide +kernel
theorem dX7_findRectangle_13 : decode cX7_findRectangle 13 = .ok (.ldc 38, 2) := by decide +kernel
theorem dX7_findRectangle_15 : decode cX7_findRectangle 15 = .ok (.istore_n 2, 1) := by decide +kernel
theorem dX7_findRectangle_16 : decode cX7_findRectangle 16 = .ok (.iload_n 1, 1) := by decide +kernel
theorem dX7_findRectangle_17 : decode cX7_findRectangle 17 = .ok (.istore_n 3, 1) := by decide +kernel
theorem dX7_findRectangle_18 : decode cX7_findRectangle 18 = .ok (.iload_n 3, 1) := by decide +kernel
theorem dX7_findRectangle_19 : decode cX7_findRectangle 19 = .ok (.bipush 16, 2) := by decide +kernel
theorem dX7_findRectangle_21 : decode cX7_findRectangle 21 = .ok (.if_icmp .ge 88, 3) := by decide +kernel
theorem dX7_findRectangle_24 : decode cX7_findRectangle 24 = .ok (.iload_n 2, 1) := by decide +kernel
theorem dX7_findRectangle_25 : decode cX7_findRectangle 25 = .ok (.ifCond .eq 84, 3) := by decide +kernel
theorem dX7_findRectangle_28 : decode cX7_findRectangle 28 = .ok (.iload_n 2, 1) := by decide +kernel
theorem dX7_findRectangle_29 : decode cX7_findRectangle 29 = .ok (.aload_n 0, 1) := by decide +kernel
theorem dX7_findRectangle_30 : decode cX7_findRectangle 30 = .ok (.getfield 11, 3) := by decide +kernel
theorem dX7_findRectangle_33 : decode cX7_findRectangle 33 = .ok (.iload_n 3, 1) := by decide +kernel
theorem dX7_findRectangle_34 : decode cX7_findRectangle 34 = .ok (.iaload, 1) := by decide +kernel
theorem dX7_findRectangle_35 : decode cX7_findRectangle 35 = .ok (.iand, 1) := by decide +kernel
theorem dX7_findRectangle_36 : decode cX7_findRectangle 36 = .ok (.istore_n 2, 1) := by decide +kernel
theorem dX7_findRectangle_37 : decode cX7_findRectangle 37 = .ok (.iload_n 2, 1) := by decide +kernel
theorem dX7_findRectangle_38 : decode cX7_findRectangle 38 = .ok (.invokestatic 39, 3) := by decide +kernel
theorem dX7_findRectangle_41 : decode cX7_findRectangle 41 = .ok (.istore 4, 2) := by decide +kernel
theorem dX7_findRectangle_43 : decode cX7_findRectangle 43 = .ok (.iload 4, 2) := by decide +kernel
theorem dX7_findRectangle_45 : decode cX7_findRectangle 45 = .ok (.iload_n 3, 1) := by decide +kernel
theorem dX7_findRectangle_46 : decode cX7_findRectangle 46 = .ok (.iload_n 1, 1) := by decide +kernel
theorem dX7_findRectangle_47 : decode cX7_findRectangle 47 = .ok (.isub, 1) := by decide +kernel
theorem dX7_findRectangle_48 : decode cX7_findRectangle 48 = .ok (.iconst 1, 1) := by decide +kernel
theorem dX7_findRectangle_49 : decode cX7_findRectangle 49 = .ok (.iadd, 1) := by decide +kernel
theorem dX7_findRectangle_50 : decode cX7_findRectangle 50 = .ok (.imul, 1) := by decide +kernel
theorem dX7_findRectangle_51 : decode cX7_findRectangle 51 = .ok (.aload_n 0, 1) := by decide +kernel
theorem dX7_findRectangle_52 : decode cX7_findRectangle 52 = .ok (.getfield 34, 3) := by decide +kernel
theorem dX7_findRectangle_55 : decode cX7_findRectangle 55 = .ok (.if_icmp .le 48, 3) := by decide +kernel
theorem dX7_findRectangle_58 : decode cX7_findRectangle 58 = .ok (.aload_n 0, 1) := by decide +kernel
theorem dX7_findRectangle_59 : decode cX7_findRectangle 59 = .ok (.iload 4, 2) := by decide +kernel
theorem dX7_findRectangle_61 : decode cX7_findRectangle 61 = .ok (.iload_n 3, 1) := by decide +kernel
theorem dX7_findRectangle_62 : decode cX7_findRectangle 62 = .ok (.iload_n 1, 1) := by decide +kernel
theorem dX7_findRectangle_63 : decode cX7_findRectangle 63 = .ok (.isub, 1) := by decide +kernel
theorem dX7_findRectangle_64 : decode cX7_findRectangle 64 = .ok (.iconst 1, 1) := by decide +kernel
theorem dX7_findRectangle_65 : decode cX7_findRectangle 65 = .ok (.iadd, 1) := by decide +kernel
theorem dX7_findRectangle_66 : decode cX7_findRectangle 66 = .ok (.imul, 1) := by decide +kernel
theorem dX7_findRectangle_67 : decode cX7_findRectangle 67 = .ok (.putfield 34, 3) := by decide +kernel
theorem dX7_findRectangle_70 : decode cX7_findRectangle 70 = .ok (.aload_n 0, 1) := by decide +kernel
theorem dX7_findRectangle_71 : decode cX7_findRectangle 71 = .ok (.iload_n 2, 1) := by decide +kernel
theorem dX7_findRectangle_72 : decode cX7_findRectangle 72 = .ok (.iload 4, 2) := by decide +kernel
theorem dX7_findRectangle_74 : decode cX7_findRectangle 74 = .ok (.invokestatic 44, 3) := by decide +kernel
theorem dX7_findRectangle_77 : decode cX7_findRectangle 77 = .ok (.putfield 48, 3) := by decide +kernel
theorem dX7_findRectangle_80 : decode cX7_findRectangle 80 = .ok (.aload_n 0, 1) := by decide +kernel
theorem dX7_findRectangle_81 : decode cX7_findRectangle 81 = .ok (.aload_n 0, 1) := by decide +kernel
theorem dX7_findRectangle_82 : decode cX7_findRectangle 82 = .ok (.getfield 48, 3) := by decide +kernel
theorem dX7_findRectangle_85 : decode cX7_findRectangle 85 = .ok (.iload 4, 2) := by decide +kernel
theorem dX7_findRectangle_87 : decode cX7_findRectangle 87 = .ok (.iadd, 1) := by decide +kernel
theorem dX7_findRectangle_88 : decode cX7_findRectangle 88 = .ok (.iconst 1, 1) := by decide +kernel
theorem dX7_findRectangle_89 : decode cX7_findRectangle 89 = .ok (.isub, 1) := by decide +kernel
theorem dX7_findRectangle_90 : decode cX7_findRectangle 90 = .ok (.putfield 51, 3) := by decide +kernel
theorem dX7_findRectangle_93 : decode cX7_findRectangle 93 = .ok (.aload_n 0, 1) := by decide +kernel
theorem dX7_findRectangle_94 : decode cX7_findRectangle 94 = .ok (.iload_n 1, 1) := by decide +kernel
theorem dX7_findRectangle_95 : decode cX7_findRectangle 95 = .ok (.putfield 54, 3) := by decide +kernel
theorem dX7_findRectangle_98 : decode cX7_findRectangle 98 = .ok (.aload_n 0, 1) := by decide +kernel
theorem dX7_findRectangle_99 : decode cX7_findRectangle 99 = .ok (.iload_n 3, 1) := by decide +kernel
theorem dX7_findRectangle_100 : decode cX7_findRectangle 100 = .ok (.putfield 57, 3) := by decide +kernel
theorem dX7_findRectangle_103 : decode cX7_findRectangle 103 = .ok (.iinc 3 1, 3) := by decide +kernel
theorem dX7_findRectangle_106 : decode cX7_findRectangle 106 = .ok (.goto (-88), 3) := by decide +kernel
theorem dX7_findRectangle_109 : decode cX7_findRectangle 109 = .ok (.iinc 1 1, 3) := by decide +kernel
theorem dX7_findRectangle_112 : decode cX7_findRectangle 112 = .ok (.goto (-105), 3) := by decide +kernel
theorem dX7_findRectangle_115 : decode cX7_findRectangle 115 = .ok (.return_, 1) := by decide +kernel
theorem wX7_findRectangle : Mw yX7_findRectangle cX7_findRectangle 5 none 0 := ⟨q_882, q_126, by decide, ⟨by decide +kernel, by decide +kernel⟩, by decide +kernel, by decide +kernel⟩
-- a loop of EyeTrainer$Shapes.findRectangle at 7
-- a loop of EyeTrainer$Shapes.findRectangle at 18
def bX7_findRectangle_18 (T : Sh) (x0 : Nat) (x1 : Int32) (x2 : Int32) (x3 : Int32) (M : Me) : Option ((Int32 × Int32 × Me) ⊕ (Me)) :=
  if (16 : Int32) ≤ x3 then (some (.inr M)) else (if x2 = 0 then (some (.inr M)) else (gd (kd T x0 = 6) <| Option.bind (gR M x0 0) fun a7 => gd (kd T a7 = 13) <| gv x3 (ln T a7) <| lt (x2 &&& (gI M a7 (Int32.toNatClampNeg x3))) fun v10 => Option.bind (fX0_longest v10) fun r11 => if (r11 * ((x3 - x1) + (1 : Int32))) ≤ (gI M x0 5) then (lt (x3 + (1 : Int32)) fun v13 => some (.inl (v10, v13, M))) else (lt (pI M x0 5 (r11 * ((x3 - x1) + (1 : Int32)))) fun M14 => Option.bind (fX0_firstRun v10 r11) fun r15 => lt (pI M14 x0 6 r15) fun M16 => lt (pI M16 x0 7 (((gI M16 x0 6) + r11) - (1 : Int32))) fun M17 => lt (pI M17 x0 8 x1) fun M18 => lt (pI M18 x0 9 x3) fun M19 => lt (x3 + (1 : Int32)) fun v20 => some (.inl (v10, v20, M19)))))
def PX7_findRectangle_18 (X : Fx) (B : Bx) (Z : Nat × Nat × Nat × Nat) (Q : State → Prop) (T : Sh) (x0 : Nat) (x1 : Int32) (s : Int32 × Int32 × Me) : Prop := G X B 5 Z Q 18 [(0, .ref (x0)), (1, .int (x1)), (2, .int (s.1)), (3, .int (s.2.1))] [] T s.2.2
def EX7_findRectangle_18 (X : Fx) (B : Bx) (Z : Nat × Nat × Nat × Nat) (Q : State → Prop) (T : Sh) (x0 : Nat) (x1 : Int32) (r : Me) : Prop := G X B 5 Z Q 109 [(0, .ref (x0)), (1, .int (x1))] [] T r
set_option maxHeartbeats 4000000 in
theorem tbX7_findRectangle_18 {X : Fx} {B : Bx} {Z : Nat × Nat × Nat × Nat} {Q : State → Prop} {d : Nat} {T : Sh} (C : Cx X B cX7_findRectangle 5 RX7 d Z) (hd : 1 ≤ d) {x0 : Nat} {x1 : Int32} : ∀ (s : Int32 × Int32 × Me) (o : (Int32 × Int32 × Me) ⊕ (Me)), bX7_findRectangle_18 T x0 x1 s.1 s.2.1 s.2.2 = some o → lpE (PX7_findRectangle_18 X B Z Q T x0 x1) (EX7_findRectangle_18 X B Z Q T x0 x1) o → PX7_findRectangle_18 X B Z Q T x0 x1 s := by
  rintro ⟨x2, x3, M⟩ o h hE
  replace h : bX7_findRectangle_18 T x0 x1 x2 x3 M = some o := h
  unfold bX7_findRectangle_18 at h
  show G X B 5 Z Q 18 [(0, .ref (x0)), (1, .int (x1)), (2, .int (x2)), (3, .int (x3))] [] T M
  refine g_iload_n (pc := 18) C dX7_findRectangle_18 rfl 3 rfl ?_
  refine g_bipush (pc := 19) (v := 16) C dX7_findRectangle_19 (by decide) ?_
  refine g_icmp_ge (pc := 21) (tgt := 109) C dX7_findRectangle_21 (by decide) (fun c4 => ?_) (fun c4 => ?_)
  · replace h := ifp c4 h
    obtain rfl := Option.some.inj h
    exact g_sub [0, 1] rfl (show G X B 5 Z Q 109 [(0, .ref (x0)), (1, .int (x1))] [] T M from hE)
  · replace h := ifn c4 h
    refine g_iload_n (pc := 24) C dX7_findRectangle_24 rfl 2 rfl ?_
    refine g_if_eq (pc := 25) (tgt := 109) C dX7_findRectangle_25 (by decide) (fun c5 => ?_) (fun c5 => ?_)
    · replace h := ifp c5 h
      obtain rfl := Option.some.inj h
      exact g_sub [0, 1] rfl (show G X B 5 Z Q 109 [(0, .ref (x0)), (1, .int (x1))] [] T M from hE)
    · replace h := ifn c5 h
      refine g_iload_n (pc := 28) C dX7_findRectangle_28 rfl 2 rfl ?_
      refine g_aload_n (pc := 29) C dX7_findRectangle_29 rfl 0 rfl ?_
      replace h := gd_some h; obtain ⟨hk6, h⟩ := h
      refine g_get (pc := 30) (v := va_rf (gR M x0 0)) C dX7_findRectangle_30 kX7 hk6 0 (by decide) q_314 rfl ?_
      replace h := bnd h; obtain ⟨a7, ea7, h⟩ := h
      refine g_refq ea7 ?_
      refine g_iload_n (pc := 33) C dX7_findRectangle_33 rfl 3 rfl ?_
      replace h := gd_some h; obtain ⟨hk8, h⟩ := h
      replace h := gv_some h; obtain ⟨hi9, h⟩ := h
      refine g_iald (pc := 34) C dX7_findRectangle_34 hk8 hi9 ?_
      refine g_iand (pc := 35) C dX7_findRectangle_35 ?_
      refine g_topi (fun v10 ev10 => ?_)
      replace h := lt_at ev10 h
      refine g_istore_n (pc := 36) (lo2 := [(2, .int (v10)), (0, .ref (x0)), (1, .int (x1)), (3, .int (x3))]) C dX7_findRectangle_36 rfl (by decide) rfl ?_
      refine g_iload_n (pc := 37) C dX7_findRectangle_37 rfl 0 rfl ?_
      replace h := bnd h; obtain ⟨r11, h1, h⟩ := h
      refine g_callSi (pc := 38) (As := [.int (v10)]) (st := []) C dX7_findRectangle_38 wX0_longest q_885 q_884 (by omega) rfl (Nat.le_of_ble_eq_true rfl) (kX0_longest (d := 0) (Nat.le_refl _) h1) ?_
      refine g_istore (pc := 41) (lo2 := [(4, .int (r11)), (2, .int (v10)), (0, .ref (x0)), (1, .int (x1)), (3, .int (x3))]) C dX7_findRectangle_41 (by decide) rfl ?_
      refine g_iload (pc := 43) C dX7_findRectangle_43 0 rfl ?_
      refine g_iload_n (pc := 45) C dX7_findRectangle_45 rfl 4 rfl ?_
      refine g_iload_n (pc := 46) C dX7_findRectangle_46 rfl 3 rfl ?_
      refine g_isub (pc := 47) C dX7_findRectangle_47 ?_
      refine g_iconst (pc := 48) (v := 1) C dX7_findRectangle_48 (by decide) ?_
      refine g_iadd (pc := 49) C dX7_findRectangle_49 ?_
      refine g_imul (pc := 50) C dX7_findRectangle_50 ?_
      refine g_aload_n (pc := 51) C dX7_findRectangle_51 rfl 2 rfl ?_
      refine g_get (pc := 52) (v := .int (gI M x0 5)) C dX7_findRectangle_52 kX7 hk6 5 (by decide) q_321 rfl ?_
      refine g_icmp_le (pc := 55) (tgt := 103) C dX7_findRectangle_55 (by decide) (fun c12 => ?_) (fun c12 => ?_)
      · replace h := ifp c12 h
        obtain ⟨v13, ev13⟩ : ∃ y : Int32, y = x3 + (1 : Int32) := ⟨_, rfl⟩
        replace h := lt_at ev13 h
        refine g_iinc (pc := 103) (v := v13) (k := 4) (lo2 := [(3, .int (v13)), (4, .int (r11)), (2, .int (v10)), (0, .ref (x0)), (1, .int (x1))]) C dX7_findRectangle_103 rfl (by rw [ev13]; rfl) (by decide) rfl ?_
        refine g_goto (pc := 106) (tgt := 18) C dX7_findRectangle_106 (by decide) ?_
        obtain rfl := Option.some.inj h
        exact g_sub [3, 4, 2, 0] rfl (show G X B 5 Z Q 18 [(0, .ref (x0)), (1, .int (x1)), (2, .int (v10)), (3, .int (v13))] [] T M from hE)
      · replace h := ifn c12 h
        refine g_aload_n (pc := 58) C dX7_findRectangle_58 rfl 2 rfl ?_
        refine g_iload (pc := 59) C dX7_findRectangle_59 0 rfl ?_
        refine g_iload_n (pc := 61) C dX7_findRectangle_61 rfl 4 rfl ?_
        refine g_iload_n (pc := 62) C dX7_findRectangle_62 rfl 3 rfl ?_
        refine g_isub (pc := 63) C dX7_findRectangle_63 ?_
        refine g_iconst (pc := 64) (v := 1) C dX7_findRectangle_64 (by decide) ?_
        refine g_iadd (pc := 65) C dX7_findRectangle_65 ?_
        refine g_imul (pc := 66) C dX7_findRectangle_66 ?_
        refine g_putI (pc := 67) C dX7_findRectangle_67 kX7 hk6 5 (by decide) rfl rfl rfl q_321 ?_
        refine g_mem (fun M14 eM14 => ?_)
        replace h := lt_at eM14 h
        refine g_aload_n (pc := 70) C dX7_findRectangle_70 rfl 2 rfl ?_
        refine g_iload_n (pc := 71) C dX7_findRectangle_71 rfl 1 rfl ?_
        refine g_iload (pc := 72) C dX7_findRectangle_72 0 rfl ?_
        replace h := bnd h; obtain ⟨r15, h1, h⟩ := h
        refine g_callSi (pc := 74) (As := [.int (v10), .int (r11)]) (st := [.ref (x0)]) C dX7_findRectangle_74 wX0_firstRun q_888 q_887 (by omega) rfl (Nat.le_of_ble_eq_true rfl) (kX0_firstRun (d := 0) (Nat.le_refl _) h1) ?_
        refine g_putI (pc := 77) C dX7_findRectangle_77 kX7 hk6 6 (by decide) rfl rfl rfl q_323 ?_
        refine g_mem (fun M16 eM16 => ?_)
        replace h := lt_at eM16 h
        refine g_aload_n (pc := 80) C dX7_findRectangle_80 rfl 2 rfl ?_
        refine g_aload_n (pc := 81) C dX7_findRectangle_81 rfl 2 rfl ?_
        refine g_get (pc := 82) (v := .int (gI M16 x0 6)) C dX7_findRectangle_82 kX7 hk6 6 (by decide) q_323 rfl ?_
        refine g_iload (pc := 85) C dX7_findRectangle_85 0 rfl ?_
        refine g_iadd (pc := 87) C dX7_findRectangle_87 ?_
        refine g_iconst (pc := 88) (v := 1) C dX7_findRectangle_88 (by decide) ?_
        refine g_isub (pc := 89) C dX7_findRectangle_89 ?_
        refine g_putI (pc := 90) C dX7_findRectangle_90 kX7 hk6 7 (by decide) rfl rfl rfl q_325 ?_
        refine g_mem (fun M17 eM17 => ?_)
        replace h := lt_at eM17 h
        refine g_aload_n (pc := 93) C dX7_findRectangle_93 rfl 2 rfl ?_
        refine g_iload_n (pc := 94) C dX7_findRectangle_94 rfl 3 rfl ?_
        refine g_putI (pc := 95) C dX7_findRectangle_95 kX7 hk6 8 (by decide) rfl rfl rfl q_327 ?_
        refine g_mem (fun M18 eM18 => ?_)
        replace h := lt_at eM18 h
        refine g_aload_n (pc := 98) C dX7_findRectangle_98 rfl 2 rfl ?_
        refine g_iload_n (pc := 99) C dX7_findRectangle_99 rfl 4 rfl ?_
        refine g_putI (pc := 100) C dX7_findRectangle_100 kX7 hk6 9 (by decide) rfl rfl rfl q_329 ?_
        refine g_mem (fun M19 eM19 => ?_)
        replace h := lt_at eM19 h
        obtain ⟨v20, ev20⟩ : ∃ y : Int32, y = x3 + (1 : Int32) := ⟨_, rfl⟩
        replace h := lt_at ev20 h
        refine g_iinc (pc := 103) (v := v20) (k := 4) (lo2 := [(3, .int (v20)), (4, .int (r11)), (2, .int (v10)), (0, .ref (x0)), (1, .int (x1))]) C dX7_findRectangle_103 rfl (by rw [ev20]; rfl) (by decide) rfl ?_
        refine g_goto (pc := 106) (tgt := 18) C dX7_findRectangle_106 (by decide) ?_
        obtain rfl := Option.some.inj h
        exact g_sub [3, 4, 2, 0] rfl (show G X B 5 Z Q 18 [(0, .ref (x0)), (1, .int (x1)), (2, .int (v10)), (3, .int (v20))] [] T M19 from hE)
def bX7_findRectangle_7 (T : Sh) (x0 : Nat) (x1 : Int32) (M : Me) : Option ((Int32 × Me) ⊕ (Me)) :=
  if (16 : Int32) ≤ x1 then (some (.inr M)) else ((lp FU (fun s => bX7_findRectangle_18 T x0 x1 s.1 s.2.1 s.2.2) ((16777215 : Int32), x1, M)).bind (fun M21 => lt (x1 + (1 : Int32)) fun v22 => some (.inl (v22, M21))))
def PX7_findRectangle_7 (X : Fx) (B : Bx) (Z : Nat × Nat × Nat × Nat) (Q : State → Prop) (T : Sh) (x0 : Nat) (s : Int32 × Me) : Prop := G X B 5 Z Q 7 [(0, .ref (x0)), (1, .int (s.1))] [] T s.2
def EX7_findRectangle_7 (X : Fx) (B : Bx) (Z : Nat × Nat × Nat × Nat) (Q : State → Prop) (T : Sh) (x0 : Nat) (r : Me) : Prop := G X B 5 Z Q 115 [] [] T r
set_option maxHeartbeats 4000000 in
theorem tbX7_findRectangle_7 {X : Fx} {B : Bx} {Z : Nat × Nat × Nat × Nat} {Q : State → Prop} {d : Nat} {T : Sh} (C : Cx X B cX7_findRectangle 5 RX7 d Z) (hd : 1 ≤ d) {x0 : Nat} : ∀ (s : Int32 × Me) (o : (Int32 × Me) ⊕ (Me)), bX7_findRectangle_7 T x0 s.1 s.2 = some o → lpE (PX7_findRectangle_7 X B Z Q T x0) (EX7_findRectangle_7 X B Z Q T x0) o → PX7_findRectangle_7 X B Z Q T x0 s := by
  rintro ⟨x1, M⟩ o h hE
  replace h : bX7_findRectangle_7 T x0 x1 M = some o := h
  unfold bX7_findRectangle_7 at h
  show G X B 5 Z Q 7 [(0, .ref (x0)), (1, .int (x1))] [] T M
  refine g_iload_n (pc := 7) C dX7_findRectangle_7 rfl 1 rfl ?_
  refine g_bipush (pc := 8) (v := 16) C dX7_findRectangle_8 (by decide) ?_
  refine g_icmp_ge (pc := 10) (tgt := 115) C dX7_findRectangle_10 (by decide) (fun c3 => ?_) (fun c3 => ?_)
  · replace h := ifp c3 h
    obtain rfl := Option.some.inj h
    exact g_sub [] rfl (show G X B 5 Z Q 115 [] [] T M from hE)
  · replace h := ifn c3 h
    refine g_ldc (pc := 13) C dX7_findRectangle_13 q_883 ?_
    refine g_istore_n (pc := 15) (lo2 := [(2, .int ((16777215 : Int32))), (0, .ref (x0)), (1, .int (x1))]) C dX7_findRectangle_15 rfl (by decide) rfl ?_
    refine g_iload_n (pc := 16) C dX7_findRectangle_16 rfl 2 rfl ?_
    refine g_istore_n (pc := 17) (lo2 := [(3, .int (x1)), (2, .int ((16777215 : Int32))), (0, .ref (x0)), (1, .int (x1))]) C dX7_findRectangle_17 rfl (by decide) rfl ?_
    replace h := bnd h; obtain ⟨M21, h1, h⟩ := h
    refine g_sub [2, 3, 1, 0] rfl ?_
    refine lp_G2 (P := PX7_findRectangle_18 X B _ _ T x0 x1) (E := EX7_findRectangle_18 X B _ _ T x0 x1) (tbX7_findRectangle_18 C hd) h1 ?_
    show G X B 5 _ _ 109 [(0, .ref (x0)), (1, .int (x1))] [] T M21
    obtain ⟨v22, ev22⟩ : ∃ y : Int32, y = x1 + (1 : Int32) := ⟨_, rfl⟩
    replace h := lt_at ev22 h
    refine g_iinc (pc := 109) (v := v22) (k := 1) (lo2 := [(1, .int (v22)), (0, .ref (x0))]) C dX7_findRectangle_109 rfl (by rw [ev22]; rfl) (by decide) rfl ?_
    refine g_goto (pc := 112) (tgt := 7) C dX7_findRectangle_112 (by decide) ?_
    obtain rfl := Option.some.inj h
    exact g_sub [1, 0] rfl (show G X B 5 Z Q 7 [(0, .ref (x0)), (1, .int (v22))] [] T M21 from hE)
/-- EyeTrainer$Shapes.findRectangle()V -/
def fX7_findRectangle (T : Sh) (M : Me) (x0 : Nat) : Option (Unit × Me) :=
  gd (kd T x0 = 6) <| lt (pI M x0 5 (0 : Int32)) fun M2 => (lp FU (fun s => bX7_findRectangle_7 T x0 s.1 s.2) ((0 : Int32), M2)).bind (fun M23 => some ((), M23))
set_option maxHeartbeats 4000000 in
theorem kX7_findRectangle {l : Launch} {B : Bx} {d : Nat} (hd : 1 ≤ d) {T : Sh} {M : Me} {x0 : Nat} {M' : Me} (h : fX7_findRectangle T M x0 = some ((), M')) : Kt l B yX7_findRectangle cX7_findRectangle 5 none d [.ref (x0)] T M none T M' := by
  refine kt_of wX7_findRectangle (Nat.le_refl _) (Nat.le_refl _) (Nat.le_of_ble_eq_true rfl) (fun X C hR hlx hin => ?_)
  subst hlx
  replace C : Cx X B cX7_findRectangle 5 RX7 d (tp T, sl T, tp T, sl T) := C
  unfold fX7_findRectangle at h
  show G X B 5 _ _ 0 [(0, .ref (x0))] [] T M
  refine g_aload_n (pc := 0) C dX7_findRectangle_0 rfl 0 rfl ?_
  refine g_iconst (pc := 1) (v := 0) C dX7_findRectangle_1 (by decide) ?_
  replace h := gd_some h; obtain ⟨hk1, h⟩ := h
  refine g_putI (pc := 2) C dX7_findRectangle_2 kX7 hk1 5 (by decide) rfl rfl rfl q_321 ?_
  refine g_mem (fun M2 eM2 => ?_)
  replace h := lt_at eM2 h
  refine g_iconst (pc := 5) (v := 0) C dX7_findRectangle_5 (by decide) ?_
  refine g_istore_n (pc := 6) (lo2 := [(1, .int ((0 : Int32))), (0, .ref (x0))]) C dX7_findRectangle_6 rfl (by decide) rfl ?_
  replace h := bnd h; obtain ⟨M23, h1, h⟩ := h
  refine g_sub [1, 0] rfl ?_
  refine lp_G2 (P := PX7_findRectangle_7 X B _ _ T x0) (E := EX7_findRectangle_7 X B _ _ T x0) (tbX7_findRectangle_7 C hd) h1 ?_
  show G X B 5 _ _ 115 [] [] T M23
  obtain ⟨-, rfl⟩ := Prod.mk.inj (Option.some.inj h)
  exact g_vret C hR dX7_findRectangle_115
theorem dX7_middle_0 : decode cX7_middle 0 = .ok (.aload_n 0, 1) := by decide +kernel
theorem dX7_middle_1 : decode cX7_middle 1 = .ok (.getfield 54, 3) := by decide +kernel
theorem dX7_middle_4 : decode cX7_middle 4 = .ok (.aload_n 0, 1) := by decide +kernel
theorem dX7_middle_5 : decode cX7_middle 5 = .ok (.getfield 57, 3) := by decide +kernel
theorem dX7_middle_8 : decode cX7_middle 8 = .ok (.iadd, 1) := by decide +kernel
theorem dX7_middle_9 : decode cX7_middle 9 = .ok (.iconst 2, 1) := by decide +kernel
theorem dX7_middle_10 : decode cX7_middle 10 = .ok (.idiv, 1) := by decide +kernel
theorem dX7_middle_11 : decode cX7_middle 11 = .ok (.bipush 24, 2) := by decide +kernel
theorem dX7_middle_13 : decode cX7_middle 13 = .ok (.imul, 1) := by decide +kernel
theorem dX7_middle_14 : decode cX7_middle 14 = .ok (.aload_n 0, 1) := by decide +kernel
theorem dX7_middle_15 : decode cX7_middle 15 = .ok (.getfield 48, 3) := by decide +kernel
theorem dX7_middle_18 : decode cX7_middle 18 = .ok (.aload_n 0, 1) := by decide +kernel
theorem dX7_middle_19 : decode cX7_middle 19 = .ok (.getfield 51, 3) := by decide +kernel
theorem dX7_middle_22 : decode cX7_middle 22 = .ok (.iadd, 1) := by decide +kernel
theorem dX7_middle_23 : decode cX7_middle 23 = .ok (.iconst 2, 1) := by decide +kernel
theorem dX7_middle_24 : decode cX7_middle 24 = .ok (.idiv, 1) := by decide +kernel
theorem dX7_middle_25 : decode cX7_middle 25 = .ok (.iadd, 1) := by decide +kernel
theorem dX7_middle_26 : decode cX7_middle 26 = .ok (.ireturn, 1) := by decide +kernel
theorem wX7_middle : Mw yX7_middle cX7_middle 1 (some .int) 0 := ⟨q_893, q_126, by decide, ⟨by decide +kernel, by decide +kernel⟩, by decide +kernel, by decide +kernel⟩
/-- EyeTrainer$Shapes.middle()I -/
def fX7_middle (T : Sh) (M : Me) (x0 : Nat) : Option (Int32) :=
  gd (kd T x0 = 6) <| some (((((gI M x0 8) + (gI M x0 9)) / (2 : Int32)) * (24 : Int32)) + (((gI M x0 6) + (gI M x0 7)) / (2 : Int32)))
set_option maxHeartbeats 4000000 in
theorem kX7_middle {l : Launch} {B : Bx} {d : Nat} (hd : 0 ≤ d) {T : Sh} {M : Me} {x0 : Nat} {r : Int32} (h : fX7_middle T M x0 = some r) : Kt l B yX7_middle cX7_middle 1 (some .int) d [.ref (x0)] T M (some (.int r)) T M := by
  refine kt_of wX7_middle (Nat.le_refl _) (Nat.le_refl _) (Nat.le_of_ble_eq_true rfl) (fun X C hR hlx hin => ?_)
  subst hlx
  replace C : Cx X B cX7_middle 1 RX7 d (tp T, sl T, tp T, sl T) := C
  unfold fX7_middle at h
  show G X B 1 _ _ 0 [(0, .ref (x0))] [] T M
  refine g_aload_n (pc := 0) C dX7_middle_0 rfl 0 rfl ?_
  replace h := gd_some h; obtain ⟨hk1, h⟩ := h
  refine g_get (pc := 1) (v := .int (gI M x0 8)) C dX7_middle_1 kX7 hk1 8 (by decide) q_327 rfl ?_
  refine g_aload_n (pc := 4) C dX7_middle_4 rfl 0 rfl ?_
  refine g_get (pc := 5) (v := .int (gI M x0 9)) C dX7_middle_5 kX7 hk1 9 (by decide) q_329 rfl ?_
  refine g_iadd (pc := 8) C dX7_middle_8 ?_
  refine g_iconst (pc := 9) (v := 2) C dX7_middle_9 (by decide) ?_
  refine g_idiv (pc := 10) C dX7_middle_10 (by decide) ?_
  refine g_bipush (pc := 11) (v := 24) C dX7_middle_11 (by decide) ?_
  refine g_imul (pc := 13) C dX7_middle_13 ?_
  refine g_aload_n (pc := 14) C dX7_middle_14 rfl 0 rfl ?_
  refine g_get (pc := 15) (v := .int (gI M x0 6)) C dX7_middle_15 kX7 hk1 6 (by decide) q_323 rfl ?_
  refine g_aload_n (pc := 18) C dX7_middle_18 rfl 0 rfl ?_
  refine g_get (pc := 19) (v := .int (gI M x0 7)) C dX7_middle_19 kX7 hk1 7 (by decide) q_325 rfl ?_
  refine g_iadd (pc := 22) C dX7_middle_22 ?_
  refine g_iconst (pc := 23) (v := 2) C dX7_middle_23 (by decide) ?_
  refine g_idiv (pc := 24) C dX7_middle_24 (by decide) ?_
  refine g_iadd (pc := 25) C dX7_middle_25 ?_
  obtain rfl := Option.some.inj h
  exact g_iret C hR dX7_middle_26
theorem dX7_measureGaps_0 : decode cX7_measureGaps 0 = .ok (.iconst 0, 1) := by decide +kernel
theorem dX7_measureGaps_1 : decode cX7_measureGaps 1 = .ok (.istore_n 2, 1) := by decide +kernel
theorem dX7_measureGaps_2 : decode cX7_measureGaps 2 = .ok (.iconst 0, 1) := by decide +kernel
theorem dX7_measureGaps_3 : decode cX7_measureGaps 3 = .ok (.istore_n 3, 1) := by decide +kernel
theorem dX7_measureGaps_4 : decode cX7_measureGaps 4 = .ok (.iload_n 3, 1) := by decide +kernel
theorem dX7_measureGaps_5 : decode cX7_measureGaps 5 = .ok (.bipush 24, 2) := by decide +kernel
theorem dX7_measureGaps_7 : decode cX7_measureGaps 7 = .ok (.if_icmp .ge 42, 3) := by decide +kernel
theorem dX7_measureGaps_10 : decode cX7_measureGaps 10 = .ok (.iload_n 1, 1) := by decide +kernel
theorem dX7_measureGaps_11 : decode cX7_measureGaps 11 = .ok (.bipush 24, 2) := by decide +kernel
theorem dX7_measureGaps_13 : decode cX7_measureGaps 13 = .ok (.imul, 1) := by decide +kernel
theorem dX7_measureGaps_14 : decode cX7_measureGaps 14 = .ok (.iload_n 3, 1) := by decide +kernel
theorem dX7_measureGaps_15 : decode cX7_measureGaps 15 = .ok (.iadd, 1) := by decide +kernel
theorem dX7_measureGaps_16 : decode cX7_measureGaps 16 = .ok (.istore 4, 2) := by decide +kernel
theorem dX7_measureGaps_18 : decode cX7_measureGaps 18 = .ok (.aload_n 0, 1) := by decide +kernel
theorem dX7_measureGaps_19 : decode cX7_measureGaps 19 = .ok (.iload 4, 2) := by decide +kernel
theorem dX7_measureGaps_21 : decode cX7_measureGaps 21 = .ok (.invokevirtual 70, 3) := by decide +kernel
theorem dX7_measureGaps_24 : decode cX7_measureGaps 24 = .ok (.ifCond .eq 9, 3) := by decide +kernel
theorem dX7_measureGaps_27 : decode cX7_measureGaps 27 = .ok (.iload_n 2, 1) := by decide +kernel
theorem dX7_measureGaps_28 : decode cX7_measureGaps 28 = .ok (.iconst 1, 1) := by decide +kernel
theorem dX7_measureGaps_29 : decode cX7_measureGaps 29 = .ok (.iadd, 1) := by decide +kernel
theorem dX7_measureGaps_30 : decode cX7_measureGaps 30 = .ok (.goto 4, 3) := by decide +kernel
theorem dX7_measureGaps_33 : decode cX7_measureGaps 33 = .ok (.iconst 0, 1) := by decide +kernel
theorem dX7_measureGaps_34 : decode cX7_measureGaps 34 = .ok (.istore_n 2, 1) := by decide +kernel
theorem dX7_measureGaps_35 : decode cX7_measureGaps 35 = .ok (.aload_n 0, 1) := by decide +kernel
theorem dX7_measureGaps_36 : decode cX7_measureGaps 36 = .ok (.getfield 15, 3) := by decide +kernel
theorem dX7_measureGaps_39 : decode cX7_measureGaps 39 = .ok (.iload 4, 2) := by decide +kernel
theorem dX7_measureGaps_41 : decode cX7_measureGaps 41 = .ok (.iload_n 2, 1) := by decide +kernel
theorem dX7_measureGaps_42 : decode cX7_measureGaps 42 = .ok (.iastore, 1) := by decide +kernel
theorem dX7_measureGaps_43 : decode cX7_measureGaps 43 = .ok (.iinc 3 1, 3) := by decide +kernel
theorem dX7_measureGaps_46 : decode cX7_measureGaps 46 = .ok (.goto (-42), 3) := by decide +kernel
theorem dX7_measureGaps_49 : decode cX7_measureGaps 49 = .ok (.iconst 0, 1) := by decide +kernel
theorem dX7_measureGaps_50 : decode cX7_measureGaps 50 = .ok (.istore_n 2, 1) := by decide +kernel
theorem dX7_measureGaps_51 : decode cX7_measureGaps 51 = .ok (.bipush 23, 2) := by decide +kernel
theorem dX7_measureGaps_53 : decode cX7_measureGaps 53 = .ok (.istore_n 3, 1) := by decide +kernel
theorem dX7_measureGaps_54 : decode cX7_measureGaps 54 = .ok (.iload_n 3, 1) := by decide +kernel
theorem dX7_measureGaps_55 : decode cX7_measureGaps 55 = .ok (.ifCond .lt 52, 3) := by decide +kernel
theorem dX7_measureGaps_58 : decode cX7_measureGaps 58 = .ok (.iload_n 1, 1) := by decide +kernel
theorem dX7_measureGaps_59 : decode cX7_measureGaps 59 = .ok (.bipush 24, 2) := by decide +kernel
theorem dX7_measureGaps_61 : decode cX7_measureGaps 61 = .ok (.imul, 1) := by decide +kernel
theorem dX7_measureGaps_62 : decode cX7_measureGaps 62 = .ok (.iload_n 3, 1) := by decide +kernel
theorem dX7_measureGaps_63 : decode cX7_measureGaps 63 = .ok (.iadd, 1) := by decide +kernel
theorem dX7_measureGaps_64 : decode cX7_measureGaps 64 = .ok (.istore 4, 2) := by decide +kernel
theorem dX7_measureGaps_66 : decode cX7_measureGaps 66 = .ok (.aload_n 0, 1) := by decide +kernel
theorem dX7_measureGaps_67 : decode cX7_measureGaps 67 = .ok (.iload 4, 2) := by decide +kernel
theorem dX7_measureGaps_69 : decode cX7_measureGaps 69 = .ok (.invokevirtual 70, 3) := by decide +kernel
theorem dX7_measureGaps_72 : decode cX7_measureGaps 72 = .ok (.ifCond .eq 9, 3) := by decide +kernel
theorem dX7_measureGaps_75 : decode cX7_measureGaps 75 = .ok (.iload_n 2, 1) := by decide +kernel
theorem dX7_measureGaps_76 : decode cX7_measureGaps 76 = .ok (.iconst 1, 1) := by decide +kernel
theorem dX7_measureGaps_77 : decode cX7_measureGaps 77 = .ok (.iadd, 1) := by decide +kernel
theorem dX7_measureGaps_78 : decode cX7_measureGaps 78 = .ok (.goto 4, 3) := by decide +kernel
theorem dX7_measureGaps_81 : decode cX7_measureGaps 81 = .ok (.iconst 0, 1) := by decide +kernel
theorem dX7_measureGaps_82 : decode cX7_measureGaps 82 = .ok (.istore_n 2, 1) := by decide +kernel
theorem dX7_measureGaps_83 : decode cX7_measureGaps 83 = .ok (.aload_n 0, 1) := by decide +kernel
theorem dX7_measureGaps_84 : decode cX7_measureGaps 84 = .ok (.getfield 15, 3) := by decide +kernel
theorem dX7_measureGaps_87 : decode cX7_measureGaps 87 = .ok (.iload 4, 2) := by decide +kernel
theorem dX7_measureGaps_89 : decode cX7_measureGaps 89 = .ok (.aload_n 0, 1) := by decide +kernel
theorem dX7_measureGaps_90 : decode cX7_measureGaps 90 = .ok (.getfield 15, 3) := by decide +kernel
theorem dX7_measureGaps_93 : decode cX7_measureGaps 93 = .ok (.iload 4, 2) := by decide +kernel
theorem dX7_measureGaps_95 : decode cX7_measureGaps 95 = .ok (.iaload, 1) := by decide +kernel
theorem dX7_measureGaps_96 : decode cX7_measureGaps 96 = .ok (.iload_n 2, 1) := by decide +kernel
theorem dX7_measureGaps_97 : decode cX7_measureGaps 97 = .ok (.invokestatic 77, 3) := by decide +kernel
theorem dX7_measureGaps_100 : decode cX7_measureGaps 100 = .ok (.iastore, 1) := by decide +kernel
theorem dX7_measureGaps_101 : decode cX7_measureGaps 101 = .ok (.iinc 3 (-1), 3) := by decide +kernel
theorem dX7_measureGaps_104 : decode cX7_measureGaps 104 = .ok (.goto (-50), 3) := by decide +kernel
theorem dX7_measureGaps_107 : decode cX7_measureGaps 107 = .ok (.return_, 1) := by decide +kernel
theorem wX7_measureGaps : Mw yX7_measureGaps cX7_measureGaps 5 none 1 := ⟨q_901, q_126, by decide, ⟨by decide +kernel, by decide +kernel⟩, by decide +kernel, by decide +kernel⟩
-- a loop of EyeTrainer$Shapes.measureGaps at 4
def bX7_measureGaps_4 (T : Sh) (x0 : Nat) (x1 : Int32) (x2 : Int32) (x3 : Int32) (M : Me) : Option ((Int32 × Int32 × Me) ⊕ (Me)) :=
  if (24 : Int32) ≤ x3 then (some (.inr M)) else (lt ((x1 * (24 : Int32)) + x3) fun v2 => gd (kd T x0 = 6) <| Option.bind (fX7_has T M x0 v2) fun r4 => if r4 = 0 then (Option.bind (gR M x0 1) fun a6 => gd (kd T a6 = 13) <| gv v2 (ln T a6) <| lt (pI M a6 (Int32.toNatClampNeg v2) (0 : Int32)) fun M9 => lt (x3 + (1 : Int32)) fun v10 => some (.inl ((0 : Int32), v10, M9))) else (lt (x2 + (1 : Int32)) fun v11 => Option.bind (gR M x0 1) fun a12 => gd (kd T a12 = 13) <| gv v2 (ln T a12) <| lt (pI M a12 (Int32.toNatClampNeg v2) v11) fun M15 => lt (x3 + (1 : Int32)) fun v16 => some (.inl (v11, v16, M15))))
def PX7_measureGaps_4 (X : Fx) (B : Bx) (Z : Nat × Nat × Nat × Nat) (Q : State → Prop) (T : Sh) (x0 : Nat) (x1 : Int32) (s : Int32 × Int32 × Me) : Prop := G X B 5 Z Q 4 [(0, .ref (x0)), (1, .int (x1)), (2, .int (s.1)), (3, .int (s.2.1))] [] T s.2.2
def EX7_measureGaps_4 (X : Fx) (B : Bx) (Z : Nat × Nat × Nat × Nat) (Q : State → Prop) (T : Sh) (x0 : Nat) (x1 : Int32) (r : Me) : Prop := G X B 5 Z Q 49 [(0, .ref (x0)), (1, .int (x1))] [] T r
set_option maxHeartbeats 4000000 in
theorem tbX7_measureGaps_4 {X : Fx} {B : Bx} {Z : Nat × Nat × Nat × Nat} {Q : State → Prop} {d : Nat} {T : Sh} (C : Cx X B cX7_measureGaps 5 RX7 d Z) (hd : 1 ≤ d) {x0 : Nat} {x1 : Int32} : ∀ (s : Int32 × Int32 × Me) (o : (Int32 × Int32 × Me) ⊕ (Me)), bX7_measureGaps_4 T x0 x1 s.1 s.2.1 s.2.2 = some o → lpE (PX7_measureGaps_4 X B Z Q T x0 x1) (EX7_measureGaps_4 X B Z Q T x0 x1) o → PX7_measureGaps_4 X B Z Q T x0 x1 s := by
  rintro ⟨x2, x3, M⟩ o h hE
  replace h : bX7_measureGaps_4 T x0 x1 x2 x3 M = some o := h
  unfold bX7_measureGaps_4 at h
  show G X B 5 Z Q 4 [(0, .ref (x0)), (1, .int (x1)), (2, .int (x2)), (3, .int (x3))] [] T M
  refine g_iload_n (pc := 4) C dX7_measureGaps_4 rfl 3 rfl ?_
  refine g_bipush (pc := 5) (v := 24) C dX7_measureGaps_5 (by decide) ?_
  refine g_icmp_ge (pc := 7) (tgt := 49) C dX7_measureGaps_7 (by decide) (fun c1 => ?_) (fun c1 => ?_)
  · replace h := ifp c1 h
    obtain rfl := Option.some.inj h
    exact g_sub [0, 1] rfl (show G X B 5 Z Q 49 [(0, .ref (x0)), (1, .int (x1))] [] T M from hE)
  · replace h := ifn c1 h
    refine g_iload_n (pc := 10) C dX7_measureGaps_10 rfl 1 rfl ?_
    refine g_bipush (pc := 11) (v := 24) C dX7_measureGaps_11 (by decide) ?_
    refine g_imul (pc := 13) C dX7_measureGaps_13 ?_
    refine g_iload_n (pc := 14) C dX7_measureGaps_14 rfl 3 rfl ?_
    refine g_iadd (pc := 15) C dX7_measureGaps_15 ?_
    refine g_topi (fun v2 ev2 => ?_)
    replace h := lt_at ev2 h
    refine g_istore (pc := 16) (lo2 := [(4, .int (v2)), (0, .ref (x0)), (1, .int (x1)), (2, .int (x2)), (3, .int (x3))]) C dX7_measureGaps_16 (by decide) rfl ?_
    refine g_aload_n (pc := 18) C dX7_measureGaps_18 rfl 1 rfl ?_
    refine g_iload (pc := 19) C dX7_measureGaps_19 0 rfl ?_
    replace h := gd_some h; obtain ⟨hk3, h⟩ := h
    replace h := bnd h; obtain ⟨r4, h1, h⟩ := h
    refine g_callVi (pc := 21) (As := [.int (v2)]) (st := []) C dX7_measureGaps_21 wX7_has hk3 rfl (by decide) q_904 q_30 q_902 (by omega) rfl (Nat.le_of_ble_eq_true rfl) (kX7_has (d := 0) (Nat.le_refl _) h1) ?_
    refine g_if_eq (pc := 24) (tgt := 33) C dX7_measureGaps_24 (by decide) (fun c5 => ?_) (fun c5 => ?_)
    · replace h := ifp c5 h
      refine g_iconst (pc := 33) (v := 0) C dX7_measureGaps_33 (by decide) ?_
      refine g_istore_n (pc := 34) (lo2 := [(2, .int ((0 : Int32))), (4, .int (v2)), (0, .ref (x0)), (1, .int (x1)), (3, .int (x3))]) C dX7_measureGaps_34 rfl (by decide) rfl ?_
      refine g_aload_n (pc := 35) C dX7_measureGaps_35 rfl 2 rfl ?_
      refine g_get (pc := 36) (v := va_rf (gR M x0 1)) C dX7_measureGaps_36 kX7 hk3 1 (by decide) q_316 rfl ?_
      replace h := bnd h; obtain ⟨a6, ea6, h⟩ := h
      refine g_refq ea6 ?_
      refine g_iload (pc := 39) C dX7_measureGaps_39 1 rfl ?_
      refine g_iload_n (pc := 41) C dX7_measureGaps_41 rfl 0 rfl ?_
      replace h := gd_some h; obtain ⟨hk7, h⟩ := h
      replace h := gv_some h; obtain ⟨hi8, h⟩ := h
      refine g_iast (pc := 42) C dX7_measureGaps_42 hk7 hi8 ?_
      refine g_mem (fun M9 eM9 => ?_)
      replace h := lt_at eM9 h
      obtain ⟨v10, ev10⟩ : ∃ y : Int32, y = x3 + (1 : Int32) := ⟨_, rfl⟩
      replace h := lt_at ev10 h
      refine g_iinc (pc := 43) (v := v10) (k := 4) (lo2 := [(3, .int (v10)), (2, .int ((0 : Int32))), (4, .int (v2)), (0, .ref (x0)), (1, .int (x1))]) C dX7_measureGaps_43 rfl (by rw [ev10]; rfl) (by decide) rfl ?_
      refine g_goto (pc := 46) (tgt := 4) C dX7_measureGaps_46 (by decide) ?_
      obtain rfl := Option.some.inj h
      exact g_sub [3, 4, 1, 0] rfl (show G X B 5 Z Q 4 [(0, .ref (x0)), (1, .int (x1)), (2, .int ((0 : Int32))), (3, .int (v10))] [] T M9 from hE)
    · replace h := ifn c5 h
      refine g_iload_n (pc := 27) C dX7_measureGaps_27 rfl 3 rfl ?_
      refine g_iconst (pc := 28) (v := 1) C dX7_measureGaps_28 (by decide) ?_
      refine g_iadd (pc := 29) C dX7_measureGaps_29 ?_
      refine g_goto (pc := 30) (tgt := 34) C dX7_measureGaps_30 (by decide) ?_
      refine g_topi (fun v11 ev11 => ?_)
      replace h := lt_at ev11 h
      refine g_istore_n (pc := 34) (lo2 := [(2, .int (v11)), (4, .int (v2)), (0, .ref (x0)), (1, .int (x1)), (3, .int (x3))]) C dX7_measureGaps_34 rfl (by decide) rfl ?_
      refine g_aload_n (pc := 35) C dX7_measureGaps_35 rfl 2 rfl ?_
      refine g_get (pc := 36) (v := va_rf (gR M x0 1)) C dX7_measureGaps_36 kX7 hk3 1 (by decide) q_316 rfl ?_
      replace h := bnd h; obtain ⟨a12, ea12, h⟩ := h
      refine g_refq ea12 ?_
      refine g_iload (pc := 39) C dX7_measureGaps_39 1 rfl ?_
      refine g_iload_n (pc := 41) C dX7_measureGaps_41 rfl 0 rfl ?_
      replace h := gd_some h; obtain ⟨hk13, h⟩ := h
      replace h := gv_some h; obtain ⟨hi14, h⟩ := h
      refine g_iast (pc := 42) C dX7_measureGaps_42 hk13 hi14 ?_
      refine g_mem (fun M15 eM15 => ?_)
      replace h := lt_at eM15 h
      obtain ⟨v16, ev16⟩ : ∃ y : Int32, y = x3 + (1 : Int32) := ⟨_, rfl⟩
      replace h := lt_at ev16 h
      refine g_iinc (pc := 43) (v := v16) (k := 4) (lo2 := [(3, .int (v16)), (2, .int (v11)), (4, .int (v2)), (0, .ref (x0)), (1, .int (x1))]) C dX7_measureGaps_43 rfl (by rw [ev16]; rfl) (by decide) rfl ?_
      refine g_goto (pc := 46) (tgt := 4) C dX7_measureGaps_46 (by decide) ?_
      obtain rfl := Option.some.inj h
      exact g_sub [3, 4, 1, 0] rfl (show G X B 5 Z Q 4 [(0, .ref (x0)), (1, .int (x1)), (2, .int (v11)), (3, .int (v16))] [] T M15 from hE)
-- a loop of EyeTrainer$Shapes.measureGaps at 54
def bX7_measureGaps_54 (T : Sh) (x0 : Nat) (x1 : Int32) (x2 : Int32) (x3 : Int32) (M : Me) : Option ((Int32 × Int32 × Me) ⊕ (Me)) :=
  if x3 < 0 then (some (.inr M)) else (lt ((x1 * (24 : Int32)) + x3) fun v19 => gd (kd T x0 = 6) <| Option.bind (fX7_has T M x0 v19) fun r21 => if r21 = 0 then (Option.bind (gR M x0 1) fun a23 => Option.bind (gR M x0 1) fun a24 => gd (kd T a24 = 13) <| gv v19 (ln T a24) <| Option.bind (fJ9_min_7cf53 (gI M a24 (Int32.toNatClampNeg v19)) (0 : Int32)) fun r27 => gd (kd T a23 = 13) <| gv v19 (ln T a23) <| lt (pI M a23 (Int32.toNatClampNeg v19) r27) fun M30 => lt (x3 + (-1 : Int32)) fun v31 => some (.inl ((0 : Int32), v31, M30))) else (lt (x2 + (1 : Int32)) fun v32 => Option.bind (gR M x0 1) fun a33 => Option.bind (gR M x0 1) fun a34 => gd (kd T a34 = 13) <| gv v19 (ln T a34) <| Option.bind (fJ9_min_7cf53 (gI M a34 (Int32.toNatClampNeg v19)) v32) fun r37 => gd (kd T a33 = 13) <| gv v19 (ln T a33) <| lt (pI M a33 (Int32.toNatClampNeg v19) r37) fun M40 => lt (x3 + (-1 : Int32)) fun v41 => some (.inl (v32, v41, M40))))
def PX7_measureGaps_54 (X : Fx) (B : Bx) (Z : Nat × Nat × Nat × Nat) (Q : State → Prop) (T : Sh) (x0 : Nat) (x1 : Int32) (s : Int32 × Int32 × Me) : Prop := G X B 5 Z Q 54 [(0, .ref (x0)), (1, .int (x1)), (2, .int (s.1)), (3, .int (s.2.1))] [] T s.2.2
def EX7_measureGaps_54 (X : Fx) (B : Bx) (Z : Nat × Nat × Nat × Nat) (Q : State → Prop) (T : Sh) (x0 : Nat) (x1 : Int32) (r : Me) : Prop := G X B 5 Z Q 107 [] [] T r
set_option maxHeartbeats 4000000 in
theorem tbX7_measureGaps_54 {X : Fx} {B : Bx} {Z : Nat × Nat × Nat × Nat} {Q : State → Prop} {d : Nat} {T : Sh} (C : Cx X B cX7_measureGaps 5 RX7 d Z) (hd : 1 ≤ d) {x0 : Nat} {x1 : Int32} : ∀ (s : Int32 × Int32 × Me) (o : (Int32 × Int32 × Me) ⊕ (Me)), bX7_measureGaps_54 T x0 x1 s.1 s.2.1 s.2.2 = some o → lpE (PX7_measureGaps_54 X B Z Q T x0 x1) (EX7_measureGaps_54 X B Z Q T x0 x1) o → PX7_measureGaps_54 X B Z Q T x0 x1 s := by
  rintro ⟨x2, x3, M⟩ o h hE
  replace h : bX7_measureGaps_54 T x0 x1 x2 x3 M = some o := h
  unfold bX7_measureGaps_54 at h
  show G X B 5 Z Q 54 [(0, .ref (x0)), (1, .int (x1)), (2, .int (x2)), (3, .int (x3))] [] T M
  refine g_iload_n (pc := 54) C dX7_measureGaps_54 rfl 3 rfl ?_
  refine g_if_lt (pc := 55) (tgt := 107) C dX7_measureGaps_55 (by decide) (fun c18 => ?_) (fun c18 => ?_)
  · replace h := ifp c18 h
    obtain rfl := Option.some.inj h
    exact g_sub [] rfl (show G X B 5 Z Q 107 [] [] T M from hE)
  · replace h := ifn c18 h
    refine g_iload_n (pc := 58) C dX7_measureGaps_58 rfl 1 rfl ?_
    refine g_bipush (pc := 59) (v := 24) C dX7_measureGaps_59 (by decide) ?_
    refine g_imul (pc := 61) C dX7_measureGaps_61 ?_
    refine g_iload_n (pc := 62) C dX7_measureGaps_62 rfl 3 rfl ?_
    refine g_iadd (pc := 63) C dX7_measureGaps_63 ?_
    refine g_topi (fun v19 ev19 => ?_)
    replace h := lt_at ev19 h
    refine g_istore (pc := 64) (lo2 := [(4, .int (v19)), (0, .ref (x0)), (1, .int (x1)), (2, .int (x2)), (3, .int (x3))]) C dX7_measureGaps_64 (by decide) rfl ?_
    refine g_aload_n (pc := 66) C dX7_measureGaps_66 rfl 1 rfl ?_
    refine g_iload (pc := 67) C dX7_measureGaps_67 0 rfl ?_
    replace h := gd_some h; obtain ⟨hk20, h⟩ := h
    replace h := bnd h; obtain ⟨r21, h1, h⟩ := h
    refine g_callVi (pc := 69) (As := [.int (v19)]) (st := []) C dX7_measureGaps_69 wX7_has hk20 rfl (by decide) q_904 q_30 q_902 (by omega) rfl (Nat.le_of_ble_eq_true rfl) (kX7_has (d := 0) (Nat.le_refl _) h1) ?_
    refine g_if_eq (pc := 72) (tgt := 81) C dX7_measureGaps_72 (by decide) (fun c22 => ?_) (fun c22 => ?_)
    · replace h := ifp c22 h
      refine g_iconst (pc := 81) (v := 0) C dX7_measureGaps_81 (by decide) ?_
      refine g_istore_n (pc := 82) (lo2 := [(2, .int ((0 : Int32))), (4, .int (v19)), (0, .ref (x0)), (1, .int (x1)), (3, .int (x3))]) C dX7_measureGaps_82 rfl (by decide) rfl ?_
      refine g_aload_n (pc := 83) C dX7_measureGaps_83 rfl 2 rfl ?_
      refine g_get (pc := 84) (v := va_rf (gR M x0 1)) C dX7_measureGaps_84 kX7 hk20 1 (by decide) q_316 rfl ?_
      replace h := bnd h; obtain ⟨a23, ea23, h⟩ := h
      refine g_refq ea23 ?_
      refine g_iload (pc := 87) C dX7_measureGaps_87 1 rfl ?_
      refine g_aload_n (pc := 89) C dX7_measureGaps_89 rfl 2 rfl ?_
      refine g_get (pc := 90) (v := va_rf (gR M x0 1)) C dX7_measureGaps_90 kX7 hk20 1 (by decide) q_316 rfl ?_
      replace h := bnd h; obtain ⟨a24, ea24, h⟩ := h
      refine g_refq ea24 ?_
      refine g_iload (pc := 93) C dX7_measureGaps_93 1 rfl ?_
      replace h := gd_some h; obtain ⟨hk25, h⟩ := h
      replace h := gv_some h; obtain ⟨hi26, h⟩ := h
      refine g_iald (pc := 95) C dX7_measureGaps_95 hk25 hi26 ?_
      refine g_iload_n (pc := 96) C dX7_measureGaps_96 rfl 0 rfl ?_
      replace h := bnd h; obtain ⟨r27, h1, h⟩ := h
      refine g_callSi (pc := 97) (As := [.int (gI M a24 (Int32.toNatClampNeg v19)), .int ((0 : Int32))]) (st := [.int (v19), .ref (a23)]) C dX7_measureGaps_97 wJ9_min_7cf53 q_584 q_906 (by omega) rfl (Nat.le_of_ble_eq_true rfl) (kJ9_min_7cf53 (d := 0) (Nat.le_refl _) h1) ?_
      replace h := gd_some h; obtain ⟨hk28, h⟩ := h
      replace h := gv_some h; obtain ⟨hi29, h⟩ := h
      refine g_iast (pc := 100) C dX7_measureGaps_100 hk28 hi29 ?_
      refine g_mem (fun M30 eM30 => ?_)
      replace h := lt_at eM30 h
      obtain ⟨v31, ev31⟩ : ∃ y : Int32, y = x3 + (-1 : Int32) := ⟨_, rfl⟩
      replace h := lt_at ev31 h
      refine g_iinc (pc := 101) (v := v31) (k := 4) (lo2 := [(3, .int (v31)), (2, .int ((0 : Int32))), (4, .int (v19)), (0, .ref (x0)), (1, .int (x1))]) C dX7_measureGaps_101 rfl (by rw [ev31]; rfl) (by decide) rfl ?_
      refine g_goto (pc := 104) (tgt := 54) C dX7_measureGaps_104 (by decide) ?_
      obtain rfl := Option.some.inj h
      exact g_sub [3, 4, 1, 0] rfl (show G X B 5 Z Q 54 [(0, .ref (x0)), (1, .int (x1)), (2, .int ((0 : Int32))), (3, .int (v31))] [] T M30 from hE)
    · replace h := ifn c22 h
      refine g_iload_n (pc := 75) C dX7_measureGaps_75 rfl 3 rfl ?_
      refine g_iconst (pc := 76) (v := 1) C dX7_measureGaps_76 (by decide) ?_
      refine g_iadd (pc := 77) C dX7_measureGaps_77 ?_
      refine g_goto (pc := 78) (tgt := 82) C dX7_measureGaps_78 (by decide) ?_
      refine g_topi (fun v32 ev32 => ?_)
      replace h := lt_at ev32 h
      refine g_istore_n (pc := 82) (lo2 := [(2, .int (v32)), (4, .int (v19)), (0, .ref (x0)), (1, .int (x1)), (3, .int (x3))]) C dX7_measureGaps_82 rfl (by decide) rfl ?_
      refine g_aload_n (pc := 83) C dX7_measureGaps_83 rfl 2 rfl ?_
      refine g_get (pc := 84) (v := va_rf (gR M x0 1)) C dX7_measureGaps_84 kX7 hk20 1 (by decide) q_316 rfl ?_
      replace h := bnd h; obtain ⟨a33, ea33, h⟩ := h
      refine g_refq ea33 ?_
      refine g_iload (pc := 87) C dX7_measureGaps_87 1 rfl ?_
      refine g_aload_n (pc := 89) C dX7_measureGaps_89 rfl 2 rfl ?_
      refine g_get (pc := 90) (v := va_rf (gR M x0 1)) C dX7_measureGaps_90 kX7 hk20 1 (by decide) q_316 rfl ?_
      replace h := bnd h; obtain ⟨a34, ea34, h⟩ := h
      refine g_refq ea34 ?_
      refine g_iload (pc := 93) C dX7_measureGaps_93 1 rfl ?_
      replace h := gd_some h; obtain ⟨hk35, h⟩ := h
      replace h := gv_some h; obtain ⟨hi36, h⟩ := h
      refine g_iald (pc := 95) C dX7_measureGaps_95 hk35 hi36 ?_
      refine g_iload_n (pc := 96) C dX7_measureGaps_96 rfl 0 rfl ?_
      replace h := bnd h; obtain ⟨r37, h1, h⟩ := h
      refine g_callSi (pc := 97) (As := [.int (gI M a34 (Int32.toNatClampNeg v19)), .int (v32)]) (st := [.int (v19), .ref (a33)]) C dX7_measureGaps_97 wJ9_min_7cf53 q_584 q_906 (by omega) rfl (Nat.le_of_ble_eq_true rfl) (kJ9_min_7cf53 (d := 0) (Nat.le_refl _) h1) ?_
      replace h := gd_some h; obtain ⟨hk38, h⟩ := h
      replace h := gv_some h; obtain ⟨hi39, h⟩ := h
      refine g_iast (pc := 100) C dX7_measureGaps_100 hk38 hi39 ?_
      refine g_mem (fun M40 eM40 => ?_)
      replace h := lt_at eM40 h
      obtain ⟨v41, ev41⟩ : ∃ y : Int32, y = x3 + (-1 : Int32) := ⟨_, rfl⟩
      replace h := lt_at ev41 h
      refine g_iinc (pc := 101) (v := v41) (k := 4) (lo2 := [(3, .int (v41)), (2, .int (v32)), (4, .int (v19)), (0, .ref (x0)), (1, .int (x1))]) C dX7_measureGaps_101 rfl (by rw [ev41]; rfl) (by decide) rfl ?_
      refine g_goto (pc := 104) (tgt := 54) C dX7_measureGaps_104 (by decide) ?_
      obtain rfl := Option.some.inj h
      exact g_sub [3, 4, 1, 0] rfl (show G X B 5 Z Q 54 [(0, .ref (x0)), (1, .int (x1)), (2, .int (v32)), (3, .int (v41))] [] T M40 from hE)
/-- EyeTrainer$Shapes.measureGaps(I)V -/
def fX7_measureGaps (T : Sh) (M : Me) (x0 : Nat) (x1 : Int32) : Option (Unit × Me) :=
  (lp FU (fun s => bX7_measureGaps_4 T x0 x1 s.1 s.2.1 s.2.2) ((0 : Int32), (0 : Int32), M)).bind (fun M17 => (lp FU (fun s => bX7_measureGaps_54 T x0 x1 s.1 s.2.1 s.2.2) ((0 : Int32), (23 : Int32), M17)).bind (fun M42 => some ((), M42)))
set_option maxHeartbeats 4000000 in
theorem kX7_measureGaps {l : Launch} {B : Bx} {d : Nat} (hd : 1 ≤ d) {T : Sh} {M : Me} {x0 : Nat} {x1 : Int32} {M' : Me} (h : fX7_measureGaps T M x0 x1 = some ((), M')) : Kt l B yX7_measureGaps cX7_measureGaps 5 none d [.ref (x0), .int (x1)] T M none T M' := by
  refine kt_of wX7_measureGaps (Nat.le_refl _) (Nat.le_refl _) (Nat.le_of_ble_eq_true rfl) (fun X C hR hlx hin => ?_)
  subst hlx
  replace C : Cx X B cX7_measureGaps 5 RX7 d (tp T, sl T, tp T, sl T) := C
  unfold fX7_measureGaps at h
  show G X B 5 _ _ 0 [(0, .ref (x0)), (1, .int (x1))] [] T M
  refine g_iconst (pc := 0) (v := 0) C dX7_measureGaps_0 (by decide) ?_
  refine g_istore_n (pc := 1) (lo2 := [(2, .int ((0 : Int32))), (0, .ref (x0)), (1, .int (x1))]) C dX7_measureGaps_1 rfl (by decide) rfl ?_
  refine g_iconst (pc := 2) (v := 0) C dX7_measureGaps_2 (by decide) ?_
  refine g_istore_n (pc := 3) (lo2 := [(3, .int ((0 : Int32))), (2, .int ((0 : Int32))), (0, .ref (x0)), (1, .int (x1))]) C dX7_measureGaps_3 rfl (by decide) rfl ?_
  replace h := bnd h; obtain ⟨M17, h1, h⟩ := h
  refine g_sub [2, 3, 1, 0] rfl ?_
  refine lp_G2 (P := PX7_measureGaps_4 X B _ _ T x0 x1) (E := EX7_measureGaps_4 X B _ _ T x0 x1) (tbX7_measureGaps_4 C hd) h1 ?_
  show G X B 5 _ _ 49 [(0, .ref (x0)), (1, .int (x1))] [] T M17
  refine g_iconst (pc := 49) (v := 0) C dX7_measureGaps_49 (by decide) ?_
  refine g_istore_n (pc := 50) (lo2 := [(2, .int ((0 : Int32))), (0, .ref (x0)), (1, .int (x1))]) C dX7_measureGaps_50 rfl (by decide) rfl ?_
  refine g_bipush (pc := 51) (v := 23) C dX7_measureGaps_51 (by decide) ?_
  refine g_istore_n (pc := 53) (lo2 := [(3, .int ((23 : Int32))), (2, .int ((0 : Int32))), (0, .ref (x0)), (1, .int (x1))]) C dX7_measureGaps_53 rfl (by decide) rfl ?_
  replace h := bnd h; obtain ⟨M42, h1, h⟩ := h
  refine g_sub [2, 3, 1, 0] rfl ?_
  refine lp_G2 (P := PX7_measureGaps_54 X B _ _ T x0 x1) (E := EX7_measureGaps_54 X B _ _ T x0 x1) (tbX7_measureGaps_54 C hd) h1 ?_
  show G X B 5 _ _ 107 [] [] T M42
  obtain ⟨-, rfl⟩ := Prod.mk.inj (Option.some.inj h)
  exact g_vret C hR dX7_measureGaps_107
theorem dX7_squaredGap_0 : decode cX7_squaredGap 0 = .ok (.iload_n 1, 1) := by decide +kernel
theorem dX7_squaredGap_1 : decode cX7_squaredGap 1 = .ok (.ifCond .lt 10, 3) := by decide +kernel
theorem dX7_squaredGap_4 : decode cX7_squaredGap 4 = .ok (.iload_n 1, 1) := by decide +kernel
theorem dX7_squaredGap_5 : decode cX7_squaredGap 5 = .ok (.sipush 384, 3) := by decide +kernel
theorem dX7_squaredGap_8 : decode cX7_squaredGap 8 = .ok (.if_icmp .lt 7, 3) := by decide +kernel
theorem dX7_squaredGap_11 : decode cX7_squaredGap 11 = .ok (.iconst 0, 1) := by decide +kernel
theorem dX7_squaredGap_12 : decode cX7_squaredGap 12 = .ok (.goto 16, 3) := by decide +kernel
theorem dX7_squaredGap_15 : decode cX7_squaredGap 15 = .ok (.aload_n 0, 1) := by decide +kernel
theorem dX7_squaredGap_16 : decode cX7_squaredGap 16 = .ok (.getfield 15, 3) := by decide +kernel
theorem dX7_squaredGap_19 : decode cX7_squaredGap 19 = .ok (.iload_n 1, 1) := by decide +kernel
theorem dX7_squaredGap_20 : decode cX7_squaredGap 20 = .ok (.iaload, 1) := by decide +kernel
theorem dX7_squaredGap_21 : decode cX7_squaredGap 21 = .ok (.aload_n 0, 1) := by decide +kernel
theorem dX7_squaredGap_22 : decode cX7_squaredGap 22 = .ok (.getfield 15, 3) := by decide +kernel
theorem dX7_squaredGap_25 : decode cX7_squaredGap 25 = .ok (.iload_n 1, 1) := by decide +kernel
theorem dX7_squaredGap_26 : decode cX7_squaredGap 26 = .ok (.iaload, 1) := by decide +kernel
theorem dX7_squaredGap_27 : decode cX7_squaredGap 27 = .ok (.imul, 1) := by decide +kernel
theorem dX7_squaredGap_28 : decode cX7_squaredGap 28 = .ok (.ireturn, 1) := by decide +kernel
theorem wX7_squaredGap : Mw yX7_squaredGap cX7_squaredGap 2 (some .int) 1 := ⟨q_914, q_126, by decide, ⟨by decide +kernel, by decide +kernel⟩, by decide +kernel, by decide +kernel⟩
/-- EyeTrainer$Shapes.squaredGap(I)I -/
def fX7_squaredGap (T : Sh) (M : Me) (x0 : Nat) (x1 : Int32) : Option (Int32) :=
  if x1 < 0 then (some (0 : Int32)) else (if x1 < (384 : Int32) then (gd (kd T x0 = 6) <| Option.bind (gR M x0 1) fun a4 => gd (kd T a4 = 13) <| gv x1 (ln T a4) <| Option.bind (gR M x0 1) fun a7 => gd (kd T a7 = 13) <| gv x1 (ln T a7) <| some ((gI M a4 (Int32.toNatClampNeg x1)) * (gI M a7 (Int32.toNatClampNeg x1)))) else (some (0 : Int32)))
set_option maxHeartbeats 4000000 in
theorem kX7_squaredGap {l : Launch} {B : Bx} {d : Nat} (hd : 0 ≤ d) {T : Sh} {M : Me} {x0 : Nat} {x1 : Int32} {r : Int32} (h : fX7_squaredGap T M x0 x1 = some r) : Kt l B yX7_squaredGap cX7_squaredGap 2 (some .int) d [.ref (x0), .int (x1)] T M (some (.int r)) T M := by
  refine kt_of wX7_squaredGap (Nat.le_refl _) (Nat.le_refl _) (Nat.le_of_ble_eq_true rfl) (fun X C hR hlx hin => ?_)
  subst hlx
  replace C : Cx X B cX7_squaredGap 2 RX7 d (tp T, sl T, tp T, sl T) := C
  unfold fX7_squaredGap at h
  show G X B 2 _ _ 0 [(0, .ref (x0)), (1, .int (x1))] [] T M
  refine g_iload_n (pc := 0) C dX7_squaredGap_0 rfl 1 rfl ?_
  refine g_if_lt (pc := 1) (tgt := 11) C dX7_squaredGap_1 (by decide) (fun c1 => ?_) (fun c1 => ?_)
  · replace h := ifp c1 h
    refine g_iconst (pc := 11) (v := 0) C dX7_squaredGap_11 (by decide) ?_
    refine g_goto (pc := 12) (tgt := 28) C dX7_squaredGap_12 (by decide) ?_
    obtain rfl := Option.some.inj h
    exact g_iret C hR dX7_squaredGap_28
  · replace h := ifn c1 h
    refine g_iload_n (pc := 4) C dX7_squaredGap_4 rfl 1 rfl ?_
    refine g_sipush (pc := 5) (v := 384) C dX7_squaredGap_5 (by decide) ?_
    refine g_icmp_lt (pc := 8) (tgt := 15) C dX7_squaredGap_8 (by decide) (fun c2 => ?_) (fun c2 => ?_)
    · replace h := ifp c2 h
      refine g_aload_n (pc := 15) C dX7_squaredGap_15 rfl 0 rfl ?_
      replace h := gd_some h; obtain ⟨hk3, h⟩ := h
      refine g_get (pc := 16) (v := va_rf (gR M x0 1)) C dX7_squaredGap_16 kX7 hk3 1 (by decide) q_316 rfl ?_
      replace h := bnd h; obtain ⟨a4, ea4, h⟩ := h
      refine g_refq ea4 ?_
      refine g_iload_n (pc := 19) C dX7_squaredGap_19 rfl 1 rfl ?_
      replace h := gd_some h; obtain ⟨hk5, h⟩ := h
      replace h := gv_some h; obtain ⟨hi6, h⟩ := h
      refine g_iald (pc := 20) C dX7_squaredGap_20 hk5 hi6 ?_
      refine g_aload_n (pc := 21) C dX7_squaredGap_21 rfl 0 rfl ?_
      refine g_get (pc := 22) (v := va_rf (gR M x0 1)) C dX7_squaredGap_22 kX7 hk3 1 (by decide) q_316 rfl ?_
      replace h := bnd h; obtain ⟨a7, ea7, h⟩ := h
      refine g_refq ea7 ?_
      refine g_iload_n (pc := 25) C dX7_squaredGap_25 rfl 1 rfl ?_
      replace h := gd_some h; obtain ⟨hk8, h⟩ := h
      replace h := gv_some h; obtain ⟨hi9, h⟩ := h
      refine g_iald (pc := 26) C dX7_squaredGap_26 hk8 hi9 ?_
      refine g_imul (pc := 27) C dX7_squaredGap_27 ?_
      obtain rfl := Option.some.inj h
      exact g_iret C hR dX7_squaredGap_28
    · replace h := ifn c2 h
      refine g_iconst (pc := 11) (v := 0) C dX7_squaredGap_11 (by decide) ?_
      refine g_goto (pc := 12) (tgt := 28) C dX7_squaredGap_12 (by decide) ?_
      obtain rfl := Option.some.inj h
      exact g_iret C hR dX7_squaredGap_28
theorem dX7_nearestOutside_0 : decode cX7_nearestOutside 0 = .ok (.aload_n 0, 1) := by decide +kernel
theorem dX7_nearestOutside_1 : decode cX7_nearestOutside 1 = .ok (.getfield 15, 3) := by decide +kernel
theorem dX7_nearestOutside_4 : decode cX7_nearestOutside 4 = .ok (.iload_n 1, 1) := by decide +kernel
theorem dX7_nearestOutside_5 : decode cX7_nearestOutside 5 = .ok (.iaload, 1) := by decide +kernel
theorem dX7_nearestOutside_6 : decode cX7_nearestOutside 6 = .ok (.aload_n 0, 1) := by decide +kernel
theorem dX7_nearestOutside_7 : decode cX7_nearestOutside 7 = .ok (.getfield 15, 3) := by decide +kernel
theorem dX7_nearestOutside_10 : decode cX7_nearestOutside 10 = .ok (.iload_n 1, 1) := by decide +kernel
theorem dX7_nearestOutside_11 : decode cX7_nearestOutside 11 = .ok (.iaload, 1) := by decide +kernel
theorem dX7_nearestOutside_12 : decode cX7_nearestOutside 12 = .ok (.imul, 1) := by decide +kernel
theorem dX7_nearestOutside_13 : decode cX7_nearestOutside 13 = .ok (.istore_n 3, 1) := by decide +kernel
theorem dX7_nearestOutside_14 : decode cX7_nearestOutside 14 = .ok (.iconst 1, 1) := by decide +kernel
theorem dX7_nearestOutside_15 : decode cX7_nearestOutside 15 = .ok (.istore 4, 2) := by decide +kernel
theorem dX7_nearestOutside_17 : decode cX7_nearestOutside 17 = .ok (.iload 4, 2) := by decide +kernel
theorem dX7_nearestOutside_19 : decode cX7_nearestOutside 19 = .ok (.bipush 16, 2) := by decide +kernel
theorem dX7_nearestOutside_21 : decode cX7_nearestOutside 21 = .ok (.if_icmp .gt 67, 3) := by decide +kernel
theorem dX7_nearestOutside_24 : decode cX7_nearestOutside 24 = .ok (.iload_n 2, 1) := by decide +kernel
theorem dX7_nearestOutside_25 : decode cX7_nearestOutside 25 = .ok (.iload 4, 2) := by decide +kernel
theorem dX7_nearestOutside_27 : decode cX7_nearestOutside 27 = .ok (.imul, 1) := by decide +kernel
theorem dX7_nearestOutside_28 : decode cX7_nearestOutside 28 = .ok (.iload 4, 2) := by decide +kernel
theorem dX7_nearestOutside_30 : decode cX7_nearestOutside 30 = .ok (.imul, 1) := by decide +kernel
theorem dX7_nearestOutside_31 : decode cX7_nearestOutside 31 = .ok (.iload_n 3, 1) := by decide +kernel
theorem dX7_nearestOutside_32 : decode cX7_nearestOutside 32 = .ok (.if_icmp .ge 56, 3) := by decide +kernel
theorem dX7_nearestOutside_35 : decode cX7_nearestOutside 35 = .ok (.iload_n 2, 1) := by decide +kernel
theorem dX7_nearestOutside_36 : decode cX7_nearestOutside 36 = .ok (.iload 4, 2) := by decide +kernel
theorem dX7_nearestOutside_38 : decode cX7_nearestOutside 38 = .ok (.imul, 1) := by decide +kernel
theorem dX7_nearestOutside_39 : decode cX7_nearestOutside 39 = .ok (.iload 4, 2) := by decide +kernel
theorem dX7_nearestOutside_41 : decode cX7_nearestOutside 41 = .ok (.imul, 1) := by decide +kernel
theorem dX7_nearestOutside_42 : decode cX7_nearestOutside 42 = .ok (.istore 5, 2) := by decide +kernel
theorem dX7_nearestOutside_44 : decode cX7_nearestOutside 44 = .ok (.iload_n 3, 1) := by decide +kernel
theorem dX7_nearestOutside_45 : decode cX7_nearestOutside 45 = .ok (.iload 5, 2) := by decide +kernel
theorem dX7_nearestOutside_47 : decode cX7_nearestOutside 47 = .ok (.aload_n 0, 1) := by decide +kernel
theorem dX7_nearestOutside_48 : decode cX7_nearestOutside 48 = .ok (.iload_n 1, 1) := by decide +kernel
theorem dX7_nearestOutside_49 : decode cX7_nearestOutside 49 = .ok (.iload 4, 2) := by decide +kernel
theorem dX7_nearestOutside_51 : decode cX7_nearestOutside 51 = .ok (.bipush 24, 2) := by decide +kernel
theorem dX7_nearestOutside_53 : decode cX7_nearestOutside 53 = .ok (.imul, 1) := by decide +kernel
theorem dX7_nearestOutside_54 : decode cX7_nearestOutside 54 = .ok (.isub, 1) := by decide +kernel
theorem dX7_nearestOutside_55 : decode cX7_nearestOutside 55 = .ok (.invokevirtual 82, 3) := by decide +kernel
theorem dX7_nearestOutside_58 : decode cX7_nearestOutside 58 = .ok (.iadd, 1) := by decide +kernel
theorem dX7_nearestOutside_59 : decode cX7_nearestOutside 59 = .ok (.invokestatic 77, 3) := by decide +kernel
theorem dX7_nearestOutside_62 : decode cX7_nearestOutside 62 = .ok (.istore_n 3, 1) := by decide +kernel
theorem dX7_nearestOutside_63 : decode cX7_nearestOutside 63 = .ok (.iload_n 3, 1) := by decide +kernel
theorem dX7_nearestOutside_64 : decode cX7_nearestOutside 64 = .ok (.iload 5, 2) := by decide +kernel
theorem dX7_nearestOutside_66 : decode cX7_nearestOutside 66 = .ok (.aload_n 0, 1) := by decide +kernel
theorem dX7_nearestOutside_67 : decode cX7_nearestOutside 67 = .ok (.iload_n 1, 1) := by decide +kernel
theorem dX7_nearestOutside_68 : decode cX7_nearestOutside 68 = .ok (.iload 4, 2) := by decide +kernel
theorem dX7_nearestOutside_70 : decode cX7_nearestOutside 70 = .ok (.bipush 24, 2) := by decide +kernel
theorem dX7_nearestOutside_72 : decode cX7_nearestOutside 72 = .ok (.imul, 1) := by decide +kernel
theorem dX7_nearestOutside_73 : decode cX7_nearestOutside 73 = .ok (.iadd, 1) := by decide +kernel
theorem dX7_nearestOutside_74 : decode cX7_nearestOutside 74 = .ok (.invokevirtual 82, 3) := by decide +kernel
theorem dX7_nearestOutside_77 : decode cX7_nearestOutside 77 = .ok (.iadd, 1) := by decide +kernel
theorem dX7_nearestOutside_78 : decode cX7_nearestOutside 78 = .ok (.invokestatic 77, 3) := by decide +kernel
theorem dX7_nearestOutside_81 : decode cX7_nearestOutside 81 = .ok (.istore_n 3, 1) := by decide +kernel
theorem dX7_nearestOutside_82 : decode cX7_nearestOutside 82 = .ok (.iinc 4 1, 3) := by decide +kernel
theorem dX7_nearestOutside_85 : decode cX7_nearestOutside 85 = .ok (.goto (-68), 3) := by decide +kernel
theorem dX7_nearestOutside_88 : decode cX7_nearestOutside 88 = .ok (.iload_n 3, 1) := by decide +kernel
theorem dX7_nearestOutside_89 : decode cX7_nearestOutside 89 = .ok (.ireturn, 1) := by decide +kernel
theorem wX7_nearestOutside : Mw yX7_nearestOutside cX7_nearestOutside 6 (some .int) 2 := ⟨q_910, q_126, by decide, ⟨by decide +kernel, by decide +kernel⟩, by decide +kernel, by decide +kernel⟩
-- a loop of EyeTrainer$Shapes.nearestOutside at 17
def bX7_nearestOutside_17 (T : Sh) (M : Me) (x0 : Nat) (x1 : Int32) (x2 : Int32) (x3 : Int32) (x4 : Int32) : Option ((Int32 × Int32) ⊕ (Int32)) :=
  if (16 : Int32) < x4 then (some (.inr x3)) else (if x3 ≤ ((x2 * x4) * x4) then (some (.inr x3)) else (lt ((x2 * x4) * x4) fun v11 => gd (kd T x0 = 6) <| Option.bind (fX7_squaredGap T M x0 (x1 - (x4 * (24 : Int32)))) fun r13 => Option.bind (fJ9_min_7cf53 x3 (v11 + r13)) fun r14 => Option.bind (fX7_squaredGap T M x0 (x1 + (x4 * (24 : Int32)))) fun r15 => Option.bind (fJ9_min_7cf53 r14 (v11 + r15)) fun r16 => lt (x4 + (1 : Int32)) fun v17 => some (.inl (r16, v17))))
def PX7_nearestOutside_17 (X : Fx) (B : Bx) (Z : Nat × Nat × Nat × Nat) (Q : State → Prop) (T : Sh) (M : Me) (x0 : Nat) (x1 : Int32) (x2 : Int32) (s : Int32 × Int32) : Prop := G X B 6 Z Q 17 [(0, .ref (x0)), (1, .int (x1)), (2, .int (x2)), (3, .int (s.1)), (4, .int (s.2))] [] T M
def EX7_nearestOutside_17 (X : Fx) (B : Bx) (Z : Nat × Nat × Nat × Nat) (Q : State → Prop) (T : Sh) (M : Me) (x0 : Nat) (x1 : Int32) (x2 : Int32) (r : Int32) : Prop := G X B 6 Z Q 88 [(3, .int (r))] [] T M
set_option maxHeartbeats 4000000 in
theorem tbX7_nearestOutside_17 {X : Fx} {B : Bx} {Z : Nat × Nat × Nat × Nat} {Q : State → Prop} {d : Nat} {T : Sh} {M : Me} (C : Cx X B cX7_nearestOutside 6 RX7 d Z) (hd : 1 ≤ d) {x0 : Nat} {x1 : Int32} {x2 : Int32} : ∀ (s : Int32 × Int32) (o : (Int32 × Int32) ⊕ (Int32)), bX7_nearestOutside_17 T M x0 x1 x2 s.1 s.2 = some o → lpE (PX7_nearestOutside_17 X B Z Q T M x0 x1 x2) (EX7_nearestOutside_17 X B Z Q T M x0 x1 x2) o → PX7_nearestOutside_17 X B Z Q T M x0 x1 x2 s := by
  rintro ⟨x3, x4⟩ o h hE
  replace h : bX7_nearestOutside_17 T M x0 x1 x2 x3 x4 = some o := h
  unfold bX7_nearestOutside_17 at h
  show G X B 6 Z Q 17 [(0, .ref (x0)), (1, .int (x1)), (2, .int (x2)), (3, .int (x3)), (4, .int (x4))] [] T M
  refine g_iload (pc := 17) C dX7_nearestOutside_17 4 rfl ?_
  refine g_bipush (pc := 19) (v := 16) C dX7_nearestOutside_19 (by decide) ?_
  refine g_icmp_gt (pc := 21) (tgt := 88) C dX7_nearestOutside_21 (by decide) (fun c9 => ?_) (fun c9 => ?_)
  · replace h := ifp c9 h
    obtain rfl := Option.some.inj h
    exact g_sub [3] rfl (show G X B 6 Z Q 88 [(3, .int (x3))] [] T M from hE)
  · replace h := ifn c9 h
    refine g_iload_n (pc := 24) C dX7_nearestOutside_24 rfl 2 rfl ?_
    refine g_iload (pc := 25) C dX7_nearestOutside_25 4 rfl ?_
    refine g_imul (pc := 27) C dX7_nearestOutside_27 ?_
    refine g_iload (pc := 28) C dX7_nearestOutside_28 4 rfl ?_
    refine g_imul (pc := 30) C dX7_nearestOutside_30 ?_
    refine g_iload_n (pc := 31) C dX7_nearestOutside_31 rfl 3 rfl ?_
    refine g_icmp_ge (pc := 32) (tgt := 88) C dX7_nearestOutside_32 (by decide) (fun c10 => ?_) (fun c10 => ?_)
    · replace h := ifp c10 h
      obtain rfl := Option.some.inj h
      exact g_sub [3] rfl (show G X B 6 Z Q 88 [(3, .int (x3))] [] T M from hE)
    · replace h := ifn c10 h
      refine g_iload_n (pc := 35) C dX7_nearestOutside_35 rfl 2 rfl ?_
      refine g_iload (pc := 36) C dX7_nearestOutside_36 4 rfl ?_
      refine g_imul (pc := 38) C dX7_nearestOutside_38 ?_
      refine g_iload (pc := 39) C dX7_nearestOutside_39 4 rfl ?_
      refine g_imul (pc := 41) C dX7_nearestOutside_41 ?_
      refine g_topi (fun v11 ev11 => ?_)
      replace h := lt_at ev11 h
      refine g_istore (pc := 42) (lo2 := [(5, .int (v11)), (0, .ref (x0)), (1, .int (x1)), (2, .int (x2)), (3, .int (x3)), (4, .int (x4))]) C dX7_nearestOutside_42 (by decide) rfl ?_
      refine g_iload_n (pc := 44) C dX7_nearestOutside_44 rfl 4 rfl ?_
      refine g_iload (pc := 45) C dX7_nearestOutside_45 0 rfl ?_
      refine g_aload_n (pc := 47) C dX7_nearestOutside_47 rfl 1 rfl ?_
      refine g_iload_n (pc := 48) C dX7_nearestOutside_48 rfl 2 rfl ?_
      refine g_iload (pc := 49) C dX7_nearestOutside_49 5 rfl ?_
      refine g_bipush (pc := 51) (v := 24) C dX7_nearestOutside_51 (by decide) ?_
      refine g_imul (pc := 53) C dX7_nearestOutside_53 ?_
      refine g_isub (pc := 54) C dX7_nearestOutside_54 ?_
      replace h := gd_some h; obtain ⟨hk12, h⟩ := h
      replace h := bnd h; obtain ⟨r13, h1, h⟩ := h
      refine g_callVi (pc := 55) (As := [.int (x1 - (x4 * (24 : Int32)))]) (st := [.int (v11), .int (x3)]) C dX7_nearestOutside_55 wX7_squaredGap hk12 rfl (by decide) q_913 q_32 q_911 (by omega) rfl (Nat.le_of_ble_eq_true rfl) (kX7_squaredGap (d := 0) (Nat.le_refl _) h1) ?_
      refine g_iadd (pc := 58) C dX7_nearestOutside_58 ?_
      replace h := bnd h; obtain ⟨r14, h1, h⟩ := h
      refine g_callSi (pc := 59) (As := [.int (x3), .int (v11 + r13)]) (st := []) C dX7_nearestOutside_59 wJ9_min_7cf53 q_584 q_906 (by omega) rfl (Nat.le_of_ble_eq_true rfl) (kJ9_min_7cf53 (d := 0) (Nat.le_refl _) h1) ?_
      refine g_istore_n (pc := 62) (lo2 := [(3, .int (r14)), (5, .int (v11)), (0, .ref (x0)), (1, .int (x1)), (2, .int (x2)), (4, .int (x4))]) C dX7_nearestOutside_62 rfl (by decide) rfl ?_
      refine g_iload_n (pc := 63) C dX7_nearestOutside_63 rfl 0 rfl ?_
      refine g_iload (pc := 64) C dX7_nearestOutside_64 1 rfl ?_
      refine g_aload_n (pc := 66) C dX7_nearestOutside_66 rfl 2 rfl ?_
      refine g_iload_n (pc := 67) C dX7_nearestOutside_67 rfl 3 rfl ?_
      refine g_iload (pc := 68) C dX7_nearestOutside_68 5 rfl ?_
      refine g_bipush (pc := 70) (v := 24) C dX7_nearestOutside_70 (by decide) ?_
      refine g_imul (pc := 72) C dX7_nearestOutside_72 ?_
      refine g_iadd (pc := 73) C dX7_nearestOutside_73 ?_
      replace h := bnd h; obtain ⟨r15, h1, h⟩ := h
      refine g_callVi (pc := 74) (As := [.int (x1 + (x4 * (24 : Int32)))]) (st := [.int (v11), .int (r14)]) C dX7_nearestOutside_74 wX7_squaredGap hk12 rfl (by decide) q_913 q_32 q_911 (by omega) rfl (Nat.le_of_ble_eq_true rfl) (kX7_squaredGap (d := 0) (Nat.le_refl _) h1) ?_
      refine g_iadd (pc := 77) C dX7_nearestOutside_77 ?_
      replace h := bnd h; obtain ⟨r16, h1, h⟩ := h
      refine g_callSi (pc := 78) (As := [.int (r14), .int (v11 + r15)]) (st := []) C dX7_nearestOutside_78 wJ9_min_7cf53 q_584 q_906 (by omega) rfl (Nat.le_of_ble_eq_true rfl) (kJ9_min_7cf53 (d := 0) (Nat.le_refl _) h1) ?_
      refine g_istore_n (pc := 81) (lo2 := [(3, .int (r16)), (5, .int (v11)), (0, .ref (x0)), (1, .int (x1)), (2, .int (x2)), (4, .int (x4))]) C dX7_nearestOutside_81 rfl (by decide) rfl ?_
      obtain ⟨v17, ev17⟩ : ∃ y : Int32, y = x4 + (1 : Int32) := ⟨_, rfl⟩
      replace h := lt_at ev17 h
      refine g_iinc (pc := 82) (v := v17) (k := 5) (lo2 := [(4, .int (v17)), (3, .int (r16)), (5, .int (v11)), (0, .ref (x0)), (1, .int (x1)), (2, .int (x2))]) C dX7_nearestOutside_82 rfl (by rw [ev17]; rfl) (by decide) rfl ?_
      refine g_goto (pc := 85) (tgt := 17) C dX7_nearestOutside_85 (by decide) ?_
      obtain rfl := Option.some.inj h
      exact g_sub [3, 4, 5, 1, 0] rfl (show G X B 6 Z Q 17 [(0, .ref (x0)), (1, .int (x1)), (2, .int (x2)), (3, .int (r16)), (4, .int (v17))] [] T M from hE)
/-- EyeTrainer$Shapes.nearestOutside(II)I -/
def fX7_nearestOutside (T : Sh) (M : Me) (x0 : Nat) (x1 : Int32) (x2 : Int32) : Option (Int32) :=
  gd (kd T x0 = 6) <| Option.bind (gR M x0 1) fun a2 => gd (kd T a2 = 13) <| gv x1 (ln T a2) <| Option.bind (gR M x0 1) fun a5 => gd (kd T a5 = 13) <| gv x1 (ln T a5) <| lt ((gI M a2 (Int32.toNatClampNeg x1)) * (gI M a5 (Int32.toNatClampNeg x1))) fun v8 => (lp FU (fun s => bX7_nearestOutside_17 T M x0 x1 x2 s.1 s.2) (v8, (1 : Int32))).bind (fun x3_18 => some x3_18)
set_option maxHeartbeats 4000000 in
theorem kX7_nearestOutside {l : Launch} {B : Bx} {d : Nat} (hd : 1 ≤ d) {T : Sh} {M : Me} {x0 : Nat} {x1 : Int32} {x2 : Int32} {r : Int32} (h : fX7_nearestOutside T M x0 x1 x2 = some r) : Kt l B yX7_nearestOutside cX7_nearestOutside 6 (some .int) d [.ref (x0), .int (x1), .int (x2)] T M (some (.int r)) T M := by
  refine kt_of wX7_nearestOutside (Nat.le_refl _) (Nat.le_refl _) (Nat.le_of_ble_eq_true rfl) (fun X C hR hlx hin => ?_)
  subst hlx
  replace C : Cx X B cX7_nearestOutside 6 RX7 d (tp T, sl T, tp T, sl T) := C
  unfold fX7_nearestOutside at h
  show G X B 6 _ _ 0 [(0, .ref (x0)), (1, .int (x1)), (2, .int (x2))] [] T M
  refine g_aload_n (pc := 0) C dX7_nearestOutside_0 rfl 0 rfl ?_
  replace h := gd_some h; obtain ⟨hk1, h⟩ := h
  refine g_get (pc := 1) (v := va_rf (gR M x0 1)) C dX7_nearestOutside_1 kX7 hk1 1 (by decide) q_316 rfl ?_
  replace h := bnd h; obtain ⟨a2, ea2, h⟩ := h
  refine g_refq ea2 ?_
  refine g_iload_n (pc := 4) C dX7_nearestOutside_4 rfl 1 rfl ?_
  replace h := gd_some h; obtain ⟨hk3, h⟩ := h
  replace h := gv_some h; obtain ⟨hi4, h⟩ := h
  refine g_iald (pc := 5) C dX7_nearestOutside_5 hk3 hi4 ?_
  refine g_aload_n (pc := 6) C dX7_nearestOutside_6 rfl 0 rfl ?_
  refine g_get (pc := 7) (v := va_rf (gR M x0 1)) C dX7_nearestOutside_7 kX7 hk1 1 (by decide) q_316 rfl ?_
  replace h := bnd h; obtain ⟨a5, ea5, h⟩ := h
  refine g_refq ea5 ?_
  refine g_iload_n (pc := 10) C dX7_nearestOutside_10 rfl 1 rfl ?_
  replace h := gd_some h; obtain ⟨hk6, h⟩ := h
  replace h := gv_some h; obtain ⟨hi7, h⟩ := h
  refine g_iald (pc := 11) C dX7_nearestOutside_11 hk6 hi7 ?_
  refine g_imul (pc := 12) C dX7_nearestOutside_12 ?_
  refine g_topi (fun v8 ev8 => ?_)
  replace h := lt_at ev8 h
  refine g_istore_n (pc := 13) (lo2 := [(3, .int (v8)), (0, .ref (x0)), (1, .int (x1)), (2, .int (x2))]) C dX7_nearestOutside_13 rfl (by decide) rfl ?_
  refine g_iconst (pc := 14) (v := 1) C dX7_nearestOutside_14 (by decide) ?_
  refine g_istore (pc := 15) (lo2 := [(4, .int ((1 : Int32))), (3, .int (v8)), (0, .ref (x0)), (1, .int (x1)), (2, .int (x2))]) C dX7_nearestOutside_15 (by decide) rfl ?_
  replace h := bnd h; obtain ⟨x3_18, h1, h⟩ := h
  refine g_sub [2, 3, 4, 1, 0] rfl ?_
  refine lp_G2 (P := PX7_nearestOutside_17 X B _ _ T M x0 x1 x2) (E := EX7_nearestOutside_17 X B _ _ T M x0 x1 x2) (tbX7_nearestOutside_17 C hd) h1 ?_
  show G X B 6 _ _ 88 [(3, .int (x3_18))] [] T M
  refine g_iload_n (pc := 88) C dX7_nearestOutside_88 rfl 0 rfl ?_
  obtain rfl := Option.some.inj h
  exact g_iret C hR dX7_nearestOutside_89
theorem dX7_findEllipse_0 : decode cX7_findEllipse 0 = .ok (.aload_n 0, 1) := by decide +kernel
theorem dX7_findEllipse_1 : decode cX7_findEllipse 1 = .ok (.iconst (-1), 1) := by decide +kernel
theorem dX7_findEllipse_2 : decode cX7_findEllipse 2 = .ok (.putfield 60, 3) := by decide +kernel
theorem dX7_findEllipse_5 : decode cX7_findEllipse 5 = .ok (.aload_n 0, 1) := by decide +kernel
theorem dX7_findEllipse_6 : decode cX7_findEllipse 6 = .ok (.iconst (-1), 1) := by decide +kernel
theorem dX7_findEllipse_7 : decode cX7_findEllipse 7 = .ok (.putfield 63, 3) := by decide +kernel
theorem dX7_findEllipse_10 : decode cX7_findEllipse 10 = .ok (.iconst 0, 1) := by decide +kernel
theorem dX7_findEllipse_11 : decode cX7_findEllipse 11 = .ok (.istore_n 2, 1) := by decide +kernel
theorem dX7_findEllipse_12 : decode cX7_findEllipse 12 = .ok (.iload_n 2, 1) := by decide +kernel
theorem dX7_findEllipse_13 : decode cX7_findEllipse 13 = .ok (.bipush 16, 2) := by decide +kernel
theorem dX7_findEllipse_15 : decode cX7_findEllipse 15 = .ok (.if_icmp .ge 14, 3) := by decide +kernel
theorem dX7_findEllipse_18 : decode cX7_findEllipse 18 = .ok (.aload_n 0, 1) := by decide +kernel
theorem dX7_findEllipse_19 : decode cX7_findEllipse 19 = .ok (.iload_n 2, 1) := by decide +kernel
theorem dX7_findEllipse_20 : decode cX7_findEllipse 20 = .ok (.invokevirtual 66, 3) := by decide +kernel
theorem dX7_findEllipse_23 : decode cX7_findEllipse 23 = .ok (.iinc 2 1, 3) := by decide +kernel
theorem dX7_findEllipse_26 : decode cX7_findEllipse 26 = .ok (.goto (-14), 3) := by decide +kernel
theorem dX7_findEllipse_29 : decode cX7_findEllipse 29 = .ok (.iconst 0, 1) := by decide +kernel
theorem dX7_findEllipse_30 : decode cX7_findEllipse 30 = .ok (.istore_n 2, 1) := by decide +kernel
theorem dX7_findEllipse_31 : decode cX7_findEllipse 31 = .ok (.iload_n 2, 1) := by decide +kernel
theorem dX7_findEllipse_32 : decode cX7_findEllipse 32 = .ok (.sipush 384, 3) := by decide +kernel
theorem dX7_findEllipse_35 : decode cX7_findEllipse 35 = .ok (.if_icmp .ge 44, 3) := by decide +kernel
theorem dX7_findEllipse_38 : decode cX7_findEllipse 38 = .ok (.aload_n 0, 1) := by decide +kernel
theorem dX7_findEllipse_39 : decode cX7_findEllipse 39 = .ok (.iload_n 2, 1) := by decide +kernel
theorem dX7_findEllipse_40 : decode cX7_findEllipse 40 = .ok (.invokevirtual 70, 3) := by decide +kernel
theorem dX7_findEllipse_43 : decode cX7_findEllipse 43 = .ok (.ifCond .eq 30, 3) := by decide +kernel
theorem dX7_findEllipse_46 : decode cX7_findEllipse 46 = .ok (.aload_n 0, 1) := by decide +kernel
theorem dX7_findEllipse_47 : decode cX7_findEllipse 47 = .ok (.iload_n 2, 1) := by decide +kernel
theorem dX7_findEllipse_48 : decode cX7_findEllipse 48 = .ok (.iload_n 1, 1) := by decide +kernel
theorem dX7_findEllipse_49 : decode cX7_findEllipse 49 = .ok (.invokevirtual 74, 3) := by decide +kernel
theorem dX7_findEllipse_52 : decode cX7_findEllipse 52 = .ok (.iconst 1, 1) := by decide +kernel
theorem dX7_findEllipse_53 : decode cX7_findEllipse 53 = .ok (.isub, 1) := by decide +kernel
theorem dX7_findEllipse_54 : decode cX7_findEllipse 54 = .ok (.istore_n 3, 1) := by decide +kernel
theorem dX7_findEllipse_55 : decode cX7_findEllipse 55 = .ok (.iload_n 3, 1) := by decide +kernel
theorem dX7_findEllipse_56 : decode cX7_findEllipse 56 = .ok (.aload_n 0, 1) := by decide +kernel
theorem dX7_findEllipse_57 : decode cX7_findEllipse 57 = .ok (.getfield 60, 3) := by decide +kernel
theorem dX7_findEllipse_60 : decode cX7_findEllipse 60 = .ok (.if_icmp .le 13, 3) := by decide +kernel
theorem dX7_findEllipse_63 : decode cX7_findEllipse 63 = .ok (.aload_n 0, 1) := by decide +kernel
theorem dX7_findEllipse_64 : decode cX7_findEllipse 64 = .ok (.iload_n 3, 1) := by decide +kernel
theorem dX7_findEllipse_65 : decode cX7_findEllipse 65 = .ok (.putfield 60, 3) := by decide +kernel
theorem dX7_findEllipse_68 : decode cX7_findEllipse 68 = .ok (.aload_n 0, 1) := by decide +kernel
theorem dX7_findEllipse_69 : decode cX7_findEllipse 69 = .ok (.iload_n 2, 1) := by decide +kernel
theorem dX7_findEllipse_70 : decode cX7_findEllipse 70 = .ok (.putfield 63, 3) := by decide +kernel
theorem dX7_findEllipse_73 : decode cX7_findEllipse 73 = .ok (.iinc 2 1, 3) := by decide +kernel
theorem dX7_findEllipse_76 : decode cX7_findEllipse 76 = .ok (.goto (-45), 3) := by decide +kernel
theorem dX7_findEllipse_79 : decode cX7_findEllipse 79 = .ok (.return_, 1) := by decide +kernel
theorem wX7_findEllipse : Mw yX7_findEllipse cX7_findEllipse 4 none 1 := ⟨q_897, q_126, by decide, ⟨by decide +kernel, by decide +kernel⟩, by decide +kernel, by decide +kernel⟩
-- a loop of EyeTrainer$Shapes.findEllipse at 12
def bX7_findEllipse_12 (T : Sh) (x0 : Nat) (x1 : Int32) (x2 : Int32) (M : Me) : Option ((Int32 × Me) ⊕ (Me)) :=
  if (16 : Int32) ≤ x2 then (some (.inr M)) else (gd (kd T x0 = 6) <| Option.bind (fX7_measureGaps T M x0 x2) <| un2 fun _u M6 => lt (x2 + (1 : Int32)) fun v7 => some (.inl (v7, M6)))
def PX7_findEllipse_12 (X : Fx) (B : Bx) (Z : Nat × Nat × Nat × Nat) (Q : State → Prop) (T : Sh) (x0 : Nat) (x1 : Int32) (s : Int32 × Me) : Prop := G X B 4 Z Q 12 [(0, .ref (x0)), (1, .int (x1)), (2, .int (s.1))] [] T s.2
def EX7_findEllipse_12 (X : Fx) (B : Bx) (Z : Nat × Nat × Nat × Nat) (Q : State → Prop) (T : Sh) (x0 : Nat) (x1 : Int32) (r : Me) : Prop := G X B 4 Z Q 29 [(0, .ref (x0)), (1, .int (x1))] [] T r
set_option maxHeartbeats 4000000 in
theorem tbX7_findEllipse_12 {X : Fx} {B : Bx} {Z : Nat × Nat × Nat × Nat} {Q : State → Prop} {d : Nat} {T : Sh} (C : Cx X B cX7_findEllipse 4 RX7 d Z) (hd : 2 ≤ d) {x0 : Nat} {x1 : Int32} : ∀ (s : Int32 × Me) (o : (Int32 × Me) ⊕ (Me)), bX7_findEllipse_12 T x0 x1 s.1 s.2 = some o → lpE (PX7_findEllipse_12 X B Z Q T x0 x1) (EX7_findEllipse_12 X B Z Q T x0 x1) o → PX7_findEllipse_12 X B Z Q T x0 x1 s := by
  rintro ⟨x2, M⟩ o h hE
  replace h : bX7_findEllipse_12 T x0 x1 x2 M = some o := h
  unfold bX7_findEllipse_12 at h
  show G X B 4 Z Q 12 [(0, .ref (x0)), (1, .int (x1)), (2, .int (x2))] [] T M
  refine g_iload_n (pc := 12) C dX7_findEllipse_12 rfl 2 rfl ?_
  refine g_bipush (pc := 13) (v := 16) C dX7_findEllipse_13 (by decide) ?_
  refine g_icmp_ge (pc := 15) (tgt := 29) C dX7_findEllipse_15 (by decide) (fun c4 => ?_) (fun c4 => ?_)
  · replace h := ifp c4 h
    obtain rfl := Option.some.inj h
    exact g_sub [0, 1] rfl (show G X B 4 Z Q 29 [(0, .ref (x0)), (1, .int (x1))] [] T M from hE)
  · replace h := ifn c4 h
    refine g_aload_n (pc := 18) C dX7_findEllipse_18 rfl 0 rfl ?_
    refine g_iload_n (pc := 19) C dX7_findEllipse_19 rfl 2 rfl ?_
    replace h := gd_some h; obtain ⟨hk5, h⟩ := h
    replace h := bnd2 h; obtain ⟨_u, M6, h1, h⟩ := h
    refine g_callVv (pc := 20) (As := [.int (x2)]) (st := []) C dX7_findEllipse_20 wX7_measureGaps hk5 rfl (by decide) q_900 q_29 q_898 (by omega) rfl (Nat.le_of_ble_eq_true rfl) (kX7_measureGaps (d := 1) (Nat.le_refl _) h1) ?_
    obtain ⟨v7, ev7⟩ : ∃ y : Int32, y = x2 + (1 : Int32) := ⟨_, rfl⟩
    replace h := lt_at ev7 h
    refine g_iinc (pc := 23) (v := v7) (k := 2) (lo2 := [(2, .int (v7)), (0, .ref (x0)), (1, .int (x1))]) C dX7_findEllipse_23 rfl (by rw [ev7]; rfl) (by decide) rfl ?_
    refine g_goto (pc := 26) (tgt := 12) C dX7_findEllipse_26 (by decide) ?_
    obtain rfl := Option.some.inj h
    exact g_sub [1, 2, 0] rfl (show G X B 4 Z Q 12 [(0, .ref (x0)), (1, .int (x1)), (2, .int (v7))] [] T M6 from hE)
-- a loop of EyeTrainer$Shapes.findEllipse at 31
def bX7_findEllipse_31 (T : Sh) (x0 : Nat) (x1 : Int32) (x2 : Int32) (M : Me) : Option ((Int32 × Me) ⊕ (Me)) :=
  if (384 : Int32) ≤ x2 then (some (.inr M)) else (gd (kd T x0 = 6) <| Option.bind (fX7_has T M x0 x2) fun r11 => if r11 = 0 then (lt (x2 + (1 : Int32)) fun v13 => some (.inl (v13, M))) else (Option.bind (fX7_nearestOutside T M x0 x2 x1) fun r14 => lt (r14 - (1 : Int32)) fun v15 => if v15 ≤ (gI M x0 10) then (lt (x2 + (1 : Int32)) fun v17 => some (.inl (v17, M))) else (lt (pI M x0 10 v15) fun M18 => lt (pI M18 x0 11 x2) fun M19 => lt (x2 + (1 : Int32)) fun v20 => some (.inl (v20, M19)))))
def PX7_findEllipse_31 (X : Fx) (B : Bx) (Z : Nat × Nat × Nat × Nat) (Q : State → Prop) (T : Sh) (x0 : Nat) (x1 : Int32) (s : Int32 × Me) : Prop := G X B 4 Z Q 31 [(0, .ref (x0)), (1, .int (x1)), (2, .int (s.1))] [] T s.2
def EX7_findEllipse_31 (X : Fx) (B : Bx) (Z : Nat × Nat × Nat × Nat) (Q : State → Prop) (T : Sh) (x0 : Nat) (x1 : Int32) (r : Me) : Prop := G X B 4 Z Q 79 [] [] T r
set_option maxHeartbeats 4000000 in
theorem tbX7_findEllipse_31 {X : Fx} {B : Bx} {Z : Nat × Nat × Nat × Nat} {Q : State → Prop} {d : Nat} {T : Sh} (C : Cx X B cX7_findEllipse 4 RX7 d Z) (hd : 2 ≤ d) {x0 : Nat} {x1 : Int32} : ∀ (s : Int32 × Me) (o : (Int32 × Me) ⊕ (Me)), bX7_findEllipse_31 T x0 x1 s.1 s.2 = some o → lpE (PX7_findEllipse_31 X B Z Q T x0 x1) (EX7_findEllipse_31 X B Z Q T x0 x1) o → PX7_findEllipse_31 X B Z Q T x0 x1 s := by
  rintro ⟨x2, M⟩ o h hE
  replace h : bX7_findEllipse_31 T x0 x1 x2 M = some o := h
  unfold bX7_findEllipse_31 at h
  show G X B 4 Z Q 31 [(0, .ref (x0)), (1, .int (x1)), (2, .int (x2))] [] T M
  refine g_iload_n (pc := 31) C dX7_findEllipse_31 rfl 2 rfl ?_
  refine g_sipush (pc := 32) (v := 384) C dX7_findEllipse_32 (by decide) ?_
  refine g_icmp_ge (pc := 35) (tgt := 79) C dX7_findEllipse_35 (by decide) (fun c9 => ?_) (fun c9 => ?_)
  · replace h := ifp c9 h
    obtain rfl := Option.some.inj h
    exact g_sub [] rfl (show G X B 4 Z Q 79 [] [] T M from hE)
  · replace h := ifn c9 h
    refine g_aload_n (pc := 38) C dX7_findEllipse_38 rfl 0 rfl ?_
    refine g_iload_n (pc := 39) C dX7_findEllipse_39 rfl 2 rfl ?_
    replace h := gd_some h; obtain ⟨hk10, h⟩ := h
    replace h := bnd h; obtain ⟨r11, h1, h⟩ := h
    refine g_callVi (pc := 40) (As := [.int (x2)]) (st := []) C dX7_findEllipse_40 wX7_has hk10 rfl (by decide) q_904 q_30 q_902 (by omega) rfl (Nat.le_of_ble_eq_true rfl) (kX7_has (d := 0) (Nat.le_refl _) h1) ?_
    refine g_if_eq (pc := 43) (tgt := 73) C dX7_findEllipse_43 (by decide) (fun c12 => ?_) (fun c12 => ?_)
    · replace h := ifp c12 h
      obtain ⟨v13, ev13⟩ : ∃ y : Int32, y = x2 + (1 : Int32) := ⟨_, rfl⟩
      replace h := lt_at ev13 h
      refine g_iinc (pc := 73) (v := v13) (k := 2) (lo2 := [(2, .int (v13)), (0, .ref (x0)), (1, .int (x1))]) C dX7_findEllipse_73 rfl (by rw [ev13]; rfl) (by decide) rfl ?_
      refine g_goto (pc := 76) (tgt := 31) C dX7_findEllipse_76 (by decide) ?_
      obtain rfl := Option.some.inj h
      exact g_sub [1, 2, 0] rfl (show G X B 4 Z Q 31 [(0, .ref (x0)), (1, .int (x1)), (2, .int (v13))] [] T M from hE)
    · replace h := ifn c12 h
      refine g_aload_n (pc := 46) C dX7_findEllipse_46 rfl 0 rfl ?_
      refine g_iload_n (pc := 47) C dX7_findEllipse_47 rfl 2 rfl ?_
      refine g_iload_n (pc := 48) C dX7_findEllipse_48 rfl 1 rfl ?_
      replace h := bnd h; obtain ⟨r14, h1, h⟩ := h
      refine g_callVi (pc := 49) (As := [.int (x2), .int (x1)]) (st := []) C dX7_findEllipse_49 wX7_nearestOutside hk10 rfl (by decide) q_909 q_31 q_907 (by omega) rfl (Nat.le_of_ble_eq_true rfl) (kX7_nearestOutside (d := 1) (Nat.le_refl _) h1) ?_
      refine g_iconst (pc := 52) (v := 1) C dX7_findEllipse_52 (by decide) ?_
      refine g_isub (pc := 53) C dX7_findEllipse_53 ?_
      refine g_topi (fun v15 ev15 => ?_)
      replace h := lt_at ev15 h
      refine g_istore_n (pc := 54) (lo2 := [(3, .int (v15)), (0, .ref (x0)), (1, .int (x1)), (2, .int (x2))]) C dX7_findEllipse_54 rfl (by decide) rfl ?_
      refine g_iload_n (pc := 55) C dX7_findEllipse_55 rfl 0 rfl ?_
      refine g_aload_n (pc := 56) C dX7_findEllipse_56 rfl 1 rfl ?_
      refine g_get (pc := 57) (v := .int (gI M x0 10)) C dX7_findEllipse_57 kX7 hk10 10 (by decide) q_331 rfl ?_
      refine g_icmp_le (pc := 60) (tgt := 73) C dX7_findEllipse_60 (by decide) (fun c16 => ?_) (fun c16 => ?_)
      · replace h := ifp c16 h
        obtain ⟨v17, ev17⟩ : ∃ y : Int32, y = x2 + (1 : Int32) := ⟨_, rfl⟩
        replace h := lt_at ev17 h
        refine g_iinc (pc := 73) (v := v17) (k := 3) (lo2 := [(2, .int (v17)), (3, .int (v15)), (0, .ref (x0)), (1, .int (x1))]) C dX7_findEllipse_73 rfl (by rw [ev17]; rfl) (by decide) rfl ?_
        refine g_goto (pc := 76) (tgt := 31) C dX7_findEllipse_76 (by decide) ?_
        obtain rfl := Option.some.inj h
        exact g_sub [2, 3, 0] rfl (show G X B 4 Z Q 31 [(0, .ref (x0)), (1, .int (x1)), (2, .int (v17))] [] T M from hE)
      · replace h := ifn c16 h
        refine g_aload_n (pc := 63) C dX7_findEllipse_63 rfl 1 rfl ?_
        refine g_iload_n (pc := 64) C dX7_findEllipse_64 rfl 0 rfl ?_
        refine g_putI (pc := 65) C dX7_findEllipse_65 kX7 hk10 10 (by decide) rfl rfl rfl q_331 ?_
        refine g_mem (fun M18 eM18 => ?_)
        replace h := lt_at eM18 h
        refine g_aload_n (pc := 68) C dX7_findEllipse_68 rfl 1 rfl ?_
        refine g_iload_n (pc := 69) C dX7_findEllipse_69 rfl 3 rfl ?_
        refine g_putI (pc := 70) C dX7_findEllipse_70 kX7 hk10 11 (by decide) rfl rfl rfl q_333 ?_
        refine g_mem (fun M19 eM19 => ?_)
        replace h := lt_at eM19 h
        obtain ⟨v20, ev20⟩ : ∃ y : Int32, y = x2 + (1 : Int32) := ⟨_, rfl⟩
        replace h := lt_at ev20 h
        refine g_iinc (pc := 73) (v := v20) (k := 3) (lo2 := [(2, .int (v20)), (3, .int (v15)), (0, .ref (x0)), (1, .int (x1))]) C dX7_findEllipse_73 rfl (by rw [ev20]; rfl) (by decide) rfl ?_
        refine g_goto (pc := 76) (tgt := 31) C dX7_findEllipse_76 (by decide) ?_
        obtain rfl := Option.some.inj h
        exact g_sub [2, 3, 0] rfl (show G X B 4 Z Q 31 [(0, .ref (x0)), (1, .int (x1)), (2, .int (v20))] [] T M19 from hE)
/-- EyeTrainer$Shapes.findEllipse(I)V -/
def fX7_findEllipse (T : Sh) (M : Me) (x0 : Nat) (x1 : Int32) : Option (Unit × Me) :=
  gd (kd T x0 = 6) <| lt (pI M x0 10 (-1 : Int32)) fun M2 => lt (pI M2 x0 11 (-1 : Int32)) fun M3 => (lp FU (fun s => bX7_findEllipse_12 T x0 x1 s.1 s.2) ((0 : Int32), M3)).bind (fun M8 => (lp FU (fun s => bX7_findEllipse_31 T x0 x1 s.1 s.2) ((0 : Int32), M8)).bind (fun M21 => some ((), M21)))
set_option maxHeartbeats 4000000 in
theorem kX7_findEllipse {l : Launch} {B : Bx} {d : Nat} (hd : 2 ≤ d) {T : Sh} {M : Me} {x0 : Nat} {x1 : Int32} {M' : Me} (h : fX7_findEllipse T M x0 x1 = some ((), M')) : Kt l B yX7_findEllipse cX7_findEllipse 4 none d [.ref (x0), .int (x1)] T M none T M' := by
  refine kt_of wX7_findEllipse (Nat.le_refl _) (Nat.le_refl _) (Nat.le_of_ble_eq_true rfl) (fun X C hR hlx hin => ?_)
  subst hlx
  replace C : Cx X B cX7_findEllipse 4 RX7 d (tp T, sl T, tp T, sl T) := C
  unfold fX7_findEllipse at h
  show G X B 4 _ _ 0 [(0, .ref (x0)), (1, .int (x1))] [] T M
  refine g_aload_n (pc := 0) C dX7_findEllipse_0 rfl 0 rfl ?_
  refine g_iconst (pc := 1) (v := (-1)) C dX7_findEllipse_1 (by decide) ?_
  replace h := gd_some h; obtain ⟨hk1, h⟩ := h
  refine g_putI (pc := 2) C dX7_findEllipse_2 kX7 hk1 10 (by decide) rfl rfl rfl q_331 ?_
  refine g_mem (fun M2 eM2 => ?_)
  replace h := lt_at eM2 h
  refine g_aload_n (pc := 5) C dX7_findEllipse_5 rfl 0 rfl ?_
  refine g_iconst (pc := 6) (v := (-1)) C dX7_findEllipse_6 (by decide) ?_
  refine g_putI (pc := 7) C dX7_findEllipse_7 kX7 hk1 11 (by decide) rfl rfl rfl q_333 ?_
  refine g_mem (fun M3 eM3 => ?_)
  replace h := lt_at eM3 h
  refine g_iconst (pc := 10) (v := 0) C dX7_findEllipse_10 (by decide) ?_
  refine g_istore_n (pc := 11) (lo2 := [(2, .int ((0 : Int32))), (0, .ref (x0)), (1, .int (x1))]) C dX7_findEllipse_11 rfl (by decide) rfl ?_
  replace h := bnd h; obtain ⟨M8, h1, h⟩ := h
  refine g_sub [1, 2, 0] rfl ?_
  refine lp_G2 (P := PX7_findEllipse_12 X B _ _ T x0 x1) (E := EX7_findEllipse_12 X B _ _ T x0 x1) (tbX7_findEllipse_12 C hd) h1 ?_
  show G X B 4 _ _ 29 [(0, .ref (x0)), (1, .int (x1))] [] T M8
  refine g_iconst (pc := 29) (v := 0) C dX7_findEllipse_29 (by decide) ?_
  refine g_istore_n (pc := 30) (lo2 := [(2, .int ((0 : Int32))), (0, .ref (x0)), (1, .int (x1))]) C dX7_findEllipse_30 rfl (by decide) rfl ?_
  replace h := bnd h; obtain ⟨M21, h1, h⟩ := h
  refine g_sub [1, 2, 0] rfl ?_
  refine lp_G2 (P := PX7_findEllipse_31 X B _ _ T x0 x1) (E := EX7_findEllipse_31 X B _ _ T x0 x1) (tbX7_findEllipse_31 C hd) h1 ?_
  show G X B 4 _ _ 79 [] [] T M21
  obtain ⟨-, rfl⟩ := Prod.mk.inj (Option.some.inj h)
  exact g_vret C hR dX7_findEllipse_79
theorem dX7_marginOf_0 : decode cX7_marginOf 0 = .ok (.iconst 0, 1) := by decide +kernel
theorem dX7_marginOf_1 : decode cX7_marginOf 1 = .ok (.istore_n 3, 1) := by decide +kernel
theorem dX7_marginOf_2 : decode cX7_marginOf 2 = .ok (.iload_n 1, 1) := by decide +kernel
theorem dX7_marginOf_3 : decode cX7_marginOf 3 = .ok (.iload_n 2, 1) := by decide +kernel
theorem dX7_marginOf_4 : decode cX7_marginOf 4 = .ok (.invokestatic 85, 3) := by decide +kernel
theorem dX7_marginOf_7 : decode cX7_marginOf 7 = .ok (.istore 4, 2) := by decide +kernel
theorem dX7_marginOf_9 : decode cX7_marginOf 9 = .ok (.iload_n 3, 1) := by decide +kernel
theorem dX7_marginOf_10 : decode cX7_marginOf 10 = .ok (.bipush 24, 2) := by decide +kernel
theorem dX7_marginOf_12 : decode cX7_marginOf 12 = .ok (.if_icmp .ge 32, 3) := by decide +kernel
theorem dX7_marginOf_15 : decode cX7_marginOf 15 = .ok (.iload 4, 2) := by decide +kernel
theorem dX7_marginOf_17 : decode cX7_marginOf 17 = .ok (.iconst (-1), 1) := by decide +kernel
theorem dX7_marginOf_18 : decode cX7_marginOf 18 = .ok (.if_icmp .eq 26, 3) := by decide +kernel
theorem dX7_marginOf_21 : decode cX7_marginOf 21 = .ok (.aload_n 0, 1) := by decide +kernel
theorem dX7_marginOf_22 : decode cX7_marginOf 22 = .ok (.iload 4, 2) := by decide +kernel
theorem dX7_marginOf_24 : decode cX7_marginOf 24 = .ok (.invokevirtual 70, 3) := by decide +kernel
theorem dX7_marginOf_27 : decode cX7_marginOf 27 = .ok (.ifCond .eq 17, 3) := by decide +kernel
theorem dX7_marginOf_30 : decode cX7_marginOf 30 = .ok (.iinc 3 1, 3) := by decide +kernel
theorem dX7_marginOf_33 : decode cX7_marginOf 33 = .ok (.iload 4, 2) := by decide +kernel
theorem dX7_marginOf_35 : decode cX7_marginOf 35 = .ok (.iload_n 2, 1) := by decide +kernel
theorem dX7_marginOf_36 : decode cX7_marginOf 36 = .ok (.invokestatic 85, 3) := by decide +kernel
theorem dX7_marginOf_39 : decode cX7_marginOf 39 = .ok (.istore 4, 2) := by decide +kernel
theorem dX7_marginOf_41 : decode cX7_marginOf 41 = .ok (.goto (-32), 3) := by decide +kernel
theorem dX7_marginOf_44 : decode cX7_marginOf 44 = .ok (.iload_n 3, 1) := by decide +kernel
theorem dX7_marginOf_45 : decode cX7_marginOf 45 = .ok (.ireturn, 1) := by decide +kernel
theorem wX7_marginOf : Mw yX7_marginOf cX7_marginOf 5 (some .int) 2 := ⟨q_1046, q_126, by decide, ⟨by decide +kernel, by decide +kernel⟩, by decide +kernel, by decide +kernel⟩
-- a loop of EyeTrainer$Shapes.marginOf at 9
def bX7_marginOf_9 (T : Sh) (M : Me) (x0 : Nat) (x2 : Int32) (x3 : Int32) (x4 : Int32) : Option ((Int32 × Int32) ⊕ (Int32)) :=
  if (24 : Int32) ≤ x3 then (some (.inr x3)) else (if x4 = (-1 : Int32) then (some (.inr x3)) else (gd (kd T x0 = 6) <| Option.bind (fX7_has T M x0 x4) fun r5 => if r5 = 0 then (some (.inr x3)) else (lt (x3 + (1 : Int32)) fun v7 => Option.bind (fX7_beside x4 x2) fun r8 => some (.inl (v7, r8)))))
def PX7_marginOf_9 (X : Fx) (B : Bx) (Z : Nat × Nat × Nat × Nat) (Q : State → Prop) (T : Sh) (M : Me) (x0 : Nat) (x2 : Int32) (s : Int32 × Int32) : Prop := G X B 5 Z Q 9 [(0, .ref (x0)), (2, .int (x2)), (3, .int (s.1)), (4, .int (s.2))] [] T M
def EX7_marginOf_9 (X : Fx) (B : Bx) (Z : Nat × Nat × Nat × Nat) (Q : State → Prop) (T : Sh) (M : Me) (x0 : Nat) (x2 : Int32) (r : Int32) : Prop := G X B 5 Z Q 44 [(3, .int (r))] [] T M
set_option maxHeartbeats 4000000 in
theorem tbX7_marginOf_9 {X : Fx} {B : Bx} {Z : Nat × Nat × Nat × Nat} {Q : State → Prop} {d : Nat} {T : Sh} {M : Me} (C : Cx X B cX7_marginOf 5 RX7 d Z) (hd : 1 ≤ d) {x0 : Nat} {x2 : Int32} : ∀ (s : Int32 × Int32) (o : (Int32 × Int32) ⊕ (Int32)), bX7_marginOf_9 T M x0 x2 s.1 s.2 = some o → lpE (PX7_marginOf_9 X B Z Q T M x0 x2) (EX7_marginOf_9 X B Z Q T M x0 x2) o → PX7_marginOf_9 X B Z Q T M x0 x2 s := by
  rintro ⟨x3, x4⟩ o h hE
  replace h : bX7_marginOf_9 T M x0 x2 x3 x4 = some o := h
  unfold bX7_marginOf_9 at h
  show G X B 5 Z Q 9 [(0, .ref (x0)), (2, .int (x2)), (3, .int (x3)), (4, .int (x4))] [] T M
  refine g_iload_n (pc := 9) C dX7_marginOf_9 rfl 2 rfl ?_
  refine g_bipush (pc := 10) (v := 24) C dX7_marginOf_10 (by decide) ?_
  refine g_icmp_ge (pc := 12) (tgt := 44) C dX7_marginOf_12 (by decide) (fun c2 => ?_) (fun c2 => ?_)
  · replace h := ifp c2 h
    obtain rfl := Option.some.inj h
    exact g_sub [2] rfl (show G X B 5 Z Q 44 [(3, .int (x3))] [] T M from hE)
  · replace h := ifn c2 h
    refine g_iload (pc := 15) C dX7_marginOf_15 3 rfl ?_
    refine g_iconst (pc := 17) (v := (-1)) C dX7_marginOf_17 (by decide) ?_
    refine g_icmp_eq (pc := 18) (tgt := 44) C dX7_marginOf_18 (by decide) (fun c3 => ?_) (fun c3 => ?_)
    · replace h := ifp c3 h
      obtain rfl := Option.some.inj h
      exact g_sub [2] rfl (show G X B 5 Z Q 44 [(3, .int (x3))] [] T M from hE)
    · replace h := ifn c3 h
      refine g_aload_n (pc := 21) C dX7_marginOf_21 rfl 0 rfl ?_
      refine g_iload (pc := 22) C dX7_marginOf_22 3 rfl ?_
      replace h := gd_some h; obtain ⟨hk4, h⟩ := h
      replace h := bnd h; obtain ⟨r5, h1, h⟩ := h
      refine g_callVi (pc := 24) (As := [.int (x4)]) (st := []) C dX7_marginOf_24 wX7_has hk4 rfl (by decide) q_904 q_30 q_902 (by omega) rfl (Nat.le_of_ble_eq_true rfl) (kX7_has (d := 0) (Nat.le_refl _) h1) ?_
      refine g_if_eq (pc := 27) (tgt := 44) C dX7_marginOf_27 (by decide) (fun c6 => ?_) (fun c6 => ?_)
      · replace h := ifp c6 h
        obtain rfl := Option.some.inj h
        exact g_sub [2] rfl (show G X B 5 Z Q 44 [(3, .int (x3))] [] T M from hE)
      · replace h := ifn c6 h
        obtain ⟨v7, ev7⟩ : ∃ y : Int32, y = x3 + (1 : Int32) := ⟨_, rfl⟩
        replace h := lt_at ev7 h
        refine g_iinc (pc := 30) (v := v7) (k := 2) (lo2 := [(3, .int (v7)), (0, .ref (x0)), (2, .int (x2)), (4, .int (x4))]) C dX7_marginOf_30 rfl (by rw [ev7]; rfl) (by decide) rfl ?_
        refine g_iload (pc := 33) C dX7_marginOf_33 3 rfl ?_
        refine g_iload_n (pc := 35) C dX7_marginOf_35 rfl 2 rfl ?_
        replace h := bnd h; obtain ⟨r8, h1, h⟩ := h
        refine g_callSi (pc := 36) (As := [.int (x4), .int (x2)]) (st := []) C dX7_marginOf_36 wX7_beside q_1024 q_1023 (by omega) rfl (Nat.le_of_ble_eq_true rfl) (kX7_beside (d := 0) (Nat.le_refl _) h1) ?_
        refine g_istore (pc := 39) (lo2 := [(4, .int (r8)), (3, .int (v7)), (0, .ref (x0)), (2, .int (x2))]) C dX7_marginOf_39 (by decide) rfl ?_
        refine g_goto (pc := 41) (tgt := 9) C dX7_marginOf_41 (by decide) ?_
        obtain rfl := Option.some.inj h
        exact g_sub [2, 3, 1, 0] rfl (show G X B 5 Z Q 9 [(0, .ref (x0)), (2, .int (x2)), (3, .int (v7)), (4, .int (r8))] [] T M from hE)
/-- EyeTrainer$Shapes.marginOf(II)I -/
def fX7_marginOf (T : Sh) (M : Me) (x0 : Nat) (x1 : Int32) (x2 : Int32) : Option (Int32) :=
  Option.bind (fX7_beside x1 x2) fun r1 => (lp FU (fun s => bX7_marginOf_9 T M x0 x2 s.1 s.2) ((0 : Int32), r1)).bind (fun x3_9 => some x3_9)
set_option maxHeartbeats 4000000 in
theorem kX7_marginOf {l : Launch} {B : Bx} {d : Nat} (hd : 1 ≤ d) {T : Sh} {M : Me} {x0 : Nat} {x1 : Int32} {x2 : Int32} {r : Int32} (h : fX7_marginOf T M x0 x1 x2 = some r) : Kt l B yX7_marginOf cX7_marginOf 5 (some .int) d [.ref (x0), .int (x1), .int (x2)] T M (some (.int r)) T M := by
  refine kt_of wX7_marginOf (Nat.le_refl _) (Nat.le_refl _) (Nat.le_of_ble_eq_true rfl) (fun X C hR hlx hin => ?_)
  subst hlx
  replace C : Cx X B cX7_marginOf 5 RX7 d (tp T, sl T, tp T, sl T) := C
  unfold fX7_marginOf at h
  show G X B 5 _ _ 0 [(0, .ref (x0)), (1, .int (x1)), (2, .int (x2))] [] T M
  refine g_iconst (pc := 0) (v := 0) C dX7_marginOf_0 (by decide) ?_
  refine g_istore_n (pc := 1) (lo2 := [(3, .int ((0 : Int32))), (0, .ref (x0)), (1, .int (x1)), (2, .int (x2))]) C dX7_marginOf_1 rfl (by decide) rfl ?_
  refine g_iload_n (pc := 2) C dX7_marginOf_2 rfl 2 rfl ?_
  refine g_iload_n (pc := 3) C dX7_marginOf_3 rfl 3 rfl ?_
  replace h := bnd h; obtain ⟨r1, h1, h⟩ := h
  refine g_callSi (pc := 4) (As := [.int (x1), .int (x2)]) (st := []) C dX7_marginOf_4 wX7_beside q_1024 q_1023 (by omega) rfl (Nat.le_of_ble_eq_true rfl) (kX7_beside (d := 0) (Nat.le_refl _) h1) ?_
  refine g_istore (pc := 7) (lo2 := [(4, .int (r1)), (3, .int ((0 : Int32))), (0, .ref (x0)), (1, .int (x1)), (2, .int (x2))]) C dX7_marginOf_7 (by decide) rfl ?_
  replace h := bnd h; obtain ⟨x3_9, h1, h⟩ := h
  refine g_sub [2, 4, 1, 0] rfl ?_
  refine lp_G2 (P := PX7_marginOf_9 X B _ _ T M x0 x2) (E := EX7_marginOf_9 X B _ _ T M x0 x2) (tbX7_marginOf_9 C hd) h1 ?_
  show G X B 5 _ _ 44 [(3, .int (x3_9))] [] T M
  refine g_iload_n (pc := 44) C dX7_marginOf_44 rfl 0 rfl ?_
  obtain rfl := Option.some.inj h
  exact g_iret C hR dX7_marginOf_45
