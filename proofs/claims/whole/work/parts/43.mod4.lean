set_option maxRecDepth 20000 in
theorem q_111 : Cond.selects RX12 yX12_laysMaps yX12_laysMaps ∈ lw_gd := mem_gd (List.mem_of_getElem? (i := 111) (by decide +kernel)) rfl
set_option maxRecDepth 20000 in
theorem q_112 : Cond.selects RX12 yX12_isTold yX12_isTold ∈ lw_gd := mem_gd (List.mem_of_getElem? (i := 112) (by decide +kernel)) rfl
set_option maxRecDepth 20000 in
theorem q_113 : Cond.selects RX12 yX12_rowBy yX12_rowBy ∈ lw_gd := mem_gd (List.mem_of_getElem? (i := 113) (by decide +kernel)) rfl
set_option maxRecDepth 20000 in
theorem q_114 : Cond.selects RX12 yX12_laysAhead yX12_laysAhead ∈ lw_gd := mem_gd (List.mem_of_getElem? (i := 114) (by decide +kernel)) rfl
set_option maxRecDepth 20000 in
theorem q_115 : Cond.selects RX12 yX12_laysFar yX12_laysFar ∈ lw_gd := mem_gd (List.mem_of_getElem? (i := 115) (by decide +kernel)) rfl
set_option maxRecDepth 20000 in
theorem q_1261 : Cond.fieldLink RX12 45 "EyeTrainerModel" "maps" "[I" ∈ lw_gd := mem_gd (List.mem_of_getElem? (i := 1261) (by decide +kernel)) rfl
set_option maxRecDepth 20000 in
theorem q_1262 : Cond.fieldLink RX12 48 "EyeTrainerModel" "far" "[I" ∈ lw_gd := mem_gd (List.mem_of_getElem? (i := 1262) (by decide +kernel)) rfl
set_option maxRecDepth 20000 in
theorem q_1263 : Cond.fieldLink RX12 51 "EyeTrainerModel" "many" "[J" ∈ lw_gd := mem_gd (List.mem_of_getElem? (i := 1263) (by decide +kernel)) rfl
set_option maxRecDepth 20000 in
theorem q_1264 : Cond.fieldLink RX12 55 "EyeTrainerModel" "manyThen" "[J" ∈ lw_gd := mem_gd (List.mem_of_getElem? (i := 1264) (by decide +kernel)) rfl
set_option maxRecDepth 20000 in
theorem q_1757 : Cond.code yX12_harshest cX12_harshest 7 (some .int) ∈ lw_gd := mem_gd (List.mem_of_getElem? (i := 1757) (by decide +kernel)) rfl
set_option maxRecDepth 20000 in
theorem q_1758 : Cond.methodLink RX12 418 yX12_laysMaps ∈ lw_gd := mem_gd (List.mem_of_getElem? (i := 1758) (by decide +kernel)) rfl
set_option maxRecDepth 20000 in
theorem q_1760 : Cond.instanceMethod yX12_laysMaps ∈ lw_gd := mem_gd (List.mem_of_getElem? (i := 1760) (by decide +kernel)) rfl
set_option maxRecDepth 20000 in
theorem q_1761 : Cond.code yX12_laysMaps cX12_laysMaps 4 none ∈ lw_gd := mem_gd (List.mem_of_getElem? (i := 1761) (by decide +kernel)) rfl
set_option maxRecDepth 20000 in
theorem q_1765 : Cond.code yX12_tell cX12_tell 5 (some .int) ∈ lw_gd := mem_gd (List.mem_of_getElem? (i := 1765) (by decide +kernel)) rfl
set_option maxRecDepth 20000 in
theorem q_1766 : Cond.methodLink RX12 424 yX12_isTold ∈ lw_gd := mem_gd (List.mem_of_getElem? (i := 1766) (by decide +kernel)) rfl
set_option maxRecDepth 20000 in
theorem q_1768 : Cond.instanceMethod yX12_isTold ∈ lw_gd := mem_gd (List.mem_of_getElem? (i := 1768) (by decide +kernel)) rfl
set_option maxRecDepth 20000 in
theorem q_1769 : Cond.code yX12_isTold cX12_isTold 3 (some .boolean) ∈ lw_gd := mem_gd (List.mem_of_getElem? (i := 1769) (by decide +kernel)) rfl
set_option maxRecDepth 20000 in
theorem q_1770 : Cond.methodLink RX12 421 yX12_rowBy ∈ lw_gd := mem_gd (List.mem_of_getElem? (i := 1770) (by decide +kernel)) rfl
set_option maxRecDepth 20000 in
theorem q_1772 : Cond.instanceMethod yX12_rowBy ∈ lw_gd := mem_gd (List.mem_of_getElem? (i := 1772) (by decide +kernel)) rfl
set_option maxRecDepth 20000 in
theorem q_1773 : Cond.code yX12_rowBy cX12_rowBy 5 (some .int) ∈ lw_gd := mem_gd (List.mem_of_getElem? (i := 1773) (by decide +kernel)) rfl
set_option maxRecDepth 20000 in
theorem q_1777 : Cond.code yX12_later cX12_later 3 (some .int) ∈ lw_gd := mem_gd (List.mem_of_getElem? (i := 1777) (by decide +kernel)) rfl
set_option maxRecDepth 20000 in
theorem q_1778 : Cond.constantLong RX12 427 (999) ∈ lw_gd := mem_gd (List.mem_of_getElem? (i := 1778) (by decide +kernel)) rfl
set_option maxRecDepth 20000 in
theorem q_1779 : Cond.methodLink RX12 429 yX12_laysAhead ∈ lw_gd := mem_gd (List.mem_of_getElem? (i := 1779) (by decide +kernel)) rfl
set_option maxRecDepth 20000 in
theorem q_1781 : Cond.instanceMethod yX12_laysAhead ∈ lw_gd := mem_gd (List.mem_of_getElem? (i := 1781) (by decide +kernel)) rfl
set_option maxRecDepth 20000 in
theorem q_1782 : Cond.code yX12_laysAhead cX12_laysAhead 2 none ∈ lw_gd := mem_gd (List.mem_of_getElem? (i := 1782) (by decide +kernel)) rfl
set_option maxRecDepth 20000 in
theorem q_1786 : Cond.code yX12_holds cX12_holds 3 (some .int) ∈ lw_gd := mem_gd (List.mem_of_getElem? (i := 1786) (by decide +kernel)) rfl
set_option maxRecDepth 20000 in
theorem q_1790 : Cond.code yX12_follows cX12_follows 4 (some .int) ∈ lw_gd := mem_gd (List.mem_of_getElem? (i := 1790) (by decide +kernel)) rfl
set_option maxRecDepth 20000 in
theorem q_1794 : Cond.code yX12_at cX12_at 5 (some .int) ∈ lw_gd := mem_gd (List.mem_of_getElem? (i := 1794) (by decide +kernel)) rfl
set_option maxRecDepth 20000 in
theorem q_1798 : Cond.code yX12_steps cX12_steps 3 (some .int) ∈ lw_gd := mem_gd (List.mem_of_getElem? (i := 1798) (by decide +kernel)) rfl
set_option maxRecDepth 20000 in
theorem q_1799 : Cond.methodLink RX12 435 yX12_laysFar ∈ lw_gd := mem_gd (List.mem_of_getElem? (i := 1799) (by decide +kernel)) rfl
set_option maxRecDepth 20000 in
theorem q_1801 : Cond.instanceMethod yX12_laysFar ∈ lw_gd := mem_gd (List.mem_of_getElem? (i := 1801) (by decide +kernel)) rfl
set_option maxRecDepth 20000 in
theorem q_1802 : Cond.code yX12_laysFar cX12_laysFar 6 (some .int) ∈ lw_gd := mem_gd (List.mem_of_getElem? (i := 1802) (by decide +kernel)) rfl
set_option maxRecDepth 20000 in
theorem q_1803 : Cond.methodLink RX12 432 yX12_stepTo ∈ lw_gd := mem_gd (List.mem_of_getElem? (i := 1803) (by decide +kernel)) rfl
set_option maxRecDepth 20000 in
theorem q_1804 : Cond.static yX12_stepTo ∈ lw_gd := mem_gd (List.mem_of_getElem? (i := 1804) (by decide +kernel)) rfl
set_option maxRecDepth 20000 in
theorem q_1805 : Cond.code yX12_stepTo cX12_stepTo 3 (some .int) ∈ lw_gd := mem_gd (List.mem_of_getElem? (i := 1805) (by decide +kernel)) rfl
set_option maxRecDepth 20000 in
theorem q_1809 : Cond.code yX12_way cX12_way 6 (some .int) ∈ lw_gd := mem_gd (List.mem_of_getElem? (i := 1809) (by decide +kernel)) rfl
set_option maxRecDepth 20000 in
theorem q_1813 : Cond.code yX12_ways cX12_ways 6 (some .long) ∈ lw_gd := mem_gd (List.mem_of_getElem? (i := 1813) (by decide +kernel)) rfl
set_option maxRecDepth 20000 in
theorem q_1814 : Cond.constantLong RX12 438 (-2) ∈ lw_gd := mem_gd (List.mem_of_getElem? (i := 1814) (by decide +kernel)) rfl
set_option maxRecDepth 20000 in
theorem q_1815 : Cond.constantLong RX12 440 (20) ∈ lw_gd := mem_gd (List.mem_of_getElem? (i := 1815) (by decide +kernel)) rfl
set_option maxRecDepth 20000 in
theorem q_1816 : Cond.constantLong RX12 442 (-3) ∈ lw_gd := mem_gd (List.mem_of_getElem? (i := 1816) (by decide +kernel)) rfl
theorem dX12_laysMaps_0 : decode cX12_laysMaps 0 = .ok (.aload_n 0, 1) := by decide +kernel
theorem dX12_laysMaps_1 : decode cX12_laysMaps 1 = .ok (.invokevirtual 251, 3) := by decide +kernel
theorem dX12_laysMaps_4 : decode cX12_laysMaps 4 = .ok (.iconst 0, 1) := by decide +kernel
theorem dX12_laysMaps_5 : decode cX12_laysMaps 5 = .ok (.istore_n 2, 1) := by decide +kernel
theorem dX12_laysMaps_6 : decode cX12_laysMaps 6 = .ok (.iload_n 2, 1) := by decide +kernel
theorem dX12_laysMaps_7 : decode cX12_laysMaps 7 = .ok (.aload_n 0, 1) := by decide +kernel
theorem dX12_laysMaps_8 : decode cX12_laysMaps 8 = .ok (.getfield 13, 3) := by decide +kernel
theorem dX12_laysMaps_11 : decode cX12_laysMaps 11 = .ok (.iconst 4, 1) := by decide +kernel
theorem dX12_laysMaps_12 : decode cX12_laysMaps 12 = .ok (.iaload, 1) := by decide +kernel
theorem dX12_laysMaps_13 : decode cX12_laysMaps 13 = .ok (.if_icmp .ge 53, 3) := by decide +kernel
theorem dX12_laysMaps_16 : decode cX12_laysMaps 16 = .ok (.aload_n 0, 1) := by decide +kernel
theorem dX12_laysMaps_17 : decode cX12_laysMaps 17 = .ok (.aload_n 0, 1) := by decide +kernel
theorem dX12_laysMaps_18 : decode cX12_laysMaps 18 = .ok (.getfield 13, 3) := by decide +kernel
theorem dX12_laysMaps_21 : decode cX12_laysMaps 21 = .ok (.bipush 38, 2) := by decide +kernel
theorem dX12_laysMaps_23 : decode cX12_laysMaps 23 = .ok (.iload_n 2, 1) := by decide +kernel
theorem dX12_laysMaps_24 : decode cX12_laysMaps 24 = .ok (.iadd, 1) := by decide +kernel
theorem dX12_laysMaps_25 : decode cX12_laysMaps 25 = .ok (.iaload, 1) := by decide +kernel
theorem dX12_laysMaps_26 : decode cX12_laysMaps 26 = .ok (.putfield 223, 3) := by decide +kernel
theorem dX12_laysMaps_29 : decode cX12_laysMaps 29 = .ok (.iconst 0, 1) := by decide +kernel
theorem dX12_laysMaps_30 : decode cX12_laysMaps 30 = .ok (.istore_n 3, 1) := by decide +kernel
theorem dX12_laysMaps_31 : decode cX12_laysMaps 31 = .ok (.iload_n 3, 1) := by decide +kernel
theorem dX12_laysMaps_32 : decode cX12_laysMaps 32 = .ok (.bipush 16, 2) := by decide +kernel
theorem dX12_laysMaps_34 : decode cX12_laysMaps 34 = .ok (.if_icmp .ge 26, 3) := by decide +kernel
theorem dX12_laysMaps_37 : decode cX12_laysMaps 37 = .ok (.aload_n 0, 1) := by decide +kernel
theorem dX12_laysMaps_38 : decode cX12_laysMaps 38 = .ok (.getfield 45, 3) := by decide +kernel
theorem dX12_laysMaps_41 : decode cX12_laysMaps 41 = .ok (.bipush 16, 2) := by decide +kernel
theorem dX12_laysMaps_43 : decode cX12_laysMaps 43 = .ok (.iload_n 2, 1) := by decide +kernel
theorem dX12_laysMaps_44 : decode cX12_laysMaps 44 = .ok (.imul, 1) := by decide +kernel
theorem dX12_laysMaps_45 : decode cX12_laysMaps 45 = .ok (.iload_n 3, 1) := by decide +kernel
theorem dX12_laysMaps_46 : decode cX12_laysMaps 46 = .ok (.iadd, 1) := by decide +kernel
theorem dX12_laysMaps_47 : decode cX12_laysMaps 47 = .ok (.aload_n 0, 1) := by decide +kernel
theorem dX12_laysMaps_48 : decode cX12_laysMaps 48 = .ok (.iload_n 1, 1) := by decide +kernel
theorem dX12_laysMaps_49 : decode cX12_laysMaps 49 = .ok (.iload_n 3, 1) := by decide +kernel
theorem dX12_laysMaps_50 : decode cX12_laysMaps 50 = .ok (.invokevirtual 233, 3) := by decide +kernel
theorem dX12_laysMaps_53 : decode cX12_laysMaps 53 = .ok (.iastore, 1) := by decide +kernel
theorem dX12_laysMaps_54 : decode cX12_laysMaps 54 = .ok (.iinc 3 1, 3) := by decide +kernel
theorem dX12_laysMaps_57 : decode cX12_laysMaps 57 = .ok (.goto (-26), 3) := by decide +kernel
theorem dX12_laysMaps_60 : decode cX12_laysMaps 60 = .ok (.iinc 2 1, 3) := by decide +kernel
theorem dX12_laysMaps_63 : decode cX12_laysMaps 63 = .ok (.goto (-57), 3) := by decide +kernel
theorem dX12_laysMaps_66 : decode cX12_laysMaps 66 = .ok (.return_, 1) := by decide +kernel
theorem wX12_laysMaps : Mw yX12_laysMaps cX12_laysMaps 4 none 1 := ⟨q_1761, q_130, by decide, ⟨by decide +kernel, by decide +kernel⟩, by decide +kernel, by decide +kernel⟩
-- a loop of EyeTrainerModel.laysMaps at 6
-- a loop of EyeTrainerModel.laysMaps at 31
def bX12_laysMaps_31 (T : Sh) (x0 : Nat) (x1 : Int32) (x2 : Int32) (x3 : Int32) (M : Me) : Option ((Int32 × Me) ⊕ (Me)) :=
  if (16 : Int32) ≤ x3 then (some (.inr M)) else (gd (kd T x0 = 11) <| Option.bind (gR M x0 34) fun a14 => Option.bind (fX12_rowOf T M x0 x1 x3) <| un2 fun r15 M16 => gd (kd T a14 = 13) <| gv (((16 : Int32) * x2) + x3) (ln T a14) <| lt (pI M16 a14 (Int32.toNatClampNeg (((16 : Int32) * x2) + x3)) r15) fun M19 => lt (x3 + (1 : Int32)) fun v20 => some (.inl (v20, M19)))
def PX12_laysMaps_31 (X : Fx) (B : Bx) (Z : Nat × Nat × Nat × Nat) (Q : State → Prop) (T : Sh) (x0 : Nat) (x1 : Int32) (x2 : Int32) (s : Int32 × Me) : Prop := G X B 4 Z Q 31 [(0, .ref (x0)), (1, .int (x1)), (2, .int (x2)), (3, .int (s.1))] [] T s.2
def EX12_laysMaps_31 (X : Fx) (B : Bx) (Z : Nat × Nat × Nat × Nat) (Q : State → Prop) (T : Sh) (x0 : Nat) (x1 : Int32) (x2 : Int32) (r : Me) : Prop := G X B 4 Z Q 60 [(0, .ref (x0)), (1, .int (x1)), (2, .int (x2))] [] T r
set_option maxHeartbeats 4000000 in
theorem tbX12_laysMaps_31 {X : Fx} {B : Bx} {Z : Nat × Nat × Nat × Nat} {Q : State → Prop} {d : Nat} {T : Sh} (C : Cx X B cX12_laysMaps 4 RX12 d Z) (hd : 4 ≤ d) {x0 : Nat} {x1 : Int32} {x2 : Int32} : ∀ (s : Int32 × Me) (o : (Int32 × Me) ⊕ (Me)), bX12_laysMaps_31 T x0 x1 x2 s.1 s.2 = some o → lpE (PX12_laysMaps_31 X B Z Q T x0 x1 x2) (EX12_laysMaps_31 X B Z Q T x0 x1 x2) o → PX12_laysMaps_31 X B Z Q T x0 x1 x2 s := by
  rintro ⟨x3, M⟩ o h hE
  replace h : bX12_laysMaps_31 T x0 x1 x2 x3 M = some o := h
  unfold bX12_laysMaps_31 at h
  show G X B 4 Z Q 31 [(0, .ref (x0)), (1, .int (x1)), (2, .int (x2)), (3, .int (x3))] [] T M
  refine g_iload_n (pc := 31) C dX12_laysMaps_31 rfl 3 rfl ?_
  refine g_bipush (pc := 32) (v := 16) C dX12_laysMaps_32 (by decide) ?_
  refine g_icmp_ge (pc := 34) (tgt := 60) C dX12_laysMaps_34 (by decide) (fun c12 => ?_) (fun c12 => ?_)
  · replace h := ifp c12 h
    obtain rfl := Option.some.inj h
    exact g_sub [0, 1, 2] rfl (show G X B 4 Z Q 60 [(0, .ref (x0)), (1, .int (x1)), (2, .int (x2))] [] T M from hE)
  · replace h := ifn c12 h
    refine g_aload_n (pc := 37) C dX12_laysMaps_37 rfl 0 rfl ?_
    replace h := gd_some h; obtain ⟨hk13, h⟩ := h
    refine g_get (pc := 38) (v := va_rf (gR M x0 34)) C dX12_laysMaps_38 kX12 hk13 34 (by decide) q_1261 rfl ?_
    replace h := bnd h; obtain ⟨a14, ea14, h⟩ := h
    refine g_refq ea14 ?_
    refine g_bipush (pc := 41) (v := 16) C dX12_laysMaps_41 (by decide) ?_
    refine g_iload_n (pc := 43) C dX12_laysMaps_43 rfl 2 rfl ?_
    refine g_imul (pc := 44) C dX12_laysMaps_44 ?_
    refine g_iload_n (pc := 45) C dX12_laysMaps_45 rfl 3 rfl ?_
    refine g_iadd (pc := 46) C dX12_laysMaps_46 ?_
    refine g_aload_n (pc := 47) C dX12_laysMaps_47 rfl 0 rfl ?_
    refine g_iload_n (pc := 48) C dX12_laysMaps_48 rfl 1 rfl ?_
    refine g_iload_n (pc := 49) C dX12_laysMaps_49 rfl 3 rfl ?_
    replace h := bnd2 h; obtain ⟨r15, M16, h1, h⟩ := h
    refine g_callVi (pc := 50) (As := [.int (x1), .int (x3)]) (st := [.int (((16 : Int32) * x2) + x3), .ref (a14)]) C dX12_laysMaps_50 wX12_rowOf hk13 rfl (by decide) q_1540 q_82 q_1538 (by omega) rfl (Nat.le_of_ble_eq_true rfl) (kX12_rowOf (d := 3) (Nat.le_refl _) h1) ?_
    replace h := gd_some h; obtain ⟨hk17, h⟩ := h
    replace h := gv_some h; obtain ⟨hi18, h⟩ := h
    refine g_iast (pc := 53) C dX12_laysMaps_53 hk17 hi18 ?_
    refine g_mem (fun M19 eM19 => ?_)
    replace h := lt_at eM19 h
    obtain ⟨v20, ev20⟩ : ∃ y : Int32, y = x3 + (1 : Int32) := ⟨_, rfl⟩
    replace h := lt_at ev20 h
    refine g_iinc (pc := 54) (v := v20) (k := 3) (lo2 := [(3, .int (v20)), (0, .ref (x0)), (1, .int (x1)), (2, .int (x2))]) C dX12_laysMaps_54 rfl (by rw [ev20]; rfl) (by decide) rfl ?_
    refine g_goto (pc := 57) (tgt := 31) C dX12_laysMaps_57 (by decide) ?_
    obtain rfl := Option.some.inj h
    exact g_sub [1, 2, 3, 0] rfl (show G X B 4 Z Q 31 [(0, .ref (x0)), (1, .int (x1)), (2, .int (x2)), (3, .int (v20))] [] T M19 from hE)
def bX12_laysMaps_6 (T : Sh) (x0 : Nat) (x1 : Int32) (x2 : Int32) (M : Me) : Option ((Int32 × Me) ⊕ (Me)) :=
  gd (kd T x0 = 11) <| Option.bind (gR M x0 1) fun a4 => gd (kd T a4 = 13) <| gv (4 : Int32) (ln T a4) <| if (gI M a4 (Int32.toNatClampNeg (4 : Int32))) ≤ x2 then (some (.inr M)) else (Option.bind (gR M x0 1) fun a8 => gd (kd T a8 = 13) <| gv ((38 : Int32) + x2) (ln T a8) <| lt (pI M x0 19 (gI M a8 (Int32.toNatClampNeg ((38 : Int32) + x2)))) fun M11 => (lp FU (fun s => bX12_laysMaps_31 T x0 x1 x2 s.1 s.2) ((0 : Int32), M11)).bind (fun M21 => lt (x2 + (1 : Int32)) fun v22 => some (.inl (v22, M21))))
def PX12_laysMaps_6 (X : Fx) (B : Bx) (Z : Nat × Nat × Nat × Nat) (Q : State → Prop) (T : Sh) (x0 : Nat) (x1 : Int32) (s : Int32 × Me) : Prop := G X B 4 Z Q 6 [(0, .ref (x0)), (1, .int (x1)), (2, .int (s.1))] [] T s.2
def EX12_laysMaps_6 (X : Fx) (B : Bx) (Z : Nat × Nat × Nat × Nat) (Q : State → Prop) (T : Sh) (x0 : Nat) (x1 : Int32) (r : Me) : Prop := G X B 4 Z Q 66 [] [] T r
set_option maxHeartbeats 4000000 in
theorem tbX12_laysMaps_6 {X : Fx} {B : Bx} {Z : Nat × Nat × Nat × Nat} {Q : State → Prop} {d : Nat} {T : Sh} (C : Cx X B cX12_laysMaps 4 RX12 d Z) (hd : 4 ≤ d) {x0 : Nat} {x1 : Int32} : ∀ (s : Int32 × Me) (o : (Int32 × Me) ⊕ (Me)), bX12_laysMaps_6 T x0 x1 s.1 s.2 = some o → lpE (PX12_laysMaps_6 X B Z Q T x0 x1) (EX12_laysMaps_6 X B Z Q T x0 x1) o → PX12_laysMaps_6 X B Z Q T x0 x1 s := by
  rintro ⟨x2, M⟩ o h hE
  replace h : bX12_laysMaps_6 T x0 x1 x2 M = some o := h
  unfold bX12_laysMaps_6 at h
  show G X B 4 Z Q 6 [(0, .ref (x0)), (1, .int (x1)), (2, .int (x2))] [] T M
  refine g_iload_n (pc := 6) C dX12_laysMaps_6 rfl 2 rfl ?_
  refine g_aload_n (pc := 7) C dX12_laysMaps_7 rfl 0 rfl ?_
  replace h := gd_some h; obtain ⟨hk3, h⟩ := h
  refine g_get (pc := 8) (v := va_rf (gR M x0 1)) C dX12_laysMaps_8 kX12 hk3 1 (by decide) q_1228 rfl ?_
  replace h := bnd h; obtain ⟨a4, ea4, h⟩ := h
  refine g_refq ea4 ?_
  refine g_iconst (pc := 11) (v := 4) C dX12_laysMaps_11 (by decide) ?_
  replace h := gd_some h; obtain ⟨hk5, h⟩ := h
  replace h := gv_some h; obtain ⟨hi6, h⟩ := h
  refine g_iald (pc := 12) C dX12_laysMaps_12 hk5 hi6 ?_
  refine g_icmp_ge (pc := 13) (tgt := 66) C dX12_laysMaps_13 (by decide) (fun c7 => ?_) (fun c7 => ?_)
  · replace h := ifp c7 h
    obtain rfl := Option.some.inj h
    exact g_sub [] rfl (show G X B 4 Z Q 66 [] [] T M from hE)
  · replace h := ifn c7 h
    refine g_aload_n (pc := 16) C dX12_laysMaps_16 rfl 0 rfl ?_
    refine g_aload_n (pc := 17) C dX12_laysMaps_17 rfl 0 rfl ?_
    refine g_get (pc := 18) (v := va_rf (gR M x0 1)) C dX12_laysMaps_18 kX12 hk3 1 (by decide) q_1228 rfl ?_
    replace h := bnd h; obtain ⟨a8, ea8, h⟩ := h
    refine g_refq ea8 ?_
    refine g_bipush (pc := 21) (v := 38) C dX12_laysMaps_21 (by decide) ?_
    refine g_iload_n (pc := 23) C dX12_laysMaps_23 rfl 2 rfl ?_
    refine g_iadd (pc := 24) C dX12_laysMaps_24 ?_
    replace h := gd_some h; obtain ⟨hk9, h⟩ := h
    replace h := gv_some h; obtain ⟨hi10, h⟩ := h
    refine g_iald (pc := 25) C dX12_laysMaps_25 hk9 hi10 ?_
    refine g_putI (pc := 26) C dX12_laysMaps_26 kX12 hk3 19 (by decide) rfl rfl rfl q_1246 ?_
    refine g_mem (fun M11 eM11 => ?_)
    replace h := lt_at eM11 h
    refine g_iconst (pc := 29) (v := 0) C dX12_laysMaps_29 (by decide) ?_
    refine g_istore_n (pc := 30) (lo2 := [(3, .int ((0 : Int32))), (0, .ref (x0)), (1, .int (x1)), (2, .int (x2))]) C dX12_laysMaps_30 rfl (by decide) rfl ?_
    replace h := bnd h; obtain ⟨M21, h1, h⟩ := h
    refine g_sub [1, 2, 3, 0] rfl ?_
    refine lp_G2 (P := PX12_laysMaps_31 X B _ _ T x0 x1 x2) (E := EX12_laysMaps_31 X B _ _ T x0 x1 x2) (tbX12_laysMaps_31 C hd) h1 ?_
    show G X B 4 _ _ 60 [(0, .ref (x0)), (1, .int (x1)), (2, .int (x2))] [] T M21
    obtain ⟨v22, ev22⟩ : ∃ y : Int32, y = x2 + (1 : Int32) := ⟨_, rfl⟩
    replace h := lt_at ev22 h
    refine g_iinc (pc := 60) (v := v22) (k := 2) (lo2 := [(2, .int (v22)), (0, .ref (x0)), (1, .int (x1))]) C dX12_laysMaps_60 rfl (by rw [ev22]; rfl) (by decide) rfl ?_
    refine g_goto (pc := 63) (tgt := 6) C dX12_laysMaps_63 (by decide) ?_
    obtain rfl := Option.some.inj h
    exact g_sub [1, 2, 0] rfl (show G X B 4 Z Q 6 [(0, .ref (x0)), (1, .int (x1)), (2, .int (v22))] [] T M21 from hE)
/-- EyeTrainerModel.laysMaps(I)V -/
def fX12_laysMaps (T : Sh) (M : Me) (x0 : Nat) (x1 : Int32) : Option (Unit × Me) :=
  gd (kd T x0 = 11) <| Option.bind (fX12_laysNow T M x0) <| un2 fun _u M2 => (lp FU (fun s => bX12_laysMaps_6 T x0 x1 s.1 s.2) ((0 : Int32), M2)).bind (fun M23 => some ((), M23))
set_option maxHeartbeats 4000000 in
theorem kX12_laysMaps {l : Launch} {B : Bx} {d : Nat} (hd : 4 ≤ d) {T : Sh} {M : Me} {x0 : Nat} {x1 : Int32} {M' : Me} (h : fX12_laysMaps T M x0 x1 = some ((), M')) : Kt l B yX12_laysMaps cX12_laysMaps 4 none d [.ref (x0), .int (x1)] T M none T M' := by
  refine kt_of wX12_laysMaps (Nat.le_refl _) (Nat.le_refl _) (Nat.le_of_ble_eq_true rfl) (fun X C hR hlx hin => ?_)
  subst hlx
  replace C : Cx X B cX12_laysMaps 4 RX12 d (tp T, sl T, tp T, sl T) := C
  unfold fX12_laysMaps at h
  show G X B 4 _ _ 0 [(0, .ref (x0)), (1, .int (x1))] [] T M
  refine g_aload_n (pc := 0) C dX12_laysMaps_0 rfl 0 rfl ?_
  replace h := gd_some h; obtain ⟨hk1, h⟩ := h
  replace h := bnd2 h; obtain ⟨_u, M2, h1, h⟩ := h
  refine g_callVv (pc := 1) (As := []) (st := []) C dX12_laysMaps_1 wX12_laysNow hk1 rfl (by decide) q_1485 q_76 q_1483 (by omega) rfl (Nat.le_of_ble_eq_true rfl) (kX12_laysNow (d := 3) (Nat.le_refl _) h1) ?_
  refine g_iconst (pc := 4) (v := 0) C dX12_laysMaps_4 (by decide) ?_
  refine g_istore_n (pc := 5) (lo2 := [(2, .int ((0 : Int32))), (0, .ref (x0)), (1, .int (x1))]) C dX12_laysMaps_5 rfl (by decide) rfl ?_
  replace h := bnd h; obtain ⟨M23, h1, h⟩ := h
  refine g_sub [1, 2, 0] rfl ?_
  refine lp_G2 (P := PX12_laysMaps_6 X B _ _ T x0 x1) (E := EX12_laysMaps_6 X B _ _ T x0 x1) (tbX12_laysMaps_6 C hd) h1 ?_
  show G X B 4 _ _ 66 [] [] T M23
  obtain ⟨-, rfl⟩ := Prod.mk.inj (Option.some.inj h)
  exact g_vret C hR dX12_laysMaps_66
theorem dX12_harshest_0 : decode cX12_harshest 0 = .ok (.aload_n 0, 1) := by decide +kernel
theorem dX12_harshest_1 : decode cX12_harshest 1 = .ok (.iconst 0, 1) := by decide +kernel
theorem dX12_harshest_2 : decode cX12_harshest 2 = .ok (.putfield 1, 3) := by decide +kernel
theorem dX12_harshest_5 : decode cX12_harshest 5 = .ok (.aload_n 0, 1) := by decide +kernel
theorem dX12_harshest_6 : decode cX12_harshest 6 = .ok (.iload_n 1, 1) := by decide +kernel
theorem dX12_harshest_7 : decode cX12_harshest 7 = .ok (.i2l, 1) := by decide +kernel
theorem dX12_harshest_8 : decode cX12_harshest 8 = .ok (.invokevirtual 247, 3) := by decide +kernel
theorem dX12_harshest_11 : decode cX12_harshest 11 = .ok (.ifCond .ne 6, 3) := by decide +kernel
theorem dX12_harshest_14 : decode cX12_harshest 14 = .ok (.bipush (-2), 2) := by decide +kernel
theorem dX12_harshest_16 : decode cX12_harshest 16 = .ok (.ireturn, 1) := by decide +kernel
theorem dX12_harshest_17 : decode cX12_harshest 17 = .ok (.aload_n 0, 1) := by decide +kernel
theorem dX12_harshest_18 : decode cX12_harshest 18 = .ok (.iload_n 1, 1) := by decide +kernel
theorem dX12_harshest_19 : decode cX12_harshest 19 = .ok (.invokevirtual 418, 3) := by decide +kernel
theorem dX12_harshest_22 : decode cX12_harshest 22 = .ok (.iconst (-1), 1) := by decide +kernel
theorem dX12_harshest_23 : decode cX12_harshest 23 = .ok (.istore_n 2, 1) := by decide +kernel
theorem dX12_harshest_24 : decode cX12_harshest 24 = .ok (.ldc_w 294, 3) := by decide +kernel
theorem dX12_harshest_27 : decode cX12_harshest 27 = .ok (.istore_n 3, 1) := by decide +kernel
theorem dX12_harshest_28 : decode cX12_harshest 28 = .ok (.iconst 0, 1) := by decide +kernel
theorem dX12_harshest_29 : decode cX12_harshest 29 = .ok (.istore 4, 2) := by decide +kernel
theorem dX12_harshest_31 : decode cX12_harshest 31 = .ok (.iload 4, 2) := by decide +kernel
theorem dX12_harshest_33 : decode cX12_harshest 33 = .ok (.aload_n 0, 1) := by decide +kernel
theorem dX12_harshest_34 : decode cX12_harshest 34 = .ok (.getfield 13, 3) := by decide +kernel
theorem dX12_harshest_37 : decode cX12_harshest 37 = .ok (.iconst 4, 1) := by decide +kernel
theorem dX12_harshest_38 : decode cX12_harshest 38 = .ok (.iaload, 1) := by decide +kernel
theorem dX12_harshest_39 : decode cX12_harshest 39 = .ok (.if_icmp .ge 64, 3) := by decide +kernel
theorem dX12_harshest_42 : decode cX12_harshest 42 = .ok (.iconst 0, 1) := by decide +kernel
theorem dX12_harshest_43 : decode cX12_harshest 43 = .ok (.istore 5, 2) := by decide +kernel
theorem dX12_harshest_45 : decode cX12_harshest 45 = .ok (.iconst 0, 1) := by decide +kernel
theorem dX12_harshest_46 : decode cX12_harshest 46 = .ok (.istore 6, 2) := by decide +kernel
theorem dX12_harshest_48 : decode cX12_harshest 48 = .ok (.iload 6, 2) := by decide +kernel
theorem dX12_harshest_50 : decode cX12_harshest 50 = .ok (.bipush 16, 2) := by decide +kernel
theorem dX12_harshest_52 : decode cX12_harshest 52 = .ok (.if_icmp .ge 30, 3) := by decide +kernel
theorem dX12_harshest_55 : decode cX12_harshest 55 = .ok (.iload 5, 2) := by decide +kernel
theorem dX12_harshest_57 : decode cX12_harshest 57 = .ok (.aload_n 0, 1) := by decide +kernel
theorem dX12_harshest_58 : decode cX12_harshest 58 = .ok (.getfield 45, 3) := by decide +kernel
theorem dX12_harshest_61 : decode cX12_harshest 61 = .ok (.bipush 16, 2) := by decide +kernel
theorem dX12_harshest_63 : decode cX12_harshest 63 = .ok (.iload 4, 2) := by decide +kernel
theorem dX12_harshest_65 : decode cX12_harshest 65 = .ok (.imul, 1) := by decide +kernel
theorem dX12_harshest_66 : decode cX12_harshest 66 = .ok (.iload 6, 2) := by decide +kernel
theorem dX12_harshest_68 : decode cX12_harshest 68 = .ok (.iadd, 1) := by decide +kernel
theorem dX12_harshest_69 : decode cX12_harshest 69 = .ok (.iaload, 1) := by decide +kernel
theorem dX12_harshest_70 : decode cX12_harshest 70 = .ok (.invokestatic 244, 3) := by decide +kernel
theorem dX12_harshest_73 : decode cX12_harshest 73 = .ok (.iadd, 1) := by decide +kernel
theorem dX12_harshest_74 : decode cX12_harshest 74 = .ok (.istore 5, 2) := by decide +kernel
theorem dX12_harshest_76 : decode cX12_harshest 76 = .ok (.iinc 6 1, 3) := by decide +kernel
theorem dX12_harshest_79 : decode cX12_harshest 79 = .ok (.goto (-31), 3) := by decide +kernel
theorem dX12_harshest_82 : decode cX12_harshest 82 = .ok (.iload 5, 2) := by decide +kernel
theorem dX12_harshest_84 : decode cX12_harshest 84 = .ok (.iload_n 3, 1) := by decide +kernel
theorem dX12_harshest_85 : decode cX12_harshest 85 = .ok (.if_icmp .lt 6, 3) := by decide +kernel
theorem dX12_harshest_88 : decode cX12_harshest 88 = .ok (.goto 9, 3) := by decide +kernel
theorem dX12_harshest_91 : decode cX12_harshest 91 = .ok (.iload 4, 2) := by decide +kernel
theorem dX12_harshest_93 : decode cX12_harshest 93 = .ok (.istore_n 2, 1) := by decide +kernel
theorem dX12_harshest_94 : decode cX12_harshest 94 = .ok (.iload 5, 2) := by decide +kernel
theorem dX12_harshest_96 : decode cX12_harshest 96 = .ok (.istore_n 3, 1) := by decide +kernel
theorem dX12_harshest_97 : decode cX12_harshest 97 = .ok (.iinc 4 1, 3) := by decide +kernel
theorem dX12_harshest_100 : decode cX12_harshest 100 = .ok (.goto (-69), 3) := by decide +kernel
theorem dX12_harshest_103 : decode cX12_harshest 103 = .ok (.iload_n 2, 1) := by decide +kernel
theorem dX12_harshest_104 : decode cX12_harshest 104 = .ok (.ireturn, 1) := by decide +kernel
theorem wX12_harshest : Mw yX12_harshest cX12_harshest 7 (some .int) 1 := ⟨q_1757, q_130, by decide, ⟨by decide +kernel, by decide +kernel⟩, by decide +kernel, by decide +kernel⟩
-- a loop of EyeTrainerModel.harshest at 31
-- a loop of EyeTrainerModel.harshest at 48
def bX12_harshest_48 (T : Sh) (M : Me) (x0 : Nat) (x2 : Int32) (x3 : Int32) (x4 : Int32) (x5 : Int32) (x6 : Int32) : Option ((Int32 × Int32) ⊕ (Int32)) :=
  if (16 : Int32) ≤ x6 then (some (.inr x5)) else (gd (kd T x0 = 11) <| Option.bind (gR M x0 34) fun a13 => gd (kd T a13 = 13) <| gv (((16 : Int32) * x4) + x6) (ln T a13) <| Option.bind (fX12_bitsOf (gI M a13 (Int32.toNatClampNeg (((16 : Int32) * x4) + x6)))) fun r16 => lt (x5 + r16) fun v17 => lt (x6 + (1 : Int32)) fun v18 => some (.inl (v17, v18)))
def PX12_harshest_48 (X : Fx) (B : Bx) (Z : Nat × Nat × Nat × Nat) (Q : State → Prop) (T : Sh) (M : Me) (x0 : Nat) (x2 : Int32) (x3 : Int32) (x4 : Int32) (s : Int32 × Int32) : Prop := G X B 7 Z Q 48 [(0, .ref (x0)), (2, .int (x2)), (3, .int (x3)), (4, .int (x4)), (5, .int (s.1)), (6, .int (s.2))] [] T M
def EX12_harshest_48 (X : Fx) (B : Bx) (Z : Nat × Nat × Nat × Nat) (Q : State → Prop) (T : Sh) (M : Me) (x0 : Nat) (x2 : Int32) (x3 : Int32) (x4 : Int32) (r : Int32) : Prop := G X B 7 Z Q 82 [(0, .ref (x0)), (2, .int (x2)), (3, .int (x3)), (4, .int (x4)), (5, .int (r))] [] T M
set_option maxHeartbeats 4000000 in
theorem tbX12_harshest_48 {X : Fx} {B : Bx} {Z : Nat × Nat × Nat × Nat} {Q : State → Prop} {d : Nat} {T : Sh} {M : Me} (C : Cx X B cX12_harshest 7 RX12 d Z) (hd : 5 ≤ d) {x0 : Nat} {x2 : Int32} {x3 : Int32} {x4 : Int32} : ∀ (s : Int32 × Int32) (o : (Int32 × Int32) ⊕ (Int32)), bX12_harshest_48 T M x0 x2 x3 x4 s.1 s.2 = some o → lpE (PX12_harshest_48 X B Z Q T M x0 x2 x3 x4) (EX12_harshest_48 X B Z Q T M x0 x2 x3 x4) o → PX12_harshest_48 X B Z Q T M x0 x2 x3 x4 s := by
  rintro ⟨x5, x6⟩ o h hE
  replace h : bX12_harshest_48 T M x0 x2 x3 x4 x5 x6 = some o := h
  unfold bX12_harshest_48 at h
  show G X B 7 Z Q 48 [(0, .ref (x0)), (2, .int (x2)), (3, .int (x3)), (4, .int (x4)), (5, .int (x5)), (6, .int (x6))] [] T M
  refine g_iload (pc := 48) C dX12_harshest_48 5 rfl ?_
  refine g_bipush (pc := 50) (v := 16) C dX12_harshest_50 (by decide) ?_
  refine g_icmp_ge (pc := 52) (tgt := 82) C dX12_harshest_52 (by decide) (fun c11 => ?_) (fun c11 => ?_)
  · replace h := ifp c11 h
    obtain rfl := Option.some.inj h
    exact g_sub [0, 1, 2, 3, 4] rfl (show G X B 7 Z Q 82 [(0, .ref (x0)), (2, .int (x2)), (3, .int (x3)), (4, .int (x4)), (5, .int (x5))] [] T M from hE)
  · replace h := ifn c11 h
    refine g_iload (pc := 55) C dX12_harshest_55 4 rfl ?_
    refine g_aload_n (pc := 57) C dX12_harshest_57 rfl 0 rfl ?_
    replace h := gd_some h; obtain ⟨hk12, h⟩ := h
    refine g_get (pc := 58) (v := va_rf (gR M x0 34)) C dX12_harshest_58 kX12 hk12 34 (by decide) q_1261 rfl ?_
    replace h := bnd h; obtain ⟨a13, ea13, h⟩ := h
    refine g_refq ea13 ?_
    refine g_bipush (pc := 61) (v := 16) C dX12_harshest_61 (by decide) ?_
    refine g_iload (pc := 63) C dX12_harshest_63 3 rfl ?_
    refine g_imul (pc := 65) C dX12_harshest_65 ?_
    refine g_iload (pc := 66) C dX12_harshest_66 5 rfl ?_
    refine g_iadd (pc := 68) C dX12_harshest_68 ?_
    replace h := gd_some h; obtain ⟨hk14, h⟩ := h
    replace h := gv_some h; obtain ⟨hi15, h⟩ := h
    refine g_iald (pc := 69) C dX12_harshest_69 hk14 hi15 ?_
    replace h := bnd h; obtain ⟨r16, h1, h⟩ := h
    refine g_callSi (pc := 70) (As := [.int (gI M a13 (Int32.toNatClampNeg (((16 : Int32) * x4) + x6)))]) (st := [.int (x5)]) C dX12_harshest_70 wX12_bitsOf q_1591 q_1590 (by omega) rfl (Nat.le_of_ble_eq_true rfl) (kX12_bitsOf (d := 0) (Nat.le_refl _) h1) ?_
    refine g_iadd (pc := 73) C dX12_harshest_73 ?_
    refine g_topi (fun v17 ev17 => ?_)
    replace h := lt_at ev17 h
    refine g_istore (pc := 74) (lo2 := [(5, .int (v17)), (0, .ref (x0)), (2, .int (x2)), (3, .int (x3)), (4, .int (x4)), (6, .int (x6))]) C dX12_harshest_74 (by decide) rfl ?_
    obtain ⟨v18, ev18⟩ : ∃ y : Int32, y = x6 + (1 : Int32) := ⟨_, rfl⟩
    replace h := lt_at ev18 h
    refine g_iinc (pc := 76) (v := v18) (k := 5) (lo2 := [(6, .int (v18)), (5, .int (v17)), (0, .ref (x0)), (2, .int (x2)), (3, .int (x3)), (4, .int (x4))]) C dX12_harshest_76 rfl (by rw [ev18]; rfl) (by decide) rfl ?_
    refine g_goto (pc := 79) (tgt := 48) C dX12_harshest_79 (by decide) ?_
    obtain rfl := Option.some.inj h
    exact g_sub [2, 3, 4, 5, 1, 0] rfl (show G X B 7 Z Q 48 [(0, .ref (x0)), (2, .int (x2)), (3, .int (x3)), (4, .int (x4)), (5, .int (v17)), (6, .int (v18))] [] T M from hE)
def bX12_harshest_31 (T : Sh) (M : Me) (x0 : Nat) (x2 : Int32) (x3 : Int32) (x4 : Int32) : Option ((Int32 × Int32 × Int32) ⊕ (Int32)) :=
  gd (kd T x0 = 11) <| Option.bind (gR M x0 1) fun a7 => gd (kd T a7 = 13) <| gv (4 : Int32) (ln T a7) <| if (gI M a7 (Int32.toNatClampNeg (4 : Int32))) ≤ x4 then (some (.inr x2)) else ((lp FU (fun s => bX12_harshest_48 T M x0 x2 x3 x4 s.1 s.2) ((0 : Int32), (0 : Int32))).bind (fun x5_19 => if x5_19 < x3 then (lt (x4 + (1 : Int32)) fun v21 => some (.inl (x4, x5_19, v21))) else (lt (x4 + (1 : Int32)) fun v22 => some (.inl (x2, x3, v22)))))
def PX12_harshest_31 (X : Fx) (B : Bx) (Z : Nat × Nat × Nat × Nat) (Q : State → Prop) (T : Sh) (M : Me) (x0 : Nat) (s : Int32 × Int32 × Int32) : Prop := G X B 7 Z Q 31 [(0, .ref (x0)), (2, .int (s.1)), (3, .int (s.2.1)), (4, .int (s.2.2))] [] T M
def EX12_harshest_31 (X : Fx) (B : Bx) (Z : Nat × Nat × Nat × Nat) (Q : State → Prop) (T : Sh) (M : Me) (x0 : Nat) (r : Int32) : Prop := G X B 7 Z Q 103 [(2, .int (r))] [] T M
set_option maxHeartbeats 4000000 in
theorem tbX12_harshest_31 {X : Fx} {B : Bx} {Z : Nat × Nat × Nat × Nat} {Q : State → Prop} {d : Nat} {T : Sh} {M : Me} (C : Cx X B cX12_harshest 7 RX12 d Z) (hd : 5 ≤ d) {x0 : Nat} : ∀ (s : Int32 × Int32 × Int32) (o : (Int32 × Int32 × Int32) ⊕ (Int32)), bX12_harshest_31 T M x0 s.1 s.2.1 s.2.2 = some o → lpE (PX12_harshest_31 X B Z Q T M x0) (EX12_harshest_31 X B Z Q T M x0) o → PX12_harshest_31 X B Z Q T M x0 s := by
  rintro ⟨x2, x3, x4⟩ o h hE
  replace h : bX12_harshest_31 T M x0 x2 x3 x4 = some o := h
  unfold bX12_harshest_31 at h
  show G X B 7 Z Q 31 [(0, .ref (x0)), (2, .int (x2)), (3, .int (x3)), (4, .int (x4))] [] T M
  refine g_iload (pc := 31) C dX12_harshest_31 3 rfl ?_
  refine g_aload_n (pc := 33) C dX12_harshest_33 rfl 0 rfl ?_
  replace h := gd_some h; obtain ⟨hk6, h⟩ := h
  refine g_get (pc := 34) (v := va_rf (gR M x0 1)) C dX12_harshest_34 kX12 hk6 1 (by decide) q_1228 rfl ?_
  replace h := bnd h; obtain ⟨a7, ea7, h⟩ := h
  refine g_refq ea7 ?_
  refine g_iconst (pc := 37) (v := 4) C dX12_harshest_37 (by decide) ?_
  replace h := gd_some h; obtain ⟨hk8, h⟩ := h
  replace h := gv_some h; obtain ⟨hi9, h⟩ := h
  refine g_iald (pc := 38) C dX12_harshest_38 hk8 hi9 ?_
  refine g_icmp_ge (pc := 39) (tgt := 103) C dX12_harshest_39 (by decide) (fun c10 => ?_) (fun c10 => ?_)
  · replace h := ifp c10 h
    obtain rfl := Option.some.inj h
    exact g_sub [1] rfl (show G X B 7 Z Q 103 [(2, .int (x2))] [] T M from hE)
  · replace h := ifn c10 h
    refine g_iconst (pc := 42) (v := 0) C dX12_harshest_42 (by decide) ?_
    refine g_istore (pc := 43) (lo2 := [(5, .int ((0 : Int32))), (0, .ref (x0)), (2, .int (x2)), (3, .int (x3)), (4, .int (x4))]) C dX12_harshest_43 (by decide) rfl ?_
    refine g_iconst (pc := 45) (v := 0) C dX12_harshest_45 (by decide) ?_
    refine g_istore (pc := 46) (lo2 := [(6, .int ((0 : Int32))), (5, .int ((0 : Int32))), (0, .ref (x0)), (2, .int (x2)), (3, .int (x3)), (4, .int (x4))]) C dX12_harshest_46 (by decide) rfl ?_
    replace h := bnd h; obtain ⟨x5_19, h1, h⟩ := h
    refine g_sub [2, 3, 4, 5, 1, 0] rfl ?_
    refine lp_G2 (P := PX12_harshest_48 X B _ _ T M x0 x2 x3 x4) (E := EX12_harshest_48 X B _ _ T M x0 x2 x3 x4) (tbX12_harshest_48 C hd) h1 ?_
    show G X B 7 _ _ 82 [(0, .ref (x0)), (2, .int (x2)), (3, .int (x3)), (4, .int (x4)), (5, .int (x5_19))] [] T M
    refine g_iload (pc := 82) C dX12_harshest_82 4 rfl ?_
    refine g_iload_n (pc := 84) C dX12_harshest_84 rfl 2 rfl ?_
    refine g_icmp_lt (pc := 85) (tgt := 91) C dX12_harshest_85 (by decide) (fun c20 => ?_) (fun c20 => ?_)
    · replace h := ifp c20 h
      refine g_iload (pc := 91) C dX12_harshest_91 3 rfl ?_
      refine g_istore_n (pc := 93) (lo2 := [(2, .int (x4)), (0, .ref (x0)), (3, .int (x3)), (4, .int (x4)), (5, .int (x5_19))]) C dX12_harshest_93 rfl (by decide) rfl ?_
      refine g_iload (pc := 94) C dX12_harshest_94 4 rfl ?_
      refine g_istore_n (pc := 96) (lo2 := [(3, .int (x5_19)), (2, .int (x4)), (0, .ref (x0)), (4, .int (x4)), (5, .int (x5_19))]) C dX12_harshest_96 rfl (by decide) rfl ?_
      obtain ⟨v21, ev21⟩ : ∃ y : Int32, y = x4 + (1 : Int32) := ⟨_, rfl⟩
      replace h := lt_at ev21 h
      refine g_iinc (pc := 97) (v := v21) (k := 3) (lo2 := [(4, .int (v21)), (3, .int (x5_19)), (2, .int (x4)), (0, .ref (x0)), (5, .int (x5_19))]) C dX12_harshest_97 rfl (by rw [ev21]; rfl) (by decide) rfl ?_
      refine g_goto (pc := 100) (tgt := 31) C dX12_harshest_100 (by decide) ?_
      obtain rfl := Option.some.inj h
      exact g_sub [3, 2, 1, 0] rfl (show G X B 7 Z Q 31 [(0, .ref (x0)), (2, .int (x4)), (3, .int (x5_19)), (4, .int (v21))] [] T M from hE)
    · replace h := ifn c20 h
      refine g_goto (pc := 88) (tgt := 97) C dX12_harshest_88 (by decide) ?_
      obtain ⟨v22, ev22⟩ : ∃ y : Int32, y = x4 + (1 : Int32) := ⟨_, rfl⟩
      replace h := lt_at ev22 h
      refine g_iinc (pc := 97) (v := v22) (k := 3) (lo2 := [(4, .int (v22)), (0, .ref (x0)), (2, .int (x2)), (3, .int (x3)), (5, .int (x5_19))]) C dX12_harshest_97 rfl (by rw [ev22]; rfl) (by decide) rfl ?_
      refine g_goto (pc := 100) (tgt := 31) C dX12_harshest_100 (by decide) ?_
      obtain rfl := Option.some.inj h
      exact g_sub [1, 2, 3, 0] rfl (show G X B 7 Z Q 31 [(0, .ref (x0)), (2, .int (x2)), (3, .int (x3)), (4, .int (v22))] [] T M from hE)
/-- EyeTrainerModel.harshest(I)I -/
def fX12_harshest (T : Sh) (M : Me) (x0 : Nat) (x1 : Int32) : Option (Int32 × Me) :=
  gd (kd T x0 = 11) <| lt (pI M x0 0 (0 : Int32)) fun M2 => Option.bind (fX12_isLane T M2 x0 (Int32.toInt64 x1)) fun r3 => if r3 = 0 then (some ((-2 : Int32), M2)) else (Option.bind (fX12_laysMaps T M2 x0 x1) <| un2 fun _u M5 => (lp FU (fun s => bX12_harshest_31 T M5 x0 s.1 s.2.1 s.2.2) ((-1 : Int32), (268435456 : Int32), (0 : Int32))).bind (fun x2_23 => some (x2_23, M5)))
set_option maxHeartbeats 4000000 in
theorem kX12_harshest {l : Launch} {B : Bx} {d : Nat} (hd : 5 ≤ d) {T : Sh} {M : Me} {x0 : Nat} {x1 : Int32} {r : Int32} {M' : Me} (h : fX12_harshest T M x0 x1 = some (r, M')) : Kt l B yX12_harshest cX12_harshest 7 (some .int) d [.ref (x0), .int (x1)] T M (some (.int r)) T M' := by
  refine kt_of wX12_harshest (Nat.le_refl _) (Nat.le_refl _) (Nat.le_of_ble_eq_true rfl) (fun X C hR hlx hin => ?_)
  subst hlx
  replace C : Cx X B cX12_harshest 7 RX12 d (tp T, sl T, tp T, sl T) := C
  unfold fX12_harshest at h
  show G X B 7 _ _ 0 [(0, .ref (x0)), (1, .int (x1))] [] T M
  refine g_aload_n (pc := 0) C dX12_harshest_0 rfl 0 rfl ?_
  refine g_iconst (pc := 1) (v := 0) C dX12_harshest_1 (by decide) ?_
  replace h := gd_some h; obtain ⟨hk1, h⟩ := h
  refine g_putI (pc := 2) C dX12_harshest_2 kX12 hk1 0 (by decide) rfl rfl rfl q_1227 ?_
  refine g_mem (fun M2 eM2 => ?_)
  replace h := lt_at eM2 h
  refine g_aload_n (pc := 5) C dX12_harshest_5 rfl 0 rfl ?_
  refine g_iload_n (pc := 6) C dX12_harshest_6 rfl 1 rfl ?_
  refine g_i2l (pc := 7) C dX12_harshest_7 ?_
  replace h := bnd h; obtain ⟨r3, h1, h⟩ := h
  refine g_callVi (pc := 8) (As := [.long (Int32.toInt64 x1)]) (st := []) C dX12_harshest_8 wX12_isLane hk1 rfl (by decide) q_1481 q_75 q_1479 (by omega) rfl (Nat.le_of_ble_eq_true rfl) (kX12_isLane (d := 1) (Nat.le_refl _) h1) ?_
  refine g_if_ne (pc := 11) (tgt := 17) C dX12_harshest_11 (by decide) (fun c4 => ?_) (fun c4 => ?_)
  · replace h := ifn c4 h
    refine g_aload_n (pc := 17) C dX12_harshest_17 rfl 0 rfl ?_
    refine g_iload_n (pc := 18) C dX12_harshest_18 rfl 1 rfl ?_
    replace h := bnd2 h; obtain ⟨_u, M5, h1, h⟩ := h
    refine g_callVv (pc := 19) (As := [.int (x1)]) (st := []) C dX12_harshest_19 wX12_laysMaps hk1 rfl (by decide) q_1760 q_111 q_1758 (by omega) rfl (Nat.le_of_ble_eq_true rfl) (kX12_laysMaps (d := 4) (Nat.le_refl _) h1) ?_
    refine g_iconst (pc := 22) (v := (-1)) C dX12_harshest_22 (by decide) ?_
    refine g_istore_n (pc := 23) (lo2 := [(2, .int ((-1 : Int32))), (0, .ref (x0)), (1, .int (x1))]) C dX12_harshest_23 rfl (by decide) rfl ?_
    refine g_ldcw (pc := 24) C dX12_harshest_24 q_1619 ?_
    refine g_istore_n (pc := 27) (lo2 := [(3, .int ((268435456 : Int32))), (2, .int ((-1 : Int32))), (0, .ref (x0)), (1, .int (x1))]) C dX12_harshest_27 rfl (by decide) rfl ?_
    refine g_iconst (pc := 28) (v := 0) C dX12_harshest_28 (by decide) ?_
    refine g_istore (pc := 29) (lo2 := [(4, .int ((0 : Int32))), (3, .int ((268435456 : Int32))), (2, .int ((-1 : Int32))), (0, .ref (x0)), (1, .int (x1))]) C dX12_harshest_29 (by decide) rfl ?_
    replace h := bnd h; obtain ⟨x2_23, h1, h⟩ := h
    refine g_sub [3, 2, 1, 0] rfl ?_
    refine lp_G2 (P := PX12_harshest_31 X B _ _ T M5 x0) (E := EX12_harshest_31 X B _ _ T M5 x0) (tbX12_harshest_31 C hd) h1 ?_
    show G X B 7 _ _ 103 [(2, .int (x2_23))] [] T M5
    refine g_iload_n (pc := 103) C dX12_harshest_103 rfl 0 rfl ?_
    obtain ⟨rfl, rfl⟩ := Prod.mk.inj (Option.some.inj h)
    exact g_iret C hR dX12_harshest_104
  · replace h := ifp c4 h
    refine g_bipush (pc := 14) (v := (-2)) C dX12_harshest_14 (by decide) ?_
    obtain ⟨rfl, rfl⟩ := Prod.mk.inj (Option.some.inj h)
    exact g_iret C hR dX12_harshest_16
theorem dX12_rowBy_0 : decode cX12_rowBy 0 = .ok (.ldc_w 278, 3) := by decide +kernel
theorem dX12_rowBy_3 : decode cX12_rowBy 3 = .ok (.istore_n 3, 1) := by decide +kernel
theorem dX12_rowBy_4 : decode cX12_rowBy 4 = .ok (.iconst 0, 1) := by decide +kernel
theorem dX12_rowBy_5 : decode cX12_rowBy 5 = .ok (.istore 4, 2) := by decide +kernel
theorem dX12_rowBy_7 : decode cX12_rowBy 7 = .ok (.iload 4, 2) := by decide +kernel
theorem dX12_rowBy_9 : decode cX12_rowBy 9 = .ok (.aload_n 0, 1) := by decide +kernel
theorem dX12_rowBy_10 : decode cX12_rowBy 10 = .ok (.getfield 13, 3) := by decide +kernel
theorem dX12_rowBy_13 : decode cX12_rowBy 13 = .ok (.iconst 4, 1) := by decide +kernel
theorem dX12_rowBy_14 : decode cX12_rowBy 14 = .ok (.iaload, 1) := by decide +kernel
theorem dX12_rowBy_15 : decode cX12_rowBy 15 = .ok (.if_icmp .ge 38, 3) := by decide +kernel
theorem dX12_rowBy_18 : decode cX12_rowBy 18 = .ok (.iload_n 3, 1) := by decide +kernel
theorem dX12_rowBy_19 : decode cX12_rowBy 19 = .ok (.iload_n 1, 1) := by decide +kernel
theorem dX12_rowBy_20 : decode cX12_rowBy 20 = .ok (.i2l, 1) := by decide +kernel
theorem dX12_rowBy_21 : decode cX12_rowBy 21 = .ok (.iload 4, 2) := by decide +kernel
theorem dX12_rowBy_23 : decode cX12_rowBy 23 = .ok (.invokestatic 240, 3) := by decide +kernel
theorem dX12_rowBy_26 : decode cX12_rowBy 26 = .ok (.ifCond .eq 18, 3) := by decide +kernel
theorem dX12_rowBy_29 : decode cX12_rowBy 29 = .ok (.aload_n 0, 1) := by decide +kernel
theorem dX12_rowBy_30 : decode cX12_rowBy 30 = .ok (.getfield 45, 3) := by decide +kernel
theorem dX12_rowBy_33 : decode cX12_rowBy 33 = .ok (.bipush 16, 2) := by decide +kernel
theorem dX12_rowBy_35 : decode cX12_rowBy 35 = .ok (.iload 4, 2) := by decide +kernel
theorem dX12_rowBy_37 : decode cX12_rowBy 37 = .ok (.imul, 1) := by decide +kernel
theorem dX12_rowBy_38 : decode cX12_rowBy 38 = .ok (.iload_n 2, 1) := by decide +kernel
theorem dX12_rowBy_39 : decode cX12_rowBy 39 = .ok (.iadd, 1) := by decide +kernel
theorem dX12_rowBy_40 : decode cX12_rowBy 40 = .ok (.iaload, 1) := by decide +kernel
theorem dX12_rowBy_41 : decode cX12_rowBy 41 = .ok (.goto 4, 3) := by decide +kernel
theorem dX12_rowBy_44 : decode cX12_rowBy 44 = .ok (.iload_n 3, 1) := by decide +kernel
theorem dX12_rowBy_45 : decode cX12_rowBy 45 = .ok (.iand, 1) := by decide +kernel
theorem dX12_rowBy_46 : decode cX12_rowBy 46 = .ok (.istore_n 3, 1) := by decide +kernel
theorem dX12_rowBy_47 : decode cX12_rowBy 47 = .ok (.iinc 4 1, 3) := by decide +kernel
theorem dX12_rowBy_50 : decode cX12_rowBy 50 = .ok (.goto (-43), 3) := by decide +kernel
theorem dX12_rowBy_53 : decode cX12_rowBy 53 = .ok (.iload_n 3, 1) := by decide +kernel
theorem dX12_rowBy_54 : decode cX12_rowBy 54 = .ok (.ireturn, 1) := by decide +kernel
theorem wX12_rowBy : Mw yX12_rowBy cX12_rowBy 5 (some .int) 2 := ⟨q_1773, q_130, by decide, ⟨by decide +kernel, by decide +kernel⟩, by decide +kernel, by decide +kernel⟩
-- a loop of EyeTrainerModel.rowBy at 7
def bX12_rowBy_7 (T : Sh) (M : Me) (x0 : Nat) (x1 : Int32) (x2 : Int32) (x3 : Int32) (x4 : Int32) : Option ((Int32 × Int32) ⊕ (Int32)) :=
  gd (kd T x0 = 11) <| Option.bind (gR M x0 1) fun a2 => gd (kd T a2 = 13) <| gv (4 : Int32) (ln T a2) <| if (gI M a2 (Int32.toNatClampNeg (4 : Int32))) ≤ x4 then (some (.inr x3)) else (Option.bind (fX12_isIn (Int32.toInt64 x1) x4) fun r6 => if r6 = 0 then (lt (x3 &&& x3) fun v8 => lt (x4 + (1 : Int32)) fun v9 => some (.inl (v8, v9))) else (Option.bind (gR M x0 34) fun a10 => gd (kd T a10 = 13) <| gv (((16 : Int32) * x4) + x2) (ln T a10) <| lt (x3 &&& (gI M a10 (Int32.toNatClampNeg (((16 : Int32) * x4) + x2)))) fun v13 => lt (x4 + (1 : Int32)) fun v14 => some (.inl (v13, v14))))
def PX12_rowBy_7 (X : Fx) (B : Bx) (Z : Nat × Nat × Nat × Nat) (Q : State → Prop) (T : Sh) (M : Me) (x0 : Nat) (x1 : Int32) (x2 : Int32) (s : Int32 × Int32) : Prop := G X B 5 Z Q 7 [(0, .ref (x0)), (1, .int (x1)), (2, .int (x2)), (3, .int (s.1)), (4, .int (s.2))] [] T M
def EX12_rowBy_7 (X : Fx) (B : Bx) (Z : Nat × Nat × Nat × Nat) (Q : State → Prop) (T : Sh) (M : Me) (x0 : Nat) (x1 : Int32) (x2 : Int32) (r : Int32) : Prop := G X B 5 Z Q 53 [(3, .int (r))] [] T M
set_option maxHeartbeats 4000000 in
theorem tbX12_rowBy_7 {X : Fx} {B : Bx} {Z : Nat × Nat × Nat × Nat} {Q : State → Prop} {d : Nat} {T : Sh} {M : Me} (C : Cx X B cX12_rowBy 5 RX12 d Z) (hd : 1 ≤ d) {x0 : Nat} {x1 : Int32} {x2 : Int32} : ∀ (s : Int32 × Int32) (o : (Int32 × Int32) ⊕ (Int32)), bX12_rowBy_7 T M x0 x1 x2 s.1 s.2 = some o → lpE (PX12_rowBy_7 X B Z Q T M x0 x1 x2) (EX12_rowBy_7 X B Z Q T M x0 x1 x2) o → PX12_rowBy_7 X B Z Q T M x0 x1 x2 s := by
  rintro ⟨x3, x4⟩ o h hE
  replace h : bX12_rowBy_7 T M x0 x1 x2 x3 x4 = some o := h
  unfold bX12_rowBy_7 at h
  show G X B 5 Z Q 7 [(0, .ref (x0)), (1, .int (x1)), (2, .int (x2)), (3, .int (x3)), (4, .int (x4))] [] T M
  refine g_iload (pc := 7) C dX12_rowBy_7 4 rfl ?_
  refine g_aload_n (pc := 9) C dX12_rowBy_9 rfl 0 rfl ?_
  replace h := gd_some h; obtain ⟨hk1, h⟩ := h
  refine g_get (pc := 10) (v := va_rf (gR M x0 1)) C dX12_rowBy_10 kX12 hk1 1 (by decide) q_1228 rfl ?_
  replace h := bnd h; obtain ⟨a2, ea2, h⟩ := h
  refine g_refq ea2 ?_
  refine g_iconst (pc := 13) (v := 4) C dX12_rowBy_13 (by decide) ?_
  replace h := gd_some h; obtain ⟨hk3, h⟩ := h
  replace h := gv_some h; obtain ⟨hi4, h⟩ := h
  refine g_iald (pc := 14) C dX12_rowBy_14 hk3 hi4 ?_
  refine g_icmp_ge (pc := 15) (tgt := 53) C dX12_rowBy_15 (by decide) (fun c5 => ?_) (fun c5 => ?_)
  · replace h := ifp c5 h
    obtain rfl := Option.some.inj h
    exact g_sub [3] rfl (show G X B 5 Z Q 53 [(3, .int (x3))] [] T M from hE)
  · replace h := ifn c5 h
    refine g_iload_n (pc := 18) C dX12_rowBy_18 rfl 3 rfl ?_
    refine g_iload_n (pc := 19) C dX12_rowBy_19 rfl 1 rfl ?_
    refine g_i2l (pc := 20) C dX12_rowBy_20 ?_
    refine g_iload (pc := 21) C dX12_rowBy_21 4 rfl ?_
    replace h := bnd h; obtain ⟨r6, h1, h⟩ := h
    refine g_callSi (pc := 23) (As := [.long (Int32.toInt64 x1), .int (x4)]) (st := [.int (x3)]) C dX12_rowBy_23 wX12_isIn q_1580 q_1579 (by omega) rfl (Nat.le_of_ble_eq_true rfl) (kX12_isIn (d := 0) (Nat.le_refl _) h1) ?_
    refine g_if_eq (pc := 26) (tgt := 44) C dX12_rowBy_26 (by decide) (fun c7 => ?_) (fun c7 => ?_)
    · replace h := ifp c7 h
      refine g_iload_n (pc := 44) C dX12_rowBy_44 rfl 3 rfl ?_
      refine g_iand (pc := 45) C dX12_rowBy_45 ?_
      refine g_topi (fun v8 ev8 => ?_)
      replace h := lt_at ev8 h
      refine g_istore_n (pc := 46) (lo2 := [(3, .int (v8)), (0, .ref (x0)), (1, .int (x1)), (2, .int (x2)), (4, .int (x4))]) C dX12_rowBy_46 rfl (by decide) rfl ?_
      obtain ⟨v9, ev9⟩ : ∃ y : Int32, y = x4 + (1 : Int32) := ⟨_, rfl⟩
      replace h := lt_at ev9 h
      refine g_iinc (pc := 47) (v := v9) (k := 4) (lo2 := [(4, .int (v9)), (3, .int (v8)), (0, .ref (x0)), (1, .int (x1)), (2, .int (x2))]) C dX12_rowBy_47 rfl (by rw [ev9]; rfl) (by decide) rfl ?_
      refine g_goto (pc := 50) (tgt := 7) C dX12_rowBy_50 (by decide) ?_
      obtain rfl := Option.some.inj h
      exact g_sub [2, 3, 4, 1, 0] rfl (show G X B 5 Z Q 7 [(0, .ref (x0)), (1, .int (x1)), (2, .int (x2)), (3, .int (v8)), (4, .int (v9))] [] T M from hE)
    · replace h := ifn c7 h
      refine g_aload_n (pc := 29) C dX12_rowBy_29 rfl 0 rfl ?_
      refine g_get (pc := 30) (v := va_rf (gR M x0 34)) C dX12_rowBy_30 kX12 hk1 34 (by decide) q_1261 rfl ?_
      replace h := bnd h; obtain ⟨a10, ea10, h⟩ := h
      refine g_refq ea10 ?_
      refine g_bipush (pc := 33) (v := 16) C dX12_rowBy_33 (by decide) ?_
      refine g_iload (pc := 35) C dX12_rowBy_35 4 rfl ?_
      refine g_imul (pc := 37) C dX12_rowBy_37 ?_
      refine g_iload_n (pc := 38) C dX12_rowBy_38 rfl 2 rfl ?_
      refine g_iadd (pc := 39) C dX12_rowBy_39 ?_
      replace h := gd_some h; obtain ⟨hk11, h⟩ := h
      replace h := gv_some h; obtain ⟨hi12, h⟩ := h
      refine g_iald (pc := 40) C dX12_rowBy_40 hk11 hi12 ?_
      refine g_goto (pc := 41) (tgt := 45) C dX12_rowBy_41 (by decide) ?_
      refine g_iand (pc := 45) C dX12_rowBy_45 ?_
      refine g_topi (fun v13 ev13 => ?_)
      replace h := lt_at ev13 h
      refine g_istore_n (pc := 46) (lo2 := [(3, .int (v13)), (0, .ref (x0)), (1, .int (x1)), (2, .int (x2)), (4, .int (x4))]) C dX12_rowBy_46 rfl (by decide) rfl ?_
      obtain ⟨v14, ev14⟩ : ∃ y : Int32, y = x4 + (1 : Int32) := ⟨_, rfl⟩
      replace h := lt_at ev14 h
      refine g_iinc (pc := 47) (v := v14) (k := 4) (lo2 := [(4, .int (v14)), (3, .int (v13)), (0, .ref (x0)), (1, .int (x1)), (2, .int (x2))]) C dX12_rowBy_47 rfl (by rw [ev14]; rfl) (by decide) rfl ?_
      refine g_goto (pc := 50) (tgt := 7) C dX12_rowBy_50 (by decide) ?_
      obtain rfl := Option.some.inj h
      exact g_sub [2, 3, 4, 1, 0] rfl (show G X B 5 Z Q 7 [(0, .ref (x0)), (1, .int (x1)), (2, .int (x2)), (3, .int (v13)), (4, .int (v14))] [] T M from hE)
/-- EyeTrainerModel.rowBy(II)I -/
def fX12_rowBy (T : Sh) (M : Me) (x0 : Nat) (x1 : Int32) (x2 : Int32) : Option (Int32) :=
  (lp FU (fun s => bX12_rowBy_7 T M x0 x1 x2 s.1 s.2) ((16777215 : Int32), (0 : Int32))).bind (fun x3_15 => some x3_15)
set_option maxHeartbeats 4000000 in
theorem kX12_rowBy {l : Launch} {B : Bx} {d : Nat} (hd : 1 ≤ d) {T : Sh} {M : Me} {x0 : Nat} {x1 : Int32} {x2 : Int32} {r : Int32} (h : fX12_rowBy T M x0 x1 x2 = some r) : Kt l B yX12_rowBy cX12_rowBy 5 (some .int) d [.ref (x0), .int (x1), .int (x2)] T M (some (.int r)) T M := by
  refine kt_of wX12_rowBy (Nat.le_refl _) (Nat.le_refl _) (Nat.le_of_ble_eq_true rfl) (fun X C hR hlx hin => ?_)
  subst hlx
  replace C : Cx X B cX12_rowBy 5 RX12 d (tp T, sl T, tp T, sl T) := C
  unfold fX12_rowBy at h
  show G X B 5 _ _ 0 [(0, .ref (x0)), (1, .int (x1)), (2, .int (x2))] [] T M
  refine g_ldcw (pc := 0) C dX12_rowBy_0 q_1597 ?_
  refine g_istore_n (pc := 3) (lo2 := [(3, .int ((16777215 : Int32))), (0, .ref (x0)), (1, .int (x1)), (2, .int (x2))]) C dX12_rowBy_3 rfl (by decide) rfl ?_
  refine g_iconst (pc := 4) (v := 0) C dX12_rowBy_4 (by decide) ?_
  refine g_istore (pc := 5) (lo2 := [(4, .int ((0 : Int32))), (3, .int ((16777215 : Int32))), (0, .ref (x0)), (1, .int (x1)), (2, .int (x2))]) C dX12_rowBy_5 (by decide) rfl ?_
  replace h := bnd h; obtain ⟨x3_15, h1, h⟩ := h
  refine g_sub [2, 3, 4, 1, 0] rfl ?_
  refine lp_G2 (P := PX12_rowBy_7 X B _ _ T M x0 x1 x2) (E := EX12_rowBy_7 X B _ _ T M x0 x1 x2) (tbX12_rowBy_7 C hd) h1 ?_
  show G X B 5 _ _ 53 [(3, .int (x3_15))] [] T M
  refine g_iload_n (pc := 53) C dX12_rowBy_53 rfl 0 rfl ?_
  obtain rfl := Option.some.inj h
  exact g_iret C hR dX12_rowBy_54
theorem dX12_isTold_0 : decode cX12_isTold 0 = .ok (.iconst 0, 1) := by decide +kernel
theorem dX12_isTold_1 : decode cX12_isTold 1 = .ok (.istore_n 2, 1) := by decide +kernel
theorem dX12_isTold_2 : decode cX12_isTold 2 = .ok (.iload_n 2, 1) := by decide +kernel
theorem dX12_isTold_3 : decode cX12_isTold 3 = .ok (.bipush 16, 2) := by decide +kernel
theorem dX12_isTold_5 : decode cX12_isTold 5 = .ok (.if_icmp .ge 35, 3) := by decide +kernel
theorem dX12_isTold_8 : decode cX12_isTold 8 = .ok (.aload_n 0, 1) := by decide +kernel
theorem dX12_isTold_9 : decode cX12_isTold 9 = .ok (.iload_n 1, 1) := by decide +kernel
theorem dX12_isTold_10 : decode cX12_isTold 10 = .ok (.iload_n 2, 1) := by decide +kernel
theorem dX12_isTold_11 : decode cX12_isTold 11 = .ok (.invokevirtual 421, 3) := by decide +kernel
theorem dX12_isTold_14 : decode cX12_isTold 14 = .ok (.aload_n 0, 1) := by decide +kernel
theorem dX12_isTold_15 : decode cX12_isTold 15 = .ok (.iconst 1, 1) := by decide +kernel
theorem dX12_isTold_16 : decode cX12_isTold 16 = .ok (.aload_n 0, 1) := by decide +kernel
theorem dX12_isTold_17 : decode cX12_isTold 17 = .ok (.getfield 13, 3) := by decide +kernel
theorem dX12_isTold_20 : decode cX12_isTold 20 = .ok (.iconst 4, 1) := by decide +kernel
theorem dX12_isTold_21 : decode cX12_isTold 21 = .ok (.iaload, 1) := by decide +kernel
theorem dX12_isTold_22 : decode cX12_isTold 22 = .ok (.ishl, 1) := by decide +kernel
theorem dX12_isTold_23 : decode cX12_isTold 23 = .ok (.iconst 1, 1) := by decide +kernel
theorem dX12_isTold_24 : decode cX12_isTold 24 = .ok (.isub, 1) := by decide +kernel
theorem dX12_isTold_25 : decode cX12_isTold 25 = .ok (.iload_n 2, 1) := by decide +kernel
theorem dX12_isTold_26 : decode cX12_isTold 26 = .ok (.invokevirtual 421, 3) := by decide +kernel
theorem dX12_isTold_29 : decode cX12_isTold 29 = .ok (.if_icmp .eq 5, 3) := by decide +kernel
theorem dX12_isTold_32 : decode cX12_isTold 32 = .ok (.iconst 0, 1) := by decide +kernel
theorem dX12_isTold_33 : decode cX12_isTold 33 = .ok (.ireturn, 1) := by decide +kernel
theorem dX12_isTold_34 : decode cX12_isTold 34 = .ok (.iinc 2 1, 3) := by decide +kernel
theorem dX12_isTold_37 : decode cX12_isTold 37 = .ok (.goto (-35), 3) := by decide +kernel
theorem dX12_isTold_40 : decode cX12_isTold 40 = .ok (.iconst 1, 1) := by decide +kernel
theorem dX12_isTold_41 : decode cX12_isTold 41 = .ok (.ireturn, 1) := by decide +kernel
theorem wX12_isTold : Mw yX12_isTold cX12_isTold 3 (some .boolean) 1 := ⟨q_1769, q_130, by decide, ⟨by decide +kernel, by decide +kernel⟩, by decide +kernel, by decide +kernel⟩
-- a loop of EyeTrainerModel.isTold at 2
def bX12_isTold_2 (T : Sh) (M : Me) (x0 : Nat) (x1 : Int32) (x2 : Int32) : Option ((Int32) ⊕ (Unit ⊕ Unit)) :=
  if (16 : Int32) ≤ x2 then (some (.inr (.inr ()))) else (gd (kd T x0 = 11) <| Option.bind (fX12_rowBy T M x0 x1 x2) fun r3 => Option.bind (gR M x0 1) fun a4 => gd (kd T a4 = 13) <| gv (4 : Int32) (ln T a4) <| Option.bind (fX12_rowBy T M x0 (((1 : Int32) <<< ((gI M a4 (Int32.toNatClampNeg (4 : Int32))) &&& 31)) - (1 : Int32)) x2) fun r7 => if r3 = r7 then (lt (x2 + (1 : Int32)) fun v9 => some (.inl v9)) else (some (.inr (.inl ()))))
def PX12_isTold_2 (X : Fx) (B : Bx) (Z : Nat × Nat × Nat × Nat) (Q : State → Prop) (T : Sh) (M : Me) (x0 : Nat) (x1 : Int32) (s : Int32) : Prop := G X B 3 Z Q 2 [(0, .ref (x0)), (1, .int (x1)), (2, .int (s))] [] T M
def EX12_isTold_2 (X : Fx) (B : Bx) (Z : Nat × Nat × Nat × Nat) (Q : State → Prop) (T : Sh) (M : Me) (x0 : Nat) (x1 : Int32) (r : Unit ⊕ Unit) : Prop := Sum.elim (fun r => G X B 3 Z Q 32 [] [] T M) (fun r => G X B 3 Z Q 40 [] [] T M) r
set_option maxHeartbeats 4000000 in
theorem tbX12_isTold_2 {X : Fx} {B : Bx} {Z : Nat × Nat × Nat × Nat} {Q : State → Prop} {d : Nat} {T : Sh} {M : Me} (C : Cx X B cX12_isTold 3 RX12 d Z) (hd : 2 ≤ d) {x0 : Nat} {x1 : Int32} : ∀ (s : Int32) (o : (Int32) ⊕ (Unit ⊕ Unit)), bX12_isTold_2 T M x0 x1 s = some o → lpE (PX12_isTold_2 X B Z Q T M x0 x1) (EX12_isTold_2 X B Z Q T M x0 x1) o → PX12_isTold_2 X B Z Q T M x0 x1 s := by
  rintro x2 o h hE
  replace h : bX12_isTold_2 T M x0 x1 x2 = some o := h
  unfold bX12_isTold_2 at h
  show G X B 3 Z Q 2 [(0, .ref (x0)), (1, .int (x1)), (2, .int (x2))] [] T M
  refine g_iload_n (pc := 2) C dX12_isTold_2 rfl 2 rfl ?_
  refine g_bipush (pc := 3) (v := 16) C dX12_isTold_3 (by decide) ?_
  refine g_icmp_ge (pc := 5) (tgt := 40) C dX12_isTold_5 (by decide) (fun c1 => ?_) (fun c1 => ?_)
  · replace h := ifp c1 h
    obtain rfl := Option.some.inj h
    exact g_sub [] rfl (show G X B 3 Z Q 40 [] [] T M from hE)
  · replace h := ifn c1 h
    refine g_aload_n (pc := 8) C dX12_isTold_8 rfl 0 rfl ?_
    refine g_iload_n (pc := 9) C dX12_isTold_9 rfl 1 rfl ?_
    refine g_iload_n (pc := 10) C dX12_isTold_10 rfl 2 rfl ?_
    replace h := gd_some h; obtain ⟨hk2, h⟩ := h
    replace h := bnd h; obtain ⟨r3, h1, h⟩ := h
    refine g_callVi (pc := 11) (As := [.int (x1), .int (x2)]) (st := []) C dX12_isTold_11 wX12_rowBy hk2 rfl (by decide) q_1772 q_113 q_1770 (by omega) rfl (Nat.le_of_ble_eq_true rfl) (kX12_rowBy (d := 1) (Nat.le_refl _) h1) ?_
    refine g_aload_n (pc := 14) C dX12_isTold_14 rfl 0 rfl ?_
    refine g_iconst (pc := 15) (v := 1) C dX12_isTold_15 (by decide) ?_
    refine g_aload_n (pc := 16) C dX12_isTold_16 rfl 0 rfl ?_
    refine g_get (pc := 17) (v := va_rf (gR M x0 1)) C dX12_isTold_17 kX12 hk2 1 (by decide) q_1228 rfl ?_
    replace h := bnd h; obtain ⟨a4, ea4, h⟩ := h
    refine g_refq ea4 ?_
    refine g_iconst (pc := 20) (v := 4) C dX12_isTold_20 (by decide) ?_
    replace h := gd_some h; obtain ⟨hk5, h⟩ := h
    replace h := gv_some h; obtain ⟨hi6, h⟩ := h
    refine g_iald (pc := 21) C dX12_isTold_21 hk5 hi6 ?_
    refine g_ishl (pc := 22) C dX12_isTold_22 ?_
    refine g_iconst (pc := 23) (v := 1) C dX12_isTold_23 (by decide) ?_
    refine g_isub (pc := 24) C dX12_isTold_24 ?_
    refine g_iload_n (pc := 25) C dX12_isTold_25 rfl 2 rfl ?_
    replace h := bnd h; obtain ⟨r7, h1, h⟩ := h
    refine g_callVi (pc := 26) (As := [.int (((1 : Int32) <<< ((gI M a4 (Int32.toNatClampNeg (4 : Int32))) &&& 31)) - (1 : Int32)), .int (x2)]) (st := [.int (r3)]) C dX12_isTold_26 wX12_rowBy hk2 rfl (by decide) q_1772 q_113 q_1770 (by omega) rfl (Nat.le_of_ble_eq_true rfl) (kX12_rowBy (d := 1) (Nat.le_refl _) h1) ?_
    refine g_icmp_eq (pc := 29) (tgt := 34) C dX12_isTold_29 (by decide) (fun c8 => ?_) (fun c8 => ?_)
    · replace h := ifp c8 h
      obtain ⟨v9, ev9⟩ : ∃ y : Int32, y = x2 + (1 : Int32) := ⟨_, rfl⟩
      replace h := lt_at ev9 h
      refine g_iinc (pc := 34) (v := v9) (k := 2) (lo2 := [(2, .int (v9)), (0, .ref (x0)), (1, .int (x1))]) C dX12_isTold_34 rfl (by rw [ev9]; rfl) (by decide) rfl ?_
      refine g_goto (pc := 37) (tgt := 2) C dX12_isTold_37 (by decide) ?_
      obtain rfl := Option.some.inj h
      exact g_sub [1, 2, 0] rfl (show G X B 3 Z Q 2 [(0, .ref (x0)), (1, .int (x1)), (2, .int (v9))] [] T M from hE)
    · replace h := ifn c8 h
      obtain rfl := Option.some.inj h
      exact g_sub [] rfl (show G X B 3 Z Q 32 [] [] T M from hE)
/-- EyeTrainerModel.isTold(I)Z -/
def fX12_isTold (T : Sh) (M : Me) (x0 : Nat) (x1 : Int32) : Option (Int32) :=
  (lp FU (fun s => bX12_isTold_2 T M x0 x1 s) (0 : Int32)).bind (Sum.elim (fun _ => some (0 : Int32)) (fun _ => some (1 : Int32)))
set_option maxHeartbeats 4000000 in
theorem kX12_isTold {l : Launch} {B : Bx} {d : Nat} (hd : 2 ≤ d) {T : Sh} {M : Me} {x0 : Nat} {x1 : Int32} {r : Int32} (h : fX12_isTold T M x0 x1 = some r) : Kt l B yX12_isTold cX12_isTold 3 (some .boolean) d [.ref (x0), .int (x1)] T M (some (.int r)) T M := by
  refine kt_of wX12_isTold (Nat.le_refl _) (Nat.le_refl _) (Nat.le_of_ble_eq_true rfl) (fun X C hR hlx hin => ?_)
  subst hlx
  replace C : Cx X B cX12_isTold 3 RX12 d (tp T, sl T, tp T, sl T) := C
  unfold fX12_isTold at h
  show G X B 3 _ _ 0 [(0, .ref (x0)), (1, .int (x1))] [] T M
  refine g_iconst (pc := 0) (v := 0) C dX12_isTold_0 (by decide) ?_
  refine g_istore_n (pc := 1) (lo2 := [(2, .int ((0 : Int32))), (0, .ref (x0)), (1, .int (x1))]) C dX12_isTold_1 rfl (by decide) rfl ?_
  replace h := bndE h; rcases h with ⟨a1, h1, h⟩ | ⟨a1, h1, h⟩
  · refine g_sub [1, 2, 0] rfl ?_
    refine lp_G2 (P := PX12_isTold_2 X B _ _ T M x0 x1) (E := EX12_isTold_2 X B _ _ T M x0 x1) (tbX12_isTold_2 C hd) h1 ?_
    show G X B 3 _ _ 32 [] [] T M
    refine g_iconst (pc := 32) (v := 0) C dX12_isTold_32 (by decide) ?_
    obtain rfl := Option.some.inj h
    exact g_zret C hR dX12_isTold_33 rfl
  · refine g_sub [1, 2, 0] rfl ?_
    refine lp_G2 (P := PX12_isTold_2 X B _ _ T M x0 x1) (E := EX12_isTold_2 X B _ _ T M x0 x1) (tbX12_isTold_2 C hd) h1 ?_
    show G X B 3 _ _ 40 [] [] T M
    refine g_iconst (pc := 40) (v := 1) C dX12_isTold_40 (by decide) ?_
    obtain rfl := Option.some.inj h
    exact g_zret C hR dX12_isTold_41 rfl
theorem dX12_tell_0 : decode cX12_tell 0 = .ok (.aload_n 0, 1) := by decide +kernel
theorem dX12_tell_1 : decode cX12_tell 1 = .ok (.iconst 0, 1) := by decide +kernel
theorem dX12_tell_2 : decode cX12_tell 2 = .ok (.putfield 1, 3) := by decide +kernel
theorem dX12_tell_5 : decode cX12_tell 5 = .ok (.aload_n 0, 1) := by decide +kernel
theorem dX12_tell_6 : decode cX12_tell 6 = .ok (.iload_n 1, 1) := by decide +kernel
theorem dX12_tell_7 : decode cX12_tell 7 = .ok (.i2l, 1) := by decide +kernel
theorem dX12_tell_8 : decode cX12_tell 8 = .ok (.invokevirtual 247, 3) := by decide +kernel
theorem dX12_tell_11 : decode cX12_tell 11 = .ok (.ifCond .eq 13, 3) := by decide +kernel
theorem dX12_tell_14 : decode cX12_tell 14 = .ok (.iload_n 2, 1) := by decide +kernel
theorem dX12_tell_15 : decode cX12_tell 15 = .ok (.i2l, 1) := by decide +kernel
theorem dX12_tell_16 : decode cX12_tell 16 = .ok (.lconst 0, 1) := by decide +kernel
theorem dX12_tell_17 : decode cX12_tell 17 = .ok (.lconst 1, 1) := by decide +kernel
theorem dX12_tell_18 : decode cX12_tell 18 = .ok (.invokestatic 139, 3) := by decide +kernel
theorem dX12_tell_21 : decode cX12_tell 21 = .ok (.ifCond .ne 6, 3) := by decide +kernel
theorem dX12_tell_24 : decode cX12_tell 24 = .ok (.bipush (-2), 2) := by decide +kernel
theorem dX12_tell_26 : decode cX12_tell 26 = .ok (.ireturn, 1) := by decide +kernel
theorem dX12_tell_27 : decode cX12_tell 27 = .ok (.aload_n 0, 1) := by decide +kernel
theorem dX12_tell_28 : decode cX12_tell 28 = .ok (.getfield 13, 3) := by decide +kernel
theorem dX12_tell_31 : decode cX12_tell 31 = .ok (.iconst 4, 1) := by decide +kernel
theorem dX12_tell_32 : decode cX12_tell 32 = .ok (.iaload, 1) := by decide +kernel
theorem dX12_tell_33 : decode cX12_tell 33 = .ok (.ifCond .ne 5, 3) := by decide +kernel
theorem dX12_tell_36 : decode cX12_tell 36 = .ok (.iconst (-1), 1) := by decide +kernel
theorem dX12_tell_37 : decode cX12_tell 37 = .ok (.ireturn, 1) := by decide +kernel
theorem dX12_tell_38 : decode cX12_tell 38 = .ok (.aload_n 0, 1) := by decide +kernel
theorem dX12_tell_39 : decode cX12_tell 39 = .ok (.iload_n 1, 1) := by decide +kernel
theorem dX12_tell_40 : decode cX12_tell 40 = .ok (.invokevirtual 418, 3) := by decide +kernel
theorem dX12_tell_43 : decode cX12_tell 43 = .ok (.iconst 1, 1) := by decide +kernel
theorem dX12_tell_44 : decode cX12_tell 44 = .ok (.aload_n 0, 1) := by decide +kernel
theorem dX12_tell_45 : decode cX12_tell 45 = .ok (.getfield 13, 3) := by decide +kernel
theorem dX12_tell_48 : decode cX12_tell 48 = .ok (.iconst 4, 1) := by decide +kernel
theorem dX12_tell_49 : decode cX12_tell 49 = .ok (.iaload, 1) := by decide +kernel
theorem dX12_tell_50 : decode cX12_tell 50 = .ok (.ishl, 1) := by decide +kernel
theorem dX12_tell_51 : decode cX12_tell 51 = .ok (.iconst 1, 1) := by decide +kernel
theorem dX12_tell_52 : decode cX12_tell 52 = .ok (.isub, 1) := by decide +kernel
theorem dX12_tell_53 : decode cX12_tell 53 = .ok (.istore_n 3, 1) := by decide +kernel
theorem dX12_tell_54 : decode cX12_tell 54 = .ok (.iload_n 3, 1) := by decide +kernel
theorem dX12_tell_55 : decode cX12_tell 55 = .ok (.istore 4, 2) := by decide +kernel
theorem dX12_tell_57 : decode cX12_tell 57 = .ok (.iload 4, 2) := by decide +kernel
theorem dX12_tell_59 : decode cX12_tell 59 = .ok (.ifCond .lt 33, 3) := by decide +kernel
theorem dX12_tell_62 : decode cX12_tell 62 = .ok (.iload 4, 2) := by decide +kernel
theorem dX12_tell_64 : decode cX12_tell 64 = .ok (.invokestatic 244, 3) := by decide +kernel
theorem dX12_tell_67 : decode cX12_tell 67 = .ok (.iload_n 3, 1) := by decide +kernel
theorem dX12_tell_68 : decode cX12_tell 68 = .ok (.invokestatic 244, 3) := by decide +kernel
theorem dX12_tell_71 : decode cX12_tell 71 = .ok (.if_icmp .gt 15, 3) := by decide +kernel
theorem dX12_tell_74 : decode cX12_tell 74 = .ok (.aload_n 0, 1) := by decide +kernel
theorem dX12_tell_75 : decode cX12_tell 75 = .ok (.iload 4, 2) := by decide +kernel
theorem dX12_tell_77 : decode cX12_tell 77 = .ok (.invokevirtual 424, 3) := by decide +kernel
theorem dX12_tell_80 : decode cX12_tell 80 = .ok (.ifCond .eq 6, 3) := by decide +kernel
theorem dX12_tell_83 : decode cX12_tell 83 = .ok (.iload 4, 2) := by decide +kernel
theorem dX12_tell_85 : decode cX12_tell 85 = .ok (.istore_n 3, 1) := by decide +kernel
theorem dX12_tell_86 : decode cX12_tell 86 = .ok (.iinc 4 (-1), 3) := by decide +kernel
theorem dX12_tell_89 : decode cX12_tell 89 = .ok (.goto (-32), 3) := by decide +kernel
theorem dX12_tell_92 : decode cX12_tell 92 = .ok (.iload_n 2, 1) := by decide +kernel
theorem dX12_tell_93 : decode cX12_tell 93 = .ok (.ifCond .ne 10, 3) := by decide +kernel
theorem dX12_tell_96 : decode cX12_tell 96 = .ok (.iload_n 3, 1) := by decide +kernel
theorem dX12_tell_97 : decode cX12_tell 97 = .ok (.invokestatic 244, 3) := by decide +kernel
theorem dX12_tell_100 : decode cX12_tell 100 = .ok (.goto 4, 3) := by decide +kernel
theorem dX12_tell_103 : decode cX12_tell 103 = .ok (.iload_n 3, 1) := by decide +kernel
theorem dX12_tell_104 : decode cX12_tell 104 = .ok (.ireturn, 1) := by decide +kernel
theorem wX12_tell : Mw yX12_tell cX12_tell 5 (some .int) 2 := ⟨q_1765, q_130, by decide, ⟨by decide +kernel, by decide +kernel⟩, by decide +kernel, by decide +kernel⟩
-- a loop of EyeTrainerModel.tell at 57
def bX12_tell_57 (T : Sh) (M : Me) (x0 : Nat) (x2 : Int32) (x3 : Int32) (x4 : Int32) : Option ((Int32 × Int32) ⊕ (Int32)) :=
  if x4 < 0 then (some (.inr x3)) else (Option.bind (fX12_bitsOf x4) fun r17 => Option.bind (fX12_bitsOf x3) fun r18 => if r18 < r17 then (lt (x4 + (-1 : Int32)) fun v20 => some (.inl (x3, v20))) else (gd (kd T x0 = 11) <| Option.bind (fX12_isTold T M x0 x4) fun r22 => if r22 = 0 then (lt (x4 + (-1 : Int32)) fun v24 => some (.inl (x3, v24))) else (lt (x4 + (-1 : Int32)) fun v25 => some (.inl (x4, v25)))))
def PX12_tell_57 (X : Fx) (B : Bx) (Z : Nat × Nat × Nat × Nat) (Q : State → Prop) (T : Sh) (M : Me) (x0 : Nat) (x2 : Int32) (s : Int32 × Int32) : Prop := G X B 5 Z Q 57 [(0, .ref (x0)), (2, .int (x2)), (3, .int (s.1)), (4, .int (s.2))] [] T M
def EX12_tell_57 (X : Fx) (B : Bx) (Z : Nat × Nat × Nat × Nat) (Q : State → Prop) (T : Sh) (M : Me) (x0 : Nat) (x2 : Int32) (r : Int32) : Prop := G X B 5 Z Q 92 [(2, .int (x2)), (3, .int (r))] [] T M
set_option maxHeartbeats 4000000 in
theorem tbX12_tell_57 {X : Fx} {B : Bx} {Z : Nat × Nat × Nat × Nat} {Q : State → Prop} {d : Nat} {T : Sh} {M : Me} (C : Cx X B cX12_tell 5 RX12 d Z) (hd : 5 ≤ d) {x0 : Nat} {x2 : Int32} : ∀ (s : Int32 × Int32) (o : (Int32 × Int32) ⊕ (Int32)), bX12_tell_57 T M x0 x2 s.1 s.2 = some o → lpE (PX12_tell_57 X B Z Q T M x0 x2) (EX12_tell_57 X B Z Q T M x0 x2) o → PX12_tell_57 X B Z Q T M x0 x2 s := by
  rintro ⟨x3, x4⟩ o h hE
  replace h : bX12_tell_57 T M x0 x2 x3 x4 = some o := h
  unfold bX12_tell_57 at h
  show G X B 5 Z Q 57 [(0, .ref (x0)), (2, .int (x2)), (3, .int (x3)), (4, .int (x4))] [] T M
  refine g_iload (pc := 57) C dX12_tell_57 3 rfl ?_
  refine g_if_lt (pc := 59) (tgt := 92) C dX12_tell_59 (by decide) (fun c16 => ?_) (fun c16 => ?_)
  · replace h := ifp c16 h
    obtain rfl := Option.some.inj h
    exact g_sub [1, 2] rfl (show G X B 5 Z Q 92 [(2, .int (x2)), (3, .int (x3))] [] T M from hE)
  · replace h := ifn c16 h
    refine g_iload (pc := 62) C dX12_tell_62 3 rfl ?_
    replace h := bnd h; obtain ⟨r17, h1, h⟩ := h
    refine g_callSi (pc := 64) (As := [.int (x4)]) (st := []) C dX12_tell_64 wX12_bitsOf q_1591 q_1590 (by omega) rfl (Nat.le_of_ble_eq_true rfl) (kX12_bitsOf (d := 0) (Nat.le_refl _) h1) ?_
    refine g_iload_n (pc := 67) C dX12_tell_67 rfl 2 rfl ?_
    replace h := bnd h; obtain ⟨r18, h1, h⟩ := h
    refine g_callSi (pc := 68) (As := [.int (x3)]) (st := [.int (r17)]) C dX12_tell_68 wX12_bitsOf q_1591 q_1590 (by omega) rfl (Nat.le_of_ble_eq_true rfl) (kX12_bitsOf (d := 0) (Nat.le_refl _) h1) ?_
    refine g_icmp_gt (pc := 71) (tgt := 86) C dX12_tell_71 (by decide) (fun c19 => ?_) (fun c19 => ?_)
    · replace h := ifp c19 h
      obtain ⟨v20, ev20⟩ : ∃ y : Int32, y = x4 + (-1 : Int32) := ⟨_, rfl⟩
      replace h := lt_at ev20 h
      refine g_iinc (pc := 86) (v := v20) (k := 3) (lo2 := [(4, .int (v20)), (0, .ref (x0)), (2, .int (x2)), (3, .int (x3))]) C dX12_tell_86 rfl (by rw [ev20]; rfl) (by decide) rfl ?_
      refine g_goto (pc := 89) (tgt := 57) C dX12_tell_89 (by decide) ?_
      obtain rfl := Option.some.inj h
      exact g_sub [1, 2, 3, 0] rfl (show G X B 5 Z Q 57 [(0, .ref (x0)), (2, .int (x2)), (3, .int (x3)), (4, .int (v20))] [] T M from hE)
    · replace h := ifn c19 h
      refine g_aload_n (pc := 74) C dX12_tell_74 rfl 0 rfl ?_
      refine g_iload (pc := 75) C dX12_tell_75 3 rfl ?_
      replace h := gd_some h; obtain ⟨hk21, h⟩ := h
      replace h := bnd h; obtain ⟨r22, h1, h⟩ := h
      refine g_callVi (pc := 77) (As := [.int (x4)]) (st := []) C dX12_tell_77 wX12_isTold hk21 rfl (by decide) q_1768 q_112 q_1766 (by omega) rfl (Nat.le_of_ble_eq_true rfl) (kX12_isTold (d := 2) (Nat.le_refl _) h1) ?_
      refine g_if_eq (pc := 80) (tgt := 86) C dX12_tell_80 (by decide) (fun c23 => ?_) (fun c23 => ?_)
      · replace h := ifp c23 h
        obtain ⟨v24, ev24⟩ : ∃ y : Int32, y = x4 + (-1 : Int32) := ⟨_, rfl⟩
        replace h := lt_at ev24 h
        refine g_iinc (pc := 86) (v := v24) (k := 3) (lo2 := [(4, .int (v24)), (0, .ref (x0)), (2, .int (x2)), (3, .int (x3))]) C dX12_tell_86 rfl (by rw [ev24]; rfl) (by decide) rfl ?_
        refine g_goto (pc := 89) (tgt := 57) C dX12_tell_89 (by decide) ?_
        obtain rfl := Option.some.inj h
        exact g_sub [1, 2, 3, 0] rfl (show G X B 5 Z Q 57 [(0, .ref (x0)), (2, .int (x2)), (3, .int (x3)), (4, .int (v24))] [] T M from hE)
      · replace h := ifn c23 h
        refine g_iload (pc := 83) C dX12_tell_83 3 rfl ?_
        refine g_istore_n (pc := 85) (lo2 := [(3, .int (x4)), (0, .ref (x0)), (2, .int (x2)), (4, .int (x4))]) C dX12_tell_85 rfl (by decide) rfl ?_
        obtain ⟨v25, ev25⟩ : ∃ y : Int32, y = x4 + (-1 : Int32) := ⟨_, rfl⟩
        replace h := lt_at ev25 h
        refine g_iinc (pc := 86) (v := v25) (k := 3) (lo2 := [(4, .int (v25)), (3, .int (x4)), (0, .ref (x0)), (2, .int (x2))]) C dX12_tell_86 rfl (by rw [ev25]; rfl) (by decide) rfl ?_
        refine g_goto (pc := 89) (tgt := 57) C dX12_tell_89 (by decide) ?_
        obtain rfl := Option.some.inj h
        exact g_sub [2, 3, 1, 0] rfl (show G X B 5 Z Q 57 [(0, .ref (x0)), (2, .int (x2)), (3, .int (x4)), (4, .int (v25))] [] T M from hE)
/-- EyeTrainerModel.tell(II)I -/
def fX12_tell (T : Sh) (M : Me) (x0 : Nat) (x1 : Int32) (x2 : Int32) : Option (Int32 × Me) :=
  gd (kd T x0 = 11) <| lt (pI M x0 0 (0 : Int32)) fun M2 => Option.bind (fX12_isLane T M2 x0 (Int32.toInt64 x1)) fun r3 => if r3 = 0 then (some ((-2 : Int32), M2)) else (Option.bind (fX12_within (Int32.toInt64 x2) (0 : Int64) (1 : Int64)) fun r5 => if r5 = 0 then (some ((-2 : Int32), M2)) else (Option.bind (gR M2 x0 1) fun a7 => gd (kd T a7 = 13) <| gv (4 : Int32) (ln T a7) <| if (gI M2 a7 (Int32.toNatClampNeg (4 : Int32))) = 0 then (some ((-1 : Int32), M2)) else (Option.bind (fX12_laysMaps T M2 x0 x1) <| un2 fun _u M11 => Option.bind (gR M11 x0 1) fun a12 => gd (kd T a12 = 13) <| gv (4 : Int32) (ln T a12) <| lt (((1 : Int32) <<< ((gI M11 a12 (Int32.toNatClampNeg (4 : Int32))) &&& 31)) - (1 : Int32)) fun v15 => (lp FU (fun s => bX12_tell_57 T M11 x0 x2 s.1 s.2) (v15, v15)).bind (fun x3_26 => if x2 = 0 then (Option.bind (fX12_bitsOf x3_26) fun r28 => some (r28, M11)) else (some (x3_26, M11))))))
set_option maxHeartbeats 4000000 in
theorem kX12_tell {l : Launch} {B : Bx} {d : Nat} (hd : 5 ≤ d) {T : Sh} {M : Me} {x0 : Nat} {x1 : Int32} {x2 : Int32} {r : Int32} {M' : Me} (h : fX12_tell T M x0 x1 x2 = some (r, M')) : Kt l B yX12_tell cX12_tell 5 (some .int) d [.ref (x0), .int (x1), .int (x2)] T M (some (.int r)) T M' := by
  refine kt_of wX12_tell (Nat.le_refl _) (Nat.le_refl _) (Nat.le_of_ble_eq_true rfl) (fun X C hR hlx hin => ?_)
  subst hlx
  replace C : Cx X B cX12_tell 5 RX12 d (tp T, sl T, tp T, sl T) := C
  unfold fX12_tell at h
  show G X B 5 _ _ 0 [(0, .ref (x0)), (1, .int (x1)), (2, .int (x2))] [] T M
  refine g_aload_n (pc := 0) C dX12_tell_0 rfl 0 rfl ?_
  refine g_iconst (pc := 1) (v := 0) C dX12_tell_1 (by decide) ?_
  replace h := gd_some h; obtain ⟨hk1, h⟩ := h
  refine g_putI (pc := 2) C dX12_tell_2 kX12 hk1 0 (by decide) rfl rfl rfl q_1227 ?_
  refine g_mem (fun M2 eM2 => ?_)
  replace h := lt_at eM2 h
  refine g_aload_n (pc := 5) C dX12_tell_5 rfl 0 rfl ?_
  refine g_iload_n (pc := 6) C dX12_tell_6 rfl 1 rfl ?_
  refine g_i2l (pc := 7) C dX12_tell_7 ?_
  replace h := bnd h; obtain ⟨r3, h1, h⟩ := h
  refine g_callVi (pc := 8) (As := [.long (Int32.toInt64 x1)]) (st := []) C dX12_tell_8 wX12_isLane hk1 rfl (by decide) q_1481 q_75 q_1479 (by omega) rfl (Nat.le_of_ble_eq_true rfl) (kX12_isLane (d := 1) (Nat.le_refl _) h1) ?_
  refine g_if_eq (pc := 11) (tgt := 24) C dX12_tell_11 (by decide) (fun c4 => ?_) (fun c4 => ?_)
  · replace h := ifp c4 h
    refine g_bipush (pc := 24) (v := (-2)) C dX12_tell_24 (by decide) ?_
    obtain ⟨rfl, rfl⟩ := Prod.mk.inj (Option.some.inj h)
    exact g_iret C hR dX12_tell_26
  · replace h := ifn c4 h
    refine g_iload_n (pc := 14) C dX12_tell_14 rfl 2 rfl ?_
    refine g_i2l (pc := 15) C dX12_tell_15 ?_
    refine g_lconst (pc := 16) (v := 0) C dX12_tell_16 rfl ?_
    refine g_lconst (pc := 17) (v := 1) C dX12_tell_17 rfl ?_
    replace h := bnd h; obtain ⟨r5, h1, h⟩ := h
    refine g_callSi (pc := 18) (As := [.long (Int32.toInt64 x2), .long ((0 : Int64)), .long ((1 : Int64))]) (st := []) C dX12_tell_18 wX12_within q_1367 q_1366 (by omega) rfl (Nat.le_of_ble_eq_true rfl) (kX12_within (d := 0) (Nat.le_refl _) h1) ?_
    refine g_if_ne (pc := 21) (tgt := 27) C dX12_tell_21 (by decide) (fun c6 => ?_) (fun c6 => ?_)
    · replace h := ifn c6 h
      refine g_aload_n (pc := 27) C dX12_tell_27 rfl 0 rfl ?_
      refine g_get (pc := 28) (v := va_rf (gR M2 x0 1)) C dX12_tell_28 kX12 hk1 1 (by decide) q_1228 rfl ?_
      replace h := bnd h; obtain ⟨a7, ea7, h⟩ := h
      refine g_refq ea7 ?_
      refine g_iconst (pc := 31) (v := 4) C dX12_tell_31 (by decide) ?_
      replace h := gd_some h; obtain ⟨hk8, h⟩ := h
      replace h := gv_some h; obtain ⟨hi9, h⟩ := h
      refine g_iald (pc := 32) C dX12_tell_32 hk8 hi9 ?_
      refine g_if_ne (pc := 33) (tgt := 38) C dX12_tell_33 (by decide) (fun c10 => ?_) (fun c10 => ?_)
      · replace h := ifn c10 h
        refine g_aload_n (pc := 38) C dX12_tell_38 rfl 0 rfl ?_
        refine g_iload_n (pc := 39) C dX12_tell_39 rfl 1 rfl ?_
        replace h := bnd2 h; obtain ⟨_u, M11, h1, h⟩ := h
        refine g_callVv (pc := 40) (As := [.int (x1)]) (st := []) C dX12_tell_40 wX12_laysMaps hk1 rfl (by decide) q_1760 q_111 q_1758 (by omega) rfl (Nat.le_of_ble_eq_true rfl) (kX12_laysMaps (d := 4) (Nat.le_refl _) h1) ?_
        refine g_iconst (pc := 43) (v := 1) C dX12_tell_43 (by decide) ?_
        refine g_aload_n (pc := 44) C dX12_tell_44 rfl 0 rfl ?_
        refine g_get (pc := 45) (v := va_rf (gR M11 x0 1)) C dX12_tell_45 kX12 hk1 1 (by decide) q_1228 rfl ?_
        replace h := bnd h; obtain ⟨a12, ea12, h⟩ := h
        refine g_refq ea12 ?_
        refine g_iconst (pc := 48) (v := 4) C dX12_tell_48 (by decide) ?_
        replace h := gd_some h; obtain ⟨hk13, h⟩ := h
        replace h := gv_some h; obtain ⟨hi14, h⟩ := h
        refine g_iald (pc := 49) C dX12_tell_49 hk13 hi14 ?_
        refine g_ishl (pc := 50) C dX12_tell_50 ?_
        refine g_iconst (pc := 51) (v := 1) C dX12_tell_51 (by decide) ?_
        refine g_isub (pc := 52) C dX12_tell_52 ?_
        refine g_topi (fun v15 ev15 => ?_)
        replace h := lt_at ev15 h
        refine g_istore_n (pc := 53) (lo2 := [(3, .int (v15)), (0, .ref (x0)), (1, .int (x1)), (2, .int (x2))]) C dX12_tell_53 rfl (by decide) rfl ?_
        refine g_iload_n (pc := 54) C dX12_tell_54 rfl 0 rfl ?_
        refine g_istore (pc := 55) (lo2 := [(4, .int (v15)), (3, .int (v15)), (0, .ref (x0)), (1, .int (x1)), (2, .int (x2))]) C dX12_tell_55 (by decide) rfl ?_
        replace h := bnd h; obtain ⟨x3_26, h1, h⟩ := h
        refine g_sub [2, 4, 1, 0] rfl ?_
        refine lp_G2 (P := PX12_tell_57 X B _ _ T M11 x0 x2) (E := EX12_tell_57 X B _ _ T M11 x0 x2) (tbX12_tell_57 C hd) h1 ?_
        show G X B 5 _ _ 92 [(2, .int (x2)), (3, .int (x3_26))] [] T M11
        refine g_iload_n (pc := 92) C dX12_tell_92 rfl 0 rfl ?_
        refine g_if_ne (pc := 93) (tgt := 103) C dX12_tell_93 (by decide) (fun c27 => ?_) (fun c27 => ?_)
        · replace h := ifn c27 h
          refine g_iload_n (pc := 103) C dX12_tell_103 rfl 1 rfl ?_
          obtain ⟨rfl, rfl⟩ := Prod.mk.inj (Option.some.inj h)
          exact g_iret C hR dX12_tell_104
        · replace h := ifp c27 h
          refine g_iload_n (pc := 96) C dX12_tell_96 rfl 1 rfl ?_
          replace h := bnd h; obtain ⟨r28, h1, h⟩ := h
          refine g_callSi (pc := 97) (As := [.int (x3_26)]) (st := []) C dX12_tell_97 wX12_bitsOf q_1591 q_1590 (by omega) rfl (Nat.le_of_ble_eq_true rfl) (kX12_bitsOf (d := 0) (Nat.le_refl _) h1) ?_
          refine g_goto (pc := 100) (tgt := 104) C dX12_tell_100 (by decide) ?_
          obtain ⟨rfl, rfl⟩ := Prod.mk.inj (Option.some.inj h)
          exact g_iret C hR dX12_tell_104
      · replace h := ifp c10 h
        refine g_iconst (pc := 36) (v := (-1)) C dX12_tell_36 (by decide) ?_
        obtain ⟨rfl, rfl⟩ := Prod.mk.inj (Option.some.inj h)
        exact g_iret C hR dX12_tell_37
    · replace h := ifp c6 h
      refine g_bipush (pc := 24) (v := (-2)) C dX12_tell_24 (by decide) ?_
      obtain ⟨rfl, rfl⟩ := Prod.mk.inj (Option.some.inj h)
      exact g_iret C hR dX12_tell_26
theorem dX12_laysAhead_0 : decode cX12_laysAhead 0 = .ok (.aload_n 0, 1) := by decide +kernel
theorem dX12_laysAhead_1 : decode cX12_laysAhead 1 = .ok (.invokevirtual 251, 3) := by decide +kernel
theorem dX12_laysAhead_4 : decode cX12_laysAhead 4 = .ok (.aload_n 0, 1) := by decide +kernel
theorem dX12_laysAhead_5 : decode cX12_laysAhead 5 = .ok (.aload_n 0, 1) := by decide +kernel
theorem dX12_laysAhead_6 : decode cX12_laysAhead 6 = .ok (.aload_n 0, 1) := by decide +kernel
theorem dX12_laysAhead_7 : decode cX12_laysAhead 7 = .ok (.getfield 13, 3) := by decide +kernel
theorem dX12_laysAhead_10 : decode cX12_laysAhead 10 = .ok (.bipush 48, 2) := by decide +kernel
theorem dX12_laysAhead_12 : decode cX12_laysAhead 12 = .ok (.iaload, 1) := by decide +kernel
theorem dX12_laysAhead_13 : decode cX12_laysAhead 13 = .ok (.iload_n 1, 1) := by decide +kernel
theorem dX12_laysAhead_14 : decode cX12_laysAhead 14 = .ok (.iadd, 1) := by decide +kernel
theorem dX12_laysAhead_15 : decode cX12_laysAhead 15 = .ok (.invokevirtual 217, 3) := by decide +kernel
theorem dX12_laysAhead_18 : decode cX12_laysAhead 18 = .ok (.putfield 220, 3) := by decide +kernel
theorem dX12_laysAhead_21 : decode cX12_laysAhead 21 = .ok (.return_, 1) := by decide +kernel
theorem wX12_laysAhead : Mw yX12_laysAhead cX12_laysAhead 2 none 1 := ⟨q_1782, q_130, by decide, ⟨by decide +kernel, by decide +kernel⟩, by decide +kernel, by decide +kernel⟩
/-- EyeTrainerModel.laysAhead(I)V -/
def fX12_laysAhead (T : Sh) (M : Me) (x0 : Nat) (x1 : Int32) : Option (Unit × Me) :=
  gd (kd T x0 = 11) <| Option.bind (fX12_laysNow T M x0) <| un2 fun _u M2 => Option.bind (gR M2 x0 1) fun a3 => gd (kd T a3 = 13) <| gv (48 : Int32) (ln T a3) <| Option.bind (fX12_driftAt T M2 x0 ((gI M2 a3 (Int32.toNatClampNeg (48 : Int32))) + x1)) <| un2 fun r6 M7 => lt (pI M7 x0 18 r6) fun M8 => some ((), M8)
set_option maxHeartbeats 4000000 in
theorem kX12_laysAhead {l : Launch} {B : Bx} {d : Nat} (hd : 4 ≤ d) {T : Sh} {M : Me} {x0 : Nat} {x1 : Int32} {M' : Me} (h : fX12_laysAhead T M x0 x1 = some ((), M')) : Kt l B yX12_laysAhead cX12_laysAhead 2 none d [.ref (x0), .int (x1)] T M none T M' := by
  refine kt_of wX12_laysAhead (Nat.le_refl _) (Nat.le_refl _) (Nat.le_of_ble_eq_true rfl) (fun X C hR hlx hin => ?_)
  subst hlx
  replace C : Cx X B cX12_laysAhead 2 RX12 d (tp T, sl T, tp T, sl T) := C
  unfold fX12_laysAhead at h
  show G X B 2 _ _ 0 [(0, .ref (x0)), (1, .int (x1))] [] T M
  refine g_aload_n (pc := 0) C dX12_laysAhead_0 rfl 0 rfl ?_
  replace h := gd_some h; obtain ⟨hk1, h⟩ := h
  replace h := bnd2 h; obtain ⟨_u, M2, h1, h⟩ := h
  refine g_callVv (pc := 1) (As := []) (st := []) C dX12_laysAhead_1 wX12_laysNow hk1 rfl (by decide) q_1485 q_76 q_1483 (by omega) rfl (Nat.le_of_ble_eq_true rfl) (kX12_laysNow (d := 3) (Nat.le_refl _) h1) ?_
  refine g_aload_n (pc := 4) C dX12_laysAhead_4 rfl 0 rfl ?_
  refine g_aload_n (pc := 5) C dX12_laysAhead_5 rfl 0 rfl ?_
  refine g_aload_n (pc := 6) C dX12_laysAhead_6 rfl 0 rfl ?_
  refine g_get (pc := 7) (v := va_rf (gR M2 x0 1)) C dX12_laysAhead_7 kX12 hk1 1 (by decide) q_1228 rfl ?_
  replace h := bnd h; obtain ⟨a3, ea3, h⟩ := h
  refine g_refq ea3 ?_
  refine g_bipush (pc := 10) (v := 48) C dX12_laysAhead_10 (by decide) ?_
  replace h := gd_some h; obtain ⟨hk4, h⟩ := h
  replace h := gv_some h; obtain ⟨hi5, h⟩ := h
  refine g_iald (pc := 12) C dX12_laysAhead_12 hk4 hi5 ?_
  refine g_iload_n (pc := 13) C dX12_laysAhead_13 rfl 1 rfl ?_
  refine g_iadd (pc := 14) C dX12_laysAhead_14 ?_
  replace h := bnd2 h; obtain ⟨r6, M7, h1, h⟩ := h
  refine g_callVi (pc := 15) (As := [.int ((gI M2 a3 (Int32.toNatClampNeg (48 : Int32))) + x1)]) (st := [.ref (x0)]) C dX12_laysAhead_15 wX12_driftAt hk1 rfl (by decide) q_1489 q_77 q_1487 (by omega) rfl (Nat.le_of_ble_eq_true rfl) (kX12_driftAt (d := 2) (Nat.le_refl _) h1) ?_
  refine g_putI (pc := 18) C dX12_laysAhead_18 kX12 hk1 18 (by decide) rfl rfl rfl q_1245 ?_
  refine g_mem (fun M8 eM8 => ?_)
  replace h := lt_at eM8 h
  obtain ⟨-, rfl⟩ := Prod.mk.inj (Option.some.inj h)
  exact g_vret C hR dX12_laysAhead_21
theorem dX12_later_0 : decode cX12_later 0 = .ok (.aload_n 0, 1) := by decide +kernel
theorem dX12_later_1 : decode cX12_later 1 = .ok (.iconst 0, 1) := by decide +kernel
theorem dX12_later_2 : decode cX12_later 2 = .ok (.putfield 1, 3) := by decide +kernel
theorem dX12_later_5 : decode cX12_later 5 = .ok (.aload_n 0, 1) := by decide +kernel
theorem dX12_later_6 : decode cX12_later 6 = .ok (.iload_n 1, 1) := by decide +kernel
theorem dX12_later_7 : decode cX12_later 7 = .ok (.i2l, 1) := by decide +kernel
theorem dX12_later_8 : decode cX12_later 8 = .ok (.invokevirtual 247, 3) := by decide +kernel
theorem dX12_later_11 : decode cX12_later 11 = .ok (.ifCond .ne 6, 3) := by decide +kernel
theorem dX12_later_14 : decode cX12_later 14 = .ok (.bipush (-2), 2) := by decide +kernel
theorem dX12_later_16 : decode cX12_later 16 = .ok (.ireturn, 1) := by decide +kernel
theorem dX12_later_17 : decode cX12_later 17 = .ok (.iload_n 2, 1) := by decide +kernel
theorem dX12_later_18 : decode cX12_later 18 = .ok (.i2l, 1) := by decide +kernel
theorem dX12_later_19 : decode cX12_later 19 = .ok (.lconst 0, 1) := by decide +kernel
theorem dX12_later_20 : decode cX12_later 20 = .ok (.ldc2_w 427, 3) := by decide +kernel
theorem dX12_later_23 : decode cX12_later 23 = .ok (.invokestatic 139, 3) := by decide +kernel
theorem dX12_later_26 : decode cX12_later 26 = .ok (.ifCond .ne 6, 3) := by decide +kernel
theorem dX12_later_29 : decode cX12_later 29 = .ok (.bipush (-3), 2) := by decide +kernel
theorem dX12_later_31 : decode cX12_later 31 = .ok (.ireturn, 1) := by decide +kernel
theorem dX12_later_32 : decode cX12_later 32 = .ok (.aload_n 0, 1) := by decide +kernel
theorem dX12_later_33 : decode cX12_later 33 = .ok (.iload_n 2, 1) := by decide +kernel
theorem dX12_later_34 : decode cX12_later 34 = .ok (.invokevirtual 429, 3) := by decide +kernel
theorem dX12_later_37 : decode cX12_later 37 = .ok (.aload_n 0, 1) := by decide +kernel
theorem dX12_later_38 : decode cX12_later 38 = .ok (.iload_n 1, 1) := by decide +kernel
theorem dX12_later_39 : decode cX12_later 39 = .ok (.invokevirtual 254, 3) := by decide +kernel
theorem dX12_later_42 : decode cX12_later 42 = .ok (.ifCond .eq 7, 3) := by decide +kernel
theorem dX12_later_45 : decode cX12_later 45 = .ok (.iconst 1, 1) := by decide +kernel
theorem dX12_later_46 : decode cX12_later 46 = .ok (.goto 4, 3) := by decide +kernel
theorem dX12_later_49 : decode cX12_later 49 = .ok (.iconst 0, 1) := by decide +kernel
theorem dX12_later_50 : decode cX12_later 50 = .ok (.ireturn, 1) := by decide +kernel
theorem wX12_later : Mw yX12_later cX12_later 3 (some .int) 2 := ⟨q_1777, q_130, by decide, ⟨by decide +kernel, by decide +kernel⟩, by decide +kernel, by decide +kernel⟩
/-- EyeTrainerModel.later(II)I -/
def fX12_later (T : Sh) (M : Me) (x0 : Nat) (x1 : Int32) (x2 : Int32) : Option (Int32 × Me) :=
  gd (kd T x0 = 11) <| lt (pI M x0 0 (0 : Int32)) fun M2 => Option.bind (fX12_isLane T M2 x0 (Int32.toInt64 x1)) fun r3 => if r3 = 0 then (some ((-2 : Int32), M2)) else (Option.bind (fX12_within (Int32.toInt64 x2) (0 : Int64) (999 : Int64)) fun r5 => if r5 = 0 then (some ((-3 : Int32), M2)) else (Option.bind (fX12_laysAhead T M2 x0 x2) <| un2 fun _u M7 => Option.bind (fX12_isAtPoint T M7 x0 x1) <| un2 fun r8 M9 => if r8 = 0 then (some ((0 : Int32), M9)) else (some ((1 : Int32), M9))))
set_option maxHeartbeats 4000000 in
theorem kX12_later {l : Launch} {B : Bx} {d : Nat} (hd : 5 ≤ d) {T : Sh} {M : Me} {x0 : Nat} {x1 : Int32} {x2 : Int32} {r : Int32} {M' : Me} (h : fX12_later T M x0 x1 x2 = some (r, M')) : Kt l B yX12_later cX12_later 3 (some .int) d [.ref (x0), .int (x1), .int (x2)] T M (some (.int r)) T M' := by
  refine kt_of wX12_later (Nat.le_refl _) (Nat.le_refl _) (Nat.le_of_ble_eq_true rfl) (fun X C hR hlx hin => ?_)
  subst hlx
  replace C : Cx X B cX12_later 3 RX12 d (tp T, sl T, tp T, sl T) := C
  unfold fX12_later at h
  show G X B 3 _ _ 0 [(0, .ref (x0)), (1, .int (x1)), (2, .int (x2))] [] T M
  refine g_aload_n (pc := 0) C dX12_later_0 rfl 0 rfl ?_
  refine g_iconst (pc := 1) (v := 0) C dX12_later_1 (by decide) ?_
  replace h := gd_some h; obtain ⟨hk1, h⟩ := h
  refine g_putI (pc := 2) C dX12_later_2 kX12 hk1 0 (by decide) rfl rfl rfl q_1227 ?_
  refine g_mem (fun M2 eM2 => ?_)
  replace h := lt_at eM2 h
  refine g_aload_n (pc := 5) C dX12_later_5 rfl 0 rfl ?_
  refine g_iload_n (pc := 6) C dX12_later_6 rfl 1 rfl ?_
  refine g_i2l (pc := 7) C dX12_later_7 ?_
  replace h := bnd h; obtain ⟨r3, h1, h⟩ := h
  refine g_callVi (pc := 8) (As := [.long (Int32.toInt64 x1)]) (st := []) C dX12_later_8 wX12_isLane hk1 rfl (by decide) q_1481 q_75 q_1479 (by omega) rfl (Nat.le_of_ble_eq_true rfl) (kX12_isLane (d := 1) (Nat.le_refl _) h1) ?_
  refine g_if_ne (pc := 11) (tgt := 17) C dX12_later_11 (by decide) (fun c4 => ?_) (fun c4 => ?_)
  · replace h := ifn c4 h
    refine g_iload_n (pc := 17) C dX12_later_17 rfl 2 rfl ?_
    refine g_i2l (pc := 18) C dX12_later_18 ?_
    refine g_lconst (pc := 19) (v := 0) C dX12_later_19 rfl ?_
    refine g_ldc2 (pc := 20) C dX12_later_20 q_1778 ?_
    replace h := bnd h; obtain ⟨r5, h1, h⟩ := h
    refine g_callSi (pc := 23) (As := [.long (Int32.toInt64 x2), .long ((0 : Int64)), .long ((999 : Int64))]) (st := []) C dX12_later_23 wX12_within q_1367 q_1366 (by omega) rfl (Nat.le_of_ble_eq_true rfl) (kX12_within (d := 0) (Nat.le_refl _) h1) ?_
    refine g_if_ne (pc := 26) (tgt := 32) C dX12_later_26 (by decide) (fun c6 => ?_) (fun c6 => ?_)
    · replace h := ifn c6 h
      refine g_aload_n (pc := 32) C dX12_later_32 rfl 0 rfl ?_
      refine g_iload_n (pc := 33) C dX12_later_33 rfl 2 rfl ?_
      replace h := bnd2 h; obtain ⟨_u, M7, h1, h⟩ := h
      refine g_callVv (pc := 34) (As := [.int (x2)]) (st := []) C dX12_later_34 wX12_laysAhead hk1 rfl (by decide) q_1781 q_114 q_1779 (by omega) rfl (Nat.le_of_ble_eq_true rfl) (kX12_laysAhead (d := 4) (Nat.le_refl _) h1) ?_
      refine g_aload_n (pc := 37) C dX12_later_37 rfl 0 rfl ?_
      refine g_iload_n (pc := 38) C dX12_later_38 rfl 1 rfl ?_
      replace h := bnd2 h; obtain ⟨r8, M9, h1, h⟩ := h
      refine g_callVi (pc := 39) (As := [.int (x1)]) (st := []) C dX12_later_39 wX12_isAtPoint hk1 rfl (by decide) q_1502 q_79 q_1500 (by omega) rfl (Nat.le_of_ble_eq_true rfl) (kX12_isAtPoint (d := 3) (Nat.le_refl _) h1) ?_
      refine g_if_eq (pc := 42) (tgt := 49) C dX12_later_42 (by decide) (fun c10 => ?_) (fun c10 => ?_)
      · replace h := ifp c10 h
        refine g_iconst (pc := 49) (v := 0) C dX12_later_49 (by decide) ?_
        obtain ⟨rfl, rfl⟩ := Prod.mk.inj (Option.some.inj h)
        exact g_iret C hR dX12_later_50
      · replace h := ifn c10 h
        refine g_iconst (pc := 45) (v := 1) C dX12_later_45 (by decide) ?_
        refine g_goto (pc := 46) (tgt := 50) C dX12_later_46 (by decide) ?_
        obtain ⟨rfl, rfl⟩ := Prod.mk.inj (Option.some.inj h)
        exact g_iret C hR dX12_later_50
    · replace h := ifp c6 h
      refine g_bipush (pc := 29) (v := (-3)) C dX12_later_29 (by decide) ?_
      obtain ⟨rfl, rfl⟩ := Prod.mk.inj (Option.some.inj h)
      exact g_iret C hR dX12_later_31
  · replace h := ifp c4 h
    refine g_bipush (pc := 14) (v := (-2)) C dX12_later_14 (by decide) ?_
    obtain ⟨rfl, rfl⟩ := Prod.mk.inj (Option.some.inj h)
    exact g_iret C hR dX12_later_16
theorem dX12_holds_0 : decode cX12_holds 0 = .ok (.aload_n 0, 1) := by decide +kernel
theorem dX12_holds_1 : decode cX12_holds 1 = .ok (.iconst 0, 1) := by decide +kernel
theorem dX12_holds_2 : decode cX12_holds 2 = .ok (.putfield 1, 3) := by decide +kernel
theorem dX12_holds_5 : decode cX12_holds 5 = .ok (.aload_n 0, 1) := by decide +kernel
theorem dX12_holds_6 : decode cX12_holds 6 = .ok (.iload_n 1, 1) := by decide +kernel
theorem dX12_holds_7 : decode cX12_holds 7 = .ok (.i2l, 1) := by decide +kernel
theorem dX12_holds_8 : decode cX12_holds 8 = .ok (.invokevirtual 247, 3) := by decide +kernel
theorem dX12_holds_11 : decode cX12_holds 11 = .ok (.ifCond .ne 6, 3) := by decide +kernel
theorem dX12_holds_14 : decode cX12_holds 14 = .ok (.bipush (-2), 2) := by decide +kernel
theorem dX12_holds_16 : decode cX12_holds 16 = .ok (.ireturn, 1) := by decide +kernel
theorem dX12_holds_17 : decode cX12_holds 17 = .ok (.iconst 0, 1) := by decide +kernel
theorem dX12_holds_18 : decode cX12_holds 18 = .ok (.istore_n 2, 1) := by decide +kernel
theorem dX12_holds_19 : decode cX12_holds 19 = .ok (.iload_n 2, 1) := by decide +kernel
theorem dX12_holds_20 : decode cX12_holds 20 = .ok (.sipush 999, 3) := by decide +kernel
theorem dX12_holds_23 : decode cX12_holds 23 = .ok (.if_icmp .gt 24, 3) := by decide +kernel
theorem dX12_holds_26 : decode cX12_holds 26 = .ok (.aload_n 0, 1) := by decide +kernel
theorem dX12_holds_27 : decode cX12_holds 27 = .ok (.iload_n 2, 1) := by decide +kernel
theorem dX12_holds_28 : decode cX12_holds 28 = .ok (.invokevirtual 429, 3) := by decide +kernel
theorem dX12_holds_31 : decode cX12_holds 31 = .ok (.aload_n 0, 1) := by decide +kernel
theorem dX12_holds_32 : decode cX12_holds 32 = .ok (.iload_n 1, 1) := by decide +kernel
theorem dX12_holds_33 : decode cX12_holds 33 = .ok (.invokevirtual 254, 3) := by decide +kernel
theorem dX12_holds_36 : decode cX12_holds 36 = .ok (.ifCond .ne 5, 3) := by decide +kernel
theorem dX12_holds_39 : decode cX12_holds 39 = .ok (.iload_n 2, 1) := by decide +kernel
theorem dX12_holds_40 : decode cX12_holds 40 = .ok (.ireturn, 1) := by decide +kernel
theorem dX12_holds_41 : decode cX12_holds 41 = .ok (.iinc 2 1, 3) := by decide +kernel
theorem dX12_holds_44 : decode cX12_holds 44 = .ok (.goto (-25), 3) := by decide +kernel
theorem dX12_holds_47 : decode cX12_holds 47 = .ok (.iconst (-1), 1) := by decide +kernel
theorem dX12_holds_48 : decode cX12_holds 48 = .ok (.ireturn, 1) := by decide +kernel
theorem wX12_holds : Mw yX12_holds cX12_holds 3 (some .int) 1 := ⟨q_1786, q_130, by decide, ⟨by decide +kernel, by decide +kernel⟩, by decide +kernel, by decide +kernel⟩
-- a loop of EyeTrainerModel.holds at 19
def bX12_holds_19 (T : Sh) (x0 : Nat) (x1 : Int32) (x2 : Int32) (M : Me) : Option ((Int32 × Me) ⊕ ((Int32 × Me) ⊕ Me)) :=
  if (999 : Int32) < x2 then (some (.inr (.inr M))) else (gd (kd T x0 = 11) <| Option.bind (fX12_laysAhead T M x0 x2) <| un2 fun _u M7 => Option.bind (fX12_isAtPoint T M7 x0 x1) <| un2 fun r8 M9 => if r8 = 0 then (some (.inr (.inl (x2, M9)))) else (lt (x2 + (1 : Int32)) fun v11 => some (.inl (v11, M9))))
def PX12_holds_19 (X : Fx) (B : Bx) (Z : Nat × Nat × Nat × Nat) (Q : State → Prop) (T : Sh) (x0 : Nat) (x1 : Int32) (s : Int32 × Me) : Prop := G X B 3 Z Q 19 [(0, .ref (x0)), (1, .int (x1)), (2, .int (s.1))] [] T s.2
def EX12_holds_19 (X : Fx) (B : Bx) (Z : Nat × Nat × Nat × Nat) (Q : State → Prop) (T : Sh) (x0 : Nat) (x1 : Int32) (r : (Int32 × Me) ⊕ Me) : Prop := Sum.elim (fun r => G X B 3 Z Q 39 [(2, .int (r.1))] [] T r.2) (fun r => G X B 3 Z Q 47 [] [] T r) r
set_option maxHeartbeats 4000000 in
theorem tbX12_holds_19 {X : Fx} {B : Bx} {Z : Nat × Nat × Nat × Nat} {Q : State → Prop} {d : Nat} {T : Sh} (C : Cx X B cX12_holds 3 RX12 d Z) (hd : 5 ≤ d) {x0 : Nat} {x1 : Int32} : ∀ (s : Int32 × Me) (o : (Int32 × Me) ⊕ ((Int32 × Me) ⊕ Me)), bX12_holds_19 T x0 x1 s.1 s.2 = some o → lpE (PX12_holds_19 X B Z Q T x0 x1) (EX12_holds_19 X B Z Q T x0 x1) o → PX12_holds_19 X B Z Q T x0 x1 s := by
  rintro ⟨x2, M⟩ o h hE
  replace h : bX12_holds_19 T x0 x1 x2 M = some o := h
  unfold bX12_holds_19 at h
  show G X B 3 Z Q 19 [(0, .ref (x0)), (1, .int (x1)), (2, .int (x2))] [] T M
  refine g_iload_n (pc := 19) C dX12_holds_19 rfl 2 rfl ?_
  refine g_sipush (pc := 20) (v := 999) C dX12_holds_20 (by decide) ?_
  refine g_icmp_gt (pc := 23) (tgt := 47) C dX12_holds_23 (by decide) (fun c5 => ?_) (fun c5 => ?_)
  · replace h := ifp c5 h
    obtain rfl := Option.some.inj h
    exact g_sub [] rfl (show G X B 3 Z Q 47 [] [] T M from hE)
  · replace h := ifn c5 h
    refine g_aload_n (pc := 26) C dX12_holds_26 rfl 0 rfl ?_
    refine g_iload_n (pc := 27) C dX12_holds_27 rfl 2 rfl ?_
    replace h := gd_some h; obtain ⟨hk6, h⟩ := h
    replace h := bnd2 h; obtain ⟨_u, M7, h1, h⟩ := h
    refine g_callVv (pc := 28) (As := [.int (x2)]) (st := []) C dX12_holds_28 wX12_laysAhead hk6 rfl (by decide) q_1781 q_114 q_1779 (by omega) rfl (Nat.le_of_ble_eq_true rfl) (kX12_laysAhead (d := 4) (Nat.le_refl _) h1) ?_
    refine g_aload_n (pc := 31) C dX12_holds_31 rfl 0 rfl ?_
    refine g_iload_n (pc := 32) C dX12_holds_32 rfl 1 rfl ?_
    replace h := bnd2 h; obtain ⟨r8, M9, h1, h⟩ := h
    refine g_callVi (pc := 33) (As := [.int (x1)]) (st := []) C dX12_holds_33 wX12_isAtPoint hk6 rfl (by decide) q_1502 q_79 q_1500 (by omega) rfl (Nat.le_of_ble_eq_true rfl) (kX12_isAtPoint (d := 3) (Nat.le_refl _) h1) ?_
    refine g_if_ne (pc := 36) (tgt := 41) C dX12_holds_36 (by decide) (fun c10 => ?_) (fun c10 => ?_)
    · replace h := ifn c10 h
      obtain ⟨v11, ev11⟩ : ∃ y : Int32, y = x2 + (1 : Int32) := ⟨_, rfl⟩
      replace h := lt_at ev11 h
      refine g_iinc (pc := 41) (v := v11) (k := 2) (lo2 := [(2, .int (v11)), (0, .ref (x0)), (1, .int (x1))]) C dX12_holds_41 rfl (by rw [ev11]; rfl) (by decide) rfl ?_
      refine g_goto (pc := 44) (tgt := 19) C dX12_holds_44 (by decide) ?_
      obtain rfl := Option.some.inj h
      exact g_sub [1, 2, 0] rfl (show G X B 3 Z Q 19 [(0, .ref (x0)), (1, .int (x1)), (2, .int (v11))] [] T M9 from hE)
    · replace h := ifp c10 h
      obtain rfl := Option.some.inj h
      exact g_sub [2] rfl (show G X B 3 Z Q 39 [(2, .int (x2))] [] T M9 from hE)
/-- EyeTrainerModel.holds(I)I -/
def fX12_holds (T : Sh) (M : Me) (x0 : Nat) (x1 : Int32) : Option (Int32 × Me) :=
  gd (kd T x0 = 11) <| lt (pI M x0 0 (0 : Int32)) fun M2 => Option.bind (fX12_isLane T M2 x0 (Int32.toInt64 x1)) fun r3 => if r3 = 0 then (some ((-2 : Int32), M2)) else ((lp FU (fun s => bX12_holds_19 T x0 x1 s.1 s.2) ((0 : Int32), M2)).bind (Sum.elim (un2 fun x2_12 M13 => some (x2_12, M13)) (fun M14 => some ((-1 : Int32), M14))))
set_option maxHeartbeats 4000000 in
theorem kX12_holds {l : Launch} {B : Bx} {d : Nat} (hd : 5 ≤ d) {T : Sh} {M : Me} {x0 : Nat} {x1 : Int32} {r : Int32} {M' : Me} (h : fX12_holds T M x0 x1 = some (r, M')) : Kt l B yX12_holds cX12_holds 3 (some .int) d [.ref (x0), .int (x1)] T M (some (.int r)) T M' := by
  refine kt_of wX12_holds (Nat.le_refl _) (Nat.le_refl _) (Nat.le_of_ble_eq_true rfl) (fun X C hR hlx hin => ?_)
  subst hlx
  replace C : Cx X B cX12_holds 3 RX12 d (tp T, sl T, tp T, sl T) := C
  unfold fX12_holds at h
  show G X B 3 _ _ 0 [(0, .ref (x0)), (1, .int (x1))] [] T M
  refine g_aload_n (pc := 0) C dX12_holds_0 rfl 0 rfl ?_
  refine g_iconst (pc := 1) (v := 0) C dX12_holds_1 (by decide) ?_
  replace h := gd_some h; obtain ⟨hk1, h⟩ := h
  refine g_putI (pc := 2) C dX12_holds_2 kX12 hk1 0 (by decide) rfl rfl rfl q_1227 ?_
  refine g_mem (fun M2 eM2 => ?_)
  replace h := lt_at eM2 h
  refine g_aload_n (pc := 5) C dX12_holds_5 rfl 0 rfl ?_
  refine g_iload_n (pc := 6) C dX12_holds_6 rfl 1 rfl ?_
  refine g_i2l (pc := 7) C dX12_holds_7 ?_
  replace h := bnd h; obtain ⟨r3, h1, h⟩ := h
  refine g_callVi (pc := 8) (As := [.long (Int32.toInt64 x1)]) (st := []) C dX12_holds_8 wX12_isLane hk1 rfl (by decide) q_1481 q_75 q_1479 (by omega) rfl (Nat.le_of_ble_eq_true rfl) (kX12_isLane (d := 1) (Nat.le_refl _) h1) ?_
  refine g_if_ne (pc := 11) (tgt := 17) C dX12_holds_11 (by decide) (fun c4 => ?_) (fun c4 => ?_)
  · replace h := ifn c4 h
    refine g_iconst (pc := 17) (v := 0) C dX12_holds_17 (by decide) ?_
    refine g_istore_n (pc := 18) (lo2 := [(2, .int ((0 : Int32))), (0, .ref (x0)), (1, .int (x1))]) C dX12_holds_18 rfl (by decide) rfl ?_
    replace h := bndE h; rcases h with ⟨a1, h1, h⟩ | ⟨M14, h1, h⟩
    · obtain ⟨x2_12, M13⟩ := a1
      replace h := un2_d h
      refine g_sub [1, 2, 0] rfl ?_
      refine lp_G2 (P := PX12_holds_19 X B _ _ T x0 x1) (E := EX12_holds_19 X B _ _ T x0 x1) (tbX12_holds_19 C hd) h1 ?_
      show G X B 3 _ _ 39 [(2, .int (x2_12))] [] T M13
      refine g_iload_n (pc := 39) C dX12_holds_39 rfl 0 rfl ?_
      obtain ⟨rfl, rfl⟩ := Prod.mk.inj (Option.some.inj h)
      exact g_iret C hR dX12_holds_40
    · refine g_sub [1, 2, 0] rfl ?_
      refine lp_G2 (P := PX12_holds_19 X B _ _ T x0 x1) (E := EX12_holds_19 X B _ _ T x0 x1) (tbX12_holds_19 C hd) h1 ?_
      show G X B 3 _ _ 47 [] [] T M14
      refine g_iconst (pc := 47) (v := (-1)) C dX12_holds_47 (by decide) ?_
      obtain ⟨rfl, rfl⟩ := Prod.mk.inj (Option.some.inj h)
      exact g_iret C hR dX12_holds_48
  · replace h := ifp c4 h
    refine g_bipush (pc := 14) (v := (-2)) C dX12_holds_14 (by decide) ?_
    obtain ⟨rfl, rfl⟩ := Prod.mk.inj (Option.some.inj h)
    exact g_iret C hR dX12_holds_16
theorem dX12_follows_0 : decode cX12_follows 0 = .ok (.aload_n 0, 1) := by decide +kernel
theorem dX12_follows_1 : decode cX12_follows 1 = .ok (.iconst 0, 1) := by decide +kernel
theorem dX12_follows_2 : decode cX12_follows 2 = .ok (.putfield 1, 3) := by decide +kernel
theorem dX12_follows_5 : decode cX12_follows 5 = .ok (.aload_n 0, 1) := by decide +kernel
theorem dX12_follows_6 : decode cX12_follows 6 = .ok (.iload_n 1, 1) := by decide +kernel
theorem dX12_follows_7 : decode cX12_follows 7 = .ok (.i2l, 1) := by decide +kernel
theorem dX12_follows_8 : decode cX12_follows 8 = .ok (.invokevirtual 247, 3) := by decide +kernel
theorem dX12_follows_11 : decode cX12_follows 11 = .ok (.ifCond .ne 6, 3) := by decide +kernel
theorem dX12_follows_14 : decode cX12_follows 14 = .ok (.bipush (-2), 2) := by decide +kernel
theorem dX12_follows_16 : decode cX12_follows 16 = .ok (.ireturn, 1) := by decide +kernel
theorem dX12_follows_17 : decode cX12_follows 17 = .ok (.aload_n 0, 1) := by decide +kernel
theorem dX12_follows_18 : decode cX12_follows 18 = .ok (.getfield 13, 3) := by decide +kernel
theorem dX12_follows_21 : decode cX12_follows 21 = .ok (.bipush 42, 2) := by decide +kernel
theorem dX12_follows_23 : decode cX12_follows 23 = .ok (.iload_n 1, 1) := by decide +kernel
theorem dX12_follows_24 : decode cX12_follows 24 = .ok (.iadd, 1) := by decide +kernel
theorem dX12_follows_25 : decode cX12_follows 25 = .ok (.iaload, 1) := by decide +kernel
theorem dX12_follows_26 : decode cX12_follows 26 = .ok (.istore_n 2, 1) := by decide +kernel
theorem dX12_follows_27 : decode cX12_follows 27 = .ok (.iconst 0, 1) := by decide +kernel
theorem dX12_follows_28 : decode cX12_follows 28 = .ok (.istore_n 3, 1) := by decide +kernel
theorem dX12_follows_29 : decode cX12_follows 29 = .ok (.iload_n 3, 1) := by decide +kernel
theorem dX12_follows_30 : decode cX12_follows 30 = .ok (.sipush 999, 3) := by decide +kernel
theorem dX12_follows_33 : decode cX12_follows 33 = .ok (.if_icmp .gt 36, 3) := by decide +kernel
theorem dX12_follows_36 : decode cX12_follows 36 = .ok (.aload_n 0, 1) := by decide +kernel
theorem dX12_follows_37 : decode cX12_follows 37 = .ok (.iload_n 3, 1) := by decide +kernel
theorem dX12_follows_38 : decode cX12_follows 38 = .ok (.invokevirtual 429, 3) := by decide +kernel
theorem dX12_follows_41 : decode cX12_follows 41 = .ok (.iload_n 3, 1) := by decide +kernel
theorem dX12_follows_42 : decode cX12_follows 42 = .ok (.ifCond .le 10, 3) := by decide +kernel
theorem dX12_follows_45 : decode cX12_follows 45 = .ok (.aload_n 0, 1) := by decide +kernel
theorem dX12_follows_46 : decode cX12_follows 46 = .ok (.iload_n 1, 1) := by decide +kernel
theorem dX12_follows_47 : decode cX12_follows 47 = .ok (.iload_n 2, 1) := by decide +kernel
theorem dX12_follows_48 : decode cX12_follows 48 = .ok (.invokevirtual 330, 3) := by decide +kernel
theorem dX12_follows_51 : decode cX12_follows 51 = .ok (.istore_n 2, 1) := by decide +kernel
theorem dX12_follows_52 : decode cX12_follows 52 = .ok (.aload_n 0, 1) := by decide +kernel
theorem dX12_follows_53 : decode cX12_follows 53 = .ok (.iload_n 1, 1) := by decide +kernel
theorem dX12_follows_54 : decode cX12_follows 54 = .ok (.iload_n 2, 1) := by decide +kernel
theorem dX12_follows_55 : decode cX12_follows 55 = .ok (.invokevirtual 229, 3) := by decide +kernel
theorem dX12_follows_58 : decode cX12_follows 58 = .ok (.ifCond .ne 5, 3) := by decide +kernel
theorem dX12_follows_61 : decode cX12_follows 61 = .ok (.iload_n 3, 1) := by decide +kernel
theorem dX12_follows_62 : decode cX12_follows 62 = .ok (.ireturn, 1) := by decide +kernel
theorem dX12_follows_63 : decode cX12_follows 63 = .ok (.iinc 3 1, 3) := by decide +kernel
theorem dX12_follows_66 : decode cX12_follows 66 = .ok (.goto (-37), 3) := by decide +kernel
theorem dX12_follows_69 : decode cX12_follows 69 = .ok (.iconst (-1), 1) := by decide +kernel
theorem dX12_follows_70 : decode cX12_follows 70 = .ok (.ireturn, 1) := by decide +kernel
theorem wX12_follows : Mw yX12_follows cX12_follows 4 (some .int) 1 := ⟨q_1790, q_130, by decide, ⟨by decide +kernel, by decide +kernel⟩, by decide +kernel, by decide +kernel⟩
-- a loop of EyeTrainerModel.follows at 29
def bX12_follows_29 (T : Sh) (x0 : Nat) (x1 : Int32) (x2 : Int32) (x3 : Int32) (M : Me) : Option ((Int32 × Int32 × Me) ⊕ ((Int32 × Me) ⊕ Me)) :=
  if (999 : Int32) < x3 then (some (.inr (.inr M))) else (gd (kd T x0 = 11) <| Option.bind (fX12_laysAhead T M x0 x3) <| un2 fun _u M11 => if x3 ≤ 0 then (Option.bind (fX12_isPassed T M11 x0 x1 x2) <| un2 fun r13 M14 => if r13 = 0 then (some (.inr (.inl (x3, M14)))) else (lt (x3 + (1 : Int32)) fun v16 => some (.inl (x2, v16, M14)))) else (Option.bind (fX12_followedFrom T M11 x0 x1 x2) <| un2 fun r17 M18 => Option.bind (fX12_isPassed T M18 x0 x1 r17) <| un2 fun r19 M20 => if r19 = 0 then (some (.inr (.inl (x3, M20)))) else (lt (x3 + (1 : Int32)) fun v22 => some (.inl (r17, v22, M20)))))
def PX12_follows_29 (X : Fx) (B : Bx) (Z : Nat × Nat × Nat × Nat) (Q : State → Prop) (T : Sh) (x0 : Nat) (x1 : Int32) (s : Int32 × Int32 × Me) : Prop := G X B 4 Z Q 29 [(0, .ref (x0)), (1, .int (x1)), (2, .int (s.1)), (3, .int (s.2.1))] [] T s.2.2
def EX12_follows_29 (X : Fx) (B : Bx) (Z : Nat × Nat × Nat × Nat) (Q : State → Prop) (T : Sh) (x0 : Nat) (x1 : Int32) (r : (Int32 × Me) ⊕ Me) : Prop := Sum.elim (fun r => G X B 4 Z Q 61 [(3, .int (r.1))] [] T r.2) (fun r => G X B 4 Z Q 69 [] [] T r) r
set_option maxHeartbeats 4000000 in
theorem tbX12_follows_29 {X : Fx} {B : Bx} {Z : Nat × Nat × Nat × Nat} {Q : State → Prop} {d : Nat} {T : Sh} (C : Cx X B cX12_follows 4 RX12 d Z) (hd : 5 ≤ d) {x0 : Nat} {x1 : Int32} : ∀ (s : Int32 × Int32 × Me) (o : (Int32 × Int32 × Me) ⊕ ((Int32 × Me) ⊕ Me)), bX12_follows_29 T x0 x1 s.1 s.2.1 s.2.2 = some o → lpE (PX12_follows_29 X B Z Q T x0 x1) (EX12_follows_29 X B Z Q T x0 x1) o → PX12_follows_29 X B Z Q T x0 x1 s := by
  rintro ⟨x2, x3, M⟩ o h hE
  replace h : bX12_follows_29 T x0 x1 x2 x3 M = some o := h
  unfold bX12_follows_29 at h
  show G X B 4 Z Q 29 [(0, .ref (x0)), (1, .int (x1)), (2, .int (x2)), (3, .int (x3))] [] T M
  refine g_iload_n (pc := 29) C dX12_follows_29 rfl 3 rfl ?_
  refine g_sipush (pc := 30) (v := 999) C dX12_follows_30 (by decide) ?_
  refine g_icmp_gt (pc := 33) (tgt := 69) C dX12_follows_33 (by decide) (fun c9 => ?_) (fun c9 => ?_)
  · replace h := ifp c9 h
    obtain rfl := Option.some.inj h
    exact g_sub [] rfl (show G X B 4 Z Q 69 [] [] T M from hE)
  · replace h := ifn c9 h
    refine g_aload_n (pc := 36) C dX12_follows_36 rfl 0 rfl ?_
    refine g_iload_n (pc := 37) C dX12_follows_37 rfl 3 rfl ?_
    replace h := gd_some h; obtain ⟨hk10, h⟩ := h
    replace h := bnd2 h; obtain ⟨_u, M11, h1, h⟩ := h
    refine g_callVv (pc := 38) (As := [.int (x3)]) (st := []) C dX12_follows_38 wX12_laysAhead hk10 rfl (by decide) q_1781 q_114 q_1779 (by omega) rfl (Nat.le_of_ble_eq_true rfl) (kX12_laysAhead (d := 4) (Nat.le_refl _) h1) ?_
    refine g_iload_n (pc := 41) C dX12_follows_41 rfl 3 rfl ?_
    refine g_if_le (pc := 42) (tgt := 52) C dX12_follows_42 (by decide) (fun c12 => ?_) (fun c12 => ?_)
    · replace h := ifp c12 h
      refine g_aload_n (pc := 52) C dX12_follows_52 rfl 0 rfl ?_
      refine g_iload_n (pc := 53) C dX12_follows_53 rfl 1 rfl ?_
      refine g_iload_n (pc := 54) C dX12_follows_54 rfl 2 rfl ?_
      replace h := bnd2 h; obtain ⟨r13, M14, h1, h⟩ := h
      refine g_callVi (pc := 55) (As := [.int (x1), .int (x2)]) (st := []) C dX12_follows_55 wX12_isPassed hk10 rfl (by decide) q_1506 q_80 q_1504 (by omega) rfl (Nat.le_of_ble_eq_true rfl) (kX12_isPassed (d := 2) (Nat.le_refl _) h1) ?_
      refine g_if_ne (pc := 58) (tgt := 63) C dX12_follows_58 (by decide) (fun c15 => ?_) (fun c15 => ?_)
      · replace h := ifn c15 h
        obtain ⟨v16, ev16⟩ : ∃ y : Int32, y = x3 + (1 : Int32) := ⟨_, rfl⟩
        replace h := lt_at ev16 h
        refine g_iinc (pc := 63) (v := v16) (k := 3) (lo2 := [(3, .int (v16)), (0, .ref (x0)), (1, .int (x1)), (2, .int (x2))]) C dX12_follows_63 rfl (by rw [ev16]; rfl) (by decide) rfl ?_
        refine g_goto (pc := 66) (tgt := 29) C dX12_follows_66 (by decide) ?_
        obtain rfl := Option.some.inj h
        exact g_sub [1, 2, 3, 0] rfl (show G X B 4 Z Q 29 [(0, .ref (x0)), (1, .int (x1)), (2, .int (x2)), (3, .int (v16))] [] T M14 from hE)
      · replace h := ifp c15 h
        obtain rfl := Option.some.inj h
        exact g_sub [3] rfl (show G X B 4 Z Q 61 [(3, .int (x3))] [] T M14 from hE)
    · replace h := ifn c12 h
      refine g_aload_n (pc := 45) C dX12_follows_45 rfl 0 rfl ?_
      refine g_iload_n (pc := 46) C dX12_follows_46 rfl 1 rfl ?_
      refine g_iload_n (pc := 47) C dX12_follows_47 rfl 2 rfl ?_
      replace h := bnd2 h; obtain ⟨r17, M18, h1, h⟩ := h
      refine g_callVi (pc := 48) (As := [.int (x1), .int (x2)]) (st := []) C dX12_follows_48 wX12_followedFrom hk10 rfl (by decide) q_1635 q_99 q_1633 (by omega) rfl (Nat.le_of_ble_eq_true rfl) (kX12_followedFrom (d := 4) (Nat.le_refl _) h1) ?_
      refine g_istore_n (pc := 51) (lo2 := [(2, .int (r17)), (0, .ref (x0)), (1, .int (x1)), (3, .int (x3))]) C dX12_follows_51 rfl (by decide) rfl ?_
      refine g_aload_n (pc := 52) C dX12_follows_52 rfl 1 rfl ?_
      refine g_iload_n (pc := 53) C dX12_follows_53 rfl 2 rfl ?_
      refine g_iload_n (pc := 54) C dX12_follows_54 rfl 0 rfl ?_
      replace h := bnd2 h; obtain ⟨r19, M20, h1, h⟩ := h
      refine g_callVi (pc := 55) (As := [.int (x1), .int (r17)]) (st := []) C dX12_follows_55 wX12_isPassed hk10 rfl (by decide) q_1506 q_80 q_1504 (by omega) rfl (Nat.le_of_ble_eq_true rfl) (kX12_isPassed (d := 2) (Nat.le_refl _) h1) ?_
      refine g_if_ne (pc := 58) (tgt := 63) C dX12_follows_58 (by decide) (fun c21 => ?_) (fun c21 => ?_)
      · replace h := ifn c21 h
        obtain ⟨v22, ev22⟩ : ∃ y : Int32, y = x3 + (1 : Int32) := ⟨_, rfl⟩
        replace h := lt_at ev22 h
        refine g_iinc (pc := 63) (v := v22) (k := 3) (lo2 := [(3, .int (v22)), (2, .int (r17)), (0, .ref (x0)), (1, .int (x1))]) C dX12_follows_63 rfl (by rw [ev22]; rfl) (by decide) rfl ?_
        refine g_goto (pc := 66) (tgt := 29) C dX12_follows_66 (by decide) ?_
        obtain rfl := Option.some.inj h
        exact g_sub [2, 3, 1, 0] rfl (show G X B 4 Z Q 29 [(0, .ref (x0)), (1, .int (x1)), (2, .int (r17)), (3, .int (v22))] [] T M20 from hE)
      · replace h := ifp c21 h
        obtain rfl := Option.some.inj h
        exact g_sub [3] rfl (show G X B 4 Z Q 61 [(3, .int (x3))] [] T M20 from hE)
/-- EyeTrainerModel.follows(I)I -/
def fX12_follows (T : Sh) (M : Me) (x0 : Nat) (x1 : Int32) : Option (Int32 × Me) :=
  gd (kd T x0 = 11) <| lt (pI M x0 0 (0 : Int32)) fun M2 => Option.bind (fX12_isLane T M2 x0 (Int32.toInt64 x1)) fun r3 => if r3 = 0 then (some ((-2 : Int32), M2)) else (Option.bind (gR M2 x0 1) fun a5 => gd (kd T a5 = 13) <| gv ((42 : Int32) + x1) (ln T a5) <| lt (gI M2 a5 (Int32.toNatClampNeg ((42 : Int32) + x1))) fun v8 => (lp FU (fun s => bX12_follows_29 T x0 x1 s.1 s.2.1 s.2.2) (v8, (0 : Int32), M2)).bind (Sum.elim (un2 fun x3_23 M24 => some (x3_23, M24)) (fun M25 => some ((-1 : Int32), M25))))
set_option maxHeartbeats 4000000 in
theorem kX12_follows {l : Launch} {B : Bx} {d : Nat} (hd : 5 ≤ d) {T : Sh} {M : Me} {x0 : Nat} {x1 : Int32} {r : Int32} {M' : Me} (h : fX12_follows T M x0 x1 = some (r, M')) : Kt l B yX12_follows cX12_follows 4 (some .int) d [.ref (x0), .int (x1)] T M (some (.int r)) T M' := by
  refine kt_of wX12_follows (Nat.le_refl _) (Nat.le_refl _) (Nat.le_of_ble_eq_true rfl) (fun X C hR hlx hin => ?_)
  subst hlx
  replace C : Cx X B cX12_follows 4 RX12 d (tp T, sl T, tp T, sl T) := C
  unfold fX12_follows at h
  show G X B 4 _ _ 0 [(0, .ref (x0)), (1, .int (x1))] [] T M
  refine g_aload_n (pc := 0) C dX12_follows_0 rfl 0 rfl ?_
  refine g_iconst (pc := 1) (v := 0) C dX12_follows_1 (by decide) ?_
  replace h := gd_some h; obtain ⟨hk1, h⟩ := h
  refine g_putI (pc := 2) C dX12_follows_2 kX12 hk1 0 (by decide) rfl rfl rfl q_1227 ?_
  refine g_mem (fun M2 eM2 => ?_)
  replace h := lt_at eM2 h
  refine g_aload_n (pc := 5) C dX12_follows_5 rfl 0 rfl ?_
  refine g_iload_n (pc := 6) C dX12_follows_6 rfl 1 rfl ?_
  refine g_i2l (pc := 7) C dX12_follows_7 ?_
  replace h := bnd h; obtain ⟨r3, h1, h⟩ := h
  refine g_callVi (pc := 8) (As := [.long (Int32.toInt64 x1)]) (st := []) C dX12_follows_8 wX12_isLane hk1 rfl (by decide) q_1481 q_75 q_1479 (by omega) rfl (Nat.le_of_ble_eq_true rfl) (kX12_isLane (d := 1) (Nat.le_refl _) h1) ?_
  refine g_if_ne (pc := 11) (tgt := 17) C dX12_follows_11 (by decide) (fun c4 => ?_) (fun c4 => ?_)
  · replace h := ifn c4 h
    refine g_aload_n (pc := 17) C dX12_follows_17 rfl 0 rfl ?_
    refine g_get (pc := 18) (v := va_rf (gR M2 x0 1)) C dX12_follows_18 kX12 hk1 1 (by decide) q_1228 rfl ?_
    replace h := bnd h; obtain ⟨a5, ea5, h⟩ := h
    refine g_refq ea5 ?_
    refine g_bipush (pc := 21) (v := 42) C dX12_follows_21 (by decide) ?_
    refine g_iload_n (pc := 23) C dX12_follows_23 rfl 1 rfl ?_
    refine g_iadd (pc := 24) C dX12_follows_24 ?_
    replace h := gd_some h; obtain ⟨hk6, h⟩ := h
    replace h := gv_some h; obtain ⟨hi7, h⟩ := h
    refine g_iald (pc := 25) C dX12_follows_25 hk6 hi7 ?_
    refine g_topi (fun v8 ev8 => ?_)
    replace h := lt_at ev8 h
    refine g_istore_n (pc := 26) (lo2 := [(2, .int (v8)), (0, .ref (x0)), (1, .int (x1))]) C dX12_follows_26 rfl (by decide) rfl ?_
    refine g_iconst (pc := 27) (v := 0) C dX12_follows_27 (by decide) ?_
    refine g_istore_n (pc := 28) (lo2 := [(3, .int ((0 : Int32))), (2, .int (v8)), (0, .ref (x0)), (1, .int (x1))]) C dX12_follows_28 rfl (by decide) rfl ?_
    replace h := bndE h; rcases h with ⟨a1, h1, h⟩ | ⟨M25, h1, h⟩
    · obtain ⟨x3_23, M24⟩ := a1
      replace h := un2_d h
      refine g_sub [2, 3, 1, 0] rfl ?_
      refine lp_G2 (P := PX12_follows_29 X B _ _ T x0 x1) (E := EX12_follows_29 X B _ _ T x0 x1) (tbX12_follows_29 C hd) h1 ?_
      show G X B 4 _ _ 61 [(3, .int (x3_23))] [] T M24
      refine g_iload_n (pc := 61) C dX12_follows_61 rfl 0 rfl ?_
      obtain ⟨rfl, rfl⟩ := Prod.mk.inj (Option.some.inj h)
      exact g_iret C hR dX12_follows_62
    · refine g_sub [2, 3, 1, 0] rfl ?_
      refine lp_G2 (P := PX12_follows_29 X B _ _ T x0 x1) (E := EX12_follows_29 X B _ _ T x0 x1) (tbX12_follows_29 C hd) h1 ?_
      show G X B 4 _ _ 69 [] [] T M25
      refine g_iconst (pc := 69) (v := (-1)) C dX12_follows_69 (by decide) ?_
      obtain ⟨rfl, rfl⟩ := Prod.mk.inj (Option.some.inj h)
      exact g_iret C hR dX12_follows_70
  · replace h := ifp c4 h
    refine g_bipush (pc := 14) (v := (-2)) C dX12_follows_14 (by decide) ?_
    obtain ⟨rfl, rfl⟩ := Prod.mk.inj (Option.some.inj h)
    exact g_iret C hR dX12_follows_16
theorem dX12_at_0 : decode cX12_at 0 = .ok (.aload_n 0, 1) := by decide +kernel
theorem dX12_at_1 : decode cX12_at 1 = .ok (.iconst 0, 1) := by decide +kernel
theorem dX12_at_2 : decode cX12_at 2 = .ok (.putfield 1, 3) := by decide +kernel
theorem dX12_at_5 : decode cX12_at 5 = .ok (.aload_n 0, 1) := by decide +kernel
theorem dX12_at_6 : decode cX12_at 6 = .ok (.iload_n 1, 1) := by decide +kernel
theorem dX12_at_7 : decode cX12_at 7 = .ok (.i2l, 1) := by decide +kernel
theorem dX12_at_8 : decode cX12_at 8 = .ok (.invokevirtual 247, 3) := by decide +kernel
theorem dX12_at_11 : decode cX12_at 11 = .ok (.ifCond .ne 6, 3) := by decide +kernel
theorem dX12_at_14 : decode cX12_at 14 = .ok (.bipush (-2), 2) := by decide +kernel
theorem dX12_at_16 : decode cX12_at 16 = .ok (.ireturn, 1) := by decide +kernel
theorem dX12_at_17 : decode cX12_at 17 = .ok (.iload_n 2, 1) := by decide +kernel
theorem dX12_at_18 : decode cX12_at 18 = .ok (.i2l, 1) := by decide +kernel
theorem dX12_at_19 : decode cX12_at 19 = .ok (.lconst 0, 1) := by decide +kernel
theorem dX12_at_20 : decode cX12_at 20 = .ok (.ldc2_w 427, 3) := by decide +kernel
theorem dX12_at_23 : decode cX12_at 23 = .ok (.invokestatic 139, 3) := by decide +kernel
theorem dX12_at_26 : decode cX12_at 26 = .ok (.ifCond .ne 6, 3) := by decide +kernel
theorem dX12_at_29 : decode cX12_at 29 = .ok (.bipush (-3), 2) := by decide +kernel
theorem dX12_at_31 : decode cX12_at 31 = .ok (.ireturn, 1) := by decide +kernel
theorem dX12_at_32 : decode cX12_at 32 = .ok (.aload_n 0, 1) := by decide +kernel
theorem dX12_at_33 : decode cX12_at 33 = .ok (.getfield 13, 3) := by decide +kernel
theorem dX12_at_36 : decode cX12_at 36 = .ok (.bipush 42, 2) := by decide +kernel
theorem dX12_at_38 : decode cX12_at 38 = .ok (.iload_n 1, 1) := by decide +kernel
theorem dX12_at_39 : decode cX12_at 39 = .ok (.iadd, 1) := by decide +kernel
theorem dX12_at_40 : decode cX12_at 40 = .ok (.iaload, 1) := by decide +kernel
theorem dX12_at_41 : decode cX12_at 41 = .ok (.istore_n 3, 1) := by decide +kernel
theorem dX12_at_42 : decode cX12_at 42 = .ok (.iconst 1, 1) := by decide +kernel
theorem dX12_at_43 : decode cX12_at 43 = .ok (.istore 4, 2) := by decide +kernel
theorem dX12_at_45 : decode cX12_at 45 = .ok (.iload 4, 2) := by decide +kernel
theorem dX12_at_47 : decode cX12_at 47 = .ok (.iload_n 2, 1) := by decide +kernel
theorem dX12_at_48 : decode cX12_at 48 = .ok (.if_icmp .gt 22, 3) := by decide +kernel
theorem dX12_at_51 : decode cX12_at 51 = .ok (.aload_n 0, 1) := by decide +kernel
theorem dX12_at_52 : decode cX12_at 52 = .ok (.iload 4, 2) := by decide +kernel
theorem dX12_at_54 : decode cX12_at 54 = .ok (.invokevirtual 429, 3) := by decide +kernel
theorem dX12_at_57 : decode cX12_at 57 = .ok (.aload_n 0, 1) := by decide +kernel
theorem dX12_at_58 : decode cX12_at 58 = .ok (.iload_n 1, 1) := by decide +kernel
theorem dX12_at_59 : decode cX12_at 59 = .ok (.iload_n 3, 1) := by decide +kernel
theorem dX12_at_60 : decode cX12_at 60 = .ok (.invokevirtual 330, 3) := by decide +kernel
theorem dX12_at_63 : decode cX12_at 63 = .ok (.istore_n 3, 1) := by decide +kernel
theorem dX12_at_64 : decode cX12_at 64 = .ok (.iinc 4 1, 3) := by decide +kernel
theorem dX12_at_67 : decode cX12_at 67 = .ok (.goto (-22), 3) := by decide +kernel
theorem dX12_at_70 : decode cX12_at 70 = .ok (.iload_n 3, 1) := by decide +kernel
theorem dX12_at_71 : decode cX12_at 71 = .ok (.ireturn, 1) := by decide +kernel
theorem wX12_at : Mw yX12_at cX12_at 5 (some .int) 2 := ⟨q_1794, q_130, by decide, ⟨by decide +kernel, by decide +kernel⟩, by decide +kernel, by decide +kernel⟩
-- a loop of EyeTrainerModel.at at 45
def bX12_at_45 (T : Sh) (x0 : Nat) (x1 : Int32) (x2 : Int32) (x3 : Int32) (x4 : Int32) (M : Me) : Option ((Int32 × Int32 × Me) ⊕ ((Int32 × Me))) :=
  if x2 < x4 then (some (.inr (x3, M))) else (gd (kd T x0 = 11) <| Option.bind (fX12_laysAhead T M x0 x4) <| un2 fun _u M13 => Option.bind (fX12_followedFrom T M13 x0 x1 x3) <| un2 fun r14 M15 => lt (x4 + (1 : Int32)) fun v16 => some (.inl (r14, v16, M15)))
def PX12_at_45 (X : Fx) (B : Bx) (Z : Nat × Nat × Nat × Nat) (Q : State → Prop) (T : Sh) (x0 : Nat) (x1 : Int32) (x2 : Int32) (s : Int32 × Int32 × Me) : Prop := G X B 5 Z Q 45 [(0, .ref (x0)), (1, .int (x1)), (2, .int (x2)), (3, .int (s.1)), (4, .int (s.2.1))] [] T s.2.2
def EX12_at_45 (X : Fx) (B : Bx) (Z : Nat × Nat × Nat × Nat) (Q : State → Prop) (T : Sh) (x0 : Nat) (x1 : Int32) (x2 : Int32) (r : (Int32 × Me)) : Prop := G X B 5 Z Q 70 [(3, .int (r.1))] [] T r.2
set_option maxHeartbeats 4000000 in
theorem tbX12_at_45 {X : Fx} {B : Bx} {Z : Nat × Nat × Nat × Nat} {Q : State → Prop} {d : Nat} {T : Sh} (C : Cx X B cX12_at 5 RX12 d Z) (hd : 5 ≤ d) {x0 : Nat} {x1 : Int32} {x2 : Int32} : ∀ (s : Int32 × Int32 × Me) (o : (Int32 × Int32 × Me) ⊕ ((Int32 × Me))), bX12_at_45 T x0 x1 x2 s.1 s.2.1 s.2.2 = some o → lpE (PX12_at_45 X B Z Q T x0 x1 x2) (EX12_at_45 X B Z Q T x0 x1 x2) o → PX12_at_45 X B Z Q T x0 x1 x2 s := by
  rintro ⟨x3, x4, M⟩ o h hE
  replace h : bX12_at_45 T x0 x1 x2 x3 x4 M = some o := h
  unfold bX12_at_45 at h
  show G X B 5 Z Q 45 [(0, .ref (x0)), (1, .int (x1)), (2, .int (x2)), (3, .int (x3)), (4, .int (x4))] [] T M
  refine g_iload (pc := 45) C dX12_at_45 4 rfl ?_
  refine g_iload_n (pc := 47) C dX12_at_47 rfl 2 rfl ?_
  refine g_icmp_gt (pc := 48) (tgt := 70) C dX12_at_48 (by decide) (fun c11 => ?_) (fun c11 => ?_)
  · replace h := ifp c11 h
    obtain rfl := Option.some.inj h
    exact g_sub [3] rfl (show G X B 5 Z Q 70 [(3, .int (x3))] [] T M from hE)
  · replace h := ifn c11 h
    refine g_aload_n (pc := 51) C dX12_at_51 rfl 0 rfl ?_
    refine g_iload (pc := 52) C dX12_at_52 4 rfl ?_
    replace h := gd_some h; obtain ⟨hk12, h⟩ := h
    replace h := bnd2 h; obtain ⟨_u, M13, h1, h⟩ := h
    refine g_callVv (pc := 54) (As := [.int (x4)]) (st := []) C dX12_at_54 wX12_laysAhead hk12 rfl (by decide) q_1781 q_114 q_1779 (by omega) rfl (Nat.le_of_ble_eq_true rfl) (kX12_laysAhead (d := 4) (Nat.le_refl _) h1) ?_
    refine g_aload_n (pc := 57) C dX12_at_57 rfl 0 rfl ?_
    refine g_iload_n (pc := 58) C dX12_at_58 rfl 1 rfl ?_
    refine g_iload_n (pc := 59) C dX12_at_59 rfl 3 rfl ?_
    replace h := bnd2 h; obtain ⟨r14, M15, h1, h⟩ := h
    refine g_callVi (pc := 60) (As := [.int (x1), .int (x3)]) (st := []) C dX12_at_60 wX12_followedFrom hk12 rfl (by decide) q_1635 q_99 q_1633 (by omega) rfl (Nat.le_of_ble_eq_true rfl) (kX12_followedFrom (d := 4) (Nat.le_refl _) h1) ?_
    refine g_istore_n (pc := 63) (lo2 := [(3, .int (r14)), (0, .ref (x0)), (1, .int (x1)), (2, .int (x2)), (4, .int (x4))]) C dX12_at_63 rfl (by decide) rfl ?_
    obtain ⟨v16, ev16⟩ : ∃ y : Int32, y = x4 + (1 : Int32) := ⟨_, rfl⟩
    replace h := lt_at ev16 h
    refine g_iinc (pc := 64) (v := v16) (k := 4) (lo2 := [(4, .int (v16)), (3, .int (r14)), (0, .ref (x0)), (1, .int (x1)), (2, .int (x2))]) C dX12_at_64 rfl (by rw [ev16]; rfl) (by decide) rfl ?_
    refine g_goto (pc := 67) (tgt := 45) C dX12_at_67 (by decide) ?_
    obtain rfl := Option.some.inj h
    exact g_sub [2, 3, 4, 1, 0] rfl (show G X B 5 Z Q 45 [(0, .ref (x0)), (1, .int (x1)), (2, .int (x2)), (3, .int (r14)), (4, .int (v16))] [] T M15 from hE)
/-- EyeTrainerModel.at(II)I -/
def fX12_at (T : Sh) (M : Me) (x0 : Nat) (x1 : Int32) (x2 : Int32) : Option (Int32 × Me) :=
  gd (kd T x0 = 11) <| lt (pI M x0 0 (0 : Int32)) fun M2 => Option.bind (fX12_isLane T M2 x0 (Int32.toInt64 x1)) fun r3 => if r3 = 0 then (some ((-2 : Int32), M2)) else (Option.bind (fX12_within (Int32.toInt64 x2) (0 : Int64) (999 : Int64)) fun r5 => if r5 = 0 then (some ((-3 : Int32), M2)) else (Option.bind (gR M2 x0 1) fun a7 => gd (kd T a7 = 13) <| gv ((42 : Int32) + x1) (ln T a7) <| lt (gI M2 a7 (Int32.toNatClampNeg ((42 : Int32) + x1))) fun v10 => (lp FU (fun s => bX12_at_45 T x0 x1 x2 s.1 s.2.1 s.2.2) (v10, (1 : Int32), M2)).bind (un2 fun x3_17 M18 => some (x3_17, M18))))
set_option maxHeartbeats 4000000 in
theorem kX12_at {l : Launch} {B : Bx} {d : Nat} (hd : 5 ≤ d) {T : Sh} {M : Me} {x0 : Nat} {x1 : Int32} {x2 : Int32} {r : Int32} {M' : Me} (h : fX12_at T M x0 x1 x2 = some (r, M')) : Kt l B yX12_at cX12_at 5 (some .int) d [.ref (x0), .int (x1), .int (x2)] T M (some (.int r)) T M' := by
  refine kt_of wX12_at (Nat.le_refl _) (Nat.le_refl _) (Nat.le_of_ble_eq_true rfl) (fun X C hR hlx hin => ?_)
  subst hlx
  replace C : Cx X B cX12_at 5 RX12 d (tp T, sl T, tp T, sl T) := C
  unfold fX12_at at h
  show G X B 5 _ _ 0 [(0, .ref (x0)), (1, .int (x1)), (2, .int (x2))] [] T M
  refine g_aload_n (pc := 0) C dX12_at_0 rfl 0 rfl ?_
  refine g_iconst (pc := 1) (v := 0) C dX12_at_1 (by decide) ?_
  replace h := gd_some h; obtain ⟨hk1, h⟩ := h
  refine g_putI (pc := 2) C dX12_at_2 kX12 hk1 0 (by decide) rfl rfl rfl q_1227 ?_
  refine g_mem (fun M2 eM2 => ?_)
  replace h := lt_at eM2 h
  refine g_aload_n (pc := 5) C dX12_at_5 rfl 0 rfl ?_
  refine g_iload_n (pc := 6) C dX12_at_6 rfl 1 rfl ?_
  refine g_i2l (pc := 7) C dX12_at_7 ?_
  replace h := bnd h; obtain ⟨r3, h1, h⟩ := h
  refine g_callVi (pc := 8) (As := [.long (Int32.toInt64 x1)]) (st := []) C dX12_at_8 wX12_isLane hk1 rfl (by decide) q_1481 q_75 q_1479 (by omega) rfl (Nat.le_of_ble_eq_true rfl) (kX12_isLane (d := 1) (Nat.le_refl _) h1) ?_
  refine g_if_ne (pc := 11) (tgt := 17) C dX12_at_11 (by decide) (fun c4 => ?_) (fun c4 => ?_)
  · replace h := ifn c4 h
    refine g_iload_n (pc := 17) C dX12_at_17 rfl 2 rfl ?_
    refine g_i2l (pc := 18) C dX12_at_18 ?_
    refine g_lconst (pc := 19) (v := 0) C dX12_at_19 rfl ?_
    refine g_ldc2 (pc := 20) C dX12_at_20 q_1778 ?_
    replace h := bnd h; obtain ⟨r5, h1, h⟩ := h
    refine g_callSi (pc := 23) (As := [.long (Int32.toInt64 x2), .long ((0 : Int64)), .long ((999 : Int64))]) (st := []) C dX12_at_23 wX12_within q_1367 q_1366 (by omega) rfl (Nat.le_of_ble_eq_true rfl) (kX12_within (d := 0) (Nat.le_refl _) h1) ?_
    refine g_if_ne (pc := 26) (tgt := 32) C dX12_at_26 (by decide) (fun c6 => ?_) (fun c6 => ?_)
    · replace h := ifn c6 h
      refine g_aload_n (pc := 32) C dX12_at_32 rfl 0 rfl ?_
      refine g_get (pc := 33) (v := va_rf (gR M2 x0 1)) C dX12_at_33 kX12 hk1 1 (by decide) q_1228 rfl ?_
      replace h := bnd h; obtain ⟨a7, ea7, h⟩ := h
      refine g_refq ea7 ?_
      refine g_bipush (pc := 36) (v := 42) C dX12_at_36 (by decide) ?_
      refine g_iload_n (pc := 38) C dX12_at_38 rfl 1 rfl ?_
      refine g_iadd (pc := 39) C dX12_at_39 ?_
      replace h := gd_some h; obtain ⟨hk8, h⟩ := h
      replace h := gv_some h; obtain ⟨hi9, h⟩ := h
      refine g_iald (pc := 40) C dX12_at_40 hk8 hi9 ?_
      refine g_topi (fun v10 ev10 => ?_)
      replace h := lt_at ev10 h
      refine g_istore_n (pc := 41) (lo2 := [(3, .int (v10)), (0, .ref (x0)), (1, .int (x1)), (2, .int (x2))]) C dX12_at_41 rfl (by decide) rfl ?_
      refine g_iconst (pc := 42) (v := 1) C dX12_at_42 (by decide) ?_
      refine g_istore (pc := 43) (lo2 := [(4, .int ((1 : Int32))), (3, .int (v10)), (0, .ref (x0)), (1, .int (x1)), (2, .int (x2))]) C dX12_at_43 (by decide) rfl ?_
      replace h := bnd2 h; obtain ⟨x3_17, M18, h1, h⟩ := h
      refine g_sub [2, 3, 4, 1, 0] rfl ?_
      refine lp_G2 (P := PX12_at_45 X B _ _ T x0 x1 x2) (E := EX12_at_45 X B _ _ T x0 x1 x2) (tbX12_at_45 C hd) h1 ?_
      show G X B 5 _ _ 70 [(3, .int (x3_17))] [] T M18
      refine g_iload_n (pc := 70) C dX12_at_70 rfl 0 rfl ?_
      obtain ⟨rfl, rfl⟩ := Prod.mk.inj (Option.some.inj h)
      exact g_iret C hR dX12_at_71
    · replace h := ifp c6 h
      refine g_bipush (pc := 29) (v := (-3)) C dX12_at_29 (by decide) ?_
      obtain ⟨rfl, rfl⟩ := Prod.mk.inj (Option.some.inj h)
      exact g_iret C hR dX12_at_31
  · replace h := ifp c4 h
    refine g_bipush (pc := 14) (v := (-2)) C dX12_at_14 (by decide) ?_
    obtain ⟨rfl, rfl⟩ := Prod.mk.inj (Option.some.inj h)
    exact g_iret C hR dX12_at_16
theorem dX12_stepTo_0 : decode cX12_stepTo 0 = .ok (.iload_n 0, 1) := by decide +kernel
theorem dX12_stepTo_1 : decode cX12_stepTo 1 = .ok (.bipush 24, 2) := by decide +kernel
theorem dX12_stepTo_3 : decode cX12_stepTo 3 = .ok (.irem, 1) := by decide +kernel
theorem dX12_stepTo_4 : decode cX12_stepTo 4 = .ok (.istore_n 2, 1) := by decide +kernel
theorem dX12_stepTo_5 : decode cX12_stepTo 5 = .ok (.iload_n 1, 1) := by decide +kernel
theorem dX12_stepTo_6 : decode cX12_stepTo 6 = .ok (.tableswitch 67 0 2 #[26, 38, 52], 26) := by decide +kernel
theorem dX12_stepTo_32 : decode cX12_stepTo 32 = .ok (.iload_n 2, 1) := by decide +kernel
theorem dX12_stepTo_33 : decode cX12_stepTo 33 = .ok (.ifCond .le 9, 3) := by decide +kernel
theorem dX12_stepTo_36 : decode cX12_stepTo 36 = .ok (.iload_n 0, 1) := by decide +kernel
theorem dX12_stepTo_37 : decode cX12_stepTo 37 = .ok (.iconst 1, 1) := by decide +kernel
theorem dX12_stepTo_38 : decode cX12_stepTo 38 = .ok (.isub, 1) := by decide +kernel
theorem dX12_stepTo_39 : decode cX12_stepTo 39 = .ok (.goto 4, 3) := by decide +kernel
theorem dX12_stepTo_42 : decode cX12_stepTo 42 = .ok (.iconst (-1), 1) := by decide +kernel
theorem dX12_stepTo_43 : decode cX12_stepTo 43 = .ok (.ireturn, 1) := by decide +kernel
theorem dX12_stepTo_44 : decode cX12_stepTo 44 = .ok (.iload_n 2, 1) := by decide +kernel
theorem dX12_stepTo_45 : decode cX12_stepTo 45 = .ok (.bipush 23, 2) := by decide +kernel
theorem dX12_stepTo_47 : decode cX12_stepTo 47 = .ok (.if_icmp .ge 9, 3) := by decide +kernel
theorem dX12_stepTo_50 : decode cX12_stepTo 50 = .ok (.iload_n 0, 1) := by decide +kernel
theorem dX12_stepTo_51 : decode cX12_stepTo 51 = .ok (.iconst 1, 1) := by decide +kernel
theorem dX12_stepTo_52 : decode cX12_stepTo 52 = .ok (.iadd, 1) := by decide +kernel
theorem dX12_stepTo_53 : decode cX12_stepTo 53 = .ok (.goto 4, 3) := by decide +kernel
theorem dX12_stepTo_56 : decode cX12_stepTo 56 = .ok (.iconst (-1), 1) := by decide +kernel
theorem dX12_stepTo_57 : decode cX12_stepTo 57 = .ok (.ireturn, 1) := by decide +kernel
theorem dX12_stepTo_58 : decode cX12_stepTo 58 = .ok (.iload_n 0, 1) := by decide +kernel
theorem dX12_stepTo_59 : decode cX12_stepTo 59 = .ok (.bipush 24, 2) := by decide +kernel
theorem dX12_stepTo_61 : decode cX12_stepTo 61 = .ok (.if_icmp .lt 10, 3) := by decide +kernel
theorem dX12_stepTo_64 : decode cX12_stepTo 64 = .ok (.iload_n 0, 1) := by decide +kernel
theorem dX12_stepTo_65 : decode cX12_stepTo 65 = .ok (.bipush 24, 2) := by decide +kernel
theorem dX12_stepTo_67 : decode cX12_stepTo 67 = .ok (.isub, 1) := by decide +kernel
theorem dX12_stepTo_68 : decode cX12_stepTo 68 = .ok (.goto 4, 3) := by decide +kernel
theorem dX12_stepTo_71 : decode cX12_stepTo 71 = .ok (.iconst (-1), 1) := by decide +kernel
theorem dX12_stepTo_72 : decode cX12_stepTo 72 = .ok (.ireturn, 1) := by decide +kernel
theorem dX12_stepTo_73 : decode cX12_stepTo 73 = .ok (.iload_n 0, 1) := by decide +kernel
theorem dX12_stepTo_74 : decode cX12_stepTo 74 = .ok (.sipush 360, 3) := by decide +kernel
theorem dX12_stepTo_77 : decode cX12_stepTo 77 = .ok (.if_icmp .ge 10, 3) := by decide +kernel
theorem dX12_stepTo_80 : decode cX12_stepTo 80 = .ok (.iload_n 0, 1) := by decide +kernel
theorem dX12_stepTo_81 : decode cX12_stepTo 81 = .ok (.bipush 24, 2) := by decide +kernel
theorem dX12_stepTo_83 : decode cX12_stepTo 83 = .ok (.iadd, 1) := by decide +kernel
theorem dX12_stepTo_84 : decode cX12_stepTo 84 = .ok (.goto 4, 3) := by decide +kernel
theorem dX12_stepTo_87 : decode cX12_stepTo 87 = .ok (.iconst (-1), 1) := by decide +kernel
theorem dX12_stepTo_88 : decode cX12_stepTo 88 = .ok (.ireturn, 1) := by decide +kernel
theorem wX12_stepTo : Mw yX12_stepTo cX12_stepTo 3 (some .int) 2 := ⟨q_1805, q_130, by decide, ⟨by decide +kernel, by decide +kernel⟩, by decide +kernel, by decide +kernel⟩
/-- EyeTrainerModel.stepTo(II)I -/
def fX12_stepTo (x0 : Int32) (x1 : Int32) : Option (Int32) :=
  lt (x0 - x0 / (24 : Int32) * (24 : Int32)) fun v1 => if x1 = (0 : Int32) then (if v1 ≤ 0 then (some (-1 : Int32)) else (some (x0 - (1 : Int32)))) else (if x1 = (1 : Int32) then (if (23 : Int32) ≤ v1 then (some (-1 : Int32)) else (some (x0 + (1 : Int32)))) else (if x1 = (2 : Int32) then (if x0 < (24 : Int32) then (some (-1 : Int32)) else (some (x0 - (24 : Int32)))) else (if (360 : Int32) ≤ x0 then (some (-1 : Int32)) else (some (x0 + (24 : Int32))))))
set_option maxHeartbeats 4000000 in
theorem kX12_stepTo {l : Launch} {B : Bx} {d : Nat} (hd : 0 ≤ d) {T : Sh} {M : Me} {x0 : Int32} {x1 : Int32} {r : Int32} (h : fX12_stepTo  x0 x1 = some r) : Kt l B yX12_stepTo cX12_stepTo 3 (some .int) d [.int (x0), .int (x1)] T M (some (.int r)) T M := by
  refine kt_of wX12_stepTo (Nat.le_refl _) (Nat.le_refl _) (Nat.le_of_ble_eq_true rfl) (fun X C hR hlx hin => ?_)
  subst hlx
  replace C : Cx X B cX12_stepTo 3 RX12 d (tp T, sl T, tp T, sl T) := C
  unfold fX12_stepTo at h
  show G X B 3 _ _ 0 [(0, .int (x0)), (1, .int (x1))] [] T M
  refine g_iload_n (pc := 0) C dX12_stepTo_0 rfl 0 rfl ?_
  refine g_bipush (pc := 1) (v := 24) C dX12_stepTo_1 (by decide) ?_
  refine g_irem (pc := 3) C dX12_stepTo_3 (by decide) ?_
  refine g_topi (fun v1 ev1 => ?_)
  replace h := lt_at ev1 h
  refine g_istore_n (pc := 4) (lo2 := [(2, .int (v1)), (0, .int (x0)), (1, .int (x1))]) C dX12_stepTo_4 rfl (by decide) rfl ?_
  refine g_iload_n (pc := 5) C dX12_stepTo_5 rfl 2 rfl ?_
  by_cases cw6_0 : x1 = (0 : Int32)
  · replace h := ifp cw6_0 h
    have hq : x1.toInt = 0 := by rw [cw6_0]; rfl
    refine g_tswIn (off := 26) (tgt := 32) C dX12_stepTo_6 (by rw [hq]; decide) (by rw [hq]; decide) (by rw [hq]; rfl) (by decide) ?_
    refine g_iload_n (pc := 32) C dX12_stepTo_32 rfl 0 rfl ?_
    refine g_if_le (pc := 33) (tgt := 42) C dX12_stepTo_33 (by decide) (fun c2 => ?_) (fun c2 => ?_)
    · replace h := ifp c2 h
      refine g_iconst (pc := 42) (v := (-1)) C dX12_stepTo_42 (by decide) ?_
      obtain rfl := Option.some.inj h
      exact g_iret C hR dX12_stepTo_43
    · replace h := ifn c2 h
      refine g_iload_n (pc := 36) C dX12_stepTo_36 rfl 1 rfl ?_
      refine g_iconst (pc := 37) (v := 1) C dX12_stepTo_37 (by decide) ?_
      refine g_isub (pc := 38) C dX12_stepTo_38 ?_
      refine g_goto (pc := 39) (tgt := 43) C dX12_stepTo_39 (by decide) ?_
      obtain rfl := Option.some.inj h
      exact g_iret C hR dX12_stepTo_43
  · replace h := ifn cw6_0 h
    by_cases cw6_1 : x1 = (1 : Int32)
    · replace h := ifp cw6_1 h
      have hq : x1.toInt = 1 := by rw [cw6_1]; rfl
      refine g_tswIn (off := 38) (tgt := 44) C dX12_stepTo_6 (by rw [hq]; decide) (by rw [hq]; decide) (by rw [hq]; rfl) (by decide) ?_
      refine g_iload_n (pc := 44) C dX12_stepTo_44 rfl 0 rfl ?_
      refine g_bipush (pc := 45) (v := 23) C dX12_stepTo_45 (by decide) ?_
      refine g_icmp_ge (pc := 47) (tgt := 56) C dX12_stepTo_47 (by decide) (fun c3 => ?_) (fun c3 => ?_)
      · replace h := ifp c3 h
        refine g_iconst (pc := 56) (v := (-1)) C dX12_stepTo_56 (by decide) ?_
        obtain rfl := Option.some.inj h
        exact g_iret C hR dX12_stepTo_57
      · replace h := ifn c3 h
        refine g_iload_n (pc := 50) C dX12_stepTo_50 rfl 1 rfl ?_
        refine g_iconst (pc := 51) (v := 1) C dX12_stepTo_51 (by decide) ?_
        refine g_iadd (pc := 52) C dX12_stepTo_52 ?_
        refine g_goto (pc := 53) (tgt := 57) C dX12_stepTo_53 (by decide) ?_
        obtain rfl := Option.some.inj h
        exact g_iret C hR dX12_stepTo_57
    · replace h := ifn cw6_1 h
      by_cases cw6_2 : x1 = (2 : Int32)
      · replace h := ifp cw6_2 h
        have hq : x1.toInt = 2 := by rw [cw6_2]; rfl
        refine g_tswIn (off := 52) (tgt := 58) C dX12_stepTo_6 (by rw [hq]; decide) (by rw [hq]; decide) (by rw [hq]; rfl) (by decide) ?_
        refine g_iload_n (pc := 58) C dX12_stepTo_58 rfl 1 rfl ?_
        refine g_bipush (pc := 59) (v := 24) C dX12_stepTo_59 (by decide) ?_
        refine g_icmp_lt (pc := 61) (tgt := 71) C dX12_stepTo_61 (by decide) (fun c4 => ?_) (fun c4 => ?_)
        · replace h := ifp c4 h
          refine g_iconst (pc := 71) (v := (-1)) C dX12_stepTo_71 (by decide) ?_
          obtain rfl := Option.some.inj h
          exact g_iret C hR dX12_stepTo_72
        · replace h := ifn c4 h
          refine g_iload_n (pc := 64) C dX12_stepTo_64 rfl 1 rfl ?_
          refine g_bipush (pc := 65) (v := 24) C dX12_stepTo_65 (by decide) ?_
          refine g_isub (pc := 67) C dX12_stepTo_67 ?_
          refine g_goto (pc := 68) (tgt := 72) C dX12_stepTo_68 (by decide) ?_
          obtain rfl := Option.some.inj h
          exact g_iret C hR dX12_stepTo_72
      · replace h := ifn cw6_2 h
        refine g_tswOut (tgt := 73) C dX12_stepTo_6 (by
            have := sw_ne cw6_0 (i := 0) rfl
            have := sw_ne cw6_1 (i := 1) rfl
            have := sw_ne cw6_2 (i := 2) rfl
            omega) (by decide) ?_
        refine g_iload_n (pc := 73) C dX12_stepTo_73 rfl 1 rfl ?_
        refine g_sipush (pc := 74) (v := 360) C dX12_stepTo_74 (by decide) ?_
        refine g_icmp_ge (pc := 77) (tgt := 87) C dX12_stepTo_77 (by decide) (fun c5 => ?_) (fun c5 => ?_)
        · replace h := ifp c5 h
          refine g_iconst (pc := 87) (v := (-1)) C dX12_stepTo_87 (by decide) ?_
          obtain rfl := Option.some.inj h
          exact g_iret C hR dX12_stepTo_88
        · replace h := ifn c5 h
          refine g_iload_n (pc := 80) C dX12_stepTo_80 rfl 1 rfl ?_
          refine g_bipush (pc := 81) (v := 24) C dX12_stepTo_81 (by decide) ?_
          refine g_iadd (pc := 83) C dX12_stepTo_83 ?_
          refine g_goto (pc := 84) (tgt := 88) C dX12_stepTo_84 (by decide) ?_
          obtain rfl := Option.some.inj h
          exact g_iret C hR dX12_stepTo_88
theorem dX12_laysFar_0 : decode cX12_laysFar 0 = .ok (.aload_n 0, 1) := by decide +kernel
theorem dX12_laysFar_1 : decode cX12_laysFar 1 = .ok (.iload_n 1, 1) := by decide +kernel
theorem dX12_laysFar_2 : decode cX12_laysFar 2 = .ok (.invokevirtual 410, 3) := by decide +kernel
theorem dX12_laysFar_5 : decode cX12_laysFar 5 = .ok (.iconst 0, 1) := by decide +kernel
theorem dX12_laysFar_6 : decode cX12_laysFar 6 = .ok (.istore_n 2, 1) := by decide +kernel
theorem dX12_laysFar_7 : decode cX12_laysFar 7 = .ok (.iload_n 2, 1) := by decide +kernel
theorem dX12_laysFar_8 : decode cX12_laysFar 8 = .ok (.sipush 384, 3) := by decide +kernel
theorem dX12_laysFar_11 : decode cX12_laysFar 11 = .ok (.if_icmp .ge 37, 3) := by decide +kernel
theorem dX12_laysFar_14 : decode cX12_laysFar 14 = .ok (.aload_n 0, 1) := by decide +kernel
theorem dX12_laysFar_15 : decode cX12_laysFar 15 = .ok (.getfield 48, 3) := by decide +kernel
theorem dX12_laysFar_18 : decode cX12_laysFar 18 = .ok (.iload_n 2, 1) := by decide +kernel
theorem dX12_laysFar_19 : decode cX12_laysFar 19 = .ok (.aload_n 0, 1) := by decide +kernel
theorem dX12_laysFar_20 : decode cX12_laysFar 20 = .ok (.iload_n 2, 1) := by decide +kernel
theorem dX12_laysFar_21 : decode cX12_laysFar 21 = .ok (.bipush 24, 2) := by decide +kernel
theorem dX12_laysFar_23 : decode cX12_laysFar 23 = .ok (.irem, 1) := by decide +kernel
theorem dX12_laysFar_24 : decode cX12_laysFar 24 = .ok (.iload_n 2, 1) := by decide +kernel
theorem dX12_laysFar_25 : decode cX12_laysFar 25 = .ok (.bipush 24, 2) := by decide +kernel
theorem dX12_laysFar_27 : decode cX12_laysFar 27 = .ok (.idiv, 1) := by decide +kernel
theorem dX12_laysFar_28 : decode cX12_laysFar 28 = .ok (.invokevirtual 295, 3) := by decide +kernel
theorem dX12_laysFar_31 : decode cX12_laysFar 31 = .ok (.ifCond .eq 7, 3) := by decide +kernel
theorem dX12_laysFar_34 : decode cX12_laysFar 34 = .ok (.iconst 0, 1) := by decide +kernel
theorem dX12_laysFar_35 : decode cX12_laysFar 35 = .ok (.goto 6, 3) := by decide +kernel
theorem dX12_laysFar_38 : decode cX12_laysFar 38 = .ok (.ldc_w 294, 3) := by decide +kernel
theorem dX12_laysFar_41 : decode cX12_laysFar 41 = .ok (.iastore, 1) := by decide +kernel
theorem dX12_laysFar_42 : decode cX12_laysFar 42 = .ok (.iinc 2 1, 3) := by decide +kernel
theorem dX12_laysFar_45 : decode cX12_laysFar 45 = .ok (.goto (-38), 3) := by decide +kernel
theorem dX12_laysFar_48 : decode cX12_laysFar 48 = .ok (.iconst 1, 1) := by decide +kernel
theorem dX12_laysFar_49 : decode cX12_laysFar 49 = .ok (.istore_n 2, 1) := by decide +kernel
theorem dX12_laysFar_50 : decode cX12_laysFar 50 = .ok (.iload_n 2, 1) := by decide +kernel
theorem dX12_laysFar_51 : decode cX12_laysFar 51 = .ok (.ifCond .eq 103, 3) := by decide +kernel
theorem dX12_laysFar_54 : decode cX12_laysFar 54 = .ok (.iconst 0, 1) := by decide +kernel
theorem dX12_laysFar_55 : decode cX12_laysFar 55 = .ok (.istore_n 2, 1) := by decide +kernel
theorem dX12_laysFar_56 : decode cX12_laysFar 56 = .ok (.iconst 0, 1) := by decide +kernel
theorem dX12_laysFar_57 : decode cX12_laysFar 57 = .ok (.istore_n 3, 1) := by decide +kernel
theorem dX12_laysFar_58 : decode cX12_laysFar 58 = .ok (.iload_n 3, 1) := by decide +kernel
theorem dX12_laysFar_59 : decode cX12_laysFar 59 = .ok (.sipush 384, 3) := by decide +kernel
theorem dX12_laysFar_62 : decode cX12_laysFar 62 = .ok (.if_icmp .ge 89, 3) := by decide +kernel
theorem dX12_laysFar_65 : decode cX12_laysFar 65 = .ok (.iconst 0, 1) := by decide +kernel
theorem dX12_laysFar_66 : decode cX12_laysFar 66 = .ok (.istore 4, 2) := by decide +kernel
theorem dX12_laysFar_68 : decode cX12_laysFar 68 = .ok (.iload 4, 2) := by decide +kernel
theorem dX12_laysFar_70 : decode cX12_laysFar 70 = .ok (.iconst 4, 1) := by decide +kernel
theorem dX12_laysFar_71 : decode cX12_laysFar 71 = .ok (.if_icmp .ge 74, 3) := by decide +kernel
theorem dX12_laysFar_74 : decode cX12_laysFar 74 = .ok (.iload_n 3, 1) := by decide +kernel
theorem dX12_laysFar_75 : decode cX12_laysFar 75 = .ok (.iload 4, 2) := by decide +kernel
theorem dX12_laysFar_77 : decode cX12_laysFar 77 = .ok (.invokestatic 432, 3) := by decide +kernel
theorem dX12_laysFar_80 : decode cX12_laysFar 80 = .ok (.istore 5, 2) := by decide +kernel
theorem dX12_laysFar_82 : decode cX12_laysFar 82 = .ok (.iload 5, 2) := by decide +kernel
theorem dX12_laysFar_84 : decode cX12_laysFar 84 = .ok (.iconst (-1), 1) := by decide +kernel
theorem dX12_laysFar_85 : decode cX12_laysFar 85 = .ok (.if_icmp .eq 54, 3) := by decide +kernel
theorem dX12_laysFar_88 : decode cX12_laysFar 88 = .ok (.aload_n 0, 1) := by decide +kernel
theorem dX12_laysFar_89 : decode cX12_laysFar 89 = .ok (.getfield 48, 3) := by decide +kernel
theorem dX12_laysFar_92 : decode cX12_laysFar 92 = .ok (.iload 5, 2) := by decide +kernel
theorem dX12_laysFar_94 : decode cX12_laysFar 94 = .ok (.iaload, 1) := by decide +kernel
theorem dX12_laysFar_95 : decode cX12_laysFar 95 = .ok (.ldc_w 294, 3) := by decide +kernel
theorem dX12_laysFar_98 : decode cX12_laysFar 98 = .ok (.if_icmp .eq 41, 3) := by decide +kernel
theorem dX12_laysFar_101 : decode cX12_laysFar 101 = .ok (.aload_n 0, 1) := by decide +kernel
theorem dX12_laysFar_102 : decode cX12_laysFar 102 = .ok (.getfield 48, 3) := by decide +kernel
theorem dX12_laysFar_105 : decode cX12_laysFar 105 = .ok (.iload 5, 2) := by decide +kernel
theorem dX12_laysFar_107 : decode cX12_laysFar 107 = .ok (.iaload, 1) := by decide +kernel
theorem dX12_laysFar_108 : decode cX12_laysFar 108 = .ok (.iconst 1, 1) := by decide +kernel
theorem dX12_laysFar_109 : decode cX12_laysFar 109 = .ok (.iadd, 1) := by decide +kernel
theorem dX12_laysFar_110 : decode cX12_laysFar 110 = .ok (.aload_n 0, 1) := by decide +kernel
theorem dX12_laysFar_111 : decode cX12_laysFar 111 = .ok (.getfield 48, 3) := by decide +kernel
theorem dX12_laysFar_114 : decode cX12_laysFar 114 = .ok (.iload_n 3, 1) := by decide +kernel
theorem dX12_laysFar_115 : decode cX12_laysFar 115 = .ok (.iaload, 1) := by decide +kernel
theorem dX12_laysFar_116 : decode cX12_laysFar 116 = .ok (.if_icmp .lt 6, 3) := by decide +kernel
theorem dX12_laysFar_119 : decode cX12_laysFar 119 = .ok (.goto 20, 3) := by decide +kernel
theorem dX12_laysFar_122 : decode cX12_laysFar 122 = .ok (.aload_n 0, 1) := by decide +kernel
theorem dX12_laysFar_123 : decode cX12_laysFar 123 = .ok (.getfield 48, 3) := by decide +kernel
theorem dX12_laysFar_126 : decode cX12_laysFar 126 = .ok (.iload_n 3, 1) := by decide +kernel
theorem dX12_laysFar_127 : decode cX12_laysFar 127 = .ok (.aload_n 0, 1) := by decide +kernel
theorem dX12_laysFar_128 : decode cX12_laysFar 128 = .ok (.getfield 48, 3) := by decide +kernel
theorem dX12_laysFar_131 : decode cX12_laysFar 131 = .ok (.iload 5, 2) := by decide +kernel
theorem dX12_laysFar_133 : decode cX12_laysFar 133 = .ok (.iaload, 1) := by decide +kernel
theorem dX12_laysFar_134 : decode cX12_laysFar 134 = .ok (.iconst 1, 1) := by decide +kernel
theorem dX12_laysFar_135 : decode cX12_laysFar 135 = .ok (.iadd, 1) := by decide +kernel
theorem dX12_laysFar_136 : decode cX12_laysFar 136 = .ok (.iastore, 1) := by decide +kernel
theorem dX12_laysFar_137 : decode cX12_laysFar 137 = .ok (.iconst 1, 1) := by decide +kernel
theorem dX12_laysFar_138 : decode cX12_laysFar 138 = .ok (.istore_n 2, 1) := by decide +kernel
theorem dX12_laysFar_139 : decode cX12_laysFar 139 = .ok (.iinc 4 1, 3) := by decide +kernel
theorem dX12_laysFar_142 : decode cX12_laysFar 142 = .ok (.goto (-74), 3) := by decide +kernel
theorem dX12_laysFar_145 : decode cX12_laysFar 145 = .ok (.iinc 3 1, 3) := by decide +kernel
theorem dX12_laysFar_148 : decode cX12_laysFar 148 = .ok (.goto (-90), 3) := by decide +kernel
theorem dX12_laysFar_151 : decode cX12_laysFar 151 = .ok (.goto (-101), 3) := by decide +kernel
theorem dX12_laysFar_154 : decode cX12_laysFar 154 = .ok (.aload_n 0, 1) := by decide +kernel
theorem dX12_laysFar_155 : decode cX12_laysFar 155 = .ok (.getfield 48, 3) := by decide +kernel
theorem dX12_laysFar_158 : decode cX12_laysFar 158 = .ok (.aload_n 0, 1) := by decide +kernel
theorem dX12_laysFar_159 : decode cX12_laysFar 159 = .ok (.getfield 13, 3) := by decide +kernel
theorem dX12_laysFar_162 : decode cX12_laysFar 162 = .ok (.bipush 42, 2) := by decide +kernel
theorem dX12_laysFar_164 : decode cX12_laysFar 164 = .ok (.iload_n 1, 1) := by decide +kernel
theorem dX12_laysFar_165 : decode cX12_laysFar 165 = .ok (.iadd, 1) := by decide +kernel
theorem dX12_laysFar_166 : decode cX12_laysFar 166 = .ok (.iaload, 1) := by decide +kernel
theorem dX12_laysFar_167 : decode cX12_laysFar 167 = .ok (.iaload, 1) := by decide +kernel
theorem dX12_laysFar_168 : decode cX12_laysFar 168 = .ok (.ireturn, 1) := by decide +kernel
theorem wX12_laysFar : Mw yX12_laysFar cX12_laysFar 6 (some .int) 1 := ⟨q_1802, q_130, by decide, ⟨by decide +kernel, by decide +kernel⟩, by decide +kernel, by decide +kernel⟩
-- a loop of EyeTrainerModel.laysFar at 7
def bX12_laysFar_7 (T : Sh) (x0 : Nat) (x1 : Int32) (x2 : Int32) (M : Me) : Option ((Int32 × Me) ⊕ (Me)) :=
  if (384 : Int32) ≤ x2 then (some (.inr M)) else (gd (kd T x0 = 11) <| Option.bind (gR M x0 35) fun a5 => Option.bind (fX12_isMapped T M x0 (x2 - x2 / (24 : Int32) * (24 : Int32)) (x2 / (24 : Int32))) fun r6 => if r6 = 0 then (gd (kd T a5 = 13) <| gv x2 (ln T a5) <| lt (pI M a5 (Int32.toNatClampNeg x2) (268435456 : Int32)) fun M10 => lt (x2 + (1 : Int32)) fun v11 => some (.inl (v11, M10))) else (gd (kd T a5 = 13) <| gv x2 (ln T a5) <| lt (pI M a5 (Int32.toNatClampNeg x2) (0 : Int32)) fun M14 => lt (x2 + (1 : Int32)) fun v15 => some (.inl (v15, M14))))
def PX12_laysFar_7 (X : Fx) (B : Bx) (Z : Nat × Nat × Nat × Nat) (Q : State → Prop) (T : Sh) (x0 : Nat) (x1 : Int32) (s : Int32 × Me) : Prop := G X B 6 Z Q 7 [(0, .ref (x0)), (1, .int (x1)), (2, .int (s.1))] [] T s.2
def EX12_laysFar_7 (X : Fx) (B : Bx) (Z : Nat × Nat × Nat × Nat) (Q : State → Prop) (T : Sh) (x0 : Nat) (x1 : Int32) (r : Me) : Prop := G X B 6 Z Q 48 [(0, .ref (x0)), (1, .int (x1))] [] T r
set_option maxHeartbeats 4000000 in
theorem tbX12_laysFar_7 {X : Fx} {B : Bx} {Z : Nat × Nat × Nat × Nat} {Q : State → Prop} {d : Nat} {T : Sh} (C : Cx X B cX12_laysFar 6 RX12 d Z) (hd : 6 ≤ d) {x0 : Nat} {x1 : Int32} : ∀ (s : Int32 × Me) (o : (Int32 × Me) ⊕ (Me)), bX12_laysFar_7 T x0 x1 s.1 s.2 = some o → lpE (PX12_laysFar_7 X B Z Q T x0 x1) (EX12_laysFar_7 X B Z Q T x0 x1) o → PX12_laysFar_7 X B Z Q T x0 x1 s := by
  rintro ⟨x2, M⟩ o h hE
  replace h : bX12_laysFar_7 T x0 x1 x2 M = some o := h
  unfold bX12_laysFar_7 at h
  show G X B 6 Z Q 7 [(0, .ref (x0)), (1, .int (x1)), (2, .int (x2))] [] T M
  refine g_iload_n (pc := 7) C dX12_laysFar_7 rfl 2 rfl ?_
  refine g_sipush (pc := 8) (v := 384) C dX12_laysFar_8 (by decide) ?_
  refine g_icmp_ge (pc := 11) (tgt := 48) C dX12_laysFar_11 (by decide) (fun c3 => ?_) (fun c3 => ?_)
  · replace h := ifp c3 h
    obtain rfl := Option.some.inj h
    exact g_sub [0, 1] rfl (show G X B 6 Z Q 48 [(0, .ref (x0)), (1, .int (x1))] [] T M from hE)
  · replace h := ifn c3 h
    refine g_aload_n (pc := 14) C dX12_laysFar_14 rfl 0 rfl ?_
    replace h := gd_some h; obtain ⟨hk4, h⟩ := h
    refine g_get (pc := 15) (v := va_rf (gR M x0 35)) C dX12_laysFar_15 kX12 hk4 35 (by decide) q_1262 rfl ?_
    replace h := bnd h; obtain ⟨a5, ea5, h⟩ := h
    refine g_refq ea5 ?_
    refine g_iload_n (pc := 18) C dX12_laysFar_18 rfl 2 rfl ?_
    refine g_aload_n (pc := 19) C dX12_laysFar_19 rfl 0 rfl ?_
    refine g_iload_n (pc := 20) C dX12_laysFar_20 rfl 2 rfl ?_
    refine g_bipush (pc := 21) (v := 24) C dX12_laysFar_21 (by decide) ?_
    refine g_irem (pc := 23) C dX12_laysFar_23 (by decide) ?_
    refine g_iload_n (pc := 24) C dX12_laysFar_24 rfl 2 rfl ?_
    refine g_bipush (pc := 25) (v := 24) C dX12_laysFar_25 (by decide) ?_
    refine g_idiv (pc := 27) C dX12_laysFar_27 (by decide) ?_
    replace h := bnd h; obtain ⟨r6, h1, h⟩ := h
    refine g_callVi (pc := 28) (As := [.int (x2 - x2 / (24 : Int32) * (24 : Int32)), .int (x2 / (24 : Int32))]) (st := [.int (x2), .ref (a5)]) C dX12_laysFar_28 wX12_isMapped hk4 rfl (by decide) q_1612 q_95 q_1610 (by omega) rfl (Nat.le_of_ble_eq_true rfl) (kX12_isMapped (d := 1) (Nat.le_refl _) h1) ?_
    refine g_if_eq (pc := 31) (tgt := 38) C dX12_laysFar_31 (by decide) (fun c7 => ?_) (fun c7 => ?_)
    · replace h := ifp c7 h
      refine g_ldcw (pc := 38) C dX12_laysFar_38 q_1619 ?_
      replace h := gd_some h; obtain ⟨hk8, h⟩ := h
      replace h := gv_some h; obtain ⟨hi9, h⟩ := h
      refine g_iast (pc := 41) C dX12_laysFar_41 hk8 hi9 ?_
      refine g_mem (fun M10 eM10 => ?_)
      replace h := lt_at eM10 h
      obtain ⟨v11, ev11⟩ : ∃ y : Int32, y = x2 + (1 : Int32) := ⟨_, rfl⟩
      replace h := lt_at ev11 h
      refine g_iinc (pc := 42) (v := v11) (k := 2) (lo2 := [(2, .int (v11)), (0, .ref (x0)), (1, .int (x1))]) C dX12_laysFar_42 rfl (by rw [ev11]; rfl) (by decide) rfl ?_
      refine g_goto (pc := 45) (tgt := 7) C dX12_laysFar_45 (by decide) ?_
      obtain rfl := Option.some.inj h
      exact g_sub [1, 2, 0] rfl (show G X B 6 Z Q 7 [(0, .ref (x0)), (1, .int (x1)), (2, .int (v11))] [] T M10 from hE)
    · replace h := ifn c7 h
      refine g_iconst (pc := 34) (v := 0) C dX12_laysFar_34 (by decide) ?_
      refine g_goto (pc := 35) (tgt := 41) C dX12_laysFar_35 (by decide) ?_
      replace h := gd_some h; obtain ⟨hk12, h⟩ := h
      replace h := gv_some h; obtain ⟨hi13, h⟩ := h
      refine g_iast (pc := 41) C dX12_laysFar_41 hk12 hi13 ?_
      refine g_mem (fun M14 eM14 => ?_)
      replace h := lt_at eM14 h
      obtain ⟨v15, ev15⟩ : ∃ y : Int32, y = x2 + (1 : Int32) := ⟨_, rfl⟩
      replace h := lt_at ev15 h
      refine g_iinc (pc := 42) (v := v15) (k := 2) (lo2 := [(2, .int (v15)), (0, .ref (x0)), (1, .int (x1))]) C dX12_laysFar_42 rfl (by rw [ev15]; rfl) (by decide) rfl ?_
      refine g_goto (pc := 45) (tgt := 7) C dX12_laysFar_45 (by decide) ?_
      obtain rfl := Option.some.inj h
      exact g_sub [1, 2, 0] rfl (show G X B 6 Z Q 7 [(0, .ref (x0)), (1, .int (x1)), (2, .int (v15))] [] T M14 from hE)
-- a loop of EyeTrainerModel.laysFar at 50
-- a loop of EyeTrainerModel.laysFar at 58
-- a loop of EyeTrainerModel.laysFar at 68
def bX12_laysFar_68 (T : Sh) (x0 : Nat) (x1 : Int32) (x3 : Int32) (x2 : Int32) (x4 : Int32) (M : Me) : Option ((Int32 × Int32 × Me) ⊕ ((Int32 × Me))) :=
  if (4 : Int32) ≤ x4 then (some (.inr (x2, M))) else (Option.bind (fX12_stepTo x3 x4) fun r20 => if r20 = (-1 : Int32) then (lt (x4 + (1 : Int32)) fun v22 => some (.inl (x2, v22, M))) else (gd (kd T x0 = 11) <| Option.bind (gR M x0 35) fun a24 => gd (kd T a24 = 13) <| gv r20 (ln T a24) <| if (gI M a24 (Int32.toNatClampNeg r20)) = (268435456 : Int32) then (lt (x4 + (1 : Int32)) fun v28 => some (.inl (x2, v28, M))) else (Option.bind (gR M x0 35) fun a29 => gd (kd T a29 = 13) <| gv r20 (ln T a29) <| Option.bind (gR M x0 35) fun a32 => gd (kd T a32 = 13) <| gv x3 (ln T a32) <| if ((gI M a29 (Int32.toNatClampNeg r20)) + (1 : Int32)) < (gI M a32 (Int32.toNatClampNeg x3)) then (Option.bind (gR M x0 35) fun a36 => Option.bind (gR M x0 35) fun a37 => gd (kd T a37 = 13) <| gv r20 (ln T a37) <| gd (kd T a36 = 13) <| gv x3 (ln T a36) <| lt (pI M a36 (Int32.toNatClampNeg x3) ((gI M a37 (Int32.toNatClampNeg r20)) + (1 : Int32))) fun M42 => lt (x4 + (1 : Int32)) fun v43 => some (.inl ((1 : Int32), v43, M42))) else (lt (x4 + (1 : Int32)) fun v44 => some (.inl (x2, v44, M))))))
def PX12_laysFar_68 (X : Fx) (B : Bx) (Z : Nat × Nat × Nat × Nat) (Q : State → Prop) (T : Sh) (x0 : Nat) (x1 : Int32) (x3 : Int32) (s : Int32 × Int32 × Me) : Prop := G X B 6 Z Q 68 [(0, .ref (x0)), (1, .int (x1)), (2, .int (s.1)), (3, .int (x3)), (4, .int (s.2.1))] [] T s.2.2
def EX12_laysFar_68 (X : Fx) (B : Bx) (Z : Nat × Nat × Nat × Nat) (Q : State → Prop) (T : Sh) (x0 : Nat) (x1 : Int32) (x3 : Int32) (r : (Int32 × Me)) : Prop := G X B 6 Z Q 145 [(0, .ref (x0)), (1, .int (x1)), (2, .int (r.1)), (3, .int (x3))] [] T r.2
set_option maxHeartbeats 4000000 in
theorem tbX12_laysFar_68 {X : Fx} {B : Bx} {Z : Nat × Nat × Nat × Nat} {Q : State → Prop} {d : Nat} {T : Sh} (C : Cx X B cX12_laysFar 6 RX12 d Z) (hd : 6 ≤ d) {x0 : Nat} {x1 : Int32} {x3 : Int32} : ∀ (s : Int32 × Int32 × Me) (o : (Int32 × Int32 × Me) ⊕ ((Int32 × Me))), bX12_laysFar_68 T x0 x1 x3 s.1 s.2.1 s.2.2 = some o → lpE (PX12_laysFar_68 X B Z Q T x0 x1 x3) (EX12_laysFar_68 X B Z Q T x0 x1 x3) o → PX12_laysFar_68 X B Z Q T x0 x1 x3 s := by
  rintro ⟨x2, x4, M⟩ o h hE
  replace h : bX12_laysFar_68 T x0 x1 x3 x2 x4 M = some o := h
  unfold bX12_laysFar_68 at h
  show G X B 6 Z Q 68 [(0, .ref (x0)), (1, .int (x1)), (2, .int (x2)), (3, .int (x3)), (4, .int (x4))] [] T M
  refine g_iload (pc := 68) C dX12_laysFar_68 4 rfl ?_
  refine g_iconst (pc := 70) (v := 4) C dX12_laysFar_70 (by decide) ?_
  refine g_icmp_ge (pc := 71) (tgt := 145) C dX12_laysFar_71 (by decide) (fun c19 => ?_) (fun c19 => ?_)
  · replace h := ifp c19 h
    obtain rfl := Option.some.inj h
    exact g_sub [0, 1, 2, 3] rfl (show G X B 6 Z Q 145 [(0, .ref (x0)), (1, .int (x1)), (2, .int (x2)), (3, .int (x3))] [] T M from hE)
  · replace h := ifn c19 h
    refine g_iload_n (pc := 74) C dX12_laysFar_74 rfl 3 rfl ?_
    refine g_iload (pc := 75) C dX12_laysFar_75 4 rfl ?_
    replace h := bnd h; obtain ⟨r20, h1, h⟩ := h
    refine g_callSi (pc := 77) (As := [.int (x3), .int (x4)]) (st := []) C dX12_laysFar_77 wX12_stepTo q_1804 q_1803 (by omega) rfl (Nat.le_of_ble_eq_true rfl) (kX12_stepTo (d := 0) (Nat.le_refl _) h1) ?_
    refine g_istore (pc := 80) (lo2 := [(5, .int (r20)), (0, .ref (x0)), (1, .int (x1)), (2, .int (x2)), (3, .int (x3)), (4, .int (x4))]) C dX12_laysFar_80 (by decide) rfl ?_
    refine g_iload (pc := 82) C dX12_laysFar_82 0 rfl ?_
    refine g_iconst (pc := 84) (v := (-1)) C dX12_laysFar_84 (by decide) ?_
    refine g_icmp_eq (pc := 85) (tgt := 139) C dX12_laysFar_85 (by decide) (fun c21 => ?_) (fun c21 => ?_)
    · replace h := ifp c21 h
      obtain ⟨v22, ev22⟩ : ∃ y : Int32, y = x4 + (1 : Int32) := ⟨_, rfl⟩
      replace h := lt_at ev22 h
      refine g_iinc (pc := 139) (v := v22) (k := 5) (lo2 := [(4, .int (v22)), (5, .int (r20)), (0, .ref (x0)), (1, .int (x1)), (2, .int (x2)), (3, .int (x3))]) C dX12_laysFar_139 rfl (by rw [ev22]; rfl) (by decide) rfl ?_
      refine g_goto (pc := 142) (tgt := 68) C dX12_laysFar_142 (by decide) ?_
      obtain rfl := Option.some.inj h
      exact g_sub [2, 3, 4, 5, 0] rfl (show G X B 6 Z Q 68 [(0, .ref (x0)), (1, .int (x1)), (2, .int (x2)), (3, .int (x3)), (4, .int (v22))] [] T M from hE)
    · replace h := ifn c21 h
      refine g_aload_n (pc := 88) C dX12_laysFar_88 rfl 1 rfl ?_
      replace h := gd_some h; obtain ⟨hk23, h⟩ := h
      refine g_get (pc := 89) (v := va_rf (gR M x0 35)) C dX12_laysFar_89 kX12 hk23 35 (by decide) q_1262 rfl ?_
      replace h := bnd h; obtain ⟨a24, ea24, h⟩ := h
      refine g_refq ea24 ?_
      refine g_iload (pc := 92) C dX12_laysFar_92 0 rfl ?_
      replace h := gd_some h; obtain ⟨hk25, h⟩ := h
      replace h := gv_some h; obtain ⟨hi26, h⟩ := h
      refine g_iald (pc := 94) C dX12_laysFar_94 hk25 hi26 ?_
      refine g_ldcw (pc := 95) C dX12_laysFar_95 q_1619 ?_
      refine g_icmp_eq (pc := 98) (tgt := 139) C dX12_laysFar_98 (by decide) (fun c27 => ?_) (fun c27 => ?_)
      · replace h := ifp c27 h
        obtain ⟨v28, ev28⟩ : ∃ y : Int32, y = x4 + (1 : Int32) := ⟨_, rfl⟩
        replace h := lt_at ev28 h
        refine g_iinc (pc := 139) (v := v28) (k := 5) (lo2 := [(4, .int (v28)), (5, .int (r20)), (0, .ref (x0)), (1, .int (x1)), (2, .int (x2)), (3, .int (x3))]) C dX12_laysFar_139 rfl (by rw [ev28]; rfl) (by decide) rfl ?_
        refine g_goto (pc := 142) (tgt := 68) C dX12_laysFar_142 (by decide) ?_
        obtain rfl := Option.some.inj h
        exact g_sub [2, 3, 4, 5, 0] rfl (show G X B 6 Z Q 68 [(0, .ref (x0)), (1, .int (x1)), (2, .int (x2)), (3, .int (x3)), (4, .int (v28))] [] T M from hE)
      · replace h := ifn c27 h
        refine g_aload_n (pc := 101) C dX12_laysFar_101 rfl 1 rfl ?_
        refine g_get (pc := 102) (v := va_rf (gR M x0 35)) C dX12_laysFar_102 kX12 hk23 35 (by decide) q_1262 rfl ?_
        replace h := bnd h; obtain ⟨a29, ea29, h⟩ := h
        refine g_refq ea29 ?_
        refine g_iload (pc := 105) C dX12_laysFar_105 0 rfl ?_
        replace h := gd_some h; obtain ⟨hk30, h⟩ := h
        replace h := gv_some h; obtain ⟨hi31, h⟩ := h
        refine g_iald (pc := 107) C dX12_laysFar_107 hk30 hi31 ?_
        refine g_iconst (pc := 108) (v := 1) C dX12_laysFar_108 (by decide) ?_
        refine g_iadd (pc := 109) C dX12_laysFar_109 ?_
        refine g_aload_n (pc := 110) C dX12_laysFar_110 rfl 1 rfl ?_
        refine g_get (pc := 111) (v := va_rf (gR M x0 35)) C dX12_laysFar_111 kX12 hk23 35 (by decide) q_1262 rfl ?_
        replace h := bnd h; obtain ⟨a32, ea32, h⟩ := h
        refine g_refq ea32 ?_
        refine g_iload_n (pc := 114) C dX12_laysFar_114 rfl 4 rfl ?_
        replace h := gd_some h; obtain ⟨hk33, h⟩ := h
        replace h := gv_some h; obtain ⟨hi34, h⟩ := h
        refine g_iald (pc := 115) C dX12_laysFar_115 hk33 hi34 ?_
        refine g_icmp_lt (pc := 116) (tgt := 122) C dX12_laysFar_116 (by decide) (fun c35 => ?_) (fun c35 => ?_)
        · replace h := ifp c35 h
          refine g_aload_n (pc := 122) C dX12_laysFar_122 rfl 1 rfl ?_
          refine g_get (pc := 123) (v := va_rf (gR M x0 35)) C dX12_laysFar_123 kX12 hk23 35 (by decide) q_1262 rfl ?_
          replace h := bnd h; obtain ⟨a36, ea36, h⟩ := h
          refine g_refq ea36 ?_
          refine g_iload_n (pc := 126) C dX12_laysFar_126 rfl 4 rfl ?_
          refine g_aload_n (pc := 127) C dX12_laysFar_127 rfl 1 rfl ?_
          refine g_get (pc := 128) (v := va_rf (gR M x0 35)) C dX12_laysFar_128 kX12 hk23 35 (by decide) q_1262 rfl ?_
          replace h := bnd h; obtain ⟨a37, ea37, h⟩ := h
          refine g_refq ea37 ?_
          refine g_iload (pc := 131) C dX12_laysFar_131 0 rfl ?_
          replace h := gd_some h; obtain ⟨hk38, h⟩ := h
          replace h := gv_some h; obtain ⟨hi39, h⟩ := h
          refine g_iald (pc := 133) C dX12_laysFar_133 hk38 hi39 ?_
          refine g_iconst (pc := 134) (v := 1) C dX12_laysFar_134 (by decide) ?_
          refine g_iadd (pc := 135) C dX12_laysFar_135 ?_
          replace h := gd_some h; obtain ⟨hk40, h⟩ := h
          replace h := gv_some h; obtain ⟨hi41, h⟩ := h
          refine g_iast (pc := 136) C dX12_laysFar_136 hk40 hi41 ?_
          refine g_mem (fun M42 eM42 => ?_)
          replace h := lt_at eM42 h
          refine g_iconst (pc := 137) (v := 1) C dX12_laysFar_137 (by decide) ?_
          refine g_istore_n (pc := 138) (lo2 := [(2, .int ((1 : Int32))), (5, .int (r20)), (0, .ref (x0)), (1, .int (x1)), (3, .int (x3)), (4, .int (x4))]) C dX12_laysFar_138 rfl (by decide) rfl ?_
          obtain ⟨v43, ev43⟩ : ∃ y : Int32, y = x4 + (1 : Int32) := ⟨_, rfl⟩
          replace h := lt_at ev43 h
          refine g_iinc (pc := 139) (v := v43) (k := 5) (lo2 := [(4, .int (v43)), (2, .int ((1 : Int32))), (5, .int (r20)), (0, .ref (x0)), (1, .int (x1)), (3, .int (x3))]) C dX12_laysFar_139 rfl (by rw [ev43]; rfl) (by decide) rfl ?_
          refine g_goto (pc := 142) (tgt := 68) C dX12_laysFar_142 (by decide) ?_
          obtain rfl := Option.some.inj h
          exact g_sub [3, 4, 1, 5, 0] rfl (show G X B 6 Z Q 68 [(0, .ref (x0)), (1, .int (x1)), (2, .int ((1 : Int32))), (3, .int (x3)), (4, .int (v43))] [] T M42 from hE)
        · replace h := ifn c35 h
          refine g_goto (pc := 119) (tgt := 139) C dX12_laysFar_119 (by decide) ?_
          obtain ⟨v44, ev44⟩ : ∃ y : Int32, y = x4 + (1 : Int32) := ⟨_, rfl⟩
          replace h := lt_at ev44 h
          refine g_iinc (pc := 139) (v := v44) (k := 5) (lo2 := [(4, .int (v44)), (5, .int (r20)), (0, .ref (x0)), (1, .int (x1)), (2, .int (x2)), (3, .int (x3))]) C dX12_laysFar_139 rfl (by rw [ev44]; rfl) (by decide) rfl ?_
          refine g_goto (pc := 142) (tgt := 68) C dX12_laysFar_142 (by decide) ?_
          obtain rfl := Option.some.inj h
          exact g_sub [2, 3, 4, 5, 0] rfl (show G X B 6 Z Q 68 [(0, .ref (x0)), (1, .int (x1)), (2, .int (x2)), (3, .int (x3)), (4, .int (v44))] [] T M from hE)
def bX12_laysFar_58 (T : Sh) (x0 : Nat) (x1 : Int32) (x2 : Int32) (x3 : Int32) (M : Me) : Option ((Int32 × Int32 × Me) ⊕ ((Int32 × Me))) :=
  if (384 : Int32) ≤ x3 then (some (.inr (x2, M))) else ((lp FU (fun s => bX12_laysFar_68 T x0 x1 x3 s.1 s.2.1 s.2.2) (x2, (0 : Int32), M)).bind (un2 fun x2_45 M46 => lt (x3 + (1 : Int32)) fun v47 => some (.inl (x2_45, v47, M46))))
def PX12_laysFar_58 (X : Fx) (B : Bx) (Z : Nat × Nat × Nat × Nat) (Q : State → Prop) (T : Sh) (x0 : Nat) (x1 : Int32) (s : Int32 × Int32 × Me) : Prop := G X B 6 Z Q 58 [(0, .ref (x0)), (1, .int (x1)), (2, .int (s.1)), (3, .int (s.2.1))] [] T s.2.2
def EX12_laysFar_58 (X : Fx) (B : Bx) (Z : Nat × Nat × Nat × Nat) (Q : State → Prop) (T : Sh) (x0 : Nat) (x1 : Int32) (r : (Int32 × Me)) : Prop := G X B 6 Z Q 151 [(0, .ref (x0)), (1, .int (x1)), (2, .int (r.1))] [] T r.2
set_option maxHeartbeats 4000000 in
theorem tbX12_laysFar_58 {X : Fx} {B : Bx} {Z : Nat × Nat × Nat × Nat} {Q : State → Prop} {d : Nat} {T : Sh} (C : Cx X B cX12_laysFar 6 RX12 d Z) (hd : 6 ≤ d) {x0 : Nat} {x1 : Int32} : ∀ (s : Int32 × Int32 × Me) (o : (Int32 × Int32 × Me) ⊕ ((Int32 × Me))), bX12_laysFar_58 T x0 x1 s.1 s.2.1 s.2.2 = some o → lpE (PX12_laysFar_58 X B Z Q T x0 x1) (EX12_laysFar_58 X B Z Q T x0 x1) o → PX12_laysFar_58 X B Z Q T x0 x1 s := by
  rintro ⟨x2, x3, M⟩ o h hE
  replace h : bX12_laysFar_58 T x0 x1 x2 x3 M = some o := h
  unfold bX12_laysFar_58 at h
  show G X B 6 Z Q 58 [(0, .ref (x0)), (1, .int (x1)), (2, .int (x2)), (3, .int (x3))] [] T M
  refine g_iload_n (pc := 58) C dX12_laysFar_58 rfl 3 rfl ?_
  refine g_sipush (pc := 59) (v := 384) C dX12_laysFar_59 (by decide) ?_
  refine g_icmp_ge (pc := 62) (tgt := 151) C dX12_laysFar_62 (by decide) (fun c18 => ?_) (fun c18 => ?_)
  · replace h := ifp c18 h
    obtain rfl := Option.some.inj h
    exact g_sub [0, 1, 2] rfl (show G X B 6 Z Q 151 [(0, .ref (x0)), (1, .int (x1)), (2, .int (x2))] [] T M from hE)
  · replace h := ifn c18 h
    refine g_iconst (pc := 65) (v := 0) C dX12_laysFar_65 (by decide) ?_
    refine g_istore (pc := 66) (lo2 := [(4, .int ((0 : Int32))), (0, .ref (x0)), (1, .int (x1)), (2, .int (x2)), (3, .int (x3))]) C dX12_laysFar_66 (by decide) rfl ?_
    replace h := bnd2 h; obtain ⟨x2_45, M46, h1, h⟩ := h
    refine g_sub [1, 2, 3, 4, 0] rfl ?_
    refine lp_G2 (P := PX12_laysFar_68 X B _ _ T x0 x1 x3) (E := EX12_laysFar_68 X B _ _ T x0 x1 x3) (tbX12_laysFar_68 C hd) h1 ?_
    show G X B 6 _ _ 145 [(0, .ref (x0)), (1, .int (x1)), (2, .int (x2_45)), (3, .int (x3))] [] T M46
    obtain ⟨v47, ev47⟩ : ∃ y : Int32, y = x3 + (1 : Int32) := ⟨_, rfl⟩
    replace h := lt_at ev47 h
    refine g_iinc (pc := 145) (v := v47) (k := 3) (lo2 := [(3, .int (v47)), (0, .ref (x0)), (1, .int (x1)), (2, .int (x2_45))]) C dX12_laysFar_145 rfl (by rw [ev47]; rfl) (by decide) rfl ?_
    refine g_goto (pc := 148) (tgt := 58) C dX12_laysFar_148 (by decide) ?_
    obtain rfl := Option.some.inj h
    exact g_sub [1, 2, 3, 0] rfl (show G X B 6 Z Q 58 [(0, .ref (x0)), (1, .int (x1)), (2, .int (x2_45)), (3, .int (v47))] [] T M46 from hE)
def bX12_laysFar_50 (T : Sh) (x0 : Nat) (x1 : Int32) (x2 : Int32) (M : Me) : Option ((Int32 × Me) ⊕ (Me)) :=
  if x2 = 0 then (some (.inr M)) else ((lp FU (fun s => bX12_laysFar_58 T x0 x1 s.1 s.2.1 s.2.2) ((0 : Int32), (0 : Int32), M)).bind (un2 fun x2_48 M49 => some (.inl (x2_48, M49))))
def PX12_laysFar_50 (X : Fx) (B : Bx) (Z : Nat × Nat × Nat × Nat) (Q : State → Prop) (T : Sh) (x0 : Nat) (x1 : Int32) (s : Int32 × Me) : Prop := G X B 6 Z Q 50 [(0, .ref (x0)), (1, .int (x1)), (2, .int (s.1))] [] T s.2
def EX12_laysFar_50 (X : Fx) (B : Bx) (Z : Nat × Nat × Nat × Nat) (Q : State → Prop) (T : Sh) (x0 : Nat) (x1 : Int32) (r : Me) : Prop := G X B 6 Z Q 154 [(0, .ref (x0)), (1, .int (x1))] [] T r
set_option maxHeartbeats 4000000 in
theorem tbX12_laysFar_50 {X : Fx} {B : Bx} {Z : Nat × Nat × Nat × Nat} {Q : State → Prop} {d : Nat} {T : Sh} (C : Cx X B cX12_laysFar 6 RX12 d Z) (hd : 6 ≤ d) {x0 : Nat} {x1 : Int32} : ∀ (s : Int32 × Me) (o : (Int32 × Me) ⊕ (Me)), bX12_laysFar_50 T x0 x1 s.1 s.2 = some o → lpE (PX12_laysFar_50 X B Z Q T x0 x1) (EX12_laysFar_50 X B Z Q T x0 x1) o → PX12_laysFar_50 X B Z Q T x0 x1 s := by
  rintro ⟨x2, M⟩ o h hE
  replace h : bX12_laysFar_50 T x0 x1 x2 M = some o := h
  unfold bX12_laysFar_50 at h
  show G X B 6 Z Q 50 [(0, .ref (x0)), (1, .int (x1)), (2, .int (x2))] [] T M
  refine g_iload_n (pc := 50) C dX12_laysFar_50 rfl 2 rfl ?_
  refine g_if_eq (pc := 51) (tgt := 154) C dX12_laysFar_51 (by decide) (fun c17 => ?_) (fun c17 => ?_)
  · replace h := ifp c17 h
    obtain rfl := Option.some.inj h
    exact g_sub [0, 1] rfl (show G X B 6 Z Q 154 [(0, .ref (x0)), (1, .int (x1))] [] T M from hE)
  · replace h := ifn c17 h
    refine g_iconst (pc := 54) (v := 0) C dX12_laysFar_54 (by decide) ?_
    refine g_istore_n (pc := 55) (lo2 := [(2, .int ((0 : Int32))), (0, .ref (x0)), (1, .int (x1))]) C dX12_laysFar_55 rfl (by decide) rfl ?_
    refine g_iconst (pc := 56) (v := 0) C dX12_laysFar_56 (by decide) ?_
    refine g_istore_n (pc := 57) (lo2 := [(3, .int ((0 : Int32))), (2, .int ((0 : Int32))), (0, .ref (x0)), (1, .int (x1))]) C dX12_laysFar_57 rfl (by decide) rfl ?_
    replace h := bnd2 h; obtain ⟨x2_48, M49, h1, h⟩ := h
    refine g_sub [2, 3, 1, 0] rfl ?_
    refine lp_G2 (P := PX12_laysFar_58 X B _ _ T x0 x1) (E := EX12_laysFar_58 X B _ _ T x0 x1) (tbX12_laysFar_58 C hd) h1 ?_
    show G X B 6 _ _ 151 [(0, .ref (x0)), (1, .int (x1)), (2, .int (x2_48))] [] T M49
    refine g_goto (pc := 151) (tgt := 50) C dX12_laysFar_151 (by decide) ?_
    obtain rfl := Option.some.inj h
    exact g_sub [0, 1, 2] rfl (show G X B 6 Z Q 50 [(0, .ref (x0)), (1, .int (x1)), (2, .int (x2_48))] [] T M49 from hE)
/-- EyeTrainerModel.laysFar(I)I -/
def fX12_laysFar (T : Sh) (M : Me) (x0 : Nat) (x1 : Int32) : Option (Int32 × Me) :=
  gd (kd T x0 = 11) <| Option.bind (fX12_laysMapNow T M x0 x1) <| un2 fun _u M2 => (lp FU (fun s => bX12_laysFar_7 T x0 x1 s.1 s.2) ((0 : Int32), M2)).bind (fun M16 => (lp FU (fun s => bX12_laysFar_50 T x0 x1 s.1 s.2) ((1 : Int32), M16)).bind (fun M50 => Option.bind (gR M50 x0 35) fun a51 => Option.bind (gR M50 x0 1) fun a52 => gd (kd T a52 = 13) <| gv ((42 : Int32) + x1) (ln T a52) <| gd (kd T a51 = 13) <| gv (gI M50 a52 (Int32.toNatClampNeg ((42 : Int32) + x1))) (ln T a51) <| some ((gI M50 a51 (Int32.toNatClampNeg (gI M50 a52 (Int32.toNatClampNeg ((42 : Int32) + x1))))), M50)))
set_option maxHeartbeats 4000000 in
theorem kX12_laysFar {l : Launch} {B : Bx} {d : Nat} (hd : 6 ≤ d) {T : Sh} {M : Me} {x0 : Nat} {x1 : Int32} {r : Int32} {M' : Me} (h : fX12_laysFar T M x0 x1 = some (r, M')) : Kt l B yX12_laysFar cX12_laysFar 6 (some .int) d [.ref (x0), .int (x1)] T M (some (.int r)) T M' := by
  refine kt_of wX12_laysFar (Nat.le_refl _) (Nat.le_refl _) (Nat.le_of_ble_eq_true rfl) (fun X C hR hlx hin => ?_)
  subst hlx
  replace C : Cx X B cX12_laysFar 6 RX12 d (tp T, sl T, tp T, sl T) := C
  unfold fX12_laysFar at h
  show G X B 6 _ _ 0 [(0, .ref (x0)), (1, .int (x1))] [] T M
  refine g_aload_n (pc := 0) C dX12_laysFar_0 rfl 0 rfl ?_
  refine g_iload_n (pc := 1) C dX12_laysFar_1 rfl 1 rfl ?_
  replace h := gd_some h; obtain ⟨hk1, h⟩ := h
  replace h := bnd2 h; obtain ⟨_u, M2, h1, h⟩ := h
  refine g_callVv (pc := 2) (As := [.int (x1)]) (st := []) C dX12_laysFar_2 wX12_laysMapNow hk1 rfl (by decide) q_1711 q_108 q_1709 (by omega) rfl (Nat.le_of_ble_eq_true rfl) (kX12_laysMapNow (d := 5) (Nat.le_refl _) h1) ?_
  refine g_iconst (pc := 5) (v := 0) C dX12_laysFar_5 (by decide) ?_
  refine g_istore_n (pc := 6) (lo2 := [(2, .int ((0 : Int32))), (0, .ref (x0)), (1, .int (x1))]) C dX12_laysFar_6 rfl (by decide) rfl ?_
  replace h := bnd h; obtain ⟨M16, h1, h⟩ := h
  refine g_sub [1, 2, 0] rfl ?_
  refine lp_G2 (P := PX12_laysFar_7 X B _ _ T x0 x1) (E := EX12_laysFar_7 X B _ _ T x0 x1) (tbX12_laysFar_7 C hd) h1 ?_
  show G X B 6 _ _ 48 [(0, .ref (x0)), (1, .int (x1))] [] T M16
  refine g_iconst (pc := 48) (v := 1) C dX12_laysFar_48 (by decide) ?_
  refine g_istore_n (pc := 49) (lo2 := [(2, .int ((1 : Int32))), (0, .ref (x0)), (1, .int (x1))]) C dX12_laysFar_49 rfl (by decide) rfl ?_
  replace h := bnd h; obtain ⟨M50, h1, h⟩ := h
  refine g_sub [1, 2, 0] rfl ?_
  refine lp_G2 (P := PX12_laysFar_50 X B _ _ T x0 x1) (E := EX12_laysFar_50 X B _ _ T x0 x1) (tbX12_laysFar_50 C hd) h1 ?_
  show G X B 6 _ _ 154 [(0, .ref (x0)), (1, .int (x1))] [] T M50
  refine g_aload_n (pc := 154) C dX12_laysFar_154 rfl 0 rfl ?_
  refine g_get (pc := 155) (v := va_rf (gR M50 x0 35)) C dX12_laysFar_155 kX12 hk1 35 (by decide) q_1262 rfl ?_
  replace h := bnd h; obtain ⟨a51, ea51, h⟩ := h
  refine g_refq ea51 ?_
  refine g_aload_n (pc := 158) C dX12_laysFar_158 rfl 0 rfl ?_
  refine g_get (pc := 159) (v := va_rf (gR M50 x0 1)) C dX12_laysFar_159 kX12 hk1 1 (by decide) q_1228 rfl ?_
  replace h := bnd h; obtain ⟨a52, ea52, h⟩ := h
  refine g_refq ea52 ?_
  refine g_bipush (pc := 162) (v := 42) C dX12_laysFar_162 (by decide) ?_
  refine g_iload_n (pc := 164) C dX12_laysFar_164 rfl 1 rfl ?_
  refine g_iadd (pc := 165) C dX12_laysFar_165 ?_
  replace h := gd_some h; obtain ⟨hk53, h⟩ := h
  replace h := gv_some h; obtain ⟨hi54, h⟩ := h
  refine g_iald (pc := 166) C dX12_laysFar_166 hk53 hi54 ?_
  replace h := gd_some h; obtain ⟨hk55, h⟩ := h
  replace h := gv_some h; obtain ⟨hi56, h⟩ := h
  refine g_iald (pc := 167) C dX12_laysFar_167 hk55 hi56 ?_
  obtain ⟨rfl, rfl⟩ := Prod.mk.inj (Option.some.inj h)
  exact g_iret C hR dX12_laysFar_168
theorem dX12_steps_0 : decode cX12_steps 0 = .ok (.aload_n 0, 1) := by decide +kernel
theorem dX12_steps_1 : decode cX12_steps 1 = .ok (.iconst 0, 1) := by decide +kernel
theorem dX12_steps_2 : decode cX12_steps 2 = .ok (.putfield 1, 3) := by decide +kernel
theorem dX12_steps_5 : decode cX12_steps 5 = .ok (.aload_n 0, 1) := by decide +kernel
theorem dX12_steps_6 : decode cX12_steps 6 = .ok (.iload_n 1, 1) := by decide +kernel
theorem dX12_steps_7 : decode cX12_steps 7 = .ok (.i2l, 1) := by decide +kernel
theorem dX12_steps_8 : decode cX12_steps 8 = .ok (.invokevirtual 247, 3) := by decide +kernel
theorem dX12_steps_11 : decode cX12_steps 11 = .ok (.ifCond .ne 6, 3) := by decide +kernel
theorem dX12_steps_14 : decode cX12_steps 14 = .ok (.bipush (-2), 2) := by decide +kernel
theorem dX12_steps_16 : decode cX12_steps 16 = .ok (.ireturn, 1) := by decide +kernel
theorem dX12_steps_17 : decode cX12_steps 17 = .ok (.aload_n 0, 1) := by decide +kernel
theorem dX12_steps_18 : decode cX12_steps 18 = .ok (.iload_n 1, 1) := by decide +kernel
theorem dX12_steps_19 : decode cX12_steps 19 = .ok (.invokevirtual 435, 3) := by decide +kernel
theorem dX12_steps_22 : decode cX12_steps 22 = .ok (.istore_n 2, 1) := by decide +kernel
theorem dX12_steps_23 : decode cX12_steps 23 = .ok (.iload_n 2, 1) := by decide +kernel
theorem dX12_steps_24 : decode cX12_steps 24 = .ok (.ldc_w 294, 3) := by decide +kernel
theorem dX12_steps_27 : decode cX12_steps 27 = .ok (.if_icmp .ne 7, 3) := by decide +kernel
theorem dX12_steps_30 : decode cX12_steps 30 = .ok (.iconst (-1), 1) := by decide +kernel
theorem dX12_steps_31 : decode cX12_steps 31 = .ok (.goto 4, 3) := by decide +kernel
theorem dX12_steps_34 : decode cX12_steps 34 = .ok (.iload_n 2, 1) := by decide +kernel
theorem dX12_steps_35 : decode cX12_steps 35 = .ok (.ireturn, 1) := by decide +kernel
theorem wX12_steps : Mw yX12_steps cX12_steps 3 (some .int) 1 := ⟨q_1798, q_130, by decide, ⟨by decide +kernel, by decide +kernel⟩, by decide +kernel, by decide +kernel⟩
/-- EyeTrainerModel.steps(I)I -/
def fX12_steps (T : Sh) (M : Me) (x0 : Nat) (x1 : Int32) : Option (Int32 × Me) :=
  gd (kd T x0 = 11) <| lt (pI M x0 0 (0 : Int32)) fun M2 => Option.bind (fX12_isLane T M2 x0 (Int32.toInt64 x1)) fun r3 => if r3 = 0 then (some ((-2 : Int32), M2)) else (Option.bind (fX12_laysFar T M2 x0 x1) <| un2 fun r5 M6 => if r5 = (268435456 : Int32) then (some ((-1 : Int32), M6)) else (some (r5, M6)))
set_option maxHeartbeats 4000000 in
theorem kX12_steps {l : Launch} {B : Bx} {d : Nat} (hd : 7 ≤ d) {T : Sh} {M : Me} {x0 : Nat} {x1 : Int32} {r : Int32} {M' : Me} (h : fX12_steps T M x0 x1 = some (r, M')) : Kt l B yX12_steps cX12_steps 3 (some .int) d [.ref (x0), .int (x1)] T M (some (.int r)) T M' := by
  refine kt_of wX12_steps (Nat.le_refl _) (Nat.le_refl _) (Nat.le_of_ble_eq_true rfl) (fun X C hR hlx hin => ?_)
  subst hlx
  replace C : Cx X B cX12_steps 3 RX12 d (tp T, sl T, tp T, sl T) := C
  unfold fX12_steps at h
  show G X B 3 _ _ 0 [(0, .ref (x0)), (1, .int (x1))] [] T M
  refine g_aload_n (pc := 0) C dX12_steps_0 rfl 0 rfl ?_
  refine g_iconst (pc := 1) (v := 0) C dX12_steps_1 (by decide) ?_
  replace h := gd_some h; obtain ⟨hk1, h⟩ := h
  refine g_putI (pc := 2) C dX12_steps_2 kX12 hk1 0 (by decide) rfl rfl rfl q_1227 ?_
  refine g_mem (fun M2 eM2 => ?_)
  replace h := lt_at eM2 h
  refine g_aload_n (pc := 5) C dX12_steps_5 rfl 0 rfl ?_
  refine g_iload_n (pc := 6) C dX12_steps_6 rfl 1 rfl ?_
  refine g_i2l (pc := 7) C dX12_steps_7 ?_
  replace h := bnd h; obtain ⟨r3, h1, h⟩ := h
  refine g_callVi (pc := 8) (As := [.long (Int32.toInt64 x1)]) (st := []) C dX12_steps_8 wX12_isLane hk1 rfl (by decide) q_1481 q_75 q_1479 (by omega) rfl (Nat.le_of_ble_eq_true rfl) (kX12_isLane (d := 1) (Nat.le_refl _) h1) ?_
  refine g_if_ne (pc := 11) (tgt := 17) C dX12_steps_11 (by decide) (fun c4 => ?_) (fun c4 => ?_)
  · replace h := ifn c4 h
    refine g_aload_n (pc := 17) C dX12_steps_17 rfl 0 rfl ?_
    refine g_iload_n (pc := 18) C dX12_steps_18 rfl 1 rfl ?_
    replace h := bnd2 h; obtain ⟨r5, M6, h1, h⟩ := h
    refine g_callVi (pc := 19) (As := [.int (x1)]) (st := []) C dX12_steps_19 wX12_laysFar hk1 rfl (by decide) q_1801 q_115 q_1799 (by omega) rfl (Nat.le_of_ble_eq_true rfl) (kX12_laysFar (d := 6) (Nat.le_refl _) h1) ?_
    refine g_istore_n (pc := 22) (lo2 := [(2, .int (r5)), (0, .ref (x0)), (1, .int (x1))]) C dX12_steps_22 rfl (by decide) rfl ?_
    refine g_iload_n (pc := 23) C dX12_steps_23 rfl 0 rfl ?_
    refine g_ldcw (pc := 24) C dX12_steps_24 q_1619 ?_
    refine g_icmp_ne (pc := 27) (tgt := 34) C dX12_steps_27 (by decide) (fun c7 => ?_) (fun c7 => ?_)
    · replace h := ifn c7 h
      refine g_iload_n (pc := 34) C dX12_steps_34 rfl 0 rfl ?_
      obtain ⟨rfl, rfl⟩ := Prod.mk.inj (Option.some.inj h)
      exact g_iret C hR dX12_steps_35
    · replace h := ifp c7 h
      refine g_iconst (pc := 30) (v := (-1)) C dX12_steps_30 (by decide) ?_
      refine g_goto (pc := 31) (tgt := 35) C dX12_steps_31 (by decide) ?_
      obtain ⟨rfl, rfl⟩ := Prod.mk.inj (Option.some.inj h)
      exact g_iret C hR dX12_steps_35
  · replace h := ifp c4 h
    refine g_bipush (pc := 14) (v := (-2)) C dX12_steps_14 (by decide) ?_
    obtain ⟨rfl, rfl⟩ := Prod.mk.inj (Option.some.inj h)
    exact g_iret C hR dX12_steps_16
theorem dX12_way_0 : decode cX12_way 0 = .ok (.aload_n 0, 1) := by decide +kernel
theorem dX12_way_1 : decode cX12_way 1 = .ok (.iconst 0, 1) := by decide +kernel
theorem dX12_way_2 : decode cX12_way 2 = .ok (.putfield 1, 3) := by decide +kernel
theorem dX12_way_5 : decode cX12_way 5 = .ok (.aload_n 0, 1) := by decide +kernel
theorem dX12_way_6 : decode cX12_way 6 = .ok (.iload_n 1, 1) := by decide +kernel
theorem dX12_way_7 : decode cX12_way 7 = .ok (.i2l, 1) := by decide +kernel
theorem dX12_way_8 : decode cX12_way 8 = .ok (.invokevirtual 247, 3) := by decide +kernel
theorem dX12_way_11 : decode cX12_way 11 = .ok (.ifCond .ne 6, 3) := by decide +kernel
theorem dX12_way_14 : decode cX12_way 14 = .ok (.bipush (-2), 2) := by decide +kernel
theorem dX12_way_16 : decode cX12_way 16 = .ok (.ireturn, 1) := by decide +kernel
theorem dX12_way_17 : decode cX12_way 17 = .ok (.iload_n 2, 1) := by decide +kernel
theorem dX12_way_18 : decode cX12_way 18 = .ok (.ifCond .ge 6, 3) := by decide +kernel
theorem dX12_way_21 : decode cX12_way 21 = .ok (.bipush (-3), 2) := by decide +kernel
theorem dX12_way_23 : decode cX12_way 23 = .ok (.ireturn, 1) := by decide +kernel
theorem dX12_way_24 : decode cX12_way 24 = .ok (.aload_n 0, 1) := by decide +kernel
theorem dX12_way_25 : decode cX12_way 25 = .ok (.iload_n 1, 1) := by decide +kernel
theorem dX12_way_26 : decode cX12_way 26 = .ok (.invokevirtual 435, 3) := by decide +kernel
theorem dX12_way_29 : decode cX12_way 29 = .ok (.pop, 1) := by decide +kernel
theorem dX12_way_30 : decode cX12_way 30 = .ok (.aload_n 0, 1) := by decide +kernel
theorem dX12_way_31 : decode cX12_way 31 = .ok (.getfield 13, 3) := by decide +kernel
theorem dX12_way_34 : decode cX12_way 34 = .ok (.bipush 42, 2) := by decide +kernel
theorem dX12_way_36 : decode cX12_way 36 = .ok (.iload_n 1, 1) := by decide +kernel
theorem dX12_way_37 : decode cX12_way 37 = .ok (.iadd, 1) := by decide +kernel
theorem dX12_way_38 : decode cX12_way 38 = .ok (.iaload, 1) := by decide +kernel
theorem dX12_way_39 : decode cX12_way 39 = .ok (.istore_n 3, 1) := by decide +kernel
theorem dX12_way_40 : decode cX12_way 40 = .ok (.iconst 0, 1) := by decide +kernel
theorem dX12_way_41 : decode cX12_way 41 = .ok (.istore 4, 2) := by decide +kernel
theorem dX12_way_43 : decode cX12_way 43 = .ok (.aload_n 0, 1) := by decide +kernel
theorem dX12_way_44 : decode cX12_way 44 = .ok (.getfield 48, 3) := by decide +kernel
theorem dX12_way_47 : decode cX12_way 47 = .ok (.iload_n 3, 1) := by decide +kernel
theorem dX12_way_48 : decode cX12_way 48 = .ok (.iaload, 1) := by decide +kernel
theorem dX12_way_49 : decode cX12_way 49 = .ok (.ifCond .le 78, 3) := by decide +kernel
theorem dX12_way_52 : decode cX12_way 52 = .ok (.aload_n 0, 1) := by decide +kernel
theorem dX12_way_53 : decode cX12_way 53 = .ok (.getfield 48, 3) := by decide +kernel
theorem dX12_way_56 : decode cX12_way 56 = .ok (.iload_n 3, 1) := by decide +kernel
theorem dX12_way_57 : decode cX12_way 57 = .ok (.iaload, 1) := by decide +kernel
theorem dX12_way_58 : decode cX12_way 58 = .ok (.ldc_w 294, 3) := by decide +kernel
theorem dX12_way_61 : decode cX12_way 61 = .ok (.if_icmp .ge 66, 3) := by decide +kernel
theorem dX12_way_64 : decode cX12_way 64 = .ok (.iconst 0, 1) := by decide +kernel
theorem dX12_way_65 : decode cX12_way 65 = .ok (.istore 5, 2) := by decide +kernel
theorem dX12_way_67 : decode cX12_way 67 = .ok (.iload_n 3, 1) := by decide +kernel
theorem dX12_way_68 : decode cX12_way 68 = .ok (.iload 5, 2) := by decide +kernel
theorem dX12_way_70 : decode cX12_way 70 = .ok (.invokestatic 432, 3) := by decide +kernel
theorem dX12_way_73 : decode cX12_way 73 = .ok (.iconst (-1), 1) := by decide +kernel
theorem dX12_way_74 : decode cX12_way 74 = .ok (.if_icmp .eq 25, 3) := by decide +kernel
theorem dX12_way_77 : decode cX12_way 77 = .ok (.aload_n 0, 1) := by decide +kernel
theorem dX12_way_78 : decode cX12_way 78 = .ok (.getfield 48, 3) := by decide +kernel
theorem dX12_way_81 : decode cX12_way 81 = .ok (.iload_n 3, 1) := by decide +kernel
theorem dX12_way_82 : decode cX12_way 82 = .ok (.iload 5, 2) := by decide +kernel
theorem dX12_way_84 : decode cX12_way 84 = .ok (.invokestatic 432, 3) := by decide +kernel
theorem dX12_way_87 : decode cX12_way 87 = .ok (.iaload, 1) := by decide +kernel
theorem dX12_way_88 : decode cX12_way 88 = .ok (.aload_n 0, 1) := by decide +kernel
theorem dX12_way_89 : decode cX12_way 89 = .ok (.getfield 48, 3) := by decide +kernel
theorem dX12_way_92 : decode cX12_way 92 = .ok (.iload_n 3, 1) := by decide +kernel
theorem dX12_way_93 : decode cX12_way 93 = .ok (.iaload, 1) := by decide +kernel
theorem dX12_way_94 : decode cX12_way 94 = .ok (.iconst 1, 1) := by decide +kernel
theorem dX12_way_95 : decode cX12_way 95 = .ok (.isub, 1) := by decide +kernel
theorem dX12_way_96 : decode cX12_way 96 = .ok (.if_icmp .eq 9, 3) := by decide +kernel
theorem dX12_way_99 : decode cX12_way 99 = .ok (.iinc 5 1, 3) := by decide +kernel
theorem dX12_way_102 : decode cX12_way 102 = .ok (.goto (-35), 3) := by decide +kernel
theorem dX12_way_105 : decode cX12_way 105 = .ok (.iload 4, 2) := by decide +kernel
theorem dX12_way_107 : decode cX12_way 107 = .ok (.iload_n 2, 1) := by decide +kernel
theorem dX12_way_108 : decode cX12_way 108 = .ok (.if_icmp .ne 6, 3) := by decide +kernel
theorem dX12_way_111 : decode cX12_way 111 = .ok (.iload 5, 2) := by decide +kernel
theorem dX12_way_113 : decode cX12_way 113 = .ok (.ireturn, 1) := by decide +kernel
theorem dX12_way_114 : decode cX12_way 114 = .ok (.iload_n 3, 1) := by decide +kernel
theorem dX12_way_115 : decode cX12_way 115 = .ok (.iload 5, 2) := by decide +kernel
theorem dX12_way_117 : decode cX12_way 117 = .ok (.invokestatic 432, 3) := by decide +kernel
theorem dX12_way_120 : decode cX12_way 120 = .ok (.istore_n 3, 1) := by decide +kernel
theorem dX12_way_121 : decode cX12_way 121 = .ok (.iinc 4 1, 3) := by decide +kernel
theorem dX12_way_124 : decode cX12_way 124 = .ok (.goto (-81), 3) := by decide +kernel
theorem dX12_way_127 : decode cX12_way 127 = .ok (.iconst (-1), 1) := by decide +kernel
theorem dX12_way_128 : decode cX12_way 128 = .ok (.ireturn, 1) := by decide +kernel
theorem wX12_way : Mw yX12_way cX12_way 6 (some .int) 2 := ⟨q_1809, q_130, by decide, ⟨by decide +kernel, by decide +kernel⟩, by decide +kernel, by decide +kernel⟩
-- a loop of EyeTrainerModel.way at 43
-- a loop of EyeTrainerModel.way at 67
def bX12_way_67 (T : Sh) (M : Me) (x0 : Nat) (x2 : Int32) (x3 : Int32) (x4 : Int32) (x5 : Int32) : Option ((Int32) ⊕ (Int32)) :=
  Option.bind (fX12_stepTo x3 x5) fun r21 => if r21 = (-1 : Int32) then (lt (x5 + (1 : Int32)) fun v23 => some (.inl v23)) else (gd (kd T x0 = 11) <| Option.bind (gR M x0 35) fun a25 => Option.bind (fX12_stepTo x3 x5) fun r26 => gd (kd T a25 = 13) <| gv r26 (ln T a25) <| Option.bind (gR M x0 35) fun a29 => gd (kd T a29 = 13) <| gv x3 (ln T a29) <| if (gI M a25 (Int32.toNatClampNeg r26)) = ((gI M a29 (Int32.toNatClampNeg x3)) - (1 : Int32)) then (some (.inr x5)) else (lt (x5 + (1 : Int32)) fun v33 => some (.inl v33)))
def PX12_way_67 (X : Fx) (B : Bx) (Z : Nat × Nat × Nat × Nat) (Q : State → Prop) (T : Sh) (M : Me) (x0 : Nat) (x2 : Int32) (x3 : Int32) (x4 : Int32) (s : Int32) : Prop := G X B 6 Z Q 67 [(0, .ref (x0)), (2, .int (x2)), (3, .int (x3)), (4, .int (x4)), (5, .int (s))] [] T M
def EX12_way_67 (X : Fx) (B : Bx) (Z : Nat × Nat × Nat × Nat) (Q : State → Prop) (T : Sh) (M : Me) (x0 : Nat) (x2 : Int32) (x3 : Int32) (x4 : Int32) (r : Int32) : Prop := G X B 6 Z Q 105 [(0, .ref (x0)), (2, .int (x2)), (3, .int (x3)), (4, .int (x4)), (5, .int (r))] [] T M
set_option maxHeartbeats 4000000 in
theorem tbX12_way_67 {X : Fx} {B : Bx} {Z : Nat × Nat × Nat × Nat} {Q : State → Prop} {d : Nat} {T : Sh} {M : Me} (C : Cx X B cX12_way 6 RX12 d Z) (hd : 7 ≤ d) {x0 : Nat} {x2 : Int32} {x3 : Int32} {x4 : Int32} : ∀ (s : Int32) (o : (Int32) ⊕ (Int32)), bX12_way_67 T M x0 x2 x3 x4 s = some o → lpE (PX12_way_67 X B Z Q T M x0 x2 x3 x4) (EX12_way_67 X B Z Q T M x0 x2 x3 x4) o → PX12_way_67 X B Z Q T M x0 x2 x3 x4 s := by
  rintro x5 o h hE
  replace h : bX12_way_67 T M x0 x2 x3 x4 x5 = some o := h
  unfold bX12_way_67 at h
  show G X B 6 Z Q 67 [(0, .ref (x0)), (2, .int (x2)), (3, .int (x3)), (4, .int (x4)), (5, .int (x5))] [] T M
  refine g_iload_n (pc := 67) C dX12_way_67 rfl 2 rfl ?_
  refine g_iload (pc := 68) C dX12_way_68 4 rfl ?_
  replace h := bnd h; obtain ⟨r21, h1, h⟩ := h
  refine g_callSi (pc := 70) (As := [.int (x3), .int (x5)]) (st := []) C dX12_way_70 wX12_stepTo q_1804 q_1803 (by omega) rfl (Nat.le_of_ble_eq_true rfl) (kX12_stepTo (d := 0) (Nat.le_refl _) h1) ?_
  refine g_iconst (pc := 73) (v := (-1)) C dX12_way_73 (by decide) ?_
  refine g_icmp_eq (pc := 74) (tgt := 99) C dX12_way_74 (by decide) (fun c22 => ?_) (fun c22 => ?_)
  · replace h := ifp c22 h
    obtain ⟨v23, ev23⟩ : ∃ y : Int32, y = x5 + (1 : Int32) := ⟨_, rfl⟩
    replace h := lt_at ev23 h
    refine g_iinc (pc := 99) (v := v23) (k := 4) (lo2 := [(5, .int (v23)), (0, .ref (x0)), (2, .int (x2)), (3, .int (x3)), (4, .int (x4))]) C dX12_way_99 rfl (by rw [ev23]; rfl) (by decide) rfl ?_
    refine g_goto (pc := 102) (tgt := 67) C dX12_way_102 (by decide) ?_
    obtain rfl := Option.some.inj h
    exact g_sub [1, 2, 3, 4, 0] rfl (show G X B 6 Z Q 67 [(0, .ref (x0)), (2, .int (x2)), (3, .int (x3)), (4, .int (x4)), (5, .int (v23))] [] T M from hE)
  · replace h := ifn c22 h
    refine g_aload_n (pc := 77) C dX12_way_77 rfl 0 rfl ?_
    replace h := gd_some h; obtain ⟨hk24, h⟩ := h
    refine g_get (pc := 78) (v := va_rf (gR M x0 35)) C dX12_way_78 kX12 hk24 35 (by decide) q_1262 rfl ?_
    replace h := bnd h; obtain ⟨a25, ea25, h⟩ := h
    refine g_refq ea25 ?_
    refine g_iload_n (pc := 81) C dX12_way_81 rfl 2 rfl ?_
    refine g_iload (pc := 82) C dX12_way_82 4 rfl ?_
    replace h := bnd h; obtain ⟨r26, h1, h⟩ := h
    refine g_callSi (pc := 84) (As := [.int (x3), .int (x5)]) (st := [.ref (a25)]) C dX12_way_84 wX12_stepTo q_1804 q_1803 (by omega) rfl (Nat.le_of_ble_eq_true rfl) (kX12_stepTo (d := 0) (Nat.le_refl _) h1) ?_
    replace h := gd_some h; obtain ⟨hk27, h⟩ := h
    replace h := gv_some h; obtain ⟨hi28, h⟩ := h
    refine g_iald (pc := 87) C dX12_way_87 hk27 hi28 ?_
    refine g_aload_n (pc := 88) C dX12_way_88 rfl 0 rfl ?_
    refine g_get (pc := 89) (v := va_rf (gR M x0 35)) C dX12_way_89 kX12 hk24 35 (by decide) q_1262 rfl ?_
    replace h := bnd h; obtain ⟨a29, ea29, h⟩ := h
    refine g_refq ea29 ?_
    refine g_iload_n (pc := 92) C dX12_way_92 rfl 2 rfl ?_
    replace h := gd_some h; obtain ⟨hk30, h⟩ := h
    replace h := gv_some h; obtain ⟨hi31, h⟩ := h
    refine g_iald (pc := 93) C dX12_way_93 hk30 hi31 ?_
    refine g_iconst (pc := 94) (v := 1) C dX12_way_94 (by decide) ?_
    refine g_isub (pc := 95) C dX12_way_95 ?_
    refine g_icmp_eq (pc := 96) (tgt := 105) C dX12_way_96 (by decide) (fun c32 => ?_) (fun c32 => ?_)
    · replace h := ifp c32 h
      obtain rfl := Option.some.inj h
      exact g_sub [0, 1, 2, 3, 4] rfl (show G X B 6 Z Q 105 [(0, .ref (x0)), (2, .int (x2)), (3, .int (x3)), (4, .int (x4)), (5, .int (x5))] [] T M from hE)
    · replace h := ifn c32 h
      obtain ⟨v33, ev33⟩ : ∃ y : Int32, y = x5 + (1 : Int32) := ⟨_, rfl⟩
      replace h := lt_at ev33 h
      refine g_iinc (pc := 99) (v := v33) (k := 4) (lo2 := [(5, .int (v33)), (0, .ref (x0)), (2, .int (x2)), (3, .int (x3)), (4, .int (x4))]) C dX12_way_99 rfl (by rw [ev33]; rfl) (by decide) rfl ?_
      refine g_goto (pc := 102) (tgt := 67) C dX12_way_102 (by decide) ?_
      obtain rfl := Option.some.inj h
      exact g_sub [1, 2, 3, 4, 0] rfl (show G X B 6 Z Q 67 [(0, .ref (x0)), (2, .int (x2)), (3, .int (x3)), (4, .int (x4)), (5, .int (v33))] [] T M from hE)
def bX12_way_43 (T : Sh) (M : Me) (x0 : Nat) (x2 : Int32) (x3 : Int32) (x4 : Int32) : Option ((Int32 × Int32) ⊕ (Int32 ⊕ Unit)) :=
  gd (kd T x0 = 11) <| Option.bind (gR M x0 35) fun a13 => gd (kd T a13 = 13) <| gv x3 (ln T a13) <| if (gI M a13 (Int32.toNatClampNeg x3)) ≤ 0 then (some (.inr (.inr ()))) else (Option.bind (gR M x0 35) fun a17 => gd (kd T a17 = 13) <| gv x3 (ln T a17) <| if (268435456 : Int32) ≤ (gI M a17 (Int32.toNatClampNeg x3)) then (some (.inr (.inr ()))) else ((lp FU (fun s => bX12_way_67 T M x0 x2 x3 x4 s) (0 : Int32)).bind (fun x5_34 => if x4 = x2 then (some (.inr (.inl x5_34))) else (Option.bind (fX12_stepTo x3 x5_34) fun r36 => lt (x4 + (1 : Int32)) fun v37 => some (.inl (r36, v37))))))
def PX12_way_43 (X : Fx) (B : Bx) (Z : Nat × Nat × Nat × Nat) (Q : State → Prop) (T : Sh) (M : Me) (x0 : Nat) (x2 : Int32) (s : Int32 × Int32) : Prop := G X B 6 Z Q 43 [(0, .ref (x0)), (2, .int (x2)), (3, .int (s.1)), (4, .int (s.2))] [] T M
def EX12_way_43 (X : Fx) (B : Bx) (Z : Nat × Nat × Nat × Nat) (Q : State → Prop) (T : Sh) (M : Me) (x0 : Nat) (x2 : Int32) (r : Int32 ⊕ Unit) : Prop := Sum.elim (fun r => G X B 6 Z Q 111 [(5, .int (r))] [] T M) (fun r => G X B 6 Z Q 127 [] [] T M) r
set_option maxHeartbeats 4000000 in
theorem tbX12_way_43 {X : Fx} {B : Bx} {Z : Nat × Nat × Nat × Nat} {Q : State → Prop} {d : Nat} {T : Sh} {M : Me} (C : Cx X B cX12_way 6 RX12 d Z) (hd : 7 ≤ d) {x0 : Nat} {x2 : Int32} : ∀ (s : Int32 × Int32) (o : (Int32 × Int32) ⊕ (Int32 ⊕ Unit)), bX12_way_43 T M x0 x2 s.1 s.2 = some o → lpE (PX12_way_43 X B Z Q T M x0 x2) (EX12_way_43 X B Z Q T M x0 x2) o → PX12_way_43 X B Z Q T M x0 x2 s := by
  rintro ⟨x3, x4⟩ o h hE
  replace h : bX12_way_43 T M x0 x2 x3 x4 = some o := h
  unfold bX12_way_43 at h
  show G X B 6 Z Q 43 [(0, .ref (x0)), (2, .int (x2)), (3, .int (x3)), (4, .int (x4))] [] T M
  refine g_aload_n (pc := 43) C dX12_way_43 rfl 0 rfl ?_
  replace h := gd_some h; obtain ⟨hk12, h⟩ := h
  refine g_get (pc := 44) (v := va_rf (gR M x0 35)) C dX12_way_44 kX12 hk12 35 (by decide) q_1262 rfl ?_
  replace h := bnd h; obtain ⟨a13, ea13, h⟩ := h
  refine g_refq ea13 ?_
  refine g_iload_n (pc := 47) C dX12_way_47 rfl 2 rfl ?_
  replace h := gd_some h; obtain ⟨hk14, h⟩ := h
  replace h := gv_some h; obtain ⟨hi15, h⟩ := h
  refine g_iald (pc := 48) C dX12_way_48 hk14 hi15 ?_
  refine g_if_le (pc := 49) (tgt := 127) C dX12_way_49 (by decide) (fun c16 => ?_) (fun c16 => ?_)
  · replace h := ifp c16 h
    obtain rfl := Option.some.inj h
    exact g_sub [] rfl (show G X B 6 Z Q 127 [] [] T M from hE)
  · replace h := ifn c16 h
    refine g_aload_n (pc := 52) C dX12_way_52 rfl 0 rfl ?_
    refine g_get (pc := 53) (v := va_rf (gR M x0 35)) C dX12_way_53 kX12 hk12 35 (by decide) q_1262 rfl ?_
    replace h := bnd h; obtain ⟨a17, ea17, h⟩ := h
    refine g_refq ea17 ?_
    refine g_iload_n (pc := 56) C dX12_way_56 rfl 2 rfl ?_
    replace h := gd_some h; obtain ⟨hk18, h⟩ := h
    replace h := gv_some h; obtain ⟨hi19, h⟩ := h
    refine g_iald (pc := 57) C dX12_way_57 hk18 hi19 ?_
    refine g_ldcw (pc := 58) C dX12_way_58 q_1619 ?_
    refine g_icmp_ge (pc := 61) (tgt := 127) C dX12_way_61 (by decide) (fun c20 => ?_) (fun c20 => ?_)
    · replace h := ifp c20 h
      obtain rfl := Option.some.inj h
      exact g_sub [] rfl (show G X B 6 Z Q 127 [] [] T M from hE)
    · replace h := ifn c20 h
      refine g_iconst (pc := 64) (v := 0) C dX12_way_64 (by decide) ?_
      refine g_istore (pc := 65) (lo2 := [(5, .int ((0 : Int32))), (0, .ref (x0)), (2, .int (x2)), (3, .int (x3)), (4, .int (x4))]) C dX12_way_65 (by decide) rfl ?_
      replace h := bnd h; obtain ⟨x5_34, h1, h⟩ := h
      refine g_sub [1, 2, 3, 4, 0] rfl ?_
      refine lp_G2 (P := PX12_way_67 X B _ _ T M x0 x2 x3 x4) (E := EX12_way_67 X B _ _ T M x0 x2 x3 x4) (tbX12_way_67 C hd) h1 ?_
      show G X B 6 _ _ 105 [(0, .ref (x0)), (2, .int (x2)), (3, .int (x3)), (4, .int (x4)), (5, .int (x5_34))] [] T M
      refine g_iload (pc := 105) C dX12_way_105 3 rfl ?_
      refine g_iload_n (pc := 107) C dX12_way_107 rfl 1 rfl ?_
      refine g_icmp_ne (pc := 108) (tgt := 114) C dX12_way_108 (by decide) (fun c35 => ?_) (fun c35 => ?_)
      · replace h := ifn c35 h
        refine g_iload_n (pc := 114) C dX12_way_114 rfl 2 rfl ?_
        refine g_iload (pc := 115) C dX12_way_115 4 rfl ?_
        replace h := bnd h; obtain ⟨r36, h1, h⟩ := h
        refine g_callSi (pc := 117) (As := [.int (x3), .int (x5_34)]) (st := []) C dX12_way_117 wX12_stepTo q_1804 q_1803 (by omega) rfl (Nat.le_of_ble_eq_true rfl) (kX12_stepTo (d := 0) (Nat.le_refl _) h1) ?_
        refine g_istore_n (pc := 120) (lo2 := [(3, .int (r36)), (0, .ref (x0)), (2, .int (x2)), (4, .int (x4)), (5, .int (x5_34))]) C dX12_way_120 rfl (by decide) rfl ?_
        obtain ⟨v37, ev37⟩ : ∃ y : Int32, y = x4 + (1 : Int32) := ⟨_, rfl⟩
        replace h := lt_at ev37 h
        refine g_iinc (pc := 121) (v := v37) (k := 3) (lo2 := [(4, .int (v37)), (3, .int (r36)), (0, .ref (x0)), (2, .int (x2)), (5, .int (x5_34))]) C dX12_way_121 rfl (by rw [ev37]; rfl) (by decide) rfl ?_
        refine g_goto (pc := 124) (tgt := 43) C dX12_way_124 (by decide) ?_
        obtain rfl := Option.some.inj h
        exact g_sub [2, 3, 1, 0] rfl (show G X B 6 Z Q 43 [(0, .ref (x0)), (2, .int (x2)), (3, .int (r36)), (4, .int (v37))] [] T M from hE)
      · replace h := ifp c35 h
        obtain rfl := Option.some.inj h
        exact g_sub [4] rfl (show G X B 6 Z Q 111 [(5, .int (x5_34))] [] T M from hE)
/-- EyeTrainerModel.way(II)I -/
def fX12_way (T : Sh) (M : Me) (x0 : Nat) (x1 : Int32) (x2 : Int32) : Option (Int32 × Me) :=
  gd (kd T x0 = 11) <| lt (pI M x0 0 (0 : Int32)) fun M2 => Option.bind (fX12_isLane T M2 x0 (Int32.toInt64 x1)) fun r3 => if r3 = 0 then (some ((-2 : Int32), M2)) else (if 0 ≤ x2 then (Option.bind (fX12_laysFar T M2 x0 x1) <| un2 fun r6 M7 => Option.bind (gR M7 x0 1) fun a8 => gd (kd T a8 = 13) <| gv ((42 : Int32) + x1) (ln T a8) <| lt (gI M7 a8 (Int32.toNatClampNeg ((42 : Int32) + x1))) fun v11 => (lp FU (fun s => bX12_way_43 T M7 x0 x2 s.1 s.2) (v11, (0 : Int32))).bind (Sum.elim (fun x5_38 => some (x5_38, M7)) (fun _ => some ((-1 : Int32), M7)))) else (some ((-3 : Int32), M2)))
set_option maxHeartbeats 4000000 in
theorem kX12_way {l : Launch} {B : Bx} {d : Nat} (hd : 7 ≤ d) {T : Sh} {M : Me} {x0 : Nat} {x1 : Int32} {x2 : Int32} {r : Int32} {M' : Me} (h : fX12_way T M x0 x1 x2 = some (r, M')) : Kt l B yX12_way cX12_way 6 (some .int) d [.ref (x0), .int (x1), .int (x2)] T M (some (.int r)) T M' := by
  refine kt_of wX12_way (Nat.le_refl _) (Nat.le_refl _) (Nat.le_of_ble_eq_true rfl) (fun X C hR hlx hin => ?_)
  subst hlx
  replace C : Cx X B cX12_way 6 RX12 d (tp T, sl T, tp T, sl T) := C
  unfold fX12_way at h
  show G X B 6 _ _ 0 [(0, .ref (x0)), (1, .int (x1)), (2, .int (x2))] [] T M
  refine g_aload_n (pc := 0) C dX12_way_0 rfl 0 rfl ?_
  refine g_iconst (pc := 1) (v := 0) C dX12_way_1 (by decide) ?_
  replace h := gd_some h; obtain ⟨hk1, h⟩ := h
  refine g_putI (pc := 2) C dX12_way_2 kX12 hk1 0 (by decide) rfl rfl rfl q_1227 ?_
  refine g_mem (fun M2 eM2 => ?_)
  replace h := lt_at eM2 h
  refine g_aload_n (pc := 5) C dX12_way_5 rfl 0 rfl ?_
  refine g_iload_n (pc := 6) C dX12_way_6 rfl 1 rfl ?_
  refine g_i2l (pc := 7) C dX12_way_7 ?_
  replace h := bnd h; obtain ⟨r3, h1, h⟩ := h
  refine g_callVi (pc := 8) (As := [.long (Int32.toInt64 x1)]) (st := []) C dX12_way_8 wX12_isLane hk1 rfl (by decide) q_1481 q_75 q_1479 (by omega) rfl (Nat.le_of_ble_eq_true rfl) (kX12_isLane (d := 1) (Nat.le_refl _) h1) ?_
  refine g_if_ne (pc := 11) (tgt := 17) C dX12_way_11 (by decide) (fun c4 => ?_) (fun c4 => ?_)
  · replace h := ifn c4 h
    refine g_iload_n (pc := 17) C dX12_way_17 rfl 2 rfl ?_
    refine g_if_ge (pc := 18) (tgt := 24) C dX12_way_18 (by decide) (fun c5 => ?_) (fun c5 => ?_)
    · replace h := ifp c5 h
      refine g_aload_n (pc := 24) C dX12_way_24 rfl 0 rfl ?_
      refine g_iload_n (pc := 25) C dX12_way_25 rfl 1 rfl ?_
      replace h := bnd2 h; obtain ⟨r6, M7, h1, h⟩ := h
      refine g_callVi (pc := 26) (As := [.int (x1)]) (st := []) C dX12_way_26 wX12_laysFar hk1 rfl (by decide) q_1801 q_115 q_1799 (by omega) rfl (Nat.le_of_ble_eq_true rfl) (kX12_laysFar (d := 6) (Nat.le_refl _) h1) ?_
      refine g_pop (pc := 29) C dX12_way_29 rfl ?_
      refine g_aload_n (pc := 30) C dX12_way_30 rfl 0 rfl ?_
      refine g_get (pc := 31) (v := va_rf (gR M7 x0 1)) C dX12_way_31 kX12 hk1 1 (by decide) q_1228 rfl ?_
      replace h := bnd h; obtain ⟨a8, ea8, h⟩ := h
      refine g_refq ea8 ?_
      refine g_bipush (pc := 34) (v := 42) C dX12_way_34 (by decide) ?_
      refine g_iload_n (pc := 36) C dX12_way_36 rfl 1 rfl ?_
      refine g_iadd (pc := 37) C dX12_way_37 ?_
      replace h := gd_some h; obtain ⟨hk9, h⟩ := h
      replace h := gv_some h; obtain ⟨hi10, h⟩ := h
      refine g_iald (pc := 38) C dX12_way_38 hk9 hi10 ?_
      refine g_topi (fun v11 ev11 => ?_)
      replace h := lt_at ev11 h
      refine g_istore_n (pc := 39) (lo2 := [(3, .int (v11)), (0, .ref (x0)), (1, .int (x1)), (2, .int (x2))]) C dX12_way_39 rfl (by decide) rfl ?_
      refine g_iconst (pc := 40) (v := 0) C dX12_way_40 (by decide) ?_
      refine g_istore (pc := 41) (lo2 := [(4, .int ((0 : Int32))), (3, .int (v11)), (0, .ref (x0)), (1, .int (x1)), (2, .int (x2))]) C dX12_way_41 (by decide) rfl ?_
      replace h := bndE h; rcases h with ⟨x5_38, h1, h⟩ | ⟨a1, h1, h⟩
      · refine g_sub [2, 4, 1, 0] rfl ?_
        refine lp_G2 (P := PX12_way_43 X B _ _ T M7 x0 x2) (E := EX12_way_43 X B _ _ T M7 x0 x2) (tbX12_way_43 C hd) h1 ?_
        show G X B 6 _ _ 111 [(5, .int (x5_38))] [] T M7
        refine g_iload (pc := 111) C dX12_way_111 0 rfl ?_
        obtain ⟨rfl, rfl⟩ := Prod.mk.inj (Option.some.inj h)
        exact g_iret C hR dX12_way_113
      · refine g_sub [2, 4, 1, 0] rfl ?_
        refine lp_G2 (P := PX12_way_43 X B _ _ T M7 x0 x2) (E := EX12_way_43 X B _ _ T M7 x0 x2) (tbX12_way_43 C hd) h1 ?_
        show G X B 6 _ _ 127 [] [] T M7
        refine g_iconst (pc := 127) (v := (-1)) C dX12_way_127 (by decide) ?_
        obtain ⟨rfl, rfl⟩ := Prod.mk.inj (Option.some.inj h)
        exact g_iret C hR dX12_way_128
    · replace h := ifn c5 h
      refine g_bipush (pc := 21) (v := (-3)) C dX12_way_21 (by decide) ?_
      obtain ⟨rfl, rfl⟩ := Prod.mk.inj (Option.some.inj h)
      exact g_iret C hR dX12_way_23
  · replace h := ifp c4 h
    refine g_bipush (pc := 14) (v := (-2)) C dX12_way_14 (by decide) ?_
    obtain ⟨rfl, rfl⟩ := Prod.mk.inj (Option.some.inj h)
    exact g_iret C hR dX12_way_16
theorem dX12_ways_0 : decode cX12_ways 0 = .ok (.aload_n 0, 1) := by decide +kernel
theorem dX12_ways_1 : decode cX12_ways 1 = .ok (.iconst 0, 1) := by decide +kernel
theorem dX12_ways_2 : decode cX12_ways 2 = .ok (.putfield 1, 3) := by decide +kernel
theorem dX12_ways_5 : decode cX12_ways 5 = .ok (.aload_n 0, 1) := by decide +kernel
theorem dX12_ways_6 : decode cX12_ways 6 = .ok (.iload_n 1, 1) := by decide +kernel
theorem dX12_ways_7 : decode cX12_ways 7 = .ok (.i2l, 1) := by decide +kernel
theorem dX12_ways_8 : decode cX12_ways 8 = .ok (.invokevirtual 247, 3) := by decide +kernel
theorem dX12_ways_11 : decode cX12_ways 11 = .ok (.ifCond .ne 7, 3) := by decide +kernel
theorem dX12_ways_14 : decode cX12_ways 14 = .ok (.ldc2_w 438, 3) := by decide +kernel
theorem dX12_ways_17 : decode cX12_ways 17 = .ok (.lreturn, 1) := by decide +kernel
theorem dX12_ways_18 : decode cX12_ways 18 = .ok (.iload_n 2, 1) := by decide +kernel
theorem dX12_ways_19 : decode cX12_ways 19 = .ok (.i2l, 1) := by decide +kernel
theorem dX12_ways_20 : decode cX12_ways 20 = .ok (.lconst 0, 1) := by decide +kernel
theorem dX12_ways_21 : decode cX12_ways 21 = .ok (.ldc2_w 440, 3) := by decide +kernel
theorem dX12_ways_24 : decode cX12_ways 24 = .ok (.invokestatic 139, 3) := by decide +kernel
theorem dX12_ways_27 : decode cX12_ways 27 = .ok (.ifCond .ne 7, 3) := by decide +kernel
theorem dX12_ways_30 : decode cX12_ways 30 = .ok (.ldc2_w 442, 3) := by decide +kernel
theorem dX12_ways_33 : decode cX12_ways 33 = .ok (.lreturn, 1) := by decide +kernel
theorem dX12_ways_34 : decode cX12_ways 34 = .ok (.aload_n 0, 1) := by decide +kernel
theorem dX12_ways_35 : decode cX12_ways 35 = .ok (.iload_n 1, 1) := by decide +kernel
theorem dX12_ways_36 : decode cX12_ways 36 = .ok (.invokevirtual 410, 3) := by decide +kernel
theorem dX12_ways_39 : decode cX12_ways 39 = .ok (.iconst 0, 1) := by decide +kernel
theorem dX12_ways_40 : decode cX12_ways 40 = .ok (.istore_n 3, 1) := by decide +kernel
theorem dX12_ways_41 : decode cX12_ways 41 = .ok (.iload_n 3, 1) := by decide +kernel
theorem dX12_ways_42 : decode cX12_ways 42 = .ok (.sipush 384, 3) := by decide +kernel
theorem dX12_ways_45 : decode cX12_ways 45 = .ok (.if_icmp .ge 33, 3) := by decide +kernel
theorem dX12_ways_48 : decode cX12_ways 48 = .ok (.aload_n 0, 1) := by decide +kernel
theorem dX12_ways_49 : decode cX12_ways 49 = .ok (.getfield 51, 3) := by decide +kernel
theorem dX12_ways_52 : decode cX12_ways 52 = .ok (.iload_n 3, 1) := by decide +kernel
theorem dX12_ways_53 : decode cX12_ways 53 = .ok (.iload_n 3, 1) := by decide +kernel
theorem dX12_ways_54 : decode cX12_ways 54 = .ok (.aload_n 0, 1) := by decide +kernel
theorem dX12_ways_55 : decode cX12_ways 55 = .ok (.getfield 13, 3) := by decide +kernel
theorem dX12_ways_58 : decode cX12_ways 58 = .ok (.bipush 42, 2) := by decide +kernel
theorem dX12_ways_60 : decode cX12_ways 60 = .ok (.iload_n 1, 1) := by decide +kernel
theorem dX12_ways_61 : decode cX12_ways 61 = .ok (.iadd, 1) := by decide +kernel
theorem dX12_ways_62 : decode cX12_ways 62 = .ok (.iaload, 1) := by decide +kernel
theorem dX12_ways_63 : decode cX12_ways 63 = .ok (.if_icmp .ne 7, 3) := by decide +kernel
theorem dX12_ways_66 : decode cX12_ways 66 = .ok (.lconst 1, 1) := by decide +kernel
theorem dX12_ways_67 : decode cX12_ways 67 = .ok (.goto 4, 3) := by decide +kernel
theorem dX12_ways_70 : decode cX12_ways 70 = .ok (.lconst 0, 1) := by decide +kernel
theorem dX12_ways_71 : decode cX12_ways 71 = .ok (.lastore, 1) := by decide +kernel
theorem dX12_ways_72 : decode cX12_ways 72 = .ok (.iinc 3 1, 3) := by decide +kernel
theorem dX12_ways_75 : decode cX12_ways 75 = .ok (.goto (-34), 3) := by decide +kernel
theorem dX12_ways_78 : decode cX12_ways 78 = .ok (.iconst 0, 1) := by decide +kernel
theorem dX12_ways_79 : decode cX12_ways 79 = .ok (.istore_n 3, 1) := by decide +kernel
theorem dX12_ways_80 : decode cX12_ways 80 = .ok (.iload_n 3, 1) := by decide +kernel
theorem dX12_ways_81 : decode cX12_ways 81 = .ok (.iload_n 2, 1) := by decide +kernel
theorem dX12_ways_82 : decode cX12_ways 82 = .ok (.if_icmp .ge 130, 3) := by decide +kernel
theorem dX12_ways_85 : decode cX12_ways 85 = .ok (.iconst 0, 1) := by decide +kernel
theorem dX12_ways_86 : decode cX12_ways 86 = .ok (.istore 4, 2) := by decide +kernel
theorem dX12_ways_88 : decode cX12_ways 88 = .ok (.iload 4, 2) := by decide +kernel
theorem dX12_ways_90 : decode cX12_ways 90 = .ok (.sipush 384, 3) := by decide +kernel
theorem dX12_ways_93 : decode cX12_ways 93 = .ok (.if_icmp .ge 17, 3) := by decide +kernel
theorem dX12_ways_96 : decode cX12_ways 96 = .ok (.aload_n 0, 1) := by decide +kernel
theorem dX12_ways_97 : decode cX12_ways 97 = .ok (.getfield 55, 3) := by decide +kernel
theorem dX12_ways_100 : decode cX12_ways 100 = .ok (.iload 4, 2) := by decide +kernel
theorem dX12_ways_102 : decode cX12_ways 102 = .ok (.lconst 0, 1) := by decide +kernel
theorem dX12_ways_103 : decode cX12_ways 103 = .ok (.lastore, 1) := by decide +kernel
theorem dX12_ways_104 : decode cX12_ways 104 = .ok (.iinc 4 1, 3) := by decide +kernel
theorem dX12_ways_107 : decode cX12_ways 107 = .ok (.goto (-19), 3) := by decide +kernel
theorem dX12_ways_110 : decode cX12_ways 110 = .ok (.iconst 0, 1) := by decide +kernel
theorem dX12_ways_111 : decode cX12_ways 111 = .ok (.istore 4, 2) := by decide +kernel
theorem dX12_ways_113 : decode cX12_ways 113 = .ok (.iload 4, 2) := by decide +kernel
theorem dX12_ways_115 : decode cX12_ways 115 = .ok (.sipush 384, 3) := by decide +kernel
theorem dX12_ways_118 : decode cX12_ways 118 = .ok (.if_icmp .ge 57, 3) := by decide +kernel
theorem dX12_ways_121 : decode cX12_ways 121 = .ok (.iconst 0, 1) := by decide +kernel
theorem dX12_ways_122 : decode cX12_ways 122 = .ok (.istore 5, 2) := by decide +kernel
theorem dX12_ways_124 : decode cX12_ways 124 = .ok (.iload 5, 2) := by decide +kernel
theorem dX12_ways_126 : decode cX12_ways 126 = .ok (.iconst 4, 1) := by decide +kernel
theorem dX12_ways_127 : decode cX12_ways 127 = .ok (.if_icmp .ge 42, 3) := by decide +kernel
theorem dX12_ways_130 : decode cX12_ways 130 = .ok (.iload 4, 2) := by decide +kernel
theorem dX12_ways_132 : decode cX12_ways 132 = .ok (.iload 5, 2) := by decide +kernel
theorem dX12_ways_134 : decode cX12_ways 134 = .ok (.invokestatic 432, 3) := by decide +kernel
theorem dX12_ways_137 : decode cX12_ways 137 = .ok (.iconst (-1), 1) := by decide +kernel
theorem dX12_ways_138 : decode cX12_ways 138 = .ok (.if_icmp .eq 25, 3) := by decide +kernel
theorem dX12_ways_141 : decode cX12_ways 141 = .ok (.aload_n 0, 1) := by decide +kernel
theorem dX12_ways_142 : decode cX12_ways 142 = .ok (.getfield 55, 3) := by decide +kernel
theorem dX12_ways_145 : decode cX12_ways 145 = .ok (.iload 4, 2) := by decide +kernel
theorem dX12_ways_147 : decode cX12_ways 147 = .ok (.iload 5, 2) := by decide +kernel
theorem dX12_ways_149 : decode cX12_ways 149 = .ok (.invokestatic 432, 3) := by decide +kernel
theorem dX12_ways_152 : decode cX12_ways 152 = .ok (.dup2, 1) := by decide +kernel
theorem dX12_ways_153 : decode cX12_ways 153 = .ok (.laload, 1) := by decide +kernel
theorem dX12_ways_154 : decode cX12_ways 154 = .ok (.aload_n 0, 1) := by decide +kernel
theorem dX12_ways_155 : decode cX12_ways 155 = .ok (.getfield 51, 3) := by decide +kernel
theorem dX12_ways_158 : decode cX12_ways 158 = .ok (.iload 4, 2) := by decide +kernel
theorem dX12_ways_160 : decode cX12_ways 160 = .ok (.laload, 1) := by decide +kernel
theorem dX12_ways_161 : decode cX12_ways 161 = .ok (.ladd, 1) := by decide +kernel
theorem dX12_ways_162 : decode cX12_ways 162 = .ok (.lastore, 1) := by decide +kernel
theorem dX12_ways_163 : decode cX12_ways 163 = .ok (.iinc 5 1, 3) := by decide +kernel
theorem dX12_ways_166 : decode cX12_ways 166 = .ok (.goto (-42), 3) := by decide +kernel
theorem dX12_ways_169 : decode cX12_ways 169 = .ok (.iinc 4 1, 3) := by decide +kernel
theorem dX12_ways_172 : decode cX12_ways 172 = .ok (.goto (-59), 3) := by decide +kernel
theorem dX12_ways_175 : decode cX12_ways 175 = .ok (.iconst 0, 1) := by decide +kernel
theorem dX12_ways_176 : decode cX12_ways 176 = .ok (.istore 4, 2) := by decide +kernel
theorem dX12_ways_178 : decode cX12_ways 178 = .ok (.iload 4, 2) := by decide +kernel
theorem dX12_ways_180 : decode cX12_ways 180 = .ok (.sipush 384, 3) := by decide +kernel
theorem dX12_ways_183 : decode cX12_ways 183 = .ok (.if_icmp .ge 23, 3) := by decide +kernel
theorem dX12_ways_186 : decode cX12_ways 186 = .ok (.aload_n 0, 1) := by decide +kernel
theorem dX12_ways_187 : decode cX12_ways 187 = .ok (.getfield 51, 3) := by decide +kernel
theorem dX12_ways_190 : decode cX12_ways 190 = .ok (.iload 4, 2) := by decide +kernel
theorem dX12_ways_192 : decode cX12_ways 192 = .ok (.aload_n 0, 1) := by decide +kernel
theorem dX12_ways_193 : decode cX12_ways 193 = .ok (.getfield 55, 3) := by decide +kernel
theorem dX12_ways_196 : decode cX12_ways 196 = .ok (.iload 4, 2) := by decide +kernel
theorem dX12_ways_198 : decode cX12_ways 198 = .ok (.laload, 1) := by decide +kernel
theorem dX12_ways_199 : decode cX12_ways 199 = .ok (.lastore, 1) := by decide +kernel
theorem dX12_ways_200 : decode cX12_ways 200 = .ok (.iinc 4 1, 3) := by decide +kernel
theorem dX12_ways_203 : decode cX12_ways 203 = .ok (.goto (-25), 3) := by decide +kernel
theorem dX12_ways_206 : decode cX12_ways 206 = .ok (.iinc 3 1, 3) := by decide +kernel
theorem dX12_ways_209 : decode cX12_ways 209 = .ok (.goto (-129), 3) := by decide +kernel
theorem dX12_ways_212 : decode cX12_ways 212 = .ok (.lconst 0, 1) := by decide +kernel
theorem dX12_ways_213 : decode cX12_ways 213 = .ok (.lstore_n 3, 1) := by decide +kernel
theorem dX12_ways_214 : decode cX12_ways 214 = .ok (.iconst 0, 1) := by decide +kernel
theorem dX12_ways_215 : decode cX12_ways 215 = .ok (.istore 5, 2) := by decide +kernel
theorem dX12_ways_217 : decode cX12_ways 217 = .ok (.iload 5, 2) := by decide +kernel
theorem dX12_ways_219 : decode cX12_ways 219 = .ok (.sipush 384, 3) := by decide +kernel
theorem dX12_ways_222 : decode cX12_ways 222 = .ok (.if_icmp .ge 40, 3) := by decide +kernel
theorem dX12_ways_225 : decode cX12_ways 225 = .ok (.lload_n 3, 1) := by decide +kernel
theorem dX12_ways_226 : decode cX12_ways 226 = .ok (.aload_n 0, 1) := by decide +kernel
theorem dX12_ways_227 : decode cX12_ways 227 = .ok (.iload 5, 2) := by decide +kernel
theorem dX12_ways_229 : decode cX12_ways 229 = .ok (.bipush 24, 2) := by decide +kernel
theorem dX12_ways_231 : decode cX12_ways 231 = .ok (.irem, 1) := by decide +kernel
theorem dX12_ways_232 : decode cX12_ways 232 = .ok (.iload 5, 2) := by decide +kernel
theorem dX12_ways_234 : decode cX12_ways 234 = .ok (.bipush 24, 2) := by decide +kernel
theorem dX12_ways_236 : decode cX12_ways 236 = .ok (.idiv, 1) := by decide +kernel
theorem dX12_ways_237 : decode cX12_ways 237 = .ok (.invokevirtual 295, 3) := by decide +kernel
theorem dX12_ways_240 : decode cX12_ways 240 = .ok (.ifCond .eq 13, 3) := by decide +kernel
theorem dX12_ways_243 : decode cX12_ways 243 = .ok (.aload_n 0, 1) := by decide +kernel
theorem dX12_ways_244 : decode cX12_ways 244 = .ok (.getfield 51, 3) := by decide +kernel
theorem dX12_ways_247 : decode cX12_ways 247 = .ok (.iload 5, 2) := by decide +kernel
theorem dX12_ways_249 : decode cX12_ways 249 = .ok (.laload, 1) := by decide +kernel
theorem dX12_ways_250 : decode cX12_ways 250 = .ok (.goto 4, 3) := by decide +kernel
theorem dX12_ways_253 : decode cX12_ways 253 = .ok (.lconst 0, 1) := by decide +kernel
theorem dX12_ways_254 : decode cX12_ways 254 = .ok (.ladd, 1) := by decide +kernel
theorem dX12_ways_255 : decode cX12_ways 255 = .ok (.lstore_n 3, 1) := by decide +kernel
theorem dX12_ways_256 : decode cX12_ways 256 = .ok (.iinc 5 1, 3) := by decide +kernel
theorem dX12_ways_259 : decode cX12_ways 259 = .ok (.goto (-42), 3) := by decide +kernel
theorem dX12_ways_262 : decode cX12_ways 262 = .ok (.lload_n 3, 1) := by decide +kernel
theorem dX12_ways_263 : decode cX12_ways 263 = .ok (.lreturn, 1) := by decide +kernel
theorem wX12_ways : Mw yX12_ways cX12_ways 6 (some .long) 2 := ⟨q_1813, q_130, by decide, ⟨by decide +kernel, by decide +kernel⟩, by decide +kernel, by decide +kernel⟩
-- a loop of EyeTrainerModel.ways at 41
def bX12_ways_41 (T : Sh) (x0 : Nat) (x1 : Int32) (x2 : Int32) (x3 : Int32) (M : Me) : Option ((Int32 × Me) ⊕ (Me)) :=
  if (384 : Int32) ≤ x3 then (some (.inr M)) else (gd (kd T x0 = 11) <| Option.bind (gR M x0 36) fun a10 => Option.bind (gR M x0 1) fun a11 => gd (kd T a11 = 13) <| gv ((42 : Int32) + x1) (ln T a11) <| if x3 = (gI M a11 (Int32.toNatClampNeg ((42 : Int32) + x1))) then (gd (kd T a10 = 14) <| gv x3 (ln T a10) <| lt (pJ M a10 (Int32.toNatClampNeg x3) (1 : Int64)) fun M21 => lt (x3 + (1 : Int32)) fun v22 => some (.inl (v22, M21))) else (gd (kd T a10 = 14) <| gv x3 (ln T a10) <| lt (pJ M a10 (Int32.toNatClampNeg x3) (0 : Int64)) fun M17 => lt (x3 + (1 : Int32)) fun v18 => some (.inl (v18, M17))))
def PX12_ways_41 (X : Fx) (B : Bx) (Z : Nat × Nat × Nat × Nat) (Q : State → Prop) (T : Sh) (x0 : Nat) (x1 : Int32) (x2 : Int32) (s : Int32 × Me) : Prop := G X B 6 Z Q 41 [(0, .ref (x0)), (1, .int (x1)), (2, .int (x2)), (3, .int (s.1))] [] T s.2
def EX12_ways_41 (X : Fx) (B : Bx) (Z : Nat × Nat × Nat × Nat) (Q : State → Prop) (T : Sh) (x0 : Nat) (x1 : Int32) (x2 : Int32) (r : Me) : Prop := G X B 6 Z Q 78 [(0, .ref (x0)), (2, .int (x2))] [] T r
set_option maxHeartbeats 4000000 in
theorem tbX12_ways_41 {X : Fx} {B : Bx} {Z : Nat × Nat × Nat × Nat} {Q : State → Prop} {d : Nat} {T : Sh} (C : Cx X B cX12_ways 6 RX12 d Z) (hd : 6 ≤ d) {x0 : Nat} {x1 : Int32} {x2 : Int32} : ∀ (s : Int32 × Me) (o : (Int32 × Me) ⊕ (Me)), bX12_ways_41 T x0 x1 x2 s.1 s.2 = some o → lpE (PX12_ways_41 X B Z Q T x0 x1 x2) (EX12_ways_41 X B Z Q T x0 x1 x2) o → PX12_ways_41 X B Z Q T x0 x1 x2 s := by
  rintro ⟨x3, M⟩ o h hE
  replace h : bX12_ways_41 T x0 x1 x2 x3 M = some o := h
  unfold bX12_ways_41 at h
  show G X B 6 Z Q 41 [(0, .ref (x0)), (1, .int (x1)), (2, .int (x2)), (3, .int (x3))] [] T M
  refine g_iload_n (pc := 41) C dX12_ways_41 rfl 3 rfl ?_
  refine g_sipush (pc := 42) (v := 384) C dX12_ways_42 (by decide) ?_
  refine g_icmp_ge (pc := 45) (tgt := 78) C dX12_ways_45 (by decide) (fun c8 => ?_) (fun c8 => ?_)
  · replace h := ifp c8 h
    obtain rfl := Option.some.inj h
    exact g_sub [0, 2] rfl (show G X B 6 Z Q 78 [(0, .ref (x0)), (2, .int (x2))] [] T M from hE)
  · replace h := ifn c8 h
    refine g_aload_n (pc := 48) C dX12_ways_48 rfl 0 rfl ?_
    replace h := gd_some h; obtain ⟨hk9, h⟩ := h
    refine g_get (pc := 49) (v := va_rf (gR M x0 36)) C dX12_ways_49 kX12 hk9 36 (by decide) q_1263 rfl ?_
    replace h := bnd h; obtain ⟨a10, ea10, h⟩ := h
    refine g_refq ea10 ?_
    refine g_iload_n (pc := 52) C dX12_ways_52 rfl 3 rfl ?_
    refine g_iload_n (pc := 53) C dX12_ways_53 rfl 3 rfl ?_
    refine g_aload_n (pc := 54) C dX12_ways_54 rfl 0 rfl ?_
    refine g_get (pc := 55) (v := va_rf (gR M x0 1)) C dX12_ways_55 kX12 hk9 1 (by decide) q_1228 rfl ?_
    replace h := bnd h; obtain ⟨a11, ea11, h⟩ := h
    refine g_refq ea11 ?_
    refine g_bipush (pc := 58) (v := 42) C dX12_ways_58 (by decide) ?_
    refine g_iload_n (pc := 60) C dX12_ways_60 rfl 1 rfl ?_
    refine g_iadd (pc := 61) C dX12_ways_61 ?_
    replace h := gd_some h; obtain ⟨hk12, h⟩ := h
    replace h := gv_some h; obtain ⟨hi13, h⟩ := h
    refine g_iald (pc := 62) C dX12_ways_62 hk12 hi13 ?_
    refine g_icmp_ne (pc := 63) (tgt := 70) C dX12_ways_63 (by decide) (fun c14 => ?_) (fun c14 => ?_)
    · replace h := ifn c14 h
      refine g_lconst (pc := 70) (v := 0) C dX12_ways_70 rfl ?_
      replace h := gd_some h; obtain ⟨hk15, h⟩ := h
      replace h := gv_some h; obtain ⟨hi16, h⟩ := h
      refine g_last (pc := 71) C dX12_ways_71 hk15 hi16 ?_
      refine g_mem (fun M17 eM17 => ?_)
      replace h := lt_at eM17 h
      obtain ⟨v18, ev18⟩ : ∃ y : Int32, y = x3 + (1 : Int32) := ⟨_, rfl⟩
      replace h := lt_at ev18 h
      refine g_iinc (pc := 72) (v := v18) (k := 3) (lo2 := [(3, .int (v18)), (0, .ref (x0)), (1, .int (x1)), (2, .int (x2))]) C dX12_ways_72 rfl (by rw [ev18]; rfl) (by decide) rfl ?_
      refine g_goto (pc := 75) (tgt := 41) C dX12_ways_75 (by decide) ?_
      obtain rfl := Option.some.inj h
      exact g_sub [1, 2, 3, 0] rfl (show G X B 6 Z Q 41 [(0, .ref (x0)), (1, .int (x1)), (2, .int (x2)), (3, .int (v18))] [] T M17 from hE)
    · replace h := ifp c14 h
      refine g_lconst (pc := 66) (v := 1) C dX12_ways_66 rfl ?_
      refine g_goto (pc := 67) (tgt := 71) C dX12_ways_67 (by decide) ?_
      replace h := gd_some h; obtain ⟨hk19, h⟩ := h
      replace h := gv_some h; obtain ⟨hi20, h⟩ := h
      refine g_last (pc := 71) C dX12_ways_71 hk19 hi20 ?_
      refine g_mem (fun M21 eM21 => ?_)
      replace h := lt_at eM21 h
      obtain ⟨v22, ev22⟩ : ∃ y : Int32, y = x3 + (1 : Int32) := ⟨_, rfl⟩
      replace h := lt_at ev22 h
      refine g_iinc (pc := 72) (v := v22) (k := 3) (lo2 := [(3, .int (v22)), (0, .ref (x0)), (1, .int (x1)), (2, .int (x2))]) C dX12_ways_72 rfl (by rw [ev22]; rfl) (by decide) rfl ?_
      refine g_goto (pc := 75) (tgt := 41) C dX12_ways_75 (by decide) ?_
      obtain rfl := Option.some.inj h
      exact g_sub [1, 2, 3, 0] rfl (show G X B 6 Z Q 41 [(0, .ref (x0)), (1, .int (x1)), (2, .int (x2)), (3, .int (v22))] [] T M21 from hE)
-- a loop of EyeTrainerModel.ways at 80
-- a loop of EyeTrainerModel.ways at 88
def bX12_ways_88 (T : Sh) (x0 : Nat) (x2 : Int32) (x3 : Int32) (x4 : Int32) (M : Me) : Option ((Int32 × Me) ⊕ (Me)) :=
  if (384 : Int32) ≤ x4 then (some (.inr M)) else (gd (kd T x0 = 11) <| Option.bind (gR M x0 37) fun a27 => gd (kd T a27 = 14) <| gv x4 (ln T a27) <| lt (pJ M a27 (Int32.toNatClampNeg x4) (0 : Int64)) fun M30 => lt (x4 + (1 : Int32)) fun v31 => some (.inl (v31, M30)))
def PX12_ways_88 (X : Fx) (B : Bx) (Z : Nat × Nat × Nat × Nat) (Q : State → Prop) (T : Sh) (x0 : Nat) (x2 : Int32) (x3 : Int32) (s : Int32 × Me) : Prop := G X B 6 Z Q 88 [(0, .ref (x0)), (2, .int (x2)), (3, .int (x3)), (4, .int (s.1))] [] T s.2
def EX12_ways_88 (X : Fx) (B : Bx) (Z : Nat × Nat × Nat × Nat) (Q : State → Prop) (T : Sh) (x0 : Nat) (x2 : Int32) (x3 : Int32) (r : Me) : Prop := G X B 6 Z Q 110 [(0, .ref (x0)), (2, .int (x2)), (3, .int (x3))] [] T r
set_option maxHeartbeats 4000000 in
theorem tbX12_ways_88 {X : Fx} {B : Bx} {Z : Nat × Nat × Nat × Nat} {Q : State → Prop} {d : Nat} {T : Sh} (C : Cx X B cX12_ways 6 RX12 d Z) (hd : 6 ≤ d) {x0 : Nat} {x2 : Int32} {x3 : Int32} : ∀ (s : Int32 × Me) (o : (Int32 × Me) ⊕ (Me)), bX12_ways_88 T x0 x2 x3 s.1 s.2 = some o → lpE (PX12_ways_88 X B Z Q T x0 x2 x3) (EX12_ways_88 X B Z Q T x0 x2 x3) o → PX12_ways_88 X B Z Q T x0 x2 x3 s := by
  rintro ⟨x4, M⟩ o h hE
  replace h : bX12_ways_88 T x0 x2 x3 x4 M = some o := h
  unfold bX12_ways_88 at h
  show G X B 6 Z Q 88 [(0, .ref (x0)), (2, .int (x2)), (3, .int (x3)), (4, .int (x4))] [] T M
  refine g_iload (pc := 88) C dX12_ways_88 3 rfl ?_
  refine g_sipush (pc := 90) (v := 384) C dX12_ways_90 (by decide) ?_
  refine g_icmp_ge (pc := 93) (tgt := 110) C dX12_ways_93 (by decide) (fun c25 => ?_) (fun c25 => ?_)
  · replace h := ifp c25 h
    obtain rfl := Option.some.inj h
    exact g_sub [0, 1, 2] rfl (show G X B 6 Z Q 110 [(0, .ref (x0)), (2, .int (x2)), (3, .int (x3))] [] T M from hE)
  · replace h := ifn c25 h
    refine g_aload_n (pc := 96) C dX12_ways_96 rfl 0 rfl ?_
    replace h := gd_some h; obtain ⟨hk26, h⟩ := h
    refine g_get (pc := 97) (v := va_rf (gR M x0 37)) C dX12_ways_97 kX12 hk26 37 (by decide) q_1264 rfl ?_
    replace h := bnd h; obtain ⟨a27, ea27, h⟩ := h
    refine g_refq ea27 ?_
    refine g_iload (pc := 100) C dX12_ways_100 3 rfl ?_
    refine g_lconst (pc := 102) (v := 0) C dX12_ways_102 rfl ?_
    replace h := gd_some h; obtain ⟨hk28, h⟩ := h
    replace h := gv_some h; obtain ⟨hi29, h⟩ := h
    refine g_last (pc := 103) C dX12_ways_103 hk28 hi29 ?_
    refine g_mem (fun M30 eM30 => ?_)
    replace h := lt_at eM30 h
    obtain ⟨v31, ev31⟩ : ∃ y : Int32, y = x4 + (1 : Int32) := ⟨_, rfl⟩
    replace h := lt_at ev31 h
    refine g_iinc (pc := 104) (v := v31) (k := 3) (lo2 := [(4, .int (v31)), (0, .ref (x0)), (2, .int (x2)), (3, .int (x3))]) C dX12_ways_104 rfl (by rw [ev31]; rfl) (by decide) rfl ?_
    refine g_goto (pc := 107) (tgt := 88) C dX12_ways_107 (by decide) ?_
    obtain rfl := Option.some.inj h
    exact g_sub [1, 2, 3, 0] rfl (show G X B 6 Z Q 88 [(0, .ref (x0)), (2, .int (x2)), (3, .int (x3)), (4, .int (v31))] [] T M30 from hE)
-- a loop of EyeTrainerModel.ways at 113
-- a loop of EyeTrainerModel.ways at 124
def bX12_ways_124 (T : Sh) (x0 : Nat) (x2 : Int32) (x3 : Int32) (x4 : Int32) (x5 : Int32) (M : Me) : Option ((Int32 × Me) ⊕ (Me)) :=
  if (4 : Int32) ≤ x5 then (some (.inr M)) else (Option.bind (fX12_stepTo x4 x5) fun r35 => if r35 = (-1 : Int32) then (lt (x5 + (1 : Int32)) fun v37 => some (.inl (v37, M))) else (gd (kd T x0 = 11) <| Option.bind (gR M x0 37) fun a39 => Option.bind (fX12_stepTo x4 x5) fun r40 => gd (kd T a39 = 14) <| gv r40 (ln T a39) <| Option.bind (gR M x0 36) fun a43 => gd (kd T a43 = 14) <| gv x4 (ln T a43) <| gv r40 (ln T a39) <| lt (pJ M a39 (Int32.toNatClampNeg r40) ((gJ M a39 (Int32.toNatClampNeg r40)) + (gJ M a43 (Int32.toNatClampNeg x4)))) fun M47 => lt (x5 + (1 : Int32)) fun v48 => some (.inl (v48, M47))))
def PX12_ways_124 (X : Fx) (B : Bx) (Z : Nat × Nat × Nat × Nat) (Q : State → Prop) (T : Sh) (x0 : Nat) (x2 : Int32) (x3 : Int32) (x4 : Int32) (s : Int32 × Me) : Prop := G X B 6 Z Q 124 [(0, .ref (x0)), (2, .int (x2)), (3, .int (x3)), (4, .int (x4)), (5, .int (s.1))] [] T s.2
def EX12_ways_124 (X : Fx) (B : Bx) (Z : Nat × Nat × Nat × Nat) (Q : State → Prop) (T : Sh) (x0 : Nat) (x2 : Int32) (x3 : Int32) (x4 : Int32) (r : Me) : Prop := G X B 6 Z Q 169 [(0, .ref (x0)), (2, .int (x2)), (3, .int (x3)), (4, .int (x4))] [] T r
set_option maxHeartbeats 4000000 in
theorem tbX12_ways_124 {X : Fx} {B : Bx} {Z : Nat × Nat × Nat × Nat} {Q : State → Prop} {d : Nat} {T : Sh} (C : Cx X B cX12_ways 6 RX12 d Z) (hd : 6 ≤ d) {x0 : Nat} {x2 : Int32} {x3 : Int32} {x4 : Int32} : ∀ (s : Int32 × Me) (o : (Int32 × Me) ⊕ (Me)), bX12_ways_124 T x0 x2 x3 x4 s.1 s.2 = some o → lpE (PX12_ways_124 X B Z Q T x0 x2 x3 x4) (EX12_ways_124 X B Z Q T x0 x2 x3 x4) o → PX12_ways_124 X B Z Q T x0 x2 x3 x4 s := by
  rintro ⟨x5, M⟩ o h hE
  replace h : bX12_ways_124 T x0 x2 x3 x4 x5 M = some o := h
  unfold bX12_ways_124 at h
  show G X B 6 Z Q 124 [(0, .ref (x0)), (2, .int (x2)), (3, .int (x3)), (4, .int (x4)), (5, .int (x5))] [] T M
  refine g_iload (pc := 124) C dX12_ways_124 4 rfl ?_
  refine g_iconst (pc := 126) (v := 4) C dX12_ways_126 (by decide) ?_
  refine g_icmp_ge (pc := 127) (tgt := 169) C dX12_ways_127 (by decide) (fun c34 => ?_) (fun c34 => ?_)
  · replace h := ifp c34 h
    obtain rfl := Option.some.inj h
    exact g_sub [0, 1, 2, 3] rfl (show G X B 6 Z Q 169 [(0, .ref (x0)), (2, .int (x2)), (3, .int (x3)), (4, .int (x4))] [] T M from hE)
  · replace h := ifn c34 h
    refine g_iload (pc := 130) C dX12_ways_130 3 rfl ?_
    refine g_iload (pc := 132) C dX12_ways_132 4 rfl ?_
    replace h := bnd h; obtain ⟨r35, h1, h⟩ := h
    refine g_callSi (pc := 134) (As := [.int (x4), .int (x5)]) (st := []) C dX12_ways_134 wX12_stepTo q_1804 q_1803 (by omega) rfl (Nat.le_of_ble_eq_true rfl) (kX12_stepTo (d := 0) (Nat.le_refl _) h1) ?_
    refine g_iconst (pc := 137) (v := (-1)) C dX12_ways_137 (by decide) ?_
    refine g_icmp_eq (pc := 138) (tgt := 163) C dX12_ways_138 (by decide) (fun c36 => ?_) (fun c36 => ?_)
    · replace h := ifp c36 h
      obtain ⟨v37, ev37⟩ : ∃ y : Int32, y = x5 + (1 : Int32) := ⟨_, rfl⟩
      replace h := lt_at ev37 h
      refine g_iinc (pc := 163) (v := v37) (k := 4) (lo2 := [(5, .int (v37)), (0, .ref (x0)), (2, .int (x2)), (3, .int (x3)), (4, .int (x4))]) C dX12_ways_163 rfl (by rw [ev37]; rfl) (by decide) rfl ?_
      refine g_goto (pc := 166) (tgt := 124) C dX12_ways_166 (by decide) ?_
      obtain rfl := Option.some.inj h
      exact g_sub [1, 2, 3, 4, 0] rfl (show G X B 6 Z Q 124 [(0, .ref (x0)), (2, .int (x2)), (3, .int (x3)), (4, .int (x4)), (5, .int (v37))] [] T M from hE)
    · replace h := ifn c36 h
      refine g_aload_n (pc := 141) C dX12_ways_141 rfl 0 rfl ?_
      replace h := gd_some h; obtain ⟨hk38, h⟩ := h
      refine g_get (pc := 142) (v := va_rf (gR M x0 37)) C dX12_ways_142 kX12 hk38 37 (by decide) q_1264 rfl ?_
      replace h := bnd h; obtain ⟨a39, ea39, h⟩ := h
      refine g_refq ea39 ?_
      refine g_iload (pc := 145) C dX12_ways_145 3 rfl ?_
      refine g_iload (pc := 147) C dX12_ways_147 4 rfl ?_
      replace h := bnd h; obtain ⟨r40, h1, h⟩ := h
      refine g_callSi (pc := 149) (As := [.int (x4), .int (x5)]) (st := [.ref (a39)]) C dX12_ways_149 wX12_stepTo q_1804 q_1803 (by omega) rfl (Nat.le_of_ble_eq_true rfl) (kX12_stepTo (d := 0) (Nat.le_refl _) h1) ?_
      refine g_dup2 (pc := 152) C dX12_ways_152 rfl rfl ?_
      replace h := gd_some h; obtain ⟨hk41, h⟩ := h
      replace h := gv_some h; obtain ⟨hi42, h⟩ := h
      refine g_lald (pc := 153) C dX12_ways_153 hk41 hi42 ?_
      refine g_aload_n (pc := 154) C dX12_ways_154 rfl 0 rfl ?_
      refine g_get (pc := 155) (v := va_rf (gR M x0 36)) C dX12_ways_155 kX12 hk38 36 (by decide) q_1263 rfl ?_
      replace h := bnd h; obtain ⟨a43, ea43, h⟩ := h
      refine g_refq ea43 ?_
      refine g_iload (pc := 158) C dX12_ways_158 3 rfl ?_
      replace h := gd_some h; obtain ⟨hk44, h⟩ := h
      replace h := gv_some h; obtain ⟨hi45, h⟩ := h
      refine g_lald (pc := 160) C dX12_ways_160 hk44 hi45 ?_
      refine g_ladd (pc := 161) C dX12_ways_161 ?_
      replace h := gv_some h; obtain ⟨hi46, h⟩ := h
      refine g_last (pc := 162) C dX12_ways_162 hk41 hi46 ?_
      refine g_mem (fun M47 eM47 => ?_)
      replace h := lt_at eM47 h
      obtain ⟨v48, ev48⟩ : ∃ y : Int32, y = x5 + (1 : Int32) := ⟨_, rfl⟩
      replace h := lt_at ev48 h
      refine g_iinc (pc := 163) (v := v48) (k := 4) (lo2 := [(5, .int (v48)), (0, .ref (x0)), (2, .int (x2)), (3, .int (x3)), (4, .int (x4))]) C dX12_ways_163 rfl (by rw [ev48]; rfl) (by decide) rfl ?_
      refine g_goto (pc := 166) (tgt := 124) C dX12_ways_166 (by decide) ?_
      obtain rfl := Option.some.inj h
      exact g_sub [1, 2, 3, 4, 0] rfl (show G X B 6 Z Q 124 [(0, .ref (x0)), (2, .int (x2)), (3, .int (x3)), (4, .int (x4)), (5, .int (v48))] [] T M47 from hE)
def bX12_ways_113 (T : Sh) (x0 : Nat) (x2 : Int32) (x3 : Int32) (x4 : Int32) (M : Me) : Option ((Int32 × Me) ⊕ (Me)) :=
  if (384 : Int32) ≤ x4 then (some (.inr M)) else ((lp FU (fun s => bX12_ways_124 T x0 x2 x3 x4 s.1 s.2) ((0 : Int32), M)).bind (fun M49 => lt (x4 + (1 : Int32)) fun v50 => some (.inl (v50, M49))))
def PX12_ways_113 (X : Fx) (B : Bx) (Z : Nat × Nat × Nat × Nat) (Q : State → Prop) (T : Sh) (x0 : Nat) (x2 : Int32) (x3 : Int32) (s : Int32 × Me) : Prop := G X B 6 Z Q 113 [(0, .ref (x0)), (2, .int (x2)), (3, .int (x3)), (4, .int (s.1))] [] T s.2
def EX12_ways_113 (X : Fx) (B : Bx) (Z : Nat × Nat × Nat × Nat) (Q : State → Prop) (T : Sh) (x0 : Nat) (x2 : Int32) (x3 : Int32) (r : Me) : Prop := G X B 6 Z Q 175 [(0, .ref (x0)), (2, .int (x2)), (3, .int (x3))] [] T r
set_option maxHeartbeats 4000000 in
theorem tbX12_ways_113 {X : Fx} {B : Bx} {Z : Nat × Nat × Nat × Nat} {Q : State → Prop} {d : Nat} {T : Sh} (C : Cx X B cX12_ways 6 RX12 d Z) (hd : 6 ≤ d) {x0 : Nat} {x2 : Int32} {x3 : Int32} : ∀ (s : Int32 × Me) (o : (Int32 × Me) ⊕ (Me)), bX12_ways_113 T x0 x2 x3 s.1 s.2 = some o → lpE (PX12_ways_113 X B Z Q T x0 x2 x3) (EX12_ways_113 X B Z Q T x0 x2 x3) o → PX12_ways_113 X B Z Q T x0 x2 x3 s := by
  rintro ⟨x4, M⟩ o h hE
  replace h : bX12_ways_113 T x0 x2 x3 x4 M = some o := h
  unfold bX12_ways_113 at h
  show G X B 6 Z Q 113 [(0, .ref (x0)), (2, .int (x2)), (3, .int (x3)), (4, .int (x4))] [] T M
  refine g_iload (pc := 113) C dX12_ways_113 3 rfl ?_
  refine g_sipush (pc := 115) (v := 384) C dX12_ways_115 (by decide) ?_
  refine g_icmp_ge (pc := 118) (tgt := 175) C dX12_ways_118 (by decide) (fun c33 => ?_) (fun c33 => ?_)
  · replace h := ifp c33 h
    obtain rfl := Option.some.inj h
    exact g_sub [0, 1, 2] rfl (show G X B 6 Z Q 175 [(0, .ref (x0)), (2, .int (x2)), (3, .int (x3))] [] T M from hE)
  · replace h := ifn c33 h
    refine g_iconst (pc := 121) (v := 0) C dX12_ways_121 (by decide) ?_
    refine g_istore (pc := 122) (lo2 := [(5, .int ((0 : Int32))), (0, .ref (x0)), (2, .int (x2)), (3, .int (x3)), (4, .int (x4))]) C dX12_ways_122 (by decide) rfl ?_
    replace h := bnd h; obtain ⟨M49, h1, h⟩ := h
    refine g_sub [1, 2, 3, 4, 0] rfl ?_
    refine lp_G2 (P := PX12_ways_124 X B _ _ T x0 x2 x3 x4) (E := EX12_ways_124 X B _ _ T x0 x2 x3 x4) (tbX12_ways_124 C hd) h1 ?_
    show G X B 6 _ _ 169 [(0, .ref (x0)), (2, .int (x2)), (3, .int (x3)), (4, .int (x4))] [] T M49
    obtain ⟨v50, ev50⟩ : ∃ y : Int32, y = x4 + (1 : Int32) := ⟨_, rfl⟩
    replace h := lt_at ev50 h
    refine g_iinc (pc := 169) (v := v50) (k := 3) (lo2 := [(4, .int (v50)), (0, .ref (x0)), (2, .int (x2)), (3, .int (x3))]) C dX12_ways_169 rfl (by rw [ev50]; rfl) (by decide) rfl ?_
    refine g_goto (pc := 172) (tgt := 113) C dX12_ways_172 (by decide) ?_
    obtain rfl := Option.some.inj h
    exact g_sub [1, 2, 3, 0] rfl (show G X B 6 Z Q 113 [(0, .ref (x0)), (2, .int (x2)), (3, .int (x3)), (4, .int (v50))] [] T M49 from hE)
-- a loop of EyeTrainerModel.ways at 178
def bX12_ways_178 (T : Sh) (x0 : Nat) (x2 : Int32) (x3 : Int32) (x4 : Int32) (M : Me) : Option ((Int32 × Me) ⊕ (Me)) :=
  if (384 : Int32) ≤ x4 then (some (.inr M)) else (gd (kd T x0 = 11) <| Option.bind (gR M x0 36) fun a54 => Option.bind (gR M x0 37) fun a55 => gd (kd T a55 = 14) <| gv x4 (ln T a55) <| gd (kd T a54 = 14) <| gv x4 (ln T a54) <| lt (pJ M a54 (Int32.toNatClampNeg x4) (gJ M a55 (Int32.toNatClampNeg x4))) fun M60 => lt (x4 + (1 : Int32)) fun v61 => some (.inl (v61, M60)))
def PX12_ways_178 (X : Fx) (B : Bx) (Z : Nat × Nat × Nat × Nat) (Q : State → Prop) (T : Sh) (x0 : Nat) (x2 : Int32) (x3 : Int32) (s : Int32 × Me) : Prop := G X B 6 Z Q 178 [(0, .ref (x0)), (2, .int (x2)), (3, .int (x3)), (4, .int (s.1))] [] T s.2
def EX12_ways_178 (X : Fx) (B : Bx) (Z : Nat × Nat × Nat × Nat) (Q : State → Prop) (T : Sh) (x0 : Nat) (x2 : Int32) (x3 : Int32) (r : Me) : Prop := G X B 6 Z Q 206 [(0, .ref (x0)), (2, .int (x2)), (3, .int (x3))] [] T r
set_option maxHeartbeats 4000000 in
theorem tbX12_ways_178 {X : Fx} {B : Bx} {Z : Nat × Nat × Nat × Nat} {Q : State → Prop} {d : Nat} {T : Sh} (C : Cx X B cX12_ways 6 RX12 d Z) (hd : 6 ≤ d) {x0 : Nat} {x2 : Int32} {x3 : Int32} : ∀ (s : Int32 × Me) (o : (Int32 × Me) ⊕ (Me)), bX12_ways_178 T x0 x2 x3 s.1 s.2 = some o → lpE (PX12_ways_178 X B Z Q T x0 x2 x3) (EX12_ways_178 X B Z Q T x0 x2 x3) o → PX12_ways_178 X B Z Q T x0 x2 x3 s := by
  rintro ⟨x4, M⟩ o h hE
  replace h : bX12_ways_178 T x0 x2 x3 x4 M = some o := h
  unfold bX12_ways_178 at h
  show G X B 6 Z Q 178 [(0, .ref (x0)), (2, .int (x2)), (3, .int (x3)), (4, .int (x4))] [] T M
  refine g_iload (pc := 178) C dX12_ways_178 3 rfl ?_
  refine g_sipush (pc := 180) (v := 384) C dX12_ways_180 (by decide) ?_
  refine g_icmp_ge (pc := 183) (tgt := 206) C dX12_ways_183 (by decide) (fun c52 => ?_) (fun c52 => ?_)
  · replace h := ifp c52 h
    obtain rfl := Option.some.inj h
    exact g_sub [0, 1, 2] rfl (show G X B 6 Z Q 206 [(0, .ref (x0)), (2, .int (x2)), (3, .int (x3))] [] T M from hE)
  · replace h := ifn c52 h
    refine g_aload_n (pc := 186) C dX12_ways_186 rfl 0 rfl ?_
    replace h := gd_some h; obtain ⟨hk53, h⟩ := h
    refine g_get (pc := 187) (v := va_rf (gR M x0 36)) C dX12_ways_187 kX12 hk53 36 (by decide) q_1263 rfl ?_
    replace h := bnd h; obtain ⟨a54, ea54, h⟩ := h
    refine g_refq ea54 ?_
    refine g_iload (pc := 190) C dX12_ways_190 3 rfl ?_
    refine g_aload_n (pc := 192) C dX12_ways_192 rfl 0 rfl ?_
    refine g_get (pc := 193) (v := va_rf (gR M x0 37)) C dX12_ways_193 kX12 hk53 37 (by decide) q_1264 rfl ?_
    replace h := bnd h; obtain ⟨a55, ea55, h⟩ := h
    refine g_refq ea55 ?_
    refine g_iload (pc := 196) C dX12_ways_196 3 rfl ?_
    replace h := gd_some h; obtain ⟨hk56, h⟩ := h
    replace h := gv_some h; obtain ⟨hi57, h⟩ := h
    refine g_lald (pc := 198) C dX12_ways_198 hk56 hi57 ?_
    replace h := gd_some h; obtain ⟨hk58, h⟩ := h
    replace h := gv_some h; obtain ⟨hi59, h⟩ := h
    refine g_last (pc := 199) C dX12_ways_199 hk58 hi59 ?_
    refine g_mem (fun M60 eM60 => ?_)
    replace h := lt_at eM60 h
    obtain ⟨v61, ev61⟩ : ∃ y : Int32, y = x4 + (1 : Int32) := ⟨_, rfl⟩
    replace h := lt_at ev61 h
    refine g_iinc (pc := 200) (v := v61) (k := 3) (lo2 := [(4, .int (v61)), (0, .ref (x0)), (2, .int (x2)), (3, .int (x3))]) C dX12_ways_200 rfl (by rw [ev61]; rfl) (by decide) rfl ?_
    refine g_goto (pc := 203) (tgt := 178) C dX12_ways_203 (by decide) ?_
    obtain rfl := Option.some.inj h
    exact g_sub [1, 2, 3, 0] rfl (show G X B 6 Z Q 178 [(0, .ref (x0)), (2, .int (x2)), (3, .int (x3)), (4, .int (v61))] [] T M60 from hE)
def bX12_ways_80 (T : Sh) (x0 : Nat) (x2 : Int32) (x3 : Int32) (M : Me) : Option ((Int32 × Me) ⊕ (Me)) :=
  if x2 ≤ x3 then (some (.inr M)) else ((lp FU (fun s => bX12_ways_88 T x0 x2 x3 s.1 s.2) ((0 : Int32), M)).bind (fun M32 => (lp FU (fun s => bX12_ways_113 T x0 x2 x3 s.1 s.2) ((0 : Int32), M32)).bind (fun M51 => (lp FU (fun s => bX12_ways_178 T x0 x2 x3 s.1 s.2) ((0 : Int32), M51)).bind (fun M62 => lt (x3 + (1 : Int32)) fun v63 => some (.inl (v63, M62))))))
def PX12_ways_80 (X : Fx) (B : Bx) (Z : Nat × Nat × Nat × Nat) (Q : State → Prop) (T : Sh) (x0 : Nat) (x2 : Int32) (s : Int32 × Me) : Prop := G X B 6 Z Q 80 [(0, .ref (x0)), (2, .int (x2)), (3, .int (s.1))] [] T s.2
def EX12_ways_80 (X : Fx) (B : Bx) (Z : Nat × Nat × Nat × Nat) (Q : State → Prop) (T : Sh) (x0 : Nat) (x2 : Int32) (r : Me) : Prop := G X B 6 Z Q 212 [(0, .ref (x0))] [] T r
set_option maxHeartbeats 4000000 in
theorem tbX12_ways_80 {X : Fx} {B : Bx} {Z : Nat × Nat × Nat × Nat} {Q : State → Prop} {d : Nat} {T : Sh} (C : Cx X B cX12_ways 6 RX12 d Z) (hd : 6 ≤ d) {x0 : Nat} {x2 : Int32} : ∀ (s : Int32 × Me) (o : (Int32 × Me) ⊕ (Me)), bX12_ways_80 T x0 x2 s.1 s.2 = some o → lpE (PX12_ways_80 X B Z Q T x0 x2) (EX12_ways_80 X B Z Q T x0 x2) o → PX12_ways_80 X B Z Q T x0 x2 s := by
  rintro ⟨x3, M⟩ o h hE
  replace h : bX12_ways_80 T x0 x2 x3 M = some o := h
  unfold bX12_ways_80 at h
  show G X B 6 Z Q 80 [(0, .ref (x0)), (2, .int (x2)), (3, .int (x3))] [] T M
  refine g_iload_n (pc := 80) C dX12_ways_80 rfl 2 rfl ?_
  refine g_iload_n (pc := 81) C dX12_ways_81 rfl 1 rfl ?_
  refine g_icmp_ge (pc := 82) (tgt := 212) C dX12_ways_82 (by decide) (fun c24 => ?_) (fun c24 => ?_)
  · replace h := ifp c24 h
    obtain rfl := Option.some.inj h
    exact g_sub [0] rfl (show G X B 6 Z Q 212 [(0, .ref (x0))] [] T M from hE)
  · replace h := ifn c24 h
    refine g_iconst (pc := 85) (v := 0) C dX12_ways_85 (by decide) ?_
    refine g_istore (pc := 86) (lo2 := [(4, .int ((0 : Int32))), (0, .ref (x0)), (2, .int (x2)), (3, .int (x3))]) C dX12_ways_86 (by decide) rfl ?_
    replace h := bnd h; obtain ⟨M32, h1, h⟩ := h
    refine g_sub [1, 2, 3, 0] rfl ?_
    refine lp_G2 (P := PX12_ways_88 X B _ _ T x0 x2 x3) (E := EX12_ways_88 X B _ _ T x0 x2 x3) (tbX12_ways_88 C hd) h1 ?_
    show G X B 6 _ _ 110 [(0, .ref (x0)), (2, .int (x2)), (3, .int (x3))] [] T M32
    refine g_iconst (pc := 110) (v := 0) C dX12_ways_110 (by decide) ?_
    refine g_istore (pc := 111) (lo2 := [(4, .int ((0 : Int32))), (0, .ref (x0)), (2, .int (x2)), (3, .int (x3))]) C dX12_ways_111 (by decide) rfl ?_
    replace h := bnd h; obtain ⟨M51, h1, h⟩ := h
    refine g_sub [1, 2, 3, 0] rfl ?_
    refine lp_G2 (P := PX12_ways_113 X B _ _ T x0 x2 x3) (E := EX12_ways_113 X B _ _ T x0 x2 x3) (tbX12_ways_113 C hd) h1 ?_
    show G X B 6 _ _ 175 [(0, .ref (x0)), (2, .int (x2)), (3, .int (x3))] [] T M51
    refine g_iconst (pc := 175) (v := 0) C dX12_ways_175 (by decide) ?_
    refine g_istore (pc := 176) (lo2 := [(4, .int ((0 : Int32))), (0, .ref (x0)), (2, .int (x2)), (3, .int (x3))]) C dX12_ways_176 (by decide) rfl ?_
    replace h := bnd h; obtain ⟨M62, h1, h⟩ := h
    refine g_sub [1, 2, 3, 0] rfl ?_
    refine lp_G2 (P := PX12_ways_178 X B _ _ T x0 x2 x3) (E := EX12_ways_178 X B _ _ T x0 x2 x3) (tbX12_ways_178 C hd) h1 ?_
    show G X B 6 _ _ 206 [(0, .ref (x0)), (2, .int (x2)), (3, .int (x3))] [] T M62
    obtain ⟨v63, ev63⟩ : ∃ y : Int32, y = x3 + (1 : Int32) := ⟨_, rfl⟩
    replace h := lt_at ev63 h
    refine g_iinc (pc := 206) (v := v63) (k := 2) (lo2 := [(3, .int (v63)), (0, .ref (x0)), (2, .int (x2))]) C dX12_ways_206 rfl (by rw [ev63]; rfl) (by decide) rfl ?_
    refine g_goto (pc := 209) (tgt := 80) C dX12_ways_209 (by decide) ?_
    obtain rfl := Option.some.inj h
    exact g_sub [1, 2, 0] rfl (show G X B 6 Z Q 80 [(0, .ref (x0)), (2, .int (x2)), (3, .int (v63))] [] T M62 from hE)
-- a loop of EyeTrainerModel.ways at 217
def bX12_ways_217 (T : Sh) (M : Me) (x0 : Nat) (x3 : Int64) (x5 : Int32) : Option ((Int64 × Int32) ⊕ (Int64)) :=
  if (384 : Int32) ≤ x5 then (some (.inr x3)) else (gd (kd T x0 = 11) <| Option.bind (fX12_isMapped T M x0 (x5 - x5 / (24 : Int32) * (24 : Int32)) (x5 / (24 : Int32))) fun r67 => if r67 = 0 then (lt (x3 + (0 : Int64)) fun v69 => lt (x5 + (1 : Int32)) fun v70 => some (.inl (v69, v70))) else (Option.bind (gR M x0 36) fun a71 => gd (kd T a71 = 14) <| gv x5 (ln T a71) <| lt (x3 + (gJ M a71 (Int32.toNatClampNeg x5))) fun v74 => lt (x5 + (1 : Int32)) fun v75 => some (.inl (v74, v75))))
def PX12_ways_217 (X : Fx) (B : Bx) (Z : Nat × Nat × Nat × Nat) (Q : State → Prop) (T : Sh) (M : Me) (x0 : Nat) (s : Int64 × Int32) : Prop := G X B 6 Z Q 217 [(0, .ref (x0)), (3, .long (s.1)), (5, .int (s.2))] [] T M
def EX12_ways_217 (X : Fx) (B : Bx) (Z : Nat × Nat × Nat × Nat) (Q : State → Prop) (T : Sh) (M : Me) (x0 : Nat) (r : Int64) : Prop := G X B 6 Z Q 262 [(3, .long (r))] [] T M
set_option maxHeartbeats 4000000 in
theorem tbX12_ways_217 {X : Fx} {B : Bx} {Z : Nat × Nat × Nat × Nat} {Q : State → Prop} {d : Nat} {T : Sh} {M : Me} (C : Cx X B cX12_ways 6 RX12 d Z) (hd : 6 ≤ d) {x0 : Nat} : ∀ (s : Int64 × Int32) (o : (Int64 × Int32) ⊕ (Int64)), bX12_ways_217 T M x0 s.1 s.2 = some o → lpE (PX12_ways_217 X B Z Q T M x0) (EX12_ways_217 X B Z Q T M x0) o → PX12_ways_217 X B Z Q T M x0 s := by
  rintro ⟨x3, x5⟩ o h hE
  replace h : bX12_ways_217 T M x0 x3 x5 = some o := h
  unfold bX12_ways_217 at h
  show G X B 6 Z Q 217 [(0, .ref (x0)), (3, .long (x3)), (5, .int (x5))] [] T M
  refine g_iload (pc := 217) C dX12_ways_217 2 rfl ?_
  refine g_sipush (pc := 219) (v := 384) C dX12_ways_219 (by decide) ?_
  refine g_icmp_ge (pc := 222) (tgt := 262) C dX12_ways_222 (by decide) (fun c65 => ?_) (fun c65 => ?_)
  · replace h := ifp c65 h
    obtain rfl := Option.some.inj h
    exact g_sub [1] rfl (show G X B 6 Z Q 262 [(3, .long (x3))] [] T M from hE)
  · replace h := ifn c65 h
    refine g_lload_n (pc := 225) C dX12_ways_225 rfl 1 rfl ?_
    refine g_aload_n (pc := 226) C dX12_ways_226 rfl 0 rfl ?_
    refine g_iload (pc := 227) C dX12_ways_227 2 rfl ?_
    refine g_bipush (pc := 229) (v := 24) C dX12_ways_229 (by decide) ?_
    refine g_irem (pc := 231) C dX12_ways_231 (by decide) ?_
    refine g_iload (pc := 232) C dX12_ways_232 2 rfl ?_
    refine g_bipush (pc := 234) (v := 24) C dX12_ways_234 (by decide) ?_
    refine g_idiv (pc := 236) C dX12_ways_236 (by decide) ?_
    replace h := gd_some h; obtain ⟨hk66, h⟩ := h
    replace h := bnd h; obtain ⟨r67, h1, h⟩ := h
    refine g_callVi (pc := 237) (As := [.int (x5 - x5 / (24 : Int32) * (24 : Int32)), .int (x5 / (24 : Int32))]) (st := [.long (x3)]) C dX12_ways_237 wX12_isMapped hk66 rfl (by decide) q_1612 q_95 q_1610 (by omega) rfl (Nat.le_of_ble_eq_true rfl) (kX12_isMapped (d := 1) (Nat.le_refl _) h1) ?_
    refine g_if_eq (pc := 240) (tgt := 253) C dX12_ways_240 (by decide) (fun c68 => ?_) (fun c68 => ?_)
    · replace h := ifp c68 h
      refine g_lconst (pc := 253) (v := 0) C dX12_ways_253 rfl ?_
      refine g_ladd (pc := 254) C dX12_ways_254 ?_
      refine g_topl (fun v69 ev69 => ?_)
      replace h := lt_at ev69 h
      refine g_lstore_n (pc := 255) (lo2 := [(3, .long (v69)), (0, .ref (x0)), (5, .int (x5))]) C dX12_ways_255 rfl (by decide) rfl ?_
      obtain ⟨v70, ev70⟩ : ∃ y : Int32, y = x5 + (1 : Int32) := ⟨_, rfl⟩
      replace h := lt_at ev70 h
      refine g_iinc (pc := 256) (v := v70) (k := 2) (lo2 := [(5, .int (v70)), (3, .long (v69)), (0, .ref (x0))]) C dX12_ways_256 rfl (by rw [ev70]; rfl) (by decide) rfl ?_
      refine g_goto (pc := 259) (tgt := 217) C dX12_ways_259 (by decide) ?_
      obtain rfl := Option.some.inj h
      exact g_sub [2, 1, 0] rfl (show G X B 6 Z Q 217 [(0, .ref (x0)), (3, .long (v69)), (5, .int (v70))] [] T M from hE)
    · replace h := ifn c68 h
      refine g_aload_n (pc := 243) C dX12_ways_243 rfl 0 rfl ?_
      refine g_get (pc := 244) (v := va_rf (gR M x0 36)) C dX12_ways_244 kX12 hk66 36 (by decide) q_1263 rfl ?_
      replace h := bnd h; obtain ⟨a71, ea71, h⟩ := h
      refine g_refq ea71 ?_
      refine g_iload (pc := 247) C dX12_ways_247 2 rfl ?_
      replace h := gd_some h; obtain ⟨hk72, h⟩ := h
      replace h := gv_some h; obtain ⟨hi73, h⟩ := h
      refine g_lald (pc := 249) C dX12_ways_249 hk72 hi73 ?_
      refine g_goto (pc := 250) (tgt := 254) C dX12_ways_250 (by decide) ?_
      refine g_ladd (pc := 254) C dX12_ways_254 ?_
      refine g_topl (fun v74 ev74 => ?_)
      replace h := lt_at ev74 h
      refine g_lstore_n (pc := 255) (lo2 := [(3, .long (v74)), (0, .ref (x0)), (5, .int (x5))]) C dX12_ways_255 rfl (by decide) rfl ?_
      obtain ⟨v75, ev75⟩ : ∃ y : Int32, y = x5 + (1 : Int32) := ⟨_, rfl⟩
      replace h := lt_at ev75 h
      refine g_iinc (pc := 256) (v := v75) (k := 2) (lo2 := [(5, .int (v75)), (3, .long (v74)), (0, .ref (x0))]) C dX12_ways_256 rfl (by rw [ev75]; rfl) (by decide) rfl ?_
      refine g_goto (pc := 259) (tgt := 217) C dX12_ways_259 (by decide) ?_
      obtain rfl := Option.some.inj h
      exact g_sub [2, 1, 0] rfl (show G X B 6 Z Q 217 [(0, .ref (x0)), (3, .long (v74)), (5, .int (v75))] [] T M from hE)
/-- EyeTrainerModel.ways(II)J -/
def fX12_ways (T : Sh) (M : Me) (x0 : Nat) (x1 : Int32) (x2 : Int32) : Option (Int64 × Me) :=
  gd (kd T x0 = 11) <| lt (pI M x0 0 (0 : Int32)) fun M2 => Option.bind (fX12_isLane T M2 x0 (Int32.toInt64 x1)) fun r3 => if r3 = 0 then (some ((-2 : Int64), M2)) else (Option.bind (fX12_within (Int32.toInt64 x2) (0 : Int64) (20 : Int64)) fun r5 => if r5 = 0 then (some ((-3 : Int64), M2)) else (Option.bind (fX12_laysMapNow T M2 x0 x1) <| un2 fun _u M7 => (lp FU (fun s => bX12_ways_41 T x0 x1 x2 s.1 s.2) ((0 : Int32), M7)).bind (fun M23 => (lp FU (fun s => bX12_ways_80 T x0 x2 s.1 s.2) ((0 : Int32), M23)).bind (fun M64 => (lp FU (fun s => bX12_ways_217 T M64 x0 s.1 s.2) ((0 : Int64), (0 : Int32))).bind (fun x3_76 => some (x3_76, M64))))))
set_option maxHeartbeats 4000000 in
theorem kX12_ways {l : Launch} {B : Bx} {d : Nat} (hd : 6 ≤ d) {T : Sh} {M : Me} {x0 : Nat} {x1 : Int32} {x2 : Int32} {r : Int64} {M' : Me} (h : fX12_ways T M x0 x1 x2 = some (r, M')) : Kt l B yX12_ways cX12_ways 6 (some .long) d [.ref (x0), .int (x1), .int (x2)] T M (some (.long r)) T M' := by
  refine kt_of wX12_ways (Nat.le_refl _) (Nat.le_refl _) (Nat.le_of_ble_eq_true rfl) (fun X C hR hlx hin => ?_)
  subst hlx
  replace C : Cx X B cX12_ways 6 RX12 d (tp T, sl T, tp T, sl T) := C
  unfold fX12_ways at h
  show G X B 6 _ _ 0 [(0, .ref (x0)), (1, .int (x1)), (2, .int (x2))] [] T M
  refine g_aload_n (pc := 0) C dX12_ways_0 rfl 0 rfl ?_
  refine g_iconst (pc := 1) (v := 0) C dX12_ways_1 (by decide) ?_
  replace h := gd_some h; obtain ⟨hk1, h⟩ := h
  refine g_putI (pc := 2) C dX12_ways_2 kX12 hk1 0 (by decide) rfl rfl rfl q_1227 ?_
  refine g_mem (fun M2 eM2 => ?_)
  replace h := lt_at eM2 h
  refine g_aload_n (pc := 5) C dX12_ways_5 rfl 0 rfl ?_
  refine g_iload_n (pc := 6) C dX12_ways_6 rfl 1 rfl ?_
  refine g_i2l (pc := 7) C dX12_ways_7 ?_
  replace h := bnd h; obtain ⟨r3, h1, h⟩ := h
  refine g_callVi (pc := 8) (As := [.long (Int32.toInt64 x1)]) (st := []) C dX12_ways_8 wX12_isLane hk1 rfl (by decide) q_1481 q_75 q_1479 (by omega) rfl (Nat.le_of_ble_eq_true rfl) (kX12_isLane (d := 1) (Nat.le_refl _) h1) ?_
  refine g_if_ne (pc := 11) (tgt := 18) C dX12_ways_11 (by decide) (fun c4 => ?_) (fun c4 => ?_)
  · replace h := ifn c4 h
    refine g_iload_n (pc := 18) C dX12_ways_18 rfl 2 rfl ?_
    refine g_i2l (pc := 19) C dX12_ways_19 ?_
    refine g_lconst (pc := 20) (v := 0) C dX12_ways_20 rfl ?_
    refine g_ldc2 (pc := 21) C dX12_ways_21 q_1815 ?_
    replace h := bnd h; obtain ⟨r5, h1, h⟩ := h
    refine g_callSi (pc := 24) (As := [.long (Int32.toInt64 x2), .long ((0 : Int64)), .long ((20 : Int64))]) (st := []) C dX12_ways_24 wX12_within q_1367 q_1366 (by omega) rfl (Nat.le_of_ble_eq_true rfl) (kX12_within (d := 0) (Nat.le_refl _) h1) ?_
    refine g_if_ne (pc := 27) (tgt := 34) C dX12_ways_27 (by decide) (fun c6 => ?_) (fun c6 => ?_)
    · replace h := ifn c6 h
      refine g_aload_n (pc := 34) C dX12_ways_34 rfl 0 rfl ?_
      refine g_iload_n (pc := 35) C dX12_ways_35 rfl 1 rfl ?_
      replace h := bnd2 h; obtain ⟨_u, M7, h1, h⟩ := h
      refine g_callVv (pc := 36) (As := [.int (x1)]) (st := []) C dX12_ways_36 wX12_laysMapNow hk1 rfl (by decide) q_1711 q_108 q_1709 (by omega) rfl (Nat.le_of_ble_eq_true rfl) (kX12_laysMapNow (d := 5) (Nat.le_refl _) h1) ?_
      refine g_iconst (pc := 39) (v := 0) C dX12_ways_39 (by decide) ?_
      refine g_istore_n (pc := 40) (lo2 := [(3, .int ((0 : Int32))), (0, .ref (x0)), (1, .int (x1)), (2, .int (x2))]) C dX12_ways_40 rfl (by decide) rfl ?_
      replace h := bnd h; obtain ⟨M23, h1, h⟩ := h
      refine g_sub [1, 2, 3, 0] rfl ?_
      refine lp_G2 (P := PX12_ways_41 X B _ _ T x0 x1 x2) (E := EX12_ways_41 X B _ _ T x0 x1 x2) (tbX12_ways_41 C hd) h1 ?_
      show G X B 6 _ _ 78 [(0, .ref (x0)), (2, .int (x2))] [] T M23
      refine g_iconst (pc := 78) (v := 0) C dX12_ways_78 (by decide) ?_
      refine g_istore_n (pc := 79) (lo2 := [(3, .int ((0 : Int32))), (0, .ref (x0)), (2, .int (x2))]) C dX12_ways_79 rfl (by decide) rfl ?_
      replace h := bnd h; obtain ⟨M64, h1, h⟩ := h
      refine g_sub [1, 2, 0] rfl ?_
      refine lp_G2 (P := PX12_ways_80 X B _ _ T x0 x2) (E := EX12_ways_80 X B _ _ T x0 x2) (tbX12_ways_80 C hd) h1 ?_
      show G X B 6 _ _ 212 [(0, .ref (x0))] [] T M64
      refine g_lconst (pc := 212) (v := 0) C dX12_ways_212 rfl ?_
      refine g_lstore_n (pc := 213) (lo2 := [(3, .long ((0 : Int64))), (0, .ref (x0))]) C dX12_ways_213 rfl (by decide) rfl ?_
      refine g_iconst (pc := 214) (v := 0) C dX12_ways_214 (by decide) ?_
      refine g_istore (pc := 215) (lo2 := [(5, .int ((0 : Int32))), (3, .long ((0 : Int64))), (0, .ref (x0))]) C dX12_ways_215 (by decide) rfl ?_
      replace h := bnd h; obtain ⟨x3_76, h1, h⟩ := h
      refine g_sub [2, 1, 0] rfl ?_
      refine lp_G2 (P := PX12_ways_217 X B _ _ T M64 x0) (E := EX12_ways_217 X B _ _ T M64 x0) (tbX12_ways_217 C hd) h1 ?_
      show G X B 6 _ _ 262 [(3, .long (x3_76))] [] T M64
      refine g_lload_n (pc := 262) C dX12_ways_262 rfl 0 rfl ?_
      obtain ⟨rfl, rfl⟩ := Prod.mk.inj (Option.some.inj h)
      exact g_lret C hR dX12_ways_263
    · replace h := ifp c6 h
      refine g_ldc2 (pc := 30) C dX12_ways_30 q_1816 ?_
      obtain ⟨rfl, rfl⟩ := Prod.mk.inj (Option.some.inj h)
      exact g_lret C hR dX12_ways_33
  · replace h := ifp c4 h
    refine g_ldc2 (pc := 14) C dX12_ways_14 q_1814 ?_
    obtain ⟨rfl, rfl⟩ := Prod.mk.inj (Option.some.inj h)
    exact g_lret C hR dX12_ways_17
