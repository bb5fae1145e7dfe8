set_option maxRecDepth 20000 in
theorem q_125 : Cond.initialized RJ7 ∈ lw_gd := mem_gd (List.mem_of_getElem? (i := 125) (by decide +kernel)) rfl
set_option maxRecDepth 20000 in
theorem q_135 : Cond.initialized RJ9 ∈ lw_gd := mem_gd (List.mem_of_getElem? (i := 135) (by decide +kernel)) rfl
set_option maxRecDepth 20000 in
theorem q_286 : Cond.code yJ7_fill_53178 cJ7_fill_53178 4 none ∈ lw_gd := mem_gd (List.mem_of_getElem? (i := 286) (by decide +kernel)) rfl
set_option maxRecDepth 20000 in
theorem q_585 : Cond.code yJ9_min_7cf53 cJ9_min_7cf53 2 (some .int) ∈ lw_gd := mem_gd (List.mem_of_getElem? (i := 585) (by decide +kernel)) rfl
set_option maxRecDepth 20000 in
theorem q_607 : Cond.code yJ9_max_7cf53 cJ9_max_7cf53 2 (some .int) ∈ lw_gd := mem_gd (List.mem_of_getElem? (i := 607) (by decide +kernel)) rfl
set_option maxRecDepth 20000 in
theorem q_785 : Cond.code yJ9_floorMod_7cf53 cJ9_floorMod_7cf53 3 (some .int) ∈ lw_gd := mem_gd (List.mem_of_getElem? (i := 785) (by decide +kernel)) rfl
set_option maxRecDepth 20000 in
theorem q_808 : Cond.code yJ9_abs_0f7a4 cJ9_abs_0f7a4 1 (some .int) ∈ lw_gd := mem_gd (List.mem_of_getElem? (i := 808) (by decide +kernel)) rfl
set_option maxRecDepth 20000 in
theorem q_1127 : Cond.code yJ7_fill_d0a16 cJ7_fill_d0a16 5 none ∈ lw_gd := mem_gd (List.mem_of_getElem? (i := 1127) (by decide +kernel)) rfl
theorem dJ9_max_7cf53_0 : decode cJ9_max_7cf53 0 = .ok (.iload_n 0, 1) := by decide +kernel
theorem dJ9_max_7cf53_1 : decode cJ9_max_7cf53 1 = .ok (.iload_n 1, 1) := by decide +kernel
theorem dJ9_max_7cf53_2 : decode cJ9_max_7cf53 2 = .ok (.if_icmp .lt 7, 3) := by decide +kernel
theorem dJ9_max_7cf53_5 : decode cJ9_max_7cf53 5 = .ok (.iload_n 0, 1) := by decide +kernel
theorem dJ9_max_7cf53_6 : decode cJ9_max_7cf53 6 = .ok (.goto 4, 3) := by decide +kernel
theorem dJ9_max_7cf53_9 : decode cJ9_max_7cf53 9 = .ok (.iload_n 1, 1) := by decide +kernel
theorem dJ9_max_7cf53_10 : decode cJ9_max_7cf53 10 = .ok (.ireturn, 1) := by decide +kernel
theorem wJ9_max_7cf53 : Mw yJ9_max_7cf53 cJ9_max_7cf53 2 (some .int) 2 := ⟨q_607, q_135, by decide, ⟨by decide +kernel, by decide +kernel⟩, by decide +kernel, by decide +kernel⟩
/-- java/lang/Math.max(II)I -/
def fJ9_max_7cf53 (x0 : Int32) (x1 : Int32) : Option (Int32) :=
  if x0 < x1 then (some x1) else (some x0)
set_option maxHeartbeats 4000000 in
theorem kJ9_max_7cf53 {l : Launch} {B : Bx} {d : Nat} (hd : 0 ≤ d) {T : Sh} {M : Me} {x0 : Int32} {x1 : Int32} {r : Int32} (h : fJ9_max_7cf53  x0 x1 = some r) : Kt l B yJ9_max_7cf53 cJ9_max_7cf53 2 (some .int) d [.int (x0), .int (x1)] T M (some (.int r)) T M := by
  refine kt_of wJ9_max_7cf53 (Nat.le_refl _) (Nat.le_refl _) (Nat.le_of_ble_eq_true rfl) (fun X C hR hlx hin => ?_)
  subst hlx
  replace C : Cx X B cJ9_max_7cf53 2 RJ9 d (tp T, sl T, tp T, sl T) := C
  unfold fJ9_max_7cf53 at h
  show G X B 2 _ _ 0 [(0, .int (x0)), (1, .int (x1))] [] T M
  refine g_iload_n (pc := 0) C dJ9_max_7cf53_0 rfl 0 rfl ?_
  refine g_iload_n (pc := 1) C dJ9_max_7cf53_1 rfl 1 rfl ?_
  refine g_icmp_lt (pc := 2) (tgt := 9) C dJ9_max_7cf53_2 (by decide) (fun c1 => ?_) (fun c1 => ?_)
  · replace h := ifp c1 h
    refine g_iload_n (pc := 9) C dJ9_max_7cf53_9 rfl 1 rfl ?_
    obtain rfl := Option.some.inj h
    exact g_iret C hR dJ9_max_7cf53_10
  · replace h := ifn c1 h
    refine g_iload_n (pc := 5) C dJ9_max_7cf53_5 rfl 0 rfl ?_
    refine g_goto (pc := 6) (tgt := 10) C dJ9_max_7cf53_6 (by decide) ?_
    obtain rfl := Option.some.inj h
    exact g_iret C hR dJ9_max_7cf53_10
theorem dJ9_min_7cf53_0 : decode cJ9_min_7cf53 0 = .ok (.iload_n 0, 1) := by decide +kernel
theorem dJ9_min_7cf53_1 : decode cJ9_min_7cf53 1 = .ok (.iload_n 1, 1) := by decide +kernel
theorem dJ9_min_7cf53_2 : decode cJ9_min_7cf53 2 = .ok (.if_icmp .gt 7, 3) := by decide +kernel
theorem dJ9_min_7cf53_5 : decode cJ9_min_7cf53 5 = .ok (.iload_n 0, 1) := by decide +kernel
theorem dJ9_min_7cf53_6 : decode cJ9_min_7cf53 6 = .ok (.goto 4, 3) := by decide +kernel
theorem dJ9_min_7cf53_9 : decode cJ9_min_7cf53 9 = .ok (.iload_n 1, 1) := by decide +kernel
theorem dJ9_min_7cf53_10 : decode cJ9_min_7cf53 10 = .ok (.ireturn, 1) := by decide +kernel
theorem wJ9_min_7cf53 : Mw yJ9_min_7cf53 cJ9_min_7cf53 2 (some .int) 2 := ⟨q_585, q_135, by decide, ⟨by decide +kernel, by decide +kernel⟩, by decide +kernel, by decide +kernel⟩
/-- java/lang/Math.min(II)I -/
def fJ9_min_7cf53 (x0 : Int32) (x1 : Int32) : Option (Int32) :=
  if x1 < x0 then (some x1) else (some x0)
set_option maxHeartbeats 4000000 in
theorem kJ9_min_7cf53 {l : Launch} {B : Bx} {d : Nat} (hd : 0 ≤ d) {T : Sh} {M : Me} {x0 : Int32} {x1 : Int32} {r : Int32} (h : fJ9_min_7cf53  x0 x1 = some r) : Kt l B yJ9_min_7cf53 cJ9_min_7cf53 2 (some .int) d [.int (x0), .int (x1)] T M (some (.int r)) T M := by
  refine kt_of wJ9_min_7cf53 (Nat.le_refl _) (Nat.le_refl _) (Nat.le_of_ble_eq_true rfl) (fun X C hR hlx hin => ?_)
  subst hlx
  replace C : Cx X B cJ9_min_7cf53 2 RJ9 d (tp T, sl T, tp T, sl T) := C
  unfold fJ9_min_7cf53 at h
  show G X B 2 _ _ 0 [(0, .int (x0)), (1, .int (x1))] [] T M
  refine g_iload_n (pc := 0) C dJ9_min_7cf53_0 rfl 0 rfl ?_
  refine g_iload_n (pc := 1) C dJ9_min_7cf53_1 rfl 1 rfl ?_
  refine g_icmp_gt (pc := 2) (tgt := 9) C dJ9_min_7cf53_2 (by decide) (fun c1 => ?_) (fun c1 => ?_)
  · replace h := ifp c1 h
    refine g_iload_n (pc := 9) C dJ9_min_7cf53_9 rfl 1 rfl ?_
    obtain rfl := Option.some.inj h
    exact g_iret C hR dJ9_min_7cf53_10
  · replace h := ifn c1 h
    refine g_iload_n (pc := 5) C dJ9_min_7cf53_5 rfl 0 rfl ?_
    refine g_goto (pc := 6) (tgt := 10) C dJ9_min_7cf53_6 (by decide) ?_
    obtain rfl := Option.some.inj h
    exact g_iret C hR dJ9_min_7cf53_10
theorem dJ9_abs_0f7a4_0 : decode cJ9_abs_0f7a4 0 = .ok (.iload_n 0, 1) := by decide +kernel
theorem dJ9_abs_0f7a4_1 : decode cJ9_abs_0f7a4 1 = .ok (.ifCond .ge 8, 3) := by decide +kernel
theorem dJ9_abs_0f7a4_4 : decode cJ9_abs_0f7a4 4 = .ok (.iload_n 0, 1) := by decide +kernel
theorem dJ9_abs_0f7a4_5 : decode cJ9_abs_0f7a4 5 = .ok (.ineg, 1) := by decide +kernel
theorem dJ9_abs_0f7a4_6 : decode cJ9_abs_0f7a4 6 = .ok (.goto 4, 3) := by decide +kernel
theorem dJ9_abs_0f7a4_9 : decode cJ9_abs_0f7a4 9 = .ok (.iload_n 0, 1) := by decide +kernel
theorem dJ9_abs_0f7a4_10 : decode cJ9_abs_0f7a4 10 = .ok (.ireturn, 1) := by decide +kernel
theorem wJ9_abs_0f7a4 : Mw yJ9_abs_0f7a4 cJ9_abs_0f7a4 1 (some .int) 1 := ⟨q_808, q_135, by decide, ⟨by decide +kernel, by decide +kernel⟩, by decide +kernel, by decide +kernel⟩
/-- java/lang/Math.abs(I)I -/
def fJ9_abs_0f7a4 (x0 : Int32) : Option (Int32) :=
  if 0 ≤ x0 then (some x0) else (some (-x0))
set_option maxHeartbeats 4000000 in
theorem kJ9_abs_0f7a4 {l : Launch} {B : Bx} {d : Nat} (hd : 0 ≤ d) {T : Sh} {M : Me} {x0 : Int32} {r : Int32} (h : fJ9_abs_0f7a4  x0 = some r) : Kt l B yJ9_abs_0f7a4 cJ9_abs_0f7a4 1 (some .int) d [.int (x0)] T M (some (.int r)) T M := by
  refine kt_of wJ9_abs_0f7a4 (Nat.le_refl _) (Nat.le_refl _) (Nat.le_of_ble_eq_true rfl) (fun X C hR hlx hin => ?_)
  subst hlx
  replace C : Cx X B cJ9_abs_0f7a4 1 RJ9 d (tp T, sl T, tp T, sl T) := C
  unfold fJ9_abs_0f7a4 at h
  show G X B 1 _ _ 0 [(0, .int (x0))] [] T M
  refine g_iload_n (pc := 0) C dJ9_abs_0f7a4_0 rfl 0 rfl ?_
  refine g_if_ge (pc := 1) (tgt := 9) C dJ9_abs_0f7a4_1 (by decide) (fun c1 => ?_) (fun c1 => ?_)
  · replace h := ifp c1 h
    refine g_iload_n (pc := 9) C dJ9_abs_0f7a4_9 rfl 0 rfl ?_
    obtain rfl := Option.some.inj h
    exact g_iret C hR dJ9_abs_0f7a4_10
  · replace h := ifn c1 h
    refine g_iload_n (pc := 4) C dJ9_abs_0f7a4_4 rfl 0 rfl ?_
    refine g_ineg (pc := 5) C dJ9_abs_0f7a4_5 ?_
    refine g_goto (pc := 6) (tgt := 10) C dJ9_abs_0f7a4_6 (by decide) ?_
    obtain rfl := Option.some.inj h
    exact g_iret C hR dJ9_abs_0f7a4_10
theorem dJ9_floorMod_7cf53_0 : decode cJ9_floorMod_7cf53 0 = .ok (.iload_n 0, 1) := by decide +kernel
theorem dJ9_floorMod_7cf53_1 : decode cJ9_floorMod_7cf53 1 = .ok (.iload_n 1, 1) := by decide +kernel
theorem dJ9_floorMod_7cf53_2 : decode cJ9_floorMod_7cf53 2 = .ok (.irem, 1) := by decide +kernel
theorem dJ9_floorMod_7cf53_3 : decode cJ9_floorMod_7cf53 3 = .ok (.istore_n 2, 1) := by decide +kernel
theorem dJ9_floorMod_7cf53_4 : decode cJ9_floorMod_7cf53 4 = .ok (.iload_n 0, 1) := by decide +kernel
theorem dJ9_floorMod_7cf53_5 : decode cJ9_floorMod_7cf53 5 = .ok (.iload_n 1, 1) := by decide +kernel
theorem dJ9_floorMod_7cf53_6 : decode cJ9_floorMod_7cf53 6 = .ok (.ixor, 1) := by decide +kernel
theorem dJ9_floorMod_7cf53_7 : decode cJ9_floorMod_7cf53 7 = .ok (.ifCond .ge 11, 3) := by decide +kernel
theorem dJ9_floorMod_7cf53_10 : decode cJ9_floorMod_7cf53 10 = .ok (.iload_n 2, 1) := by decide +kernel
theorem dJ9_floorMod_7cf53_11 : decode cJ9_floorMod_7cf53 11 = .ok (.ifCond .eq 7, 3) := by decide +kernel
theorem dJ9_floorMod_7cf53_14 : decode cJ9_floorMod_7cf53 14 = .ok (.iload_n 2, 1) := by decide +kernel
theorem dJ9_floorMod_7cf53_15 : decode cJ9_floorMod_7cf53 15 = .ok (.iload_n 1, 1) := by decide +kernel
theorem dJ9_floorMod_7cf53_16 : decode cJ9_floorMod_7cf53 16 = .ok (.iadd, 1) := by decide +kernel
theorem dJ9_floorMod_7cf53_17 : decode cJ9_floorMod_7cf53 17 = .ok (.ireturn, 1) := by decide +kernel
theorem dJ9_floorMod_7cf53_18 : decode cJ9_floorMod_7cf53 18 = .ok (.iload_n 2, 1) := by decide +kernel
theorem dJ9_floorMod_7cf53_19 : decode cJ9_floorMod_7cf53 19 = .ok (.ireturn, 1) := by decide +kernel
theorem wJ9_floorMod_7cf53 : Mw yJ9_floorMod_7cf53 cJ9_floorMod_7cf53 3 (some .int) 2 := ⟨q_785, q_135, by decide, ⟨by decide +kernel, by decide +kernel⟩, by decide +kernel, by decide +kernel⟩
/-- java/lang/Math.floorMod(II)I -/
def fJ9_floorMod_7cf53 (x0 : Int32) (x1 : Int32) : Option (Int32) :=
  gd (¬ x1 = 0) <| lt (x0 - x0 / x1 * x1) fun v2 => if 0 ≤ (x0 ^^^ x1) then (some v2) else (if v2 = 0 then (some v2) else (some (v2 + x1)))
set_option maxHeartbeats 4000000 in
theorem kJ9_floorMod_7cf53 {l : Launch} {B : Bx} {d : Nat} (hd : 0 ≤ d) {T : Sh} {M : Me} {x0 : Int32} {x1 : Int32} {r : Int32} (h : fJ9_floorMod_7cf53  x0 x1 = some r) : Kt l B yJ9_floorMod_7cf53 cJ9_floorMod_7cf53 3 (some .int) d [.int (x0), .int (x1)] T M (some (.int r)) T M := by
  refine kt_of wJ9_floorMod_7cf53 (Nat.le_refl _) (Nat.le_refl _) (Nat.le_of_ble_eq_true rfl) (fun X C hR hlx hin => ?_)
  subst hlx
  replace C : Cx X B cJ9_floorMod_7cf53 3 RJ9 d (tp T, sl T, tp T, sl T) := C
  unfold fJ9_floorMod_7cf53 at h
  show G X B 3 _ _ 0 [(0, .int (x0)), (1, .int (x1))] [] T M
  refine g_iload_n (pc := 0) C dJ9_floorMod_7cf53_0 rfl 0 rfl ?_
  refine g_iload_n (pc := 1) C dJ9_floorMod_7cf53_1 rfl 1 rfl ?_
  replace h := gd_some h; obtain ⟨hz1, h⟩ := h
  refine g_irem (pc := 2) C dJ9_floorMod_7cf53_2 hz1 ?_
  refine g_topi (fun v2 ev2 => ?_)
  replace h := lt_at ev2 h
  refine g_istore_n (pc := 3) (lo2 := [(2, .int (v2)), (0, .int (x0)), (1, .int (x1))]) C dJ9_floorMod_7cf53_3 rfl (by decide) rfl ?_
  refine g_iload_n (pc := 4) C dJ9_floorMod_7cf53_4 rfl 1 rfl ?_
  refine g_iload_n (pc := 5) C dJ9_floorMod_7cf53_5 rfl 2 rfl ?_
  refine g_ixor (pc := 6) C dJ9_floorMod_7cf53_6 ?_
  refine g_if_ge (pc := 7) (tgt := 18) C dJ9_floorMod_7cf53_7 (by decide) (fun c3 => ?_) (fun c3 => ?_)
  · replace h := ifp c3 h
    refine g_iload_n (pc := 18) C dJ9_floorMod_7cf53_18 rfl 0 rfl ?_
    obtain rfl := Option.some.inj h
    exact g_iret C hR dJ9_floorMod_7cf53_19
  · replace h := ifn c3 h
    refine g_iload_n (pc := 10) C dJ9_floorMod_7cf53_10 rfl 0 rfl ?_
    refine g_if_eq (pc := 11) (tgt := 18) C dJ9_floorMod_7cf53_11 (by decide) (fun c4 => ?_) (fun c4 => ?_)
    · replace h := ifp c4 h
      refine g_iload_n (pc := 18) C dJ9_floorMod_7cf53_18 rfl 0 rfl ?_
      obtain rfl := Option.some.inj h
      exact g_iret C hR dJ9_floorMod_7cf53_19
    · replace h := ifn c4 h
      refine g_iload_n (pc := 14) C dJ9_floorMod_7cf53_14 rfl 0 rfl ?_
      refine g_iload_n (pc := 15) C dJ9_floorMod_7cf53_15 rfl 2 rfl ?_
      refine g_iadd (pc := 16) C dJ9_floorMod_7cf53_16 ?_
      obtain rfl := Option.some.inj h
      exact g_iret C hR dJ9_floorMod_7cf53_17
theorem dJ7_fill_53178_0 : decode cJ7_fill_53178 0 = .ok (.iconst 0, 1) := by decide +kernel
theorem dJ7_fill_53178_1 : decode cJ7_fill_53178 1 = .ok (.istore_n 2, 1) := by decide +kernel
theorem dJ7_fill_53178_2 : decode cJ7_fill_53178 2 = .ok (.aload_n 0, 1) := by decide +kernel
theorem dJ7_fill_53178_3 : decode cJ7_fill_53178 3 = .ok (.arraylength, 1) := by decide +kernel
theorem dJ7_fill_53178_4 : decode cJ7_fill_53178 4 = .ok (.istore_n 3, 1) := by decide +kernel
theorem dJ7_fill_53178_5 : decode cJ7_fill_53178 5 = .ok (.iload_n 2, 1) := by decide +kernel
theorem dJ7_fill_53178_6 : decode cJ7_fill_53178 6 = .ok (.iload_n 3, 1) := by decide +kernel
theorem dJ7_fill_53178_7 : decode cJ7_fill_53178 7 = .ok (.if_icmp .ge 13, 3) := by decide +kernel
theorem dJ7_fill_53178_10 : decode cJ7_fill_53178 10 = .ok (.aload_n 0, 1) := by decide +kernel
theorem dJ7_fill_53178_11 : decode cJ7_fill_53178 11 = .ok (.iload_n 2, 1) := by decide +kernel
theorem dJ7_fill_53178_12 : decode cJ7_fill_53178 12 = .ok (.iload_n 1, 1) := by decide +kernel
theorem dJ7_fill_53178_13 : decode cJ7_fill_53178 13 = .ok (.iastore, 1) := by decide +kernel
theorem dJ7_fill_53178_14 : decode cJ7_fill_53178 14 = .ok (.iinc 2 1, 3) := by decide +kernel
theorem dJ7_fill_53178_17 : decode cJ7_fill_53178 17 = .ok (.goto (-12), 3) := by decide +kernel
theorem dJ7_fill_53178_20 : decode cJ7_fill_53178 20 = .ok (.return_, 1) := by decide +kernel
theorem wJ7_fill_53178 : Mw yJ7_fill_53178 cJ7_fill_53178 4 none 2 := ⟨q_286, q_125, by decide, ⟨by decide +kernel, by decide +kernel⟩, by decide +kernel, by decide +kernel⟩
-- a loop of java/util/Arrays.fill at 5
def bJ7_fill_53178_5 (T : Sh) (x0 : Nat) (x1 : Int32) (x3 : Int32) (x2 : Int32) (M : Me) : Option ((Int32 × Me) ⊕ (Me)) :=
  if x3 ≤ x2 then (some (.inr M)) else (gd (kd T x0 = 13) <| gv x2 (ln T x0) <| lt (pI M x0 (Int32.toNatClampNeg x2) x1) fun M6 => lt (x2 + (1 : Int32)) fun v7 => some (.inl (v7, M6)))
def PJ7_fill_53178_5 (X : Fx) (B : Bx) (Z : Nat × Nat × Nat × Nat) (Q : State → Prop) (T : Sh) (x0 : Nat) (x1 : Int32) (x3 : Int32) (s : Int32 × Me) : Prop := G X B 4 Z Q 5 [(0, .ref (x0)), (1, .int (x1)), (2, .int (s.1)), (3, .int (x3))] [] T s.2
def EJ7_fill_53178_5 (X : Fx) (B : Bx) (Z : Nat × Nat × Nat × Nat) (Q : State → Prop) (T : Sh) (x0 : Nat) (x1 : Int32) (x3 : Int32) (r : Me) : Prop := G X B 4 Z Q 20 [] [] T r
set_option maxHeartbeats 4000000 in
theorem tbJ7_fill_53178_5 {X : Fx} {B : Bx} {Z : Nat × Nat × Nat × Nat} {Q : State → Prop} {d : Nat} {T : Sh} (C : Cx X B cJ7_fill_53178 4 RJ7 d Z) (hd : 0 ≤ d) {x0 : Nat} {x1 : Int32} {x3 : Int32} : ∀ (s : Int32 × Me) (o : (Int32 × Me) ⊕ (Me)), bJ7_fill_53178_5 T x0 x1 x3 s.1 s.2 = some o → lpE (PJ7_fill_53178_5 X B Z Q T x0 x1 x3) (EJ7_fill_53178_5 X B Z Q T x0 x1 x3) o → PJ7_fill_53178_5 X B Z Q T x0 x1 x3 s := by
  rintro ⟨x2, M⟩ o h hE
  replace h : bJ7_fill_53178_5 T x0 x1 x3 x2 M = some o := h
  unfold bJ7_fill_53178_5 at h
  show G X B 4 Z Q 5 [(0, .ref (x0)), (1, .int (x1)), (2, .int (x2)), (3, .int (x3))] [] T M
  refine g_iload_n (pc := 5) C dJ7_fill_53178_5 rfl 2 rfl ?_
  refine g_iload_n (pc := 6) C dJ7_fill_53178_6 rfl 3 rfl ?_
  refine g_icmp_ge (pc := 7) (tgt := 20) C dJ7_fill_53178_7 (by decide) (fun c3 => ?_) (fun c3 => ?_)
  · replace h := ifp c3 h
    obtain rfl := Option.some.inj h
    exact g_sub [] rfl (show G X B 4 Z Q 20 [] [] T M from hE)
  · replace h := ifn c3 h
    refine g_aload_n (pc := 10) C dJ7_fill_53178_10 rfl 0 rfl ?_
    refine g_iload_n (pc := 11) C dJ7_fill_53178_11 rfl 2 rfl ?_
    refine g_iload_n (pc := 12) C dJ7_fill_53178_12 rfl 1 rfl ?_
    replace h := gd_some h; obtain ⟨hk4, h⟩ := h
    replace h := gv_some h; obtain ⟨hi5, h⟩ := h
    refine g_iast (pc := 13) C dJ7_fill_53178_13 hk4 hi5 ?_
    refine g_mem (fun M6 eM6 => ?_)
    replace h := lt_at eM6 h
    obtain ⟨v7, ev7⟩ : ∃ y : Int32, y = x2 + (1 : Int32) := ⟨_, rfl⟩
    replace h := lt_at ev7 h
    refine g_iinc (pc := 14) (v := v7) (k := 2) (lo2 := [(2, .int (v7)), (0, .ref (x0)), (1, .int (x1)), (3, .int (x3))]) C dJ7_fill_53178_14 rfl (by rw [ev7]; rfl) (by decide) rfl ?_
    refine g_goto (pc := 17) (tgt := 5) C dJ7_fill_53178_17 (by decide) ?_
    obtain rfl := Option.some.inj h
    exact g_sub [1, 2, 0, 3] rfl (show G X B 4 Z Q 5 [(0, .ref (x0)), (1, .int (x1)), (2, .int (v7)), (3, .int (x3))] [] T M6 from hE)
/-- java/util/Arrays.fill([II)V -/
def fJ7_fill_53178 (T : Sh) (M : Me) (x0 : Nat) (x1 : Int32) : Option (Unit × Me) :=
  gd (kd T x0 = 13) <| lt (nI (ln T x0)) fun v2 => (lp FU (fun s => bJ7_fill_53178_5 T x0 x1 v2 s.1 s.2) ((0 : Int32), M)).bind (fun M8 => some ((), M8))
set_option maxHeartbeats 4000000 in
theorem kJ7_fill_53178 {l : Launch} {B : Bx} {d : Nat} (hd : 0 ≤ d) {T : Sh} {M : Me} {x0 : Nat} {x1 : Int32} {M' : Me} (h : fJ7_fill_53178 T M x0 x1 = some ((), M')) : Kt l B yJ7_fill_53178 cJ7_fill_53178 4 none d [.ref (x0), .int (x1)] T M none T M' := by
  refine kt_of wJ7_fill_53178 (Nat.le_refl _) (Nat.le_refl _) (Nat.le_of_ble_eq_true rfl) (fun X C hR hlx hin => ?_)
  subst hlx
  replace C : Cx X B cJ7_fill_53178 4 RJ7 d (tp T, sl T, tp T, sl T) := C
  unfold fJ7_fill_53178 at h
  show G X B 4 _ _ 0 [(0, .ref (x0)), (1, .int (x1))] [] T M
  refine g_iconst (pc := 0) (v := 0) C dJ7_fill_53178_0 (by decide) ?_
  refine g_istore_n (pc := 1) (lo2 := [(2, .int ((0 : Int32))), (0, .ref (x0)), (1, .int (x1))]) C dJ7_fill_53178_1 rfl (by decide) rfl ?_
  refine g_aload_n (pc := 2) C dJ7_fill_53178_2 rfl 1 rfl ?_
  replace h := gd_some h; obtain ⟨hk1, h⟩ := h
  refine g_alen13 (pc := 3) C dJ7_fill_53178_3 hk1 ?_
  refine g_topi (fun v2 ev2 => ?_)
  replace h := lt_at ev2 h
  refine g_istore_n (pc := 4) (lo2 := [(3, .int (v2)), (2, .int ((0 : Int32))), (0, .ref (x0)), (1, .int (x1))]) C dJ7_fill_53178_4 rfl (by decide) rfl ?_
  replace h := bnd h; obtain ⟨M8, h1, h⟩ := h
  refine g_sub [2, 3, 1, 0] rfl ?_
  refine lp_G2 (P := PJ7_fill_53178_5 X B _ _ T x0 x1 v2) (E := EJ7_fill_53178_5 X B _ _ T x0 x1 v2) (tbJ7_fill_53178_5 C hd) h1 ?_
  show G X B 4 _ _ 20 [] [] T M8
  obtain ⟨-, rfl⟩ := Prod.mk.inj (Option.some.inj h)
  exact g_vret C hR dJ7_fill_53178_20
theorem dJ7_fill_d0a16_0 : decode cJ7_fill_d0a16 0 = .ok (.iconst 0, 1) := by decide +kernel
theorem dJ7_fill_d0a16_1 : decode cJ7_fill_d0a16 1 = .ok (.istore_n 3, 1) := by decide +kernel
theorem dJ7_fill_d0a16_2 : decode cJ7_fill_d0a16 2 = .ok (.aload_n 0, 1) := by decide +kernel
theorem dJ7_fill_d0a16_3 : decode cJ7_fill_d0a16 3 = .ok (.arraylength, 1) := by decide +kernel
theorem dJ7_fill_d0a16_4 : decode cJ7_fill_d0a16 4 = .ok (.istore 4, 2) := by decide +kernel
theorem dJ7_fill_d0a16_6 : decode cJ7_fill_d0a16 6 = .ok (.iload_n 3, 1) := by decide +kernel
theorem dJ7_fill_d0a16_7 : decode cJ7_fill_d0a16 7 = .ok (.iload 4, 2) := by decide +kernel
theorem dJ7_fill_d0a16_9 : decode cJ7_fill_d0a16 9 = .ok (.if_icmp .ge 13, 3) := by decide +kernel
theorem dJ7_fill_d0a16_12 : decode cJ7_fill_d0a16 12 = .ok (.aload_n 0, 1) := by decide +kernel
theorem dJ7_fill_d0a16_13 : decode cJ7_fill_d0a16 13 = .ok (.iload_n 3, 1) := by decide +kernel
theorem dJ7_fill_d0a16_14 : decode cJ7_fill_d0a16 14 = .ok (.lload_n 1, 1) := by decide +kernel
theorem dJ7_fill_d0a16_15 : decode cJ7_fill_d0a16 15 = .ok (.lastore, 1) := by decide +kernel
theorem dJ7_fill_d0a16_16 : decode cJ7_fill_d0a16 16 = .ok (.iinc 3 1, 3) := by decide +kernel
theorem dJ7_fill_d0a16_19 : decode cJ7_fill_d0a16 19 = .ok (.goto (-13), 3) := by decide +kernel
theorem dJ7_fill_d0a16_22 : decode cJ7_fill_d0a16 22 = .ok (.return_, 1) := by decide +kernel
theorem wJ7_fill_d0a16 : Mw yJ7_fill_d0a16 cJ7_fill_d0a16 5 none 2 := ⟨q_1127, q_125, by decide, ⟨by decide +kernel, by decide +kernel⟩, by decide +kernel, by decide +kernel⟩
-- a loop of java/util/Arrays.fill at 6
def bJ7_fill_d0a16_6 (T : Sh) (x0 : Nat) (x1 : Int64) (x4 : Int32) (x3 : Int32) (M : Me) : Option ((Int32 × Me) ⊕ (Me)) :=
  if x4 ≤ x3 then (some (.inr M)) else (gd (kd T x0 = 14) <| gv x3 (ln T x0) <| lt (pJ M x0 (Int32.toNatClampNeg x3) x1) fun M6 => lt (x3 + (1 : Int32)) fun v7 => some (.inl (v7, M6)))
def PJ7_fill_d0a16_6 (X : Fx) (B : Bx) (Z : Nat × Nat × Nat × Nat) (Q : State → Prop) (T : Sh) (x0 : Nat) (x1 : Int64) (x4 : Int32) (s : Int32 × Me) : Prop := G X B 5 Z Q 6 [(0, .ref (x0)), (1, .long (x1)), (3, .int (s.1)), (4, .int (x4))] [] T s.2
def EJ7_fill_d0a16_6 (X : Fx) (B : Bx) (Z : Nat × Nat × Nat × Nat) (Q : State → Prop) (T : Sh) (x0 : Nat) (x1 : Int64) (x4 : Int32) (r : Me) : Prop := G X B 5 Z Q 22 [] [] T r
set_option maxHeartbeats 4000000 in
theorem tbJ7_fill_d0a16_6 {X : Fx} {B : Bx} {Z : Nat × Nat × Nat × Nat} {Q : State → Prop} {d : Nat} {T : Sh} (C : Cx X B cJ7_fill_d0a16 5 RJ7 d Z) (hd : 0 ≤ d) {x0 : Nat} {x1 : Int64} {x4 : Int32} : ∀ (s : Int32 × Me) (o : (Int32 × Me) ⊕ (Me)), bJ7_fill_d0a16_6 T x0 x1 x4 s.1 s.2 = some o → lpE (PJ7_fill_d0a16_6 X B Z Q T x0 x1 x4) (EJ7_fill_d0a16_6 X B Z Q T x0 x1 x4) o → PJ7_fill_d0a16_6 X B Z Q T x0 x1 x4 s := by
  rintro ⟨x3, M⟩ o h hE
  replace h : bJ7_fill_d0a16_6 T x0 x1 x4 x3 M = some o := h
  unfold bJ7_fill_d0a16_6 at h
  show G X B 5 Z Q 6 [(0, .ref (x0)), (1, .long (x1)), (3, .int (x3)), (4, .int (x4))] [] T M
  refine g_iload_n (pc := 6) C dJ7_fill_d0a16_6 rfl 2 rfl ?_
  refine g_iload (pc := 7) C dJ7_fill_d0a16_7 3 rfl ?_
  refine g_icmp_ge (pc := 9) (tgt := 22) C dJ7_fill_d0a16_9 (by decide) (fun c3 => ?_) (fun c3 => ?_)
  · replace h := ifp c3 h
    obtain rfl := Option.some.inj h
    exact g_sub [] rfl (show G X B 5 Z Q 22 [] [] T M from hE)
  · replace h := ifn c3 h
    refine g_aload_n (pc := 12) C dJ7_fill_d0a16_12 rfl 0 rfl ?_
    refine g_iload_n (pc := 13) C dJ7_fill_d0a16_13 rfl 2 rfl ?_
    refine g_lload_n (pc := 14) C dJ7_fill_d0a16_14 rfl 1 rfl ?_
    replace h := gd_some h; obtain ⟨hk4, h⟩ := h
    replace h := gv_some h; obtain ⟨hi5, h⟩ := h
    refine g_last (pc := 15) C dJ7_fill_d0a16_15 hk4 hi5 ?_
    refine g_mem (fun M6 eM6 => ?_)
    replace h := lt_at eM6 h
    obtain ⟨v7, ev7⟩ : ∃ y : Int32, y = x3 + (1 : Int32) := ⟨_, rfl⟩
    replace h := lt_at ev7 h
    refine g_iinc (pc := 16) (v := v7) (k := 2) (lo2 := [(3, .int (v7)), (0, .ref (x0)), (1, .long (x1)), (4, .int (x4))]) C dJ7_fill_d0a16_16 rfl (by rw [ev7]; rfl) (by decide) rfl ?_
    refine g_goto (pc := 19) (tgt := 6) C dJ7_fill_d0a16_19 (by decide) ?_
    obtain rfl := Option.some.inj h
    exact g_sub [1, 2, 0, 3] rfl (show G X B 5 Z Q 6 [(0, .ref (x0)), (1, .long (x1)), (3, .int (v7)), (4, .int (x4))] [] T M6 from hE)
/-- java/util/Arrays.fill([JJ)V -/
def fJ7_fill_d0a16 (T : Sh) (M : Me) (x0 : Nat) (x1 : Int64) : Option (Unit × Me) :=
  gd (kd T x0 = 14) <| lt (nI (ln T x0)) fun v2 => (lp FU (fun s => bJ7_fill_d0a16_6 T x0 x1 v2 s.1 s.2) ((0 : Int32), M)).bind (fun M8 => some ((), M8))
set_option maxHeartbeats 4000000 in
theorem kJ7_fill_d0a16 {l : Launch} {B : Bx} {d : Nat} (hd : 0 ≤ d) {T : Sh} {M : Me} {x0 : Nat} {x1 : Int64} {M' : Me} (h : fJ7_fill_d0a16 T M x0 x1 = some ((), M')) : Kt l B yJ7_fill_d0a16 cJ7_fill_d0a16 5 none d [.ref (x0), .long (x1)] T M none T M' := by
  refine kt_of wJ7_fill_d0a16 (Nat.le_refl _) (Nat.le_refl _) (Nat.le_of_ble_eq_true rfl) (fun X C hR hlx hin => ?_)
  subst hlx
  replace C : Cx X B cJ7_fill_d0a16 5 RJ7 d (tp T, sl T, tp T, sl T) := C
  unfold fJ7_fill_d0a16 at h
  show G X B 5 _ _ 0 [(0, .ref (x0)), (1, .long (x1))] [] T M
  refine g_iconst (pc := 0) (v := 0) C dJ7_fill_d0a16_0 (by decide) ?_
  refine g_istore_n (pc := 1) (lo2 := [(3, .int ((0 : Int32))), (0, .ref (x0)), (1, .long (x1))]) C dJ7_fill_d0a16_1 rfl (by decide) rfl ?_
  refine g_aload_n (pc := 2) C dJ7_fill_d0a16_2 rfl 1 rfl ?_
  replace h := gd_some h; obtain ⟨hk1, h⟩ := h
  refine g_alen14 (pc := 3) C dJ7_fill_d0a16_3 hk1 ?_
  refine g_topi (fun v2 ev2 => ?_)
  replace h := lt_at ev2 h
  refine g_istore (pc := 4) (lo2 := [(4, .int (v2)), (3, .int ((0 : Int32))), (0, .ref (x0)), (1, .long (x1))]) C dJ7_fill_d0a16_4 (by decide) rfl ?_
  replace h := bnd h; obtain ⟨M8, h1, h⟩ := h
  refine g_sub [2, 3, 1, 0] rfl ?_
  refine lp_G2 (P := PJ7_fill_d0a16_6 X B _ _ T x0 x1 v2) (E := EJ7_fill_d0a16_6 X B _ _ T x0 x1 v2) (tbJ7_fill_d0a16_6 C hd) h1 ?_
  show G X B 5 _ _ 22 [] [] T M8
  obtain ⟨-, rfl⟩ := Prod.mk.inj (Option.some.inj h)
  exact g_vret C hR dJ7_fill_d0a16_22
