set_option maxRecDepth 20000 in
theorem q_2 : Cond.selects RX6 yX6_expect yX6_expect ∈ lw_gd := mem_gd (List.mem_of_getElem? (i := 2) (by decide +kernel)) rfl
set_option maxRecDepth 20000 in
theorem q_3 : Cond.selects RX6 yX6_kind yX6_kind ∈ lw_gd := mem_gd (List.mem_of_getElem? (i := 3) (by decide +kernel)) rfl
set_option maxRecDepth 20000 in
theorem q_4 : Cond.selects RX6 yX6_fail yX6_fail ∈ lw_gd := mem_gd (List.mem_of_getElem? (i := 4) (by decide +kernel)) rfl
set_option maxRecDepth 20000 in
theorem q_5 : Cond.selects RX6 yX6_numberBehind yX6_numberBehind ∈ lw_gd := mem_gd (List.mem_of_getElem? (i := 5) (by decide +kernel)) rfl
set_option maxRecDepth 20000 in
theorem q_121 : Cond.initialized RX6 ∈ lw_gd := mem_gd (List.mem_of_getElem? (i := 121) (by decide +kernel)) rfl
set_option maxRecDepth 20000 in
theorem q_163 : Cond.fieldLink RX6 163 "EyeTrainer$Tokens" "kinds" "[I" ∈ lw_gd := mem_gd (List.mem_of_getElem? (i := 163) (by decide +kernel)) rfl
set_option maxRecDepth 20000 in
theorem q_165 : Cond.fieldLink RX6 166 "EyeTrainer$Tokens" "places" "[I" ∈ lw_gd := mem_gd (List.mem_of_getElem? (i := 165) (by decide +kernel)) rfl
set_option maxRecDepth 20000 in
theorem q_167 : Cond.fieldLink RX6 157 "EyeTrainer$Tokens" "values" "[I" ∈ lw_gd := mem_gd (List.mem_of_getElem? (i := 167) (by decide +kernel)) rfl
set_option maxRecDepth 20000 in
theorem q_180 : Cond.fieldLink RX6 12 "EyeTrainer$Reader" "tokens" "LEyeTrainer$Tokens;" ∈ lw_gd := mem_gd (List.mem_of_getElem? (i := 180) (by decide +kernel)) rfl
set_option maxRecDepth 20000 in
theorem q_181 : Cond.fieldLink RX6 30 "EyeTrainer$Reader" "next" "I" ∈ lw_gd := mem_gd (List.mem_of_getElem? (i := 181) (by decide +kernel)) rfl
set_option maxRecDepth 20000 in
theorem q_182 : Cond.fieldLink RX6 33 "EyeTrainer$Reader" "faultKind" "I" ∈ lw_gd := mem_gd (List.mem_of_getElem? (i := 182) (by decide +kernel)) rfl
set_option maxRecDepth 20000 in
theorem q_184 : Cond.fieldLink RX6 18 "EyeTrainer$Reader" "faultPlace" "I" ∈ lw_gd := mem_gd (List.mem_of_getElem? (i := 184) (by decide +kernel)) rfl
set_option maxRecDepth 20000 in
theorem q_186 : Cond.fieldLink RX6 22 "EyeTrainer$Reader" "code" "[I" ∈ lw_gd := mem_gd (List.mem_of_getElem? (i := 186) (by decide +kernel)) rfl
set_option maxRecDepth 20000 in
theorem q_187 : Cond.fieldLink RX6 114 "EyeTrainer$Reader" "coded" "I" ∈ lw_gd := mem_gd (List.mem_of_getElem? (i := 187) (by decide +kernel)) rfl
set_option maxRecDepth 20000 in
theorem q_216 : Cond.fieldLink RX6 90 "EyeTrainer$Lab" "ats" "[I" ∈ lw_gd := mem_gd (List.mem_of_getElem? (i := 216) (by decide +kernel)) rfl
set_option maxRecDepth 20000 in
theorem q_220 : Cond.fieldLink RX6 93 "EyeTrainer$Lab" "mids" "[I" ∈ lw_gd := mem_gd (List.mem_of_getElem? (i := 220) (by decide +kernel)) rfl
set_option maxRecDepth 20000 in
theorem q_224 : Cond.fieldLink RX6 96 "EyeTrainer$Lab" "wides" "[I" ∈ lw_gd := mem_gd (List.mem_of_getElem? (i := 224) (by decide +kernel)) rfl
set_option maxRecDepth 20000 in
theorem q_228 : Cond.fieldLink RX6 99 "EyeTrainer$Lab" "highs" "[I" ∈ lw_gd := mem_gd (List.mem_of_getElem? (i := 228) (by decide +kernel)) rfl
set_option maxRecDepth 20000 in
theorem q_233 : Cond.fieldLink RX6 105 "EyeTrainer$Lab" "stresses" "[I" ∈ lw_gd := mem_gd (List.mem_of_getElem? (i := 233) (by decide +kernel)) rfl
set_option maxRecDepth 20000 in
theorem q_241 : Cond.fieldLink RX6 87 "EyeTrainer$Lab" "lanes" "I" ∈ lw_gd := mem_gd (List.mem_of_getElem? (i := 241) (by decide +kernel)) rfl
set_option maxRecDepth 20000 in
theorem q_243 : Cond.fieldLink RX6 102 "EyeTrainer$Lab" "patterns" "I" ∈ lw_gd := mem_gd (List.mem_of_getElem? (i := 243) (by decide +kernel)) rfl
set_option maxRecDepth 20000 in
theorem q_650 : Cond.methodLink RX6 39 yX6_expect ∈ lw_gd := mem_gd (List.mem_of_getElem? (i := 650) (by decide +kernel)) rfl
set_option maxRecDepth 20000 in
theorem q_652 : Cond.instanceMethod yX6_expect ∈ lw_gd := mem_gd (List.mem_of_getElem? (i := 652) (by decide +kernel)) rfl
set_option maxRecDepth 20000 in
theorem q_653 : Cond.code yX6_expect cX6_expect 2 none ∈ lw_gd := mem_gd (List.mem_of_getElem? (i := 653) (by decide +kernel)) rfl
set_option maxRecDepth 20000 in
theorem q_654 : Cond.methodLink RX6 56 yX6_kind ∈ lw_gd := mem_gd (List.mem_of_getElem? (i := 654) (by decide +kernel)) rfl
set_option maxRecDepth 20000 in
theorem q_656 : Cond.instanceMethod yX6_kind ∈ lw_gd := mem_gd (List.mem_of_getElem? (i := 656) (by decide +kernel)) rfl
set_option maxRecDepth 20000 in
theorem q_657 : Cond.code yX6_kind cX6_kind 1 (some .int) ∈ lw_gd := mem_gd (List.mem_of_getElem? (i := 657) (by decide +kernel)) rfl
set_option maxRecDepth 20000 in
theorem q_658 : Cond.methodLink RX6 84 yX6_fail ∈ lw_gd := mem_gd (List.mem_of_getElem? (i := 658) (by decide +kernel)) rfl
set_option maxRecDepth 20000 in
theorem q_660 : Cond.instanceMethod yX6_fail ∈ lw_gd := mem_gd (List.mem_of_getElem? (i := 660) (by decide +kernel)) rfl
set_option maxRecDepth 20000 in
theorem q_661 : Cond.code yX6_fail cX6_fail 2 none ∈ lw_gd := mem_gd (List.mem_of_getElem? (i := 661) (by decide +kernel)) rfl
set_option maxRecDepth 20000 in
theorem q_662 : Cond.methodLink RX6 43 yX6_numberBehind ∈ lw_gd := mem_gd (List.mem_of_getElem? (i := 662) (by decide +kernel)) rfl
set_option maxRecDepth 20000 in
theorem q_664 : Cond.instanceMethod yX6_numberBehind ∈ lw_gd := mem_gd (List.mem_of_getElem? (i := 664) (by decide +kernel)) rfl
set_option maxRecDepth 20000 in
theorem q_665 : Cond.code yX6_numberBehind cX6_numberBehind 5 (some .int) ∈ lw_gd := mem_gd (List.mem_of_getElem? (i := 665) (by decide +kernel)) rfl
set_option maxRecDepth 20000 in
theorem q_673 : Cond.code yX6_readLane cX6_readLane 3 none ∈ lw_gd := mem_gd (List.mem_of_getElem? (i := 673) (by decide +kernel)) rfl
set_option maxRecDepth 20000 in
theorem q_677 : Cond.code yX6_readPattern cX6_readPattern 2 none ∈ lw_gd := mem_gd (List.mem_of_getElem? (i := 677) (by decide +kernel)) rfl
set_option maxRecDepth 20000 in
theorem q_697 : Cond.code yX6_put cX6_put 3 (some .int) ∈ lw_gd := mem_gd (List.mem_of_getElem? (i := 697) (by decide +kernel)) rfl
set_option maxRecDepth 20000 in
theorem q_701 : Cond.code yX6_goDeeper cX6_goDeeper 2 (some .boolean) ∈ lw_gd := mem_gd (List.mem_of_getElem? (i := 701) (by decide +kernel)) rfl
set_option maxRecDepth 20000 in
theorem q_721 : Cond.code yX6_land cX6_land 2 none ∈ lw_gd := mem_gd (List.mem_of_getElem? (i := 721) (by decide +kernel)) rfl
theorem dX6_kind_0 : decode cX6_kind 0 = .ok (.aload_n 0, 1) := by decide +kernel
theorem dX6_kind_1 : decode cX6_kind 1 = .ok (.getfield 33, 3) := by decide +kernel
theorem dX6_kind_4 : decode cX6_kind 4 = .ok (.ifCond .ne 18, 3) := by decide +kernel
theorem dX6_kind_7 : decode cX6_kind 7 = .ok (.aload_n 0, 1) := by decide +kernel
theorem dX6_kind_8 : decode cX6_kind 8 = .ok (.getfield 30, 3) := by decide +kernel
theorem dX6_kind_11 : decode cX6_kind 11 = .ok (.aload_n 0, 1) := by decide +kernel
theorem dX6_kind_12 : decode cX6_kind 12 = .ok (.getfield 12, 3) := by decide +kernel
theorem dX6_kind_15 : decode cX6_kind 15 = .ok (.getfield 163, 3) := by decide +kernel
theorem dX6_kind_18 : decode cX6_kind 18 = .ok (.arraylength, 1) := by decide +kernel
theorem dX6_kind_19 : decode cX6_kind 19 = .ok (.if_icmp .lt 8, 3) := by decide +kernel
theorem dX6_kind_22 : decode cX6_kind 22 = .ok (.bipush (-2), 2) := by decide +kernel
theorem dX6_kind_24 : decode cX6_kind 24 = .ok (.goto 15, 3) := by decide +kernel
theorem dX6_kind_27 : decode cX6_kind 27 = .ok (.aload_n 0, 1) := by decide +kernel
theorem dX6_kind_28 : decode cX6_kind 28 = .ok (.getfield 12, 3) := by decide +kernel
theorem dX6_kind_31 : decode cX6_kind 31 = .ok (.getfield 163, 3) := by decide +kernel
theorem dX6_kind_34 : decode cX6_kind 34 = .ok (.aload_n 0, 1) := by decide +kernel
theorem dX6_kind_35 : decode cX6_kind 35 = .ok (.getfield 30, 3) := by decide +kernel
theorem dX6_kind_38 : decode cX6_kind 38 = .ok (.iaload, 1) := by decide +kernel
theorem dX6_kind_39 : decode cX6_kind 39 = .ok (.ireturn, 1) := by decide +kernel
theorem wX6_kind : Mw yX6_kind cX6_kind 1 (some .int) 0 := ⟨q_657, q_121, by decide, ⟨by decide +kernel, by decide +kernel⟩, by decide +kernel, by decide +kernel⟩
/-- EyeTrainer$Reader.kind()I -/
def fX6_kind (T : Sh) (M : Me) (x0 : Nat) : Option (Int32) :=
  gd (kd T x0 = 5) <| if (gI M x0 2) = 0 then (Option.bind (gR M x0 0) fun a3 => gd (kd T a3 = 8) <| Option.bind (gR M a3 0) fun a5 => gd (kd T a5 = 13) <| if (gI M x0 1) < (nI (ln T a5)) then (Option.bind (gR M x0 0) fun a8 => gd (kd T a8 = 8) <| Option.bind (gR M a8 0) fun a10 => gd (kd T a10 = 13) <| gv (gI M x0 1) (ln T a10) <| some (gI M a10 (Int32.toNatClampNeg (gI M x0 1)))) else (some (-2 : Int32))) else (some (-2 : Int32))
set_option maxHeartbeats 4000000 in
theorem kX6_kind {l : Launch} {B : Bx} {d : Nat} (hd : 0 ≤ d) {T : Sh} {M : Me} {x0 : Nat} {r : Int32} (h : fX6_kind T M x0 = some r) : Kt l B yX6_kind cX6_kind 1 (some .int) d [.ref (x0)] T M (some (.int r)) T M := by
  refine kt_of wX6_kind (Nat.le_refl _) (Nat.le_refl _) (Nat.le_of_ble_eq_true rfl) (fun X C hR hlx hin => ?_)
  subst hlx
  replace C : Cx X B cX6_kind 1 RX6 d (tp T, sl T, tp T, sl T) := C
  unfold fX6_kind at h
  show G X B 1 _ _ 0 [(0, .ref (x0))] [] T M
  refine g_aload_n (pc := 0) C dX6_kind_0 rfl 0 rfl ?_
  replace h := gd_some h; obtain ⟨hk1, h⟩ := h
  refine g_get (pc := 1) (v := .int (gI M x0 2)) C dX6_kind_1 kX6 hk1 2 (by decide) q_182 rfl ?_
  refine g_if_ne (pc := 4) (tgt := 22) C dX6_kind_4 (by decide) (fun c2 => ?_) (fun c2 => ?_)
  · replace h := ifn c2 h
    refine g_bipush (pc := 22) (v := (-2)) C dX6_kind_22 (by decide) ?_
    refine g_goto (pc := 24) (tgt := 39) C dX6_kind_24 (by decide) ?_
    obtain rfl := Option.some.inj h
    exact g_iret C hR dX6_kind_39
  · replace h := ifp c2 h
    refine g_aload_n (pc := 7) C dX6_kind_7 rfl 0 rfl ?_
    refine g_get (pc := 8) (v := .int (gI M x0 1)) C dX6_kind_8 kX6 hk1 1 (by decide) q_181 rfl ?_
    refine g_aload_n (pc := 11) C dX6_kind_11 rfl 0 rfl ?_
    refine g_get (pc := 12) (v := va_rf (gR M x0 0)) C dX6_kind_12 kX6 hk1 0 (by decide) q_180 rfl ?_
    replace h := bnd h; obtain ⟨a3, ea3, h⟩ := h
    refine g_refq ea3 ?_
    replace h := gd_some h; obtain ⟨hk4, h⟩ := h
    refine g_get (pc := 15) (v := va_rf (gR M a3 0)) C dX6_kind_15 kX9 hk4 0 (by decide) q_163 rfl ?_
    replace h := bnd h; obtain ⟨a5, ea5, h⟩ := h
    refine g_refq ea5 ?_
    replace h := gd_some h; obtain ⟨hk6, h⟩ := h
    refine g_alen13 (pc := 18) C dX6_kind_18 hk6 ?_
    refine g_icmp_lt (pc := 19) (tgt := 27) C dX6_kind_19 (by decide) (fun c7 => ?_) (fun c7 => ?_)
    · replace h := ifp c7 h
      refine g_aload_n (pc := 27) C dX6_kind_27 rfl 0 rfl ?_
      refine g_get (pc := 28) (v := va_rf (gR M x0 0)) C dX6_kind_28 kX6 hk1 0 (by decide) q_180 rfl ?_
      replace h := bnd h; obtain ⟨a8, ea8, h⟩ := h
      refine g_refq ea8 ?_
      replace h := gd_some h; obtain ⟨hk9, h⟩ := h
      refine g_get (pc := 31) (v := va_rf (gR M a8 0)) C dX6_kind_31 kX9 hk9 0 (by decide) q_163 rfl ?_
      replace h := bnd h; obtain ⟨a10, ea10, h⟩ := h
      refine g_refq ea10 ?_
      refine g_aload_n (pc := 34) C dX6_kind_34 rfl 0 rfl ?_
      refine g_get (pc := 35) (v := .int (gI M x0 1)) C dX6_kind_35 kX6 hk1 1 (by decide) q_181 rfl ?_
      replace h := gd_some h; obtain ⟨hk11, h⟩ := h
      replace h := gv_some h; obtain ⟨hi12, h⟩ := h
      refine g_iald (pc := 38) C dX6_kind_38 hk11 hi12 ?_
      obtain rfl := Option.some.inj h
      exact g_iret C hR dX6_kind_39
    · replace h := ifn c7 h
      refine g_bipush (pc := 22) (v := (-2)) C dX6_kind_22 (by decide) ?_
      refine g_goto (pc := 24) (tgt := 39) C dX6_kind_24 (by decide) ?_
      obtain rfl := Option.some.inj h
      exact g_iret C hR dX6_kind_39
theorem dX6_fail_0 : decode cX6_fail 0 = .ok (.aload_n 0, 1) := by decide +kernel
theorem dX6_fail_1 : decode cX6_fail 1 = .ok (.getfield 33, 3) := by decide +kernel
theorem dX6_fail_4 : decode cX6_fail 4 = .ok (.ifCond .ne 55, 3) := by decide +kernel
theorem dX6_fail_7 : decode cX6_fail 7 = .ok (.aload_n 0, 1) := by decide +kernel
theorem dX6_fail_8 : decode cX6_fail 8 = .ok (.aload_n 0, 1) := by decide +kernel
theorem dX6_fail_9 : decode cX6_fail 9 = .ok (.invokevirtual 56, 3) := by decide +kernel
theorem dX6_fail_12 : decode cX6_fail 12 = .ok (.iconst (-1), 1) := by decide +kernel
theorem dX6_fail_13 : decode cX6_fail 13 = .ok (.if_icmp .ne 7, 3) := by decide +kernel
theorem dX6_fail_16 : decode cX6_fail 16 = .ok (.iconst 1, 1) := by decide +kernel
theorem dX6_fail_17 : decode cX6_fail 17 = .ok (.goto 4, 3) := by decide +kernel
theorem dX6_fail_20 : decode cX6_fail 20 = .ok (.iload_n 1, 1) := by decide +kernel
theorem dX6_fail_21 : decode cX6_fail 21 = .ok (.putfield 33, 3) := by decide +kernel
theorem dX6_fail_24 : decode cX6_fail 24 = .ok (.aload_n 0, 1) := by decide +kernel
theorem dX6_fail_25 : decode cX6_fail 25 = .ok (.aload_n 0, 1) := by decide +kernel
theorem dX6_fail_26 : decode cX6_fail 26 = .ok (.getfield 30, 3) := by decide +kernel
theorem dX6_fail_29 : decode cX6_fail 29 = .ok (.aload_n 0, 1) := by decide +kernel
theorem dX6_fail_30 : decode cX6_fail 30 = .ok (.getfield 12, 3) := by decide +kernel
theorem dX6_fail_33 : decode cX6_fail 33 = .ok (.getfield 166, 3) := by decide +kernel
theorem dX6_fail_36 : decode cX6_fail 36 = .ok (.arraylength, 1) := by decide +kernel
theorem dX6_fail_37 : decode cX6_fail 37 = .ok (.if_icmp .ge 18, 3) := by decide +kernel
theorem dX6_fail_40 : decode cX6_fail 40 = .ok (.aload_n 0, 1) := by decide +kernel
theorem dX6_fail_41 : decode cX6_fail 41 = .ok (.getfield 12, 3) := by decide +kernel
theorem dX6_fail_44 : decode cX6_fail 44 = .ok (.getfield 166, 3) := by decide +kernel
theorem dX6_fail_47 : decode cX6_fail 47 = .ok (.aload_n 0, 1) := by decide +kernel
theorem dX6_fail_48 : decode cX6_fail 48 = .ok (.getfield 30, 3) := by decide +kernel
theorem dX6_fail_51 : decode cX6_fail 51 = .ok (.iaload, 1) := by decide +kernel
theorem dX6_fail_52 : decode cX6_fail 52 = .ok (.goto 4, 3) := by decide +kernel
theorem dX6_fail_55 : decode cX6_fail 55 = .ok (.iconst (-1), 1) := by decide +kernel
theorem dX6_fail_56 : decode cX6_fail 56 = .ok (.putfield 18, 3) := by decide +kernel
theorem dX6_fail_59 : decode cX6_fail 59 = .ok (.return_, 1) := by decide +kernel
theorem wX6_fail : Mw yX6_fail cX6_fail 2 none 1 := ⟨q_661, q_121, by decide, ⟨by decide +kernel, by decide +kernel⟩, by decide +kernel, by decide +kernel⟩
def jX6_fail_21 (T : Sh) (M : Me) (x0 : Nat) (s0 : Int32) (s1 : Nat) : Option (Unit × Me) :=
  gd (kd T s1 = 5) <| lt (pI M s1 2 s0) fun M6 => gd (kd T x0 = 5) <| Option.bind (gR M6 x0 0) fun a8 => gd (kd T a8 = 8) <| Option.bind (gR M6 a8 1) fun a10 => gd (kd T a10 = 13) <| if (nI (ln T a10)) ≤ (gI M6 x0 1) then (lt (pI M6 x0 3 (-1 : Int32)) fun M13 => some ((), M13)) else (Option.bind (gR M6 x0 0) fun a14 => gd (kd T a14 = 8) <| Option.bind (gR M6 a14 1) fun a16 => gd (kd T a16 = 13) <| gv (gI M6 x0 1) (ln T a16) <| lt (pI M6 x0 3 (gI M6 a16 (Int32.toNatClampNeg (gI M6 x0 1)))) fun M19 => some ((), M19))
set_option maxHeartbeats 4000000 in
theorem tjX6_fail_21 {X : Fx} {B : Bx} {Z : Nat × Nat × Nat × Nat} {d : Nat} {T : Sh} {M : Me} {x0 : Nat} {s0 : Int32} {s1 : Nat} {M' : Me} (C : Cx X B cX6_fail 2 RX6 d Z) (hR : Rx X none) (hd : 1 ≤ d) (h : jX6_fail_21 T M x0 s0 s1 = some ((), M')) : G X B 2 Z (Qf X B Z none T M') 21 [(0, .ref (x0))] [.int (s0), .ref (s1)] T M := by
  unfold jX6_fail_21 at h
  replace h := gd_some h; obtain ⟨hk5, h⟩ := h
  refine g_putI (pc := 21) C dX6_fail_21 kX6 hk5 2 (by decide) rfl rfl rfl q_182 ?_
  refine g_mem (fun M6 eM6 => ?_)
  replace h := lt_at eM6 h
  refine g_aload_n (pc := 24) C dX6_fail_24 rfl 0 rfl ?_
  refine g_aload_n (pc := 25) C dX6_fail_25 rfl 0 rfl ?_
  replace h := gd_some h; obtain ⟨hk7, h⟩ := h
  refine g_get (pc := 26) (v := .int (gI M6 x0 1)) C dX6_fail_26 kX6 hk7 1 (by decide) q_181 rfl ?_
  refine g_aload_n (pc := 29) C dX6_fail_29 rfl 0 rfl ?_
  refine g_get (pc := 30) (v := va_rf (gR M6 x0 0)) C dX6_fail_30 kX6 hk7 0 (by decide) q_180 rfl ?_
  replace h := bnd h; obtain ⟨a8, ea8, h⟩ := h
  refine g_refq ea8 ?_
  replace h := gd_some h; obtain ⟨hk9, h⟩ := h
  refine g_get (pc := 33) (v := va_rf (gR M6 a8 1)) C dX6_fail_33 kX9 hk9 1 (by decide) q_165 rfl ?_
  replace h := bnd h; obtain ⟨a10, ea10, h⟩ := h
  refine g_refq ea10 ?_
  replace h := gd_some h; obtain ⟨hk11, h⟩ := h
  refine g_alen13 (pc := 36) C dX6_fail_36 hk11 ?_
  refine g_icmp_ge (pc := 37) (tgt := 55) C dX6_fail_37 (by decide) (fun c12 => ?_) (fun c12 => ?_)
  · replace h := ifp c12 h
    refine g_iconst (pc := 55) (v := (-1)) C dX6_fail_55 (by decide) ?_
    refine g_putI (pc := 56) C dX6_fail_56 kX6 hk7 3 (by decide) rfl rfl rfl q_184 ?_
    refine g_mem (fun M13 eM13 => ?_)
    replace h := lt_at eM13 h
    obtain ⟨-, rfl⟩ := Prod.mk.inj (Option.some.inj h)
    exact g_vret C hR dX6_fail_59
  · replace h := ifn c12 h
    refine g_aload_n (pc := 40) C dX6_fail_40 rfl 0 rfl ?_
    refine g_get (pc := 41) (v := va_rf (gR M6 x0 0)) C dX6_fail_41 kX6 hk7 0 (by decide) q_180 rfl ?_
    replace h := bnd h; obtain ⟨a14, ea14, h⟩ := h
    refine g_refq ea14 ?_
    replace h := gd_some h; obtain ⟨hk15, h⟩ := h
    refine g_get (pc := 44) (v := va_rf (gR M6 a14 1)) C dX6_fail_44 kX9 hk15 1 (by decide) q_165 rfl ?_
    replace h := bnd h; obtain ⟨a16, ea16, h⟩ := h
    refine g_refq ea16 ?_
    refine g_aload_n (pc := 47) C dX6_fail_47 rfl 0 rfl ?_
    refine g_get (pc := 48) (v := .int (gI M6 x0 1)) C dX6_fail_48 kX6 hk7 1 (by decide) q_181 rfl ?_
    replace h := gd_some h; obtain ⟨hk17, h⟩ := h
    replace h := gv_some h; obtain ⟨hi18, h⟩ := h
    refine g_iald (pc := 51) C dX6_fail_51 hk17 hi18 ?_
    refine g_goto (pc := 52) (tgt := 56) C dX6_fail_52 (by decide) ?_
    refine g_putI (pc := 56) C dX6_fail_56 kX6 hk7 3 (by decide) rfl rfl rfl q_184 ?_
    refine g_mem (fun M19 eM19 => ?_)
    replace h := lt_at eM19 h
    obtain ⟨-, rfl⟩ := Prod.mk.inj (Option.some.inj h)
    exact g_vret C hR dX6_fail_59
/-- EyeTrainer$Reader.fail(I)V -/
def fX6_fail (T : Sh) (M : Me) (x0 : Nat) (x1 : Int32) : Option (Unit × Me) :=
  gd (kd T x0 = 5) <| if (gI M x0 2) = 0 then (Option.bind (fX6_kind T M x0) fun r3 => if r3 = (-1 : Int32) then (jX6_fail_21 T M x0 (1 : Int32) x0) else (jX6_fail_21 T M x0 x1 x0)) else (some ((), M))
set_option maxHeartbeats 4000000 in
theorem kX6_fail {l : Launch} {B : Bx} {d : Nat} (hd : 1 ≤ d) {T : Sh} {M : Me} {x0 : Nat} {x1 : Int32} {M' : Me} (h : fX6_fail T M x0 x1 = some ((), M')) : Kt l B yX6_fail cX6_fail 2 none d [.ref (x0), .int (x1)] T M none T M' := by
  refine kt_of wX6_fail (Nat.le_refl _) (Nat.le_refl _) (Nat.le_of_ble_eq_true rfl) (fun X C hR hlx hin => ?_)
  subst hlx
  replace C : Cx X B cX6_fail 2 RX6 d (tp T, sl T, tp T, sl T) := C
  unfold fX6_fail at h
  show G X B 2 _ _ 0 [(0, .ref (x0)), (1, .int (x1))] [] T M
  refine g_aload_n (pc := 0) C dX6_fail_0 rfl 0 rfl ?_
  replace h := gd_some h; obtain ⟨hk1, h⟩ := h
  refine g_get (pc := 1) (v := .int (gI M x0 2)) C dX6_fail_1 kX6 hk1 2 (by decide) q_182 rfl ?_
  refine g_if_ne (pc := 4) (tgt := 59) C dX6_fail_4 (by decide) (fun c2 => ?_) (fun c2 => ?_)
  · replace h := ifn c2 h
    obtain ⟨-, rfl⟩ := Prod.mk.inj (Option.some.inj h)
    exact g_vret C hR dX6_fail_59
  · replace h := ifp c2 h
    refine g_aload_n (pc := 7) C dX6_fail_7 rfl 0 rfl ?_
    refine g_aload_n (pc := 8) C dX6_fail_8 rfl 0 rfl ?_
    replace h := bnd h; obtain ⟨r3, h1, h⟩ := h
    refine g_callVi (pc := 9) (As := []) (st := [.ref (x0)]) C dX6_fail_9 wX6_kind hk1 rfl (by decide) q_656 q_3 q_654 (by omega) rfl (Nat.le_of_ble_eq_true rfl) (kX6_kind (d := 0) (Nat.le_refl _) h1) ?_
    refine g_iconst (pc := 12) (v := (-1)) C dX6_fail_12 (by decide) ?_
    refine g_icmp_ne (pc := 13) (tgt := 20) C dX6_fail_13 (by decide) (fun c4 => ?_) (fun c4 => ?_)
    · replace h := ifn c4 h
      refine g_iload_n (pc := 20) C dX6_fail_20 rfl 1 rfl ?_
      exact g_sub [0] rfl (tjX6_fail_21 C hR hd h)
    · replace h := ifp c4 h
      refine g_iconst (pc := 16) (v := 1) C dX6_fail_16 (by decide) ?_
      refine g_goto (pc := 17) (tgt := 21) C dX6_fail_17 (by decide) ?_
      exact g_sub [0] rfl (tjX6_fail_21 C hR hd h)
theorem dX6_expect_0 : decode cX6_expect 0 = .ok (.aload_n 0, 1) := by decide +kernel
theorem dX6_expect_1 : decode cX6_expect 1 = .ok (.invokevirtual 56, 3) := by decide +kernel
theorem dX6_expect_4 : decode cX6_expect 4 = .ok (.iload_n 1, 1) := by decide +kernel
theorem dX6_expect_5 : decode cX6_expect 5 = .ok (.if_icmp .ne 16, 3) := by decide +kernel
theorem dX6_expect_8 : decode cX6_expect 8 = .ok (.aload_n 0, 1) := by decide +kernel
theorem dX6_expect_9 : decode cX6_expect 9 = .ok (.dup, 1) := by decide +kernel
theorem dX6_expect_10 : decode cX6_expect 10 = .ok (.getfield 30, 3) := by decide +kernel
theorem dX6_expect_13 : decode cX6_expect 13 = .ok (.iconst 1, 1) := by decide +kernel
theorem dX6_expect_14 : decode cX6_expect 14 = .ok (.iadd, 1) := by decide +kernel
theorem dX6_expect_15 : decode cX6_expect 15 = .ok (.putfield 30, 3) := by decide +kernel
theorem dX6_expect_18 : decode cX6_expect 18 = .ok (.goto 8, 3) := by decide +kernel
theorem dX6_expect_21 : decode cX6_expect 21 = .ok (.aload_n 0, 1) := by decide +kernel
theorem dX6_expect_22 : decode cX6_expect 22 = .ok (.iconst 2, 1) := by decide +kernel
theorem dX6_expect_23 : decode cX6_expect 23 = .ok (.invokevirtual 84, 3) := by decide +kernel
theorem dX6_expect_26 : decode cX6_expect 26 = .ok (.return_, 1) := by decide +kernel
theorem wX6_expect : Mw yX6_expect cX6_expect 2 none 1 := ⟨q_653, q_121, by decide, ⟨by decide +kernel, by decide +kernel⟩, by decide +kernel, by decide +kernel⟩
/-- EyeTrainer$Reader.expect(I)V -/
def fX6_expect (T : Sh) (M : Me) (x0 : Nat) (x1 : Int32) : Option (Unit × Me) :=
  gd (kd T x0 = 5) <| Option.bind (fX6_kind T M x0) fun r2 => if r2 = x1 then (lt (pI M x0 1 ((gI M x0 1) + (1 : Int32))) fun M5 => some ((), M5)) else (Option.bind (fX6_fail T M x0 (2 : Int32)) <| un2 fun _u M4 => some ((), M4))
set_option maxHeartbeats 4000000 in
theorem kX6_expect {l : Launch} {B : Bx} {d : Nat} (hd : 2 ≤ d) {T : Sh} {M : Me} {x0 : Nat} {x1 : Int32} {M' : Me} (h : fX6_expect T M x0 x1 = some ((), M')) : Kt l B yX6_expect cX6_expect 2 none d [.ref (x0), .int (x1)] T M none T M' := by
  refine kt_of wX6_expect (Nat.le_refl _) (Nat.le_refl _) (Nat.le_of_ble_eq_true rfl) (fun X C hR hlx hin => ?_)
  subst hlx
  replace C : Cx X B cX6_expect 2 RX6 d (tp T, sl T, tp T, sl T) := C
  unfold fX6_expect at h
  show G X B 2 _ _ 0 [(0, .ref (x0)), (1, .int (x1))] [] T M
  refine g_aload_n (pc := 0) C dX6_expect_0 rfl 0 rfl ?_
  replace h := gd_some h; obtain ⟨hk1, h⟩ := h
  replace h := bnd h; obtain ⟨r2, h1, h⟩ := h
  refine g_callVi (pc := 1) (As := []) (st := []) C dX6_expect_1 wX6_kind hk1 rfl (by decide) q_656 q_3 q_654 (by omega) rfl (Nat.le_of_ble_eq_true rfl) (kX6_kind (d := 0) (Nat.le_refl _) h1) ?_
  refine g_iload_n (pc := 4) C dX6_expect_4 rfl 1 rfl ?_
  refine g_icmp_ne (pc := 5) (tgt := 21) C dX6_expect_5 (by decide) (fun c3 => ?_) (fun c3 => ?_)
  · replace h := ifn c3 h
    refine g_aload_n (pc := 21) C dX6_expect_21 rfl 0 rfl ?_
    refine g_iconst (pc := 22) (v := 2) C dX6_expect_22 (by decide) ?_
    replace h := bnd2 h; obtain ⟨_u, M4, h1, h⟩ := h
    refine g_callVv (pc := 23) (As := [.int ((2 : Int32))]) (st := []) C dX6_expect_23 wX6_fail hk1 rfl (by decide) q_660 q_4 q_658 (by omega) rfl (Nat.le_of_ble_eq_true rfl) (kX6_fail (d := 1) (Nat.le_refl _) h1) ?_
    obtain ⟨-, rfl⟩ := Prod.mk.inj (Option.some.inj h)
    exact g_vret C hR dX6_expect_26
  · replace h := ifp c3 h
    refine g_aload_n (pc := 8) C dX6_expect_8 rfl 0 rfl ?_
    refine g_dup (pc := 9) C dX6_expect_9 rfl ?_
    refine g_get (pc := 10) (v := .int (gI M x0 1)) C dX6_expect_10 kX6 hk1 1 (by decide) q_181 rfl ?_
    refine g_iconst (pc := 13) (v := 1) C dX6_expect_13 (by decide) ?_
    refine g_iadd (pc := 14) C dX6_expect_14 ?_
    refine g_putI (pc := 15) C dX6_expect_15 kX6 hk1 1 (by decide) rfl rfl rfl q_181 ?_
    refine g_mem (fun M5 eM5 => ?_)
    replace h := lt_at eM5 h
    refine g_goto (pc := 18) (tgt := 26) C dX6_expect_18 (by decide) ?_
    obtain ⟨-, rfl⟩ := Prod.mk.inj (Option.some.inj h)
    exact g_vret C hR dX6_expect_26
theorem dX6_numberBehind_0 : decode cX6_numberBehind 0 = .ok (.aload_n 0, 1) := by decide +kernel
theorem dX6_numberBehind_1 : decode cX6_numberBehind 1 = .ok (.iload_n 1, 1) := by decide +kernel
theorem dX6_numberBehind_2 : decode cX6_numberBehind 2 = .ok (.invokevirtual 39, 3) := by decide +kernel
theorem dX6_numberBehind_5 : decode cX6_numberBehind 5 = .ok (.aload_n 0, 1) := by decide +kernel
theorem dX6_numberBehind_6 : decode cX6_numberBehind 6 = .ok (.invokevirtual 56, 3) := by decide +kernel
theorem dX6_numberBehind_9 : decode cX6_numberBehind 9 = .ok (.iconst 1, 1) := by decide +kernel
theorem dX6_numberBehind_10 : decode cX6_numberBehind 10 = .ok (.if_icmp .eq 10, 3) := by decide +kernel
theorem dX6_numberBehind_13 : decode cX6_numberBehind 13 = .ok (.aload_n 0, 1) := by decide +kernel
theorem dX6_numberBehind_14 : decode cX6_numberBehind 14 = .ok (.iconst 2, 1) := by decide +kernel
theorem dX6_numberBehind_15 : decode cX6_numberBehind 15 = .ok (.invokevirtual 84, 3) := by decide +kernel
theorem dX6_numberBehind_18 : decode cX6_numberBehind 18 = .ok (.iload_n 2, 1) := by decide +kernel
theorem dX6_numberBehind_19 : decode cX6_numberBehind 19 = .ok (.ireturn, 1) := by decide +kernel
theorem dX6_numberBehind_20 : decode cX6_numberBehind 20 = .ok (.aload_n 0, 1) := by decide +kernel
theorem dX6_numberBehind_21 : decode cX6_numberBehind 21 = .ok (.getfield 12, 3) := by decide +kernel
theorem dX6_numberBehind_24 : decode cX6_numberBehind 24 = .ok (.getfield 157, 3) := by decide +kernel
theorem dX6_numberBehind_27 : decode cX6_numberBehind 27 = .ok (.aload_n 0, 1) := by decide +kernel
theorem dX6_numberBehind_28 : decode cX6_numberBehind 28 = .ok (.getfield 30, 3) := by decide +kernel
theorem dX6_numberBehind_31 : decode cX6_numberBehind 31 = .ok (.iaload, 1) := by decide +kernel
theorem dX6_numberBehind_32 : decode cX6_numberBehind 32 = .ok (.istore 4, 2) := by decide +kernel
theorem dX6_numberBehind_34 : decode cX6_numberBehind 34 = .ok (.iload 4, 2) := by decide +kernel
theorem dX6_numberBehind_36 : decode cX6_numberBehind 36 = .ok (.iload_n 2, 1) := by decide +kernel
theorem dX6_numberBehind_37 : decode cX6_numberBehind 37 = .ok (.if_icmp .lt 9, 3) := by decide +kernel
theorem dX6_numberBehind_40 : decode cX6_numberBehind 40 = .ok (.iload 4, 2) := by decide +kernel
theorem dX6_numberBehind_42 : decode cX6_numberBehind 42 = .ok (.iload_n 3, 1) := by decide +kernel
theorem dX6_numberBehind_43 : decode cX6_numberBehind 43 = .ok (.if_icmp .le 10, 3) := by decide +kernel
theorem dX6_numberBehind_46 : decode cX6_numberBehind 46 = .ok (.aload_n 0, 1) := by decide +kernel
theorem dX6_numberBehind_47 : decode cX6_numberBehind 47 = .ok (.iconst 3, 1) := by decide +kernel
theorem dX6_numberBehind_48 : decode cX6_numberBehind 48 = .ok (.invokevirtual 84, 3) := by decide +kernel
theorem dX6_numberBehind_51 : decode cX6_numberBehind 51 = .ok (.iload_n 2, 1) := by decide +kernel
theorem dX6_numberBehind_52 : decode cX6_numberBehind 52 = .ok (.ireturn, 1) := by decide +kernel
theorem dX6_numberBehind_53 : decode cX6_numberBehind 53 = .ok (.aload_n 0, 1) := by decide +kernel
theorem dX6_numberBehind_54 : decode cX6_numberBehind 54 = .ok (.dup, 1) := by decide +kernel
theorem dX6_numberBehind_55 : decode cX6_numberBehind 55 = .ok (.getfield 30, 3) := by decide +kernel
theorem dX6_numberBehind_58 : decode cX6_numberBehind 58 = .ok (.iconst 1, 1) := by decide +kernel
theorem dX6_numberBehind_59 : decode cX6_numberBehind 59 = .ok (.iadd, 1) := by decide +kernel
theorem dX6_numberBehind_60 : decode cX6_numberBehind 60 = .ok (.putfield 30, 3) := by decide +kernel
theorem dX6_numberBehind_63 : decode cX6_numberBehind 63 = .ok (.iload 4, 2) := by decide +kernel
theorem dX6_numberBehind_65 : decode cX6_numberBehind 65 = .ok (.ireturn, 1) := by decide +kernel
theorem wX6_numberBehind : Mw yX6_numberBehind cX6_numberBehind 5 (some .int) 3 := ⟨q_665, q_121, by decide, ⟨by decide +kernel, by decide +kernel⟩, by decide +kernel, by decide +kernel⟩
/-- EyeTrainer$Reader.numberBehind(III)I -/
def fX6_numberBehind (T : Sh) (M : Me) (x0 : Nat) (x1 : Int32) (x2 : Int32) (x3 : Int32) : Option (Int32 × Me) :=
  gd (kd T x0 = 5) <| Option.bind (fX6_expect T M x0 x1) <| un2 fun _u M2 => Option.bind (fX6_kind T M2 x0) fun r3 => if r3 = (1 : Int32) then (Option.bind (gR M2 x0 0) fun a5 => gd (kd T a5 = 8) <| Option.bind (gR M2 a5 2) fun a7 => gd (kd T a7 = 13) <| gv (gI M2 x0 1) (ln T a7) <| lt (gI M2 a7 (Int32.toNatClampNeg (gI M2 x0 1))) fun v10 => if v10 < x2 then (Option.bind (fX6_fail T M2 x0 (3 : Int32)) <| un2 fun _u M12 => some (x2, M12)) else (if v10 ≤ x3 then (lt (pI M2 x0 1 ((gI M2 x0 1) + (1 : Int32))) fun M14 => some (v10, M14)) else (Option.bind (fX6_fail T M2 x0 (3 : Int32)) <| un2 fun _u M15 => some (x2, M15)))) else (Option.bind (fX6_fail T M2 x0 (2 : Int32)) <| un2 fun _u M16 => some (x2, M16))
set_option maxHeartbeats 4000000 in
theorem kX6_numberBehind {l : Launch} {B : Bx} {d : Nat} (hd : 3 ≤ d) {T : Sh} {M : Me} {x0 : Nat} {x1 : Int32} {x2 : Int32} {x3 : Int32} {r : Int32} {M' : Me} (h : fX6_numberBehind T M x0 x1 x2 x3 = some (r, M')) : Kt l B yX6_numberBehind cX6_numberBehind 5 (some .int) d [.ref (x0), .int (x1), .int (x2), .int (x3)] T M (some (.int r)) T M' := by
  refine kt_of wX6_numberBehind (Nat.le_refl _) (Nat.le_refl _) (Nat.le_of_ble_eq_true rfl) (fun X C hR hlx hin => ?_)
  subst hlx
  replace C : Cx X B cX6_numberBehind 5 RX6 d (tp T, sl T, tp T, sl T) := C
  unfold fX6_numberBehind at h
  show G X B 5 _ _ 0 [(0, .ref (x0)), (1, .int (x1)), (2, .int (x2)), (3, .int (x3))] [] T M
  refine g_aload_n (pc := 0) C dX6_numberBehind_0 rfl 0 rfl ?_
  refine g_iload_n (pc := 1) C dX6_numberBehind_1 rfl 1 rfl ?_
  replace h := gd_some h; obtain ⟨hk1, h⟩ := h
  replace h := bnd2 h; obtain ⟨_u, M2, h1, h⟩ := h
  refine g_callVv (pc := 2) (As := [.int (x1)]) (st := []) C dX6_numberBehind_2 wX6_expect hk1 rfl (by decide) q_652 q_2 q_650 (by omega) rfl (Nat.le_of_ble_eq_true rfl) (kX6_expect (d := 2) (Nat.le_refl _) h1) ?_
  refine g_aload_n (pc := 5) C dX6_numberBehind_5 rfl 0 rfl ?_
  replace h := bnd h; obtain ⟨r3, h1, h⟩ := h
  refine g_callVi (pc := 6) (As := []) (st := []) C dX6_numberBehind_6 wX6_kind hk1 rfl (by decide) q_656 q_3 q_654 (by omega) rfl (Nat.le_of_ble_eq_true rfl) (kX6_kind (d := 0) (Nat.le_refl _) h1) ?_
  refine g_iconst (pc := 9) (v := 1) C dX6_numberBehind_9 (by decide) ?_
  refine g_icmp_eq (pc := 10) (tgt := 20) C dX6_numberBehind_10 (by decide) (fun c4 => ?_) (fun c4 => ?_)
  · replace h := ifp c4 h
    refine g_aload_n (pc := 20) C dX6_numberBehind_20 rfl 0 rfl ?_
    refine g_get (pc := 21) (v := va_rf (gR M2 x0 0)) C dX6_numberBehind_21 kX6 hk1 0 (by decide) q_180 rfl ?_
    replace h := bnd h; obtain ⟨a5, ea5, h⟩ := h
    refine g_refq ea5 ?_
    replace h := gd_some h; obtain ⟨hk6, h⟩ := h
    refine g_get (pc := 24) (v := va_rf (gR M2 a5 2)) C dX6_numberBehind_24 kX9 hk6 2 (by decide) q_167 rfl ?_
    replace h := bnd h; obtain ⟨a7, ea7, h⟩ := h
    refine g_refq ea7 ?_
    refine g_aload_n (pc := 27) C dX6_numberBehind_27 rfl 0 rfl ?_
    refine g_get (pc := 28) (v := .int (gI M2 x0 1)) C dX6_numberBehind_28 kX6 hk1 1 (by decide) q_181 rfl ?_
    replace h := gd_some h; obtain ⟨hk8, h⟩ := h
    replace h := gv_some h; obtain ⟨hi9, h⟩ := h
    refine g_iald (pc := 31) C dX6_numberBehind_31 hk8 hi9 ?_
    refine g_topi (fun v10 ev10 => ?_)
    replace h := lt_at ev10 h
    refine g_istore (pc := 32) (lo2 := [(4, .int (v10)), (0, .ref (x0)), (1, .int (x1)), (2, .int (x2)), (3, .int (x3))]) C dX6_numberBehind_32 (by decide) rfl ?_
    refine g_iload (pc := 34) C dX6_numberBehind_34 0 rfl ?_
    refine g_iload_n (pc := 36) C dX6_numberBehind_36 rfl 3 rfl ?_
    refine g_icmp_lt (pc := 37) (tgt := 46) C dX6_numberBehind_37 (by decide) (fun c11 => ?_) (fun c11 => ?_)
    · replace h := ifp c11 h
      refine g_aload_n (pc := 46) C dX6_numberBehind_46 rfl 1 rfl ?_
      refine g_iconst (pc := 47) (v := 3) C dX6_numberBehind_47 (by decide) ?_
      replace h := bnd2 h; obtain ⟨_u, M12, h1, h⟩ := h
      refine g_callVv (pc := 48) (As := [.int ((3 : Int32))]) (st := []) C dX6_numberBehind_48 wX6_fail hk1 rfl (by decide) q_660 q_4 q_658 (by omega) rfl (Nat.le_of_ble_eq_true rfl) (kX6_fail (d := 1) (Nat.le_refl _) h1) ?_
      refine g_iload_n (pc := 51) C dX6_numberBehind_51 rfl 3 rfl ?_
      obtain ⟨rfl, rfl⟩ := Prod.mk.inj (Option.some.inj h)
      exact g_iret C hR dX6_numberBehind_52
    · replace h := ifn c11 h
      refine g_iload (pc := 40) C dX6_numberBehind_40 0 rfl ?_
      refine g_iload_n (pc := 42) C dX6_numberBehind_42 rfl 4 rfl ?_
      refine g_icmp_le (pc := 43) (tgt := 53) C dX6_numberBehind_43 (by decide) (fun c13 => ?_) (fun c13 => ?_)
      · replace h := ifp c13 h
        refine g_aload_n (pc := 53) C dX6_numberBehind_53 rfl 1 rfl ?_
        refine g_dup (pc := 54) C dX6_numberBehind_54 rfl ?_
        refine g_get (pc := 55) (v := .int (gI M2 x0 1)) C dX6_numberBehind_55 kX6 hk1 1 (by decide) q_181 rfl ?_
        refine g_iconst (pc := 58) (v := 1) C dX6_numberBehind_58 (by decide) ?_
        refine g_iadd (pc := 59) C dX6_numberBehind_59 ?_
        refine g_putI (pc := 60) C dX6_numberBehind_60 kX6 hk1 1 (by decide) rfl rfl rfl q_181 ?_
        refine g_mem (fun M14 eM14 => ?_)
        replace h := lt_at eM14 h
        refine g_iload (pc := 63) C dX6_numberBehind_63 0 rfl ?_
        obtain ⟨rfl, rfl⟩ := Prod.mk.inj (Option.some.inj h)
        exact g_iret C hR dX6_numberBehind_65
      · replace h := ifn c13 h
        refine g_aload_n (pc := 46) C dX6_numberBehind_46 rfl 1 rfl ?_
        refine g_iconst (pc := 47) (v := 3) C dX6_numberBehind_47 (by decide) ?_
        replace h := bnd2 h; obtain ⟨_u, M15, h1, h⟩ := h
        refine g_callVv (pc := 48) (As := [.int ((3 : Int32))]) (st := []) C dX6_numberBehind_48 wX6_fail hk1 rfl (by decide) q_660 q_4 q_658 (by omega) rfl (Nat.le_of_ble_eq_true rfl) (kX6_fail (d := 1) (Nat.le_refl _) h1) ?_
        refine g_iload_n (pc := 51) C dX6_numberBehind_51 rfl 3 rfl ?_
        obtain ⟨rfl, rfl⟩ := Prod.mk.inj (Option.some.inj h)
        exact g_iret C hR dX6_numberBehind_52
  · replace h := ifn c4 h
    refine g_aload_n (pc := 13) C dX6_numberBehind_13 rfl 0 rfl ?_
    refine g_iconst (pc := 14) (v := 2) C dX6_numberBehind_14 (by decide) ?_
    replace h := bnd2 h; obtain ⟨_u, M16, h1, h⟩ := h
    refine g_callVv (pc := 15) (As := [.int ((2 : Int32))]) (st := []) C dX6_numberBehind_15 wX6_fail hk1 rfl (by decide) q_660 q_4 q_658 (by omega) rfl (Nat.le_of_ble_eq_true rfl) (kX6_fail (d := 1) (Nat.le_refl _) h1) ?_
    refine g_iload_n (pc := 18) C dX6_numberBehind_18 rfl 2 rfl ?_
    obtain ⟨rfl, rfl⟩ := Prod.mk.inj (Option.some.inj h)
    exact g_iret C hR dX6_numberBehind_19
theorem dX6_put_0 : decode cX6_put 0 = .ok (.aload_n 0, 1) := by decide +kernel
theorem dX6_put_1 : decode cX6_put 1 = .ok (.getfield 114, 3) := by decide +kernel
theorem dX6_put_4 : decode cX6_put 4 = .ok (.aload_n 0, 1) := by decide +kernel
theorem dX6_put_5 : decode cX6_put 5 = .ok (.getfield 22, 3) := by decide +kernel
theorem dX6_put_8 : decode cX6_put 8 = .ok (.arraylength, 1) := by decide +kernel
theorem dX6_put_9 : decode cX6_put 9 = .ok (.if_icmp .ge 27, 3) := by decide +kernel
theorem dX6_put_12 : decode cX6_put 12 = .ok (.aload_n 0, 1) := by decide +kernel
theorem dX6_put_13 : decode cX6_put 13 = .ok (.getfield 22, 3) := by decide +kernel
theorem dX6_put_16 : decode cX6_put 16 = .ok (.aload_n 0, 1) := by decide +kernel
theorem dX6_put_17 : decode cX6_put 17 = .ok (.getfield 114, 3) := by decide +kernel
theorem dX6_put_20 : decode cX6_put 20 = .ok (.iload_n 1, 1) := by decide +kernel
theorem dX6_put_21 : decode cX6_put 21 = .ok (.iload_n 2, 1) := by decide +kernel
theorem dX6_put_22 : decode cX6_put 22 = .ok (.iconst 4, 1) := by decide +kernel
theorem dX6_put_23 : decode cX6_put 23 = .ok (.ishl, 1) := by decide +kernel
theorem dX6_put_24 : decode cX6_put 24 = .ok (.ior, 1) := by decide +kernel
theorem dX6_put_25 : decode cX6_put 25 = .ok (.iastore, 1) := by decide +kernel
theorem dX6_put_26 : decode cX6_put 26 = .ok (.aload_n 0, 1) := by decide +kernel
theorem dX6_put_27 : decode cX6_put 27 = .ok (.dup, 1) := by decide +kernel
theorem dX6_put_28 : decode cX6_put 28 = .ok (.getfield 114, 3) := by decide +kernel
theorem dX6_put_31 : decode cX6_put 31 = .ok (.iconst 1, 1) := by decide +kernel
theorem dX6_put_32 : decode cX6_put 32 = .ok (.iadd, 1) := by decide +kernel
theorem dX6_put_33 : decode cX6_put 33 = .ok (.putfield 114, 3) := by decide +kernel
theorem dX6_put_36 : decode cX6_put 36 = .ok (.aload_n 0, 1) := by decide +kernel
theorem dX6_put_37 : decode cX6_put 37 = .ok (.getfield 114, 3) := by decide +kernel
theorem dX6_put_40 : decode cX6_put 40 = .ok (.iconst 1, 1) := by decide +kernel
theorem dX6_put_41 : decode cX6_put 41 = .ok (.isub, 1) := by decide +kernel
theorem dX6_put_42 : decode cX6_put 42 = .ok (.ireturn, 1) := by decide +kernel
theorem wX6_put : Mw yX6_put cX6_put 3 (some .int) 2 := ⟨q_697, q_121, by decide, ⟨by decide +kernel, by decide +kernel⟩, by decide +kernel, by decide +kernel⟩
/-- EyeTrainer$Reader.put(II)I -/
def fX6_put (T : Sh) (M : Me) (x0 : Nat) (x1 : Int32) (x2 : Int32) : Option (Int32 × Me) :=
  gd (kd T x0 = 5) <| Option.bind (gR M x0 4) fun a2 => gd (kd T a2 = 13) <| if (nI (ln T a2)) ≤ (gI M x0 5) then (some (((gI M x0 5) - (1 : Int32)), M)) else (Option.bind (gR M x0 4) fun a5 => gd (kd T a5 = 13) <| gv (gI M x0 5) (ln T a5) <| lt (pI M a5 (Int32.toNatClampNeg (gI M x0 5)) (x1 ||| (x2 <<< ((4 : Int32) &&& 31)))) fun M8 => lt (pI M8 x0 5 ((gI M8 x0 5) + (1 : Int32))) fun M9 => some (((gI M9 x0 5) - (1 : Int32)), M9))
set_option maxHeartbeats 4000000 in
theorem kX6_put {l : Launch} {B : Bx} {d : Nat} (hd : 0 ≤ d) {T : Sh} {M : Me} {x0 : Nat} {x1 : Int32} {x2 : Int32} {r : Int32} {M' : Me} (h : fX6_put T M x0 x1 x2 = some (r, M')) : Kt l B yX6_put cX6_put 3 (some .int) d [.ref (x0), .int (x1), .int (x2)] T M (some (.int r)) T M' := by
  refine kt_of wX6_put (Nat.le_refl _) (Nat.le_refl _) (Nat.le_of_ble_eq_true rfl) (fun X C hR hlx hin => ?_)
  subst hlx
  replace C : Cx X B cX6_put 3 RX6 d (tp T, sl T, tp T, sl T) := C
  unfold fX6_put at h
  show G X B 3 _ _ 0 [(0, .ref (x0)), (1, .int (x1)), (2, .int (x2))] [] T M
  refine g_aload_n (pc := 0) C dX6_put_0 rfl 0 rfl ?_
  replace h := gd_some h; obtain ⟨hk1, h⟩ := h
  refine g_get (pc := 1) (v := .int (gI M x0 5)) C dX6_put_1 kX6 hk1 5 (by decide) q_187 rfl ?_
  refine g_aload_n (pc := 4) C dX6_put_4 rfl 0 rfl ?_
  refine g_get (pc := 5) (v := va_rf (gR M x0 4)) C dX6_put_5 kX6 hk1 4 (by decide) q_186 rfl ?_
  replace h := bnd h; obtain ⟨a2, ea2, h⟩ := h
  refine g_refq ea2 ?_
  replace h := gd_some h; obtain ⟨hk3, h⟩ := h
  refine g_alen13 (pc := 8) C dX6_put_8 hk3 ?_
  refine g_icmp_ge (pc := 9) (tgt := 36) C dX6_put_9 (by decide) (fun c4 => ?_) (fun c4 => ?_)
  · replace h := ifp c4 h
    refine g_aload_n (pc := 36) C dX6_put_36 rfl 0 rfl ?_
    refine g_get (pc := 37) (v := .int (gI M x0 5)) C dX6_put_37 kX6 hk1 5 (by decide) q_187 rfl ?_
    refine g_iconst (pc := 40) (v := 1) C dX6_put_40 (by decide) ?_
    refine g_isub (pc := 41) C dX6_put_41 ?_
    obtain ⟨rfl, rfl⟩ := Prod.mk.inj (Option.some.inj h)
    exact g_iret C hR dX6_put_42
  · replace h := ifn c4 h
    refine g_aload_n (pc := 12) C dX6_put_12 rfl 0 rfl ?_
    refine g_get (pc := 13) (v := va_rf (gR M x0 4)) C dX6_put_13 kX6 hk1 4 (by decide) q_186 rfl ?_
    replace h := bnd h; obtain ⟨a5, ea5, h⟩ := h
    refine g_refq ea5 ?_
    refine g_aload_n (pc := 16) C dX6_put_16 rfl 0 rfl ?_
    refine g_get (pc := 17) (v := .int (gI M x0 5)) C dX6_put_17 kX6 hk1 5 (by decide) q_187 rfl ?_
    refine g_iload_n (pc := 20) C dX6_put_20 rfl 1 rfl ?_
    refine g_iload_n (pc := 21) C dX6_put_21 rfl 2 rfl ?_
    refine g_iconst (pc := 22) (v := 4) C dX6_put_22 (by decide) ?_
    refine g_ishl (pc := 23) C dX6_put_23 ?_
    refine g_ior (pc := 24) C dX6_put_24 ?_
    replace h := gd_some h; obtain ⟨hk6, h⟩ := h
    replace h := gv_some h; obtain ⟨hi7, h⟩ := h
    refine g_iast (pc := 25) C dX6_put_25 hk6 hi7 ?_
    refine g_mem (fun M8 eM8 => ?_)
    replace h := lt_at eM8 h
    refine g_aload_n (pc := 26) C dX6_put_26 rfl 0 rfl ?_
    refine g_dup (pc := 27) C dX6_put_27 rfl ?_
    refine g_get (pc := 28) (v := .int (gI M8 x0 5)) C dX6_put_28 kX6 hk1 5 (by decide) q_187 rfl ?_
    refine g_iconst (pc := 31) (v := 1) C dX6_put_31 (by decide) ?_
    refine g_iadd (pc := 32) C dX6_put_32 ?_
    refine g_putI (pc := 33) C dX6_put_33 kX6 hk1 5 (by decide) rfl rfl rfl q_187 ?_
    refine g_mem (fun M9 eM9 => ?_)
    replace h := lt_at eM9 h
    refine g_aload_n (pc := 36) C dX6_put_36 rfl 0 rfl ?_
    refine g_get (pc := 37) (v := .int (gI M9 x0 5)) C dX6_put_37 kX6 hk1 5 (by decide) q_187 rfl ?_
    refine g_iconst (pc := 40) (v := 1) C dX6_put_40 (by decide) ?_
    refine g_isub (pc := 41) C dX6_put_41 ?_
    obtain ⟨rfl, rfl⟩ := Prod.mk.inj (Option.some.inj h)
    exact g_iret C hR dX6_put_42
theorem dX6_land_0 : decode cX6_land 0 = .ok (.iload_n 1, 1) := by decide +kernel
theorem dX6_land_1 : decode cX6_land 1 = .ok (.ifCond .lt 25, 3) := by decide +kernel
theorem dX6_land_4 : decode cX6_land 4 = .ok (.aload_n 0, 1) := by decide +kernel
theorem dX6_land_5 : decode cX6_land 5 = .ok (.getfield 22, 3) := by decide +kernel
theorem dX6_land_8 : decode cX6_land 8 = .ok (.iload_n 1, 1) := by decide +kernel
theorem dX6_land_9 : decode cX6_land 9 = .ok (.aload_n 0, 1) := by decide +kernel
theorem dX6_land_10 : decode cX6_land 10 = .ok (.getfield 22, 3) := by decide +kernel
theorem dX6_land_13 : decode cX6_land 13 = .ok (.iload_n 1, 1) := by decide +kernel
theorem dX6_land_14 : decode cX6_land 14 = .ok (.iaload, 1) := by decide +kernel
theorem dX6_land_15 : decode cX6_land 15 = .ok (.bipush 15, 2) := by decide +kernel
theorem dX6_land_17 : decode cX6_land 17 = .ok (.iand, 1) := by decide +kernel
theorem dX6_land_18 : decode cX6_land 18 = .ok (.aload_n 0, 1) := by decide +kernel
theorem dX6_land_19 : decode cX6_land 19 = .ok (.getfield 114, 3) := by decide +kernel
theorem dX6_land_22 : decode cX6_land 22 = .ok (.iconst 4, 1) := by decide +kernel
theorem dX6_land_23 : decode cX6_land 23 = .ok (.ishl, 1) := by decide +kernel
theorem dX6_land_24 : decode cX6_land 24 = .ok (.ior, 1) := by decide +kernel
theorem dX6_land_25 : decode cX6_land 25 = .ok (.iastore, 1) := by decide +kernel
theorem dX6_land_26 : decode cX6_land 26 = .ok (.return_, 1) := by decide +kernel
theorem wX6_land : Mw yX6_land cX6_land 2 none 1 := ⟨q_721, q_121, by decide, ⟨by decide +kernel, by decide +kernel⟩, by decide +kernel, by decide +kernel⟩
/-- EyeTrainer$Reader.land(I)V -/
def fX6_land (T : Sh) (M : Me) (x0 : Nat) (x1 : Int32) : Option (Unit × Me) :=
  if x1 < 0 then (some ((), M)) else (gd (kd T x0 = 5) <| Option.bind (gR M x0 4) fun a3 => Option.bind (gR M x0 4) fun a4 => gd (kd T a4 = 13) <| gv x1 (ln T a4) <| gd (kd T a3 = 13) <| gv x1 (ln T a3) <| lt (pI M a3 (Int32.toNatClampNeg x1) (((gI M a4 (Int32.toNatClampNeg x1)) &&& (15 : Int32)) ||| ((gI M x0 5) <<< ((4 : Int32) &&& 31)))) fun M9 => some ((), M9))
set_option maxHeartbeats 4000000 in
theorem kX6_land {l : Launch} {B : Bx} {d : Nat} (hd : 0 ≤ d) {T : Sh} {M : Me} {x0 : Nat} {x1 : Int32} {M' : Me} (h : fX6_land T M x0 x1 = some ((), M')) : Kt l B yX6_land cX6_land 2 none d [.ref (x0), .int (x1)] T M none T M' := by
  refine kt_of wX6_land (Nat.le_refl _) (Nat.le_refl _) (Nat.le_of_ble_eq_true rfl) (fun X C hR hlx hin => ?_)
  subst hlx
  replace C : Cx X B cX6_land 2 RX6 d (tp T, sl T, tp T, sl T) := C
  unfold fX6_land at h
  show G X B 2 _ _ 0 [(0, .ref (x0)), (1, .int (x1))] [] T M
  refine g_iload_n (pc := 0) C dX6_land_0 rfl 1 rfl ?_
  refine g_if_lt (pc := 1) (tgt := 26) C dX6_land_1 (by decide) (fun c1 => ?_) (fun c1 => ?_)
  · replace h := ifp c1 h
    obtain ⟨-, rfl⟩ := Prod.mk.inj (Option.some.inj h)
    exact g_vret C hR dX6_land_26
  · replace h := ifn c1 h
    refine g_aload_n (pc := 4) C dX6_land_4 rfl 0 rfl ?_
    replace h := gd_some h; obtain ⟨hk2, h⟩ := h
    refine g_get (pc := 5) (v := va_rf (gR M x0 4)) C dX6_land_5 kX6 hk2 4 (by decide) q_186 rfl ?_
    replace h := bnd h; obtain ⟨a3, ea3, h⟩ := h
    refine g_refq ea3 ?_
    refine g_iload_n (pc := 8) C dX6_land_8 rfl 1 rfl ?_
    refine g_aload_n (pc := 9) C dX6_land_9 rfl 0 rfl ?_
    refine g_get (pc := 10) (v := va_rf (gR M x0 4)) C dX6_land_10 kX6 hk2 4 (by decide) q_186 rfl ?_
    replace h := bnd h; obtain ⟨a4, ea4, h⟩ := h
    refine g_refq ea4 ?_
    refine g_iload_n (pc := 13) C dX6_land_13 rfl 1 rfl ?_
    replace h := gd_some h; obtain ⟨hk5, h⟩ := h
    replace h := gv_some h; obtain ⟨hi6, h⟩ := h
    refine g_iald (pc := 14) C dX6_land_14 hk5 hi6 ?_
    refine g_bipush (pc := 15) (v := 15) C dX6_land_15 (by decide) ?_
    refine g_iand (pc := 17) C dX6_land_17 ?_
    refine g_aload_n (pc := 18) C dX6_land_18 rfl 0 rfl ?_
    refine g_get (pc := 19) (v := .int (gI M x0 5)) C dX6_land_19 kX6 hk2 5 (by decide) q_187 rfl ?_
    refine g_iconst (pc := 22) (v := 4) C dX6_land_22 (by decide) ?_
    refine g_ishl (pc := 23) C dX6_land_23 ?_
    refine g_ior (pc := 24) C dX6_land_24 ?_
    replace h := gd_some h; obtain ⟨hk7, h⟩ := h
    replace h := gv_some h; obtain ⟨hi8, h⟩ := h
    refine g_iast (pc := 25) C dX6_land_25 hk7 hi8 ?_
    refine g_mem (fun M9 eM9 => ?_)
    replace h := lt_at eM9 h
    obtain ⟨-, rfl⟩ := Prod.mk.inj (Option.some.inj h)
    exact g_vret C hR dX6_land_26
theorem dX6_goDeeper_0 : decode cX6_goDeeper 0 = .ok (.iload_n 1, 1) := by decide +kernel
theorem dX6_goDeeper_1 : decode cX6_goDeeper 1 = .ok (.bipush 6, 2) := by decide +kernel
theorem dX6_goDeeper_3 : decode cX6_goDeeper 3 = .ok (.if_icmp .lt 10, 3) := by decide +kernel
theorem dX6_goDeeper_6 : decode cX6_goDeeper 6 = .ok (.aload_n 0, 1) := by decide +kernel
theorem dX6_goDeeper_7 : decode cX6_goDeeper 7 = .ok (.iconst 4, 1) := by decide +kernel
theorem dX6_goDeeper_8 : decode cX6_goDeeper 8 = .ok (.invokevirtual 84, 3) := by decide +kernel
theorem dX6_goDeeper_11 : decode cX6_goDeeper 11 = .ok (.iconst 0, 1) := by decide +kernel
theorem dX6_goDeeper_12 : decode cX6_goDeeper 12 = .ok (.ireturn, 1) := by decide +kernel
theorem dX6_goDeeper_13 : decode cX6_goDeeper 13 = .ok (.aload_n 0, 1) := by decide +kernel
theorem dX6_goDeeper_14 : decode cX6_goDeeper 14 = .ok (.dup, 1) := by decide +kernel
theorem dX6_goDeeper_15 : decode cX6_goDeeper 15 = .ok (.getfield 30, 3) := by decide +kernel
theorem dX6_goDeeper_18 : decode cX6_goDeeper 18 = .ok (.iconst 1, 1) := by decide +kernel
theorem dX6_goDeeper_19 : decode cX6_goDeeper 19 = .ok (.iadd, 1) := by decide +kernel
theorem dX6_goDeeper_20 : decode cX6_goDeeper 20 = .ok (.putfield 30, 3) := by decide +kernel
theorem dX6_goDeeper_23 : decode cX6_goDeeper 23 = .ok (.iconst 1, 1) := by decide +kernel
theorem dX6_goDeeper_24 : decode cX6_goDeeper 24 = .ok (.ireturn, 1) := by decide +kernel
theorem wX6_goDeeper : Mw yX6_goDeeper cX6_goDeeper 2 (some .boolean) 1 := ⟨q_701, q_121, by decide, ⟨by decide +kernel, by decide +kernel⟩, by decide +kernel, by decide +kernel⟩
/-- EyeTrainer$Reader.goDeeper(I)Z -/
def fX6_goDeeper (T : Sh) (M : Me) (x0 : Nat) (x1 : Int32) : Option (Int32 × Me) :=
  if x1 < (6 : Int32) then (gd (kd T x0 = 5) <| lt (pI M x0 1 ((gI M x0 1) + (1 : Int32))) fun M3 => some ((1 : Int32), M3)) else (gd (kd T x0 = 5) <| Option.bind (fX6_fail T M x0 (4 : Int32)) <| un2 fun _u M5 => some ((0 : Int32), M5))
set_option maxHeartbeats 4000000 in
theorem kX6_goDeeper {l : Launch} {B : Bx} {d : Nat} (hd : 2 ≤ d) {T : Sh} {M : Me} {x0 : Nat} {x1 : Int32} {r : Int32} {M' : Me} (h : fX6_goDeeper T M x0 x1 = some (r, M')) : Kt l B yX6_goDeeper cX6_goDeeper 2 (some .boolean) d [.ref (x0), .int (x1)] T M (some (.int r)) T M' := by
  refine kt_of wX6_goDeeper (Nat.le_refl _) (Nat.le_refl _) (Nat.le_of_ble_eq_true rfl) (fun X C hR hlx hin => ?_)
  subst hlx
  replace C : Cx X B cX6_goDeeper 2 RX6 d (tp T, sl T, tp T, sl T) := C
  unfold fX6_goDeeper at h
  show G X B 2 _ _ 0 [(0, .ref (x0)), (1, .int (x1))] [] T M
  refine g_iload_n (pc := 0) C dX6_goDeeper_0 rfl 1 rfl ?_
  refine g_bipush (pc := 1) (v := 6) C dX6_goDeeper_1 (by decide) ?_
  refine g_icmp_lt (pc := 3) (tgt := 13) C dX6_goDeeper_3 (by decide) (fun c1 => ?_) (fun c1 => ?_)
  · replace h := ifp c1 h
    refine g_aload_n (pc := 13) C dX6_goDeeper_13 rfl 0 rfl ?_
    refine g_dup (pc := 14) C dX6_goDeeper_14 rfl ?_
    replace h := gd_some h; obtain ⟨hk2, h⟩ := h
    refine g_get (pc := 15) (v := .int (gI M x0 1)) C dX6_goDeeper_15 kX6 hk2 1 (by decide) q_181 rfl ?_
    refine g_iconst (pc := 18) (v := 1) C dX6_goDeeper_18 (by decide) ?_
    refine g_iadd (pc := 19) C dX6_goDeeper_19 ?_
    refine g_putI (pc := 20) C dX6_goDeeper_20 kX6 hk2 1 (by decide) rfl rfl rfl q_181 ?_
    refine g_mem (fun M3 eM3 => ?_)
    replace h := lt_at eM3 h
    refine g_iconst (pc := 23) (v := 1) C dX6_goDeeper_23 (by decide) ?_
    obtain ⟨rfl, rfl⟩ := Prod.mk.inj (Option.some.inj h)
    exact g_zret C hR dX6_goDeeper_24 rfl
  · replace h := ifn c1 h
    refine g_aload_n (pc := 6) C dX6_goDeeper_6 rfl 0 rfl ?_
    refine g_iconst (pc := 7) (v := 4) C dX6_goDeeper_7 (by decide) ?_
    replace h := gd_some h; obtain ⟨hk4, h⟩ := h
    replace h := bnd2 h; obtain ⟨_u, M5, h1, h⟩ := h
    refine g_callVv (pc := 8) (As := [.int ((4 : Int32))]) (st := []) C dX6_goDeeper_8 wX6_fail hk4 rfl (by decide) q_660 q_4 q_658 (by omega) rfl (Nat.le_of_ble_eq_true rfl) (kX6_fail (d := 1) (Nat.le_refl _) h1) ?_
    refine g_iconst (pc := 11) (v := 0) C dX6_goDeeper_11 (by decide) ?_
    obtain ⟨rfl, rfl⟩ := Prod.mk.inj (Option.some.inj h)
    exact g_zret C hR dX6_goDeeper_12 rfl
theorem dX6_readLane_0 : decode cX6_readLane 0 = .ok (.aload_n 1, 1) := by decide +kernel
theorem dX6_readLane_1 : decode cX6_readLane 1 = .ok (.getfield 87, 3) := by decide +kernel
theorem dX6_readLane_4 : decode cX6_readLane 4 = .ok (.istore_n 2, 1) := by decide +kernel
theorem dX6_readLane_5 : decode cX6_readLane 5 = .ok (.iload_n 2, 1) := by decide +kernel
theorem dX6_readLane_6 : decode cX6_readLane 6 = .ok (.bipush 6, 2) := by decide +kernel
theorem dX6_readLane_8 : decode cX6_readLane 8 = .ok (.if_icmp .lt 9, 3) := by decide +kernel
theorem dX6_readLane_11 : decode cX6_readLane 11 = .ok (.aload_n 0, 1) := by decide +kernel
theorem dX6_readLane_12 : decode cX6_readLane 12 = .ok (.iconst 4, 1) := by decide +kernel
theorem dX6_readLane_13 : decode cX6_readLane 13 = .ok (.invokevirtual 84, 3) := by decide +kernel
theorem dX6_readLane_16 : decode cX6_readLane 16 = .ok (.return_, 1) := by decide +kernel
theorem dX6_readLane_17 : decode cX6_readLane 17 = .ok (.aload_n 0, 1) := by decide +kernel
theorem dX6_readLane_18 : decode cX6_readLane 18 = .ok (.dup, 1) := by decide +kernel
theorem dX6_readLane_19 : decode cX6_readLane 19 = .ok (.getfield 30, 3) := by decide +kernel
theorem dX6_readLane_22 : decode cX6_readLane 22 = .ok (.iconst 1, 1) := by decide +kernel
theorem dX6_readLane_23 : decode cX6_readLane 23 = .ok (.iadd, 1) := by decide +kernel
theorem dX6_readLane_24 : decode cX6_readLane 24 = .ok (.putfield 30, 3) := by decide +kernel
theorem dX6_readLane_27 : decode cX6_readLane 27 = .ok (.aload_n 1, 1) := by decide +kernel
theorem dX6_readLane_28 : decode cX6_readLane 28 = .ok (.getfield 90, 3) := by decide +kernel
theorem dX6_readLane_31 : decode cX6_readLane 31 = .ok (.iload_n 2, 1) := by decide +kernel
theorem dX6_readLane_32 : decode cX6_readLane 32 = .ok (.aload_n 0, 1) := by decide +kernel
theorem dX6_readLane_33 : decode cX6_readLane 33 = .ok (.sipush 209, 3) := by decide +kernel
theorem dX6_readLane_36 : decode cX6_readLane 36 = .ok (.iconst 0, 1) := by decide +kernel
theorem dX6_readLane_37 : decode cX6_readLane 37 = .ok (.bipush 23, 2) := by decide +kernel
theorem dX6_readLane_39 : decode cX6_readLane 39 = .ok (.invokevirtual 43, 3) := by decide +kernel
theorem dX6_readLane_42 : decode cX6_readLane 42 = .ok (.iastore, 1) := by decide +kernel
theorem dX6_readLane_43 : decode cX6_readLane 43 = .ok (.aload_n 1, 1) := by decide +kernel
theorem dX6_readLane_44 : decode cX6_readLane 44 = .ok (.getfield 93, 3) := by decide +kernel
theorem dX6_readLane_47 : decode cX6_readLane 47 = .ok (.iload_n 2, 1) := by decide +kernel
theorem dX6_readLane_48 : decode cX6_readLane 48 = .ok (.aload_n 0, 1) := by decide +kernel
theorem dX6_readLane_49 : decode cX6_readLane 49 = .ok (.sipush 201, 3) := by decide +kernel
theorem dX6_readLane_52 : decode cX6_readLane 52 = .ok (.iconst 0, 1) := by decide +kernel
theorem dX6_readLane_53 : decode cX6_readLane 53 = .ok (.bipush 15, 2) := by decide +kernel
theorem dX6_readLane_55 : decode cX6_readLane 55 = .ok (.invokevirtual 43, 3) := by decide +kernel
theorem dX6_readLane_58 : decode cX6_readLane 58 = .ok (.iastore, 1) := by decide +kernel
theorem dX6_readLane_59 : decode cX6_readLane 59 = .ok (.aload_n 1, 1) := by decide +kernel
theorem dX6_readLane_60 : decode cX6_readLane 60 = .ok (.getfield 96, 3) := by decide +kernel
theorem dX6_readLane_63 : decode cX6_readLane 63 = .ok (.iload_n 2, 1) := by decide +kernel
theorem dX6_readLane_64 : decode cX6_readLane 64 = .ok (.aload_n 0, 1) := by decide +kernel
theorem dX6_readLane_65 : decode cX6_readLane 65 = .ok (.sipush 210, 3) := by decide +kernel
theorem dX6_readLane_68 : decode cX6_readLane 68 = .ok (.iconst 1, 1) := by decide +kernel
theorem dX6_readLane_69 : decode cX6_readLane 69 = .ok (.bipush 24, 2) := by decide +kernel
theorem dX6_readLane_71 : decode cX6_readLane 71 = .ok (.invokevirtual 43, 3) := by decide +kernel
theorem dX6_readLane_74 : decode cX6_readLane 74 = .ok (.iastore, 1) := by decide +kernel
theorem dX6_readLane_75 : decode cX6_readLane 75 = .ok (.aload_n 1, 1) := by decide +kernel
theorem dX6_readLane_76 : decode cX6_readLane 76 = .ok (.getfield 99, 3) := by decide +kernel
theorem dX6_readLane_79 : decode cX6_readLane 79 = .ok (.iload_n 2, 1) := by decide +kernel
theorem dX6_readLane_80 : decode cX6_readLane 80 = .ok (.aload_n 0, 1) := by decide +kernel
theorem dX6_readLane_81 : decode cX6_readLane 81 = .ok (.sipush 211, 3) := by decide +kernel
theorem dX6_readLane_84 : decode cX6_readLane 84 = .ok (.iconst 1, 1) := by decide +kernel
theorem dX6_readLane_85 : decode cX6_readLane 85 = .ok (.bipush 16, 2) := by decide +kernel
theorem dX6_readLane_87 : decode cX6_readLane 87 = .ok (.invokevirtual 43, 3) := by decide +kernel
theorem dX6_readLane_90 : decode cX6_readLane 90 = .ok (.iastore, 1) := by decide +kernel
theorem dX6_readLane_91 : decode cX6_readLane 91 = .ok (.aload_n 1, 1) := by decide +kernel
theorem dX6_readLane_92 : decode cX6_readLane 92 = .ok (.dup, 1) := by decide +kernel
theorem dX6_readLane_93 : decode cX6_readLane 93 = .ok (.getfield 87, 3) := by decide +kernel
theorem dX6_readLane_96 : decode cX6_readLane 96 = .ok (.iconst 1, 1) := by decide +kernel
theorem dX6_readLane_97 : decode cX6_readLane 97 = .ok (.iadd, 1) := by decide +kernel
theorem dX6_readLane_98 : decode cX6_readLane 98 = .ok (.putfield 87, 3) := by decide +kernel
theorem dX6_readLane_101 : decode cX6_readLane 101 = .ok (.return_, 1) := by decide +kernel
theorem wX6_readLane : Mw yX6_readLane cX6_readLane 3 none 1 := ⟨q_673, q_121, by decide, ⟨by decide +kernel, by decide +kernel⟩, by decide +kernel, by decide +kernel⟩
/-- EyeTrainer$Reader.readLane(LEyeTrainer$Lab;)V -/
def fX6_readLane (T : Sh) (M : Me) (x0 : Nat) (x1 : Nat) : Option (Unit × Me) :=
  gd (kd T x1 = 2) <| lt (gI M x1 7) fun v2 => if v2 < (6 : Int32) then (gd (kd T x0 = 5) <| lt (pI M x0 1 ((gI M x0 1) + (1 : Int32))) fun M5 => Option.bind (gR M5 x1 0) fun a6 => Option.bind (fX6_numberBehind T M5 x0 (209 : Int32) (0 : Int32) (23 : Int32)) <| un2 fun r7 M8 => gd (kd T a6 = 13) <| gv v2 (ln T a6) <| lt (pI M8 a6 (Int32.toNatClampNeg v2) r7) fun M11 => Option.bind (gR M11 x1 1) fun a12 => Option.bind (fX6_numberBehind T M11 x0 (201 : Int32) (0 : Int32) (15 : Int32)) <| un2 fun r13 M14 => gd (kd T a12 = 13) <| gv v2 (ln T a12) <| lt (pI M14 a12 (Int32.toNatClampNeg v2) r13) fun M17 => Option.bind (gR M17 x1 2) fun a18 => Option.bind (fX6_numberBehind T M17 x0 (210 : Int32) (1 : Int32) (24 : Int32)) <| un2 fun r19 M20 => gd (kd T a18 = 13) <| gv v2 (ln T a18) <| lt (pI M20 a18 (Int32.toNatClampNeg v2) r19) fun M23 => Option.bind (gR M23 x1 3) fun a24 => Option.bind (fX6_numberBehind T M23 x0 (211 : Int32) (1 : Int32) (16 : Int32)) <| un2 fun r25 M26 => gd (kd T a24 = 13) <| gv v2 (ln T a24) <| lt (pI M26 a24 (Int32.toNatClampNeg v2) r25) fun M29 => lt (pI M29 x1 7 ((gI M29 x1 7) + (1 : Int32))) fun M30 => some ((), M30)) else (gd (kd T x0 = 5) <| Option.bind (fX6_fail T M x0 (4 : Int32)) <| un2 fun _u M32 => some ((), M32))
set_option maxHeartbeats 4000000 in
theorem kX6_readLane {l : Launch} {B : Bx} {d : Nat} (hd : 4 ≤ d) {T : Sh} {M : Me} {x0 : Nat} {x1 : Nat} {M' : Me} (h : fX6_readLane T M x0 x1 = some ((), M')) : Kt l B yX6_readLane cX6_readLane 3 none d [.ref (x0), .ref (x1)] T M none T M' := by
  refine kt_of wX6_readLane (Nat.le_refl _) (Nat.le_refl _) (Nat.le_of_ble_eq_true rfl) (fun X C hR hlx hin => ?_)
  subst hlx
  replace C : Cx X B cX6_readLane 3 RX6 d (tp T, sl T, tp T, sl T) := C
  unfold fX6_readLane at h
  show G X B 3 _ _ 0 [(0, .ref (x0)), (1, .ref (x1))] [] T M
  refine g_aload_n (pc := 0) C dX6_readLane_0 rfl 1 rfl ?_
  replace h := gd_some h; obtain ⟨hk1, h⟩ := h
  refine g_get (pc := 1) (v := .int (gI M x1 7)) C dX6_readLane_1 kX3 hk1 7 (by decide) q_241 rfl ?_
  refine g_topi (fun v2 ev2 => ?_)
  replace h := lt_at ev2 h
  refine g_istore_n (pc := 4) (lo2 := [(2, .int (v2)), (0, .ref (x0)), (1, .ref (x1))]) C dX6_readLane_4 rfl (by decide) rfl ?_
  refine g_iload_n (pc := 5) C dX6_readLane_5 rfl 0 rfl ?_
  refine g_bipush (pc := 6) (v := 6) C dX6_readLane_6 (by decide) ?_
  refine g_icmp_lt (pc := 8) (tgt := 17) C dX6_readLane_8 (by decide) (fun c3 => ?_) (fun c3 => ?_)
  · replace h := ifp c3 h
    refine g_aload_n (pc := 17) C dX6_readLane_17 rfl 1 rfl ?_
    refine g_dup (pc := 18) C dX6_readLane_18 rfl ?_
    replace h := gd_some h; obtain ⟨hk4, h⟩ := h
    refine g_get (pc := 19) (v := .int (gI M x0 1)) C dX6_readLane_19 kX6 hk4 1 (by decide) q_181 rfl ?_
    refine g_iconst (pc := 22) (v := 1) C dX6_readLane_22 (by decide) ?_
    refine g_iadd (pc := 23) C dX6_readLane_23 ?_
    refine g_putI (pc := 24) C dX6_readLane_24 kX6 hk4 1 (by decide) rfl rfl rfl q_181 ?_
    refine g_mem (fun M5 eM5 => ?_)
    replace h := lt_at eM5 h
    refine g_aload_n (pc := 27) C dX6_readLane_27 rfl 2 rfl ?_
    refine g_get (pc := 28) (v := va_rf (gR M5 x1 0)) C dX6_readLane_28 kX3 hk1 0 (by decide) q_216 rfl ?_
    replace h := bnd h; obtain ⟨a6, ea6, h⟩ := h
    refine g_refq ea6 ?_
    refine g_iload_n (pc := 31) C dX6_readLane_31 rfl 0 rfl ?_
    refine g_aload_n (pc := 32) C dX6_readLane_32 rfl 1 rfl ?_
    refine g_sipush (pc := 33) (v := 209) C dX6_readLane_33 (by decide) ?_
    refine g_iconst (pc := 36) (v := 0) C dX6_readLane_36 (by decide) ?_
    refine g_bipush (pc := 37) (v := 23) C dX6_readLane_37 (by decide) ?_
    replace h := bnd2 h; obtain ⟨r7, M8, h1, h⟩ := h
    refine g_callVi (pc := 39) (As := [.int ((209 : Int32)), .int ((0 : Int32)), .int ((23 : Int32))]) (st := [.int (v2), .ref (a6)]) C dX6_readLane_39 wX6_numberBehind hk4 rfl (by decide) q_664 q_5 q_662 (by omega) rfl (Nat.le_of_ble_eq_true rfl) (kX6_numberBehind (d := 3) (Nat.le_refl _) h1) ?_
    replace h := gd_some h; obtain ⟨hk9, h⟩ := h
    replace h := gv_some h; obtain ⟨hi10, h⟩ := h
    refine g_iast (pc := 42) C dX6_readLane_42 hk9 hi10 ?_
    refine g_mem (fun M11 eM11 => ?_)
    replace h := lt_at eM11 h
    refine g_aload_n (pc := 43) C dX6_readLane_43 rfl 2 rfl ?_
    refine g_get (pc := 44) (v := va_rf (gR M11 x1 1)) C dX6_readLane_44 kX3 hk1 1 (by decide) q_220 rfl ?_
    replace h := bnd h; obtain ⟨a12, ea12, h⟩ := h
    refine g_refq ea12 ?_
    refine g_iload_n (pc := 47) C dX6_readLane_47 rfl 0 rfl ?_
    refine g_aload_n (pc := 48) C dX6_readLane_48 rfl 1 rfl ?_
    refine g_sipush (pc := 49) (v := 201) C dX6_readLane_49 (by decide) ?_
    refine g_iconst (pc := 52) (v := 0) C dX6_readLane_52 (by decide) ?_
    refine g_bipush (pc := 53) (v := 15) C dX6_readLane_53 (by decide) ?_
    replace h := bnd2 h; obtain ⟨r13, M14, h1, h⟩ := h
    refine g_callVi (pc := 55) (As := [.int ((201 : Int32)), .int ((0 : Int32)), .int ((15 : Int32))]) (st := [.int (v2), .ref (a12)]) C dX6_readLane_55 wX6_numberBehind hk4 rfl (by decide) q_664 q_5 q_662 (by omega) rfl (Nat.le_of_ble_eq_true rfl) (kX6_numberBehind (d := 3) (Nat.le_refl _) h1) ?_
    replace h := gd_some h; obtain ⟨hk15, h⟩ := h
    replace h := gv_some h; obtain ⟨hi16, h⟩ := h
    refine g_iast (pc := 58) C dX6_readLane_58 hk15 hi16 ?_
    refine g_mem (fun M17 eM17 => ?_)
    replace h := lt_at eM17 h
    refine g_aload_n (pc := 59) C dX6_readLane_59 rfl 2 rfl ?_
    refine g_get (pc := 60) (v := va_rf (gR M17 x1 2)) C dX6_readLane_60 kX3 hk1 2 (by decide) q_224 rfl ?_
    replace h := bnd h; obtain ⟨a18, ea18, h⟩ := h
    refine g_refq ea18 ?_
    refine g_iload_n (pc := 63) C dX6_readLane_63 rfl 0 rfl ?_
    refine g_aload_n (pc := 64) C dX6_readLane_64 rfl 1 rfl ?_
    refine g_sipush (pc := 65) (v := 210) C dX6_readLane_65 (by decide) ?_
    refine g_iconst (pc := 68) (v := 1) C dX6_readLane_68 (by decide) ?_
    refine g_bipush (pc := 69) (v := 24) C dX6_readLane_69 (by decide) ?_
    replace h := bnd2 h; obtain ⟨r19, M20, h1, h⟩ := h
    refine g_callVi (pc := 71) (As := [.int ((210 : Int32)), .int ((1 : Int32)), .int ((24 : Int32))]) (st := [.int (v2), .ref (a18)]) C dX6_readLane_71 wX6_numberBehind hk4 rfl (by decide) q_664 q_5 q_662 (by omega) rfl (Nat.le_of_ble_eq_true rfl) (kX6_numberBehind (d := 3) (Nat.le_refl _) h1) ?_
    replace h := gd_some h; obtain ⟨hk21, h⟩ := h
    replace h := gv_some h; obtain ⟨hi22, h⟩ := h
    refine g_iast (pc := 74) C dX6_readLane_74 hk21 hi22 ?_
    refine g_mem (fun M23 eM23 => ?_)
    replace h := lt_at eM23 h
    refine g_aload_n (pc := 75) C dX6_readLane_75 rfl 2 rfl ?_
    refine g_get (pc := 76) (v := va_rf (gR M23 x1 3)) C dX6_readLane_76 kX3 hk1 3 (by decide) q_228 rfl ?_
    replace h := bnd h; obtain ⟨a24, ea24, h⟩ := h
    refine g_refq ea24 ?_
    refine g_iload_n (pc := 79) C dX6_readLane_79 rfl 0 rfl ?_
    refine g_aload_n (pc := 80) C dX6_readLane_80 rfl 1 rfl ?_
    refine g_sipush (pc := 81) (v := 211) C dX6_readLane_81 (by decide) ?_
    refine g_iconst (pc := 84) (v := 1) C dX6_readLane_84 (by decide) ?_
    refine g_bipush (pc := 85) (v := 16) C dX6_readLane_85 (by decide) ?_
    replace h := bnd2 h; obtain ⟨r25, M26, h1, h⟩ := h
    refine g_callVi (pc := 87) (As := [.int ((211 : Int32)), .int ((1 : Int32)), .int ((16 : Int32))]) (st := [.int (v2), .ref (a24)]) C dX6_readLane_87 wX6_numberBehind hk4 rfl (by decide) q_664 q_5 q_662 (by omega) rfl (Nat.le_of_ble_eq_true rfl) (kX6_numberBehind (d := 3) (Nat.le_refl _) h1) ?_
    replace h := gd_some h; obtain ⟨hk27, h⟩ := h
    replace h := gv_some h; obtain ⟨hi28, h⟩ := h
    refine g_iast (pc := 90) C dX6_readLane_90 hk27 hi28 ?_
    refine g_mem (fun M29 eM29 => ?_)
    replace h := lt_at eM29 h
    refine g_aload_n (pc := 91) C dX6_readLane_91 rfl 2 rfl ?_
    refine g_dup (pc := 92) C dX6_readLane_92 rfl ?_
    refine g_get (pc := 93) (v := .int (gI M29 x1 7)) C dX6_readLane_93 kX3 hk1 7 (by decide) q_241 rfl ?_
    refine g_iconst (pc := 96) (v := 1) C dX6_readLane_96 (by decide) ?_
    refine g_iadd (pc := 97) C dX6_readLane_97 ?_
    refine g_putI (pc := 98) C dX6_readLane_98 kX3 hk1 7 (by decide) rfl rfl rfl q_241 ?_
    refine g_mem (fun M30 eM30 => ?_)
    replace h := lt_at eM30 h
    obtain ⟨-, rfl⟩ := Prod.mk.inj (Option.some.inj h)
    exact g_vret C hR dX6_readLane_101
  · replace h := ifn c3 h
    refine g_aload_n (pc := 11) C dX6_readLane_11 rfl 1 rfl ?_
    refine g_iconst (pc := 12) (v := 4) C dX6_readLane_12 (by decide) ?_
    replace h := gd_some h; obtain ⟨hk31, h⟩ := h
    replace h := bnd2 h; obtain ⟨_u, M32, h1, h⟩ := h
    refine g_callVv (pc := 13) (As := [.int ((4 : Int32))]) (st := []) C dX6_readLane_13 wX6_fail hk31 rfl (by decide) q_660 q_4 q_658 (by omega) rfl (Nat.le_of_ble_eq_true rfl) (kX6_fail (d := 1) (Nat.le_refl _) h1) ?_
    obtain ⟨-, rfl⟩ := Prod.mk.inj (Option.some.inj h)
    exact g_vret C hR dX6_readLane_16
theorem dX6_readPattern_0 : decode cX6_readPattern 0 = .ok (.aload_n 1, 1) := by decide +kernel
theorem dX6_readPattern_1 : decode cX6_readPattern 1 = .ok (.getfield 102, 3) := by decide +kernel
theorem dX6_readPattern_4 : decode cX6_readPattern 4 = .ok (.iconst 4, 1) := by decide +kernel
theorem dX6_readPattern_5 : decode cX6_readPattern 5 = .ok (.if_icmp .lt 9, 3) := by decide +kernel
theorem dX6_readPattern_8 : decode cX6_readPattern 8 = .ok (.aload_n 0, 1) := by decide +kernel
theorem dX6_readPattern_9 : decode cX6_readPattern 9 = .ok (.iconst 4, 1) := by decide +kernel
theorem dX6_readPattern_10 : decode cX6_readPattern 10 = .ok (.invokevirtual 84, 3) := by decide +kernel
theorem dX6_readPattern_13 : decode cX6_readPattern 13 = .ok (.return_, 1) := by decide +kernel
theorem dX6_readPattern_14 : decode cX6_readPattern 14 = .ok (.aload_n 1, 1) := by decide +kernel
theorem dX6_readPattern_15 : decode cX6_readPattern 15 = .ok (.dup, 1) := by decide +kernel
theorem dX6_readPattern_16 : decode cX6_readPattern 16 = .ok (.getfield 102, 3) := by decide +kernel
theorem dX6_readPattern_19 : decode cX6_readPattern 19 = .ok (.iconst 1, 1) := by decide +kernel
theorem dX6_readPattern_20 : decode cX6_readPattern 20 = .ok (.iadd, 1) := by decide +kernel
theorem dX6_readPattern_21 : decode cX6_readPattern 21 = .ok (.putfield 102, 3) := by decide +kernel
theorem dX6_readPattern_24 : decode cX6_readPattern 24 = .ok (.aload_n 1, 1) := by decide +kernel
theorem dX6_readPattern_25 : decode cX6_readPattern 25 = .ok (.getfield 105, 3) := by decide +kernel
theorem dX6_readPattern_28 : decode cX6_readPattern 28 = .ok (.aload_n 1, 1) := by decide +kernel
theorem dX6_readPattern_29 : decode cX6_readPattern 29 = .ok (.getfield 102, 3) := by decide +kernel
theorem dX6_readPattern_32 : decode cX6_readPattern 32 = .ok (.aload_n 0, 1) := by decide +kernel
theorem dX6_readPattern_33 : decode cX6_readPattern 33 = .ok (.sipush 212, 3) := by decide +kernel
theorem dX6_readPattern_36 : decode cX6_readPattern 36 = .ok (.iconst 0, 1) := by decide +kernel
theorem dX6_readPattern_37 : decode cX6_readPattern 37 = .ok (.bipush 9, 2) := by decide +kernel
theorem dX6_readPattern_39 : decode cX6_readPattern 39 = .ok (.invokevirtual 43, 3) := by decide +kernel
theorem dX6_readPattern_42 : decode cX6_readPattern 42 = .ok (.iastore, 1) := by decide +kernel
theorem dX6_readPattern_43 : decode cX6_readPattern 43 = .ok (.return_, 1) := by decide +kernel
theorem wX6_readPattern : Mw yX6_readPattern cX6_readPattern 2 none 1 := ⟨q_677, q_121, by decide, ⟨by decide +kernel, by decide +kernel⟩, by decide +kernel, by decide +kernel⟩
/-- EyeTrainer$Reader.readPattern(LEyeTrainer$Lab;)V -/
def fX6_readPattern (T : Sh) (M : Me) (x0 : Nat) (x1 : Nat) : Option (Unit × Me) :=
  gd (kd T x1 = 2) <| if (gI M x1 8) < (4 : Int32) then (lt (pI M x1 8 ((gI M x1 8) + (1 : Int32))) fun M3 => Option.bind (gR M3 x1 4) fun a4 => gd (kd T x0 = 5) <| Option.bind (fX6_numberBehind T M3 x0 (212 : Int32) (0 : Int32) (9 : Int32)) <| un2 fun r6 M7 => gd (kd T a4 = 13) <| gv (gI M3 x1 8) (ln T a4) <| lt (pI M7 a4 (Int32.toNatClampNeg (gI M3 x1 8)) r6) fun M10 => some ((), M10)) else (gd (kd T x0 = 5) <| Option.bind (fX6_fail T M x0 (4 : Int32)) <| un2 fun _u M12 => some ((), M12))
set_option maxHeartbeats 4000000 in
theorem kX6_readPattern {l : Launch} {B : Bx} {d : Nat} (hd : 4 ≤ d) {T : Sh} {M : Me} {x0 : Nat} {x1 : Nat} {M' : Me} (h : fX6_readPattern T M x0 x1 = some ((), M')) : Kt l B yX6_readPattern cX6_readPattern 2 none d [.ref (x0), .ref (x1)] T M none T M' := by
  refine kt_of wX6_readPattern (Nat.le_refl _) (Nat.le_refl _) (Nat.le_of_ble_eq_true rfl) (fun X C hR hlx hin => ?_)
  subst hlx
  replace C : Cx X B cX6_readPattern 2 RX6 d (tp T, sl T, tp T, sl T) := C
  unfold fX6_readPattern at h
  show G X B 2 _ _ 0 [(0, .ref (x0)), (1, .ref (x1))] [] T M
  refine g_aload_n (pc := 0) C dX6_readPattern_0 rfl 1 rfl ?_
  replace h := gd_some h; obtain ⟨hk1, h⟩ := h
  refine g_get (pc := 1) (v := .int (gI M x1 8)) C dX6_readPattern_1 kX3 hk1 8 (by decide) q_243 rfl ?_
  refine g_iconst (pc := 4) (v := 4) C dX6_readPattern_4 (by decide) ?_
  refine g_icmp_lt (pc := 5) (tgt := 14) C dX6_readPattern_5 (by decide) (fun c2 => ?_) (fun c2 => ?_)
  · replace h := ifp c2 h
    refine g_aload_n (pc := 14) C dX6_readPattern_14 rfl 1 rfl ?_
    refine g_dup (pc := 15) C dX6_readPattern_15 rfl ?_
    refine g_get (pc := 16) (v := .int (gI M x1 8)) C dX6_readPattern_16 kX3 hk1 8 (by decide) q_243 rfl ?_
    refine g_iconst (pc := 19) (v := 1) C dX6_readPattern_19 (by decide) ?_
    refine g_iadd (pc := 20) C dX6_readPattern_20 ?_
    refine g_putI (pc := 21) C dX6_readPattern_21 kX3 hk1 8 (by decide) rfl rfl rfl q_243 ?_
    refine g_mem (fun M3 eM3 => ?_)
    replace h := lt_at eM3 h
    refine g_aload_n (pc := 24) C dX6_readPattern_24 rfl 1 rfl ?_
    refine g_get (pc := 25) (v := va_rf (gR M3 x1 4)) C dX6_readPattern_25 kX3 hk1 4 (by decide) q_233 rfl ?_
    replace h := bnd h; obtain ⟨a4, ea4, h⟩ := h
    refine g_refq ea4 ?_
    refine g_aload_n (pc := 28) C dX6_readPattern_28 rfl 1 rfl ?_
    refine g_get (pc := 29) (v := .int (gI M3 x1 8)) C dX6_readPattern_29 kX3 hk1 8 (by decide) q_243 rfl ?_
    refine g_aload_n (pc := 32) C dX6_readPattern_32 rfl 0 rfl ?_
    refine g_sipush (pc := 33) (v := 212) C dX6_readPattern_33 (by decide) ?_
    refine g_iconst (pc := 36) (v := 0) C dX6_readPattern_36 (by decide) ?_
    refine g_bipush (pc := 37) (v := 9) C dX6_readPattern_37 (by decide) ?_
    replace h := gd_some h; obtain ⟨hk5, h⟩ := h
    replace h := bnd2 h; obtain ⟨r6, M7, h1, h⟩ := h
    refine g_callVi (pc := 39) (As := [.int ((212 : Int32)), .int ((0 : Int32)), .int ((9 : Int32))]) (st := [.int (gI M3 x1 8), .ref (a4)]) C dX6_readPattern_39 wX6_numberBehind hk5 rfl (by decide) q_664 q_5 q_662 (by omega) rfl (Nat.le_of_ble_eq_true rfl) (kX6_numberBehind (d := 3) (Nat.le_refl _) h1) ?_
    replace h := gd_some h; obtain ⟨hk8, h⟩ := h
    replace h := gv_some h; obtain ⟨hi9, h⟩ := h
    refine g_iast (pc := 42) C dX6_readPattern_42 hk8 hi9 ?_
    refine g_mem (fun M10 eM10 => ?_)
    replace h := lt_at eM10 h
    obtain ⟨-, rfl⟩ := Prod.mk.inj (Option.some.inj h)
    exact g_vret C hR dX6_readPattern_43
  · replace h := ifn c2 h
    refine g_aload_n (pc := 8) C dX6_readPattern_8 rfl 0 rfl ?_
    refine g_iconst (pc := 9) (v := 4) C dX6_readPattern_9 (by decide) ?_
    replace h := gd_some h; obtain ⟨hk11, h⟩ := h
    replace h := bnd2 h; obtain ⟨_u, M12, h1, h⟩ := h
    refine g_callVv (pc := 10) (As := [.int ((4 : Int32))]) (st := []) C dX6_readPattern_10 wX6_fail hk11 rfl (by decide) q_660 q_4 q_658 (by omega) rfl (Nat.le_of_ble_eq_true rfl) (kX6_fail (d := 1) (Nat.le_refl _) h1) ?_
    obtain ⟨-, rfl⟩ := Prod.mk.inj (Option.some.inj h)
    exact g_vret C hR dX6_readPattern_13
