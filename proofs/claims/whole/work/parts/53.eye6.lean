set_option maxRecDepth 20000 in
theorem q_146 : Cond.code yX11_init cX11_init 2 none ∈ lw_gd := mem_gd (List.mem_of_getElem? (i := 146) (by decide +kernel)) rfl
set_option maxRecDepth 20000 in
theorem q_147 : Cond.methodLink RX11 3 Lib.objectInit ∈ lw_gd := mem_gd (List.mem_of_getElem? (i := 147) (by decide +kernel)) rfl
set_option maxRecDepth 20000 in
theorem q_150 : Cond.classLink RX11 13 RX6 ∈ lw_gd := mem_gd (List.mem_of_getElem? (i := 150) (by decide +kernel)) rfl
set_option maxRecDepth 20000 in
theorem q_151 : Cond.instantiable RX6 8 ∈ lw_gd := mem_gd (List.mem_of_getElem? (i := 151) (by decide +kernel)) rfl
set_option maxRecDepth 20000 in
theorem q_152 : Cond.methodLink RX11 15 yX6_init ∈ lw_gd := mem_gd (List.mem_of_getElem? (i := 152) (by decide +kernel)) rfl
set_option maxRecDepth 20000 in
theorem q_153 : Cond.instanceMethod yX6_init ∈ lw_gd := mem_gd (List.mem_of_getElem? (i := 153) (by decide +kernel)) rfl
set_option maxRecDepth 20000 in
theorem q_178 : Cond.arrayClass .byte ∈ lw_gd := mem_gd (List.mem_of_getElem? (i := 178) (by decide +kernel)) rfl
set_option maxRecDepth 20000 in
theorem q_207 : Cond.classLink RX11 20 RX5 ∈ lw_gd := mem_gd (List.mem_of_getElem? (i := 207) (by decide +kernel)) rfl
set_option maxRecDepth 20000 in
theorem q_208 : Cond.instantiable RX5 6 ∈ lw_gd := mem_gd (List.mem_of_getElem? (i := 208) (by decide +kernel)) rfl
set_option maxRecDepth 20000 in
theorem q_209 : Cond.classLink RX11 22 RX3 ∈ lw_gd := mem_gd (List.mem_of_getElem? (i := 209) (by decide +kernel)) rfl
set_option maxRecDepth 20000 in
theorem q_211 : Cond.methodLink RX11 24 yX3_init ∈ lw_gd := mem_gd (List.mem_of_getElem? (i := 211) (by decide +kernel)) rfl
set_option maxRecDepth 20000 in
theorem q_280 : Cond.methodLink RX11 25 yX5_init ∈ lw_gd := mem_gd (List.mem_of_getElem? (i := 280) (by decide +kernel)) rfl
set_option maxRecDepth 20000 in
theorem q_281 : Cond.instanceMethod yX5_init ∈ lw_gd := mem_gd (List.mem_of_getElem? (i := 281) (by decide +kernel)) rfl
set_option maxRecDepth 20000 in
theorem q_308 : Cond.classLink RX11 32 RX7 ∈ lw_gd := mem_gd (List.mem_of_getElem? (i := 308) (by decide +kernel)) rfl
set_option maxRecDepth 20000 in
theorem q_309 : Cond.instantiable RX7 14 ∈ lw_gd := mem_gd (List.mem_of_getElem? (i := 309) (by decide +kernel)) rfl
set_option maxRecDepth 20000 in
theorem q_310 : Cond.methodLink RX11 34 yX7_init ∈ lw_gd := mem_gd (List.mem_of_getElem? (i := 310) (by decide +kernel)) rfl
set_option maxRecDepth 20000 in
theorem q_311 : Cond.instanceMethod yX7_init ∈ lw_gd := mem_gd (List.mem_of_getElem? (i := 311) (by decide +kernel)) rfl
set_option maxRecDepth 20000 in
theorem q_368 : Cond.classLink RX11 39 RX8 ∈ lw_gd := mem_gd (List.mem_of_getElem? (i := 368) (by decide +kernel)) rfl
set_option maxRecDepth 20000 in
theorem q_370 : Cond.methodLink RX11 41 yX8_init ∈ lw_gd := mem_gd (List.mem_of_getElem? (i := 370) (by decide +kernel)) rfl
set_option maxRecDepth 20000 in
theorem q_388 : Cond.classLink RX11 53 RX10 ∈ lw_gd := mem_gd (List.mem_of_getElem? (i := 388) (by decide +kernel)) rfl
set_option maxRecDepth 20000 in
theorem q_390 : Cond.instantiable RX10 3 ∈ lw_gd := mem_gd (List.mem_of_getElem? (i := 390) (by decide +kernel)) rfl
set_option maxRecDepth 20000 in
theorem q_391 : Cond.methodLink RX11 59 yX10_init ∈ lw_gd := mem_gd (List.mem_of_getElem? (i := 391) (by decide +kernel)) rfl
set_option maxRecDepth 20000 in
theorem q_392 : Cond.instanceMethod yX10_init ∈ lw_gd := mem_gd (List.mem_of_getElem? (i := 392) (by decide +kernel)) rfl
set_option maxRecDepth 20000 in
theorem q_407 : Cond.classLink RX11 60 RX2 ∈ lw_gd := mem_gd (List.mem_of_getElem? (i := 407) (by decide +kernel)) rfl
set_option maxRecDepth 20000 in
theorem q_409 : Cond.instantiable RX2 2 ∈ lw_gd := mem_gd (List.mem_of_getElem? (i := 409) (by decide +kernel)) rfl
set_option maxRecDepth 20000 in
theorem q_410 : Cond.methodLink RX11 66 yX2_init ∈ lw_gd := mem_gd (List.mem_of_getElem? (i := 410) (by decide +kernel)) rfl
set_option maxRecDepth 20000 in
theorem q_411 : Cond.instanceMethod yX2_init ∈ lw_gd := mem_gd (List.mem_of_getElem? (i := 411) (by decide +kernel)) rfl
set_option maxRecDepth 20000 in
theorem q_478 : Cond.code yX11_lab cX11_lab 3 (some .int) ∈ lw_gd := mem_gd (List.mem_of_getElem? (i := 478) (by decide +kernel)) rfl
set_option maxRecDepth 20000 in
theorem q_479 : Cond.methodLink RX11 85 yX6_read ∈ lw_gd := mem_gd (List.mem_of_getElem? (i := 479) (by decide +kernel)) rfl
set_option maxRecDepth 20000 in
theorem q_480 : Cond.instanceMethod yX6_read ∈ lw_gd := mem_gd (List.mem_of_getElem? (i := 480) (by decide +kernel)) rfl
set_option maxRecDepth 20000 in
theorem q_481 : Cond.selects RX6 yX6_read yX6_read ∈ lw_gd := mem_gd (List.mem_of_getElem? (i := 481) (by decide +kernel)) rfl
set_option maxRecDepth 20000 in
theorem q_754 : Cond.methodLink RX11 95 yX8_clear ∈ lw_gd := mem_gd (List.mem_of_getElem? (i := 754) (by decide +kernel)) rfl
set_option maxRecDepth 20000 in
theorem q_755 : Cond.instanceMethod yX8_clear ∈ lw_gd := mem_gd (List.mem_of_getElem? (i := 755) (by decide +kernel)) rfl
set_option maxRecDepth 20000 in
theorem q_756 : Cond.selects RX8 yX8_clear yX8_clear ∈ lw_gd := mem_gd (List.mem_of_getElem? (i := 756) (by decide +kernel)) rfl
set_option maxRecDepth 20000 in
theorem q_983 : Cond.code yX11_day cX11_day 6 (some .int) ∈ lw_gd := mem_gd (List.mem_of_getElem? (i := 983) (by decide +kernel)) rfl
set_option maxRecDepth 20000 in
theorem q_984 : Cond.classLink RX11 211 RX1 ∈ lw_gd := mem_gd (List.mem_of_getElem? (i := 984) (by decide +kernel)) rfl
set_option maxRecDepth 20000 in
theorem q_985 : Cond.instantiable RX1 1 ∈ lw_gd := mem_gd (List.mem_of_getElem? (i := 985) (by decide +kernel)) rfl
set_option maxRecDepth 20000 in
theorem q_986 : Cond.methodLink RX11 213 yX1_init ∈ lw_gd := mem_gd (List.mem_of_getElem? (i := 986) (by decide +kernel)) rfl
set_option maxRecDepth 20000 in
theorem q_987 : Cond.instanceMethod yX1_init ∈ lw_gd := mem_gd (List.mem_of_getElem? (i := 987) (by decide +kernel)) rfl
set_option maxRecDepth 20000 in
theorem q_994 : Cond.methodLink RX11 215 yX1_nextDeed ∈ lw_gd := mem_gd (List.mem_of_getElem? (i := 994) (by decide +kernel)) rfl
set_option maxRecDepth 20000 in
theorem q_995 : Cond.instanceMethod yX1_nextDeed ∈ lw_gd := mem_gd (List.mem_of_getElem? (i := 995) (by decide +kernel)) rfl
set_option maxRecDepth 20000 in
theorem q_996 : Cond.selects RX1 yX1_nextDeed yX1_nextDeed ∈ lw_gd := mem_gd (List.mem_of_getElem? (i := 996) (by decide +kernel)) rfl
theorem dX11_lab_0 : decode cX11_lab 0 = .ok (.iload_n 1, 1) := by decide +kernel
theorem dX11_lab_1 : decode cX11_lab 1 = .ok (.ifCond .lt 11, 3) := by decide +kernel
theorem dX11_lab_4 : decode cX11_lab 4 = .ok (.iload_n 1, 1) := by decide +kernel
theorem dX11_lab_5 : decode cX11_lab 5 = .ok (.aload_n 0, 1) := by decide +kernel
theorem dX11_lab_6 : decode cX11_lab 6 = .ok (.getfield 77, 3) := by decide +kernel
theorem dX11_lab_9 : decode cX11_lab 9 = .ok (.if_icmp .le 6, 3) := by decide +kernel
theorem dX11_lab_12 : decode cX11_lab 12 = .ok (.bipush (-3), 2) := by decide +kernel
theorem dX11_lab_14 : decode cX11_lab 14 = .ok (.ireturn, 1) := by decide +kernel
theorem dX11_lab_15 : decode cX11_lab 15 = .ok (.aload_n 0, 1) := by decide +kernel
theorem dX11_lab_16 : decode cX11_lab 16 = .ok (.iconst 0, 1) := by decide +kernel
theorem dX11_lab_17 : decode cX11_lab 17 = .ok (.putfield 77, 3) := by decide +kernel
theorem dX11_lab_20 : decode cX11_lab 20 = .ok (.aload_n 0, 1) := by decide +kernel
theorem dX11_lab_21 : decode cX11_lab 21 = .ok (.getfield 16, 3) := by decide +kernel
theorem dX11_lab_24 : decode cX11_lab 24 = .ok (.aload_n 0, 1) := by decide +kernel
theorem dX11_lab_25 : decode cX11_lab 25 = .ok (.getfield 9, 3) := by decide +kernel
theorem dX11_lab_28 : decode cX11_lab 28 = .ok (.iload_n 1, 1) := by decide +kernel
theorem dX11_lab_29 : decode cX11_lab 29 = .ok (.invokevirtual 85, 3) := by decide +kernel
theorem dX11_lab_32 : decode cX11_lab 32 = .ok (.astore_n 2, 1) := by decide +kernel
theorem dX11_lab_33 : decode cX11_lab 33 = .ok (.aload_n 2, 1) := by decide +kernel
theorem dX11_lab_34 : decode cX11_lab 34 = .ok (.ifnonnull 14, 3) := by decide +kernel
theorem dX11_lab_37 : decode cX11_lab 37 = .ok (.bipush (-30), 2) := by decide +kernel
theorem dX11_lab_39 : decode cX11_lab 39 = .ok (.aload_n 0, 1) := by decide +kernel
theorem dX11_lab_40 : decode cX11_lab 40 = .ok (.getfield 16, 3) := by decide +kernel
theorem dX11_lab_43 : decode cX11_lab 43 = .ok (.getfield 89, 3) := by decide +kernel
theorem dX11_lab_46 : decode cX11_lab 46 = .ok (.isub, 1) := by decide +kernel
theorem dX11_lab_47 : decode cX11_lab 47 = .ok (.ireturn, 1) := by decide +kernel
theorem dX11_lab_48 : decode cX11_lab 48 = .ok (.aload_n 0, 1) := by decide +kernel
theorem dX11_lab_49 : decode cX11_lab 49 = .ok (.getfield 28, 3) := by decide +kernel
theorem dX11_lab_52 : decode cX11_lab 52 = .ok (.aload_n 2, 1) := by decide +kernel
theorem dX11_lab_53 : decode cX11_lab 53 = .ok (.invokevirtual 92, 3) := by decide +kernel
theorem dX11_lab_56 : decode cX11_lab 56 = .ok (.aload_n 0, 1) := by decide +kernel
theorem dX11_lab_57 : decode cX11_lab 57 = .ok (.getfield 42, 3) := by decide +kernel
theorem dX11_lab_60 : decode cX11_lab 60 = .ok (.invokevirtual 95, 3) := by decide +kernel
theorem dX11_lab_63 : decode cX11_lab 63 = .ok (.aload_n 0, 1) := by decide +kernel
theorem dX11_lab_64 : decode cX11_lab 64 = .ok (.iconst 0, 1) := by decide +kernel
theorem dX11_lab_65 : decode cX11_lab 65 = .ok (.putfield 98, 3) := by decide +kernel
theorem dX11_lab_68 : decode cX11_lab 68 = .ok (.aload_n 2, 1) := by decide +kernel
theorem dX11_lab_69 : decode cX11_lab 69 = .ok (.getfield 101, 3) := by decide +kernel
theorem dX11_lab_72 : decode cX11_lab 72 = .ok (.ireturn, 1) := by decide +kernel
theorem wX11_lab : Mw yX11_lab cX11_lab 3 (some .int) 1 := ⟨q_478, q_120, by decide, ⟨by decide +kernel, by decide +kernel⟩, by decide +kernel, by decide +kernel⟩
def jX11_lab_32 (T : Sh) (M : Me) (x0 : Nat) (s0 : Option Nat) : Option (Int32 × Sh × Me) :=
  mo (s0) (gd (kd T x0 = 10) <| Option.bind (gR M x0 2) fun a13 => gd (kd T a13 = 5) <| some (((-30 : Int32) - (gI M a13 2)), T, M)) (fun a11 => gd (kd T x0 = 10) <| Option.bind (gR M x0 3) fun a16 => gd (kd T a16 = 4) <| Option.bind (fX5_useLab T M a16 a11) <| un2 fun _u M18 => Option.bind (gR M18 x0 5) fun a19 => gd (kd T a19 = 7) <| Option.bind (fX8_clear T M18 a19) <| un2 fun _u M21 => lt (pI M21 x0 8 (0 : Int32)) fun M22 => gd (kd T a11 = 2) <| some ((gI M22 a11 9), T, M22))
theorem mjX11_lab_32 {T : Sh} {M : Me} {x0 : Nat} {s0 : Option Nat} {r : Int32} {T' : Sh} {M' : Me} (h : jX11_lab_32 T M x0 s0 = some (r, T', M')) : leT T T' := by
  unfold jX11_lab_32 at h
  rcases ea11 : s0 with _ | a11
  · replace h := mo_none2 ea11 h
    subst ea11
    replace h := gd_some h; obtain ⟨hk12, h⟩ := h
    replace h := bnd h; obtain ⟨a13, ea13, h⟩ := h
    replace h := gd_some h; obtain ⟨hk14, h⟩ := h
    replace h := Prod.mk.inj (Option.some.inj h); obtain ⟨rfl, h⟩ := h; replace h := Prod.mk.inj h; obtain ⟨rfl, rfl⟩ := h
    exact leT.rfl
  · replace h := mo_some2 ea11 h
    subst ea11
    replace h := gd_some h; obtain ⟨hk15, h⟩ := h
    replace h := bnd h; obtain ⟨a16, ea16, h⟩ := h
    replace h := gd_some h; obtain ⟨hk17, h⟩ := h
    replace h := bnd2 h; obtain ⟨_u, M18, h1, h⟩ := h
    replace h := bnd h; obtain ⟨a19, ea19, h⟩ := h
    replace h := gd_some h; obtain ⟨hk20, h⟩ := h
    replace h := bnd2 h; obtain ⟨_u, M21, h1, h⟩ := h
    obtain ⟨M22, eM22⟩ : ∃ y : Me, y = pI M21 x0 8 (0 : Int32) := ⟨_, rfl⟩
    replace h := lt_at eM22 h
    replace h := gd_some h; obtain ⟨hk23, h⟩ := h
    replace h := Prod.mk.inj (Option.some.inj h); obtain ⟨rfl, h⟩ := h; replace h := Prod.mk.inj h; obtain ⟨rfl, rfl⟩ := h
    exact leT.rfl
set_option maxHeartbeats 4000000 in
theorem tjX11_lab_32 {X : Fx} {B : Bx} {Z : Nat × Nat × Nat × Nat} {d : Nat} {T : Sh} {M : Me} {x0 : Nat} {s0 : Option Nat} {r : Int32} {T' : Sh} {M' : Me} (C : Cx X B cX11_lab 3 RX11 d Z) (hR : Rx X (some .int)) (hd : 107 ≤ d) (hZ : leZ T' Z) (h : jX11_lab_32 T M x0 s0 = some (r, T', M')) : G X B 3 Z (Qf X B Z (some (.int r)) T' M') 32 [(0, .ref (x0))] [va_rf (s0)] T M := by
  unfold jX11_lab_32 at h
  refine g_astore_nQ (pc := 32) (lo2 := [(2, va_rf (s0)), (0, .ref (x0))]) C dX11_lab_32 rfl (by decide) rfl ?_
  refine g_aload_nQ (pc := 33) C dX11_lab_33 rfl 0 rfl ?_
  refine g_ifnonnull (pc := 34) (tgt := 48) C dX11_lab_34 (by decide) (fun a11 ea11 => ?_) (fun ea11 => ?_)
  · replace h := mo_some2 ea11 h
    subst ea11
    refine g_aload_n (pc := 48) C dX11_lab_48 rfl 1 rfl ?_
    replace h := gd_some h; obtain ⟨hk15, h⟩ := h
    refine g_get (pc := 49) (v := va_rf (gR M x0 3)) C dX11_lab_49 kX11 hk15 3 (by decide) q_427 rfl ?_
    replace h := bnd h; obtain ⟨a16, ea16, h⟩ := h
    refine g_refq ea16 ?_
    refine g_aload_n (pc := 52) C dX11_lab_52 rfl 0 rfl ?_
    replace h := gd_some h; obtain ⟨hk17, h⟩ := h
    replace h := bnd2 h; obtain ⟨_u, M18, h1, h⟩ := h
    refine g_callVv (pc := 53) (As := [.ref (a11)]) (st := []) C dX11_lab_53 wX5_useLab hk17 rfl (by decide) q_751 q_752 q_750 (by omega) rfl (Nat.le_of_ble_eq_true rfl) (kX5_useLab (d := 1) (Nat.le_refl _) h1) ?_
    refine g_aload_n (pc := 56) C dX11_lab_56 rfl 1 rfl ?_
    refine g_get (pc := 57) (v := va_rf (gR M18 x0 5)) C dX11_lab_57 kX11 hk15 5 (by decide) q_429 rfl ?_
    replace h := bnd h; obtain ⟨a19, ea19, h⟩ := h
    refine g_refq ea19 ?_
    replace h := gd_some h; obtain ⟨hk20, h⟩ := h
    replace h := bnd2 h; obtain ⟨_u, M21, h1, h⟩ := h
    refine g_callVv (pc := 60) (As := []) (st := []) C dX11_lab_60 wX8_clear hk20 rfl (by decide) q_755 q_756 q_754 (by omega) rfl (Nat.le_of_ble_eq_true rfl) (kX8_clear (d := 1) (Nat.le_refl _) h1) ?_
    refine g_aload_n (pc := 63) C dX11_lab_63 rfl 1 rfl ?_
    refine g_iconst (pc := 64) (v := 0) C dX11_lab_64 (by decide) ?_
    refine g_putI (pc := 65) C dX11_lab_65 kX11 hk15 8 (by decide) rfl rfl rfl q_432 ?_
    refine g_mem (fun M22 eM22 => ?_)
    replace h := lt_at eM22 h
    refine g_aload_n (pc := 68) C dX11_lab_68 rfl 0 rfl ?_
    replace h := gd_some h; obtain ⟨hk23, h⟩ := h
    refine g_get (pc := 69) (v := .int (gI M22 a11 9)) C dX11_lab_69 kX3 hk23 9 (by decide) q_246 rfl ?_
    replace h := Prod.mk.inj (Option.some.inj h); obtain ⟨rfl, h⟩ := h; replace h := Prod.mk.inj h; obtain ⟨rfl, rfl⟩ := h
    exact g_iret C hR dX11_lab_72
  · replace h := mo_none2 ea11 h
    subst ea11
    refine g_bipush (pc := 37) (v := (-30)) C dX11_lab_37 (by decide) ?_
    refine g_aload_n (pc := 39) C dX11_lab_39 rfl 1 rfl ?_
    replace h := gd_some h; obtain ⟨hk12, h⟩ := h
    refine g_get (pc := 40) (v := va_rf (gR M x0 2)) C dX11_lab_40 kX11 hk12 2 (by decide) q_426 rfl ?_
    replace h := bnd h; obtain ⟨a13, ea13, h⟩ := h
    refine g_refq ea13 ?_
    replace h := gd_some h; obtain ⟨hk14, h⟩ := h
    refine g_get (pc := 43) (v := .int (gI M a13 2)) C dX11_lab_43 kX6 hk14 2 (by decide) q_183 rfl ?_
    refine g_isub (pc := 46) C dX11_lab_46 ?_
    replace h := Prod.mk.inj (Option.some.inj h); obtain ⟨rfl, h⟩ := h; replace h := Prod.mk.inj h; obtain ⟨rfl, rfl⟩ := h
    exact g_iret C hR dX11_lab_47
/-- EyeTrainer.lab(I)I -/
def fX11_lab (T : Sh) (M : Me) (x0 : Nat) (x1 : Int32) : Option (Int32 × Sh × Me) :=
  if x1 < 0 then (some ((-3 : Int32), T, M)) else (gd (kd T x0 = 10) <| if x1 ≤ (gI M x0 1) then (lt (pI M x0 1 (0 : Int32)) fun M4 => Option.bind (gR M4 x0 2) fun a5 => Option.bind (gR M4 x0 0) fun a6 => gd (kd T a5 = 5) <| Option.bind (fX6_read T M4 a5 a6 x1) <| un3 fun r8 T10 M9 => jX11_lab_32 T10 M9 x0 r8) else (some ((-3 : Int32), T, M)))
theorem mX11_lab {T : Sh} {M : Me} {x0 : Nat} {x1 : Int32} {r : Int32} {T' : Sh} {M' : Me} (h : fX11_lab T M x0 x1 = some (r, T', M')) : leT T T' := by
  unfold fX11_lab at h
  by_cases c1 : x1 < 0
  · replace h := ifp c1 h
    replace h := Prod.mk.inj (Option.some.inj h); obtain ⟨rfl, h⟩ := h; replace h := Prod.mk.inj h; obtain ⟨rfl, rfl⟩ := h
    exact leT.rfl
  · replace h := ifn c1 h
    replace h := gd_some h; obtain ⟨hk2, h⟩ := h
    by_cases c3 : x1 ≤ (gI M x0 1)
    · replace h := ifp c3 h
      obtain ⟨M4, eM4⟩ : ∃ y : Me, y = pI M x0 1 (0 : Int32) := ⟨_, rfl⟩
      replace h := lt_at eM4 h
      replace h := bnd h; obtain ⟨a5, ea5, h⟩ := h
      replace h := bnd h; obtain ⟨a6, ea6, h⟩ := h
      replace h := gd_some h; obtain ⟨hk7, h⟩ := h
      replace h := bnd3 h; obtain ⟨r8, T10, M9, h1, h⟩ := h
      have hmT10 := mX6_read h1
      exact (leT.rfl.trans hmT10).trans (mjX11_lab_32 h)
    · replace h := ifn c3 h
      replace h := Prod.mk.inj (Option.some.inj h); obtain ⟨rfl, h⟩ := h; replace h := Prod.mk.inj h; obtain ⟨rfl, rfl⟩ := h
      exact leT.rfl
set_option maxHeartbeats 4000000 in
theorem kX11_lab {l : Launch} {B : Bx} {d : Nat} (hd : 107 ≤ d) {T : Sh} {M : Me} {x0 : Nat} {x1 : Int32} {r : Int32} {T' : Sh} {M' : Me} (h : fX11_lab T M x0 x1 = some (r, T', M')) : Kt l B yX11_lab cX11_lab 3 (some .int) d [.ref (x0), .int (x1)] T M (some (.int r)) T' M' := by
  have hmm := mX11_lab h
  refine kt_of wX11_lab hmm.1 hmm.2 (Nat.le_of_ble_eq_true rfl) (fun X C hR hlx hin => ?_)
  subst hlx
  replace C : Cx X B cX11_lab 3 RX11 d (tp T, sl T, tp T', sl T') := C
  have hZ : leZ T' (tp T, sl T, tp T', sl T') := ⟨Nat.le_refl _, Nat.le_refl _⟩
  unfold fX11_lab at h
  show G X B 3 _ _ 0 [(0, .ref (x0)), (1, .int (x1))] [] T M
  refine g_iload_n (pc := 0) C dX11_lab_0 rfl 1 rfl ?_
  refine g_if_lt (pc := 1) (tgt := 12) C dX11_lab_1 (by decide) (fun c1 => ?_) (fun c1 => ?_)
  · replace h := ifp c1 h
    refine g_bipush (pc := 12) (v := (-3)) C dX11_lab_12 (by decide) ?_
    replace h := Prod.mk.inj (Option.some.inj h); obtain ⟨rfl, h⟩ := h; replace h := Prod.mk.inj h; obtain ⟨rfl, rfl⟩ := h
    exact g_iret C hR dX11_lab_14
  · replace h := ifn c1 h
    refine g_iload_n (pc := 4) C dX11_lab_4 rfl 1 rfl ?_
    refine g_aload_n (pc := 5) C dX11_lab_5 rfl 0 rfl ?_
    replace h := gd_some h; obtain ⟨hk2, h⟩ := h
    refine g_get (pc := 6) (v := .int (gI M x0 1)) C dX11_lab_6 kX11 hk2 1 (by decide) q_425 rfl ?_
    refine g_icmp_le (pc := 9) (tgt := 15) C dX11_lab_9 (by decide) (fun c3 => ?_) (fun c3 => ?_)
    · replace h := ifp c3 h
      refine g_aload_n (pc := 15) C dX11_lab_15 rfl 0 rfl ?_
      refine g_iconst (pc := 16) (v := 0) C dX11_lab_16 (by decide) ?_
      refine g_putI (pc := 17) C dX11_lab_17 kX11 hk2 1 (by decide) rfl rfl rfl q_425 ?_
      refine g_mem (fun M4 eM4 => ?_)
      replace h := lt_at eM4 h
      refine g_aload_n (pc := 20) C dX11_lab_20 rfl 0 rfl ?_
      refine g_get (pc := 21) (v := va_rf (gR M4 x0 2)) C dX11_lab_21 kX11 hk2 2 (by decide) q_426 rfl ?_
      replace h := bnd h; obtain ⟨a5, ea5, h⟩ := h
      refine g_refq ea5 ?_
      refine g_aload_n (pc := 24) C dX11_lab_24 rfl 0 rfl ?_
      refine g_get (pc := 25) (v := va_rf (gR M4 x0 0)) C dX11_lab_25 kX11 hk2 0 (by decide) q_424 rfl ?_
      replace h := bnd h; obtain ⟨a6, ea6, h⟩ := h
      refine g_refq ea6 ?_
      refine g_iload_n (pc := 28) C dX11_lab_28 rfl 1 rfl ?_
      replace h := gd_some h; obtain ⟨hk7, h⟩ := h
      replace h := bnd3 h; obtain ⟨r8, T10, M9, h1, h⟩ := h
      have hzT10 := (mjX11_lab_32 h).Z hZ
      refine g_callVqA (pc := 29) (As := [.ref (a6), .int (x1)]) (st := []) C dX11_lab_29 wX6_read hk7 rfl (by decide) q_480 q_481 q_479 (by omega) rfl (Nat.le_of_ble_eq_true rfl) (kX6_read (d := 106) (Nat.le_refl _) h1) hzT10 ?_
      exact g_sub [0] rfl (tjX11_lab_32 C hR hd hZ h)
    · replace h := ifn c3 h
      refine g_bipush (pc := 12) (v := (-3)) C dX11_lab_12 (by decide) ?_
      replace h := Prod.mk.inj (Option.some.inj h); obtain ⟨rfl, h⟩ := h; replace h := Prod.mk.inj h; obtain ⟨rfl, rfl⟩ := h
      exact g_iret C hR dX11_lab_14
theorem dX11_day_0 : decode cX11_day 0 = .ok (.iload_n 2, 1) := by decide +kernel
theorem dX11_day_1 : decode cX11_day 1 = .ok (.iconst 1, 1) := by decide +kernel
theorem dX11_day_2 : decode cX11_day 2 = .ok (.if_icmp .lt 9, 3) := by decide +kernel
theorem dX11_day_5 : decode cX11_day 5 = .ok (.iload_n 2, 1) := by decide +kernel
theorem dX11_day_6 : decode cX11_day 6 = .ok (.bipush 40, 2) := by decide +kernel
theorem dX11_day_8 : decode cX11_day 8 = .ok (.if_icmp .le 6, 3) := by decide +kernel
theorem dX11_day_11 : decode cX11_day 11 = .ok (.bipush (-3), 2) := by decide +kernel
theorem dX11_day_13 : decode cX11_day 13 = .ok (.ireturn, 1) := by decide +kernel
theorem dX11_day_14 : decode cX11_day 14 = .ok (.aload_n 0, 1) := by decide +kernel
theorem dX11_day_15 : decode cX11_day 15 = .ok (.getfield 46, 3) := by decide +kernel
theorem dX11_day_18 : decode cX11_day 18 = .ok (.aload_n 0, 1) := by decide +kernel
theorem dX11_day_19 : decode cX11_day 19 = .ok (.getfield 42, 3) := by decide +kernel
theorem dX11_day_22 : decode cX11_day 22 = .ok (.invokevirtual 182, 3) := by decide +kernel
theorem dX11_day_25 : decode cX11_day 25 = .ok (.new 211, 3) := by decide +kernel
theorem dX11_day_28 : decode cX11_day 28 = .ok (.dup, 1) := by decide +kernel
theorem dX11_day_29 : decode cX11_day 29 = .ok (.iload_n 1, 1) := by decide +kernel
theorem dX11_day_30 : decode cX11_day 30 = .ok (.invokespecial 213, 3) := by decide +kernel
theorem dX11_day_33 : decode cX11_day 33 = .ok (.astore_n 3, 1) := by decide +kernel
theorem dX11_day_34 : decode cX11_day 34 = .ok (.iconst 0, 1) := by decide +kernel
theorem dX11_day_35 : decode cX11_day 35 = .ok (.istore 4, 2) := by decide +kernel
theorem dX11_day_37 : decode cX11_day 37 = .ok (.iconst 0, 1) := by decide +kernel
theorem dX11_day_38 : decode cX11_day 38 = .ok (.istore 5, 2) := by decide +kernel
theorem dX11_day_40 : decode cX11_day 40 = .ok (.iload 5, 2) := by decide +kernel
theorem dX11_day_42 : decode cX11_day 42 = .ok (.iload_n 2, 1) := by decide +kernel
theorem dX11_day_43 : decode cX11_day 43 = .ok (.if_icmp .ge 24, 3) := by decide +kernel
theorem dX11_day_46 : decode cX11_day 46 = .ok (.aload_n 0, 1) := by decide +kernel
theorem dX11_day_47 : decode cX11_day 47 = .ok (.aload_n 3, 1) := by decide +kernel
theorem dX11_day_48 : decode cX11_day 48 = .ok (.invokevirtual 215, 3) := by decide +kernel
theorem dX11_day_51 : decode cX11_day 51 = .ok (.i2l, 1) := by decide +kernel
theorem dX11_day_52 : decode cX11_day 52 = .ok (.invokevirtual 203, 3) := by decide +kernel
theorem dX11_day_55 : decode cX11_day 55 = .ok (.ifCond .ne 6, 3) := by decide +kernel
theorem dX11_day_58 : decode cX11_day 58 = .ok (.iinc 4 1, 3) := by decide +kernel
theorem dX11_day_61 : decode cX11_day 61 = .ok (.iinc 5 1, 3) := by decide +kernel
theorem dX11_day_64 : decode cX11_day 64 = .ok (.goto (-24), 3) := by decide +kernel
theorem dX11_day_67 : decode cX11_day 67 = .ok (.iload 4, 2) := by decide +kernel
theorem dX11_day_69 : decode cX11_day 69 = .ok (.ifCond .le 11, 3) := by decide +kernel
theorem dX11_day_72 : decode cX11_day 72 = .ok (.aload_n 0, 1) := by decide +kernel
theorem dX11_day_73 : decode cX11_day 73 = .ok (.aload_n 0, 1) := by decide +kernel
theorem dX11_day_74 : decode cX11_day 74 = .ok (.getfield 46, 3) := by decide +kernel
theorem dX11_day_77 : decode cX11_day 77 = .ok (.invokevirtual 157, 3) := by decide +kernel
theorem dX11_day_80 : decode cX11_day 80 = .ok (.iload 4, 2) := by decide +kernel
theorem dX11_day_82 : decode cX11_day 82 = .ok (.ireturn, 1) := by decide +kernel
theorem wX11_day : Mw yX11_day cX11_day 6 (some .int) 2 := ⟨q_983, q_120, by decide, ⟨by decide +kernel, by decide +kernel⟩, by decide +kernel, by decide +kernel⟩
-- a loop of EyeTrainer.day at 40
def bX11_day_40 (T : Sh) (x0 : Nat) (x2 : Int32) (x3 : Nat) (x4 : Int32) (x5 : Int32) (M : Me) : Option ((Int32 × Int32 × Me) ⊕ ((Int32 × Me))) :=
  if x2 ≤ x5 then (some (.inr (x4, M))) else (gd (kd T x3 = 0) <| Option.bind (fX1_nextDeed T M x3) <| un2 fun r11 M12 => gd (kd T x0 = 10) <| Option.bind (fX11_doDeed T M12 x0 (Int32.toInt64 r11)) <| un2 fun r14 M15 => if r14 = 0 then (lt (x4 + (1 : Int32)) fun v18 => lt (x5 + (1 : Int32)) fun v19 => some (.inl (v18, v19, M15))) else (lt (x5 + (1 : Int32)) fun v17 => some (.inl (x4, v17, M15))))
def PX11_day_40 (X : Fx) (B : Bx) (Z : Nat × Nat × Nat × Nat) (Q : State → Prop) (T : Sh) (x0 : Nat) (x2 : Int32) (x3 : Nat) (s : Int32 × Int32 × Me) : Prop := G X B 6 Z Q 40 [(0, .ref (x0)), (2, .int (x2)), (3, .ref (x3)), (4, .int (s.1)), (5, .int (s.2.1))] [] T s.2.2
def EX11_day_40 (X : Fx) (B : Bx) (Z : Nat × Nat × Nat × Nat) (Q : State → Prop) (T : Sh) (x0 : Nat) (x2 : Int32) (x3 : Nat) (r : (Int32 × Me)) : Prop := G X B 6 Z Q 67 [(0, .ref (x0)), (4, .int (r.1))] [] T r.2
set_option maxHeartbeats 4000000 in
theorem tbX11_day_40 {X : Fx} {B : Bx} {Z : Nat × Nat × Nat × Nat} {Q : State → Prop} {d : Nat} {T : Sh} (C : Cx X B cX11_day 6 RX11 d Z) (hd : 6 ≤ d) {x0 : Nat} {x2 : Int32} {x3 : Nat} : ∀ (s : Int32 × Int32 × Me) (o : (Int32 × Int32 × Me) ⊕ ((Int32 × Me))), bX11_day_40 T x0 x2 x3 s.1 s.2.1 s.2.2 = some o → lpE (PX11_day_40 X B Z Q T x0 x2 x3) (EX11_day_40 X B Z Q T x0 x2 x3) o → PX11_day_40 X B Z Q T x0 x2 x3 s := by
  rintro ⟨x4, x5, M⟩ o h hE
  replace h : bX11_day_40 T x0 x2 x3 x4 x5 M = some o := h
  unfold bX11_day_40 at h
  show G X B 6 Z Q 40 [(0, .ref (x0)), (2, .int (x2)), (3, .ref (x3)), (4, .int (x4)), (5, .int (x5))] [] T M
  refine g_iload (pc := 40) C dX11_day_40 4 rfl ?_
  refine g_iload_n (pc := 42) C dX11_day_42 rfl 1 rfl ?_
  refine g_icmp_ge (pc := 43) (tgt := 67) C dX11_day_43 (by decide) (fun c9 => ?_) (fun c9 => ?_)
  · replace h := ifp c9 h
    obtain rfl := Option.some.inj h
    exact g_sub [0, 3] rfl (show G X B 6 Z Q 67 [(0, .ref (x0)), (4, .int (x4))] [] T M from hE)
  · replace h := ifn c9 h
    refine g_aload_n (pc := 46) C dX11_day_46 rfl 0 rfl ?_
    refine g_aload_n (pc := 47) C dX11_day_47 rfl 2 rfl ?_
    replace h := gd_some h; obtain ⟨hk10, h⟩ := h
    replace h := bnd2 h; obtain ⟨r11, M12, h1, h⟩ := h
    refine g_callVi (pc := 48) (As := []) (st := [.ref (x0)]) C dX11_day_48 wX1_nextDeed hk10 rfl (by decide) q_995 q_996 q_994 (by omega) rfl (Nat.le_of_ble_eq_true rfl) (kX1_nextDeed (d := 1) (Nat.le_refl _) h1) ?_
    refine g_i2l (pc := 51) C dX11_day_51 ?_
    replace h := gd_some h; obtain ⟨hk13, h⟩ := h
    replace h := bnd2 h; obtain ⟨r14, M15, h1, h⟩ := h
    refine g_callVi (pc := 52) (As := [.long (Int32.toInt64 r11)]) (st := []) C dX11_day_52 wX11_doDeed hk13 rfl (by decide) q_964 q_37 q_962 (by omega) rfl (Nat.le_of_ble_eq_true rfl) (kX11_doDeed (d := 5) (Nat.le_refl _) h1) ?_
    refine g_if_ne (pc := 55) (tgt := 61) C dX11_day_55 (by decide) (fun c16 => ?_) (fun c16 => ?_)
    · replace h := ifn c16 h
      obtain ⟨v17, ev17⟩ : ∃ y : Int32, y = x5 + (1 : Int32) := ⟨_, rfl⟩
      replace h := lt_at ev17 h
      refine g_iinc (pc := 61) (v := v17) (k := 4) (lo2 := [(5, .int (v17)), (0, .ref (x0)), (2, .int (x2)), (3, .ref (x3)), (4, .int (x4))]) C dX11_day_61 rfl (by rw [ev17]; rfl) (by decide) rfl ?_
      refine g_goto (pc := 64) (tgt := 40) C dX11_day_64 (by decide) ?_
      obtain rfl := Option.some.inj h
      exact g_sub [1, 2, 3, 4, 0] rfl (show G X B 6 Z Q 40 [(0, .ref (x0)), (2, .int (x2)), (3, .ref (x3)), (4, .int (x4)), (5, .int (v17))] [] T M15 from hE)
    · replace h := ifp c16 h
      obtain ⟨v18, ev18⟩ : ∃ y : Int32, y = x4 + (1 : Int32) := ⟨_, rfl⟩
      replace h := lt_at ev18 h
      refine g_iinc (pc := 58) (v := v18) (k := 3) (lo2 := [(4, .int (v18)), (0, .ref (x0)), (2, .int (x2)), (3, .ref (x3)), (5, .int (x5))]) C dX11_day_58 rfl (by rw [ev18]; rfl) (by decide) rfl ?_
      obtain ⟨v19, ev19⟩ : ∃ y : Int32, y = x5 + (1 : Int32) := ⟨_, rfl⟩
      replace h := lt_at ev19 h
      refine g_iinc (pc := 61) (v := v19) (k := 4) (lo2 := [(5, .int (v19)), (4, .int (v18)), (0, .ref (x0)), (2, .int (x2)), (3, .ref (x3))]) C dX11_day_61 rfl (by rw [ev19]; rfl) (by decide) rfl ?_
      refine g_goto (pc := 64) (tgt := 40) C dX11_day_64 (by decide) ?_
      obtain rfl := Option.some.inj h
      exact g_sub [2, 3, 4, 1, 0] rfl (show G X B 6 Z Q 40 [(0, .ref (x0)), (2, .int (x2)), (3, .ref (x3)), (4, .int (v18)), (5, .int (v19))] [] T M15 from hE)
def jX11_day_28 (T : Sh) (M : Me) (x0 : Nat) (x1 : Int32) (x2 : Int32) (s0 : Nat) : Option (Int32 × Sh × Me) :=
  Option.bind (fX1_init T M s0 x1) <| un2 fun _u M8 => (lp FU (fun s => bX11_day_40 T x0 x2 s0 s.1 s.2.1 s.2.2) ((0 : Int32), (0 : Int32), M8)).bind (un2 fun x4_20 M21 => if x4_20 ≤ 0 then (some (x4_20, T, M21)) else (gd (kd T x0 = 10) <| Option.bind (gR M21 x0 6) fun a24 => Option.bind (fX11_remember T M21 x0 a24) <| un2 fun _u M25 => some (x4_20, T, M25)))
theorem mjX11_day_28 {T : Sh} {M : Me} {x0 : Nat} {x1 : Int32} {x2 : Int32} {s0 : Nat} {r : Int32} {T' : Sh} {M' : Me} (h : jX11_day_28 T M x0 x1 x2 s0 = some (r, T', M')) : leT T T' := by
  unfold jX11_day_28 at h
  replace h := bnd2 h; obtain ⟨_u, M8, h1, h⟩ := h
  replace h := bnd2 h; obtain ⟨x4_20, M21, h1, h⟩ := h
  by_cases c22 : x4_20 ≤ 0
  · replace h := ifp c22 h
    replace h := Prod.mk.inj (Option.some.inj h); obtain ⟨rfl, h⟩ := h; replace h := Prod.mk.inj h; obtain ⟨rfl, rfl⟩ := h
    exact leT.rfl
  · replace h := ifn c22 h
    replace h := gd_some h; obtain ⟨hk23, h⟩ := h
    replace h := bnd h; obtain ⟨a24, ea24, h⟩ := h
    replace h := bnd2 h; obtain ⟨_u, M25, h1, h⟩ := h
    replace h := Prod.mk.inj (Option.some.inj h); obtain ⟨rfl, h⟩ := h; replace h := Prod.mk.inj h; obtain ⟨rfl, rfl⟩ := h
    exact leT.rfl
set_option maxHeartbeats 4000000 in
theorem tjX11_day_28 {X : Fx} {B : Bx} {Z : Nat × Nat × Nat × Nat} {d : Nat} {T : Sh} {M : Me} {x0 : Nat} {x1 : Int32} {x2 : Int32} {s0 : Nat} {r : Int32} {T' : Sh} {M' : Me} (C : Cx X B cX11_day 6 RX11 d Z) (hR : Rx X (some .int)) (hd : 6 ≤ d) (hZ : leZ T' Z) (h : jX11_day_28 T M x0 x1 x2 s0 = some (r, T', M')) : G X B 6 Z (Qf X B Z (some (.int r)) T' M') 28 [(0, .ref (x0)), (1, .int (x1)), (2, .int (x2))] [.ref (s0)] T M := by
  unfold jX11_day_28 at h
  refine g_dup (pc := 28) C dX11_day_28 rfl ?_
  refine g_iload_n (pc := 29) C dX11_day_29 rfl 1 rfl ?_
  replace h := bnd2 h; obtain ⟨_u, M8, h1, h⟩ := h
  refine g_callIv (pc := 30) (As := [.int (x1)]) (st := [.ref (s0)]) C dX11_day_30 wX1_init q_987 rfl rfl q_986 (by omega) rfl (Nat.le_of_ble_eq_true rfl) (kX1_init (d := 1) (Nat.le_refl _) h1) ?_
  refine g_astore_n (pc := 33) (lo2 := [(3, .ref (s0)), (0, .ref (x0)), (1, .int (x1)), (2, .int (x2))]) C dX11_day_33 rfl (by decide) rfl ?_
  refine g_iconst (pc := 34) (v := 0) C dX11_day_34 (by decide) ?_
  refine g_istore (pc := 35) (lo2 := [(4, .int ((0 : Int32))), (3, .ref (s0)), (0, .ref (x0)), (1, .int (x1)), (2, .int (x2))]) C dX11_day_35 (by decide) rfl ?_
  refine g_iconst (pc := 37) (v := 0) C dX11_day_37 (by decide) ?_
  refine g_istore (pc := 38) (lo2 := [(5, .int ((0 : Int32))), (4, .int ((0 : Int32))), (3, .ref (s0)), (0, .ref (x0)), (1, .int (x1)), (2, .int (x2))]) C dX11_day_38 (by decide) rfl ?_
  replace h := bnd2 h; obtain ⟨x4_20, M21, h1, h⟩ := h
  refine g_sub [3, 5, 2, 1, 0] rfl ?_
  refine lp_G2 (P := PX11_day_40 X B _ _ T x0 x2 s0) (E := EX11_day_40 X B _ _ T x0 x2 s0) (tbX11_day_40 C hd) h1 ?_
  show G X B 6 _ _ 67 [(0, .ref (x0)), (4, .int (x4_20))] [] T M21
  refine g_iload (pc := 67) C dX11_day_67 1 rfl ?_
  refine g_if_le (pc := 69) (tgt := 80) C dX11_day_69 (by decide) (fun c22 => ?_) (fun c22 => ?_)
  · replace h := ifp c22 h
    refine g_iload (pc := 80) C dX11_day_80 1 rfl ?_
    replace h := Prod.mk.inj (Option.some.inj h); obtain ⟨rfl, h⟩ := h; replace h := Prod.mk.inj h; obtain ⟨rfl, rfl⟩ := h
    exact g_iret C hR dX11_day_82
  · replace h := ifn c22 h
    refine g_aload_n (pc := 72) C dX11_day_72 rfl 0 rfl ?_
    refine g_aload_n (pc := 73) C dX11_day_73 rfl 0 rfl ?_
    replace h := gd_some h; obtain ⟨hk23, h⟩ := h
    refine g_get (pc := 74) (v := va_rf (gR M21 x0 6)) C dX11_day_74 kX11 hk23 6 (by decide) q_430 rfl ?_
    replace h := bnd h; obtain ⟨a24, ea24, h⟩ := h
    refine g_refq ea24 ?_
    replace h := bnd2 h; obtain ⟨_u, M25, h1, h⟩ := h
    refine g_callVv (pc := 77) (As := [.ref (a24)]) (st := []) C dX11_day_77 wX11_remember hk23 rfl (by decide) q_847 q_25 q_845 (by omega) rfl (Nat.le_of_ble_eq_true rfl) (kX11_remember (d := 1) (Nat.le_refl _) h1) ?_
    refine g_iload (pc := 80) C dX11_day_80 1 rfl ?_
    replace h := Prod.mk.inj (Option.some.inj h); obtain ⟨rfl, h⟩ := h; replace h := Prod.mk.inj h; obtain ⟨rfl, rfl⟩ := h
    exact g_iret C hR dX11_day_82
/-- EyeTrainer.day(II)I -/
def fX11_day (T : Sh) (M : Me) (x0 : Nat) (x1 : Int32) (x2 : Int32) : Option (Int32 × Sh × Me) :=
  if x2 < (1 : Int32) then (some ((-3 : Int32), T, M)) else (if x2 ≤ (40 : Int32) then (gd (kd T x0 = 10) <| Option.bind (gR M x0 6) fun a4 => Option.bind (gR M x0 5) fun a5 => gd (kd T a4 = 7) <| Option.bind (fX8_copy T M a4 a5) <| un2 fun _u M7 => jX11_day_28 (nT T 0 0 1) (nM T M7) x0 x1 x2 (tp T)) else (some ((-3 : Int32), T, M)))
theorem mX11_day {T : Sh} {M : Me} {x0 : Nat} {x1 : Int32} {x2 : Int32} {r : Int32} {T' : Sh} {M' : Me} (h : fX11_day T M x0 x1 x2 = some (r, T', M')) : leT T T' := by
  unfold fX11_day at h
  by_cases c1 : x2 < (1 : Int32)
  · replace h := ifp c1 h
    replace h := Prod.mk.inj (Option.some.inj h); obtain ⟨rfl, h⟩ := h; replace h := Prod.mk.inj h; obtain ⟨rfl, rfl⟩ := h
    exact leT.rfl
  · replace h := ifn c1 h
    by_cases c2 : x2 ≤ (40 : Int32)
    · replace h := ifp c2 h
      replace h := gd_some h; obtain ⟨hk3, h⟩ := h
      replace h := bnd h; obtain ⟨a4, ea4, h⟩ := h
      replace h := bnd h; obtain ⟨a5, ea5, h⟩ := h
      replace h := gd_some h; obtain ⟨hk6, h⟩ := h
      replace h := bnd2 h; obtain ⟨_u, M7, h1, h⟩ := h
      exact (leT.rfl.trans (leT.new _ _ _ _)).trans (mjX11_day_28 h)
    · replace h := ifn c2 h
      replace h := Prod.mk.inj (Option.some.inj h); obtain ⟨rfl, h⟩ := h; replace h := Prod.mk.inj h; obtain ⟨rfl, rfl⟩ := h
      exact leT.rfl
set_option maxHeartbeats 4000000 in
theorem kX11_day {l : Launch} {B : Bx} {d : Nat} (hd : 6 ≤ d) {T : Sh} {M : Me} {x0 : Nat} {x1 : Int32} {x2 : Int32} {r : Int32} {T' : Sh} {M' : Me} (h : fX11_day T M x0 x1 x2 = some (r, T', M')) : Kt l B yX11_day cX11_day 6 (some .int) d [.ref (x0), .int (x1), .int (x2)] T M (some (.int r)) T' M' := by
  have hmm := mX11_day h
  refine kt_of wX11_day hmm.1 hmm.2 (Nat.le_of_ble_eq_true rfl) (fun X C hR hlx hin => ?_)
  subst hlx
  replace C : Cx X B cX11_day 6 RX11 d (tp T, sl T, tp T', sl T') := C
  have hZ : leZ T' (tp T, sl T, tp T', sl T') := ⟨Nat.le_refl _, Nat.le_refl _⟩
  unfold fX11_day at h
  show G X B 6 _ _ 0 [(0, .ref (x0)), (1, .int (x1)), (2, .int (x2))] [] T M
  refine g_iload_n (pc := 0) C dX11_day_0 rfl 2 rfl ?_
  refine g_iconst (pc := 1) (v := 1) C dX11_day_1 (by decide) ?_
  refine g_icmp_lt (pc := 2) (tgt := 11) C dX11_day_2 (by decide) (fun c1 => ?_) (fun c1 => ?_)
  · replace h := ifp c1 h
    refine g_bipush (pc := 11) (v := (-3)) C dX11_day_11 (by decide) ?_
    replace h := Prod.mk.inj (Option.some.inj h); obtain ⟨rfl, h⟩ := h; replace h := Prod.mk.inj h; obtain ⟨rfl, rfl⟩ := h
    exact g_iret C hR dX11_day_13
  · replace h := ifn c1 h
    refine g_iload_n (pc := 5) C dX11_day_5 rfl 2 rfl ?_
    refine g_bipush (pc := 6) (v := 40) C dX11_day_6 (by decide) ?_
    refine g_icmp_le (pc := 8) (tgt := 14) C dX11_day_8 (by decide) (fun c2 => ?_) (fun c2 => ?_)
    · replace h := ifp c2 h
      refine g_aload_n (pc := 14) C dX11_day_14 rfl 0 rfl ?_
      replace h := gd_some h; obtain ⟨hk3, h⟩ := h
      refine g_get (pc := 15) (v := va_rf (gR M x0 6)) C dX11_day_15 kX11 hk3 6 (by decide) q_430 rfl ?_
      replace h := bnd h; obtain ⟨a4, ea4, h⟩ := h
      refine g_refq ea4 ?_
      refine g_aload_n (pc := 18) C dX11_day_18 rfl 0 rfl ?_
      refine g_get (pc := 19) (v := va_rf (gR M x0 5)) C dX11_day_19 kX11 hk3 5 (by decide) q_429 rfl ?_
      replace h := bnd h; obtain ⟨a5, ea5, h⟩ := h
      refine g_refq ea5 ?_
      replace h := gd_some h; obtain ⟨hk6, h⟩ := h
      replace h := bnd2 h; obtain ⟨_u, M7, h1, h⟩ := h
      refine g_callVv (pc := 22) (As := [.ref (a5)]) (st := []) C dX11_day_22 wX8_copy hk6 rfl (by decide) q_850 q_851 q_849 (by omega) rfl (Nat.le_of_ble_eq_true rfl) (kX8_copy (d := 0) (Nat.le_refl _) h1) ?_
      have hz := leZ_new ((mjX11_day_28 h).Z hZ)
      refine g_new (pc := 25) C dX11_day_25 kX1 hdvX1 q_984 q_985 q_141 hz.1 hz.2 ?_
      exact g_sub [0, 1, 2] rfl (tjX11_day_28 C hR hd hZ h)
    · replace h := ifn c2 h
      refine g_bipush (pc := 11) (v := (-3)) C dX11_day_11 (by decide) ?_
      replace h := Prod.mk.inj (Option.some.inj h); obtain ⟨rfl, h⟩ := h; replace h := Prod.mk.inj h; obtain ⟨rfl, rfl⟩ := h
      exact g_iret C hR dX11_day_13
theorem dX11_init_0 : decode cX11_init 0 = .ok (.aload_n 0, 1) := by decide +kernel
theorem dX11_init_1 : decode cX11_init 1 = .ok (.invokespecial 3, 3) := by decide +kernel
theorem dX11_init_4 : decode cX11_init 4 = .ok (.aload_n 0, 1) := by decide +kernel
theorem dX11_init_5 : decode cX11_init 5 = .ok (.sipush 900, 3) := by decide +kernel
theorem dX11_init_8 : decode cX11_init 8 = .ok (.newarray .byte, 2) := by decide +kernel
theorem dX11_init_10 : decode cX11_init 10 = .ok (.putfield 9, 3) := by decide +kernel
theorem dX11_init_13 : decode cX11_init 13 = .ok (.aload_n 0, 1) := by decide +kernel
theorem dX11_init_14 : decode cX11_init 14 = .ok (.new 13, 3) := by decide +kernel
theorem dX11_init_17 : decode cX11_init 17 = .ok (.dup, 1) := by decide +kernel
theorem dX11_init_18 : decode cX11_init 18 = .ok (.invokespecial 15, 3) := by decide +kernel
theorem dX11_init_21 : decode cX11_init 21 = .ok (.putfield 16, 3) := by decide +kernel
theorem dX11_init_24 : decode cX11_init 24 = .ok (.aload_n 0, 1) := by decide +kernel
theorem dX11_init_25 : decode cX11_init 25 = .ok (.new 20, 3) := by decide +kernel
theorem dX11_init_28 : decode cX11_init 28 = .ok (.dup, 1) := by decide +kernel
theorem dX11_init_29 : decode cX11_init 29 = .ok (.new 22, 3) := by decide +kernel
theorem dX11_init_32 : decode cX11_init 32 = .ok (.dup, 1) := by decide +kernel
theorem dX11_init_33 : decode cX11_init 33 = .ok (.invokespecial 24, 3) := by decide +kernel
theorem dX11_init_36 : decode cX11_init 36 = .ok (.invokespecial 25, 3) := by decide +kernel
theorem dX11_init_39 : decode cX11_init 39 = .ok (.putfield 28, 3) := by decide +kernel
theorem dX11_init_42 : decode cX11_init 42 = .ok (.aload_n 0, 1) := by decide +kernel
theorem dX11_init_43 : decode cX11_init 43 = .ok (.new 32, 3) := by decide +kernel
theorem dX11_init_46 : decode cX11_init 46 = .ok (.dup, 1) := by decide +kernel
theorem dX11_init_47 : decode cX11_init 47 = .ok (.invokespecial 34, 3) := by decide +kernel
theorem dX11_init_50 : decode cX11_init 50 = .ok (.putfield 35, 3) := by decide +kernel
theorem dX11_init_53 : decode cX11_init 53 = .ok (.aload_n 0, 1) := by decide +kernel
theorem dX11_init_54 : decode cX11_init 54 = .ok (.new 39, 3) := by decide +kernel
theorem dX11_init_57 : decode cX11_init 57 = .ok (.dup, 1) := by decide +kernel
theorem dX11_init_58 : decode cX11_init 58 = .ok (.invokespecial 41, 3) := by decide +kernel
theorem dX11_init_61 : decode cX11_init 61 = .ok (.putfield 42, 3) := by decide +kernel
theorem dX11_init_64 : decode cX11_init 64 = .ok (.aload_n 0, 1) := by decide +kernel
theorem dX11_init_65 : decode cX11_init 65 = .ok (.new 39, 3) := by decide +kernel
theorem dX11_init_68 : decode cX11_init 68 = .ok (.dup, 1) := by decide +kernel
theorem dX11_init_69 : decode cX11_init 69 = .ok (.invokespecial 41, 3) := by decide +kernel
theorem dX11_init_72 : decode cX11_init 72 = .ok (.putfield 46, 3) := by decide +kernel
theorem dX11_init_75 : decode cX11_init 75 = .ok (.aload_n 0, 1) := by decide +kernel
theorem dX11_init_76 : decode cX11_init 76 = .ok (.bipush 10, 2) := by decide +kernel
theorem dX11_init_78 : decode cX11_init 78 = .ok (.anewarray 39, 3) := by decide +kernel
theorem dX11_init_81 : decode cX11_init 81 = .ok (.putfield 49, 3) := by decide +kernel
theorem dX11_init_84 : decode cX11_init 84 = .ok (.iconst 0, 1) := by decide +kernel
theorem dX11_init_85 : decode cX11_init 85 = .ok (.istore_n 1, 1) := by decide +kernel
theorem dX11_init_86 : decode cX11_init 86 = .ok (.iload_n 1, 1) := by decide +kernel
theorem dX11_init_87 : decode cX11_init 87 = .ok (.bipush 10, 2) := by decide +kernel
theorem dX11_init_89 : decode cX11_init 89 = .ok (.if_icmp .ge 22, 3) := by decide +kernel
theorem dX11_init_92 : decode cX11_init 92 = .ok (.aload_n 0, 1) := by decide +kernel
theorem dX11_init_93 : decode cX11_init 93 = .ok (.getfield 49, 3) := by decide +kernel
theorem dX11_init_96 : decode cX11_init 96 = .ok (.iload_n 1, 1) := by decide +kernel
theorem dX11_init_97 : decode cX11_init 97 = .ok (.new 39, 3) := by decide +kernel
theorem dX11_init_100 : decode cX11_init 100 = .ok (.dup, 1) := by decide +kernel
theorem dX11_init_101 : decode cX11_init 101 = .ok (.invokespecial 41, 3) := by decide +kernel
theorem dX11_init_104 : decode cX11_init 104 = .ok (.aastore, 1) := by decide +kernel
theorem dX11_init_105 : decode cX11_init 105 = .ok (.iinc 1 1, 3) := by decide +kernel
theorem dX11_init_108 : decode cX11_init 108 = .ok (.goto (-22), 3) := by decide +kernel
theorem dX11_init_111 : decode cX11_init 111 = .ok (.aload_n 0, 1) := by decide +kernel
theorem dX11_init_112 : decode cX11_init 112 = .ok (.iconst 4, 1) := by decide +kernel
theorem dX11_init_113 : decode cX11_init 113 = .ok (.anewarray 53, 3) := by decide +kernel
theorem dX11_init_116 : decode cX11_init 116 = .ok (.putfield 55, 3) := by decide +kernel
theorem dX11_init_119 : decode cX11_init 119 = .ok (.iconst 0, 1) := by decide +kernel
theorem dX11_init_120 : decode cX11_init 120 = .ok (.istore_n 1, 1) := by decide +kernel
theorem dX11_init_121 : decode cX11_init 121 = .ok (.iload_n 1, 1) := by decide +kernel
theorem dX11_init_122 : decode cX11_init 122 = .ok (.iconst 4, 1) := by decide +kernel
theorem dX11_init_123 : decode cX11_init 123 = .ok (.if_icmp .ge 22, 3) := by decide +kernel
theorem dX11_init_126 : decode cX11_init 126 = .ok (.aload_n 0, 1) := by decide +kernel
theorem dX11_init_127 : decode cX11_init 127 = .ok (.getfield 55, 3) := by decide +kernel
theorem dX11_init_130 : decode cX11_init 130 = .ok (.iload_n 1, 1) := by decide +kernel
theorem dX11_init_131 : decode cX11_init 131 = .ok (.new 53, 3) := by decide +kernel
theorem dX11_init_134 : decode cX11_init 134 = .ok (.dup, 1) := by decide +kernel
theorem dX11_init_135 : decode cX11_init 135 = .ok (.invokespecial 59, 3) := by decide +kernel
theorem dX11_init_138 : decode cX11_init 138 = .ok (.aastore, 1) := by decide +kernel
theorem dX11_init_139 : decode cX11_init 139 = .ok (.iinc 1 1, 3) := by decide +kernel
theorem dX11_init_142 : decode cX11_init 142 = .ok (.goto (-21), 3) := by decide +kernel
theorem dX11_init_145 : decode cX11_init 145 = .ok (.aload_n 0, 1) := by decide +kernel
theorem dX11_init_146 : decode cX11_init 146 = .ok (.iconst 2, 1) := by decide +kernel
theorem dX11_init_147 : decode cX11_init 147 = .ok (.anewarray 60, 3) := by decide +kernel
theorem dX11_init_150 : decode cX11_init 150 = .ok (.putfield 62, 3) := by decide +kernel
theorem dX11_init_153 : decode cX11_init 153 = .ok (.iconst 0, 1) := by decide +kernel
theorem dX11_init_154 : decode cX11_init 154 = .ok (.istore_n 1, 1) := by decide +kernel
theorem dX11_init_155 : decode cX11_init 155 = .ok (.iload_n 1, 1) := by decide +kernel
theorem dX11_init_156 : decode cX11_init 156 = .ok (.iconst 2, 1) := by decide +kernel
theorem dX11_init_157 : decode cX11_init 157 = .ok (.if_icmp .ge 22, 3) := by decide +kernel
theorem dX11_init_160 : decode cX11_init 160 = .ok (.aload_n 0, 1) := by decide +kernel
theorem dX11_init_161 : decode cX11_init 161 = .ok (.getfield 62, 3) := by decide +kernel
theorem dX11_init_164 : decode cX11_init 164 = .ok (.iload_n 1, 1) := by decide +kernel
theorem dX11_init_165 : decode cX11_init 165 = .ok (.new 60, 3) := by decide +kernel
theorem dX11_init_168 : decode cX11_init 168 = .ok (.dup, 1) := by decide +kernel
theorem dX11_init_169 : decode cX11_init 169 = .ok (.invokespecial 66, 3) := by decide +kernel
theorem dX11_init_172 : decode cX11_init 172 = .ok (.aastore, 1) := by decide +kernel
theorem dX11_init_173 : decode cX11_init 173 = .ok (.iinc 1 1, 3) := by decide +kernel
theorem dX11_init_176 : decode cX11_init 176 = .ok (.goto (-21), 3) := by decide +kernel
theorem dX11_init_179 : decode cX11_init 179 = .ok (.aload_n 0, 1) := by decide +kernel
theorem dX11_init_180 : decode cX11_init 180 = .ok (.bipush 24, 2) := by decide +kernel
theorem dX11_init_182 : decode cX11_init 182 = .ok (.newarray .int, 2) := by decide +kernel
theorem dX11_init_184 : decode cX11_init 184 = .ok (.putfield 67, 3) := by decide +kernel
theorem dX11_init_187 : decode cX11_init 187 = .ok (.aload_n 0, 1) := by decide +kernel
theorem dX11_init_188 : decode cX11_init 188 = .ok (.bipush 24, 2) := by decide +kernel
theorem dX11_init_190 : decode cX11_init 190 = .ok (.newarray .int, 2) := by decide +kernel
theorem dX11_init_192 : decode cX11_init 192 = .ok (.putfield 71, 3) := by decide +kernel
theorem dX11_init_195 : decode cX11_init 195 = .ok (.aload_n 0, 1) := by decide +kernel
theorem dX11_init_196 : decode cX11_init 196 = .ok (.iconst 4, 1) := by decide +kernel
theorem dX11_init_197 : decode cX11_init 197 = .ok (.newarray .int, 2) := by decide +kernel
theorem dX11_init_199 : decode cX11_init 199 = .ok (.putfield 74, 3) := by decide +kernel
theorem dX11_init_202 : decode cX11_init 202 = .ok (.return_, 1) := by decide +kernel
theorem wX11_init : Mw yX11_init cX11_init 2 none 0 := ⟨q_146, q_120, by decide, ⟨by decide +kernel, by decide +kernel⟩, by decide +kernel, by decide +kernel⟩
-- a loop of EyeTrainer.<init> at 86
def jX11_init_104 (T : Sh) (M : Me) (x0 : Nat) (x1 : Int32) (s0 : Nat) (s1 : Int32) (s2 : Nat) : Option ((Int32 × Sh × Me) ⊕ ((Sh × Me))) :=
  gd (kd T s2 = 17) <| gd (kd T s0 = 7) <| gv s1 (ln T s2) <| lt (pR M s2 (Int32.toNatClampNeg s1) (some s0)) fun M35 => lt (x1 + (1 : Int32)) fun v36 => some (.inl (v36, T, M35))
def jX11_init_100 (T : Sh) (M : Me) (x0 : Nat) (x1 : Int32) (s0 : Nat) (s1 : Int32) (s2 : Nat) : Option ((Int32 × Sh × Me) ⊕ ((Sh × Me))) :=
  Option.bind (fX8_init T M s0) <| un3 fun _u T31 M30 => jX11_init_104 T31 M30 x0 x1 s0 s1 s2
def bX11_init_86 (x0 : Nat) (x1 : Int32) (T : Sh) (M : Me) : Option ((Int32 × Sh × Me) ⊕ ((Sh × Me))) :=
  if (10 : Int32) ≤ x1 then (some (.inr (T, M))) else (gd (kd T x0 = 10) <| Option.bind (gR M x0 7) fun a29 => jX11_init_100 (nT T 7 0 3) (nM T M) x0 x1 (tp T) x1 a29)
def PX11_init_86 (X : Fx) (B : Bx) (Z : Nat × Nat × Nat × Nat) (Q : State → Prop) (x0 : Nat) (s : Int32 × Sh × Me) : Prop := G X B 2 Z Q 86 [(0, .ref (x0)), (1, .int (s.1))] [] s.2.1 s.2.2
def EX11_init_86 (X : Fx) (B : Bx) (Z : Nat × Nat × Nat × Nat) (Q : State → Prop) (x0 : Nat) (r : (Sh × Me)) : Prop := G X B 2 Z Q 111 [(0, .ref (x0))] [] r.1 r.2
theorem mjX11_init_104 {T : Sh} {M : Me} {x0 : Nat} {x1 : Int32} {s0 : Nat} {s1 : Int32} {s2 : Nat} {o : (Int32 × Sh × Me) ⊕ ((Sh × Me))} (h : jX11_init_104 T M x0 x1 s0 s1 s2 = some o) : leT T ((Sum.elim (fun s : Int32 × Sh × Me => s.2.1) (fun r : Sh × Me => r.1)) o) := by
  unfold jX11_init_104 at h
  replace h := gd_some h; obtain ⟨hk32, h⟩ := h
  replace h := gd_some h; obtain ⟨hk33, h⟩ := h
  replace h := gv_some h; obtain ⟨hi34, h⟩ := h
  obtain ⟨M35, eM35⟩ : ∃ y : Me, y = pR M s2 (Int32.toNatClampNeg s1) (some s0) := ⟨_, rfl⟩
  replace h := lt_at eM35 h
  obtain ⟨v36, ev36⟩ : ∃ y : Int32, y = x1 + (1 : Int32) := ⟨_, rfl⟩
  replace h := lt_at ev36 h
  obtain rfl := Option.some.inj h
  exact leT.rfl
set_option maxHeartbeats 4000000 in
theorem tjX11_init_104 {X : Fx} {B : Bx} {Z : Nat × Nat × Nat × Nat} {Q : State → Prop} {d : Nat} {T : Sh} {M : Me} {x0 : Nat} {x1 : Int32} {s0 : Nat} {s1 : Int32} {s2 : Nat} {o : (Int32 × Sh × Me) ⊕ ((Sh × Me))} (C : Cx X B cX11_init 2 RX11 d Z) (hd : 3 ≤ d) (hin : X.2.2.2.2.2.2.2.2.1.name = "<init>") (hZ : leZ ((Sum.elim (fun s : Int32 × Sh × Me => s.2.1) (fun r : Sh × Me => r.1)) o) Z) (h : jX11_init_104 T M x0 x1 s0 s1 s2 = some o) (hE : lpE (PX11_init_86 X B Z Q x0) (EX11_init_86 X B Z Q x0) o) : G X B 2 Z Q 104 [(0, .ref (x0)), (1, .int (x1))] [.ref (s0), .int (s1), .ref (s2)] T M := by
  unfold jX11_init_104 at h
  replace h := gd_some h; obtain ⟨hk32, h⟩ := h
  replace h := gd_some h; obtain ⟨hk33, h⟩ := h
  replace h := gv_some h; obtain ⟨hi34, h⟩ := h
  refine g_aast17 (pc := 104) C dX11_init_104 hk32 hk33 (by decide) rfl rfl hi34 ?_
  refine g_mem (fun M35 eM35 => ?_)
  replace h := lt_at eM35 h
  obtain ⟨v36, ev36⟩ : ∃ y : Int32, y = x1 + (1 : Int32) := ⟨_, rfl⟩
  replace h := lt_at ev36 h
  refine g_iinc (pc := 105) (v := v36) (k := 1) (lo2 := [(1, .int (v36)), (0, .ref (x0))]) C dX11_init_105 rfl (by rw [ev36]; rfl) (by decide) rfl ?_
  refine g_goto (pc := 108) (tgt := 86) C dX11_init_108 (by decide) ?_
  obtain rfl := Option.some.inj h
  exact g_sub [1, 0] rfl (show G X B 2 Z Q 86 [(0, .ref (x0)), (1, .int (v36))] [] T M35 from hE)
theorem mjX11_init_100 {T : Sh} {M : Me} {x0 : Nat} {x1 : Int32} {s0 : Nat} {s1 : Int32} {s2 : Nat} {o : (Int32 × Sh × Me) ⊕ ((Sh × Me))} (h : jX11_init_100 T M x0 x1 s0 s1 s2 = some o) : leT T ((Sum.elim (fun s : Int32 × Sh × Me => s.2.1) (fun r : Sh × Me => r.1)) o) := by
  unfold jX11_init_100 at h
  replace h := bnd3 h; obtain ⟨_u, T31, M30, h1, h⟩ := h
  have hmT31 := mX8_init h1
  exact (leT.rfl.trans hmT31).trans (mjX11_init_104 h)
set_option maxHeartbeats 4000000 in
theorem tjX11_init_100 {X : Fx} {B : Bx} {Z : Nat × Nat × Nat × Nat} {Q : State → Prop} {d : Nat} {T : Sh} {M : Me} {x0 : Nat} {x1 : Int32} {s0 : Nat} {s1 : Int32} {s2 : Nat} {o : (Int32 × Sh × Me) ⊕ ((Sh × Me))} (C : Cx X B cX11_init 2 RX11 d Z) (hd : 3 ≤ d) (hin : X.2.2.2.2.2.2.2.2.1.name = "<init>") (hZ : leZ ((Sum.elim (fun s : Int32 × Sh × Me => s.2.1) (fun r : Sh × Me => r.1)) o) Z) (h : jX11_init_100 T M x0 x1 s0 s1 s2 = some o) (hE : lpE (PX11_init_86 X B Z Q x0) (EX11_init_86 X B Z Q x0) o) : G X B 2 Z Q 100 [(0, .ref (x0)), (1, .int (x1))] [.ref (s0), .int (s1), .ref (s2)] T M := by
  unfold jX11_init_100 at h
  refine g_dup (pc := 100) C dX11_init_100 rfl ?_
  replace h := bnd3 h; obtain ⟨_u, T31, M30, h1, h⟩ := h
  have hzT31 := (mjX11_init_104 h).Z hZ
  refine g_callIvA (pc := 101) (As := []) (st := [.ref (s0), .int (s1), .ref (s2)]) C dX11_init_101 wX8_init q_371 rfl rfl q_370 (by omega) rfl (Nat.le_of_ble_eq_true rfl) (kX8_init (d := 1) (Nat.le_refl _) h1) hzT31 ?_
  exact g_sub [0, 1] rfl (tjX11_init_104 C hd hin hZ h hE)
theorem mbX11_init_86 {x0 : Nat} : ∀ (s : Int32 × Sh × Me) (o : (Int32 × Sh × Me) ⊕ ((Sh × Me))), bX11_init_86 x0 s.1 s.2.1 s.2.2 = some o → leT ((fun s : Int32 × Sh × Me => s.2.1) s) ((Sum.elim (fun s : Int32 × Sh × Me => s.2.1) (fun r : Sh × Me => r.1)) o) := by
  rintro ⟨x1, T, M⟩ o h
  replace h : bX11_init_86 x0 x1 T M = some o := h
  unfold bX11_init_86 at h
  by_cases c27 : (10 : Int32) ≤ x1
  · replace h := ifp c27 h
    obtain rfl := Option.some.inj h
    exact leT.rfl
  · replace h := ifn c27 h
    replace h := gd_some h; obtain ⟨hk28, h⟩ := h
    replace h := bnd h; obtain ⟨a29, ea29, h⟩ := h
    exact (leT.rfl.trans (leT.new _ _ _ _)).trans (mjX11_init_100 h)
set_option maxHeartbeats 4000000 in
theorem tbX11_init_86 {X : Fx} {B : Bx} {Z : Nat × Nat × Nat × Nat} {Q : State → Prop} {d : Nat} (C : Cx X B cX11_init 2 RX11 d Z) (hd : 3 ≤ d) (hin : X.2.2.2.2.2.2.2.2.1.name = "<init>") {x0 : Nat} : ∀ (s : Int32 × Sh × Me) (o : (Int32 × Sh × Me) ⊕ ((Sh × Me))), bX11_init_86 x0 s.1 s.2.1 s.2.2 = some o → leZ ((Sum.elim (fun s : Int32 × Sh × Me => s.2.1) (fun r : Sh × Me => r.1)) o) Z → lpE (PX11_init_86 X B Z Q x0) (EX11_init_86 X B Z Q x0) o → PX11_init_86 X B Z Q x0 s := by
  rintro ⟨x1, T, M⟩ o h hZ hE
  replace h : bX11_init_86 x0 x1 T M = some o := h
  unfold bX11_init_86 at h
  show G X B 2 Z Q 86 [(0, .ref (x0)), (1, .int (x1))] [] T M
  refine g_iload_n (pc := 86) C dX11_init_86 rfl 1 rfl ?_
  refine g_bipush (pc := 87) (v := 10) C dX11_init_87 (by decide) ?_
  refine g_icmp_ge (pc := 89) (tgt := 111) C dX11_init_89 (by decide) (fun c27 => ?_) (fun c27 => ?_)
  · replace h := ifp c27 h
    obtain rfl := Option.some.inj h
    exact g_sub [0] rfl (show G X B 2 Z Q 111 [(0, .ref (x0))] [] T M from hE)
  · replace h := ifn c27 h
    refine g_aload_n (pc := 92) C dX11_init_92 rfl 0 rfl ?_
    replace h := gd_some h; obtain ⟨hk28, h⟩ := h
    refine g_get (pc := 93) (v := va_rf (gR M x0 7)) C dX11_init_93 kX11 hk28 7 (by decide) q_431 rfl ?_
    replace h := bnd h; obtain ⟨a29, ea29, h⟩ := h
    refine g_refq ea29 ?_
    refine g_iload_n (pc := 96) C dX11_init_96 rfl 1 rfl ?_
    have hz := leZ_new ((mjX11_init_100 h).Z hZ)
    refine g_new (pc := 97) C dX11_init_97 kX8 hdvX8 q_368 q_369 q_127 hz.1 hz.2 ?_
    exact g_sub [0, 1] rfl (tjX11_init_100 C hd hin hZ h hE)
-- a loop of EyeTrainer.<init> at 121
def jX11_init_138 (T : Sh) (M : Me) (x0 : Nat) (x1 : Int32) (s0 : Nat) (s1 : Int32) (s2 : Nat) : Option ((Int32 × Sh × Me) ⊕ ((Sh × Me))) :=
  gd (kd T s2 = 18) <| gd (kd T s0 = 9) <| gv s1 (ln T s2) <| lt (pR M s2 (Int32.toNatClampNeg s1) (some s0)) fun M49 => lt (x1 + (1 : Int32)) fun v50 => some (.inl (v50, T, M49))
def jX11_init_134 (T : Sh) (M : Me) (x0 : Nat) (x1 : Int32) (s0 : Nat) (s1 : Int32) (s2 : Nat) : Option ((Int32 × Sh × Me) ⊕ ((Sh × Me))) :=
  Option.bind (fX10_init T M s0) <| un3 fun _u T45 M44 => jX11_init_138 T45 M44 x0 x1 s0 s1 s2
def bX11_init_121 (x0 : Nat) (x1 : Int32) (T : Sh) (M : Me) : Option ((Int32 × Sh × Me) ⊕ ((Sh × Me))) :=
  if (4 : Int32) ≤ x1 then (some (.inr (T, M))) else (gd (kd T x0 = 10) <| Option.bind (gR M x0 9) fun a43 => jX11_init_134 (nT T 9 0 3) (nM T M) x0 x1 (tp T) x1 a43)
def PX11_init_121 (X : Fx) (B : Bx) (Z : Nat × Nat × Nat × Nat) (Q : State → Prop) (x0 : Nat) (s : Int32 × Sh × Me) : Prop := G X B 2 Z Q 121 [(0, .ref (x0)), (1, .int (s.1))] [] s.2.1 s.2.2
def EX11_init_121 (X : Fx) (B : Bx) (Z : Nat × Nat × Nat × Nat) (Q : State → Prop) (x0 : Nat) (r : (Sh × Me)) : Prop := G X B 2 Z Q 145 [(0, .ref (x0))] [] r.1 r.2
theorem mjX11_init_138 {T : Sh} {M : Me} {x0 : Nat} {x1 : Int32} {s0 : Nat} {s1 : Int32} {s2 : Nat} {o : (Int32 × Sh × Me) ⊕ ((Sh × Me))} (h : jX11_init_138 T M x0 x1 s0 s1 s2 = some o) : leT T ((Sum.elim (fun s : Int32 × Sh × Me => s.2.1) (fun r : Sh × Me => r.1)) o) := by
  unfold jX11_init_138 at h
  replace h := gd_some h; obtain ⟨hk46, h⟩ := h
  replace h := gd_some h; obtain ⟨hk47, h⟩ := h
  replace h := gv_some h; obtain ⟨hi48, h⟩ := h
  obtain ⟨M49, eM49⟩ : ∃ y : Me, y = pR M s2 (Int32.toNatClampNeg s1) (some s0) := ⟨_, rfl⟩
  replace h := lt_at eM49 h
  obtain ⟨v50, ev50⟩ : ∃ y : Int32, y = x1 + (1 : Int32) := ⟨_, rfl⟩
  replace h := lt_at ev50 h
  obtain rfl := Option.some.inj h
  exact leT.rfl
set_option maxHeartbeats 4000000 in
theorem tjX11_init_138 {X : Fx} {B : Bx} {Z : Nat × Nat × Nat × Nat} {Q : State → Prop} {d : Nat} {T : Sh} {M : Me} {x0 : Nat} {x1 : Int32} {s0 : Nat} {s1 : Int32} {s2 : Nat} {o : (Int32 × Sh × Me) ⊕ ((Sh × Me))} (C : Cx X B cX11_init 2 RX11 d Z) (hd : 3 ≤ d) (hin : X.2.2.2.2.2.2.2.2.1.name = "<init>") (hZ : leZ ((Sum.elim (fun s : Int32 × Sh × Me => s.2.1) (fun r : Sh × Me => r.1)) o) Z) (h : jX11_init_138 T M x0 x1 s0 s1 s2 = some o) (hE : lpE (PX11_init_121 X B Z Q x0) (EX11_init_121 X B Z Q x0) o) : G X B 2 Z Q 138 [(0, .ref (x0)), (1, .int (x1))] [.ref (s0), .int (s1), .ref (s2)] T M := by
  unfold jX11_init_138 at h
  replace h := gd_some h; obtain ⟨hk46, h⟩ := h
  replace h := gd_some h; obtain ⟨hk47, h⟩ := h
  replace h := gv_some h; obtain ⟨hi48, h⟩ := h
  refine g_aast18 (pc := 138) C dX11_init_138 hk46 hk47 (by decide) rfl rfl hi48 ?_
  refine g_mem (fun M49 eM49 => ?_)
  replace h := lt_at eM49 h
  obtain ⟨v50, ev50⟩ : ∃ y : Int32, y = x1 + (1 : Int32) := ⟨_, rfl⟩
  replace h := lt_at ev50 h
  refine g_iinc (pc := 139) (v := v50) (k := 1) (lo2 := [(1, .int (v50)), (0, .ref (x0))]) C dX11_init_139 rfl (by rw [ev50]; rfl) (by decide) rfl ?_
  refine g_goto (pc := 142) (tgt := 121) C dX11_init_142 (by decide) ?_
  obtain rfl := Option.some.inj h
  exact g_sub [1, 0] rfl (show G X B 2 Z Q 121 [(0, .ref (x0)), (1, .int (v50))] [] T M49 from hE)
theorem mjX11_init_134 {T : Sh} {M : Me} {x0 : Nat} {x1 : Int32} {s0 : Nat} {s1 : Int32} {s2 : Nat} {o : (Int32 × Sh × Me) ⊕ ((Sh × Me))} (h : jX11_init_134 T M x0 x1 s0 s1 s2 = some o) : leT T ((Sum.elim (fun s : Int32 × Sh × Me => s.2.1) (fun r : Sh × Me => r.1)) o) := by
  unfold jX11_init_134 at h
  replace h := bnd3 h; obtain ⟨_u, T45, M44, h1, h⟩ := h
  have hmT45 := mX10_init h1
  exact (leT.rfl.trans hmT45).trans (mjX11_init_138 h)
set_option maxHeartbeats 4000000 in
theorem tjX11_init_134 {X : Fx} {B : Bx} {Z : Nat × Nat × Nat × Nat} {Q : State → Prop} {d : Nat} {T : Sh} {M : Me} {x0 : Nat} {x1 : Int32} {s0 : Nat} {s1 : Int32} {s2 : Nat} {o : (Int32 × Sh × Me) ⊕ ((Sh × Me))} (C : Cx X B cX11_init 2 RX11 d Z) (hd : 3 ≤ d) (hin : X.2.2.2.2.2.2.2.2.1.name = "<init>") (hZ : leZ ((Sum.elim (fun s : Int32 × Sh × Me => s.2.1) (fun r : Sh × Me => r.1)) o) Z) (h : jX11_init_134 T M x0 x1 s0 s1 s2 = some o) (hE : lpE (PX11_init_121 X B Z Q x0) (EX11_init_121 X B Z Q x0) o) : G X B 2 Z Q 134 [(0, .ref (x0)), (1, .int (x1))] [.ref (s0), .int (s1), .ref (s2)] T M := by
  unfold jX11_init_134 at h
  refine g_dup (pc := 134) C dX11_init_134 rfl ?_
  replace h := bnd3 h; obtain ⟨_u, T45, M44, h1, h⟩ := h
  have hzT45 := (mjX11_init_138 h).Z hZ
  refine g_callIvA (pc := 135) (As := []) (st := [.ref (s0), .int (s1), .ref (s2)]) C dX11_init_135 wX10_init q_392 rfl rfl q_391 (by omega) rfl (Nat.le_of_ble_eq_true rfl) (kX10_init (d := 1) (Nat.le_refl _) h1) hzT45 ?_
  exact g_sub [0, 1] rfl (tjX11_init_138 C hd hin hZ h hE)
theorem mbX11_init_121 {x0 : Nat} : ∀ (s : Int32 × Sh × Me) (o : (Int32 × Sh × Me) ⊕ ((Sh × Me))), bX11_init_121 x0 s.1 s.2.1 s.2.2 = some o → leT ((fun s : Int32 × Sh × Me => s.2.1) s) ((Sum.elim (fun s : Int32 × Sh × Me => s.2.1) (fun r : Sh × Me => r.1)) o) := by
  rintro ⟨x1, T, M⟩ o h
  replace h : bX11_init_121 x0 x1 T M = some o := h
  unfold bX11_init_121 at h
  by_cases c41 : (4 : Int32) ≤ x1
  · replace h := ifp c41 h
    obtain rfl := Option.some.inj h
    exact leT.rfl
  · replace h := ifn c41 h
    replace h := gd_some h; obtain ⟨hk42, h⟩ := h
    replace h := bnd h; obtain ⟨a43, ea43, h⟩ := h
    exact (leT.rfl.trans (leT.new _ _ _ _)).trans (mjX11_init_134 h)
set_option maxHeartbeats 4000000 in
theorem tbX11_init_121 {X : Fx} {B : Bx} {Z : Nat × Nat × Nat × Nat} {Q : State → Prop} {d : Nat} (C : Cx X B cX11_init 2 RX11 d Z) (hd : 3 ≤ d) (hin : X.2.2.2.2.2.2.2.2.1.name = "<init>") {x0 : Nat} : ∀ (s : Int32 × Sh × Me) (o : (Int32 × Sh × Me) ⊕ ((Sh × Me))), bX11_init_121 x0 s.1 s.2.1 s.2.2 = some o → leZ ((Sum.elim (fun s : Int32 × Sh × Me => s.2.1) (fun r : Sh × Me => r.1)) o) Z → lpE (PX11_init_121 X B Z Q x0) (EX11_init_121 X B Z Q x0) o → PX11_init_121 X B Z Q x0 s := by
  rintro ⟨x1, T, M⟩ o h hZ hE
  replace h : bX11_init_121 x0 x1 T M = some o := h
  unfold bX11_init_121 at h
  show G X B 2 Z Q 121 [(0, .ref (x0)), (1, .int (x1))] [] T M
  refine g_iload_n (pc := 121) C dX11_init_121 rfl 1 rfl ?_
  refine g_iconst (pc := 122) (v := 4) C dX11_init_122 (by decide) ?_
  refine g_icmp_ge (pc := 123) (tgt := 145) C dX11_init_123 (by decide) (fun c41 => ?_) (fun c41 => ?_)
  · replace h := ifp c41 h
    obtain rfl := Option.some.inj h
    exact g_sub [0] rfl (show G X B 2 Z Q 145 [(0, .ref (x0))] [] T M from hE)
  · replace h := ifn c41 h
    refine g_aload_n (pc := 126) C dX11_init_126 rfl 0 rfl ?_
    replace h := gd_some h; obtain ⟨hk42, h⟩ := h
    refine g_get (pc := 127) (v := va_rf (gR M x0 9)) C dX11_init_127 kX11 hk42 9 (by decide) q_433 rfl ?_
    replace h := bnd h; obtain ⟨a43, ea43, h⟩ := h
    refine g_refq ea43 ?_
    refine g_iload_n (pc := 130) C dX11_init_130 rfl 1 rfl ?_
    have hz := leZ_new ((mjX11_init_134 h).Z hZ)
    refine g_new (pc := 131) C dX11_init_131 kX10 hdvX10 q_388 q_390 q_128 hz.1 hz.2 ?_
    exact g_sub [0, 1] rfl (tjX11_init_134 C hd hin hZ h hE)
-- a loop of EyeTrainer.<init> at 155
def jX11_init_172 (T : Sh) (M : Me) (x0 : Nat) (x1 : Int32) (s0 : Nat) (s1 : Int32) (s2 : Nat) : Option ((Int32 × Sh × Me) ⊕ ((Sh × Me))) :=
  gd (kd T s2 = 16) <| gd (kd T s0 = 1) <| gv s1 (ln T s2) <| lt (pR M s2 (Int32.toNatClampNeg s1) (some s0)) fun M63 => lt (x1 + (1 : Int32)) fun v64 => some (.inl (v64, T, M63))
def jX11_init_168 (T : Sh) (M : Me) (x0 : Nat) (x1 : Int32) (s0 : Nat) (s1 : Int32) (s2 : Nat) : Option ((Int32 × Sh × Me) ⊕ ((Sh × Me))) :=
  Option.bind (fX2_init T M s0) <| un3 fun _u T59 M58 => jX11_init_172 T59 M58 x0 x1 s0 s1 s2
def bX11_init_155 (x0 : Nat) (x1 : Int32) (T : Sh) (M : Me) : Option ((Int32 × Sh × Me) ⊕ ((Sh × Me))) :=
  if (2 : Int32) ≤ x1 then (some (.inr (T, M))) else (gd (kd T x0 = 10) <| Option.bind (gR M x0 10) fun a57 => jX11_init_168 (nT T 1 0 2) (nM T M) x0 x1 (tp T) x1 a57)
def PX11_init_155 (X : Fx) (B : Bx) (Z : Nat × Nat × Nat × Nat) (Q : State → Prop) (x0 : Nat) (s : Int32 × Sh × Me) : Prop := G X B 2 Z Q 155 [(0, .ref (x0)), (1, .int (s.1))] [] s.2.1 s.2.2
def EX11_init_155 (X : Fx) (B : Bx) (Z : Nat × Nat × Nat × Nat) (Q : State → Prop) (x0 : Nat) (r : (Sh × Me)) : Prop := G X B 2 Z Q 179 [(0, .ref (x0))] [] r.1 r.2
theorem mjX11_init_172 {T : Sh} {M : Me} {x0 : Nat} {x1 : Int32} {s0 : Nat} {s1 : Int32} {s2 : Nat} {o : (Int32 × Sh × Me) ⊕ ((Sh × Me))} (h : jX11_init_172 T M x0 x1 s0 s1 s2 = some o) : leT T ((Sum.elim (fun s : Int32 × Sh × Me => s.2.1) (fun r : Sh × Me => r.1)) o) := by
  unfold jX11_init_172 at h
  replace h := gd_some h; obtain ⟨hk60, h⟩ := h
  replace h := gd_some h; obtain ⟨hk61, h⟩ := h
  replace h := gv_some h; obtain ⟨hi62, h⟩ := h
  obtain ⟨M63, eM63⟩ : ∃ y : Me, y = pR M s2 (Int32.toNatClampNeg s1) (some s0) := ⟨_, rfl⟩
  replace h := lt_at eM63 h
  obtain ⟨v64, ev64⟩ : ∃ y : Int32, y = x1 + (1 : Int32) := ⟨_, rfl⟩
  replace h := lt_at ev64 h
  obtain rfl := Option.some.inj h
  exact leT.rfl
set_option maxHeartbeats 4000000 in
theorem tjX11_init_172 {X : Fx} {B : Bx} {Z : Nat × Nat × Nat × Nat} {Q : State → Prop} {d : Nat} {T : Sh} {M : Me} {x0 : Nat} {x1 : Int32} {s0 : Nat} {s1 : Int32} {s2 : Nat} {o : (Int32 × Sh × Me) ⊕ ((Sh × Me))} (C : Cx X B cX11_init 2 RX11 d Z) (hd : 3 ≤ d) (hin : X.2.2.2.2.2.2.2.2.1.name = "<init>") (hZ : leZ ((Sum.elim (fun s : Int32 × Sh × Me => s.2.1) (fun r : Sh × Me => r.1)) o) Z) (h : jX11_init_172 T M x0 x1 s0 s1 s2 = some o) (hE : lpE (PX11_init_155 X B Z Q x0) (EX11_init_155 X B Z Q x0) o) : G X B 2 Z Q 172 [(0, .ref (x0)), (1, .int (x1))] [.ref (s0), .int (s1), .ref (s2)] T M := by
  unfold jX11_init_172 at h
  replace h := gd_some h; obtain ⟨hk60, h⟩ := h
  replace h := gd_some h; obtain ⟨hk61, h⟩ := h
  replace h := gv_some h; obtain ⟨hi62, h⟩ := h
  refine g_aast16 (pc := 172) C dX11_init_172 hk60 hk61 (by decide) rfl rfl hi62 ?_
  refine g_mem (fun M63 eM63 => ?_)
  replace h := lt_at eM63 h
  obtain ⟨v64, ev64⟩ : ∃ y : Int32, y = x1 + (1 : Int32) := ⟨_, rfl⟩
  replace h := lt_at ev64 h
  refine g_iinc (pc := 173) (v := v64) (k := 1) (lo2 := [(1, .int (v64)), (0, .ref (x0))]) C dX11_init_173 rfl (by rw [ev64]; rfl) (by decide) rfl ?_
  refine g_goto (pc := 176) (tgt := 155) C dX11_init_176 (by decide) ?_
  obtain rfl := Option.some.inj h
  exact g_sub [1, 0] rfl (show G X B 2 Z Q 155 [(0, .ref (x0)), (1, .int (v64))] [] T M63 from hE)
theorem mjX11_init_168 {T : Sh} {M : Me} {x0 : Nat} {x1 : Int32} {s0 : Nat} {s1 : Int32} {s2 : Nat} {o : (Int32 × Sh × Me) ⊕ ((Sh × Me))} (h : jX11_init_168 T M x0 x1 s0 s1 s2 = some o) : leT T ((Sum.elim (fun s : Int32 × Sh × Me => s.2.1) (fun r : Sh × Me => r.1)) o) := by
  unfold jX11_init_168 at h
  replace h := bnd3 h; obtain ⟨_u, T59, M58, h1, h⟩ := h
  have hmT59 := mX2_init h1
  exact (leT.rfl.trans hmT59).trans (mjX11_init_172 h)
set_option maxHeartbeats 4000000 in
theorem tjX11_init_168 {X : Fx} {B : Bx} {Z : Nat × Nat × Nat × Nat} {Q : State → Prop} {d : Nat} {T : Sh} {M : Me} {x0 : Nat} {x1 : Int32} {s0 : Nat} {s1 : Int32} {s2 : Nat} {o : (Int32 × Sh × Me) ⊕ ((Sh × Me))} (C : Cx X B cX11_init 2 RX11 d Z) (hd : 3 ≤ d) (hin : X.2.2.2.2.2.2.2.2.1.name = "<init>") (hZ : leZ ((Sum.elim (fun s : Int32 × Sh × Me => s.2.1) (fun r : Sh × Me => r.1)) o) Z) (h : jX11_init_168 T M x0 x1 s0 s1 s2 = some o) (hE : lpE (PX11_init_155 X B Z Q x0) (EX11_init_155 X B Z Q x0) o) : G X B 2 Z Q 168 [(0, .ref (x0)), (1, .int (x1))] [.ref (s0), .int (s1), .ref (s2)] T M := by
  unfold jX11_init_168 at h
  refine g_dup (pc := 168) C dX11_init_168 rfl ?_
  replace h := bnd3 h; obtain ⟨_u, T59, M58, h1, h⟩ := h
  have hzT59 := (mjX11_init_172 h).Z hZ
  refine g_callIvA (pc := 169) (As := []) (st := [.ref (s0), .int (s1), .ref (s2)]) C dX11_init_169 wX2_init q_411 rfl rfl q_410 (by omega) rfl (Nat.le_of_ble_eq_true rfl) (kX2_init (d := 2) (Nat.le_refl _) h1) hzT59 ?_
  exact g_sub [0, 1] rfl (tjX11_init_172 C hd hin hZ h hE)
theorem mbX11_init_155 {x0 : Nat} : ∀ (s : Int32 × Sh × Me) (o : (Int32 × Sh × Me) ⊕ ((Sh × Me))), bX11_init_155 x0 s.1 s.2.1 s.2.2 = some o → leT ((fun s : Int32 × Sh × Me => s.2.1) s) ((Sum.elim (fun s : Int32 × Sh × Me => s.2.1) (fun r : Sh × Me => r.1)) o) := by
  rintro ⟨x1, T, M⟩ o h
  replace h : bX11_init_155 x0 x1 T M = some o := h
  unfold bX11_init_155 at h
  by_cases c55 : (2 : Int32) ≤ x1
  · replace h := ifp c55 h
    obtain rfl := Option.some.inj h
    exact leT.rfl
  · replace h := ifn c55 h
    replace h := gd_some h; obtain ⟨hk56, h⟩ := h
    replace h := bnd h; obtain ⟨a57, ea57, h⟩ := h
    exact (leT.rfl.trans (leT.new _ _ _ _)).trans (mjX11_init_168 h)
set_option maxHeartbeats 4000000 in
theorem tbX11_init_155 {X : Fx} {B : Bx} {Z : Nat × Nat × Nat × Nat} {Q : State → Prop} {d : Nat} (C : Cx X B cX11_init 2 RX11 d Z) (hd : 3 ≤ d) (hin : X.2.2.2.2.2.2.2.2.1.name = "<init>") {x0 : Nat} : ∀ (s : Int32 × Sh × Me) (o : (Int32 × Sh × Me) ⊕ ((Sh × Me))), bX11_init_155 x0 s.1 s.2.1 s.2.2 = some o → leZ ((Sum.elim (fun s : Int32 × Sh × Me => s.2.1) (fun r : Sh × Me => r.1)) o) Z → lpE (PX11_init_155 X B Z Q x0) (EX11_init_155 X B Z Q x0) o → PX11_init_155 X B Z Q x0 s := by
  rintro ⟨x1, T, M⟩ o h hZ hE
  replace h : bX11_init_155 x0 x1 T M = some o := h
  unfold bX11_init_155 at h
  show G X B 2 Z Q 155 [(0, .ref (x0)), (1, .int (x1))] [] T M
  refine g_iload_n (pc := 155) C dX11_init_155 rfl 1 rfl ?_
  refine g_iconst (pc := 156) (v := 2) C dX11_init_156 (by decide) ?_
  refine g_icmp_ge (pc := 157) (tgt := 179) C dX11_init_157 (by decide) (fun c55 => ?_) (fun c55 => ?_)
  · replace h := ifp c55 h
    obtain rfl := Option.some.inj h
    exact g_sub [0] rfl (show G X B 2 Z Q 179 [(0, .ref (x0))] [] T M from hE)
  · replace h := ifn c55 h
    refine g_aload_n (pc := 160) C dX11_init_160 rfl 0 rfl ?_
    replace h := gd_some h; obtain ⟨hk56, h⟩ := h
    refine g_get (pc := 161) (v := va_rf (gR M x0 10)) C dX11_init_161 kX11 hk56 10 (by decide) q_434 rfl ?_
    replace h := bnd h; obtain ⟨a57, ea57, h⟩ := h
    refine g_refq ea57 ?_
    refine g_iload_n (pc := 164) C dX11_init_164 rfl 1 rfl ?_
    have hz := leZ_new ((mjX11_init_168 h).Z hZ)
    refine g_new (pc := 165) C dX11_init_165 kX2 hdvX2 q_407 q_409 q_129 hz.1 hz.2 ?_
    exact g_sub [0, 1] rfl (tjX11_init_168 C hd hin hZ h hE)
def jX11_init_199 (T : Sh) (M : Me) (s0 : Nat) (s1 : Nat) : Option (Unit × Sh × Me) :=
  gd (kd T s1 = 10) <| lt (pR M s1 13 (some s0)) fun M72 => some ((), T, M72)
theorem mjX11_init_199 {T : Sh} {M : Me} {s0 : Nat} {s1 : Nat} {T' : Sh} {M' : Me} (h : jX11_init_199 T M s0 s1 = some ((), T', M')) : leT T T' := by
  unfold jX11_init_199 at h
  replace h := gd_some h; obtain ⟨hk71, h⟩ := h
  obtain ⟨M72, eM72⟩ : ∃ y : Me, y = pR M s1 13 (some s0) := ⟨_, rfl⟩
  replace h := lt_at eM72 h
  replace h := Prod.mk.inj (Option.some.inj h); obtain ⟨-, h⟩ := h; replace h := Prod.mk.inj h; obtain ⟨rfl, rfl⟩ := h
  exact leT.rfl
set_option maxHeartbeats 4000000 in
theorem tjX11_init_199 {X : Fx} {B : Bx} {Z : Nat × Nat × Nat × Nat} {d : Nat} {T : Sh} {M : Me} {s0 : Nat} {s1 : Nat} {T' : Sh} {M' : Me} (C : Cx X B cX11_init 2 RX11 d Z) (hR : Rx X none) (hd : 3 ≤ d) (hin : X.2.2.2.2.2.2.2.2.1.name = "<init>") (hZ : leZ T' Z) (h : jX11_init_199 T M s0 s1 = some ((), T', M')) : G X B 2 Z (Qf X B Z none T' M') 199 [] [.ref (s0), .ref (s1)] T M := by
  unfold jX11_init_199 at h
  replace h := gd_some h; obtain ⟨hk71, h⟩ := h
  refine g_putRF (pc := 199) (x := (some s0)) (ft := .array (.int)) C hin dX11_init_199 kX11 hk71 13 (by decide) rfl rfl (Or.inr ⟨_, rfl⟩) ⟨rfl, rfl⟩ q_437 ?_
  refine g_mem (fun M72 eM72 => ?_)
  replace h := lt_at eM72 h
  replace h := Prod.mk.inj (Option.some.inj h); obtain ⟨-, h⟩ := h; replace h := Prod.mk.inj h; obtain ⟨rfl, rfl⟩ := h
  exact g_vret C hR dX11_init_202
def jX11_init_192 (T : Sh) (M : Me) (x0 : Nat) (s0 : Nat) (s1 : Nat) : Option (Unit × Sh × Me) :=
  gd (kd T s1 = 10) <| lt (pR M s1 12 (some s0)) fun M70 => jX11_init_199 (nT T 13 4 4) (nM T M70) (tp T) x0
theorem mjX11_init_192 {T : Sh} {M : Me} {x0 : Nat} {s0 : Nat} {s1 : Nat} {T' : Sh} {M' : Me} (h : jX11_init_192 T M x0 s0 s1 = some ((), T', M')) : leT T T' := by
  unfold jX11_init_192 at h
  replace h := gd_some h; obtain ⟨hk69, h⟩ := h
  obtain ⟨M70, eM70⟩ : ∃ y : Me, y = pR M s1 12 (some s0) := ⟨_, rfl⟩
  replace h := lt_at eM70 h
  exact (leT.rfl.trans (leT.new _ _ _ _)).trans (mjX11_init_199 h)
set_option maxHeartbeats 4000000 in
theorem tjX11_init_192 {X : Fx} {B : Bx} {Z : Nat × Nat × Nat × Nat} {d : Nat} {T : Sh} {M : Me} {x0 : Nat} {s0 : Nat} {s1 : Nat} {T' : Sh} {M' : Me} (C : Cx X B cX11_init 2 RX11 d Z) (hR : Rx X none) (hd : 3 ≤ d) (hin : X.2.2.2.2.2.2.2.2.1.name = "<init>") (hZ : leZ T' Z) (h : jX11_init_192 T M x0 s0 s1 = some ((), T', M')) : G X B 2 Z (Qf X B Z none T' M') 192 [(0, .ref (x0))] [.ref (s0), .ref (s1)] T M := by
  unfold jX11_init_192 at h
  replace h := gd_some h; obtain ⟨hk69, h⟩ := h
  refine g_putR (pc := 192) (x := (some s0)) (ft := .array (.int)) C dX11_init_192 kX11 hk69 12 (by decide) rfl rfl rfl (Or.inr ⟨_, rfl⟩) q_436 ?_
  refine g_mem (fun M70 eM70 => ?_)
  replace h := lt_at eM70 h
  refine g_aload_n (pc := 195) C dX11_init_195 rfl 0 rfl ?_
  refine g_iconst (pc := 196) (v := 4) C dX11_init_196 (by decide) ?_
  have hz := leZ_new ((mjX11_init_199 h).Z hZ)
  refine g_newaI (pc := 197) (N := 4) C dX11_init_197 q_179 (by decide) (by decide +kernel) (Nat.le_of_ble_eq_true rfl) hz.1 hz.2 ?_
  exact g_sub [] rfl (tjX11_init_199 C hR hd hin hZ h)
def jX11_init_184 (T : Sh) (M : Me) (x0 : Nat) (s0 : Nat) (s1 : Nat) : Option (Unit × Sh × Me) :=
  gd (kd T s1 = 10) <| lt (pR M s1 11 (some s0)) fun M68 => jX11_init_192 (nT T 13 24 24) (nM T M68) x0 (tp T) x0
theorem mjX11_init_184 {T : Sh} {M : Me} {x0 : Nat} {s0 : Nat} {s1 : Nat} {T' : Sh} {M' : Me} (h : jX11_init_184 T M x0 s0 s1 = some ((), T', M')) : leT T T' := by
  unfold jX11_init_184 at h
  replace h := gd_some h; obtain ⟨hk67, h⟩ := h
  obtain ⟨M68, eM68⟩ : ∃ y : Me, y = pR M s1 11 (some s0) := ⟨_, rfl⟩
  replace h := lt_at eM68 h
  exact (leT.rfl.trans (leT.new _ _ _ _)).trans (mjX11_init_192 h)
set_option maxHeartbeats 4000000 in
theorem tjX11_init_184 {X : Fx} {B : Bx} {Z : Nat × Nat × Nat × Nat} {d : Nat} {T : Sh} {M : Me} {x0 : Nat} {s0 : Nat} {s1 : Nat} {T' : Sh} {M' : Me} (C : Cx X B cX11_init 2 RX11 d Z) (hR : Rx X none) (hd : 3 ≤ d) (hin : X.2.2.2.2.2.2.2.2.1.name = "<init>") (hZ : leZ T' Z) (h : jX11_init_184 T M x0 s0 s1 = some ((), T', M')) : G X B 2 Z (Qf X B Z none T' M') 184 [(0, .ref (x0))] [.ref (s0), .ref (s1)] T M := by
  unfold jX11_init_184 at h
  replace h := gd_some h; obtain ⟨hk67, h⟩ := h
  refine g_putR (pc := 184) (x := (some s0)) (ft := .array (.int)) C dX11_init_184 kX11 hk67 11 (by decide) rfl rfl rfl (Or.inr ⟨_, rfl⟩) q_435 ?_
  refine g_mem (fun M68 eM68 => ?_)
  replace h := lt_at eM68 h
  refine g_aload_n (pc := 187) C dX11_init_187 rfl 0 rfl ?_
  refine g_bipush (pc := 188) (v := 24) C dX11_init_188 (by decide) ?_
  have hz := leZ_new ((mjX11_init_192 h).Z hZ)
  refine g_newaI (pc := 190) (N := 24) C dX11_init_190 q_179 (by decide) (by decide +kernel) (Nat.le_of_ble_eq_true rfl) hz.1 hz.2 ?_
  exact g_sub [0] rfl (tjX11_init_192 C hR hd hin hZ h)
def jX11_init_179 (T : Sh) (M : Me) (x0 : Nat) : Option (Unit × Sh × Me) :=
  jX11_init_184 (nT T 13 24 24) (nM T M) x0 (tp T) x0
theorem mjX11_init_179 {T : Sh} {M : Me} {x0 : Nat} {T' : Sh} {M' : Me} (h : jX11_init_179 T M x0 = some ((), T', M')) : leT T T' := by
  unfold jX11_init_179 at h
  exact (leT.rfl.trans (leT.new _ _ _ _)).trans (mjX11_init_184 h)
set_option maxHeartbeats 4000000 in
theorem tjX11_init_179 {X : Fx} {B : Bx} {Z : Nat × Nat × Nat × Nat} {d : Nat} {T : Sh} {M : Me} {x0 : Nat} {T' : Sh} {M' : Me} (C : Cx X B cX11_init 2 RX11 d Z) (hR : Rx X none) (hd : 3 ≤ d) (hin : X.2.2.2.2.2.2.2.2.1.name = "<init>") (hZ : leZ T' Z) (h : jX11_init_179 T M x0 = some ((), T', M')) : G X B 2 Z (Qf X B Z none T' M') 179 [(0, .ref (x0))] [] T M := by
  unfold jX11_init_179 at h
  refine g_aload_n (pc := 179) C dX11_init_179 rfl 0 rfl ?_
  refine g_bipush (pc := 180) (v := 24) C dX11_init_180 (by decide) ?_
  have hz := leZ_new ((mjX11_init_184 h).Z hZ)
  refine g_newaI (pc := 182) (N := 24) C dX11_init_182 q_179 (by decide) (by decide +kernel) (Nat.le_of_ble_eq_true rfl) hz.1 hz.2 ?_
  exact g_sub [0] rfl (tjX11_init_184 C hR hd hin hZ h)
def jX11_init_150 (T : Sh) (M : Me) (x0 : Nat) (s0 : Nat) (s1 : Nat) : Option (Unit × Sh × Me) :=
  gd (kd T s1 = 10) <| lt (pR M s1 10 (some s0)) fun M54 => (lp FU (fun s => bX11_init_155 x0 s.1 s.2.1 s.2.2) ((0 : Int32), T, M54)).bind (un2 fun T65 M66 => jX11_init_179 T65 M66 x0)
theorem mjX11_init_150 {T : Sh} {M : Me} {x0 : Nat} {s0 : Nat} {s1 : Nat} {T' : Sh} {M' : Me} (h : jX11_init_150 T M x0 s0 s1 = some ((), T', M')) : leT T T' := by
  unfold jX11_init_150 at h
  replace h := gd_some h; obtain ⟨hk53, h⟩ := h
  obtain ⟨M54, eM54⟩ : ∃ y : Me, y = pR M s1 10 (some s0) := ⟨_, rfl⟩
  replace h := lt_at eM54 h
  replace h := bnd2 h; obtain ⟨T65, M66, h1, h⟩ := h
  have hml := lp_mono (mbX11_init_155) h1
  exact (leT.rfl.trans hml).trans (mjX11_init_179 h)
set_option maxHeartbeats 4000000 in
theorem tjX11_init_150 {X : Fx} {B : Bx} {Z : Nat × Nat × Nat × Nat} {d : Nat} {T : Sh} {M : Me} {x0 : Nat} {s0 : Nat} {s1 : Nat} {T' : Sh} {M' : Me} (C : Cx X B cX11_init 2 RX11 d Z) (hR : Rx X none) (hd : 3 ≤ d) (hin : X.2.2.2.2.2.2.2.2.1.name = "<init>") (hZ : leZ T' Z) (h : jX11_init_150 T M x0 s0 s1 = some ((), T', M')) : G X B 2 Z (Qf X B Z none T' M') 150 [(0, .ref (x0))] [.ref (s0), .ref (s1)] T M := by
  unfold jX11_init_150 at h
  replace h := gd_some h; obtain ⟨hk53, h⟩ := h
  refine g_putRF (pc := 150) (x := (some s0)) (ft := .array (.object "EyeTrainer$Image")) C hin dX11_init_150 kX11 hk53 10 (by decide) rfl rfl (Or.inr ⟨_, rfl⟩) ⟨rfl, rfl⟩ q_434 ?_
  refine g_mem (fun M54 eM54 => ?_)
  replace h := lt_at eM54 h
  refine g_iconst (pc := 153) (v := 0) C dX11_init_153 (by decide) ?_
  refine g_istore_n (pc := 154) (lo2 := [(1, .int ((0 : Int32))), (0, .ref (x0))]) C dX11_init_154 rfl (by decide) rfl ?_
  replace h := bnd2 h; obtain ⟨T65, M66, h1, h⟩ := h
  refine g_sub [1, 0] rfl ?_
  refine lp_G3 (P := PX11_init_155 X B _ _ x0) (E := EX11_init_155 X B _ _ x0) (mbX11_init_155) (tbX11_init_155 C hd hin) h1 ((mjX11_init_179 h).Z hZ) ?_
  show G X B 2 _ _ 179 [(0, .ref (x0))] [] T65 M66
  exact g_sub [0] rfl (tjX11_init_179 C hR hd hin hZ h)
def jX11_init_145 (T : Sh) (M : Me) (x0 : Nat) : Option (Unit × Sh × Me) :=
  jX11_init_150 (nT T 16 2 2) (nM T M) x0 (tp T) x0
theorem mjX11_init_145 {T : Sh} {M : Me} {x0 : Nat} {T' : Sh} {M' : Me} (h : jX11_init_145 T M x0 = some ((), T', M')) : leT T T' := by
  unfold jX11_init_145 at h
  exact (leT.rfl.trans (leT.new _ _ _ _)).trans (mjX11_init_150 h)
set_option maxHeartbeats 4000000 in
theorem tjX11_init_145 {X : Fx} {B : Bx} {Z : Nat × Nat × Nat × Nat} {d : Nat} {T : Sh} {M : Me} {x0 : Nat} {T' : Sh} {M' : Me} (C : Cx X B cX11_init 2 RX11 d Z) (hR : Rx X none) (hd : 3 ≤ d) (hin : X.2.2.2.2.2.2.2.2.1.name = "<init>") (hZ : leZ T' Z) (h : jX11_init_145 T M x0 = some ((), T', M')) : G X B 2 Z (Qf X B Z none T' M') 145 [(0, .ref (x0))] [] T M := by
  unfold jX11_init_145 at h
  refine g_aload_n (pc := 145) C dX11_init_145 rfl 0 rfl ?_
  refine g_iconst (pc := 146) (v := 2) C dX11_init_146 (by decide) ?_
  have hz := leZ_new ((mjX11_init_150 h).Z hZ)
  refine g_anew16 (pc := 147) (N := 2) C dX11_init_147 q_407 (by decide) (by decide +kernel) (Nat.le_of_ble_eq_true rfl) hz.1 hz.2 ?_
  exact g_sub [0] rfl (tjX11_init_150 C hR hd hin hZ h)
def jX11_init_116 (T : Sh) (M : Me) (x0 : Nat) (s0 : Nat) (s1 : Nat) : Option (Unit × Sh × Me) :=
  gd (kd T s1 = 10) <| lt (pR M s1 9 (some s0)) fun M40 => (lp FU (fun s => bX11_init_121 x0 s.1 s.2.1 s.2.2) ((0 : Int32), T, M40)).bind (un2 fun T51 M52 => jX11_init_145 T51 M52 x0)
theorem mjX11_init_116 {T : Sh} {M : Me} {x0 : Nat} {s0 : Nat} {s1 : Nat} {T' : Sh} {M' : Me} (h : jX11_init_116 T M x0 s0 s1 = some ((), T', M')) : leT T T' := by
  unfold jX11_init_116 at h
  replace h := gd_some h; obtain ⟨hk39, h⟩ := h
  obtain ⟨M40, eM40⟩ : ∃ y : Me, y = pR M s1 9 (some s0) := ⟨_, rfl⟩
  replace h := lt_at eM40 h
  replace h := bnd2 h; obtain ⟨T51, M52, h1, h⟩ := h
  have hml := lp_mono (mbX11_init_121) h1
  exact (leT.rfl.trans hml).trans (mjX11_init_145 h)
set_option maxHeartbeats 4000000 in
theorem tjX11_init_116 {X : Fx} {B : Bx} {Z : Nat × Nat × Nat × Nat} {d : Nat} {T : Sh} {M : Me} {x0 : Nat} {s0 : Nat} {s1 : Nat} {T' : Sh} {M' : Me} (C : Cx X B cX11_init 2 RX11 d Z) (hR : Rx X none) (hd : 3 ≤ d) (hin : X.2.2.2.2.2.2.2.2.1.name = "<init>") (hZ : leZ T' Z) (h : jX11_init_116 T M x0 s0 s1 = some ((), T', M')) : G X B 2 Z (Qf X B Z none T' M') 116 [(0, .ref (x0))] [.ref (s0), .ref (s1)] T M := by
  unfold jX11_init_116 at h
  replace h := gd_some h; obtain ⟨hk39, h⟩ := h
  refine g_putRF (pc := 116) (x := (some s0)) (ft := .array (.object "EyeTrainer$Tray")) C hin dX11_init_116 kX11 hk39 9 (by decide) rfl rfl (Or.inr ⟨_, rfl⟩) ⟨rfl, rfl⟩ q_433 ?_
  refine g_mem (fun M40 eM40 => ?_)
  replace h := lt_at eM40 h
  refine g_iconst (pc := 119) (v := 0) C dX11_init_119 (by decide) ?_
  refine g_istore_n (pc := 120) (lo2 := [(1, .int ((0 : Int32))), (0, .ref (x0))]) C dX11_init_120 rfl (by decide) rfl ?_
  replace h := bnd2 h; obtain ⟨T51, M52, h1, h⟩ := h
  refine g_sub [1, 0] rfl ?_
  refine lp_G3 (P := PX11_init_121 X B _ _ x0) (E := EX11_init_121 X B _ _ x0) (mbX11_init_121) (tbX11_init_121 C hd hin) h1 ((mjX11_init_145 h).Z hZ) ?_
  show G X B 2 _ _ 145 [(0, .ref (x0))] [] T51 M52
  exact g_sub [0] rfl (tjX11_init_145 C hR hd hin hZ h)
def jX11_init_111 (T : Sh) (M : Me) (x0 : Nat) : Option (Unit × Sh × Me) :=
  jX11_init_116 (nT T 18 4 4) (nM T M) x0 (tp T) x0
theorem mjX11_init_111 {T : Sh} {M : Me} {x0 : Nat} {T' : Sh} {M' : Me} (h : jX11_init_111 T M x0 = some ((), T', M')) : leT T T' := by
  unfold jX11_init_111 at h
  exact (leT.rfl.trans (leT.new _ _ _ _)).trans (mjX11_init_116 h)
set_option maxHeartbeats 4000000 in
theorem tjX11_init_111 {X : Fx} {B : Bx} {Z : Nat × Nat × Nat × Nat} {d : Nat} {T : Sh} {M : Me} {x0 : Nat} {T' : Sh} {M' : Me} (C : Cx X B cX11_init 2 RX11 d Z) (hR : Rx X none) (hd : 3 ≤ d) (hin : X.2.2.2.2.2.2.2.2.1.name = "<init>") (hZ : leZ T' Z) (h : jX11_init_111 T M x0 = some ((), T', M')) : G X B 2 Z (Qf X B Z none T' M') 111 [(0, .ref (x0))] [] T M := by
  unfold jX11_init_111 at h
  refine g_aload_n (pc := 111) C dX11_init_111 rfl 0 rfl ?_
  refine g_iconst (pc := 112) (v := 4) C dX11_init_112 (by decide) ?_
  have hz := leZ_new ((mjX11_init_116 h).Z hZ)
  refine g_anew18 (pc := 113) (N := 4) C dX11_init_113 q_388 (by decide) (by decide +kernel) (Nat.le_of_ble_eq_true rfl) hz.1 hz.2 ?_
  exact g_sub [0] rfl (tjX11_init_116 C hR hd hin hZ h)
def jX11_init_81 (T : Sh) (M : Me) (x0 : Nat) (s0 : Nat) (s1 : Nat) : Option (Unit × Sh × Me) :=
  gd (kd T s1 = 10) <| lt (pR M s1 7 (some s0)) fun M26 => (lp FU (fun s => bX11_init_86 x0 s.1 s.2.1 s.2.2) ((0 : Int32), T, M26)).bind (un2 fun T37 M38 => jX11_init_111 T37 M38 x0)
theorem mjX11_init_81 {T : Sh} {M : Me} {x0 : Nat} {s0 : Nat} {s1 : Nat} {T' : Sh} {M' : Me} (h : jX11_init_81 T M x0 s0 s1 = some ((), T', M')) : leT T T' := by
  unfold jX11_init_81 at h
  replace h := gd_some h; obtain ⟨hk25, h⟩ := h
  obtain ⟨M26, eM26⟩ : ∃ y : Me, y = pR M s1 7 (some s0) := ⟨_, rfl⟩
  replace h := lt_at eM26 h
  replace h := bnd2 h; obtain ⟨T37, M38, h1, h⟩ := h
  have hml := lp_mono (mbX11_init_86) h1
  exact (leT.rfl.trans hml).trans (mjX11_init_111 h)
set_option maxHeartbeats 4000000 in
theorem tjX11_init_81 {X : Fx} {B : Bx} {Z : Nat × Nat × Nat × Nat} {d : Nat} {T : Sh} {M : Me} {x0 : Nat} {s0 : Nat} {s1 : Nat} {T' : Sh} {M' : Me} (C : Cx X B cX11_init 2 RX11 d Z) (hR : Rx X none) (hd : 3 ≤ d) (hin : X.2.2.2.2.2.2.2.2.1.name = "<init>") (hZ : leZ T' Z) (h : jX11_init_81 T M x0 s0 s1 = some ((), T', M')) : G X B 2 Z (Qf X B Z none T' M') 81 [(0, .ref (x0))] [.ref (s0), .ref (s1)] T M := by
  unfold jX11_init_81 at h
  replace h := gd_some h; obtain ⟨hk25, h⟩ := h
  refine g_putRF (pc := 81) (x := (some s0)) (ft := .array (.object "EyeTrainer$Stand")) C hin dX11_init_81 kX11 hk25 7 (by decide) rfl rfl (Or.inr ⟨_, rfl⟩) ⟨rfl, rfl⟩ q_431 ?_
  refine g_mem (fun M26 eM26 => ?_)
  replace h := lt_at eM26 h
  refine g_iconst (pc := 84) (v := 0) C dX11_init_84 (by decide) ?_
  refine g_istore_n (pc := 85) (lo2 := [(1, .int ((0 : Int32))), (0, .ref (x0))]) C dX11_init_85 rfl (by decide) rfl ?_
  replace h := bnd2 h; obtain ⟨T37, M38, h1, h⟩ := h
  refine g_sub [1, 0] rfl ?_
  refine lp_G3 (P := PX11_init_86 X B _ _ x0) (E := EX11_init_86 X B _ _ x0) (mbX11_init_86) (tbX11_init_86 C hd hin) h1 ((mjX11_init_111 h).Z hZ) ?_
  show G X B 2 _ _ 111 [(0, .ref (x0))] [] T37 M38
  exact g_sub [0] rfl (tjX11_init_111 C hR hd hin hZ h)
def jX11_init_72 (T : Sh) (M : Me) (x0 : Nat) (s0 : Nat) (s1 : Nat) : Option (Unit × Sh × Me) :=
  gd (kd T s1 = 10) <| lt (pR M s1 6 (some s0)) fun M24 => jX11_init_81 (nT T 17 10 10) (nM T M24) x0 (tp T) x0
theorem mjX11_init_72 {T : Sh} {M : Me} {x0 : Nat} {s0 : Nat} {s1 : Nat} {T' : Sh} {M' : Me} (h : jX11_init_72 T M x0 s0 s1 = some ((), T', M')) : leT T T' := by
  unfold jX11_init_72 at h
  replace h := gd_some h; obtain ⟨hk23, h⟩ := h
  obtain ⟨M24, eM24⟩ : ∃ y : Me, y = pR M s1 6 (some s0) := ⟨_, rfl⟩
  replace h := lt_at eM24 h
  exact (leT.rfl.trans (leT.new _ _ _ _)).trans (mjX11_init_81 h)
set_option maxHeartbeats 4000000 in
theorem tjX11_init_72 {X : Fx} {B : Bx} {Z : Nat × Nat × Nat × Nat} {d : Nat} {T : Sh} {M : Me} {x0 : Nat} {s0 : Nat} {s1 : Nat} {T' : Sh} {M' : Me} (C : Cx X B cX11_init 2 RX11 d Z) (hR : Rx X none) (hd : 3 ≤ d) (hin : X.2.2.2.2.2.2.2.2.1.name = "<init>") (hZ : leZ T' Z) (h : jX11_init_72 T M x0 s0 s1 = some ((), T', M')) : G X B 2 Z (Qf X B Z none T' M') 72 [(0, .ref (x0))] [.ref (s0), .ref (s1)] T M := by
  unfold jX11_init_72 at h
  replace h := gd_some h; obtain ⟨hk23, h⟩ := h
  refine g_putRF (pc := 72) (x := (some s0)) (ft := .object "EyeTrainer$Stand") C hin dX11_init_72 kX11 hk23 6 (by decide) rfl rfl (Or.inl ⟨_, rfl⟩) ⟨rfl, rfl⟩ q_430 ?_
  refine g_mem (fun M24 eM24 => ?_)
  replace h := lt_at eM24 h
  refine g_aload_n (pc := 75) C dX11_init_75 rfl 0 rfl ?_
  refine g_bipush (pc := 76) (v := 10) C dX11_init_76 (by decide) ?_
  have hz := leZ_new ((mjX11_init_81 h).Z hZ)
  refine g_anew17 (pc := 78) (N := 10) C dX11_init_78 q_368 (by decide) (by decide +kernel) (Nat.le_of_ble_eq_true rfl) hz.1 hz.2 ?_
  exact g_sub [0] rfl (tjX11_init_81 C hR hd hin hZ h)
def jX11_init_68 (T : Sh) (M : Me) (x0 : Nat) (s0 : Nat) (s1 : Nat) : Option (Unit × Sh × Me) :=
  Option.bind (fX8_init T M s0) <| un3 fun _u T22 M21 => jX11_init_72 T22 M21 x0 s0 s1
theorem mjX11_init_68 {T : Sh} {M : Me} {x0 : Nat} {s0 : Nat} {s1 : Nat} {T' : Sh} {M' : Me} (h : jX11_init_68 T M x0 s0 s1 = some ((), T', M')) : leT T T' := by
  unfold jX11_init_68 at h
  replace h := bnd3 h; obtain ⟨_u, T22, M21, h1, h⟩ := h
  have hmT22 := mX8_init h1
  exact (leT.rfl.trans hmT22).trans (mjX11_init_72 h)
set_option maxHeartbeats 4000000 in
theorem tjX11_init_68 {X : Fx} {B : Bx} {Z : Nat × Nat × Nat × Nat} {d : Nat} {T : Sh} {M : Me} {x0 : Nat} {s0 : Nat} {s1 : Nat} {T' : Sh} {M' : Me} (C : Cx X B cX11_init 2 RX11 d Z) (hR : Rx X none) (hd : 3 ≤ d) (hin : X.2.2.2.2.2.2.2.2.1.name = "<init>") (hZ : leZ T' Z) (h : jX11_init_68 T M x0 s0 s1 = some ((), T', M')) : G X B 2 Z (Qf X B Z none T' M') 68 [(0, .ref (x0))] [.ref (s0), .ref (s1)] T M := by
  unfold jX11_init_68 at h
  refine g_dup (pc := 68) C dX11_init_68 rfl ?_
  replace h := bnd3 h; obtain ⟨_u, T22, M21, h1, h⟩ := h
  have hzT22 := (mjX11_init_72 h).Z hZ
  refine g_callIvA (pc := 69) (As := []) (st := [.ref (s0), .ref (s1)]) C dX11_init_69 wX8_init q_371 rfl rfl q_370 (by omega) rfl (Nat.le_of_ble_eq_true rfl) (kX8_init (d := 1) (Nat.le_refl _) h1) hzT22 ?_
  exact g_sub [0] rfl (tjX11_init_72 C hR hd hin hZ h)
def jX11_init_61 (T : Sh) (M : Me) (x0 : Nat) (s0 : Nat) (s1 : Nat) : Option (Unit × Sh × Me) :=
  gd (kd T s1 = 10) <| lt (pR M s1 5 (some s0)) fun M20 => jX11_init_68 (nT T 7 0 3) (nM T M20) x0 (tp T) x0
theorem mjX11_init_61 {T : Sh} {M : Me} {x0 : Nat} {s0 : Nat} {s1 : Nat} {T' : Sh} {M' : Me} (h : jX11_init_61 T M x0 s0 s1 = some ((), T', M')) : leT T T' := by
  unfold jX11_init_61 at h
  replace h := gd_some h; obtain ⟨hk19, h⟩ := h
  obtain ⟨M20, eM20⟩ : ∃ y : Me, y = pR M s1 5 (some s0) := ⟨_, rfl⟩
  replace h := lt_at eM20 h
  exact (leT.rfl.trans (leT.new _ _ _ _)).trans (mjX11_init_68 h)
set_option maxHeartbeats 4000000 in
theorem tjX11_init_61 {X : Fx} {B : Bx} {Z : Nat × Nat × Nat × Nat} {d : Nat} {T : Sh} {M : Me} {x0 : Nat} {s0 : Nat} {s1 : Nat} {T' : Sh} {M' : Me} (C : Cx X B cX11_init 2 RX11 d Z) (hR : Rx X none) (hd : 3 ≤ d) (hin : X.2.2.2.2.2.2.2.2.1.name = "<init>") (hZ : leZ T' Z) (h : jX11_init_61 T M x0 s0 s1 = some ((), T', M')) : G X B 2 Z (Qf X B Z none T' M') 61 [(0, .ref (x0))] [.ref (s0), .ref (s1)] T M := by
  unfold jX11_init_61 at h
  replace h := gd_some h; obtain ⟨hk19, h⟩ := h
  refine g_putRF (pc := 61) (x := (some s0)) (ft := .object "EyeTrainer$Stand") C hin dX11_init_61 kX11 hk19 5 (by decide) rfl rfl (Or.inl ⟨_, rfl⟩) ⟨rfl, rfl⟩ q_429 ?_
  refine g_mem (fun M20 eM20 => ?_)
  replace h := lt_at eM20 h
  refine g_aload_n (pc := 64) C dX11_init_64 rfl 0 rfl ?_
  have hz := leZ_new ((mjX11_init_68 h).Z hZ)
  refine g_new (pc := 65) C dX11_init_65 kX8 hdvX8 q_368 q_369 q_127 hz.1 hz.2 ?_
  exact g_sub [0] rfl (tjX11_init_68 C hR hd hin hZ h)
def jX11_init_57 (T : Sh) (M : Me) (x0 : Nat) (s0 : Nat) (s1 : Nat) : Option (Unit × Sh × Me) :=
  Option.bind (fX8_init T M s0) <| un3 fun _u T18 M17 => jX11_init_61 T18 M17 x0 s0 s1
theorem mjX11_init_57 {T : Sh} {M : Me} {x0 : Nat} {s0 : Nat} {s1 : Nat} {T' : Sh} {M' : Me} (h : jX11_init_57 T M x0 s0 s1 = some ((), T', M')) : leT T T' := by
  unfold jX11_init_57 at h
  replace h := bnd3 h; obtain ⟨_u, T18, M17, h1, h⟩ := h
  have hmT18 := mX8_init h1
  exact (leT.rfl.trans hmT18).trans (mjX11_init_61 h)
set_option maxHeartbeats 4000000 in
theorem tjX11_init_57 {X : Fx} {B : Bx} {Z : Nat × Nat × Nat × Nat} {d : Nat} {T : Sh} {M : Me} {x0 : Nat} {s0 : Nat} {s1 : Nat} {T' : Sh} {M' : Me} (C : Cx X B cX11_init 2 RX11 d Z) (hR : Rx X none) (hd : 3 ≤ d) (hin : X.2.2.2.2.2.2.2.2.1.name = "<init>") (hZ : leZ T' Z) (h : jX11_init_57 T M x0 s0 s1 = some ((), T', M')) : G X B 2 Z (Qf X B Z none T' M') 57 [(0, .ref (x0))] [.ref (s0), .ref (s1)] T M := by
  unfold jX11_init_57 at h
  refine g_dup (pc := 57) C dX11_init_57 rfl ?_
  replace h := bnd3 h; obtain ⟨_u, T18, M17, h1, h⟩ := h
  have hzT18 := (mjX11_init_61 h).Z hZ
  refine g_callIvA (pc := 58) (As := []) (st := [.ref (s0), .ref (s1)]) C dX11_init_58 wX8_init q_371 rfl rfl q_370 (by omega) rfl (Nat.le_of_ble_eq_true rfl) (kX8_init (d := 1) (Nat.le_refl _) h1) hzT18 ?_
  exact g_sub [0] rfl (tjX11_init_61 C hR hd hin hZ h)
def jX11_init_50 (T : Sh) (M : Me) (x0 : Nat) (s0 : Nat) (s1 : Nat) : Option (Unit × Sh × Me) :=
  gd (kd T s1 = 10) <| lt (pR M s1 4 (some s0)) fun M16 => jX11_init_57 (nT T 7 0 3) (nM T M16) x0 (tp T) x0
theorem mjX11_init_50 {T : Sh} {M : Me} {x0 : Nat} {s0 : Nat} {s1 : Nat} {T' : Sh} {M' : Me} (h : jX11_init_50 T M x0 s0 s1 = some ((), T', M')) : leT T T' := by
  unfold jX11_init_50 at h
  replace h := gd_some h; obtain ⟨hk15, h⟩ := h
  obtain ⟨M16, eM16⟩ : ∃ y : Me, y = pR M s1 4 (some s0) := ⟨_, rfl⟩
  replace h := lt_at eM16 h
  exact (leT.rfl.trans (leT.new _ _ _ _)).trans (mjX11_init_57 h)
set_option maxHeartbeats 4000000 in
theorem tjX11_init_50 {X : Fx} {B : Bx} {Z : Nat × Nat × Nat × Nat} {d : Nat} {T : Sh} {M : Me} {x0 : Nat} {s0 : Nat} {s1 : Nat} {T' : Sh} {M' : Me} (C : Cx X B cX11_init 2 RX11 d Z) (hR : Rx X none) (hd : 3 ≤ d) (hin : X.2.2.2.2.2.2.2.2.1.name = "<init>") (hZ : leZ T' Z) (h : jX11_init_50 T M x0 s0 s1 = some ((), T', M')) : G X B 2 Z (Qf X B Z none T' M') 50 [(0, .ref (x0))] [.ref (s0), .ref (s1)] T M := by
  unfold jX11_init_50 at h
  replace h := gd_some h; obtain ⟨hk15, h⟩ := h
  refine g_putRF (pc := 50) (x := (some s0)) (ft := .object "EyeTrainer$Shapes") C hin dX11_init_50 kX11 hk15 4 (by decide) rfl rfl (Or.inl ⟨_, rfl⟩) ⟨rfl, rfl⟩ q_428 ?_
  refine g_mem (fun M16 eM16 => ?_)
  replace h := lt_at eM16 h
  refine g_aload_n (pc := 53) C dX11_init_53 rfl 0 rfl ?_
  have hz := leZ_new ((mjX11_init_57 h).Z hZ)
  refine g_new (pc := 54) C dX11_init_54 kX8 hdvX8 q_368 q_369 q_127 hz.1 hz.2 ?_
  exact g_sub [0] rfl (tjX11_init_57 C hR hd hin hZ h)
def jX11_init_46 (T : Sh) (M : Me) (x0 : Nat) (s0 : Nat) (s1 : Nat) : Option (Unit × Sh × Me) :=
  Option.bind (fX7_init T M s0) <| un3 fun _u T14 M13 => jX11_init_50 T14 M13 x0 s0 s1
theorem mjX11_init_46 {T : Sh} {M : Me} {x0 : Nat} {s0 : Nat} {s1 : Nat} {T' : Sh} {M' : Me} (h : jX11_init_46 T M x0 s0 s1 = some ((), T', M')) : leT T T' := by
  unfold jX11_init_46 at h
  replace h := bnd3 h; obtain ⟨_u, T14, M13, h1, h⟩ := h
  have hmT14 := mX7_init h1
  exact (leT.rfl.trans hmT14).trans (mjX11_init_50 h)
set_option maxHeartbeats 4000000 in
theorem tjX11_init_46 {X : Fx} {B : Bx} {Z : Nat × Nat × Nat × Nat} {d : Nat} {T : Sh} {M : Me} {x0 : Nat} {s0 : Nat} {s1 : Nat} {T' : Sh} {M' : Me} (C : Cx X B cX11_init 2 RX11 d Z) (hR : Rx X none) (hd : 3 ≤ d) (hin : X.2.2.2.2.2.2.2.2.1.name = "<init>") (hZ : leZ T' Z) (h : jX11_init_46 T M x0 s0 s1 = some ((), T', M')) : G X B 2 Z (Qf X B Z none T' M') 46 [(0, .ref (x0))] [.ref (s0), .ref (s1)] T M := by
  unfold jX11_init_46 at h
  refine g_dup (pc := 46) C dX11_init_46 rfl ?_
  replace h := bnd3 h; obtain ⟨_u, T14, M13, h1, h⟩ := h
  have hzT14 := (mjX11_init_50 h).Z hZ
  refine g_callIvA (pc := 47) (As := []) (st := [.ref (s0), .ref (s1)]) C dX11_init_47 wX7_init q_311 rfl rfl q_310 (by omega) rfl (Nat.le_of_ble_eq_true rfl) (kX7_init (d := 1) (Nat.le_refl _) h1) hzT14 ?_
  exact g_sub [0] rfl (tjX11_init_50 C hR hd hin hZ h)
def jX11_init_39 (T : Sh) (M : Me) (x0 : Nat) (s0 : Nat) (s1 : Nat) : Option (Unit × Sh × Me) :=
  gd (kd T s1 = 10) <| lt (pR M s1 3 (some s0)) fun M12 => jX11_init_46 (nT T 6 0 14) (nM T M12) x0 (tp T) x0
theorem mjX11_init_39 {T : Sh} {M : Me} {x0 : Nat} {s0 : Nat} {s1 : Nat} {T' : Sh} {M' : Me} (h : jX11_init_39 T M x0 s0 s1 = some ((), T', M')) : leT T T' := by
  unfold jX11_init_39 at h
  replace h := gd_some h; obtain ⟨hk11, h⟩ := h
  obtain ⟨M12, eM12⟩ : ∃ y : Me, y = pR M s1 3 (some s0) := ⟨_, rfl⟩
  replace h := lt_at eM12 h
  exact (leT.rfl.trans (leT.new _ _ _ _)).trans (mjX11_init_46 h)
set_option maxHeartbeats 4000000 in
theorem tjX11_init_39 {X : Fx} {B : Bx} {Z : Nat × Nat × Nat × Nat} {d : Nat} {T : Sh} {M : Me} {x0 : Nat} {s0 : Nat} {s1 : Nat} {T' : Sh} {M' : Me} (C : Cx X B cX11_init 2 RX11 d Z) (hR : Rx X none) (hd : 3 ≤ d) (hin : X.2.2.2.2.2.2.2.2.1.name = "<init>") (hZ : leZ T' Z) (h : jX11_init_39 T M x0 s0 s1 = some ((), T', M')) : G X B 2 Z (Qf X B Z none T' M') 39 [(0, .ref (x0))] [.ref (s0), .ref (s1)] T M := by
  unfold jX11_init_39 at h
  replace h := gd_some h; obtain ⟨hk11, h⟩ := h
  refine g_putRF (pc := 39) (x := (some s0)) (ft := .object "EyeTrainer$Maps") C hin dX11_init_39 kX11 hk11 3 (by decide) rfl rfl (Or.inl ⟨_, rfl⟩) ⟨rfl, rfl⟩ q_427 ?_
  refine g_mem (fun M12 eM12 => ?_)
  replace h := lt_at eM12 h
  refine g_aload_n (pc := 42) C dX11_init_42 rfl 0 rfl ?_
  have hz := leZ_new ((mjX11_init_46 h).Z hZ)
  refine g_new (pc := 43) C dX11_init_43 kX7 hdvX7 q_308 q_309 q_126 hz.1 hz.2 ?_
  exact g_sub [0] rfl (tjX11_init_46 C hR hd hin hZ h)
def jX11_init_36 (T : Sh) (M : Me) (x0 : Nat) (s0 : Nat) (s1 : Nat) (s2 : Nat) (s3 : Nat) : Option (Unit × Sh × Me) :=
  Option.bind (fX5_init T M s1 s0) <| un3 fun _u T10 M9 => jX11_init_39 T10 M9 x0 s2 s3
theorem mjX11_init_36 {T : Sh} {M : Me} {x0 : Nat} {s0 : Nat} {s1 : Nat} {s2 : Nat} {s3 : Nat} {T' : Sh} {M' : Me} (h : jX11_init_36 T M x0 s0 s1 s2 s3 = some ((), T', M')) : leT T T' := by
  unfold jX11_init_36 at h
  replace h := bnd3 h; obtain ⟨_u, T10, M9, h1, h⟩ := h
  have hmT10 := mX5_init h1
  exact (leT.rfl.trans hmT10).trans (mjX11_init_39 h)
set_option maxHeartbeats 4000000 in
theorem tjX11_init_36 {X : Fx} {B : Bx} {Z : Nat × Nat × Nat × Nat} {d : Nat} {T : Sh} {M : Me} {x0 : Nat} {s0 : Nat} {s1 : Nat} {s2 : Nat} {s3 : Nat} {T' : Sh} {M' : Me} (C : Cx X B cX11_init 2 RX11 d Z) (hR : Rx X none) (hd : 3 ≤ d) (hin : X.2.2.2.2.2.2.2.2.1.name = "<init>") (hZ : leZ T' Z) (h : jX11_init_36 T M x0 s0 s1 s2 s3 = some ((), T', M')) : G X B 2 Z (Qf X B Z none T' M') 36 [(0, .ref (x0))] [.ref (s0), .ref (s1), .ref (s2), .ref (s3)] T M := by
  unfold jX11_init_36 at h
  replace h := bnd3 h; obtain ⟨_u, T10, M9, h1, h⟩ := h
  have hzT10 := (mjX11_init_39 h).Z hZ
  refine g_callIvA (pc := 36) (As := [.ref (s0)]) (st := [.ref (s2), .ref (s3)]) C dX11_init_36 wX5_init q_281 rfl rfl q_280 (by omega) rfl (Nat.le_of_ble_eq_true rfl) (kX5_init (d := 1) (Nat.le_refl _) h1) hzT10 ?_
  exact g_sub [0] rfl (tjX11_init_39 C hR hd hin hZ h)
def jX11_init_32 (T : Sh) (M : Me) (x0 : Nat) (s0 : Nat) (s1 : Nat) (s2 : Nat) (s3 : Nat) : Option (Unit × Sh × Me) :=
  Option.bind (fX3_init T M s0) <| un3 fun _u T8 M7 => jX11_init_36 T8 M7 x0 s0 s1 s2 s3
theorem mjX11_init_32 {T : Sh} {M : Me} {x0 : Nat} {s0 : Nat} {s1 : Nat} {s2 : Nat} {s3 : Nat} {T' : Sh} {M' : Me} (h : jX11_init_32 T M x0 s0 s1 s2 s3 = some ((), T', M')) : leT T T' := by
  unfold jX11_init_32 at h
  replace h := bnd3 h; obtain ⟨_u, T8, M7, h1, h⟩ := h
  have hmT8 := mX3_init h1
  exact (leT.rfl.trans hmT8).trans (mjX11_init_36 h)
set_option maxHeartbeats 4000000 in
theorem tjX11_init_32 {X : Fx} {B : Bx} {Z : Nat × Nat × Nat × Nat} {d : Nat} {T : Sh} {M : Me} {x0 : Nat} {s0 : Nat} {s1 : Nat} {s2 : Nat} {s3 : Nat} {T' : Sh} {M' : Me} (C : Cx X B cX11_init 2 RX11 d Z) (hR : Rx X none) (hd : 3 ≤ d) (hin : X.2.2.2.2.2.2.2.2.1.name = "<init>") (hZ : leZ T' Z) (h : jX11_init_32 T M x0 s0 s1 s2 s3 = some ((), T', M')) : G X B 2 Z (Qf X B Z none T' M') 32 [(0, .ref (x0))] [.ref (s0), .ref (s1), .ref (s2), .ref (s3)] T M := by
  unfold jX11_init_32 at h
  refine g_dup (pc := 32) C dX11_init_32 rfl ?_
  replace h := bnd3 h; obtain ⟨_u, T8, M7, h1, h⟩ := h
  have hzT8 := (mjX11_init_36 h).Z hZ
  refine g_callIvA (pc := 33) (As := []) (st := [.ref (s0), .ref (s1), .ref (s2), .ref (s3)]) C dX11_init_33 wX3_init q_212 rfl rfl q_211 (by omega) rfl (Nat.le_of_ble_eq_true rfl) (kX3_init (d := 1) (Nat.le_refl _) h1) hzT8 ?_
  exact g_sub [0] rfl (tjX11_init_36 C hR hd hin hZ h)
def jX11_init_28 (T : Sh) (M : Me) (x0 : Nat) (s0 : Nat) (s1 : Nat) : Option (Unit × Sh × Me) :=
  jX11_init_32 (nT T 2 0 13) (nM T M) x0 (tp T) s0 s0 s1
theorem mjX11_init_28 {T : Sh} {M : Me} {x0 : Nat} {s0 : Nat} {s1 : Nat} {T' : Sh} {M' : Me} (h : jX11_init_28 T M x0 s0 s1 = some ((), T', M')) : leT T T' := by
  unfold jX11_init_28 at h
  exact (leT.rfl.trans (leT.new _ _ _ _)).trans (mjX11_init_32 h)
set_option maxHeartbeats 4000000 in
theorem tjX11_init_28 {X : Fx} {B : Bx} {Z : Nat × Nat × Nat × Nat} {d : Nat} {T : Sh} {M : Me} {x0 : Nat} {s0 : Nat} {s1 : Nat} {T' : Sh} {M' : Me} (C : Cx X B cX11_init 2 RX11 d Z) (hR : Rx X none) (hd : 3 ≤ d) (hin : X.2.2.2.2.2.2.2.2.1.name = "<init>") (hZ : leZ T' Z) (h : jX11_init_28 T M x0 s0 s1 = some ((), T', M')) : G X B 2 Z (Qf X B Z none T' M') 28 [(0, .ref (x0))] [.ref (s0), .ref (s1)] T M := by
  unfold jX11_init_28 at h
  refine g_dup (pc := 28) C dX11_init_28 rfl ?_
  have hz := leZ_new ((mjX11_init_32 h).Z hZ)
  refine g_new (pc := 29) C dX11_init_29 kX3 hdvX3 q_209 q_210 q_124 hz.1 hz.2 ?_
  exact g_sub [0] rfl (tjX11_init_32 C hR hd hin hZ h)
def jX11_init_21 (T : Sh) (M : Me) (x0 : Nat) (s0 : Nat) (s1 : Nat) : Option (Unit × Sh × Me) :=
  gd (kd T s1 = 10) <| lt (pR M s1 2 (some s0)) fun M6 => jX11_init_28 (nT T 4 0 6) (nM T M6) x0 (tp T) x0
theorem mjX11_init_21 {T : Sh} {M : Me} {x0 : Nat} {s0 : Nat} {s1 : Nat} {T' : Sh} {M' : Me} (h : jX11_init_21 T M x0 s0 s1 = some ((), T', M')) : leT T T' := by
  unfold jX11_init_21 at h
  replace h := gd_some h; obtain ⟨hk5, h⟩ := h
  obtain ⟨M6, eM6⟩ : ∃ y : Me, y = pR M s1 2 (some s0) := ⟨_, rfl⟩
  replace h := lt_at eM6 h
  exact (leT.rfl.trans (leT.new _ _ _ _)).trans (mjX11_init_28 h)
set_option maxHeartbeats 4000000 in
theorem tjX11_init_21 {X : Fx} {B : Bx} {Z : Nat × Nat × Nat × Nat} {d : Nat} {T : Sh} {M : Me} {x0 : Nat} {s0 : Nat} {s1 : Nat} {T' : Sh} {M' : Me} (C : Cx X B cX11_init 2 RX11 d Z) (hR : Rx X none) (hd : 3 ≤ d) (hin : X.2.2.2.2.2.2.2.2.1.name = "<init>") (hZ : leZ T' Z) (h : jX11_init_21 T M x0 s0 s1 = some ((), T', M')) : G X B 2 Z (Qf X B Z none T' M') 21 [(0, .ref (x0))] [.ref (s0), .ref (s1)] T M := by
  unfold jX11_init_21 at h
  replace h := gd_some h; obtain ⟨hk5, h⟩ := h
  refine g_putRF (pc := 21) (x := (some s0)) (ft := .object "EyeTrainer$Reader") C hin dX11_init_21 kX11 hk5 2 (by decide) rfl rfl (Or.inl ⟨_, rfl⟩) ⟨rfl, rfl⟩ q_426 ?_
  refine g_mem (fun M6 eM6 => ?_)
  replace h := lt_at eM6 h
  refine g_aload_n (pc := 24) C dX11_init_24 rfl 0 rfl ?_
  have hz := leZ_new ((mjX11_init_28 h).Z hZ)
  refine g_new (pc := 25) C dX11_init_25 kX5 hdvX5 q_207 q_208 q_123 hz.1 hz.2 ?_
  exact g_sub [0] rfl (tjX11_init_28 C hR hd hin hZ h)
def jX11_init_17 (T : Sh) (M : Me) (x0 : Nat) (s0 : Nat) (s1 : Nat) : Option (Unit × Sh × Me) :=
  Option.bind (fX6_init T M s0) <| un3 fun _u T4 M3 => jX11_init_21 T4 M3 x0 s0 s1
theorem mjX11_init_17 {T : Sh} {M : Me} {x0 : Nat} {s0 : Nat} {s1 : Nat} {T' : Sh} {M' : Me} (h : jX11_init_17 T M x0 s0 s1 = some ((), T', M')) : leT T T' := by
  unfold jX11_init_17 at h
  replace h := bnd3 h; obtain ⟨_u, T4, M3, h1, h⟩ := h
  have hmT4 := mX6_init h1
  exact (leT.rfl.trans hmT4).trans (mjX11_init_21 h)
set_option maxHeartbeats 4000000 in
theorem tjX11_init_17 {X : Fx} {B : Bx} {Z : Nat × Nat × Nat × Nat} {d : Nat} {T : Sh} {M : Me} {x0 : Nat} {s0 : Nat} {s1 : Nat} {T' : Sh} {M' : Me} (C : Cx X B cX11_init 2 RX11 d Z) (hR : Rx X none) (hd : 3 ≤ d) (hin : X.2.2.2.2.2.2.2.2.1.name = "<init>") (hZ : leZ T' Z) (h : jX11_init_17 T M x0 s0 s1 = some ((), T', M')) : G X B 2 Z (Qf X B Z none T' M') 17 [(0, .ref (x0))] [.ref (s0), .ref (s1)] T M := by
  unfold jX11_init_17 at h
  refine g_dup (pc := 17) C dX11_init_17 rfl ?_
  replace h := bnd3 h; obtain ⟨_u, T4, M3, h1, h⟩ := h
  have hzT4 := (mjX11_init_21 h).Z hZ
  refine g_callIvA (pc := 18) (As := []) (st := [.ref (s0), .ref (s1)]) C dX11_init_18 wX6_init q_153 rfl rfl q_152 (by omega) rfl (Nat.le_of_ble_eq_true rfl) (kX6_init (d := 2) (Nat.le_refl _) h1) hzT4 ?_
  exact g_sub [0] rfl (tjX11_init_21 C hR hd hin hZ h)
def jX11_init_10 (T : Sh) (M : Me) (x0 : Nat) (s0 : Nat) (s1 : Nat) : Option (Unit × Sh × Me) :=
  gd (kd T s1 = 10) <| lt (pR M s1 0 (some s0)) fun M2 => jX11_init_17 (nT T 5 0 8) (nM T M2) x0 (tp T) x0
theorem mjX11_init_10 {T : Sh} {M : Me} {x0 : Nat} {s0 : Nat} {s1 : Nat} {T' : Sh} {M' : Me} (h : jX11_init_10 T M x0 s0 s1 = some ((), T', M')) : leT T T' := by
  unfold jX11_init_10 at h
  replace h := gd_some h; obtain ⟨hk1, h⟩ := h
  obtain ⟨M2, eM2⟩ : ∃ y : Me, y = pR M s1 0 (some s0) := ⟨_, rfl⟩
  replace h := lt_at eM2 h
  exact (leT.rfl.trans (leT.new _ _ _ _)).trans (mjX11_init_17 h)
set_option maxHeartbeats 4000000 in
theorem tjX11_init_10 {X : Fx} {B : Bx} {Z : Nat × Nat × Nat × Nat} {d : Nat} {T : Sh} {M : Me} {x0 : Nat} {s0 : Nat} {s1 : Nat} {T' : Sh} {M' : Me} (C : Cx X B cX11_init 2 RX11 d Z) (hR : Rx X none) (hd : 3 ≤ d) (hin : X.2.2.2.2.2.2.2.2.1.name = "<init>") (hZ : leZ T' Z) (h : jX11_init_10 T M x0 s0 s1 = some ((), T', M')) : G X B 2 Z (Qf X B Z none T' M') 10 [(0, .ref (x0))] [.ref (s0), .ref (s1)] T M := by
  unfold jX11_init_10 at h
  replace h := gd_some h; obtain ⟨hk1, h⟩ := h
  refine g_putRF (pc := 10) (x := (some s0)) (ft := .array (.byte)) C hin dX11_init_10 kX11 hk1 0 (by decide) rfl rfl (Or.inr ⟨_, rfl⟩) ⟨rfl, rfl⟩ q_424 ?_
  refine g_mem (fun M2 eM2 => ?_)
  replace h := lt_at eM2 h
  refine g_aload_n (pc := 13) C dX11_init_13 rfl 0 rfl ?_
  have hz := leZ_new ((mjX11_init_17 h).Z hZ)
  refine g_new (pc := 14) C dX11_init_14 kX6 hdvX6 q_150 q_151 q_121 hz.1 hz.2 ?_
  exact g_sub [0] rfl (tjX11_init_17 C hR hd hin hZ h)
/-- EyeTrainer.<init>()V -/
def fX11_init (T : Sh) (M : Me) (x0 : Nat) : Option (Unit × Sh × Me) :=
  jX11_init_10 (nT T 12 900 900) (nM T M) x0 (tp T) x0
theorem mX11_init {T : Sh} {M : Me} {x0 : Nat} {T' : Sh} {M' : Me} (h : fX11_init T M x0 = some ((), T', M')) : leT T T' := by
  unfold fX11_init at h
  exact (leT.rfl.trans (leT.new _ _ _ _)).trans (mjX11_init_10 h)
set_option maxHeartbeats 4000000 in
theorem kX11_init {l : Launch} {B : Bx} {d : Nat} (hd : 3 ≤ d) {T : Sh} {M : Me} {x0 : Nat} {T' : Sh} {M' : Me} (h : fX11_init T M x0 = some ((), T', M')) : Kt l B yX11_init cX11_init 2 none d [.ref (x0)] T M none T' M' := by
  have hmm := mX11_init h
  refine kt_of wX11_init hmm.1 hmm.2 (Nat.le_of_ble_eq_true rfl) (fun X C hR hlx hin => ?_)
  subst hlx
  replace C : Cx X B cX11_init 2 RX11 d (tp T, sl T, tp T', sl T') := C
  have hZ : leZ T' (tp T, sl T, tp T', sl T') := ⟨Nat.le_refl _, Nat.le_refl _⟩
  unfold fX11_init at h
  show G X B 2 _ _ 0 [(0, .ref (x0))] [] T M
  refine g_aload_n (pc := 0) C dX11_init_0 rfl 0 rfl ?_
  refine g_objInit (pc := 1) C dX11_init_1 (by omega) q_147 q_148 q_149 (Nat.le_of_ble_eq_true rfl) ?_
  refine g_aload_n (pc := 4) C dX11_init_4 rfl 0 rfl ?_
  refine g_sipush (pc := 5) (v := 900) C dX11_init_5 (by decide) ?_
  have hz := leZ_new ((mjX11_init_10 h).Z hZ)
  refine g_newaB (pc := 8) (N := 900) C dX11_init_8 q_178 (by decide) (by decide +kernel) (Nat.le_of_ble_eq_true rfl) hz.1 hz.2 ?_
  exact g_sub [0] rfl (tjX11_init_10 C hR hd hin hZ h)
