set_option maxRecDepth 20000 in
theorem q_124 : Cond.initialized RX3 ∈ lw_gd := mem_gd (List.mem_of_getElem? (i := 124) (by decide +kernel)) rfl
set_option maxRecDepth 20000 in
theorem q_129 : Cond.initialized RX2 ∈ lw_gd := mem_gd (List.mem_of_getElem? (i := 129) (by decide +kernel)) rfl
set_option maxRecDepth 20000 in
theorem q_138 : Cond.initialized RJ10 ∈ lw_gd := mem_gd (List.mem_of_getElem? (i := 138) (by decide +kernel)) rfl
set_option maxRecDepth 20000 in
theorem q_148 : Cond.instanceMethod Lib.objectInit ∈ lw_gd := mem_gd (List.mem_of_getElem? (i := 148) (by decide +kernel)) rfl
set_option maxRecDepth 20000 in
theorem q_149 : Cond.code Lib.objectInit ⟨#[0xb1]⟩ 1 none ∈ lw_gd := mem_gd (List.mem_of_getElem? (i := 149) (by decide +kernel)) rfl
set_option maxRecDepth 20000 in
theorem q_154 : Cond.code yX6_init cX6_init 1 none ∈ lw_gd := mem_gd (List.mem_of_getElem? (i := 154) (by decide +kernel)) rfl
set_option maxRecDepth 20000 in
theorem q_155 : Cond.methodLink RX6 3 Lib.objectInit ∈ lw_gd := mem_gd (List.mem_of_getElem? (i := 155) (by decide +kernel)) rfl
set_option maxRecDepth 20000 in
theorem q_156 : Cond.classLink RX6 9 RX9 ∈ lw_gd := mem_gd (List.mem_of_getElem? (i := 156) (by decide +kernel)) rfl
set_option maxRecDepth 20000 in
theorem q_157 : Cond.instantiable RX9 4 ∈ lw_gd := mem_gd (List.mem_of_getElem? (i := 157) (by decide +kernel)) rfl
set_option maxRecDepth 20000 in
theorem q_158 : Cond.methodLink RX6 11 yX9_init ∈ lw_gd := mem_gd (List.mem_of_getElem? (i := 158) (by decide +kernel)) rfl
set_option maxRecDepth 20000 in
theorem q_159 : Cond.instanceMethod yX9_init ∈ lw_gd := mem_gd (List.mem_of_getElem? (i := 159) (by decide +kernel)) rfl
set_option maxRecDepth 20000 in
theorem q_160 : Cond.code yX9_init cX9_init 1 none ∈ lw_gd := mem_gd (List.mem_of_getElem? (i := 160) (by decide +kernel)) rfl
set_option maxRecDepth 20000 in
theorem q_161 : Cond.methodLink RX9 3 Lib.objectInit ∈ lw_gd := mem_gd (List.mem_of_getElem? (i := 161) (by decide +kernel)) rfl
set_option maxRecDepth 20000 in
theorem q_179 : Cond.arrayClass .int ∈ lw_gd := mem_gd (List.mem_of_getElem? (i := 179) (by decide +kernel)) rfl
set_option maxRecDepth 20000 in
theorem q_213 : Cond.code yX3_init cX3_init 1 none ∈ lw_gd := mem_gd (List.mem_of_getElem? (i := 213) (by decide +kernel)) rfl
set_option maxRecDepth 20000 in
theorem q_214 : Cond.methodLink RX3 3 Lib.objectInit ∈ lw_gd := mem_gd (List.mem_of_getElem? (i := 214) (by decide +kernel)) rfl
set_option maxRecDepth 20000 in
theorem q_215 : Cond.fieldLink RX3 9 "EyeTrainer$Lab" "ats" "[I" ∈ lw_gd := mem_gd (List.mem_of_getElem? (i := 215) (by decide +kernel)) rfl
set_option maxRecDepth 20000 in
theorem q_219 : Cond.fieldLink RX3 15 "EyeTrainer$Lab" "mids" "[I" ∈ lw_gd := mem_gd (List.mem_of_getElem? (i := 219) (by decide +kernel)) rfl
set_option maxRecDepth 20000 in
theorem q_223 : Cond.fieldLink RX3 18 "EyeTrainer$Lab" "wides" "[I" ∈ lw_gd := mem_gd (List.mem_of_getElem? (i := 223) (by decide +kernel)) rfl
set_option maxRecDepth 20000 in
theorem q_227 : Cond.fieldLink RX3 21 "EyeTrainer$Lab" "highs" "[I" ∈ lw_gd := mem_gd (List.mem_of_getElem? (i := 227) (by decide +kernel)) rfl
set_option maxRecDepth 20000 in
theorem q_231 : Cond.fieldLink RX3 24 "EyeTrainer$Lab" "stresses" "[I" ∈ lw_gd := mem_gd (List.mem_of_getElem? (i := 231) (by decide +kernel)) rfl
set_option maxRecDepth 20000 in
theorem q_235 : Cond.fieldLink RX3 27 "EyeTrainer$Lab" "aspect" "I" ∈ lw_gd := mem_gd (List.mem_of_getElem? (i := 235) (by decide +kernel)) rfl
set_option maxRecDepth 20000 in
theorem q_238 : Cond.fieldLink RX3 31 "EyeTrainer$Lab" "hold" "I" ∈ lw_gd := mem_gd (List.mem_of_getElem? (i := 238) (by decide +kernel)) rfl
set_option maxRecDepth 20000 in
theorem q_282 : Cond.code yX5_init cX5_init 2 none ∈ lw_gd := mem_gd (List.mem_of_getElem? (i := 282) (by decide +kernel)) rfl
set_option maxRecDepth 20000 in
theorem q_283 : Cond.methodLink RX5 3 Lib.objectInit ∈ lw_gd := mem_gd (List.mem_of_getElem? (i := 283) (by decide +kernel)) rfl
set_option maxRecDepth 20000 in
theorem q_307 : Cond.arrayClass .long ∈ lw_gd := mem_gd (List.mem_of_getElem? (i := 307) (by decide +kernel)) rfl
set_option maxRecDepth 20000 in
theorem q_312 : Cond.code yX7_init cX7_init 1 none ∈ lw_gd := mem_gd (List.mem_of_getElem? (i := 312) (by decide +kernel)) rfl
set_option maxRecDepth 20000 in
theorem q_313 : Cond.methodLink RX7 5 Lib.objectInit ∈ lw_gd := mem_gd (List.mem_of_getElem? (i := 313) (by decide +kernel)) rfl
set_option maxRecDepth 20000 in
theorem q_369 : Cond.instantiable RX8 3 ∈ lw_gd := mem_gd (List.mem_of_getElem? (i := 369) (by decide +kernel)) rfl
set_option maxRecDepth 20000 in
theorem q_371 : Cond.instanceMethod yX8_init ∈ lw_gd := mem_gd (List.mem_of_getElem? (i := 371) (by decide +kernel)) rfl
set_option maxRecDepth 20000 in
theorem q_372 : Cond.code yX8_init cX8_init 1 none ∈ lw_gd := mem_gd (List.mem_of_getElem? (i := 372) (by decide +kernel)) rfl
set_option maxRecDepth 20000 in
theorem q_373 : Cond.methodLink RX8 3 Lib.objectInit ∈ lw_gd := mem_gd (List.mem_of_getElem? (i := 373) (by decide +kernel)) rfl
set_option maxRecDepth 20000 in
theorem q_393 : Cond.code yX10_init cX10_init 1 none ∈ lw_gd := mem_gd (List.mem_of_getElem? (i := 393) (by decide +kernel)) rfl
set_option maxRecDepth 20000 in
theorem q_394 : Cond.methodLink RX10 3 Lib.objectInit ∈ lw_gd := mem_gd (List.mem_of_getElem? (i := 394) (by decide +kernel)) rfl
set_option maxRecDepth 20000 in
theorem q_412 : Cond.code yX2_init cX2_init 1 none ∈ lw_gd := mem_gd (List.mem_of_getElem? (i := 412) (by decide +kernel)) rfl
set_option maxRecDepth 20000 in
theorem q_413 : Cond.methodLink RX2 1 Lib.objectInit ∈ lw_gd := mem_gd (List.mem_of_getElem? (i := 413) (by decide +kernel)) rfl
set_option maxRecDepth 20000 in
theorem q_414 : Cond.classLink RX2 7 RX8 ∈ lw_gd := mem_gd (List.mem_of_getElem? (i := 414) (by decide +kernel)) rfl
set_option maxRecDepth 20000 in
theorem q_415 : Cond.methodLink RX2 9 yX8_init ∈ lw_gd := mem_gd (List.mem_of_getElem? (i := 415) (by decide +kernel)) rfl
set_option maxRecDepth 20000 in
theorem q_416 : Cond.fieldLink RX2 10 "EyeTrainer$Image" "stand" "LEyeTrainer$Stand;" ∈ lw_gd := mem_gd (List.mem_of_getElem? (i := 416) (by decide +kernel)) rfl
set_option maxRecDepth 20000 in
theorem q_726 : Cond.code yJ7_copyOf_59c91 cJ7_copyOf_59c91 3 (some (.array .int)) ∈ lw_gd := mem_gd (List.mem_of_getElem? (i := 726) (by decide +kernel)) rfl
set_option maxRecDepth 20000 in
theorem q_734 : Cond.methodLink RJ7 304 yJ9_min_7cf53 ∈ lw_gd := mem_gd (List.mem_of_getElem? (i := 734) (by decide +kernel)) rfl
set_option maxRecDepth 20000 in
theorem q_735 : Cond.methodLink RJ7 150 arraycopyName ∈ lw_gd := mem_gd (List.mem_of_getElem? (i := 735) (by decide +kernel)) rfl
set_option maxRecDepth 20000 in
theorem q_736 : Cond.static arraycopyName ∈ lw_gd := mem_gd (List.mem_of_getElem? (i := 736) (by decide +kernel)) rfl
set_option maxRecDepth 20000 in
theorem q_737 : Cond.native arraycopyName ∈ lw_gd := mem_gd (List.mem_of_getElem? (i := 737) (by decide +kernel)) rfl
set_option maxRecDepth 20000 in
theorem q_740 : Cond.code yX4_init cX4_init 3 none ∈ lw_gd := mem_gd (List.mem_of_getElem? (i := 740) (by decide +kernel)) rfl
set_option maxRecDepth 20000 in
theorem q_741 : Cond.methodLink RX4 3 Lib.objectInit ∈ lw_gd := mem_gd (List.mem_of_getElem? (i := 741) (by decide +kernel)) rfl
set_option maxRecDepth 20000 in
theorem q_743 : Cond.fieldLink RX4 15 "EyeTrainer$Law" "used" "I" ∈ lw_gd := mem_gd (List.mem_of_getElem? (i := 743) (by decide +kernel)) rfl
set_option maxRecDepth 20000 in
theorem q_988 : Cond.code yX1_init cX1_init 2 none ∈ lw_gd := mem_gd (List.mem_of_getElem? (i := 988) (by decide +kernel)) rfl
set_option maxRecDepth 20000 in
theorem q_989 : Cond.methodLink RX1 3 Lib.objectInit ∈ lw_gd := mem_gd (List.mem_of_getElem? (i := 989) (by decide +kernel)) rfl
theorem dJ7_copyOf_59c91_0 : decode cJ7_copyOf_59c91 0 = .ok (.iload_n 1, 1) := by decide +kernel
theorem dJ7_copyOf_59c91_1 : decode cJ7_copyOf_59c91 1 = .ok (.aload_n 0, 1) := by decide +kernel
theorem dJ7_copyOf_59c91_2 : decode cJ7_copyOf_59c91 2 = .ok (.arraylength, 1) := by decide +kernel
theorem dJ7_copyOf_59c91_3 : decode cJ7_copyOf_59c91 3 = .ok (.if_icmp .ne 11, 3) := by decide +kernel
theorem dJ7_copyOf_59c91_6 : decode cJ7_copyOf_59c91 6 = .ok (.aload_n 0, 1) := by decide +kernel
theorem dJ7_copyOf_59c91_14 : decode cJ7_copyOf_59c91 14 = .ok (.iload_n 1, 1) := by decide +kernel
theorem dJ7_copyOf_59c91_15 : decode cJ7_copyOf_59c91 15 = .ok (.newarray .int, 2) := by decide +kernel
theorem dJ7_copyOf_59c91_17 : decode cJ7_copyOf_59c91 17 = .ok (.astore_n 2, 1) := by decide +kernel
theorem dJ7_copyOf_59c91_18 : decode cJ7_copyOf_59c91 18 = .ok (.aload_n 0, 1) := by decide +kernel
theorem dJ7_copyOf_59c91_19 : decode cJ7_copyOf_59c91 19 = .ok (.iconst 0, 1) := by decide +kernel
theorem dJ7_copyOf_59c91_20 : decode cJ7_copyOf_59c91 20 = .ok (.aload_n 2, 1) := by decide +kernel
theorem dJ7_copyOf_59c91_21 : decode cJ7_copyOf_59c91 21 = .ok (.iconst 0, 1) := by decide +kernel
theorem dJ7_copyOf_59c91_22 : decode cJ7_copyOf_59c91 22 = .ok (.aload_n 0, 1) := by decide +kernel
theorem dJ7_copyOf_59c91_23 : decode cJ7_copyOf_59c91 23 = .ok (.arraylength, 1) := by decide +kernel
theorem dJ7_copyOf_59c91_24 : decode cJ7_copyOf_59c91 24 = .ok (.iload_n 1, 1) := by decide +kernel
theorem dJ7_copyOf_59c91_25 : decode cJ7_copyOf_59c91 25 = .ok (.invokestatic 304, 3) := by decide +kernel
theorem dJ7_copyOf_59c91_28 : decode cJ7_copyOf_59c91 28 = .ok (.invokestatic 150, 3) := by decide +kernel
theorem dJ7_copyOf_59c91_31 : decode cJ7_copyOf_59c91 31 = .ok (.aload_n 2, 1) := by decide +kernel
theorem dJ7_copyOf_59c91_32 : decode cJ7_copyOf_59c91 32 = .ok (.areturn, 1) := by decide +kernel
theorem wJ7_copyOf_59c91 : Mw yJ7_copyOf_59c91 cJ7_copyOf_59c91 3 (some (.array .int)) 2 := ⟨q_726, q_125, by decide, ⟨by decide +kernel, by decide +kernel⟩, by decide +kernel, by decide +kernel⟩
def jJ7_copyOf_59c91_17 (T : Sh) (M : Me) (x0 : Nat) (x1 : Int32) (s0 : Nat) : Option (Nat × Sh × Me) :=
  gd (kd T x0 = 13) <| Option.bind (fJ9_min_7cf53 (nI (ln T x0)) x1) fun r6 => gd (kd T s0 = 13) <| gd (¬ r6 < 0) <| gd (Int32.toNatClampNeg r6 ≤ ln T x0) <| gd (Int32.toNatClampNeg r6 ≤ ln T s0) <| some (s0, T, (cpM M x0 s0 (Int32.toNatClampNeg r6)))
theorem mjJ7_copyOf_59c91_17 {T : Sh} {M : Me} {x0 : Nat} {x1 : Int32} {s0 : Nat} {r : Nat} {T' : Sh} {M' : Me} (h : jJ7_copyOf_59c91_17 T M x0 x1 s0 = some (r, T', M')) : leT T T' := by
  unfold jJ7_copyOf_59c91_17 at h
  replace h := gd_some h; obtain ⟨hk5, h⟩ := h
  replace h := bnd h; obtain ⟨r6, h1, h⟩ := h
  replace h := gd_some h; obtain ⟨hk7, h⟩ := h
  replace h := gd_some h; obtain ⟨hn8, h⟩ := h
  replace h := gd_some h; obtain ⟨hn9, h⟩ := h
  replace h := gd_some h; obtain ⟨hn10, h⟩ := h
  replace h := Prod.mk.inj (Option.some.inj h); obtain ⟨rfl, h⟩ := h; replace h := Prod.mk.inj h; obtain ⟨rfl, rfl⟩ := h
  exact leT.rfl
set_option maxHeartbeats 4000000 in
theorem tjJ7_copyOf_59c91_17 {X : Fx} {B : Bx} {Z : Nat × Nat × Nat × Nat} {d : Nat} {T : Sh} {M : Me} {x0 : Nat} {x1 : Int32} {s0 : Nat} {r : Nat} {T' : Sh} {M' : Me} (C : Cx X B cJ7_copyOf_59c91 3 RJ7 d Z) (hR : Rx X (some (.array .int))) (hd : 2 ≤ d) (hZ : leZ T' Z) (h : jJ7_copyOf_59c91_17 T M x0 x1 s0 = some (r, T', M')) : G X B 3 Z (Qf X B Z (some (.ref r)) T' M') 17 [(0, .ref (x0)), (1, .int (x1))] [.ref (s0)] T M := by
  unfold jJ7_copyOf_59c91_17 at h
  refine g_astore_n (pc := 17) (lo2 := [(2, .ref (s0)), (0, .ref (x0)), (1, .int (x1))]) C dJ7_copyOf_59c91_17 rfl (by decide) rfl ?_
  refine g_aload_n (pc := 18) C dJ7_copyOf_59c91_18 rfl 1 rfl ?_
  refine g_iconst (pc := 19) (v := 0) C dJ7_copyOf_59c91_19 (by decide) ?_
  refine g_aload_n (pc := 20) C dJ7_copyOf_59c91_20 rfl 0 rfl ?_
  refine g_iconst (pc := 21) (v := 0) C dJ7_copyOf_59c91_21 (by decide) ?_
  refine g_aload_n (pc := 22) C dJ7_copyOf_59c91_22 rfl 1 rfl ?_
  replace h := gd_some h; obtain ⟨hk5, h⟩ := h
  refine g_alen13 (pc := 23) C dJ7_copyOf_59c91_23 hk5 ?_
  refine g_iload_n (pc := 24) C dJ7_copyOf_59c91_24 rfl 2 rfl ?_
  replace h := bnd h; obtain ⟨r6, h1, h⟩ := h
  refine g_callSi (pc := 25) (As := [.int (nI (ln T x0)), .int (x1)]) (st := [.int ((0 : Int32)), .ref (s0), .int ((0 : Int32)), .ref (x0)]) C dJ7_copyOf_59c91_25 wJ9_min_7cf53 q_584 q_734 (by omega) rfl (Nat.le_of_ble_eq_true rfl) (kJ9_min_7cf53 (d := 0) (Nat.le_refl _) h1) ?_
  replace h := gd_some h; obtain ⟨hk7, h⟩ := h
  replace h := gd_some h; obtain ⟨hn8, h⟩ := h
  replace h := gd_some h; obtain ⟨hn9, h⟩ := h
  replace h := gd_some h; obtain ⟨hn10, h⟩ := h
  refine g_copyi (pc := 28) C dJ7_copyOf_59c91_28 q_735 q_737 q_736 q_138 (by omega) hk5 hk7 hn8 hn9 hn10 rfl ?_
  refine g_aload_n (pc := 31) C dJ7_copyOf_59c91_31 rfl 0 rfl ?_
  replace h := Prod.mk.inj (Option.some.inj h); obtain ⟨rfl, h⟩ := h; replace h := Prod.mk.inj h; obtain ⟨rfl, rfl⟩ := h
  exact g_aret (x := some s0) C hR (Or.inr ⟨_, rfl⟩) dJ7_copyOf_59c91_32
/-- java/util/Arrays.copyOf([II)[I -/
def fJ7_copyOf_59c91 (T : Sh) (M : Me) (x0 : Nat) (x1 : Int32) : Option (Nat × Sh × Me) :=
  gd (kd T x0 = 13) <| if x1 = (nI (ln T x0)) then (none) else (gd (¬ x1 < 0) <| gd (Int32.toNatClampNeg x1 ≤ 1000) <| jJ7_copyOf_59c91_17 (nT T 13 (Int32.toNatClampNeg x1) (Int32.toNatClampNeg x1)) (nM T M) x0 x1 (tp T))
theorem mJ7_copyOf_59c91 {T : Sh} {M : Me} {x0 : Nat} {x1 : Int32} {r : Nat} {T' : Sh} {M' : Me} (h : fJ7_copyOf_59c91 T M x0 x1 = some (r, T', M')) : leT T T' := by
  unfold fJ7_copyOf_59c91 at h
  replace h := gd_some h; obtain ⟨hk1, h⟩ := h
  by_cases c2 : x1 = (nI (ln T x0))
  · replace h := ifp c2 h
    cases h
  · replace h := ifn c2 h
    replace h := gd_some h; obtain ⟨hn3, h⟩ := h
    replace h := gd_some h; obtain ⟨hn4, h⟩ := h
    exact (leT.rfl.trans (leT.new _ _ _ _)).trans (mjJ7_copyOf_59c91_17 h)
set_option maxHeartbeats 4000000 in
theorem kJ7_copyOf_59c91 {l : Launch} {B : Bx} {d : Nat} (hd : 2 ≤ d) {T : Sh} {M : Me} {x0 : Nat} {x1 : Int32} {r : Nat} {T' : Sh} {M' : Me} (h : fJ7_copyOf_59c91 T M x0 x1 = some (r, T', M')) : Kt l B yJ7_copyOf_59c91 cJ7_copyOf_59c91 3 (some (.array .int)) d [.ref (x0), .int (x1)] T M (some (.ref r)) T' M' := by
  have hmm := mJ7_copyOf_59c91 h
  refine kt_of wJ7_copyOf_59c91 hmm.1 hmm.2 (Nat.le_of_ble_eq_true rfl) (fun X C hR hlx hin => ?_)
  subst hlx
  replace C : Cx X B cJ7_copyOf_59c91 3 RJ7 d (tp T, sl T, tp T', sl T') := C
  have hZ : leZ T' (tp T, sl T, tp T', sl T') := ⟨Nat.le_refl _, Nat.le_refl _⟩
  unfold fJ7_copyOf_59c91 at h
  show G X B 3 _ _ 0 [(0, .ref (x0)), (1, .int (x1))] [] T M
  refine g_iload_n (pc := 0) C dJ7_copyOf_59c91_0 rfl 1 rfl ?_
  refine g_aload_n (pc := 1) C dJ7_copyOf_59c91_1 rfl 0 rfl ?_
  replace h := gd_some h; obtain ⟨hk1, h⟩ := h
  refine g_alen13 (pc := 2) C dJ7_copyOf_59c91_2 hk1 ?_
  refine g_icmp_ne (pc := 3) (tgt := 14) C dJ7_copyOf_59c91_3 (by decide) (fun c2 => ?_) (fun c2 => ?_)
  · replace h := ifn c2 h
    refine g_iload_n (pc := 14) C dJ7_copyOf_59c91_14 rfl 1 rfl ?_
    replace h := gd_some h; obtain ⟨hn3, h⟩ := h
    replace h := gd_some h; obtain ⟨hn4, h⟩ := h
    have hz := leZ_new ((mjJ7_copyOf_59c91_17 h).Z hZ)
    refine g_newaI (pc := 15) (N := (Int32.toNatClampNeg x1)) C dJ7_copyOf_59c91_15 q_179 hn3 rfl (by omega) hz.1 hz.2 ?_
    exact g_sub [0, 1] rfl (tjJ7_copyOf_59c91_17 C hR hd hZ h)
  · replace h := ifp c2 h
    cases h
theorem dX8_init_0 : decode cX8_init 0 = .ok (.aload_n 0, 1) := by decide +kernel
theorem dX8_init_1 : decode cX8_init 1 = .ok (.invokespecial 3, 3) := by decide +kernel
theorem dX8_init_4 : decode cX8_init 4 = .ok (.aload_n 0, 1) := by decide +kernel
theorem dX8_init_5 : decode cX8_init 5 = .ok (.bipush 6, 2) := by decide +kernel
theorem dX8_init_7 : decode cX8_init 7 = .ok (.newarray .int, 2) := by decide +kernel
theorem dX8_init_9 : decode cX8_init 9 = .ok (.putfield 9, 3) := by decide +kernel
theorem dX8_init_12 : decode cX8_init 12 = .ok (.aload_n 0, 1) := by decide +kernel
theorem dX8_init_13 : decode cX8_init 13 = .ok (.iconst (-1), 1) := by decide +kernel
theorem dX8_init_14 : decode cX8_init 14 = .ok (.putfield 15, 3) := by decide +kernel
theorem dX8_init_17 : decode cX8_init 17 = .ok (.return_, 1) := by decide +kernel
theorem wX8_init : Mw yX8_init cX8_init 1 none 0 := ⟨q_372, q_127, by decide, ⟨by decide +kernel, by decide +kernel⟩, by decide +kernel, by decide +kernel⟩
def jX8_init_9 (T : Sh) (M : Me) (x0 : Nat) (s0 : Nat) (s1 : Nat) : Option (Unit × Sh × Me) :=
  gd (kd T s1 = 7) <| lt (pR M s1 0 (some s0)) fun M2 => gd (kd T x0 = 7) <| lt (pI M2 x0 2 (-1 : Int32)) fun M4 => some ((), T, M4)
theorem mjX8_init_9 {T : Sh} {M : Me} {x0 : Nat} {s0 : Nat} {s1 : Nat} {T' : Sh} {M' : Me} (h : jX8_init_9 T M x0 s0 s1 = some ((), T', M')) : leT T T' := by
  unfold jX8_init_9 at h
  replace h := gd_some h; obtain ⟨hk1, h⟩ := h
  obtain ⟨M2, eM2⟩ : ∃ y : Me, y = pR M s1 0 (some s0) := ⟨_, rfl⟩
  replace h := lt_at eM2 h
  replace h := gd_some h; obtain ⟨hk3, h⟩ := h
  obtain ⟨M4, eM4⟩ : ∃ y : Me, y = pI M2 x0 2 (-1 : Int32) := ⟨_, rfl⟩
  replace h := lt_at eM4 h
  replace h := Prod.mk.inj (Option.some.inj h); obtain ⟨-, h⟩ := h; replace h := Prod.mk.inj h; obtain ⟨rfl, rfl⟩ := h
  exact leT.rfl
set_option maxHeartbeats 4000000 in
theorem tjX8_init_9 {X : Fx} {B : Bx} {Z : Nat × Nat × Nat × Nat} {d : Nat} {T : Sh} {M : Me} {x0 : Nat} {s0 : Nat} {s1 : Nat} {T' : Sh} {M' : Me} (C : Cx X B cX8_init 1 RX8 d Z) (hR : Rx X none) (hd : 1 ≤ d) (hin : X.2.2.2.2.2.2.2.2.1.name = "<init>") (hZ : leZ T' Z) (h : jX8_init_9 T M x0 s0 s1 = some ((), T', M')) : G X B 1 Z (Qf X B Z none T' M') 9 [(0, .ref (x0))] [.ref (s0), .ref (s1)] T M := by
  unfold jX8_init_9 at h
  replace h := gd_some h; obtain ⟨hk1, h⟩ := h
  refine g_putRF (pc := 9) (x := (some s0)) (ft := .array (.int)) C hin dX8_init_9 kX8 hk1 0 (by decide) rfl rfl (Or.inr ⟨_, rfl⟩) ⟨rfl, rfl⟩ q_374 ?_
  refine g_mem (fun M2 eM2 => ?_)
  replace h := lt_at eM2 h
  refine g_aload_n (pc := 12) C dX8_init_12 rfl 0 rfl ?_
  refine g_iconst (pc := 13) (v := (-1)) C dX8_init_13 (by decide) ?_
  replace h := gd_some h; obtain ⟨hk3, h⟩ := h
  refine g_putI (pc := 14) C dX8_init_14 kX8 hk3 2 (by decide) rfl rfl rfl q_378 ?_
  refine g_mem (fun M4 eM4 => ?_)
  replace h := lt_at eM4 h
  replace h := Prod.mk.inj (Option.some.inj h); obtain ⟨-, h⟩ := h; replace h := Prod.mk.inj h; obtain ⟨rfl, rfl⟩ := h
  exact g_vret C hR dX8_init_17
/-- EyeTrainer$Stand.<init>()V -/
def fX8_init (T : Sh) (M : Me) (x0 : Nat) : Option (Unit × Sh × Me) :=
  jX8_init_9 (nT T 13 6 6) (nM T M) x0 (tp T) x0
theorem mX8_init {T : Sh} {M : Me} {x0 : Nat} {T' : Sh} {M' : Me} (h : fX8_init T M x0 = some ((), T', M')) : leT T T' := by
  unfold fX8_init at h
  exact (leT.rfl.trans (leT.new _ _ _ _)).trans (mjX8_init_9 h)
set_option maxHeartbeats 4000000 in
theorem kX8_init {l : Launch} {B : Bx} {d : Nat} (hd : 1 ≤ d) {T : Sh} {M : Me} {x0 : Nat} {T' : Sh} {M' : Me} (h : fX8_init T M x0 = some ((), T', M')) : Kt l B yX8_init cX8_init 1 none d [.ref (x0)] T M none T' M' := by
  have hmm := mX8_init h
  refine kt_of wX8_init hmm.1 hmm.2 (Nat.le_of_ble_eq_true rfl) (fun X C hR hlx hin => ?_)
  subst hlx
  replace C : Cx X B cX8_init 1 RX8 d (tp T, sl T, tp T', sl T') := C
  have hZ : leZ T' (tp T, sl T, tp T', sl T') := ⟨Nat.le_refl _, Nat.le_refl _⟩
  unfold fX8_init at h
  show G X B 1 _ _ 0 [(0, .ref (x0))] [] T M
  refine g_aload_n (pc := 0) C dX8_init_0 rfl 0 rfl ?_
  refine g_objInit (pc := 1) C dX8_init_1 (by omega) q_373 q_148 q_149 (Nat.le_of_ble_eq_true rfl) ?_
  refine g_aload_n (pc := 4) C dX8_init_4 rfl 0 rfl ?_
  refine g_bipush (pc := 5) (v := 6) C dX8_init_5 (by decide) ?_
  have hz := leZ_new ((mjX8_init_9 h).Z hZ)
  refine g_newaI (pc := 7) (N := 6) C dX8_init_7 q_179 (by decide) (by decide +kernel) (Nat.le_of_ble_eq_true rfl) hz.1 hz.2 ?_
  exact g_sub [0] rfl (tjX8_init_9 C hR hd hin hZ h)
theorem dX10_init_0 : decode cX10_init 0 = .ok (.aload_n 0, 1) := by decide +kernel
theorem dX10_init_1 : decode cX10_init 1 = .ok (.invokespecial 3, 3) := by decide +kernel
theorem dX10_init_4 : decode cX10_init 4 = .ok (.aload_n 0, 1) := by decide +kernel
theorem dX10_init_5 : decode cX10_init 5 = .ok (.bipush 40, 2) := by decide +kernel
theorem dX10_init_7 : decode cX10_init 7 = .ok (.newarray .long, 2) := by decide +kernel
theorem dX10_init_9 : decode cX10_init 9 = .ok (.putfield 9, 3) := by decide +kernel
theorem dX10_init_12 : decode cX10_init 12 = .ok (.aload_n 0, 1) := by decide +kernel
theorem dX10_init_13 : decode cX10_init 13 = .ok (.iconst (-1), 1) := by decide +kernel
theorem dX10_init_14 : decode cX10_init 14 = .ok (.putfield 15, 3) := by decide +kernel
theorem dX10_init_17 : decode cX10_init 17 = .ok (.return_, 1) := by decide +kernel
theorem wX10_init : Mw yX10_init cX10_init 1 none 0 := ⟨q_393, q_128, by decide, ⟨by decide +kernel, by decide +kernel⟩, by decide +kernel, by decide +kernel⟩
def jX10_init_9 (T : Sh) (M : Me) (x0 : Nat) (s0 : Nat) (s1 : Nat) : Option (Unit × Sh × Me) :=
  gd (kd T s1 = 9) <| lt (pR M s1 0 (some s0)) fun M2 => gd (kd T x0 = 9) <| lt (pI M2 x0 2 (-1 : Int32)) fun M4 => some ((), T, M4)
theorem mjX10_init_9 {T : Sh} {M : Me} {x0 : Nat} {s0 : Nat} {s1 : Nat} {T' : Sh} {M' : Me} (h : jX10_init_9 T M x0 s0 s1 = some ((), T', M')) : leT T T' := by
  unfold jX10_init_9 at h
  replace h := gd_some h; obtain ⟨hk1, h⟩ := h
  obtain ⟨M2, eM2⟩ : ∃ y : Me, y = pR M s1 0 (some s0) := ⟨_, rfl⟩
  replace h := lt_at eM2 h
  replace h := gd_some h; obtain ⟨hk3, h⟩ := h
  obtain ⟨M4, eM4⟩ : ∃ y : Me, y = pI M2 x0 2 (-1 : Int32) := ⟨_, rfl⟩
  replace h := lt_at eM4 h
  replace h := Prod.mk.inj (Option.some.inj h); obtain ⟨-, h⟩ := h; replace h := Prod.mk.inj h; obtain ⟨rfl, rfl⟩ := h
  exact leT.rfl
set_option maxHeartbeats 4000000 in
theorem tjX10_init_9 {X : Fx} {B : Bx} {Z : Nat × Nat × Nat × Nat} {d : Nat} {T : Sh} {M : Me} {x0 : Nat} {s0 : Nat} {s1 : Nat} {T' : Sh} {M' : Me} (C : Cx X B cX10_init 1 RX10 d Z) (hR : Rx X none) (hd : 1 ≤ d) (hin : X.2.2.2.2.2.2.2.2.1.name = "<init>") (hZ : leZ T' Z) (h : jX10_init_9 T M x0 s0 s1 = some ((), T', M')) : G X B 1 Z (Qf X B Z none T' M') 9 [(0, .ref (x0))] [.ref (s0), .ref (s1)] T M := by
  unfold jX10_init_9 at h
  replace h := gd_some h; obtain ⟨hk1, h⟩ := h
  refine g_putRF (pc := 9) (x := (some s0)) (ft := .array (.long)) C hin dX10_init_9 kX10 hk1 0 (by decide) rfl rfl (Or.inr ⟨_, rfl⟩) ⟨rfl, rfl⟩ q_395 ?_
  refine g_mem (fun M2 eM2 => ?_)
  replace h := lt_at eM2 h
  refine g_aload_n (pc := 12) C dX10_init_12 rfl 0 rfl ?_
  refine g_iconst (pc := 13) (v := (-1)) C dX10_init_13 (by decide) ?_
  replace h := gd_some h; obtain ⟨hk3, h⟩ := h
  refine g_putI (pc := 14) C dX10_init_14 kX10 hk3 2 (by decide) rfl rfl rfl q_398 ?_
  refine g_mem (fun M4 eM4 => ?_)
  replace h := lt_at eM4 h
  replace h := Prod.mk.inj (Option.some.inj h); obtain ⟨-, h⟩ := h; replace h := Prod.mk.inj h; obtain ⟨rfl, rfl⟩ := h
  exact g_vret C hR dX10_init_17
/-- EyeTrainer$Tray.<init>()V -/
def fX10_init (T : Sh) (M : Me) (x0 : Nat) : Option (Unit × Sh × Me) :=
  jX10_init_9 (nT T 14 40 40) (nM T M) x0 (tp T) x0
theorem mX10_init {T : Sh} {M : Me} {x0 : Nat} {T' : Sh} {M' : Me} (h : fX10_init T M x0 = some ((), T', M')) : leT T T' := by
  unfold fX10_init at h
  exact (leT.rfl.trans (leT.new _ _ _ _)).trans (mjX10_init_9 h)
set_option maxHeartbeats 4000000 in
theorem kX10_init {l : Launch} {B : Bx} {d : Nat} (hd : 1 ≤ d) {T : Sh} {M : Me} {x0 : Nat} {T' : Sh} {M' : Me} (h : fX10_init T M x0 = some ((), T', M')) : Kt l B yX10_init cX10_init 1 none d [.ref (x0)] T M none T' M' := by
  have hmm := mX10_init h
  refine kt_of wX10_init hmm.1 hmm.2 (Nat.le_of_ble_eq_true rfl) (fun X C hR hlx hin => ?_)
  subst hlx
  replace C : Cx X B cX10_init 1 RX10 d (tp T, sl T, tp T', sl T') := C
  have hZ : leZ T' (tp T, sl T, tp T', sl T') := ⟨Nat.le_refl _, Nat.le_refl _⟩
  unfold fX10_init at h
  show G X B 1 _ _ 0 [(0, .ref (x0))] [] T M
  refine g_aload_n (pc := 0) C dX10_init_0 rfl 0 rfl ?_
  refine g_objInit (pc := 1) C dX10_init_1 (by omega) q_394 q_148 q_149 (Nat.le_of_ble_eq_true rfl) ?_
  refine g_aload_n (pc := 4) C dX10_init_4 rfl 0 rfl ?_
  refine g_bipush (pc := 5) (v := 40) C dX10_init_5 (by decide) ?_
  have hz := leZ_new ((mjX10_init_9 h).Z hZ)
  refine g_newaJ (pc := 7) (N := 40) C dX10_init_7 q_307 (by decide) (by decide +kernel) (Nat.le_of_ble_eq_true rfl) hz.1 hz.2 ?_
  exact g_sub [0] rfl (tjX10_init_9 C hR hd hin hZ h)
theorem dX2_init_0 : decode cX2_init 0 = .ok (.aload_n 0, 1) := by decide +kernel
theorem dX2_init_1 : decode cX2_init 1 = .ok (.invokespecial 1, 3) := by decide +kernel
theorem dX2_init_4 : decode cX2_init 4 = .ok (.aload_n 0, 1) := by decide +kernel
theorem dX2_init_5 : decode cX2_init 5 = .ok (.new 7, 3) := by decide +kernel
theorem dX2_init_8 : decode cX2_init 8 = .ok (.dup, 1) := by decide +kernel
theorem dX2_init_9 : decode cX2_init 9 = .ok (.invokespecial 9, 3) := by decide +kernel
theorem dX2_init_12 : decode cX2_init 12 = .ok (.putfield 10, 3) := by decide +kernel
theorem dX2_init_15 : decode cX2_init 15 = .ok (.return_, 1) := by decide +kernel
theorem wX2_init : Mw yX2_init cX2_init 1 none 0 := ⟨q_412, q_129, by decide, ⟨by decide +kernel, by decide +kernel⟩, by decide +kernel, by decide +kernel⟩
def jX2_init_12 (T : Sh) (M : Me) (s0 : Nat) (s1 : Nat) : Option (Unit × Sh × Me) :=
  gd (kd T s1 = 1) <| lt (pR M s1 0 (some s0)) fun M4 => some ((), T, M4)
theorem mjX2_init_12 {T : Sh} {M : Me} {s0 : Nat} {s1 : Nat} {T' : Sh} {M' : Me} (h : jX2_init_12 T M s0 s1 = some ((), T', M')) : leT T T' := by
  unfold jX2_init_12 at h
  replace h := gd_some h; obtain ⟨hk3, h⟩ := h
  obtain ⟨M4, eM4⟩ : ∃ y : Me, y = pR M s1 0 (some s0) := ⟨_, rfl⟩
  replace h := lt_at eM4 h
  replace h := Prod.mk.inj (Option.some.inj h); obtain ⟨-, h⟩ := h; replace h := Prod.mk.inj h; obtain ⟨rfl, rfl⟩ := h
  exact leT.rfl
set_option maxHeartbeats 4000000 in
theorem tjX2_init_12 {X : Fx} {B : Bx} {Z : Nat × Nat × Nat × Nat} {d : Nat} {T : Sh} {M : Me} {s0 : Nat} {s1 : Nat} {T' : Sh} {M' : Me} (C : Cx X B cX2_init 1 RX2 d Z) (hR : Rx X none) (hd : 2 ≤ d) (hin : X.2.2.2.2.2.2.2.2.1.name = "<init>") (hZ : leZ T' Z) (h : jX2_init_12 T M s0 s1 = some ((), T', M')) : G X B 1 Z (Qf X B Z none T' M') 12 [] [.ref (s0), .ref (s1)] T M := by
  unfold jX2_init_12 at h
  replace h := gd_some h; obtain ⟨hk3, h⟩ := h
  refine g_putRF (pc := 12) (x := (some s0)) (ft := .object "EyeTrainer$Stand") C hin dX2_init_12 kX2 hk3 0 (by decide) rfl rfl (Or.inl ⟨_, rfl⟩) ⟨rfl, rfl⟩ q_416 ?_
  refine g_mem (fun M4 eM4 => ?_)
  replace h := lt_at eM4 h
  replace h := Prod.mk.inj (Option.some.inj h); obtain ⟨-, h⟩ := h; replace h := Prod.mk.inj h; obtain ⟨rfl, rfl⟩ := h
  exact g_vret C hR dX2_init_15
def jX2_init_8 (T : Sh) (M : Me) (s0 : Nat) (s1 : Nat) : Option (Unit × Sh × Me) :=
  Option.bind (fX8_init T M s0) <| un3 fun _u T2 M1 => jX2_init_12 T2 M1 s0 s1
theorem mjX2_init_8 {T : Sh} {M : Me} {s0 : Nat} {s1 : Nat} {T' : Sh} {M' : Me} (h : jX2_init_8 T M s0 s1 = some ((), T', M')) : leT T T' := by
  unfold jX2_init_8 at h
  replace h := bnd3 h; obtain ⟨_u, T2, M1, h1, h⟩ := h
  have hmT2 := mX8_init h1
  exact (leT.rfl.trans hmT2).trans (mjX2_init_12 h)
set_option maxHeartbeats 4000000 in
theorem tjX2_init_8 {X : Fx} {B : Bx} {Z : Nat × Nat × Nat × Nat} {d : Nat} {T : Sh} {M : Me} {s0 : Nat} {s1 : Nat} {T' : Sh} {M' : Me} (C : Cx X B cX2_init 1 RX2 d Z) (hR : Rx X none) (hd : 2 ≤ d) (hin : X.2.2.2.2.2.2.2.2.1.name = "<init>") (hZ : leZ T' Z) (h : jX2_init_8 T M s0 s1 = some ((), T', M')) : G X B 1 Z (Qf X B Z none T' M') 8 [] [.ref (s0), .ref (s1)] T M := by
  unfold jX2_init_8 at h
  refine g_dup (pc := 8) C dX2_init_8 rfl ?_
  replace h := bnd3 h; obtain ⟨_u, T2, M1, h1, h⟩ := h
  have hzT2 := (mjX2_init_12 h).Z hZ
  refine g_callIvA (pc := 9) (As := []) (st := [.ref (s0), .ref (s1)]) C dX2_init_9 wX8_init q_371 rfl rfl q_415 (by omega) rfl (Nat.le_of_ble_eq_true rfl) (kX8_init (d := 1) (Nat.le_refl _) h1) hzT2 ?_
  exact g_sub [] rfl (tjX2_init_12 C hR hd hin hZ h)
/-- EyeTrainer$Image.<init>()V -/
def fX2_init (T : Sh) (M : Me) (x0 : Nat) : Option (Unit × Sh × Me) :=
  jX2_init_8 (nT T 7 0 3) (nM T M) (tp T) x0
theorem mX2_init {T : Sh} {M : Me} {x0 : Nat} {T' : Sh} {M' : Me} (h : fX2_init T M x0 = some ((), T', M')) : leT T T' := by
  unfold fX2_init at h
  exact (leT.rfl.trans (leT.new _ _ _ _)).trans (mjX2_init_8 h)
set_option maxHeartbeats 4000000 in
theorem kX2_init {l : Launch} {B : Bx} {d : Nat} (hd : 2 ≤ d) {T : Sh} {M : Me} {x0 : Nat} {T' : Sh} {M' : Me} (h : fX2_init T M x0 = some ((), T', M')) : Kt l B yX2_init cX2_init 1 none d [.ref (x0)] T M none T' M' := by
  have hmm := mX2_init h
  refine kt_of wX2_init hmm.1 hmm.2 (Nat.le_of_ble_eq_true rfl) (fun X C hR hlx hin => ?_)
  subst hlx
  replace C : Cx X B cX2_init 1 RX2 d (tp T, sl T, tp T', sl T') := C
  have hZ : leZ T' (tp T, sl T, tp T', sl T') := ⟨Nat.le_refl _, Nat.le_refl _⟩
  unfold fX2_init at h
  show G X B 1 _ _ 0 [(0, .ref (x0))] [] T M
  refine g_aload_n (pc := 0) C dX2_init_0 rfl 0 rfl ?_
  refine g_objInit (pc := 1) C dX2_init_1 (by omega) q_413 q_148 q_149 (Nat.le_of_ble_eq_true rfl) ?_
  refine g_aload_n (pc := 4) C dX2_init_4 rfl 0 rfl ?_
  have hz := leZ_new ((mjX2_init_8 h).Z hZ)
  refine g_new (pc := 5) C dX2_init_5 kX8 hdvX8 q_414 q_369 q_127 hz.1 hz.2 ?_
  exact g_sub [] rfl (tjX2_init_8 C hR hd hin hZ h)
theorem dX3_init_0 : decode cX3_init 0 = .ok (.aload_n 0, 1) := by decide +kernel
theorem dX3_init_1 : decode cX3_init 1 = .ok (.invokespecial 3, 3) := by decide +kernel
theorem dX3_init_4 : decode cX3_init 4 = .ok (.aload_n 0, 1) := by decide +kernel
theorem dX3_init_5 : decode cX3_init 5 = .ok (.bipush 6, 2) := by decide +kernel
theorem dX3_init_7 : decode cX3_init 7 = .ok (.newarray .int, 2) := by decide +kernel
theorem dX3_init_9 : decode cX3_init 9 = .ok (.putfield 9, 3) := by decide +kernel
theorem dX3_init_12 : decode cX3_init 12 = .ok (.aload_n 0, 1) := by decide +kernel
theorem dX3_init_13 : decode cX3_init 13 = .ok (.bipush 6, 2) := by decide +kernel
theorem dX3_init_15 : decode cX3_init 15 = .ok (.newarray .int, 2) := by decide +kernel
theorem dX3_init_17 : decode cX3_init 17 = .ok (.putfield 15, 3) := by decide +kernel
theorem dX3_init_20 : decode cX3_init 20 = .ok (.aload_n 0, 1) := by decide +kernel
theorem dX3_init_21 : decode cX3_init 21 = .ok (.bipush 6, 2) := by decide +kernel
theorem dX3_init_23 : decode cX3_init 23 = .ok (.newarray .int, 2) := by decide +kernel
theorem dX3_init_25 : decode cX3_init 25 = .ok (.putfield 18, 3) := by decide +kernel
theorem dX3_init_28 : decode cX3_init 28 = .ok (.aload_n 0, 1) := by decide +kernel
theorem dX3_init_29 : decode cX3_init 29 = .ok (.bipush 6, 2) := by decide +kernel
theorem dX3_init_31 : decode cX3_init 31 = .ok (.newarray .int, 2) := by decide +kernel
theorem dX3_init_33 : decode cX3_init 33 = .ok (.putfield 21, 3) := by decide +kernel
theorem dX3_init_36 : decode cX3_init 36 = .ok (.aload_n 0, 1) := by decide +kernel
theorem dX3_init_37 : decode cX3_init 37 = .ok (.iconst 5, 1) := by decide +kernel
theorem dX3_init_38 : decode cX3_init 38 = .ok (.newarray .int, 2) := by decide +kernel
theorem dX3_init_40 : decode cX3_init 40 = .ok (.putfield 24, 3) := by decide +kernel
theorem dX3_init_43 : decode cX3_init 43 = .ok (.aload_n 0, 1) := by decide +kernel
theorem dX3_init_44 : decode cX3_init 44 = .ok (.iconst 1, 1) := by decide +kernel
theorem dX3_init_45 : decode cX3_init 45 = .ok (.putfield 27, 3) := by decide +kernel
theorem dX3_init_48 : decode cX3_init 48 = .ok (.aload_n 0, 1) := by decide +kernel
theorem dX3_init_49 : decode cX3_init 49 = .ok (.iconst 1, 1) := by decide +kernel
theorem dX3_init_50 : decode cX3_init 50 = .ok (.putfield 31, 3) := by decide +kernel
theorem dX3_init_53 : decode cX3_init 53 = .ok (.return_, 1) := by decide +kernel
theorem wX3_init : Mw yX3_init cX3_init 1 none 0 := ⟨q_213, q_124, by decide, ⟨by decide +kernel, by decide +kernel⟩, by decide +kernel, by decide +kernel⟩
def jX3_init_40 (T : Sh) (M : Me) (x0 : Nat) (s0 : Nat) (s1 : Nat) : Option (Unit × Sh × Me) :=
  gd (kd T s1 = 2) <| lt (pR M s1 4 (some s0)) fun M10 => gd (kd T x0 = 2) <| lt (pI M10 x0 5 (1 : Int32)) fun M12 => lt (pI M12 x0 6 (1 : Int32)) fun M13 => some ((), T, M13)
theorem mjX3_init_40 {T : Sh} {M : Me} {x0 : Nat} {s0 : Nat} {s1 : Nat} {T' : Sh} {M' : Me} (h : jX3_init_40 T M x0 s0 s1 = some ((), T', M')) : leT T T' := by
  unfold jX3_init_40 at h
  replace h := gd_some h; obtain ⟨hk9, h⟩ := h
  obtain ⟨M10, eM10⟩ : ∃ y : Me, y = pR M s1 4 (some s0) := ⟨_, rfl⟩
  replace h := lt_at eM10 h
  replace h := gd_some h; obtain ⟨hk11, h⟩ := h
  obtain ⟨M12, eM12⟩ : ∃ y : Me, y = pI M10 x0 5 (1 : Int32) := ⟨_, rfl⟩
  replace h := lt_at eM12 h
  obtain ⟨M13, eM13⟩ : ∃ y : Me, y = pI M12 x0 6 (1 : Int32) := ⟨_, rfl⟩
  replace h := lt_at eM13 h
  replace h := Prod.mk.inj (Option.some.inj h); obtain ⟨-, h⟩ := h; replace h := Prod.mk.inj h; obtain ⟨rfl, rfl⟩ := h
  exact leT.rfl
set_option maxHeartbeats 4000000 in
theorem tjX3_init_40 {X : Fx} {B : Bx} {Z : Nat × Nat × Nat × Nat} {d : Nat} {T : Sh} {M : Me} {x0 : Nat} {s0 : Nat} {s1 : Nat} {T' : Sh} {M' : Me} (C : Cx X B cX3_init 1 RX3 d Z) (hR : Rx X none) (hd : 1 ≤ d) (hin : X.2.2.2.2.2.2.2.2.1.name = "<init>") (hZ : leZ T' Z) (h : jX3_init_40 T M x0 s0 s1 = some ((), T', M')) : G X B 1 Z (Qf X B Z none T' M') 40 [(0, .ref (x0))] [.ref (s0), .ref (s1)] T M := by
  unfold jX3_init_40 at h
  replace h := gd_some h; obtain ⟨hk9, h⟩ := h
  refine g_putRF (pc := 40) (x := (some s0)) (ft := .array (.int)) C hin dX3_init_40 kX3 hk9 4 (by decide) rfl rfl (Or.inr ⟨_, rfl⟩) ⟨rfl, rfl⟩ q_231 ?_
  refine g_mem (fun M10 eM10 => ?_)
  replace h := lt_at eM10 h
  refine g_aload_n (pc := 43) C dX3_init_43 rfl 0 rfl ?_
  refine g_iconst (pc := 44) (v := 1) C dX3_init_44 (by decide) ?_
  replace h := gd_some h; obtain ⟨hk11, h⟩ := h
  refine g_putI (pc := 45) C dX3_init_45 kX3 hk11 5 (by decide) rfl rfl rfl q_235 ?_
  refine g_mem (fun M12 eM12 => ?_)
  replace h := lt_at eM12 h
  refine g_aload_n (pc := 48) C dX3_init_48 rfl 0 rfl ?_
  refine g_iconst (pc := 49) (v := 1) C dX3_init_49 (by decide) ?_
  refine g_putI (pc := 50) C dX3_init_50 kX3 hk11 6 (by decide) rfl rfl rfl q_238 ?_
  refine g_mem (fun M13 eM13 => ?_)
  replace h := lt_at eM13 h
  replace h := Prod.mk.inj (Option.some.inj h); obtain ⟨-, h⟩ := h; replace h := Prod.mk.inj h; obtain ⟨rfl, rfl⟩ := h
  exact g_vret C hR dX3_init_53
def jX3_init_33 (T : Sh) (M : Me) (x0 : Nat) (s0 : Nat) (s1 : Nat) : Option (Unit × Sh × Me) :=
  gd (kd T s1 = 2) <| lt (pR M s1 3 (some s0)) fun M8 => jX3_init_40 (nT T 13 5 5) (nM T M8) x0 (tp T) x0
theorem mjX3_init_33 {T : Sh} {M : Me} {x0 : Nat} {s0 : Nat} {s1 : Nat} {T' : Sh} {M' : Me} (h : jX3_init_33 T M x0 s0 s1 = some ((), T', M')) : leT T T' := by
  unfold jX3_init_33 at h
  replace h := gd_some h; obtain ⟨hk7, h⟩ := h
  obtain ⟨M8, eM8⟩ : ∃ y : Me, y = pR M s1 3 (some s0) := ⟨_, rfl⟩
  replace h := lt_at eM8 h
  exact (leT.rfl.trans (leT.new _ _ _ _)).trans (mjX3_init_40 h)
set_option maxHeartbeats 4000000 in
theorem tjX3_init_33 {X : Fx} {B : Bx} {Z : Nat × Nat × Nat × Nat} {d : Nat} {T : Sh} {M : Me} {x0 : Nat} {s0 : Nat} {s1 : Nat} {T' : Sh} {M' : Me} (C : Cx X B cX3_init 1 RX3 d Z) (hR : Rx X none) (hd : 1 ≤ d) (hin : X.2.2.2.2.2.2.2.2.1.name = "<init>") (hZ : leZ T' Z) (h : jX3_init_33 T M x0 s0 s1 = some ((), T', M')) : G X B 1 Z (Qf X B Z none T' M') 33 [(0, .ref (x0))] [.ref (s0), .ref (s1)] T M := by
  unfold jX3_init_33 at h
  replace h := gd_some h; obtain ⟨hk7, h⟩ := h
  refine g_putRF (pc := 33) (x := (some s0)) (ft := .array (.int)) C hin dX3_init_33 kX3 hk7 3 (by decide) rfl rfl (Or.inr ⟨_, rfl⟩) ⟨rfl, rfl⟩ q_227 ?_
  refine g_mem (fun M8 eM8 => ?_)
  replace h := lt_at eM8 h
  refine g_aload_n (pc := 36) C dX3_init_36 rfl 0 rfl ?_
  refine g_iconst (pc := 37) (v := 5) C dX3_init_37 (by decide) ?_
  have hz := leZ_new ((mjX3_init_40 h).Z hZ)
  refine g_newaI (pc := 38) (N := 5) C dX3_init_38 q_179 (by decide) (by decide +kernel) (Nat.le_of_ble_eq_true rfl) hz.1 hz.2 ?_
  exact g_sub [0] rfl (tjX3_init_40 C hR hd hin hZ h)
def jX3_init_25 (T : Sh) (M : Me) (x0 : Nat) (s0 : Nat) (s1 : Nat) : Option (Unit × Sh × Me) :=
  gd (kd T s1 = 2) <| lt (pR M s1 2 (some s0)) fun M6 => jX3_init_33 (nT T 13 6 6) (nM T M6) x0 (tp T) x0
theorem mjX3_init_25 {T : Sh} {M : Me} {x0 : Nat} {s0 : Nat} {s1 : Nat} {T' : Sh} {M' : Me} (h : jX3_init_25 T M x0 s0 s1 = some ((), T', M')) : leT T T' := by
  unfold jX3_init_25 at h
  replace h := gd_some h; obtain ⟨hk5, h⟩ := h
  obtain ⟨M6, eM6⟩ : ∃ y : Me, y = pR M s1 2 (some s0) := ⟨_, rfl⟩
  replace h := lt_at eM6 h
  exact (leT.rfl.trans (leT.new _ _ _ _)).trans (mjX3_init_33 h)
set_option maxHeartbeats 4000000 in
theorem tjX3_init_25 {X : Fx} {B : Bx} {Z : Nat × Nat × Nat × Nat} {d : Nat} {T : Sh} {M : Me} {x0 : Nat} {s0 : Nat} {s1 : Nat} {T' : Sh} {M' : Me} (C : Cx X B cX3_init 1 RX3 d Z) (hR : Rx X none) (hd : 1 ≤ d) (hin : X.2.2.2.2.2.2.2.2.1.name = "<init>") (hZ : leZ T' Z) (h : jX3_init_25 T M x0 s0 s1 = some ((), T', M')) : G X B 1 Z (Qf X B Z none T' M') 25 [(0, .ref (x0))] [.ref (s0), .ref (s1)] T M := by
  unfold jX3_init_25 at h
  replace h := gd_some h; obtain ⟨hk5, h⟩ := h
  refine g_putRF (pc := 25) (x := (some s0)) (ft := .array (.int)) C hin dX3_init_25 kX3 hk5 2 (by decide) rfl rfl (Or.inr ⟨_, rfl⟩) ⟨rfl, rfl⟩ q_223 ?_
  refine g_mem (fun M6 eM6 => ?_)
  replace h := lt_at eM6 h
  refine g_aload_n (pc := 28) C dX3_init_28 rfl 0 rfl ?_
  refine g_bipush (pc := 29) (v := 6) C dX3_init_29 (by decide) ?_
  have hz := leZ_new ((mjX3_init_33 h).Z hZ)
  refine g_newaI (pc := 31) (N := 6) C dX3_init_31 q_179 (by decide) (by decide +kernel) (Nat.le_of_ble_eq_true rfl) hz.1 hz.2 ?_
  exact g_sub [0] rfl (tjX3_init_33 C hR hd hin hZ h)
def jX3_init_17 (T : Sh) (M : Me) (x0 : Nat) (s0 : Nat) (s1 : Nat) : Option (Unit × Sh × Me) :=
  gd (kd T s1 = 2) <| lt (pR M s1 1 (some s0)) fun M4 => jX3_init_25 (nT T 13 6 6) (nM T M4) x0 (tp T) x0
theorem mjX3_init_17 {T : Sh} {M : Me} {x0 : Nat} {s0 : Nat} {s1 : Nat} {T' : Sh} {M' : Me} (h : jX3_init_17 T M x0 s0 s1 = some ((), T', M')) : leT T T' := by
  unfold jX3_init_17 at h
  replace h := gd_some h; obtain ⟨hk3, h⟩ := h
  obtain ⟨M4, eM4⟩ : ∃ y : Me, y = pR M s1 1 (some s0) := ⟨_, rfl⟩
  replace h := lt_at eM4 h
  exact (leT.rfl.trans (leT.new _ _ _ _)).trans (mjX3_init_25 h)
set_option maxHeartbeats 4000000 in
theorem tjX3_init_17 {X : Fx} {B : Bx} {Z : Nat × Nat × Nat × Nat} {d : Nat} {T : Sh} {M : Me} {x0 : Nat} {s0 : Nat} {s1 : Nat} {T' : Sh} {M' : Me} (C : Cx X B cX3_init 1 RX3 d Z) (hR : Rx X none) (hd : 1 ≤ d) (hin : X.2.2.2.2.2.2.2.2.1.name = "<init>") (hZ : leZ T' Z) (h : jX3_init_17 T M x0 s0 s1 = some ((), T', M')) : G X B 1 Z (Qf X B Z none T' M') 17 [(0, .ref (x0))] [.ref (s0), .ref (s1)] T M := by
  unfold jX3_init_17 at h
  replace h := gd_some h; obtain ⟨hk3, h⟩ := h
  refine g_putRF (pc := 17) (x := (some s0)) (ft := .array (.int)) C hin dX3_init_17 kX3 hk3 1 (by decide) rfl rfl (Or.inr ⟨_, rfl⟩) ⟨rfl, rfl⟩ q_219 ?_
  refine g_mem (fun M4 eM4 => ?_)
  replace h := lt_at eM4 h
  refine g_aload_n (pc := 20) C dX3_init_20 rfl 0 rfl ?_
  refine g_bipush (pc := 21) (v := 6) C dX3_init_21 (by decide) ?_
  have hz := leZ_new ((mjX3_init_25 h).Z hZ)
  refine g_newaI (pc := 23) (N := 6) C dX3_init_23 q_179 (by decide) (by decide +kernel) (Nat.le_of_ble_eq_true rfl) hz.1 hz.2 ?_
  exact g_sub [0] rfl (tjX3_init_25 C hR hd hin hZ h)
def jX3_init_9 (T : Sh) (M : Me) (x0 : Nat) (s0 : Nat) (s1 : Nat) : Option (Unit × Sh × Me) :=
  gd (kd T s1 = 2) <| lt (pR M s1 0 (some s0)) fun M2 => jX3_init_17 (nT T 13 6 6) (nM T M2) x0 (tp T) x0
theorem mjX3_init_9 {T : Sh} {M : Me} {x0 : Nat} {s0 : Nat} {s1 : Nat} {T' : Sh} {M' : Me} (h : jX3_init_9 T M x0 s0 s1 = some ((), T', M')) : leT T T' := by
  unfold jX3_init_9 at h
  replace h := gd_some h; obtain ⟨hk1, h⟩ := h
  obtain ⟨M2, eM2⟩ : ∃ y : Me, y = pR M s1 0 (some s0) := ⟨_, rfl⟩
  replace h := lt_at eM2 h
  exact (leT.rfl.trans (leT.new _ _ _ _)).trans (mjX3_init_17 h)
set_option maxHeartbeats 4000000 in
theorem tjX3_init_9 {X : Fx} {B : Bx} {Z : Nat × Nat × Nat × Nat} {d : Nat} {T : Sh} {M : Me} {x0 : Nat} {s0 : Nat} {s1 : Nat} {T' : Sh} {M' : Me} (C : Cx X B cX3_init 1 RX3 d Z) (hR : Rx X none) (hd : 1 ≤ d) (hin : X.2.2.2.2.2.2.2.2.1.name = "<init>") (hZ : leZ T' Z) (h : jX3_init_9 T M x0 s0 s1 = some ((), T', M')) : G X B 1 Z (Qf X B Z none T' M') 9 [(0, .ref (x0))] [.ref (s0), .ref (s1)] T M := by
  unfold jX3_init_9 at h
  replace h := gd_some h; obtain ⟨hk1, h⟩ := h
  refine g_putRF (pc := 9) (x := (some s0)) (ft := .array (.int)) C hin dX3_init_9 kX3 hk1 0 (by decide) rfl rfl (Or.inr ⟨_, rfl⟩) ⟨rfl, rfl⟩ q_215 ?_
  refine g_mem (fun M2 eM2 => ?_)
  replace h := lt_at eM2 h
  refine g_aload_n (pc := 12) C dX3_init_12 rfl 0 rfl ?_
  refine g_bipush (pc := 13) (v := 6) C dX3_init_13 (by decide) ?_
  have hz := leZ_new ((mjX3_init_17 h).Z hZ)
  refine g_newaI (pc := 15) (N := 6) C dX3_init_15 q_179 (by decide) (by decide +kernel) (Nat.le_of_ble_eq_true rfl) hz.1 hz.2 ?_
  exact g_sub [0] rfl (tjX3_init_17 C hR hd hin hZ h)
/-- EyeTrainer$Lab.<init>()V -/
def fX3_init (T : Sh) (M : Me) (x0 : Nat) : Option (Unit × Sh × Me) :=
  jX3_init_9 (nT T 13 6 6) (nM T M) x0 (tp T) x0
theorem mX3_init {T : Sh} {M : Me} {x0 : Nat} {T' : Sh} {M' : Me} (h : fX3_init T M x0 = some ((), T', M')) : leT T T' := by
  unfold fX3_init at h
  exact (leT.rfl.trans (leT.new _ _ _ _)).trans (mjX3_init_9 h)
set_option maxHeartbeats 4000000 in
theorem kX3_init {l : Launch} {B : Bx} {d : Nat} (hd : 1 ≤ d) {T : Sh} {M : Me} {x0 : Nat} {T' : Sh} {M' : Me} (h : fX3_init T M x0 = some ((), T', M')) : Kt l B yX3_init cX3_init 1 none d [.ref (x0)] T M none T' M' := by
  have hmm := mX3_init h
  refine kt_of wX3_init hmm.1 hmm.2 (Nat.le_of_ble_eq_true rfl) (fun X C hR hlx hin => ?_)
  subst hlx
  replace C : Cx X B cX3_init 1 RX3 d (tp T, sl T, tp T', sl T') := C
  have hZ : leZ T' (tp T, sl T, tp T', sl T') := ⟨Nat.le_refl _, Nat.le_refl _⟩
  unfold fX3_init at h
  show G X B 1 _ _ 0 [(0, .ref (x0))] [] T M
  refine g_aload_n (pc := 0) C dX3_init_0 rfl 0 rfl ?_
  refine g_objInit (pc := 1) C dX3_init_1 (by omega) q_214 q_148 q_149 (Nat.le_of_ble_eq_true rfl) ?_
  refine g_aload_n (pc := 4) C dX3_init_4 rfl 0 rfl ?_
  refine g_bipush (pc := 5) (v := 6) C dX3_init_5 (by decide) ?_
  have hz := leZ_new ((mjX3_init_9 h).Z hZ)
  refine g_newaI (pc := 7) (N := 6) C dX3_init_7 q_179 (by decide) (by decide +kernel) (Nat.le_of_ble_eq_true rfl) hz.1 hz.2 ?_
  exact g_sub [0] rfl (tjX3_init_9 C hR hd hin hZ h)
theorem dX4_init_0 : decode cX4_init 0 = .ok (.aload_n 0, 1) := by decide +kernel
theorem dX4_init_1 : decode cX4_init 1 = .ok (.invokespecial 3, 3) := by decide +kernel
theorem dX4_init_4 : decode cX4_init 4 = .ok (.aload_n 0, 1) := by decide +kernel
theorem dX4_init_5 : decode cX4_init 5 = .ok (.aload_n 1, 1) := by decide +kernel
theorem dX4_init_6 : decode cX4_init 6 = .ok (.putfield 9, 3) := by decide +kernel
theorem dX4_init_9 : decode cX4_init 9 = .ok (.aload_n 0, 1) := by decide +kernel
theorem dX4_init_10 : decode cX4_init 10 = .ok (.iload_n 2, 1) := by decide +kernel
theorem dX4_init_11 : decode cX4_init 11 = .ok (.putfield 15, 3) := by decide +kernel
theorem dX4_init_14 : decode cX4_init 14 = .ok (.return_, 1) := by decide +kernel
theorem wX4_init : Mw yX4_init cX4_init 3 none 2 := ⟨q_740, q_137, by decide, ⟨by decide +kernel, by decide +kernel⟩, by decide +kernel, by decide +kernel⟩
/-- EyeTrainer$Law.<init>([II)V -/
def fX4_init (T : Sh) (M : Me) (x0 : Nat) (x1 : Nat) (x2 : Int32) : Option (Unit × Me) :=
  gd (kd T x0 = 3) <| lt (pR M x0 0 (some x1)) fun M2 => lt (pI M2 x0 1 x2) fun M3 => some ((), M3)
set_option maxHeartbeats 4000000 in
theorem kX4_init {l : Launch} {B : Bx} {d : Nat} (hd : 1 ≤ d) {T : Sh} {M : Me} {x0 : Nat} {x1 : Nat} {x2 : Int32} {M' : Me} (h : fX4_init T M x0 x1 x2 = some ((), M')) : Kt l B yX4_init cX4_init 3 none d [.ref (x0), .ref (x1), .int (x2)] T M none T M' := by
  refine kt_of wX4_init (Nat.le_refl _) (Nat.le_refl _) (Nat.le_of_ble_eq_true rfl) (fun X C hR hlx hin => ?_)
  subst hlx
  replace C : Cx X B cX4_init 3 RX4 d (tp T, sl T, tp T, sl T) := C
  unfold fX4_init at h
  show G X B 3 _ _ 0 [(0, .ref (x0)), (1, .ref (x1)), (2, .int (x2))] [] T M
  refine g_aload_n (pc := 0) C dX4_init_0 rfl 0 rfl ?_
  refine g_objInit (pc := 1) C dX4_init_1 (by omega) q_741 q_148 q_149 (Nat.le_of_ble_eq_true rfl) ?_
  refine g_aload_n (pc := 4) C dX4_init_4 rfl 0 rfl ?_
  refine g_aload_n (pc := 5) C dX4_init_5 rfl 1 rfl ?_
  replace h := gd_some h; obtain ⟨hk1, h⟩ := h
  refine g_putRF (pc := 6) (x := (some x1)) (ft := .array (.int)) C hin dX4_init_6 kX4 hk1 0 (by decide) rfl rfl (Or.inr ⟨_, rfl⟩) ⟨rfl, rfl⟩ q_742 ?_
  refine g_mem (fun M2 eM2 => ?_)
  replace h := lt_at eM2 h
  refine g_aload_n (pc := 9) C dX4_init_9 rfl 0 rfl ?_
  refine g_iload_n (pc := 10) C dX4_init_10 rfl 2 rfl ?_
  refine g_putIF (pc := 11) C hin dX4_init_11 kX4 hk1 1 (by decide) rfl rfl ⟨rfl, rfl⟩ q_743 ?_
  refine g_mem (fun M3 eM3 => ?_)
  replace h := lt_at eM3 h
  obtain ⟨-, rfl⟩ := Prod.mk.inj (Option.some.inj h)
  exact g_vret C hR dX4_init_14
theorem dX1_init_0 : decode cX1_init 0 = .ok (.aload_n 0, 1) := by decide +kernel
theorem dX1_init_1 : decode cX1_init 1 = .ok (.invokespecial 3, 3) := by decide +kernel
theorem dX1_init_4 : decode cX1_init 4 = .ok (.aload_n 0, 1) := by decide +kernel
theorem dX1_init_5 : decode cX1_init 5 = .ok (.iload_n 1, 1) := by decide +kernel
theorem dX1_init_6 : decode cX1_init 6 = .ok (.putfield 9, 3) := by decide +kernel
theorem dX1_init_9 : decode cX1_init 9 = .ok (.return_, 1) := by decide +kernel
theorem wX1_init : Mw yX1_init cX1_init 2 none 1 := ⟨q_988, q_141, by decide, ⟨by decide +kernel, by decide +kernel⟩, by decide +kernel, by decide +kernel⟩
/-- EyeTrainer$Draws.<init>(I)V -/
def fX1_init (T : Sh) (M : Me) (x0 : Nat) (x1 : Int32) : Option (Unit × Me) :=
  gd (kd T x0 = 0) <| lt (pI M x0 0 x1) fun M2 => some ((), M2)
set_option maxHeartbeats 4000000 in
theorem kX1_init {l : Launch} {B : Bx} {d : Nat} (hd : 1 ≤ d) {T : Sh} {M : Me} {x0 : Nat} {x1 : Int32} {M' : Me} (h : fX1_init T M x0 x1 = some ((), M')) : Kt l B yX1_init cX1_init 2 none d [.ref (x0), .int (x1)] T M none T M' := by
  refine kt_of wX1_init (Nat.le_refl _) (Nat.le_refl _) (Nat.le_of_ble_eq_true rfl) (fun X C hR hlx hin => ?_)
  subst hlx
  replace C : Cx X B cX1_init 2 RX1 d (tp T, sl T, tp T, sl T) := C
  unfold fX1_init at h
  show G X B 2 _ _ 0 [(0, .ref (x0)), (1, .int (x1))] [] T M
  refine g_aload_n (pc := 0) C dX1_init_0 rfl 0 rfl ?_
  refine g_objInit (pc := 1) C dX1_init_1 (by omega) q_989 q_148 q_149 (Nat.le_of_ble_eq_true rfl) ?_
  refine g_aload_n (pc := 4) C dX1_init_4 rfl 0 rfl ?_
  refine g_iload_n (pc := 5) C dX1_init_5 rfl 1 rfl ?_
  replace h := gd_some h; obtain ⟨hk1, h⟩ := h
  refine g_putI (pc := 6) C dX1_init_6 kX1 hk1 0 (by decide) rfl rfl rfl q_990 ?_
  refine g_mem (fun M2 eM2 => ?_)
  replace h := lt_at eM2 h
  obtain ⟨-, rfl⟩ := Prod.mk.inj (Option.some.inj h)
  exact g_vret C hR dX1_init_9
theorem dX9_init_0 : decode cX9_init 0 = .ok (.aload_n 0, 1) := by decide +kernel
theorem dX9_init_1 : decode cX9_init 1 = .ok (.invokespecial 3, 3) := by decide +kernel
theorem dX9_init_4 : decode cX9_init 4 = .ok (.aload_n 0, 1) := by decide +kernel
theorem dX9_init_5 : decode cX9_init 5 = .ok (.sipush 901, 3) := by decide +kernel
theorem dX9_init_8 : decode cX9_init 8 = .ok (.newarray .int, 2) := by decide +kernel
theorem dX9_init_10 : decode cX9_init 10 = .ok (.putfield 9, 3) := by decide +kernel
theorem dX9_init_13 : decode cX9_init 13 = .ok (.aload_n 0, 1) := by decide +kernel
theorem dX9_init_14 : decode cX9_init 14 = .ok (.sipush 901, 3) := by decide +kernel
theorem dX9_init_17 : decode cX9_init 17 = .ok (.newarray .int, 2) := by decide +kernel
theorem dX9_init_19 : decode cX9_init 19 = .ok (.putfield 15, 3) := by decide +kernel
theorem dX9_init_22 : decode cX9_init 22 = .ok (.aload_n 0, 1) := by decide +kernel
theorem dX9_init_23 : decode cX9_init 23 = .ok (.sipush 901, 3) := by decide +kernel
theorem dX9_init_26 : decode cX9_init 26 = .ok (.newarray .int, 2) := by decide +kernel
theorem dX9_init_28 : decode cX9_init 28 = .ok (.putfield 18, 3) := by decide +kernel
theorem dX9_init_31 : decode cX9_init 31 = .ok (.return_, 1) := by decide +kernel
theorem wX9_init : Mw yX9_init cX9_init 1 none 0 := ⟨q_160, q_122, by decide, ⟨by decide +kernel, by decide +kernel⟩, by decide +kernel, by decide +kernel⟩
def jX9_init_28 (T : Sh) (M : Me) (s0 : Nat) (s1 : Nat) : Option (Unit × Sh × Me) :=
  gd (kd T s1 = 8) <| lt (pR M s1 2 (some s0)) fun M6 => some ((), T, M6)
theorem mjX9_init_28 {T : Sh} {M : Me} {s0 : Nat} {s1 : Nat} {T' : Sh} {M' : Me} (h : jX9_init_28 T M s0 s1 = some ((), T', M')) : leT T T' := by
  unfold jX9_init_28 at h
  replace h := gd_some h; obtain ⟨hk5, h⟩ := h
  obtain ⟨M6, eM6⟩ : ∃ y : Me, y = pR M s1 2 (some s0) := ⟨_, rfl⟩
  replace h := lt_at eM6 h
  replace h := Prod.mk.inj (Option.some.inj h); obtain ⟨-, h⟩ := h; replace h := Prod.mk.inj h; obtain ⟨rfl, rfl⟩ := h
  exact leT.rfl
set_option maxHeartbeats 4000000 in
theorem tjX9_init_28 {X : Fx} {B : Bx} {Z : Nat × Nat × Nat × Nat} {d : Nat} {T : Sh} {M : Me} {s0 : Nat} {s1 : Nat} {T' : Sh} {M' : Me} (C : Cx X B cX9_init 1 RX9 d Z) (hR : Rx X none) (hd : 1 ≤ d) (hin : X.2.2.2.2.2.2.2.2.1.name = "<init>") (hZ : leZ T' Z) (h : jX9_init_28 T M s0 s1 = some ((), T', M')) : G X B 1 Z (Qf X B Z none T' M') 28 [] [.ref (s0), .ref (s1)] T M := by
  unfold jX9_init_28 at h
  replace h := gd_some h; obtain ⟨hk5, h⟩ := h
  refine g_putRF (pc := 28) (x := (some s0)) (ft := .array (.int)) C hin dX9_init_28 kX9 hk5 2 (by decide) rfl rfl (Or.inr ⟨_, rfl⟩) ⟨rfl, rfl⟩ q_166 ?_
  refine g_mem (fun M6 eM6 => ?_)
  replace h := lt_at eM6 h
  replace h := Prod.mk.inj (Option.some.inj h); obtain ⟨-, h⟩ := h; replace h := Prod.mk.inj h; obtain ⟨rfl, rfl⟩ := h
  exact g_vret C hR dX9_init_31
def jX9_init_19 (T : Sh) (M : Me) (x0 : Nat) (s0 : Nat) (s1 : Nat) : Option (Unit × Sh × Me) :=
  gd (kd T s1 = 8) <| lt (pR M s1 1 (some s0)) fun M4 => jX9_init_28 (nT T 13 901 901) (nM T M4) (tp T) x0
theorem mjX9_init_19 {T : Sh} {M : Me} {x0 : Nat} {s0 : Nat} {s1 : Nat} {T' : Sh} {M' : Me} (h : jX9_init_19 T M x0 s0 s1 = some ((), T', M')) : leT T T' := by
  unfold jX9_init_19 at h
  replace h := gd_some h; obtain ⟨hk3, h⟩ := h
  obtain ⟨M4, eM4⟩ : ∃ y : Me, y = pR M s1 1 (some s0) := ⟨_, rfl⟩
  replace h := lt_at eM4 h
  exact (leT.rfl.trans (leT.new _ _ _ _)).trans (mjX9_init_28 h)
set_option maxHeartbeats 4000000 in
theorem tjX9_init_19 {X : Fx} {B : Bx} {Z : Nat × Nat × Nat × Nat} {d : Nat} {T : Sh} {M : Me} {x0 : Nat} {s0 : Nat} {s1 : Nat} {T' : Sh} {M' : Me} (C : Cx X B cX9_init 1 RX9 d Z) (hR : Rx X none) (hd : 1 ≤ d) (hin : X.2.2.2.2.2.2.2.2.1.name = "<init>") (hZ : leZ T' Z) (h : jX9_init_19 T M x0 s0 s1 = some ((), T', M')) : G X B 1 Z (Qf X B Z none T' M') 19 [(0, .ref (x0))] [.ref (s0), .ref (s1)] T M := by
  unfold jX9_init_19 at h
  replace h := gd_some h; obtain ⟨hk3, h⟩ := h
  refine g_putRF (pc := 19) (x := (some s0)) (ft := .array (.int)) C hin dX9_init_19 kX9 hk3 1 (by decide) rfl rfl (Or.inr ⟨_, rfl⟩) ⟨rfl, rfl⟩ q_164 ?_
  refine g_mem (fun M4 eM4 => ?_)
  replace h := lt_at eM4 h
  refine g_aload_n (pc := 22) C dX9_init_22 rfl 0 rfl ?_
  refine g_sipush (pc := 23) (v := 901) C dX9_init_23 (by decide) ?_
  have hz := leZ_new ((mjX9_init_28 h).Z hZ)
  refine g_newaI (pc := 26) (N := 901) C dX9_init_26 q_179 (by decide) (by decide +kernel) (Nat.le_of_ble_eq_true rfl) hz.1 hz.2 ?_
  exact g_sub [] rfl (tjX9_init_28 C hR hd hin hZ h)
def jX9_init_10 (T : Sh) (M : Me) (x0 : Nat) (s0 : Nat) (s1 : Nat) : Option (Unit × Sh × Me) :=
  gd (kd T s1 = 8) <| lt (pR M s1 0 (some s0)) fun M2 => jX9_init_19 (nT T 13 901 901) (nM T M2) x0 (tp T) x0
theorem mjX9_init_10 {T : Sh} {M : Me} {x0 : Nat} {s0 : Nat} {s1 : Nat} {T' : Sh} {M' : Me} (h : jX9_init_10 T M x0 s0 s1 = some ((), T', M')) : leT T T' := by
  unfold jX9_init_10 at h
  replace h := gd_some h; obtain ⟨hk1, h⟩ := h
  obtain ⟨M2, eM2⟩ : ∃ y : Me, y = pR M s1 0 (some s0) := ⟨_, rfl⟩
  replace h := lt_at eM2 h
  exact (leT.rfl.trans (leT.new _ _ _ _)).trans (mjX9_init_19 h)
set_option maxHeartbeats 4000000 in
theorem tjX9_init_10 {X : Fx} {B : Bx} {Z : Nat × Nat × Nat × Nat} {d : Nat} {T : Sh} {M : Me} {x0 : Nat} {s0 : Nat} {s1 : Nat} {T' : Sh} {M' : Me} (C : Cx X B cX9_init 1 RX9 d Z) (hR : Rx X none) (hd : 1 ≤ d) (hin : X.2.2.2.2.2.2.2.2.1.name = "<init>") (hZ : leZ T' Z) (h : jX9_init_10 T M x0 s0 s1 = some ((), T', M')) : G X B 1 Z (Qf X B Z none T' M') 10 [(0, .ref (x0))] [.ref (s0), .ref (s1)] T M := by
  unfold jX9_init_10 at h
  replace h := gd_some h; obtain ⟨hk1, h⟩ := h
  refine g_putRF (pc := 10) (x := (some s0)) (ft := .array (.int)) C hin dX9_init_10 kX9 hk1 0 (by decide) rfl rfl (Or.inr ⟨_, rfl⟩) ⟨rfl, rfl⟩ q_162 ?_
  refine g_mem (fun M2 eM2 => ?_)
  replace h := lt_at eM2 h
  refine g_aload_n (pc := 13) C dX9_init_13 rfl 0 rfl ?_
  refine g_sipush (pc := 14) (v := 901) C dX9_init_14 (by decide) ?_
  have hz := leZ_new ((mjX9_init_19 h).Z hZ)
  refine g_newaI (pc := 17) (N := 901) C dX9_init_17 q_179 (by decide) (by decide +kernel) (Nat.le_of_ble_eq_true rfl) hz.1 hz.2 ?_
  exact g_sub [0] rfl (tjX9_init_19 C hR hd hin hZ h)
/-- EyeTrainer$Tokens.<init>()V -/
def fX9_init (T : Sh) (M : Me) (x0 : Nat) : Option (Unit × Sh × Me) :=
  jX9_init_10 (nT T 13 901 901) (nM T M) x0 (tp T) x0
theorem mX9_init {T : Sh} {M : Me} {x0 : Nat} {T' : Sh} {M' : Me} (h : fX9_init T M x0 = some ((), T', M')) : leT T T' := by
  unfold fX9_init at h
  exact (leT.rfl.trans (leT.new _ _ _ _)).trans (mjX9_init_10 h)
set_option maxHeartbeats 4000000 in
theorem kX9_init {l : Launch} {B : Bx} {d : Nat} (hd : 1 ≤ d) {T : Sh} {M : Me} {x0 : Nat} {T' : Sh} {M' : Me} (h : fX9_init T M x0 = some ((), T', M')) : Kt l B yX9_init cX9_init 1 none d [.ref (x0)] T M none T' M' := by
  have hmm := mX9_init h
  refine kt_of wX9_init hmm.1 hmm.2 (Nat.le_of_ble_eq_true rfl) (fun X C hR hlx hin => ?_)
  subst hlx
  replace C : Cx X B cX9_init 1 RX9 d (tp T, sl T, tp T', sl T') := C
  have hZ : leZ T' (tp T, sl T, tp T', sl T') := ⟨Nat.le_refl _, Nat.le_refl _⟩
  unfold fX9_init at h
  show G X B 1 _ _ 0 [(0, .ref (x0))] [] T M
  refine g_aload_n (pc := 0) C dX9_init_0 rfl 0 rfl ?_
  refine g_objInit (pc := 1) C dX9_init_1 (by omega) q_161 q_148 q_149 (Nat.le_of_ble_eq_true rfl) ?_
  refine g_aload_n (pc := 4) C dX9_init_4 rfl 0 rfl ?_
  refine g_sipush (pc := 5) (v := 901) C dX9_init_5 (by decide) ?_
  have hz := leZ_new ((mjX9_init_10 h).Z hZ)
  refine g_newaI (pc := 8) (N := 901) C dX9_init_8 q_179 (by decide) (by decide +kernel) (Nat.le_of_ble_eq_true rfl) hz.1 hz.2 ?_
  exact g_sub [0] rfl (tjX9_init_10 C hR hd hin hZ h)
theorem dX6_init_0 : decode cX6_init 0 = .ok (.aload_n 0, 1) := by decide +kernel
theorem dX6_init_1 : decode cX6_init 1 = .ok (.invokespecial 3, 3) := by decide +kernel
theorem dX6_init_4 : decode cX6_init 4 = .ok (.aload_n 0, 1) := by decide +kernel
theorem dX6_init_5 : decode cX6_init 5 = .ok (.new 9, 3) := by decide +kernel
theorem dX6_init_8 : decode cX6_init 8 = .ok (.dup, 1) := by decide +kernel
theorem dX6_init_9 : decode cX6_init 9 = .ok (.invokespecial 11, 3) := by decide +kernel
theorem dX6_init_12 : decode cX6_init 12 = .ok (.putfield 12, 3) := by decide +kernel
theorem dX6_init_15 : decode cX6_init 15 = .ok (.aload_n 0, 1) := by decide +kernel
theorem dX6_init_16 : decode cX6_init 16 = .ok (.iconst (-1), 1) := by decide +kernel
theorem dX6_init_17 : decode cX6_init 17 = .ok (.putfield 18, 3) := by decide +kernel
theorem dX6_init_20 : decode cX6_init 20 = .ok (.aload_n 0, 1) := by decide +kernel
theorem dX6_init_21 : decode cX6_init 21 = .ok (.sipush 900, 3) := by decide +kernel
theorem dX6_init_24 : decode cX6_init 24 = .ok (.newarray .int, 2) := by decide +kernel
theorem dX6_init_26 : decode cX6_init 26 = .ok (.putfield 22, 3) := by decide +kernel
theorem dX6_init_29 : decode cX6_init 29 = .ok (.return_, 1) := by decide +kernel
theorem wX6_init : Mw yX6_init cX6_init 1 none 0 := ⟨q_154, q_121, by decide, ⟨by decide +kernel, by decide +kernel⟩, by decide +kernel, by decide +kernel⟩
def jX6_init_26 (T : Sh) (M : Me) (s0 : Nat) (s1 : Nat) : Option (Unit × Sh × Me) :=
  gd (kd T s1 = 5) <| lt (pR M s1 4 (some s0)) fun M8 => some ((), T, M8)
theorem mjX6_init_26 {T : Sh} {M : Me} {s0 : Nat} {s1 : Nat} {T' : Sh} {M' : Me} (h : jX6_init_26 T M s0 s1 = some ((), T', M')) : leT T T' := by
  unfold jX6_init_26 at h
  replace h := gd_some h; obtain ⟨hk7, h⟩ := h
  obtain ⟨M8, eM8⟩ : ∃ y : Me, y = pR M s1 4 (some s0) := ⟨_, rfl⟩
  replace h := lt_at eM8 h
  replace h := Prod.mk.inj (Option.some.inj h); obtain ⟨-, h⟩ := h; replace h := Prod.mk.inj h; obtain ⟨rfl, rfl⟩ := h
  exact leT.rfl
set_option maxHeartbeats 4000000 in
theorem tjX6_init_26 {X : Fx} {B : Bx} {Z : Nat × Nat × Nat × Nat} {d : Nat} {T : Sh} {M : Me} {s0 : Nat} {s1 : Nat} {T' : Sh} {M' : Me} (C : Cx X B cX6_init 1 RX6 d Z) (hR : Rx X none) (hd : 2 ≤ d) (hin : X.2.2.2.2.2.2.2.2.1.name = "<init>") (hZ : leZ T' Z) (h : jX6_init_26 T M s0 s1 = some ((), T', M')) : G X B 1 Z (Qf X B Z none T' M') 26 [] [.ref (s0), .ref (s1)] T M := by
  unfold jX6_init_26 at h
  replace h := gd_some h; obtain ⟨hk7, h⟩ := h
  refine g_putRF (pc := 26) (x := (some s0)) (ft := .array (.int)) C hin dX6_init_26 kX6 hk7 4 (by decide) rfl rfl (Or.inr ⟨_, rfl⟩) ⟨rfl, rfl⟩ q_186 ?_
  refine g_mem (fun M8 eM8 => ?_)
  replace h := lt_at eM8 h
  replace h := Prod.mk.inj (Option.some.inj h); obtain ⟨-, h⟩ := h; replace h := Prod.mk.inj h; obtain ⟨rfl, rfl⟩ := h
  exact g_vret C hR dX6_init_29
def jX6_init_12 (T : Sh) (M : Me) (x0 : Nat) (s0 : Nat) (s1 : Nat) : Option (Unit × Sh × Me) :=
  gd (kd T s1 = 5) <| lt (pR M s1 0 (some s0)) fun M4 => gd (kd T x0 = 5) <| lt (pI M4 x0 3 (-1 : Int32)) fun M6 => jX6_init_26 (nT T 13 900 900) (nM T M6) (tp T) x0
theorem mjX6_init_12 {T : Sh} {M : Me} {x0 : Nat} {s0 : Nat} {s1 : Nat} {T' : Sh} {M' : Me} (h : jX6_init_12 T M x0 s0 s1 = some ((), T', M')) : leT T T' := by
  unfold jX6_init_12 at h
  replace h := gd_some h; obtain ⟨hk3, h⟩ := h
  obtain ⟨M4, eM4⟩ : ∃ y : Me, y = pR M s1 0 (some s0) := ⟨_, rfl⟩
  replace h := lt_at eM4 h
  replace h := gd_some h; obtain ⟨hk5, h⟩ := h
  obtain ⟨M6, eM6⟩ : ∃ y : Me, y = pI M4 x0 3 (-1 : Int32) := ⟨_, rfl⟩
  replace h := lt_at eM6 h
  exact (leT.rfl.trans (leT.new _ _ _ _)).trans (mjX6_init_26 h)
set_option maxHeartbeats 4000000 in
theorem tjX6_init_12 {X : Fx} {B : Bx} {Z : Nat × Nat × Nat × Nat} {d : Nat} {T : Sh} {M : Me} {x0 : Nat} {s0 : Nat} {s1 : Nat} {T' : Sh} {M' : Me} (C : Cx X B cX6_init 1 RX6 d Z) (hR : Rx X none) (hd : 2 ≤ d) (hin : X.2.2.2.2.2.2.2.2.1.name = "<init>") (hZ : leZ T' Z) (h : jX6_init_12 T M x0 s0 s1 = some ((), T', M')) : G X B 1 Z (Qf X B Z none T' M') 12 [(0, .ref (x0))] [.ref (s0), .ref (s1)] T M := by
  unfold jX6_init_12 at h
  replace h := gd_some h; obtain ⟨hk3, h⟩ := h
  refine g_putRF (pc := 12) (x := (some s0)) (ft := .object "EyeTrainer$Tokens") C hin dX6_init_12 kX6 hk3 0 (by decide) rfl rfl (Or.inl ⟨_, rfl⟩) ⟨rfl, rfl⟩ q_180 ?_
  refine g_mem (fun M4 eM4 => ?_)
  replace h := lt_at eM4 h
  refine g_aload_n (pc := 15) C dX6_init_15 rfl 0 rfl ?_
  refine g_iconst (pc := 16) (v := (-1)) C dX6_init_16 (by decide) ?_
  replace h := gd_some h; obtain ⟨hk5, h⟩ := h
  refine g_putI (pc := 17) C dX6_init_17 kX6 hk5 3 (by decide) rfl rfl rfl q_184 ?_
  refine g_mem (fun M6 eM6 => ?_)
  replace h := lt_at eM6 h
  refine g_aload_n (pc := 20) C dX6_init_20 rfl 0 rfl ?_
  refine g_sipush (pc := 21) (v := 900) C dX6_init_21 (by decide) ?_
  have hz := leZ_new ((mjX6_init_26 h).Z hZ)
  refine g_newaI (pc := 24) (N := 900) C dX6_init_24 q_179 (by decide) (by decide +kernel) (Nat.le_of_ble_eq_true rfl) hz.1 hz.2 ?_
  exact g_sub [] rfl (tjX6_init_26 C hR hd hin hZ h)
def jX6_init_8 (T : Sh) (M : Me) (x0 : Nat) (s0 : Nat) (s1 : Nat) : Option (Unit × Sh × Me) :=
  Option.bind (fX9_init T M s0) <| un3 fun _u T2 M1 => jX6_init_12 T2 M1 x0 s0 s1
theorem mjX6_init_8 {T : Sh} {M : Me} {x0 : Nat} {s0 : Nat} {s1 : Nat} {T' : Sh} {M' : Me} (h : jX6_init_8 T M x0 s0 s1 = some ((), T', M')) : leT T T' := by
  unfold jX6_init_8 at h
  replace h := bnd3 h; obtain ⟨_u, T2, M1, h1, h⟩ := h
  have hmT2 := mX9_init h1
  exact (leT.rfl.trans hmT2).trans (mjX6_init_12 h)
set_option maxHeartbeats 4000000 in
theorem tjX6_init_8 {X : Fx} {B : Bx} {Z : Nat × Nat × Nat × Nat} {d : Nat} {T : Sh} {M : Me} {x0 : Nat} {s0 : Nat} {s1 : Nat} {T' : Sh} {M' : Me} (C : Cx X B cX6_init 1 RX6 d Z) (hR : Rx X none) (hd : 2 ≤ d) (hin : X.2.2.2.2.2.2.2.2.1.name = "<init>") (hZ : leZ T' Z) (h : jX6_init_8 T M x0 s0 s1 = some ((), T', M')) : G X B 1 Z (Qf X B Z none T' M') 8 [(0, .ref (x0))] [.ref (s0), .ref (s1)] T M := by
  unfold jX6_init_8 at h
  refine g_dup (pc := 8) C dX6_init_8 rfl ?_
  replace h := bnd3 h; obtain ⟨_u, T2, M1, h1, h⟩ := h
  have hzT2 := (mjX6_init_12 h).Z hZ
  refine g_callIvA (pc := 9) (As := []) (st := [.ref (s0), .ref (s1)]) C dX6_init_9 wX9_init q_159 rfl rfl q_158 (by omega) rfl (Nat.le_of_ble_eq_true rfl) (kX9_init (d := 1) (Nat.le_refl _) h1) hzT2 ?_
  exact g_sub [0] rfl (tjX6_init_12 C hR hd hin hZ h)
/-- EyeTrainer$Reader.<init>()V -/
def fX6_init (T : Sh) (M : Me) (x0 : Nat) : Option (Unit × Sh × Me) :=
  jX6_init_8 (nT T 8 0 4) (nM T M) x0 (tp T) x0
theorem mX6_init {T : Sh} {M : Me} {x0 : Nat} {T' : Sh} {M' : Me} (h : fX6_init T M x0 = some ((), T', M')) : leT T T' := by
  unfold fX6_init at h
  exact (leT.rfl.trans (leT.new _ _ _ _)).trans (mjX6_init_8 h)
set_option maxHeartbeats 4000000 in
theorem kX6_init {l : Launch} {B : Bx} {d : Nat} (hd : 2 ≤ d) {T : Sh} {M : Me} {x0 : Nat} {T' : Sh} {M' : Me} (h : fX6_init T M x0 = some ((), T', M')) : Kt l B yX6_init cX6_init 1 none d [.ref (x0)] T M none T' M' := by
  have hmm := mX6_init h
  refine kt_of wX6_init hmm.1 hmm.2 (Nat.le_of_ble_eq_true rfl) (fun X C hR hlx hin => ?_)
  subst hlx
  replace C : Cx X B cX6_init 1 RX6 d (tp T, sl T, tp T', sl T') := C
  have hZ : leZ T' (tp T, sl T, tp T', sl T') := ⟨Nat.le_refl _, Nat.le_refl _⟩
  unfold fX6_init at h
  show G X B 1 _ _ 0 [(0, .ref (x0))] [] T M
  refine g_aload_n (pc := 0) C dX6_init_0 rfl 0 rfl ?_
  refine g_objInit (pc := 1) C dX6_init_1 (by omega) q_155 q_148 q_149 (Nat.le_of_ble_eq_true rfl) ?_
  refine g_aload_n (pc := 4) C dX6_init_4 rfl 0 rfl ?_
  have hz := leZ_new ((mjX6_init_8 h).Z hZ)
  refine g_new (pc := 5) C dX6_init_5 kX9 hdvX9 q_156 q_157 q_122 hz.1 hz.2 ?_
  exact g_sub [0] rfl (tjX6_init_8 C hR hd hin hZ h)
theorem dX7_init_0 : decode cX7_init 0 = .ok (.aload_n 0, 1) := by decide +kernel
theorem dX7_init_1 : decode cX7_init 1 = .ok (.invokespecial 5, 3) := by decide +kernel
theorem dX7_init_4 : decode cX7_init 4 = .ok (.aload_n 0, 1) := by decide +kernel
theorem dX7_init_5 : decode cX7_init 5 = .ok (.bipush 16, 2) := by decide +kernel
theorem dX7_init_7 : decode cX7_init 7 = .ok (.newarray .int, 2) := by decide +kernel
theorem dX7_init_9 : decode cX7_init 9 = .ok (.putfield 11, 3) := by decide +kernel
theorem dX7_init_12 : decode cX7_init 12 = .ok (.aload_n 0, 1) := by decide +kernel
theorem dX7_init_13 : decode cX7_init 13 = .ok (.sipush 384, 3) := by decide +kernel
theorem dX7_init_16 : decode cX7_init 16 = .ok (.newarray .int, 2) := by decide +kernel
theorem dX7_init_18 : decode cX7_init 18 = .ok (.putfield 15, 3) := by decide +kernel
theorem dX7_init_21 : decode cX7_init 21 = .ok (.aload_n 0, 1) := by decide +kernel
theorem dX7_init_22 : decode cX7_init 22 = .ok (.bipush 16, 2) := by decide +kernel
theorem dX7_init_24 : decode cX7_init 24 = .ok (.newarray .int, 2) := by decide +kernel
theorem dX7_init_26 : decode cX7_init 26 = .ok (.putfield 18, 3) := by decide +kernel
theorem dX7_init_29 : decode cX7_init 29 = .ok (.aload_n 0, 1) := by decide +kernel
theorem dX7_init_30 : decode cX7_init 30 = .ok (.sipush 468, 3) := by decide +kernel
theorem dX7_init_33 : decode cX7_init 33 = .ok (.newarray .long, 2) := by decide +kernel
theorem dX7_init_35 : decode cX7_init 35 = .ok (.putfield 21, 3) := by decide +kernel
theorem dX7_init_38 : decode cX7_init 38 = .ok (.aload_n 0, 1) := by decide +kernel
theorem dX7_init_39 : decode cX7_init 39 = .ok (.sipush 468, 3) := by decide +kernel
theorem dX7_init_42 : decode cX7_init 42 = .ok (.newarray .long, 2) := by decide +kernel
theorem dX7_init_44 : decode cX7_init 44 = .ok (.putfield 25, 3) := by decide +kernel
theorem dX7_init_47 : decode cX7_init 47 = .ok (.return_, 1) := by decide +kernel
theorem wX7_init : Mw yX7_init cX7_init 1 none 0 := ⟨q_312, q_126, by decide, ⟨by decide +kernel, by decide +kernel⟩, by decide +kernel, by decide +kernel⟩
def jX7_init_44 (T : Sh) (M : Me) (s0 : Nat) (s1 : Nat) : Option (Unit × Sh × Me) :=
  gd (kd T s1 = 6) <| lt (pR M s1 4 (some s0)) fun M10 => some ((), T, M10)
theorem mjX7_init_44 {T : Sh} {M : Me} {s0 : Nat} {s1 : Nat} {T' : Sh} {M' : Me} (h : jX7_init_44 T M s0 s1 = some ((), T', M')) : leT T T' := by
  unfold jX7_init_44 at h
  replace h := gd_some h; obtain ⟨hk9, h⟩ := h
  obtain ⟨M10, eM10⟩ : ∃ y : Me, y = pR M s1 4 (some s0) := ⟨_, rfl⟩
  replace h := lt_at eM10 h
  replace h := Prod.mk.inj (Option.some.inj h); obtain ⟨-, h⟩ := h; replace h := Prod.mk.inj h; obtain ⟨rfl, rfl⟩ := h
  exact leT.rfl
set_option maxHeartbeats 4000000 in
theorem tjX7_init_44 {X : Fx} {B : Bx} {Z : Nat × Nat × Nat × Nat} {d : Nat} {T : Sh} {M : Me} {s0 : Nat} {s1 : Nat} {T' : Sh} {M' : Me} (C : Cx X B cX7_init 1 RX7 d Z) (hR : Rx X none) (hd : 1 ≤ d) (hin : X.2.2.2.2.2.2.2.2.1.name = "<init>") (hZ : leZ T' Z) (h : jX7_init_44 T M s0 s1 = some ((), T', M')) : G X B 1 Z (Qf X B Z none T' M') 44 [] [.ref (s0), .ref (s1)] T M := by
  unfold jX7_init_44 at h
  replace h := gd_some h; obtain ⟨hk9, h⟩ := h
  refine g_putR (pc := 44) (x := (some s0)) (ft := .array (.long)) C dX7_init_44 kX7 hk9 4 (by decide) rfl rfl rfl (Or.inr ⟨_, rfl⟩) q_320 ?_
  refine g_mem (fun M10 eM10 => ?_)
  replace h := lt_at eM10 h
  replace h := Prod.mk.inj (Option.some.inj h); obtain ⟨-, h⟩ := h; replace h := Prod.mk.inj h; obtain ⟨rfl, rfl⟩ := h
  exact g_vret C hR dX7_init_47
def jX7_init_35 (T : Sh) (M : Me) (x0 : Nat) (s0 : Nat) (s1 : Nat) : Option (Unit × Sh × Me) :=
  gd (kd T s1 = 6) <| lt (pR M s1 3 (some s0)) fun M8 => jX7_init_44 (nT T 14 468 468) (nM T M8) (tp T) x0
theorem mjX7_init_35 {T : Sh} {M : Me} {x0 : Nat} {s0 : Nat} {s1 : Nat} {T' : Sh} {M' : Me} (h : jX7_init_35 T M x0 s0 s1 = some ((), T', M')) : leT T T' := by
  unfold jX7_init_35 at h
  replace h := gd_some h; obtain ⟨hk7, h⟩ := h
  obtain ⟨M8, eM8⟩ : ∃ y : Me, y = pR M s1 3 (some s0) := ⟨_, rfl⟩
  replace h := lt_at eM8 h
  exact (leT.rfl.trans (leT.new _ _ _ _)).trans (mjX7_init_44 h)
set_option maxHeartbeats 4000000 in
theorem tjX7_init_35 {X : Fx} {B : Bx} {Z : Nat × Nat × Nat × Nat} {d : Nat} {T : Sh} {M : Me} {x0 : Nat} {s0 : Nat} {s1 : Nat} {T' : Sh} {M' : Me} (C : Cx X B cX7_init 1 RX7 d Z) (hR : Rx X none) (hd : 1 ≤ d) (hin : X.2.2.2.2.2.2.2.2.1.name = "<init>") (hZ : leZ T' Z) (h : jX7_init_35 T M x0 s0 s1 = some ((), T', M')) : G X B 1 Z (Qf X B Z none T' M') 35 [(0, .ref (x0))] [.ref (s0), .ref (s1)] T M := by
  unfold jX7_init_35 at h
  replace h := gd_some h; obtain ⟨hk7, h⟩ := h
  refine g_putR (pc := 35) (x := (some s0)) (ft := .array (.long)) C dX7_init_35 kX7 hk7 3 (by decide) rfl rfl rfl (Or.inr ⟨_, rfl⟩) q_319 ?_
  refine g_mem (fun M8 eM8 => ?_)
  replace h := lt_at eM8 h
  refine g_aload_n (pc := 38) C dX7_init_38 rfl 0 rfl ?_
  refine g_sipush (pc := 39) (v := 468) C dX7_init_39 (by decide) ?_
  have hz := leZ_new ((mjX7_init_44 h).Z hZ)
  refine g_newaJ (pc := 42) (N := 468) C dX7_init_42 q_307 (by decide) (by decide +kernel) (Nat.le_of_ble_eq_true rfl) hz.1 hz.2 ?_
  exact g_sub [] rfl (tjX7_init_44 C hR hd hin hZ h)
def jX7_init_26 (T : Sh) (M : Me) (x0 : Nat) (s0 : Nat) (s1 : Nat) : Option (Unit × Sh × Me) :=
  gd (kd T s1 = 6) <| lt (pR M s1 2 (some s0)) fun M6 => jX7_init_35 (nT T 14 468 468) (nM T M6) x0 (tp T) x0
theorem mjX7_init_26 {T : Sh} {M : Me} {x0 : Nat} {s0 : Nat} {s1 : Nat} {T' : Sh} {M' : Me} (h : jX7_init_26 T M x0 s0 s1 = some ((), T', M')) : leT T T' := by
  unfold jX7_init_26 at h
  replace h := gd_some h; obtain ⟨hk5, h⟩ := h
  obtain ⟨M6, eM6⟩ : ∃ y : Me, y = pR M s1 2 (some s0) := ⟨_, rfl⟩
  replace h := lt_at eM6 h
  exact (leT.rfl.trans (leT.new _ _ _ _)).trans (mjX7_init_35 h)
set_option maxHeartbeats 4000000 in
theorem tjX7_init_26 {X : Fx} {B : Bx} {Z : Nat × Nat × Nat × Nat} {d : Nat} {T : Sh} {M : Me} {x0 : Nat} {s0 : Nat} {s1 : Nat} {T' : Sh} {M' : Me} (C : Cx X B cX7_init 1 RX7 d Z) (hR : Rx X none) (hd : 1 ≤ d) (hin : X.2.2.2.2.2.2.2.2.1.name = "<init>") (hZ : leZ T' Z) (h : jX7_init_26 T M x0 s0 s1 = some ((), T', M')) : G X B 1 Z (Qf X B Z none T' M') 26 [(0, .ref (x0))] [.ref (s0), .ref (s1)] T M := by
  unfold jX7_init_26 at h
  replace h := gd_some h; obtain ⟨hk5, h⟩ := h
  refine g_putRF (pc := 26) (x := (some s0)) (ft := .array (.int)) C hin dX7_init_26 kX7 hk5 2 (by decide) rfl rfl (Or.inr ⟨_, rfl⟩) ⟨rfl, rfl⟩ q_318 ?_
  refine g_mem (fun M6 eM6 => ?_)
  replace h := lt_at eM6 h
  refine g_aload_n (pc := 29) C dX7_init_29 rfl 0 rfl ?_
  refine g_sipush (pc := 30) (v := 468) C dX7_init_30 (by decide) ?_
  have hz := leZ_new ((mjX7_init_35 h).Z hZ)
  refine g_newaJ (pc := 33) (N := 468) C dX7_init_33 q_307 (by decide) (by decide +kernel) (Nat.le_of_ble_eq_true rfl) hz.1 hz.2 ?_
  exact g_sub [0] rfl (tjX7_init_35 C hR hd hin hZ h)
def jX7_init_18 (T : Sh) (M : Me) (x0 : Nat) (s0 : Nat) (s1 : Nat) : Option (Unit × Sh × Me) :=
  gd (kd T s1 = 6) <| lt (pR M s1 1 (some s0)) fun M4 => jX7_init_26 (nT T 13 16 16) (nM T M4) x0 (tp T) x0
theorem mjX7_init_18 {T : Sh} {M : Me} {x0 : Nat} {s0 : Nat} {s1 : Nat} {T' : Sh} {M' : Me} (h : jX7_init_18 T M x0 s0 s1 = some ((), T', M')) : leT T T' := by
  unfold jX7_init_18 at h
  replace h := gd_some h; obtain ⟨hk3, h⟩ := h
  obtain ⟨M4, eM4⟩ : ∃ y : Me, y = pR M s1 1 (some s0) := ⟨_, rfl⟩
  replace h := lt_at eM4 h
  exact (leT.rfl.trans (leT.new _ _ _ _)).trans (mjX7_init_26 h)
set_option maxHeartbeats 4000000 in
theorem tjX7_init_18 {X : Fx} {B : Bx} {Z : Nat × Nat × Nat × Nat} {d : Nat} {T : Sh} {M : Me} {x0 : Nat} {s0 : Nat} {s1 : Nat} {T' : Sh} {M' : Me} (C : Cx X B cX7_init 1 RX7 d Z) (hR : Rx X none) (hd : 1 ≤ d) (hin : X.2.2.2.2.2.2.2.2.1.name = "<init>") (hZ : leZ T' Z) (h : jX7_init_18 T M x0 s0 s1 = some ((), T', M')) : G X B 1 Z (Qf X B Z none T' M') 18 [(0, .ref (x0))] [.ref (s0), .ref (s1)] T M := by
  unfold jX7_init_18 at h
  replace h := gd_some h; obtain ⟨hk3, h⟩ := h
  refine g_putRF (pc := 18) (x := (some s0)) (ft := .array (.int)) C hin dX7_init_18 kX7 hk3 1 (by decide) rfl rfl (Or.inr ⟨_, rfl⟩) ⟨rfl, rfl⟩ q_316 ?_
  refine g_mem (fun M4 eM4 => ?_)
  replace h := lt_at eM4 h
  refine g_aload_n (pc := 21) C dX7_init_21 rfl 0 rfl ?_
  refine g_bipush (pc := 22) (v := 16) C dX7_init_22 (by decide) ?_
  have hz := leZ_new ((mjX7_init_26 h).Z hZ)
  refine g_newaI (pc := 24) (N := 16) C dX7_init_24 q_179 (by decide) (by decide +kernel) (Nat.le_of_ble_eq_true rfl) hz.1 hz.2 ?_
  exact g_sub [0] rfl (tjX7_init_26 C hR hd hin hZ h)
def jX7_init_9 (T : Sh) (M : Me) (x0 : Nat) (s0 : Nat) (s1 : Nat) : Option (Unit × Sh × Me) :=
  gd (kd T s1 = 6) <| lt (pR M s1 0 (some s0)) fun M2 => jX7_init_18 (nT T 13 384 384) (nM T M2) x0 (tp T) x0
theorem mjX7_init_9 {T : Sh} {M : Me} {x0 : Nat} {s0 : Nat} {s1 : Nat} {T' : Sh} {M' : Me} (h : jX7_init_9 T M x0 s0 s1 = some ((), T', M')) : leT T T' := by
  unfold jX7_init_9 at h
  replace h := gd_some h; obtain ⟨hk1, h⟩ := h
  obtain ⟨M2, eM2⟩ : ∃ y : Me, y = pR M s1 0 (some s0) := ⟨_, rfl⟩
  replace h := lt_at eM2 h
  exact (leT.rfl.trans (leT.new _ _ _ _)).trans (mjX7_init_18 h)
set_option maxHeartbeats 4000000 in
theorem tjX7_init_9 {X : Fx} {B : Bx} {Z : Nat × Nat × Nat × Nat} {d : Nat} {T : Sh} {M : Me} {x0 : Nat} {s0 : Nat} {s1 : Nat} {T' : Sh} {M' : Me} (C : Cx X B cX7_init 1 RX7 d Z) (hR : Rx X none) (hd : 1 ≤ d) (hin : X.2.2.2.2.2.2.2.2.1.name = "<init>") (hZ : leZ T' Z) (h : jX7_init_9 T M x0 s0 s1 = some ((), T', M')) : G X B 1 Z (Qf X B Z none T' M') 9 [(0, .ref (x0))] [.ref (s0), .ref (s1)] T M := by
  unfold jX7_init_9 at h
  replace h := gd_some h; obtain ⟨hk1, h⟩ := h
  refine g_putRF (pc := 9) (x := (some s0)) (ft := .array (.int)) C hin dX7_init_9 kX7 hk1 0 (by decide) rfl rfl (Or.inr ⟨_, rfl⟩) ⟨rfl, rfl⟩ q_314 ?_
  refine g_mem (fun M2 eM2 => ?_)
  replace h := lt_at eM2 h
  refine g_aload_n (pc := 12) C dX7_init_12 rfl 0 rfl ?_
  refine g_sipush (pc := 13) (v := 384) C dX7_init_13 (by decide) ?_
  have hz := leZ_new ((mjX7_init_18 h).Z hZ)
  refine g_newaI (pc := 16) (N := 384) C dX7_init_16 q_179 (by decide) (by decide +kernel) (Nat.le_of_ble_eq_true rfl) hz.1 hz.2 ?_
  exact g_sub [0] rfl (tjX7_init_18 C hR hd hin hZ h)
/-- EyeTrainer$Shapes.<init>()V -/
def fX7_init (T : Sh) (M : Me) (x0 : Nat) : Option (Unit × Sh × Me) :=
  jX7_init_9 (nT T 13 16 16) (nM T M) x0 (tp T) x0
theorem mX7_init {T : Sh} {M : Me} {x0 : Nat} {T' : Sh} {M' : Me} (h : fX7_init T M x0 = some ((), T', M')) : leT T T' := by
  unfold fX7_init at h
  exact (leT.rfl.trans (leT.new _ _ _ _)).trans (mjX7_init_9 h)
set_option maxHeartbeats 4000000 in
theorem kX7_init {l : Launch} {B : Bx} {d : Nat} (hd : 1 ≤ d) {T : Sh} {M : Me} {x0 : Nat} {T' : Sh} {M' : Me} (h : fX7_init T M x0 = some ((), T', M')) : Kt l B yX7_init cX7_init 1 none d [.ref (x0)] T M none T' M' := by
  have hmm := mX7_init h
  refine kt_of wX7_init hmm.1 hmm.2 (Nat.le_of_ble_eq_true rfl) (fun X C hR hlx hin => ?_)
  subst hlx
  replace C : Cx X B cX7_init 1 RX7 d (tp T, sl T, tp T', sl T') := C
  have hZ : leZ T' (tp T, sl T, tp T', sl T') := ⟨Nat.le_refl _, Nat.le_refl _⟩
  unfold fX7_init at h
  show G X B 1 _ _ 0 [(0, .ref (x0))] [] T M
  refine g_aload_n (pc := 0) C dX7_init_0 rfl 0 rfl ?_
  refine g_objInit (pc := 1) C dX7_init_1 (by omega) q_313 q_148 q_149 (Nat.le_of_ble_eq_true rfl) ?_
  refine g_aload_n (pc := 4) C dX7_init_4 rfl 0 rfl ?_
  refine g_bipush (pc := 5) (v := 16) C dX7_init_5 (by decide) ?_
  have hz := leZ_new ((mjX7_init_9 h).Z hZ)
  refine g_newaI (pc := 7) (N := 16) C dX7_init_7 q_179 (by decide) (by decide +kernel) (Nat.le_of_ble_eq_true rfl) hz.1 hz.2 ?_
  exact g_sub [0] rfl (tjX7_init_9 C hR hd hin hZ h)
theorem dX5_init_0 : decode cX5_init 0 = .ok (.aload_n 0, 1) := by decide +kernel
theorem dX5_init_1 : decode cX5_init 1 = .ok (.invokespecial 3, 3) := by decide +kernel
theorem dX5_init_4 : decode cX5_init 4 = .ok (.aload_n 0, 1) := by decide +kernel
theorem dX5_init_5 : decode cX5_init 5 = .ok (.aload_n 1, 1) := by decide +kernel
theorem dX5_init_6 : decode cX5_init 6 = .ok (.putfield 9, 3) := by decide +kernel
theorem dX5_init_9 : decode cX5_init 9 = .ok (.aload_n 0, 1) := by decide +kernel
theorem dX5_init_10 : decode cX5_init 10 = .ok (.bipush 100, 2) := by decide +kernel
theorem dX5_init_12 : decode cX5_init 12 = .ok (.newarray .int, 2) := by decide +kernel
theorem dX5_init_14 : decode cX5_init 14 = .ok (.putfield 15, 3) := by decide +kernel
theorem dX5_init_17 : decode cX5_init 17 = .ok (.aload_n 0, 1) := by decide +kernel
theorem dX5_init_18 : decode cX5_init 18 = .ok (.getfield 15, 3) := by decide +kernel
theorem dX5_init_21 : decode cX5_init 21 = .ok (.bipush 99, 2) := by decide +kernel
theorem dX5_init_23 : decode cX5_init 23 = .ok (.invokestatic 19, 3) := by decide +kernel
theorem dX5_init_26 : decode cX5_init 26 = .ok (.aload_n 0, 1) := by decide +kernel
theorem dX5_init_27 : decode cX5_init 27 = .ok (.sipush 2976, 3) := by decide +kernel
theorem dX5_init_30 : decode cX5_init 30 = .ok (.newarray .long, 2) := by decide +kernel
theorem dX5_init_32 : decode cX5_init 32 = .ok (.putfield 25, 3) := by decide +kernel
theorem dX5_init_35 : decode cX5_init 35 = .ok (.aload_n 0, 1) := by decide +kernel
theorem dX5_init_36 : decode cX5_init 36 = .ok (.lconst 1, 1) := by decide +kernel
theorem dX5_init_37 : decode cX5_init 37 = .ok (.putfield 29, 3) := by decide +kernel
theorem dX5_init_40 : decode cX5_init 40 = .ok (.aload_n 0, 1) := by decide +kernel
theorem dX5_init_41 : decode cX5_init 41 = .ok (.bipush 8, 2) := by decide +kernel
theorem dX5_init_43 : decode cX5_init 43 = .ok (.newarray .int, 2) := by decide +kernel
theorem dX5_init_45 : decode cX5_init 45 = .ok (.putfield 33, 3) := by decide +kernel
theorem dX5_init_48 : decode cX5_init 48 = .ok (.aload_n 0, 1) := by decide +kernel
theorem dX5_init_49 : decode cX5_init 49 = .ok (.bipush 64, 2) := by decide +kernel
theorem dX5_init_51 : decode cX5_init 51 = .ok (.newarray .int, 2) := by decide +kernel
theorem dX5_init_53 : decode cX5_init 53 = .ok (.putfield 36, 3) := by decide +kernel
theorem dX5_init_56 : decode cX5_init 56 = .ok (.return_, 1) := by decide +kernel
theorem wX5_init : Mw yX5_init cX5_init 2 none 1 := ⟨q_282, q_123, by decide, ⟨by decide +kernel, by decide +kernel⟩, by decide +kernel, by decide +kernel⟩
def jX5_init_53 (T : Sh) (M : Me) (s0 : Nat) (s1 : Nat) : Option (Unit × Sh × Me) :=
  gd (kd T s1 = 4) <| lt (pR M s1 5 (some s0)) fun M15 => some ((), T, M15)
theorem mjX5_init_53 {T : Sh} {M : Me} {s0 : Nat} {s1 : Nat} {T' : Sh} {M' : Me} (h : jX5_init_53 T M s0 s1 = some ((), T', M')) : leT T T' := by
  unfold jX5_init_53 at h
  replace h := gd_some h; obtain ⟨hk14, h⟩ := h
  obtain ⟨M15, eM15⟩ : ∃ y : Me, y = pR M s1 5 (some s0) := ⟨_, rfl⟩
  replace h := lt_at eM15 h
  replace h := Prod.mk.inj (Option.some.inj h); obtain ⟨-, h⟩ := h; replace h := Prod.mk.inj h; obtain ⟨rfl, rfl⟩ := h
  exact leT.rfl
set_option maxHeartbeats 4000000 in
theorem tjX5_init_53 {X : Fx} {B : Bx} {Z : Nat × Nat × Nat × Nat} {d : Nat} {T : Sh} {M : Me} {s0 : Nat} {s1 : Nat} {T' : Sh} {M' : Me} (C : Cx X B cX5_init 2 RX5 d Z) (hR : Rx X none) (hd : 1 ≤ d) (hin : X.2.2.2.2.2.2.2.2.1.name = "<init>") (hZ : leZ T' Z) (h : jX5_init_53 T M s0 s1 = some ((), T', M')) : G X B 2 Z (Qf X B Z none T' M') 53 [] [.ref (s0), .ref (s1)] T M := by
  unfold jX5_init_53 at h
  replace h := gd_some h; obtain ⟨hk14, h⟩ := h
  refine g_putRF (pc := 53) (x := (some s0)) (ft := .array (.int)) C hin dX5_init_53 kX5 hk14 5 (by decide) rfl rfl (Or.inr ⟨_, rfl⟩) ⟨rfl, rfl⟩ q_293 ?_
  refine g_mem (fun M15 eM15 => ?_)
  replace h := lt_at eM15 h
  replace h := Prod.mk.inj (Option.some.inj h); obtain ⟨-, h⟩ := h; replace h := Prod.mk.inj h; obtain ⟨rfl, rfl⟩ := h
  exact g_vret C hR dX5_init_56
def jX5_init_45 (T : Sh) (M : Me) (x0 : Nat) (s0 : Nat) (s1 : Nat) : Option (Unit × Sh × Me) :=
  gd (kd T s1 = 4) <| lt (pR M s1 4 (some s0)) fun M13 => jX5_init_53 (nT T 13 64 64) (nM T M13) (tp T) x0
theorem mjX5_init_45 {T : Sh} {M : Me} {x0 : Nat} {s0 : Nat} {s1 : Nat} {T' : Sh} {M' : Me} (h : jX5_init_45 T M x0 s0 s1 = some ((), T', M')) : leT T T' := by
  unfold jX5_init_45 at h
  replace h := gd_some h; obtain ⟨hk12, h⟩ := h
  obtain ⟨M13, eM13⟩ : ∃ y : Me, y = pR M s1 4 (some s0) := ⟨_, rfl⟩
  replace h := lt_at eM13 h
  exact (leT.rfl.trans (leT.new _ _ _ _)).trans (mjX5_init_53 h)
set_option maxHeartbeats 4000000 in
theorem tjX5_init_45 {X : Fx} {B : Bx} {Z : Nat × Nat × Nat × Nat} {d : Nat} {T : Sh} {M : Me} {x0 : Nat} {s0 : Nat} {s1 : Nat} {T' : Sh} {M' : Me} (C : Cx X B cX5_init 2 RX5 d Z) (hR : Rx X none) (hd : 1 ≤ d) (hin : X.2.2.2.2.2.2.2.2.1.name = "<init>") (hZ : leZ T' Z) (h : jX5_init_45 T M x0 s0 s1 = some ((), T', M')) : G X B 2 Z (Qf X B Z none T' M') 45 [(0, .ref (x0))] [.ref (s0), .ref (s1)] T M := by
  unfold jX5_init_45 at h
  replace h := gd_some h; obtain ⟨hk12, h⟩ := h
  refine g_putRF (pc := 45) (x := (some s0)) (ft := .array (.int)) C hin dX5_init_45 kX5 hk12 4 (by decide) rfl rfl (Or.inr ⟨_, rfl⟩) ⟨rfl, rfl⟩ q_292 ?_
  refine g_mem (fun M13 eM13 => ?_)
  replace h := lt_at eM13 h
  refine g_aload_n (pc := 48) C dX5_init_48 rfl 0 rfl ?_
  refine g_bipush (pc := 49) (v := 64) C dX5_init_49 (by decide) ?_
  have hz := leZ_new ((mjX5_init_53 h).Z hZ)
  refine g_newaI (pc := 51) (N := 64) C dX5_init_51 q_179 (by decide) (by decide +kernel) (Nat.le_of_ble_eq_true rfl) hz.1 hz.2 ?_
  exact g_sub [] rfl (tjX5_init_53 C hR hd hin hZ h)
def jX5_init_32 (T : Sh) (M : Me) (x0 : Nat) (s0 : Nat) (s1 : Nat) : Option (Unit × Sh × Me) :=
  gd (kd T s1 = 4) <| lt (pR M s1 2 (some s0)) fun M9 => gd (kd T x0 = 4) <| lt (pJ M9 x0 3 (1 : Int64)) fun M11 => jX5_init_45 (nT T 13 8 8) (nM T M11) x0 (tp T) x0
theorem mjX5_init_32 {T : Sh} {M : Me} {x0 : Nat} {s0 : Nat} {s1 : Nat} {T' : Sh} {M' : Me} (h : jX5_init_32 T M x0 s0 s1 = some ((), T', M')) : leT T T' := by
  unfold jX5_init_32 at h
  replace h := gd_some h; obtain ⟨hk8, h⟩ := h
  obtain ⟨M9, eM9⟩ : ∃ y : Me, y = pR M s1 2 (some s0) := ⟨_, rfl⟩
  replace h := lt_at eM9 h
  replace h := gd_some h; obtain ⟨hk10, h⟩ := h
  obtain ⟨M11, eM11⟩ : ∃ y : Me, y = pJ M9 x0 3 (1 : Int64) := ⟨_, rfl⟩
  replace h := lt_at eM11 h
  exact (leT.rfl.trans (leT.new _ _ _ _)).trans (mjX5_init_45 h)
set_option maxHeartbeats 4000000 in
theorem tjX5_init_32 {X : Fx} {B : Bx} {Z : Nat × Nat × Nat × Nat} {d : Nat} {T : Sh} {M : Me} {x0 : Nat} {s0 : Nat} {s1 : Nat} {T' : Sh} {M' : Me} (C : Cx X B cX5_init 2 RX5 d Z) (hR : Rx X none) (hd : 1 ≤ d) (hin : X.2.2.2.2.2.2.2.2.1.name = "<init>") (hZ : leZ T' Z) (h : jX5_init_32 T M x0 s0 s1 = some ((), T', M')) : G X B 2 Z (Qf X B Z none T' M') 32 [(0, .ref (x0))] [.ref (s0), .ref (s1)] T M := by
  unfold jX5_init_32 at h
  replace h := gd_some h; obtain ⟨hk8, h⟩ := h
  refine g_putRF (pc := 32) (x := (some s0)) (ft := .array (.long)) C hin dX5_init_32 kX5 hk8 2 (by decide) rfl rfl (Or.inr ⟨_, rfl⟩) ⟨rfl, rfl⟩ q_290 ?_
  refine g_mem (fun M9 eM9 => ?_)
  replace h := lt_at eM9 h
  refine g_aload_n (pc := 35) C dX5_init_35 rfl 0 rfl ?_
  refine g_lconst (pc := 36) (v := 1) C dX5_init_36 rfl ?_
  replace h := gd_some h; obtain ⟨hk10, h⟩ := h
  refine g_putJ (pc := 37) C dX5_init_37 kX5 hk10 3 (by decide) rfl rfl rfl q_291 ?_
  refine g_mem (fun M11 eM11 => ?_)
  replace h := lt_at eM11 h
  refine g_aload_n (pc := 40) C dX5_init_40 rfl 0 rfl ?_
  refine g_bipush (pc := 41) (v := 8) C dX5_init_41 (by decide) ?_
  have hz := leZ_new ((mjX5_init_45 h).Z hZ)
  refine g_newaI (pc := 43) (N := 8) C dX5_init_43 q_179 (by decide) (by decide +kernel) (Nat.le_of_ble_eq_true rfl) hz.1 hz.2 ?_
  exact g_sub [0] rfl (tjX5_init_45 C hR hd hin hZ h)
def jX5_init_14 (T : Sh) (M : Me) (x0 : Nat) (s0 : Nat) (s1 : Nat) : Option (Unit × Sh × Me) :=
  gd (kd T s1 = 4) <| lt (pR M s1 1 (some s0)) fun M4 => gd (kd T x0 = 4) <| Option.bind (gR M4 x0 1) fun a6 => Option.bind (fJ7_fill_53178 T M4 a6 (99 : Int32)) <| un2 fun _u M7 => jX5_init_32 (nT T 14 2976 2976) (nM T M7) x0 (tp T) x0
theorem mjX5_init_14 {T : Sh} {M : Me} {x0 : Nat} {s0 : Nat} {s1 : Nat} {T' : Sh} {M' : Me} (h : jX5_init_14 T M x0 s0 s1 = some ((), T', M')) : leT T T' := by
  unfold jX5_init_14 at h
  replace h := gd_some h; obtain ⟨hk3, h⟩ := h
  obtain ⟨M4, eM4⟩ : ∃ y : Me, y = pR M s1 1 (some s0) := ⟨_, rfl⟩
  replace h := lt_at eM4 h
  replace h := gd_some h; obtain ⟨hk5, h⟩ := h
  replace h := bnd h; obtain ⟨a6, ea6, h⟩ := h
  replace h := bnd2 h; obtain ⟨_u, M7, h1, h⟩ := h
  exact (leT.rfl.trans (leT.new _ _ _ _)).trans (mjX5_init_32 h)
set_option maxHeartbeats 4000000 in
theorem tjX5_init_14 {X : Fx} {B : Bx} {Z : Nat × Nat × Nat × Nat} {d : Nat} {T : Sh} {M : Me} {x0 : Nat} {s0 : Nat} {s1 : Nat} {T' : Sh} {M' : Me} (C : Cx X B cX5_init 2 RX5 d Z) (hR : Rx X none) (hd : 1 ≤ d) (hin : X.2.2.2.2.2.2.2.2.1.name = "<init>") (hZ : leZ T' Z) (h : jX5_init_14 T M x0 s0 s1 = some ((), T', M')) : G X B 2 Z (Qf X B Z none T' M') 14 [(0, .ref (x0))] [.ref (s0), .ref (s1)] T M := by
  unfold jX5_init_14 at h
  replace h := gd_some h; obtain ⟨hk3, h⟩ := h
  refine g_putRF (pc := 14) (x := (some s0)) (ft := .array (.int)) C hin dX5_init_14 kX5 hk3 1 (by decide) rfl rfl (Or.inr ⟨_, rfl⟩) ⟨rfl, rfl⟩ q_289 ?_
  refine g_mem (fun M4 eM4 => ?_)
  replace h := lt_at eM4 h
  refine g_aload_n (pc := 17) C dX5_init_17 rfl 0 rfl ?_
  replace h := gd_some h; obtain ⟨hk5, h⟩ := h
  refine g_get (pc := 18) (v := va_rf (gR M4 x0 1)) C dX5_init_18 kX5 hk5 1 (by decide) q_289 rfl ?_
  replace h := bnd h; obtain ⟨a6, ea6, h⟩ := h
  refine g_refq ea6 ?_
  refine g_bipush (pc := 21) (v := 99) C dX5_init_21 (by decide) ?_
  replace h := bnd2 h; obtain ⟨_u, M7, h1, h⟩ := h
  refine g_callSv (pc := 23) (As := [.ref (a6), .int ((99 : Int32))]) (st := []) C dX5_init_23 wJ7_fill_53178 q_285 q_284 (by omega) rfl (Nat.le_of_ble_eq_true rfl) (kJ7_fill_53178 (d := 0) (Nat.le_refl _) h1) ?_
  refine g_aload_n (pc := 26) C dX5_init_26 rfl 0 rfl ?_
  refine g_sipush (pc := 27) (v := 2976) C dX5_init_27 (by decide) ?_
  have hz := leZ_new ((mjX5_init_32 h).Z hZ)
  refine g_newaJ (pc := 30) (N := 2976) C dX5_init_30 q_307 (by decide) (by decide +kernel) (Nat.le_of_ble_eq_true rfl) hz.1 hz.2 ?_
  exact g_sub [0] rfl (tjX5_init_32 C hR hd hin hZ h)
/-- EyeTrainer$Maps.<init>(LEyeTrainer$Lab;)V -/
def fX5_init (T : Sh) (M : Me) (x0 : Nat) (x1 : Nat) : Option (Unit × Sh × Me) :=
  gd (kd T x0 = 4) <| lt (pR M x0 0 (some x1)) fun M2 => jX5_init_14 (nT T 13 100 100) (nM T M2) x0 (tp T) x0
theorem mX5_init {T : Sh} {M : Me} {x0 : Nat} {x1 : Nat} {T' : Sh} {M' : Me} (h : fX5_init T M x0 x1 = some ((), T', M')) : leT T T' := by
  unfold fX5_init at h
  replace h := gd_some h; obtain ⟨hk1, h⟩ := h
  obtain ⟨M2, eM2⟩ : ∃ y : Me, y = pR M x0 0 (some x1) := ⟨_, rfl⟩
  replace h := lt_at eM2 h
  exact (leT.rfl.trans (leT.new _ _ _ _)).trans (mjX5_init_14 h)
set_option maxHeartbeats 4000000 in
theorem kX5_init {l : Launch} {B : Bx} {d : Nat} (hd : 1 ≤ d) {T : Sh} {M : Me} {x0 : Nat} {x1 : Nat} {T' : Sh} {M' : Me} (h : fX5_init T M x0 x1 = some ((), T', M')) : Kt l B yX5_init cX5_init 2 none d [.ref (x0), .ref (x1)] T M none T' M' := by
  have hmm := mX5_init h
  refine kt_of wX5_init hmm.1 hmm.2 (Nat.le_of_ble_eq_true rfl) (fun X C hR hlx hin => ?_)
  subst hlx
  replace C : Cx X B cX5_init 2 RX5 d (tp T, sl T, tp T', sl T') := C
  have hZ : leZ T' (tp T, sl T, tp T', sl T') := ⟨Nat.le_refl _, Nat.le_refl _⟩
  unfold fX5_init at h
  show G X B 2 _ _ 0 [(0, .ref (x0)), (1, .ref (x1))] [] T M
  refine g_aload_n (pc := 0) C dX5_init_0 rfl 0 rfl ?_
  refine g_objInit (pc := 1) C dX5_init_1 (by omega) q_283 q_148 q_149 (Nat.le_of_ble_eq_true rfl) ?_
  refine g_aload_n (pc := 4) C dX5_init_4 rfl 0 rfl ?_
  refine g_aload_n (pc := 5) C dX5_init_5 rfl 1 rfl ?_
  replace h := gd_some h; obtain ⟨hk1, h⟩ := h
  refine g_putR (pc := 6) (x := (some x1)) (ft := .object "EyeTrainer$Lab") C dX5_init_6 kX5 hk1 0 (by decide) rfl rfl rfl (Or.inl ⟨_, rfl⟩) q_287 ?_
  refine g_mem (fun M2 eM2 => ?_)
  replace h := lt_at eM2 h
  refine g_aload_n (pc := 9) C dX5_init_9 rfl 0 rfl ?_
  refine g_bipush (pc := 10) (v := 100) C dX5_init_10 (by decide) ?_
  have hz := leZ_new ((mjX5_init_14 h).Z hZ)
  refine g_newaI (pc := 12) (N := 100) C dX5_init_12 q_179 (by decide) (by decide +kernel) (Nat.le_of_ble_eq_true rfl) hz.1 hz.2 ?_
  exact g_sub [0] rfl (tjX5_init_14 C hR hd hin hZ h)
