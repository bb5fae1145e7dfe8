set_option maxRecDepth 20000 in
theorem q_6 : Cond.selects RX6 yX6_readLine yX6_readLine ∈ lw_gd := mem_gd (List.mem_of_getElem? (i := 6) (by decide +kernel)) rfl
set_option maxRecDepth 20000 in
theorem q_7 : Cond.selects RX6 yX6_readLane yX6_readLane ∈ lw_gd := mem_gd (List.mem_of_getElem? (i := 7) (by decide +kernel)) rfl
set_option maxRecDepth 20000 in
theorem q_8 : Cond.selects RX6 yX6_readPattern yX6_readPattern ∈ lw_gd := mem_gd (List.mem_of_getElem? (i := 8) (by decide +kernel)) rfl
set_option maxRecDepth 20000 in
theorem q_9 : Cond.selects RX6 yX6_readLaw yX6_readLaw ∈ lw_gd := mem_gd (List.mem_of_getElem? (i := 9) (by decide +kernel)) rfl
set_option maxRecDepth 20000 in
theorem q_210 : Cond.instantiable RX3 13 ∈ lw_gd := mem_gd (List.mem_of_getElem? (i := 210) (by decide +kernel)) rfl
set_option maxRecDepth 20000 in
theorem q_212 : Cond.instanceMethod yX3_init ∈ lw_gd := mem_gd (List.mem_of_getElem? (i := 212) (by decide +kernel)) rfl
set_option maxRecDepth 20000 in
theorem q_236 : Cond.fieldLink RX6 47 "EyeTrainer$Lab" "aspect" "I" ∈ lw_gd := mem_gd (List.mem_of_getElem? (i := 236) (by decide +kernel)) rfl
set_option maxRecDepth 20000 in
theorem q_239 : Cond.fieldLink RX6 50 "EyeTrainer$Lab" "hold" "I" ∈ lw_gd := mem_gd (List.mem_of_getElem? (i := 239) (by decide +kernel)) rfl
set_option maxRecDepth 20000 in
theorem q_245 : Cond.fieldLink RX6 53 "EyeTrainer$Lab" "lines" "I" ∈ lw_gd := mem_gd (List.mem_of_getElem? (i := 245) (by decide +kernel)) rfl
set_option maxRecDepth 20000 in
theorem q_247 : Cond.fieldLink RX6 74 "EyeTrainer$Lab" "passesLaw" "LEyeTrainer$Law;" ∈ lw_gd := mem_gd (List.mem_of_getElem? (i := 247) (by decide +kernel)) rfl
set_option maxRecDepth 20000 in
theorem q_249 : Cond.fieldLink RX6 78 "EyeTrainer$Lab" "edgeLaw" "LEyeTrainer$Law;" ∈ lw_gd := mem_gd (List.mem_of_getElem? (i := 249) (by decide +kernel)) rfl
set_option maxRecDepth 20000 in
theorem q_252 : Cond.fieldLink RX6 81 "EyeTrainer$Lab" "driftsLaw" "LEyeTrainer$Law;" ∈ lw_gd := mem_gd (List.mem_of_getElem? (i := 252) (by decide +kernel)) rfl
set_option maxRecDepth 20000 in
theorem q_482 : Cond.code yX6_read cX6_read 5 (some (.object "EyeTrainer$Lab")) ∈ lw_gd := mem_gd (List.mem_of_getElem? (i := 482) (by decide +kernel)) rfl
set_option maxRecDepth 20000 in
theorem q_483 : Cond.methodLink RX6 26 yX9_cut ∈ lw_gd := mem_gd (List.mem_of_getElem? (i := 483) (by decide +kernel)) rfl
set_option maxRecDepth 20000 in
theorem q_484 : Cond.instanceMethod yX9_cut ∈ lw_gd := mem_gd (List.mem_of_getElem? (i := 484) (by decide +kernel)) rfl
set_option maxRecDepth 20000 in
theorem q_485 : Cond.selects RX9 yX9_cut yX9_cut ∈ lw_gd := mem_gd (List.mem_of_getElem? (i := 485) (by decide +kernel)) rfl
set_option maxRecDepth 20000 in
theorem q_648 : Cond.classLink RX6 36 RX3 ∈ lw_gd := mem_gd (List.mem_of_getElem? (i := 648) (by decide +kernel)) rfl
set_option maxRecDepth 20000 in
theorem q_649 : Cond.methodLink RX6 38 yX3_init ∈ lw_gd := mem_gd (List.mem_of_getElem? (i := 649) (by decide +kernel)) rfl
set_option maxRecDepth 20000 in
theorem q_666 : Cond.methodLink RX6 60 yX6_readLine ∈ lw_gd := mem_gd (List.mem_of_getElem? (i := 666) (by decide +kernel)) rfl
set_option maxRecDepth 20000 in
theorem q_668 : Cond.instanceMethod yX6_readLine ∈ lw_gd := mem_gd (List.mem_of_getElem? (i := 668) (by decide +kernel)) rfl
set_option maxRecDepth 20000 in
theorem q_669 : Cond.code yX6_readLine cX6_readLine 2 none ∈ lw_gd := mem_gd (List.mem_of_getElem? (i := 669) (by decide +kernel)) rfl
set_option maxRecDepth 20000 in
theorem q_670 : Cond.methodLink RX6 64 yX6_readLane ∈ lw_gd := mem_gd (List.mem_of_getElem? (i := 670) (by decide +kernel)) rfl
set_option maxRecDepth 20000 in
theorem q_672 : Cond.instanceMethod yX6_readLane ∈ lw_gd := mem_gd (List.mem_of_getElem? (i := 672) (by decide +kernel)) rfl
set_option maxRecDepth 20000 in
theorem q_674 : Cond.methodLink RX6 67 yX6_readPattern ∈ lw_gd := mem_gd (List.mem_of_getElem? (i := 674) (by decide +kernel)) rfl
set_option maxRecDepth 20000 in
theorem q_676 : Cond.instanceMethod yX6_readPattern ∈ lw_gd := mem_gd (List.mem_of_getElem? (i := 676) (by decide +kernel)) rfl
set_option maxRecDepth 20000 in
theorem q_678 : Cond.methodLink RX6 70 yX6_readLaw ∈ lw_gd := mem_gd (List.mem_of_getElem? (i := 678) (by decide +kernel)) rfl
set_option maxRecDepth 20000 in
theorem q_680 : Cond.instanceMethod yX6_readLaw ∈ lw_gd := mem_gd (List.mem_of_getElem? (i := 680) (by decide +kernel)) rfl
theorem dX6_readLine_0 : decode cX6_readLine 0 = .ok (.aload_n 0, 1) := by decide +kernel
theorem dX6_readLine_1 : decode cX6_readLine 1 = .ok (.invokevirtual 56, 3) := by decide +kernel
theorem dX6_readLine_4 : decode cX6_readLine 4 = .ok (.tableswitch 127 202 215 #[72, 127, 127, 127, 127, 127, 127, 127, 127, 127, 80, 88, 101, 114], 72) := by decide +kernel
theorem dX6_readLine_76 : decode cX6_readLine 76 = .ok (.aload_n 0, 1) := by decide +kernel
theorem dX6_readLine_77 : decode cX6_readLine 77 = .ok (.aload_n 1, 1) := by decide +kernel
theorem dX6_readLine_78 : decode cX6_readLine 78 = .ok (.invokevirtual 64, 3) := by decide +kernel
theorem dX6_readLine_81 : decode cX6_readLine 81 = .ok (.goto 55, 3) := by decide +kernel
theorem dX6_readLine_84 : decode cX6_readLine 84 = .ok (.aload_n 0, 1) := by decide +kernel
theorem dX6_readLine_85 : decode cX6_readLine 85 = .ok (.aload_n 1, 1) := by decide +kernel
theorem dX6_readLine_86 : decode cX6_readLine 86 = .ok (.invokevirtual 67, 3) := by decide +kernel
theorem dX6_readLine_89 : decode cX6_readLine 89 = .ok (.goto 47, 3) := by decide +kernel
theorem dX6_readLine_92 : decode cX6_readLine 92 = .ok (.aload_n 1, 1) := by decide +kernel
theorem dX6_readLine_93 : decode cX6_readLine 93 = .ok (.aload_n 0, 1) := by decide +kernel
theorem dX6_readLine_94 : decode cX6_readLine 94 = .ok (.bipush 31, 2) := by decide +kernel
theorem dX6_readLine_96 : decode cX6_readLine 96 = .ok (.invokevirtual 70, 3) := by decide +kernel
theorem dX6_readLine_99 : decode cX6_readLine 99 = .ok (.putfield 74, 3) := by decide +kernel
theorem dX6_readLine_102 : decode cX6_readLine 102 = .ok (.goto 34, 3) := by decide +kernel
theorem dX6_readLine_105 : decode cX6_readLine 105 = .ok (.aload_n 1, 1) := by decide +kernel
theorem dX6_readLine_106 : decode cX6_readLine 106 = .ok (.aload_n 0, 1) := by decide +kernel
theorem dX6_readLine_107 : decode cX6_readLine 107 = .ok (.bipush 21, 2) := by decide +kernel
theorem dX6_readLine_109 : decode cX6_readLine 109 = .ok (.invokevirtual 70, 3) := by decide +kernel
theorem dX6_readLine_112 : decode cX6_readLine 112 = .ok (.putfield 78, 3) := by decide +kernel
theorem dX6_readLine_115 : decode cX6_readLine 115 = .ok (.goto 21, 3) := by decide +kernel
theorem dX6_readLine_118 : decode cX6_readLine 118 = .ok (.aload_n 1, 1) := by decide +kernel
theorem dX6_readLine_119 : decode cX6_readLine 119 = .ok (.aload_n 0, 1) := by decide +kernel
theorem dX6_readLine_120 : decode cX6_readLine 120 = .ok (.bipush 32, 2) := by decide +kernel
theorem dX6_readLine_122 : decode cX6_readLine 122 = .ok (.invokevirtual 70, 3) := by decide +kernel
theorem dX6_readLine_125 : decode cX6_readLine 125 = .ok (.putfield 81, 3) := by decide +kernel
theorem dX6_readLine_128 : decode cX6_readLine 128 = .ok (.goto 8, 3) := by decide +kernel
theorem dX6_readLine_131 : decode cX6_readLine 131 = .ok (.aload_n 0, 1) := by decide +kernel
theorem dX6_readLine_132 : decode cX6_readLine 132 = .ok (.iconst 2, 1) := by decide +kernel
theorem dX6_readLine_133 : decode cX6_readLine 133 = .ok (.invokevirtual 84, 3) := by decide +kernel
theorem dX6_readLine_136 : decode cX6_readLine 136 = .ok (.return_, 1) := by decide +kernel
theorem wX6_readLine : Mw yX6_readLine cX6_readLine 2 none 1 := ⟨q_669, q_121, by decide, ⟨by decide +kernel, by decide +kernel⟩, by decide +kernel, by decide +kernel⟩
def jX6_readLine_99 (T : Sh) (M : Me) (s0 : Nat) (s1 : Nat) : Option (Unit × Sh × Me) :=
  gd (kd T s1 = 2) <| lt (pR M s1 10 (some s0)) fun M9 => some ((), T, M9)
theorem mjX6_readLine_99 {T : Sh} {M : Me} {s0 : Nat} {s1 : Nat} {T' : Sh} {M' : Me} (h : jX6_readLine_99 T M s0 s1 = some ((), T', M')) : leT T T' := by
  unfold jX6_readLine_99 at h
  replace h := gd_some h; obtain ⟨hk8, h⟩ := h
  obtain ⟨M9, eM9⟩ : ∃ y : Me, y = pR M s1 10 (some s0) := ⟨_, rfl⟩
  replace h := lt_at eM9 h
  replace h := Prod.mk.inj (Option.some.inj h); obtain ⟨-, h⟩ := h; replace h := Prod.mk.inj h; obtain ⟨rfl, rfl⟩ := h
  exact leT.rfl
set_option maxHeartbeats 4000000 in
theorem tjX6_readLine_99 {X : Fx} {B : Bx} {Z : Nat × Nat × Nat × Nat} {d : Nat} {T : Sh} {M : Me} {s0 : Nat} {s1 : Nat} {T' : Sh} {M' : Me} (C : Cx X B cX6_readLine 2 RX6 d Z) (hR : Rx X none) (hd : 105 ≤ d) (hZ : leZ T' Z) (h : jX6_readLine_99 T M s0 s1 = some ((), T', M')) : G X B 2 Z (Qf X B Z none T' M') 99 [] [.ref (s0), .ref (s1)] T M := by
  unfold jX6_readLine_99 at h
  replace h := gd_some h; obtain ⟨hk8, h⟩ := h
  refine g_putR (pc := 99) (x := (some s0)) (ft := .object "EyeTrainer$Law") C dX6_readLine_99 kX3 hk8 10 (by decide) rfl rfl rfl (Or.inl ⟨_, rfl⟩) q_247 ?_
  refine g_mem (fun M9 eM9 => ?_)
  replace h := lt_at eM9 h
  refine g_goto (pc := 102) (tgt := 136) C dX6_readLine_102 (by decide) ?_
  replace h := Prod.mk.inj (Option.some.inj h); obtain ⟨-, h⟩ := h; replace h := Prod.mk.inj h; obtain ⟨rfl, rfl⟩ := h
  exact g_vret C hR dX6_readLine_136
def jX6_readLine_112 (T : Sh) (M : Me) (s0 : Nat) (s1 : Nat) : Option (Unit × Sh × Me) :=
  gd (kd T s1 = 2) <| lt (pR M s1 11 (some s0)) fun M14 => some ((), T, M14)
theorem mjX6_readLine_112 {T : Sh} {M : Me} {s0 : Nat} {s1 : Nat} {T' : Sh} {M' : Me} (h : jX6_readLine_112 T M s0 s1 = some ((), T', M')) : leT T T' := by
  unfold jX6_readLine_112 at h
  replace h := gd_some h; obtain ⟨hk13, h⟩ := h
  obtain ⟨M14, eM14⟩ : ∃ y : Me, y = pR M s1 11 (some s0) := ⟨_, rfl⟩
  replace h := lt_at eM14 h
  replace h := Prod.mk.inj (Option.some.inj h); obtain ⟨-, h⟩ := h; replace h := Prod.mk.inj h; obtain ⟨rfl, rfl⟩ := h
  exact leT.rfl
set_option maxHeartbeats 4000000 in
theorem tjX6_readLine_112 {X : Fx} {B : Bx} {Z : Nat × Nat × Nat × Nat} {d : Nat} {T : Sh} {M : Me} {s0 : Nat} {s1 : Nat} {T' : Sh} {M' : Me} (C : Cx X B cX6_readLine 2 RX6 d Z) (hR : Rx X none) (hd : 105 ≤ d) (hZ : leZ T' Z) (h : jX6_readLine_112 T M s0 s1 = some ((), T', M')) : G X B 2 Z (Qf X B Z none T' M') 112 [] [.ref (s0), .ref (s1)] T M := by
  unfold jX6_readLine_112 at h
  replace h := gd_some h; obtain ⟨hk13, h⟩ := h
  refine g_putR (pc := 112) (x := (some s0)) (ft := .object "EyeTrainer$Law") C dX6_readLine_112 kX3 hk13 11 (by decide) rfl rfl rfl (Or.inl ⟨_, rfl⟩) q_249 ?_
  refine g_mem (fun M14 eM14 => ?_)
  replace h := lt_at eM14 h
  refine g_goto (pc := 115) (tgt := 136) C dX6_readLine_115 (by decide) ?_
  replace h := Prod.mk.inj (Option.some.inj h); obtain ⟨-, h⟩ := h; replace h := Prod.mk.inj h; obtain ⟨rfl, rfl⟩ := h
  exact g_vret C hR dX6_readLine_136
def jX6_readLine_125 (T : Sh) (M : Me) (s0 : Nat) (s1 : Nat) : Option (Unit × Sh × Me) :=
  gd (kd T s1 = 2) <| lt (pR M s1 12 (some s0)) fun M19 => some ((), T, M19)
theorem mjX6_readLine_125 {T : Sh} {M : Me} {s0 : Nat} {s1 : Nat} {T' : Sh} {M' : Me} (h : jX6_readLine_125 T M s0 s1 = some ((), T', M')) : leT T T' := by
  unfold jX6_readLine_125 at h
  replace h := gd_some h; obtain ⟨hk18, h⟩ := h
  obtain ⟨M19, eM19⟩ : ∃ y : Me, y = pR M s1 12 (some s0) := ⟨_, rfl⟩
  replace h := lt_at eM19 h
  replace h := Prod.mk.inj (Option.some.inj h); obtain ⟨-, h⟩ := h; replace h := Prod.mk.inj h; obtain ⟨rfl, rfl⟩ := h
  exact leT.rfl
set_option maxHeartbeats 4000000 in
theorem tjX6_readLine_125 {X : Fx} {B : Bx} {Z : Nat × Nat × Nat × Nat} {d : Nat} {T : Sh} {M : Me} {s0 : Nat} {s1 : Nat} {T' : Sh} {M' : Me} (C : Cx X B cX6_readLine 2 RX6 d Z) (hR : Rx X none) (hd : 105 ≤ d) (hZ : leZ T' Z) (h : jX6_readLine_125 T M s0 s1 = some ((), T', M')) : G X B 2 Z (Qf X B Z none T' M') 125 [] [.ref (s0), .ref (s1)] T M := by
  unfold jX6_readLine_125 at h
  replace h := gd_some h; obtain ⟨hk18, h⟩ := h
  refine g_putR (pc := 125) (x := (some s0)) (ft := .object "EyeTrainer$Law") C dX6_readLine_125 kX3 hk18 12 (by decide) rfl rfl rfl (Or.inl ⟨_, rfl⟩) q_252 ?_
  refine g_mem (fun M19 eM19 => ?_)
  replace h := lt_at eM19 h
  refine g_goto (pc := 128) (tgt := 136) C dX6_readLine_128 (by decide) ?_
  replace h := Prod.mk.inj (Option.some.inj h); obtain ⟨-, h⟩ := h; replace h := Prod.mk.inj h; obtain ⟨rfl, rfl⟩ := h
  exact g_vret C hR dX6_readLine_136
/-- EyeTrainer$Reader.readLine(LEyeTrainer$Lab;)V -/
def fX6_readLine (T : Sh) (M : Me) (x0 : Nat) (x1 : Nat) : Option (Unit × Sh × Me) :=
  gd (kd T x0 = 5) <| Option.bind (fX6_kind T M x0) fun r2 => if r2 = (202 : Int32) then (Option.bind (fX6_readLane T M x0 x1) <| un2 fun _u M3 => some ((), T, M3)) else (if r2 = (212 : Int32) then (Option.bind (fX6_readPattern T M x0 x1) <| un2 fun _u M4 => some ((), T, M4)) else (if r2 = (213 : Int32) then (Option.bind (fX6_readLaw T M x0 (31 : Int32)) <| un3 fun r5 T7 M6 => jX6_readLine_99 T7 M6 r5 x1) else (if r2 = (214 : Int32) then (Option.bind (fX6_readLaw T M x0 (21 : Int32)) <| un3 fun r10 T12 M11 => jX6_readLine_112 T12 M11 r10 x1) else (if r2 = (215 : Int32) then (Option.bind (fX6_readLaw T M x0 (32 : Int32)) <| un3 fun r15 T17 M16 => jX6_readLine_125 T17 M16 r15 x1) else (Option.bind (fX6_fail T M x0 (2 : Int32)) <| un2 fun _u M20 => some ((), T, M20))))))
theorem mX6_readLine {T : Sh} {M : Me} {x0 : Nat} {x1 : Nat} {T' : Sh} {M' : Me} (h : fX6_readLine T M x0 x1 = some ((), T', M')) : leT T T' := by
  unfold fX6_readLine at h
  replace h := gd_some h; obtain ⟨hk1, h⟩ := h
  replace h := bnd h; obtain ⟨r2, h1, h⟩ := h
  by_cases cw21_0 : r2 = (202 : Int32)
  · replace h := ifp cw21_0 h
    replace h := bnd2 h; obtain ⟨_u, M3, h1, h⟩ := h
    replace h := Prod.mk.inj (Option.some.inj h); obtain ⟨-, h⟩ := h; replace h := Prod.mk.inj h; obtain ⟨rfl, rfl⟩ := h
    exact leT.rfl
  · replace h := ifn cw21_0 h
    by_cases cw21_1 : r2 = (212 : Int32)
    · replace h := ifp cw21_1 h
      replace h := bnd2 h; obtain ⟨_u, M4, h1, h⟩ := h
      replace h := Prod.mk.inj (Option.some.inj h); obtain ⟨-, h⟩ := h; replace h := Prod.mk.inj h; obtain ⟨rfl, rfl⟩ := h
      exact leT.rfl
    · replace h := ifn cw21_1 h
      by_cases cw21_2 : r2 = (213 : Int32)
      · replace h := ifp cw21_2 h
        replace h := bnd3 h; obtain ⟨r5, T7, M6, h1, h⟩ := h
        have hmT7 := mX6_readLaw h1
        exact (leT.rfl.trans hmT7).trans (mjX6_readLine_99 h)
      · replace h := ifn cw21_2 h
        by_cases cw21_3 : r2 = (214 : Int32)
        · replace h := ifp cw21_3 h
          replace h := bnd3 h; obtain ⟨r10, T12, M11, h1, h⟩ := h
          have hmT12 := mX6_readLaw h1
          exact (leT.rfl.trans hmT12).trans (mjX6_readLine_112 h)
        · replace h := ifn cw21_3 h
          by_cases cw21_4 : r2 = (215 : Int32)
          · replace h := ifp cw21_4 h
            replace h := bnd3 h; obtain ⟨r15, T17, M16, h1, h⟩ := h
            have hmT17 := mX6_readLaw h1
            exact (leT.rfl.trans hmT17).trans (mjX6_readLine_125 h)
          · replace h := ifn cw21_4 h
            replace h := bnd2 h; obtain ⟨_u, M20, h1, h⟩ := h
            replace h := Prod.mk.inj (Option.some.inj h); obtain ⟨-, h⟩ := h; replace h := Prod.mk.inj h; obtain ⟨rfl, rfl⟩ := h
            exact leT.rfl
set_option maxHeartbeats 4000000 in
theorem kX6_readLine {l : Launch} {B : Bx} {d : Nat} (hd : 105 ≤ d) {T : Sh} {M : Me} {x0 : Nat} {x1 : Nat} {T' : Sh} {M' : Me} (h : fX6_readLine T M x0 x1 = some ((), T', M')) : Kt l B yX6_readLine cX6_readLine 2 none d [.ref (x0), .ref (x1)] T M none T' M' := by
  have hmm := mX6_readLine h
  refine kt_of wX6_readLine hmm.1 hmm.2 (Nat.le_of_ble_eq_true rfl) (fun X C hR hlx hin => ?_)
  subst hlx
  replace C : Cx X B cX6_readLine 2 RX6 d (tp T, sl T, tp T', sl T') := C
  have hZ : leZ T' (tp T, sl T, tp T', sl T') := ⟨Nat.le_refl _, Nat.le_refl _⟩
  unfold fX6_readLine at h
  show G X B 2 _ _ 0 [(0, .ref (x0)), (1, .ref (x1))] [] T M
  refine g_aload_n (pc := 0) C dX6_readLine_0 rfl 0 rfl ?_
  replace h := gd_some h; obtain ⟨hk1, h⟩ := h
  replace h := bnd h; obtain ⟨r2, h1, h⟩ := h
  refine g_callVi (pc := 1) (As := []) (st := []) C dX6_readLine_1 wX6_kind hk1 rfl (by decide) q_656 q_3 q_654 (by omega) rfl (Nat.le_of_ble_eq_true rfl) (kX6_kind (d := 0) (Nat.le_refl _) h1) ?_
  by_cases cw21_0 : r2 = (202 : Int32)
  · replace h := ifp cw21_0 h
    have hq : r2.toInt = 202 := by rw [cw21_0]; rfl
    refine g_tswIn (off := 72) (tgt := 76) C dX6_readLine_4 (by rw [hq]; decide) (by rw [hq]; decide) (by rw [hq]; rfl) (by decide) ?_
    refine g_aload_n (pc := 76) C dX6_readLine_76 rfl 0 rfl ?_
    refine g_aload_n (pc := 77) C dX6_readLine_77 rfl 1 rfl ?_
    replace h := bnd2 h; obtain ⟨_u, M3, h1, h⟩ := h
    refine g_callVv (pc := 78) (As := [.ref (x1)]) (st := []) C dX6_readLine_78 wX6_readLane hk1 rfl (by decide) q_672 q_7 q_670 (by omega) rfl (Nat.le_of_ble_eq_true rfl) (kX6_readLane (d := 4) (Nat.le_refl _) h1) ?_
    refine g_goto (pc := 81) (tgt := 136) C dX6_readLine_81 (by decide) ?_
    replace h := Prod.mk.inj (Option.some.inj h); obtain ⟨-, h⟩ := h; replace h := Prod.mk.inj h; obtain ⟨rfl, rfl⟩ := h
    exact g_vret C hR dX6_readLine_136
  · replace h := ifn cw21_0 h
    by_cases cw21_1 : r2 = (212 : Int32)
    · replace h := ifp cw21_1 h
      have hq : r2.toInt = 212 := by rw [cw21_1]; rfl
      refine g_tswIn (off := 80) (tgt := 84) C dX6_readLine_4 (by rw [hq]; decide) (by rw [hq]; decide) (by rw [hq]; rfl) (by decide) ?_
      refine g_aload_n (pc := 84) C dX6_readLine_84 rfl 0 rfl ?_
      refine g_aload_n (pc := 85) C dX6_readLine_85 rfl 1 rfl ?_
      replace h := bnd2 h; obtain ⟨_u, M4, h1, h⟩ := h
      refine g_callVv (pc := 86) (As := [.ref (x1)]) (st := []) C dX6_readLine_86 wX6_readPattern hk1 rfl (by decide) q_676 q_8 q_674 (by omega) rfl (Nat.le_of_ble_eq_true rfl) (kX6_readPattern (d := 4) (Nat.le_refl _) h1) ?_
      refine g_goto (pc := 89) (tgt := 136) C dX6_readLine_89 (by decide) ?_
      replace h := Prod.mk.inj (Option.some.inj h); obtain ⟨-, h⟩ := h; replace h := Prod.mk.inj h; obtain ⟨rfl, rfl⟩ := h
      exact g_vret C hR dX6_readLine_136
    · replace h := ifn cw21_1 h
      by_cases cw21_2 : r2 = (213 : Int32)
      · replace h := ifp cw21_2 h
        have hq : r2.toInt = 213 := by rw [cw21_2]; rfl
        refine g_tswIn (off := 88) (tgt := 92) C dX6_readLine_4 (by rw [hq]; decide) (by rw [hq]; decide) (by rw [hq]; rfl) (by decide) ?_
        refine g_aload_n (pc := 92) C dX6_readLine_92 rfl 1 rfl ?_
        refine g_aload_n (pc := 93) C dX6_readLine_93 rfl 0 rfl ?_
        refine g_bipush (pc := 94) (v := 31) C dX6_readLine_94 (by decide) ?_
        replace h := bnd3 h; obtain ⟨r5, T7, M6, h1, h⟩ := h
        have hzT7 := (mjX6_readLine_99 h).Z hZ
        refine g_callVrA (pc := 96) (As := [.int ((31 : Int32))]) (st := [.ref (x1)]) C dX6_readLine_96 wX6_readLaw hk1 rfl (by decide) q_680 q_9 q_678 (by omega) rfl (Nat.le_of_ble_eq_true rfl) (kX6_readLaw (d := 104) (Nat.le_refl _) h1) hzT7 ?_
        exact g_sub [] rfl (tjX6_readLine_99 C hR hd hZ h)
      · replace h := ifn cw21_2 h
        by_cases cw21_3 : r2 = (214 : Int32)
        · replace h := ifp cw21_3 h
          have hq : r2.toInt = 214 := by rw [cw21_3]; rfl
          refine g_tswIn (off := 101) (tgt := 105) C dX6_readLine_4 (by rw [hq]; decide) (by rw [hq]; decide) (by rw [hq]; rfl) (by decide) ?_
          refine g_aload_n (pc := 105) C dX6_readLine_105 rfl 1 rfl ?_
          refine g_aload_n (pc := 106) C dX6_readLine_106 rfl 0 rfl ?_
          refine g_bipush (pc := 107) (v := 21) C dX6_readLine_107 (by decide) ?_
          replace h := bnd3 h; obtain ⟨r10, T12, M11, h1, h⟩ := h
          have hzT12 := (mjX6_readLine_112 h).Z hZ
          refine g_callVrA (pc := 109) (As := [.int ((21 : Int32))]) (st := [.ref (x1)]) C dX6_readLine_109 wX6_readLaw hk1 rfl (by decide) q_680 q_9 q_678 (by omega) rfl (Nat.le_of_ble_eq_true rfl) (kX6_readLaw (d := 104) (Nat.le_refl _) h1) hzT12 ?_
          exact g_sub [] rfl (tjX6_readLine_112 C hR hd hZ h)
        · replace h := ifn cw21_3 h
          by_cases cw21_4 : r2 = (215 : Int32)
          · replace h := ifp cw21_4 h
            have hq : r2.toInt = 215 := by rw [cw21_4]; rfl
            refine g_tswIn (off := 114) (tgt := 118) C dX6_readLine_4 (by rw [hq]; decide) (by rw [hq]; decide) (by rw [hq]; rfl) (by decide) ?_
            refine g_aload_n (pc := 118) C dX6_readLine_118 rfl 1 rfl ?_
            refine g_aload_n (pc := 119) C dX6_readLine_119 rfl 0 rfl ?_
            refine g_bipush (pc := 120) (v := 32) C dX6_readLine_120 (by decide) ?_
            replace h := bnd3 h; obtain ⟨r15, T17, M16, h1, h⟩ := h
            have hzT17 := (mjX6_readLine_125 h).Z hZ
            refine g_callVrA (pc := 122) (As := [.int ((32 : Int32))]) (st := [.ref (x1)]) C dX6_readLine_122 wX6_readLaw hk1 rfl (by decide) q_680 q_9 q_678 (by omega) rfl (Nat.le_of_ble_eq_true rfl) (kX6_readLaw (d := 104) (Nat.le_refl _) h1) hzT17 ?_
            exact g_sub [] rfl (tjX6_readLine_125 C hR hd hZ h)
          · replace h := ifn cw21_4 h
            by_cases hs : r2.toInt < 202 ∨ 215 < r2.toInt
            · refine g_tswOut (tgt := 131) C dX6_readLine_4 hs (by decide) ?_
              refine g_aload_n (pc := 131) C dX6_readLine_131 rfl 0 rfl ?_
              refine g_iconst (pc := 132) (v := 2) C dX6_readLine_132 (by decide) ?_
              replace h := bnd2 h; obtain ⟨_u, M20, h1, h⟩ := h
              refine g_callVv (pc := 133) (As := [.int ((2 : Int32))]) (st := []) C dX6_readLine_133 wX6_fail hk1 rfl (by decide) q_660 q_4 q_658 (by omega) rfl (Nat.le_of_ble_eq_true rfl) (kX6_fail (d := 1) (Nat.le_refl _) h1) ?_
              replace h := Prod.mk.inj (Option.some.inj h); obtain ⟨-, h⟩ := h; replace h := Prod.mk.inj h; obtain ⟨rfl, rfl⟩ := h
              exact g_vret C hR dX6_readLine_136
            · have hq : r2.toInt = 203 ∨ r2.toInt = 204 ∨ r2.toInt = 205 ∨ r2.toInt = 206 ∨ r2.toInt = 207 ∨ r2.toInt = 208 ∨ r2.toInt = 209 ∨ r2.toInt = 210 ∨ r2.toInt = 211 := by
                have := sw_ne cw21_0 (i := 202) rfl
                have := sw_ne cw21_1 (i := 212) rfl
                have := sw_ne cw21_2 (i := 213) rfl
                have := sw_ne cw21_3 (i := 214) rfl
                have := sw_ne cw21_4 (i := 215) rfl
                omega
              rcases hq with hq | hq | hq | hq | hq | hq | hq | hq | hq
              · refine g_tswIn (off := 127) (tgt := 131) C dX6_readLine_4 (by rw [hq]; decide) (by rw [hq]; decide) (by rw [hq]; rfl) (by decide) ?_
                refine g_aload_n (pc := 131) C dX6_readLine_131 rfl 0 rfl ?_
                refine g_iconst (pc := 132) (v := 2) C dX6_readLine_132 (by decide) ?_
                replace h := bnd2 h; obtain ⟨_u, M20, h1, h⟩ := h
                refine g_callVv (pc := 133) (As := [.int ((2 : Int32))]) (st := []) C dX6_readLine_133 wX6_fail hk1 rfl (by decide) q_660 q_4 q_658 (by omega) rfl (Nat.le_of_ble_eq_true rfl) (kX6_fail (d := 1) (Nat.le_refl _) h1) ?_
                replace h := Prod.mk.inj (Option.some.inj h); obtain ⟨-, h⟩ := h; replace h := Prod.mk.inj h; obtain ⟨rfl, rfl⟩ := h
                exact g_vret C hR dX6_readLine_136
              · refine g_tswIn (off := 127) (tgt := 131) C dX6_readLine_4 (by rw [hq]; decide) (by rw [hq]; decide) (by rw [hq]; rfl) (by decide) ?_
                refine g_aload_n (pc := 131) C dX6_readLine_131 rfl 0 rfl ?_
                refine g_iconst (pc := 132) (v := 2) C dX6_readLine_132 (by decide) ?_
                replace h := bnd2 h; obtain ⟨_u, M20, h1, h⟩ := h
                refine g_callVv (pc := 133) (As := [.int ((2 : Int32))]) (st := []) C dX6_readLine_133 wX6_fail hk1 rfl (by decide) q_660 q_4 q_658 (by omega) rfl (Nat.le_of_ble_eq_true rfl) (kX6_fail (d := 1) (Nat.le_refl _) h1) ?_
                replace h := Prod.mk.inj (Option.some.inj h); obtain ⟨-, h⟩ := h; replace h := Prod.mk.inj h; obtain ⟨rfl, rfl⟩ := h
                exact g_vret C hR dX6_readLine_136
              · refine g_tswIn (off := 127) (tgt := 131) C dX6_readLine_4 (by rw [hq]; decide) (by rw [hq]; decide) (by rw [hq]; rfl) (by decide) ?_
                refine g_aload_n (pc := 131) C dX6_readLine_131 rfl 0 rfl ?_
                refine g_iconst (pc := 132) (v := 2) C dX6_readLine_132 (by decide) ?_
                replace h := bnd2 h; obtain ⟨_u, M20, h1, h⟩ := h
                refine g_callVv (pc := 133) (As := [.int ((2 : Int32))]) (st := []) C dX6_readLine_133 wX6_fail hk1 rfl (by decide) q_660 q_4 q_658 (by omega) rfl (Nat.le_of_ble_eq_true rfl) (kX6_fail (d := 1) (Nat.le_refl _) h1) ?_
                replace h := Prod.mk.inj (Option.some.inj h); obtain ⟨-, h⟩ := h; replace h := Prod.mk.inj h; obtain ⟨rfl, rfl⟩ := h
                exact g_vret C hR dX6_readLine_136
              · refine g_tswIn (off := 127) (tgt := 131) C dX6_readLine_4 (by rw [hq]; decide) (by rw [hq]; decide) (by rw [hq]; rfl) (by decide) ?_
                refine g_aload_n (pc := 131) C dX6_readLine_131 rfl 0 rfl ?_
                refine g_iconst (pc := 132) (v := 2) C dX6_readLine_132 (by decide) ?_
                replace h := bnd2 h; obtain ⟨_u, M20, h1, h⟩ := h
                refine g_callVv (pc := 133) (As := [.int ((2 : Int32))]) (st := []) C dX6_readLine_133 wX6_fail hk1 rfl (by decide) q_660 q_4 q_658 (by omega) rfl (Nat.le_of_ble_eq_true rfl) (kX6_fail (d := 1) (Nat.le_refl _) h1) ?_
                replace h := Prod.mk.inj (Option.some.inj h); obtain ⟨-, h⟩ := h; replace h := Prod.mk.inj h; obtain ⟨rfl, rfl⟩ := h
                exact g_vret C hR dX6_readLine_136
              · refine g_tswIn (off := 127) (tgt := 131) C dX6_readLine_4 (by rw [hq]; decide) (by rw [hq]; decide) (by rw [hq]; rfl) (by decide) ?_
                refine g_aload_n (pc := 131) C dX6_readLine_131 rfl 0 rfl ?_
                refine g_iconst (pc := 132) (v := 2) C dX6_readLine_132 (by decide) ?_
                replace h := bnd2 h; obtain ⟨_u, M20, h1, h⟩ := h
                refine g_callVv (pc := 133) (As := [.int ((2 : Int32))]) (st := []) C dX6_readLine_133 wX6_fail hk1 rfl (by decide) q_660 q_4 q_658 (by omega) rfl (Nat.le_of_ble_eq_true rfl) (kX6_fail (d := 1) (Nat.le_refl _) h1) ?_
                replace h := Prod.mk.inj (Option.some.inj h); obtain ⟨-, h⟩ := h; replace h := Prod.mk.inj h; obtain ⟨rfl, rfl⟩ := h
                exact g_vret C hR dX6_readLine_136
              · refine g_tswIn (off := 127) (tgt := 131) C dX6_readLine_4 (by rw [hq]; decide) (by rw [hq]; decide) (by rw [hq]; rfl) (by decide) ?_
                refine g_aload_n (pc := 131) C dX6_readLine_131 rfl 0 rfl ?_
                refine g_iconst (pc := 132) (v := 2) C dX6_readLine_132 (by decide) ?_
                replace h := bnd2 h; obtain ⟨_u, M20, h1, h⟩ := h
                refine g_callVv (pc := 133) (As := [.int ((2 : Int32))]) (st := []) C dX6_readLine_133 wX6_fail hk1 rfl (by decide) q_660 q_4 q_658 (by omega) rfl (Nat.le_of_ble_eq_true rfl) (kX6_fail (d := 1) (Nat.le_refl _) h1) ?_
                replace h := Prod.mk.inj (Option.some.inj h); obtain ⟨-, h⟩ := h; replace h := Prod.mk.inj h; obtain ⟨rfl, rfl⟩ := h
                exact g_vret C hR dX6_readLine_136
              · refine g_tswIn (off := 127) (tgt := 131) C dX6_readLine_4 (by rw [hq]; decide) (by rw [hq]; decide) (by rw [hq]; rfl) (by decide) ?_
                refine g_aload_n (pc := 131) C dX6_readLine_131 rfl 0 rfl ?_
                refine g_iconst (pc := 132) (v := 2) C dX6_readLine_132 (by decide) ?_
                replace h := bnd2 h; obtain ⟨_u, M20, h1, h⟩ := h
                refine g_callVv (pc := 133) (As := [.int ((2 : Int32))]) (st := []) C dX6_readLine_133 wX6_fail hk1 rfl (by decide) q_660 q_4 q_658 (by omega) rfl (Nat.le_of_ble_eq_true rfl) (kX6_fail (d := 1) (Nat.le_refl _) h1) ?_
                replace h := Prod.mk.inj (Option.some.inj h); obtain ⟨-, h⟩ := h; replace h := Prod.mk.inj h; obtain ⟨rfl, rfl⟩ := h
                exact g_vret C hR dX6_readLine_136
              · refine g_tswIn (off := 127) (tgt := 131) C dX6_readLine_4 (by rw [hq]; decide) (by rw [hq]; decide) (by rw [hq]; rfl) (by decide) ?_
                refine g_aload_n (pc := 131) C dX6_readLine_131 rfl 0 rfl ?_
                refine g_iconst (pc := 132) (v := 2) C dX6_readLine_132 (by decide) ?_
                replace h := bnd2 h; obtain ⟨_u, M20, h1, h⟩ := h
                refine g_callVv (pc := 133) (As := [.int ((2 : Int32))]) (st := []) C dX6_readLine_133 wX6_fail hk1 rfl (by decide) q_660 q_4 q_658 (by omega) rfl (Nat.le_of_ble_eq_true rfl) (kX6_fail (d := 1) (Nat.le_refl _) h1) ?_
                replace h := Prod.mk.inj (Option.some.inj h); obtain ⟨-, h⟩ := h; replace h := Prod.mk.inj h; obtain ⟨rfl, rfl⟩ := h
                exact g_vret C hR dX6_readLine_136
              · refine g_tswIn (off := 127) (tgt := 131) C dX6_readLine_4 (by rw [hq]; decide) (by rw [hq]; decide) (by rw [hq]; rfl) (by decide) ?_
                refine g_aload_n (pc := 131) C dX6_readLine_131 rfl 0 rfl ?_
                refine g_iconst (pc := 132) (v := 2) C dX6_readLine_132 (by decide) ?_
                replace h := bnd2 h; obtain ⟨_u, M20, h1, h⟩ := h
                refine g_callVv (pc := 133) (As := [.int ((2 : Int32))]) (st := []) C dX6_readLine_133 wX6_fail hk1 rfl (by decide) q_660 q_4 q_658 (by omega) rfl (Nat.le_of_ble_eq_true rfl) (kX6_fail (d := 1) (Nat.le_refl _) h1) ?_
                replace h := Prod.mk.inj (Option.some.inj h); obtain ⟨-, h⟩ := h; replace h := Prod.mk.inj h; obtain ⟨rfl, rfl⟩ := h
                exact g_vret C hR dX6_readLine_136
theorem dX6_read_0 : decode cX6_read 0 = .ok (.aload_n 0, 1) := by decide +kernel
theorem dX6_read_1 : decode cX6_read 1 = .ok (.getfield 12, 3) := by decide +kernel
theorem dX6_read_4 : decode cX6_read 4 = .ok (.aload_n 1, 1) := by decide +kernel
theorem dX6_read_5 : decode cX6_read 5 = .ok (.iload_n 2, 1) := by decide +kernel
theorem dX6_read_6 : decode cX6_read 6 = .ok (.invokevirtual 26, 3) := by decide +kernel
theorem dX6_read_9 : decode cX6_read 9 = .ok (.aload_n 0, 1) := by decide +kernel
theorem dX6_read_10 : decode cX6_read 10 = .ok (.iconst 0, 1) := by decide +kernel
theorem dX6_read_11 : decode cX6_read 11 = .ok (.putfield 30, 3) := by decide +kernel
theorem dX6_read_14 : decode cX6_read 14 = .ok (.aload_n 0, 1) := by decide +kernel
theorem dX6_read_15 : decode cX6_read 15 = .ok (.iconst 0, 1) := by decide +kernel
theorem dX6_read_16 : decode cX6_read 16 = .ok (.putfield 33, 3) := by decide +kernel
theorem dX6_read_19 : decode cX6_read 19 = .ok (.aload_n 0, 1) := by decide +kernel
theorem dX6_read_20 : decode cX6_read 20 = .ok (.iconst (-1), 1) := by decide +kernel
theorem dX6_read_21 : decode cX6_read 21 = .ok (.putfield 18, 3) := by decide +kernel
theorem dX6_read_24 : decode cX6_read 24 = .ok (.new 36, 3) := by decide +kernel
theorem dX6_read_27 : decode cX6_read 27 = .ok (.dup, 1) := by decide +kernel
theorem dX6_read_28 : decode cX6_read 28 = .ok (.invokespecial 38, 3) := by decide +kernel
theorem dX6_read_31 : decode cX6_read 31 = .ok (.astore_n 3, 1) := by decide +kernel
theorem dX6_read_32 : decode cX6_read 32 = .ok (.aload_n 0, 1) := by decide +kernel
theorem dX6_read_33 : decode cX6_read 33 = .ok (.sipush 206, 3) := by decide +kernel
theorem dX6_read_36 : decode cX6_read 36 = .ok (.invokevirtual 39, 3) := by decide +kernel
theorem dX6_read_39 : decode cX6_read 39 = .ok (.aload_n 3, 1) := by decide +kernel
theorem dX6_read_40 : decode cX6_read 40 = .ok (.aload_n 0, 1) := by decide +kernel
theorem dX6_read_41 : decode cX6_read 41 = .ok (.sipush 207, 3) := by decide +kernel
theorem dX6_read_44 : decode cX6_read 44 = .ok (.iconst 1, 1) := by decide +kernel
theorem dX6_read_45 : decode cX6_read 45 = .ok (.bipush 9, 2) := by decide +kernel
theorem dX6_read_47 : decode cX6_read 47 = .ok (.invokevirtual 43, 3) := by decide +kernel
theorem dX6_read_50 : decode cX6_read 50 = .ok (.putfield 47, 3) := by decide +kernel
theorem dX6_read_53 : decode cX6_read 53 = .ok (.aload_n 3, 1) := by decide +kernel
theorem dX6_read_54 : decode cX6_read 54 = .ok (.aload_n 0, 1) := by decide +kernel
theorem dX6_read_55 : decode cX6_read 55 = .ok (.sipush 208, 3) := by decide +kernel
theorem dX6_read_58 : decode cX6_read 58 = .ok (.iconst 1, 1) := by decide +kernel
theorem dX6_read_59 : decode cX6_read 59 = .ok (.bipush 9, 2) := by decide +kernel
theorem dX6_read_61 : decode cX6_read 61 = .ok (.invokevirtual 43, 3) := by decide +kernel
theorem dX6_read_64 : decode cX6_read 64 = .ok (.putfield 50, 3) := by decide +kernel
theorem dX6_read_67 : decode cX6_read 67 = .ok (.aload_n 0, 1) := by decide +kernel
theorem dX6_read_68 : decode cX6_read 68 = .ok (.bipush 59, 2) := by decide +kernel
theorem dX6_read_70 : decode cX6_read 70 = .ok (.invokevirtual 39, 3) := by decide +kernel
theorem dX6_read_73 : decode cX6_read 73 = .ok (.aload_n 3, 1) := by decide +kernel
theorem dX6_read_74 : decode cX6_read 74 = .ok (.iconst 1, 1) := by decide +kernel
theorem dX6_read_75 : decode cX6_read 75 = .ok (.putfield 53, 3) := by decide +kernel
theorem dX6_read_78 : decode cX6_read 78 = .ok (.iconst 0, 1) := by decide +kernel
theorem dX6_read_79 : decode cX6_read 79 = .ok (.istore 4, 2) := by decide +kernel
theorem dX6_read_81 : decode cX6_read 81 = .ok (.iload 4, 2) := by decide +kernel
theorem dX6_read_83 : decode cX6_read 83 = .ok (.sipush 900, 3) := by decide +kernel
theorem dX6_read_86 : decode cX6_read 86 = .ok (.if_icmp .ge 44, 3) := by decide +kernel
theorem dX6_read_89 : decode cX6_read 89 = .ok (.aload_n 0, 1) := by decide +kernel
theorem dX6_read_90 : decode cX6_read 90 = .ok (.getfield 33, 3) := by decide +kernel
theorem dX6_read_93 : decode cX6_read 93 = .ok (.ifCond .ne 37, 3) := by decide +kernel
theorem dX6_read_96 : decode cX6_read 96 = .ok (.aload_n 0, 1) := by decide +kernel
theorem dX6_read_97 : decode cX6_read 97 = .ok (.invokevirtual 56, 3) := by decide +kernel
theorem dX6_read_100 : decode cX6_read 100 = .ok (.ifCond .eq 30, 3) := by decide +kernel
theorem dX6_read_103 : decode cX6_read 103 = .ok (.aload_n 0, 1) := by decide +kernel
theorem dX6_read_104 : decode cX6_read 104 = .ok (.aload_n 3, 1) := by decide +kernel
theorem dX6_read_105 : decode cX6_read 105 = .ok (.invokevirtual 60, 3) := by decide +kernel
theorem dX6_read_108 : decode cX6_read 108 = .ok (.aload_n 0, 1) := by decide +kernel
theorem dX6_read_109 : decode cX6_read 109 = .ok (.bipush 59, 2) := by decide +kernel
theorem dX6_read_111 : decode cX6_read 111 = .ok (.invokevirtual 39, 3) := by decide +kernel
theorem dX6_read_114 : decode cX6_read 114 = .ok (.aload_n 3, 1) := by decide +kernel
theorem dX6_read_115 : decode cX6_read 115 = .ok (.dup, 1) := by decide +kernel
theorem dX6_read_116 : decode cX6_read 116 = .ok (.getfield 53, 3) := by decide +kernel
theorem dX6_read_119 : decode cX6_read 119 = .ok (.iconst 1, 1) := by decide +kernel
theorem dX6_read_120 : decode cX6_read 120 = .ok (.iadd, 1) := by decide +kernel
theorem dX6_read_121 : decode cX6_read 121 = .ok (.putfield 53, 3) := by decide +kernel
theorem dX6_read_124 : decode cX6_read 124 = .ok (.iinc 4 1, 3) := by decide +kernel
theorem dX6_read_127 : decode cX6_read 127 = .ok (.goto (-46), 3) := by decide +kernel
theorem dX6_read_130 : decode cX6_read 130 = .ok (.aload_n 0, 1) := by decide +kernel
theorem dX6_read_131 : decode cX6_read 131 = .ok (.getfield 33, 3) := by decide +kernel
theorem dX6_read_134 : decode cX6_read 134 = .ok (.ifCond .ne 7, 3) := by decide +kernel
theorem dX6_read_137 : decode cX6_read 137 = .ok (.aload_n 3, 1) := by decide +kernel
theorem dX6_read_138 : decode cX6_read 138 = .ok (.goto 4, 3) := by decide +kernel
theorem dX6_read_141 : decode cX6_read 141 = .ok (.aconst_null, 1) := by decide +kernel
theorem dX6_read_142 : decode cX6_read 142 = .ok (.areturn, 1) := by decide +kernel
theorem wX6_read : Mw yX6_read cX6_read 5 (some (.object "EyeTrainer$Lab")) 2 := ⟨q_482, q_121, by decide, ⟨by decide +kernel, by decide +kernel⟩, by decide +kernel, by decide +kernel⟩
-- a loop of EyeTrainer$Reader.read at 81
def jX6_read_108 (T : Sh) (M : Me) (x0 : Nat) (x3 : Nat) (x4 : Int32) : Option ((Int32 × Sh × Me) ⊕ ((Sh × Me))) :=
  gd (kd T x0 = 5) <| Option.bind (fX6_expect T M x0 (59 : Int32)) <| un2 fun _u M29 => gd (kd T x3 = 2) <| lt (pI M29 x3 9 ((gI M29 x3 9) + (1 : Int32))) fun M31 => lt (x4 + (1 : Int32)) fun v32 => some (.inl (v32, T, M31))
def bX6_read_81 (x0 : Nat) (x3 : Nat) (x4 : Int32) (T : Sh) (M : Me) : Option ((Int32 × Sh × Me) ⊕ ((Sh × Me))) :=
  if (900 : Int32) ≤ x4 then (some (.inr (T, M))) else (gd (kd T x0 = 5) <| if (gI M x0 2) = 0 then (Option.bind (fX6_kind T M x0) fun r24 => if r24 = 0 then (some (.inr (T, M))) else (Option.bind (fX6_readLine T M x0 x3) <| un3 fun _u T27 M26 => jX6_read_108 T27 M26 x0 x3 x4)) else (some (.inr (T, M))))
def PX6_read_81 (X : Fx) (B : Bx) (Z : Nat × Nat × Nat × Nat) (Q : State → Prop) (x0 : Nat) (x3 : Nat) (s : Int32 × Sh × Me) : Prop := G X B 5 Z Q 81 [(0, .ref (x0)), (3, .ref (x3)), (4, .int (s.1))] [] s.2.1 s.2.2
def EX6_read_81 (X : Fx) (B : Bx) (Z : Nat × Nat × Nat × Nat) (Q : State → Prop) (x0 : Nat) (x3 : Nat) (r : (Sh × Me)) : Prop := G X B 5 Z Q 130 [(0, .ref (x0)), (3, .ref (x3))] [] r.1 r.2
theorem mjX6_read_108 {T : Sh} {M : Me} {x0 : Nat} {x3 : Nat} {x4 : Int32} {o : (Int32 × Sh × Me) ⊕ ((Sh × Me))} (h : jX6_read_108 T M x0 x3 x4 = some o) : leT T ((Sum.elim (fun s : Int32 × Sh × Me => s.2.1) (fun r : Sh × Me => r.1)) o) := by
  unfold jX6_read_108 at h
  replace h := gd_some h; obtain ⟨hk28, h⟩ := h
  replace h := bnd2 h; obtain ⟨_u, M29, h1, h⟩ := h
  replace h := gd_some h; obtain ⟨hk30, h⟩ := h
  obtain ⟨M31, eM31⟩ : ∃ y : Me, y = pI M29 x3 9 ((gI M29 x3 9) + (1 : Int32)) := ⟨_, rfl⟩
  replace h := lt_at eM31 h
  obtain ⟨v32, ev32⟩ : ∃ y : Int32, y = x4 + (1 : Int32) := ⟨_, rfl⟩
  replace h := lt_at ev32 h
  obtain rfl := Option.some.inj h
  exact leT.rfl
set_option maxHeartbeats 4000000 in
theorem tjX6_read_108 {X : Fx} {B : Bx} {Z : Nat × Nat × Nat × Nat} {Q : State → Prop} {d : Nat} {T : Sh} {M : Me} {x0 : Nat} {x3 : Nat} {x4 : Int32} {o : (Int32 × Sh × Me) ⊕ ((Sh × Me))} (C : Cx X B cX6_read 5 RX6 d Z) (hd : 106 ≤ d) (hZ : leZ ((Sum.elim (fun s : Int32 × Sh × Me => s.2.1) (fun r : Sh × Me => r.1)) o) Z) (h : jX6_read_108 T M x0 x3 x4 = some o) (hE : lpE (PX6_read_81 X B Z Q x0 x3) (EX6_read_81 X B Z Q x0 x3) o) : G X B 5 Z Q 108 [(0, .ref (x0)), (3, .ref (x3)), (4, .int (x4))] [] T M := by
  unfold jX6_read_108 at h
  refine g_aload_n (pc := 108) C dX6_read_108 rfl 0 rfl ?_
  refine g_bipush (pc := 109) (v := 59) C dX6_read_109 (by decide) ?_
  replace h := gd_some h; obtain ⟨hk28, h⟩ := h
  replace h := bnd2 h; obtain ⟨_u, M29, h1, h⟩ := h
  refine g_callVv (pc := 111) (As := [.int ((59 : Int32))]) (st := []) C dX6_read_111 wX6_expect hk28 rfl (by decide) q_652 q_2 q_650 (by omega) rfl (Nat.le_of_ble_eq_true rfl) (kX6_expect (d := 2) (Nat.le_refl _) h1) ?_
  refine g_aload_n (pc := 114) C dX6_read_114 rfl 1 rfl ?_
  refine g_dup (pc := 115) C dX6_read_115 rfl ?_
  replace h := gd_some h; obtain ⟨hk30, h⟩ := h
  refine g_get (pc := 116) (v := .int (gI M29 x3 9)) C dX6_read_116 kX3 hk30 9 (by decide) q_245 rfl ?_
  refine g_iconst (pc := 119) (v := 1) C dX6_read_119 (by decide) ?_
  refine g_iadd (pc := 120) C dX6_read_120 ?_
  refine g_putI (pc := 121) C dX6_read_121 kX3 hk30 9 (by decide) rfl rfl rfl q_245 ?_
  refine g_mem (fun M31 eM31 => ?_)
  replace h := lt_at eM31 h
  obtain ⟨v32, ev32⟩ : ∃ y : Int32, y = x4 + (1 : Int32) := ⟨_, rfl⟩
  replace h := lt_at ev32 h
  refine g_iinc (pc := 124) (v := v32) (k := 2) (lo2 := [(4, .int (v32)), (0, .ref (x0)), (3, .ref (x3))]) C dX6_read_124 rfl (by rw [ev32]; rfl) (by decide) rfl ?_
  refine g_goto (pc := 127) (tgt := 81) C dX6_read_127 (by decide) ?_
  obtain rfl := Option.some.inj h
  exact g_sub [1, 2, 0] rfl (show G X B 5 Z Q 81 [(0, .ref (x0)), (3, .ref (x3)), (4, .int (v32))] [] T M31 from hE)
theorem mbX6_read_81 {x0 : Nat} {x3 : Nat} : ∀ (s : Int32 × Sh × Me) (o : (Int32 × Sh × Me) ⊕ ((Sh × Me))), bX6_read_81 x0 x3 s.1 s.2.1 s.2.2 = some o → leT ((fun s : Int32 × Sh × Me => s.2.1) s) ((Sum.elim (fun s : Int32 × Sh × Me => s.2.1) (fun r : Sh × Me => r.1)) o) := by
  rintro ⟨x4, T, M⟩ o h
  replace h : bX6_read_81 x0 x3 x4 T M = some o := h
  unfold bX6_read_81 at h
  by_cases c21 : (900 : Int32) ≤ x4
  · replace h := ifp c21 h
    obtain rfl := Option.some.inj h
    exact leT.rfl
  · replace h := ifn c21 h
    replace h := gd_some h; obtain ⟨hk22, h⟩ := h
    by_cases c23 : (gI M x0 2) = 0
    · replace h := ifp c23 h
      replace h := bnd h; obtain ⟨r24, h1, h⟩ := h
      by_cases c25 : r24 = 0
      · replace h := ifp c25 h
        obtain rfl := Option.some.inj h
        exact leT.rfl
      · replace h := ifn c25 h
        replace h := bnd3 h; obtain ⟨_u, T27, M26, h1, h⟩ := h
        have hmT27 := mX6_readLine h1
        exact (leT.rfl.trans hmT27).trans (mjX6_read_108 h)
    · replace h := ifn c23 h
      obtain rfl := Option.some.inj h
      exact leT.rfl
set_option maxHeartbeats 4000000 in
theorem tbX6_read_81 {X : Fx} {B : Bx} {Z : Nat × Nat × Nat × Nat} {Q : State → Prop} {d : Nat} (C : Cx X B cX6_read 5 RX6 d Z) (hd : 106 ≤ d) {x0 : Nat} {x3 : Nat} : ∀ (s : Int32 × Sh × Me) (o : (Int32 × Sh × Me) ⊕ ((Sh × Me))), bX6_read_81 x0 x3 s.1 s.2.1 s.2.2 = some o → leZ ((Sum.elim (fun s : Int32 × Sh × Me => s.2.1) (fun r : Sh × Me => r.1)) o) Z → lpE (PX6_read_81 X B Z Q x0 x3) (EX6_read_81 X B Z Q x0 x3) o → PX6_read_81 X B Z Q x0 x3 s := by
  rintro ⟨x4, T, M⟩ o h hZ hE
  replace h : bX6_read_81 x0 x3 x4 T M = some o := h
  unfold bX6_read_81 at h
  show G X B 5 Z Q 81 [(0, .ref (x0)), (3, .ref (x3)), (4, .int (x4))] [] T M
  refine g_iload (pc := 81) C dX6_read_81 2 rfl ?_
  refine g_sipush (pc := 83) (v := 900) C dX6_read_83 (by decide) ?_
  refine g_icmp_ge (pc := 86) (tgt := 130) C dX6_read_86 (by decide) (fun c21 => ?_) (fun c21 => ?_)
  · replace h := ifp c21 h
    obtain rfl := Option.some.inj h
    exact g_sub [0, 1] rfl (show G X B 5 Z Q 130 [(0, .ref (x0)), (3, .ref (x3))] [] T M from hE)
  · replace h := ifn c21 h
    refine g_aload_n (pc := 89) C dX6_read_89 rfl 0 rfl ?_
    replace h := gd_some h; obtain ⟨hk22, h⟩ := h
    refine g_get (pc := 90) (v := .int (gI M x0 2)) C dX6_read_90 kX6 hk22 2 (by decide) q_182 rfl ?_
    refine g_if_ne (pc := 93) (tgt := 130) C dX6_read_93 (by decide) (fun c23 => ?_) (fun c23 => ?_)
    · replace h := ifn c23 h
      obtain rfl := Option.some.inj h
      exact g_sub [0, 1] rfl (show G X B 5 Z Q 130 [(0, .ref (x0)), (3, .ref (x3))] [] T M from hE)
    · replace h := ifp c23 h
      refine g_aload_n (pc := 96) C dX6_read_96 rfl 0 rfl ?_
      replace h := bnd h; obtain ⟨r24, h1, h⟩ := h
      refine g_callVi (pc := 97) (As := []) (st := []) C dX6_read_97 wX6_kind hk22 rfl (by decide) q_656 q_3 q_654 (by omega) rfl (Nat.le_of_ble_eq_true rfl) (kX6_kind (d := 0) (Nat.le_refl _) h1) ?_
      refine g_if_eq (pc := 100) (tgt := 130) C dX6_read_100 (by decide) (fun c25 => ?_) (fun c25 => ?_)
      · replace h := ifp c25 h
        obtain rfl := Option.some.inj h
        exact g_sub [0, 1] rfl (show G X B 5 Z Q 130 [(0, .ref (x0)), (3, .ref (x3))] [] T M from hE)
      · replace h := ifn c25 h
        refine g_aload_n (pc := 103) C dX6_read_103 rfl 0 rfl ?_
        refine g_aload_n (pc := 104) C dX6_read_104 rfl 1 rfl ?_
        replace h := bnd3 h; obtain ⟨_u, T27, M26, h1, h⟩ := h
        have hzT27 := (mjX6_read_108 h).Z hZ
        refine g_callVvA (pc := 105) (As := [.ref (x3)]) (st := []) C dX6_read_105 wX6_readLine hk22 rfl (by decide) q_668 q_6 q_666 (by omega) rfl (Nat.le_of_ble_eq_true rfl) (kX6_readLine (d := 105) (Nat.le_refl _) h1) hzT27 ?_
        exact g_sub [0, 1, 2] rfl (tjX6_read_108 C hd hZ h hE)
def jX6_read_130 (T : Sh) (M : Me) (x0 : Nat) (x3 : Nat) : Option (Option Nat × Sh × Me) :=
  gd (kd T x0 = 5) <| if (gI M x0 2) = 0 then (some ((some x3), T, M)) else (some (none, T, M))
theorem mjX6_read_130 {T : Sh} {M : Me} {x0 : Nat} {x3 : Nat} {r : Option Nat} {T' : Sh} {M' : Me} (h : jX6_read_130 T M x0 x3 = some (r, T', M')) : leT T T' := by
  unfold jX6_read_130 at h
  replace h := gd_some h; obtain ⟨hk35, h⟩ := h
  by_cases c36 : (gI M x0 2) = 0
  · replace h := ifp c36 h
    replace h := Prod.mk.inj (Option.some.inj h); obtain ⟨rfl, h⟩ := h; replace h := Prod.mk.inj h; obtain ⟨rfl, rfl⟩ := h
    exact leT.rfl
  · replace h := ifn c36 h
    replace h := Prod.mk.inj (Option.some.inj h); obtain ⟨rfl, h⟩ := h; replace h := Prod.mk.inj h; obtain ⟨rfl, rfl⟩ := h
    exact leT.rfl
set_option maxHeartbeats 4000000 in
theorem tjX6_read_130 {X : Fx} {B : Bx} {Z : Nat × Nat × Nat × Nat} {d : Nat} {T : Sh} {M : Me} {x0 : Nat} {x3 : Nat} {r : Option Nat} {T' : Sh} {M' : Me} (C : Cx X B cX6_read 5 RX6 d Z) (hR : Rx X (some (.object "EyeTrainer$Lab"))) (hd : 106 ≤ d) (hZ : leZ T' Z) (h : jX6_read_130 T M x0 x3 = some (r, T', M')) : G X B 5 Z (Qf X B Z (some (va_rf r)) T' M') 130 [(0, .ref (x0)), (3, .ref (x3))] [] T M := by
  unfold jX6_read_130 at h
  refine g_aload_n (pc := 130) C dX6_read_130 rfl 0 rfl ?_
  replace h := gd_some h; obtain ⟨hk35, h⟩ := h
  refine g_get (pc := 131) (v := .int (gI M x0 2)) C dX6_read_131 kX6 hk35 2 (by decide) q_182 rfl ?_
  refine g_if_ne (pc := 134) (tgt := 141) C dX6_read_134 (by decide) (fun c36 => ?_) (fun c36 => ?_)
  · replace h := ifn c36 h
    refine g_null (pc := 141) C dX6_read_141 ?_
    replace h := Prod.mk.inj (Option.some.inj h); obtain ⟨rfl, h⟩ := h; replace h := Prod.mk.inj h; obtain ⟨rfl, rfl⟩ := h
    exact g_aret (x := none) C hR (Or.inl ⟨_, rfl⟩) dX6_read_142
  · replace h := ifp c36 h
    refine g_aload_n (pc := 137) C dX6_read_137 rfl 1 rfl ?_
    refine g_goto (pc := 138) (tgt := 142) C dX6_read_138 (by decide) ?_
    replace h := Prod.mk.inj (Option.some.inj h); obtain ⟨rfl, h⟩ := h; replace h := Prod.mk.inj h; obtain ⟨rfl, rfl⟩ := h
    exact g_aret (x := (some x3)) C hR (Or.inl ⟨_, rfl⟩) dX6_read_142
def jX6_read_31 (T : Sh) (M : Me) (x0 : Nat) (s0 : Nat) : Option (Option Nat × Sh × Me) :=
  gd (kd T x0 = 5) <| Option.bind (fX6_expect T M x0 (206 : Int32)) <| un2 fun _u M11 => Option.bind (fX6_numberBehind T M11 x0 (207 : Int32) (1 : Int32) (9 : Int32)) <| un2 fun r12 M13 => gd (kd T s0 = 2) <| lt (pI M13 s0 5 r12) fun M15 => Option.bind (fX6_numberBehind T M15 x0 (208 : Int32) (1 : Int32) (9 : Int32)) <| un2 fun r16 M17 => lt (pI M17 s0 6 r16) fun M18 => Option.bind (fX6_expect T M18 x0 (59 : Int32)) <| un2 fun _u M19 => lt (pI M19 s0 9 (1 : Int32)) fun M20 => (lp FU (fun s => bX6_read_81 x0 s0 s.1 s.2.1 s.2.2) ((0 : Int32), T, M20)).bind (un2 fun T33 M34 => jX6_read_130 T33 M34 x0 s0)
theorem mjX6_read_31 {T : Sh} {M : Me} {x0 : Nat} {s0 : Nat} {r : Option Nat} {T' : Sh} {M' : Me} (h : jX6_read_31 T M x0 s0 = some (r, T', M')) : leT T T' := by
  unfold jX6_read_31 at h
  replace h := gd_some h; obtain ⟨hk10, h⟩ := h
  replace h := bnd2 h; obtain ⟨_u, M11, h1, h⟩ := h
  replace h := bnd2 h; obtain ⟨r12, M13, h1, h⟩ := h
  replace h := gd_some h; obtain ⟨hk14, h⟩ := h
  obtain ⟨M15, eM15⟩ : ∃ y : Me, y = pI M13 s0 5 r12 := ⟨_, rfl⟩
  replace h := lt_at eM15 h
  replace h := bnd2 h; obtain ⟨r16, M17, h1, h⟩ := h
  obtain ⟨M18, eM18⟩ : ∃ y : Me, y = pI M17 s0 6 r16 := ⟨_, rfl⟩
  replace h := lt_at eM18 h
  replace h := bnd2 h; obtain ⟨_u, M19, h1, h⟩ := h
  obtain ⟨M20, eM20⟩ : ∃ y : Me, y = pI M19 s0 9 (1 : Int32) := ⟨_, rfl⟩
  replace h := lt_at eM20 h
  replace h := bnd2 h; obtain ⟨T33, M34, h1, h⟩ := h
  have hml := lp_mono (mbX6_read_81) h1
  exact (leT.rfl.trans hml).trans (mjX6_read_130 h)
set_option maxHeartbeats 4000000 in
theorem tjX6_read_31 {X : Fx} {B : Bx} {Z : Nat × Nat × Nat × Nat} {d : Nat} {T : Sh} {M : Me} {x0 : Nat} {s0 : Nat} {r : Option Nat} {T' : Sh} {M' : Me} (C : Cx X B cX6_read 5 RX6 d Z) (hR : Rx X (some (.object "EyeTrainer$Lab"))) (hd : 106 ≤ d) (hZ : leZ T' Z) (h : jX6_read_31 T M x0 s0 = some (r, T', M')) : G X B 5 Z (Qf X B Z (some (va_rf r)) T' M') 31 [(0, .ref (x0))] [.ref (s0)] T M := by
  unfold jX6_read_31 at h
  refine g_astore_n (pc := 31) (lo2 := [(3, .ref (s0)), (0, .ref (x0))]) C dX6_read_31 rfl (by decide) rfl ?_
  refine g_aload_n (pc := 32) C dX6_read_32 rfl 1 rfl ?_
  refine g_sipush (pc := 33) (v := 206) C dX6_read_33 (by decide) ?_
  replace h := gd_some h; obtain ⟨hk10, h⟩ := h
  replace h := bnd2 h; obtain ⟨_u, M11, h1, h⟩ := h
  refine g_callVv (pc := 36) (As := [.int ((206 : Int32))]) (st := []) C dX6_read_36 wX6_expect hk10 rfl (by decide) q_652 q_2 q_650 (by omega) rfl (Nat.le_of_ble_eq_true rfl) (kX6_expect (d := 2) (Nat.le_refl _) h1) ?_
  refine g_aload_n (pc := 39) C dX6_read_39 rfl 0 rfl ?_
  refine g_aload_n (pc := 40) C dX6_read_40 rfl 1 rfl ?_
  refine g_sipush (pc := 41) (v := 207) C dX6_read_41 (by decide) ?_
  refine g_iconst (pc := 44) (v := 1) C dX6_read_44 (by decide) ?_
  refine g_bipush (pc := 45) (v := 9) C dX6_read_45 (by decide) ?_
  replace h := bnd2 h; obtain ⟨r12, M13, h1, h⟩ := h
  refine g_callVi (pc := 47) (As := [.int ((207 : Int32)), .int ((1 : Int32)), .int ((9 : Int32))]) (st := [.ref (s0)]) C dX6_read_47 wX6_numberBehind hk10 rfl (by decide) q_664 q_5 q_662 (by omega) rfl (Nat.le_of_ble_eq_true rfl) (kX6_numberBehind (d := 3) (Nat.le_refl _) h1) ?_
  replace h := gd_some h; obtain ⟨hk14, h⟩ := h
  refine g_putI (pc := 50) C dX6_read_50 kX3 hk14 5 (by decide) rfl rfl rfl q_236 ?_
  refine g_mem (fun M15 eM15 => ?_)
  replace h := lt_at eM15 h
  refine g_aload_n (pc := 53) C dX6_read_53 rfl 0 rfl ?_
  refine g_aload_n (pc := 54) C dX6_read_54 rfl 1 rfl ?_
  refine g_sipush (pc := 55) (v := 208) C dX6_read_55 (by decide) ?_
  refine g_iconst (pc := 58) (v := 1) C dX6_read_58 (by decide) ?_
  refine g_bipush (pc := 59) (v := 9) C dX6_read_59 (by decide) ?_
  replace h := bnd2 h; obtain ⟨r16, M17, h1, h⟩ := h
  refine g_callVi (pc := 61) (As := [.int ((208 : Int32)), .int ((1 : Int32)), .int ((9 : Int32))]) (st := [.ref (s0)]) C dX6_read_61 wX6_numberBehind hk10 rfl (by decide) q_664 q_5 q_662 (by omega) rfl (Nat.le_of_ble_eq_true rfl) (kX6_numberBehind (d := 3) (Nat.le_refl _) h1) ?_
  refine g_putI (pc := 64) C dX6_read_64 kX3 hk14 6 (by decide) rfl rfl rfl q_239 ?_
  refine g_mem (fun M18 eM18 => ?_)
  replace h := lt_at eM18 h
  refine g_aload_n (pc := 67) C dX6_read_67 rfl 1 rfl ?_
  refine g_bipush (pc := 68) (v := 59) C dX6_read_68 (by decide) ?_
  replace h := bnd2 h; obtain ⟨_u, M19, h1, h⟩ := h
  refine g_callVv (pc := 70) (As := [.int ((59 : Int32))]) (st := []) C dX6_read_70 wX6_expect hk10 rfl (by decide) q_652 q_2 q_650 (by omega) rfl (Nat.le_of_ble_eq_true rfl) (kX6_expect (d := 2) (Nat.le_refl _) h1) ?_
  refine g_aload_n (pc := 73) C dX6_read_73 rfl 0 rfl ?_
  refine g_iconst (pc := 74) (v := 1) C dX6_read_74 (by decide) ?_
  refine g_putI (pc := 75) C dX6_read_75 kX3 hk14 9 (by decide) rfl rfl rfl q_245 ?_
  refine g_mem (fun M20 eM20 => ?_)
  replace h := lt_at eM20 h
  refine g_iconst (pc := 78) (v := 0) C dX6_read_78 (by decide) ?_
  refine g_istore (pc := 79) (lo2 := [(4, .int ((0 : Int32))), (3, .ref (s0)), (0, .ref (x0))]) C dX6_read_79 (by decide) rfl ?_
  replace h := bnd2 h; obtain ⟨T33, M34, h1, h⟩ := h
  refine g_sub [2, 1, 0] rfl ?_
  refine lp_G3 (P := PX6_read_81 X B _ _ x0 s0) (E := EX6_read_81 X B _ _ x0 s0) (mbX6_read_81) (tbX6_read_81 C hd) h1 ((mjX6_read_130 h).Z hZ) ?_
  show G X B 5 _ _ 130 [(0, .ref (x0)), (3, .ref (s0))] [] T33 M34
  exact g_sub [0, 1] rfl (tjX6_read_130 C hR hd hZ h)
def jX6_read_27 (T : Sh) (M : Me) (x0 : Nat) (s0 : Nat) : Option (Option Nat × Sh × Me) :=
  Option.bind (fX3_init T M s0) <| un3 fun _u T9 M8 => jX6_read_31 T9 M8 x0 s0
theorem mjX6_read_27 {T : Sh} {M : Me} {x0 : Nat} {s0 : Nat} {r : Option Nat} {T' : Sh} {M' : Me} (h : jX6_read_27 T M x0 s0 = some (r, T', M')) : leT T T' := by
  unfold jX6_read_27 at h
  replace h := bnd3 h; obtain ⟨_u, T9, M8, h1, h⟩ := h
  have hmT9 := mX3_init h1
  exact (leT.rfl.trans hmT9).trans (mjX6_read_31 h)
set_option maxHeartbeats 4000000 in
theorem tjX6_read_27 {X : Fx} {B : Bx} {Z : Nat × Nat × Nat × Nat} {d : Nat} {T : Sh} {M : Me} {x0 : Nat} {s0 : Nat} {r : Option Nat} {T' : Sh} {M' : Me} (C : Cx X B cX6_read 5 RX6 d Z) (hR : Rx X (some (.object "EyeTrainer$Lab"))) (hd : 106 ≤ d) (hZ : leZ T' Z) (h : jX6_read_27 T M x0 s0 = some (r, T', M')) : G X B 5 Z (Qf X B Z (some (va_rf r)) T' M') 27 [(0, .ref (x0))] [.ref (s0)] T M := by
  unfold jX6_read_27 at h
  refine g_dup (pc := 27) C dX6_read_27 rfl ?_
  replace h := bnd3 h; obtain ⟨_u, T9, M8, h1, h⟩ := h
  have hzT9 := (mjX6_read_31 h).Z hZ
  refine g_callIvA (pc := 28) (As := []) (st := [.ref (s0)]) C dX6_read_28 wX3_init q_212 rfl rfl q_649 (by omega) rfl (Nat.le_of_ble_eq_true rfl) (kX3_init (d := 1) (Nat.le_refl _) h1) hzT9 ?_
  exact g_sub [0] rfl (tjX6_read_31 C hR hd hZ h)
/-- EyeTrainer$Reader.read([BI)LEyeTrainer$Lab; -/
def fX6_read (T : Sh) (M : Me) (x0 : Nat) (x1 : Nat) (x2 : Int32) : Option (Option Nat × Sh × Me) :=
  gd (kd T x0 = 5) <| Option.bind (gR M x0 0) fun a2 => gd (kd T a2 = 8) <| Option.bind (fX9_cut T M a2 x1 x2) <| un2 fun _u M4 => lt (pI M4 x0 1 (0 : Int32)) fun M5 => lt (pI M5 x0 2 (0 : Int32)) fun M6 => lt (pI M6 x0 3 (-1 : Int32)) fun M7 => jX6_read_27 (nT T 2 0 13) (nM T M7) x0 (tp T)
theorem mX6_read {T : Sh} {M : Me} {x0 : Nat} {x1 : Nat} {x2 : Int32} {r : Option Nat} {T' : Sh} {M' : Me} (h : fX6_read T M x0 x1 x2 = some (r, T', M')) : leT T T' := by
  unfold fX6_read at h
  replace h := gd_some h; obtain ⟨hk1, h⟩ := h
  replace h := bnd h; obtain ⟨a2, ea2, h⟩ := h
  replace h := gd_some h; obtain ⟨hk3, h⟩ := h
  replace h := bnd2 h; obtain ⟨_u, M4, h1, h⟩ := h
  obtain ⟨M5, eM5⟩ : ∃ y : Me, y = pI M4 x0 1 (0 : Int32) := ⟨_, rfl⟩
  replace h := lt_at eM5 h
  obtain ⟨M6, eM6⟩ : ∃ y : Me, y = pI M5 x0 2 (0 : Int32) := ⟨_, rfl⟩
  replace h := lt_at eM6 h
  obtain ⟨M7, eM7⟩ : ∃ y : Me, y = pI M6 x0 3 (-1 : Int32) := ⟨_, rfl⟩
  replace h := lt_at eM7 h
  exact (leT.rfl.trans (leT.new _ _ _ _)).trans (mjX6_read_27 h)
set_option maxHeartbeats 4000000 in
theorem kX6_read {l : Launch} {B : Bx} {d : Nat} (hd : 106 ≤ d) {T : Sh} {M : Me} {x0 : Nat} {x1 : Nat} {x2 : Int32} {r : Option Nat} {T' : Sh} {M' : Me} (h : fX6_read T M x0 x1 x2 = some (r, T', M')) : Kt l B yX6_read cX6_read 5 (some (.object "EyeTrainer$Lab")) d [.ref (x0), .ref (x1), .int (x2)] T M (some (va_rf r)) T' M' := by
  have hmm := mX6_read h
  refine kt_of wX6_read hmm.1 hmm.2 (Nat.le_of_ble_eq_true rfl) (fun X C hR hlx hin => ?_)
  subst hlx
  replace C : Cx X B cX6_read 5 RX6 d (tp T, sl T, tp T', sl T') := C
  have hZ : leZ T' (tp T, sl T, tp T', sl T') := ⟨Nat.le_refl _, Nat.le_refl _⟩
  unfold fX6_read at h
  show G X B 5 _ _ 0 [(0, .ref (x0)), (1, .ref (x1)), (2, .int (x2))] [] T M
  refine g_aload_n (pc := 0) C dX6_read_0 rfl 0 rfl ?_
  replace h := gd_some h; obtain ⟨hk1, h⟩ := h
  refine g_get (pc := 1) (v := va_rf (gR M x0 0)) C dX6_read_1 kX6 hk1 0 (by decide) q_180 rfl ?_
  replace h := bnd h; obtain ⟨a2, ea2, h⟩ := h
  refine g_refq ea2 ?_
  refine g_aload_n (pc := 4) C dX6_read_4 rfl 1 rfl ?_
  refine g_iload_n (pc := 5) C dX6_read_5 rfl 2 rfl ?_
  replace h := gd_some h; obtain ⟨hk3, h⟩ := h
  replace h := bnd2 h; obtain ⟨_u, M4, h1, h⟩ := h
  refine g_callVv (pc := 6) (As := [.ref (x1), .int (x2)]) (st := []) C dX6_read_6 wX9_cut hk3 rfl (by decide) q_484 q_485 q_483 (by omega) rfl (Nat.le_of_ble_eq_true rfl) (kX9_cut (d := 7) (Nat.le_refl _) h1) ?_
  refine g_aload_n (pc := 9) C dX6_read_9 rfl 0 rfl ?_
  refine g_iconst (pc := 10) (v := 0) C dX6_read_10 (by decide) ?_
  refine g_putI (pc := 11) C dX6_read_11 kX6 hk1 1 (by decide) rfl rfl rfl q_181 ?_
  refine g_mem (fun M5 eM5 => ?_)
  replace h := lt_at eM5 h
  refine g_aload_n (pc := 14) C dX6_read_14 rfl 0 rfl ?_
  refine g_iconst (pc := 15) (v := 0) C dX6_read_15 (by decide) ?_
  refine g_putI (pc := 16) C dX6_read_16 kX6 hk1 2 (by decide) rfl rfl rfl q_182 ?_
  refine g_mem (fun M6 eM6 => ?_)
  replace h := lt_at eM6 h
  refine g_aload_n (pc := 19) C dX6_read_19 rfl 0 rfl ?_
  refine g_iconst (pc := 20) (v := (-1)) C dX6_read_20 (by decide) ?_
  refine g_putI (pc := 21) C dX6_read_21 kX6 hk1 3 (by decide) rfl rfl rfl q_184 ?_
  refine g_mem (fun M7 eM7 => ?_)
  replace h := lt_at eM7 h
  have hz := leZ_new ((mjX6_read_27 h).Z hZ)
  refine g_new (pc := 24) C dX6_read_24 kX3 hdvX3 q_648 q_210 q_124 hz.1 hz.2 ?_
  exact g_sub [0] rfl (tjX6_read_27 C hR hd hZ h)
