set_option maxRecDepth 20000 in
theorem q_109 : Cond.selects RX12 yX12_eyesOf yX12_eyesOf ∈ lw_gd := mem_gd (List.mem_of_getElem? (i := 109) (by decide +kernel)) rfl
set_option maxRecDepth 20000 in
theorem q_110 : Cond.selects RX12 yX12_eyeFrom yX12_eyeFrom ∈ lw_gd := mem_gd (List.mem_of_getElem? (i := 110) (by decide +kernel)) rfl
set_option maxRecDepth 20000 in
theorem q_118 : Cond.selects RX12 yX12_likelyOf yX12_likelyOf ∈ lw_gd := mem_gd (List.mem_of_getElem? (i := 118) (by decide +kernel)) rfl
set_option maxRecDepth 20000 in
theorem q_1260 : Cond.fieldLink RX12 42 "EyeTrainerModel" "come" "[Z" ∈ lw_gd := mem_gd (List.mem_of_getElem? (i := 1260) (by decide +kernel)) rfl
set_option maxRecDepth 20000 in
theorem q_1716 : Cond.code yX12_eyes cX12_eyes 2 (some .int) ∈ lw_gd := mem_gd (List.mem_of_getElem? (i := 1716) (by decide +kernel)) rfl
set_option maxRecDepth 20000 in
theorem q_1717 : Cond.methodLink RX12 413 yX12_eyesOf ∈ lw_gd := mem_gd (List.mem_of_getElem? (i := 1717) (by decide +kernel)) rfl
set_option maxRecDepth 20000 in
theorem q_1719 : Cond.instanceMethod yX12_eyesOf ∈ lw_gd := mem_gd (List.mem_of_getElem? (i := 1719) (by decide +kernel)) rfl
set_option maxRecDepth 20000 in
theorem q_1720 : Cond.code yX12_eyesOf cX12_eyesOf 7 (some .int) ∈ lw_gd := mem_gd (List.mem_of_getElem? (i := 1720) (by decide +kernel)) rfl
set_option maxRecDepth 20000 in
theorem q_1721 : Cond.methodLink RX12 407 yX12_eyeFrom ∈ lw_gd := mem_gd (List.mem_of_getElem? (i := 1721) (by decide +kernel)) rfl
set_option maxRecDepth 20000 in
theorem q_1723 : Cond.instanceMethod yX12_eyeFrom ∈ lw_gd := mem_gd (List.mem_of_getElem? (i := 1723) (by decide +kernel)) rfl
set_option maxRecDepth 20000 in
theorem q_1724 : Cond.code yX12_eyeFrom cX12_eyeFrom 5 (some .int) ∈ lw_gd := mem_gd (List.mem_of_getElem? (i := 1724) (by decide +kernel)) rfl
set_option maxRecDepth 20000 in
theorem q_1728 : Cond.code yX12_greatest cX12_greatest 2 (some .int) ∈ lw_gd := mem_gd (List.mem_of_getElem? (i := 1728) (by decide +kernel)) rfl
set_option maxRecDepth 20000 in
theorem q_1838 : Cond.code yX12_chance cX12_chance 4 (some .int) ∈ lw_gd := mem_gd (List.mem_of_getElem? (i := 1838) (by decide +kernel)) rfl
set_option maxRecDepth 20000 in
theorem q_1839 : Cond.constantLong RX12 458 (6) ∈ lw_gd := mem_gd (List.mem_of_getElem? (i := 1839) (by decide +kernel)) rfl
set_option maxRecDepth 20000 in
theorem q_1840 : Cond.methodLink RX12 460 yX12_likelyOf ∈ lw_gd := mem_gd (List.mem_of_getElem? (i := 1840) (by decide +kernel)) rfl
set_option maxRecDepth 20000 in
theorem q_1842 : Cond.instanceMethod yX12_likelyOf ∈ lw_gd := mem_gd (List.mem_of_getElem? (i := 1842) (by decide +kernel)) rfl
set_option maxRecDepth 20000 in
theorem q_1844 : Cond.methodLink RX12 464 yX12_wholeOf ∈ lw_gd := mem_gd (List.mem_of_getElem? (i := 1844) (by decide +kernel)) rfl
set_option maxRecDepth 20000 in
theorem q_1845 : Cond.static yX12_wholeOf ∈ lw_gd := mem_gd (List.mem_of_getElem? (i := 1845) (by decide +kernel)) rfl
set_option maxRecDepth 20000 in
theorem q_1847 : Cond.methodLink RX12 468 yX12_part ∈ lw_gd := mem_gd (List.mem_of_getElem? (i := 1847) (by decide +kernel)) rfl
set_option maxRecDepth 20000 in
theorem q_1848 : Cond.static yX12_part ∈ lw_gd := mem_gd (List.mem_of_getElem? (i := 1848) (by decide +kernel)) rfl
set_option maxRecDepth 20000 in
theorem q_1849 : Cond.code yX12_part cX12_part 5 (some .int) ∈ lw_gd := mem_gd (List.mem_of_getElem? (i := 1849) (by decide +kernel)) rfl
set_option maxRecDepth 20000 in
theorem q_1850 : Cond.methodLink RX12 454 yX12_common ∈ lw_gd := mem_gd (List.mem_of_getElem? (i := 1850) (by decide +kernel)) rfl
set_option maxRecDepth 20000 in
theorem q_1851 : Cond.static yX12_common ∈ lw_gd := mem_gd (List.mem_of_getElem? (i := 1851) (by decide +kernel)) rfl
set_option maxRecDepth 20000 in
theorem q_1852 : Cond.code yX12_common cX12_common 4 (some .long) ∈ lw_gd := mem_gd (List.mem_of_getElem? (i := 1852) (by decide +kernel)) rfl
set_option maxRecDepth 20000 in
theorem q_1856 : Cond.code yX12_mean cX12_mean 6 (some .int) ∈ lw_gd := mem_gd (List.mem_of_getElem? (i := 1856) (by decide +kernel)) rfl
theorem dX12_eyeFrom_0 : decode cX12_eyeFrom 0 = .ok (.iload_n 1, 1) := by decide +kernel
theorem dX12_eyeFrom_1 : decode cX12_eyeFrom 1 = .ok (.bipush 24, 2) := by decide +kernel
theorem dX12_eyeFrom_3 : decode cX12_eyeFrom 3 = .ok (.irem, 1) := by decide +kernel
theorem dX12_eyeFrom_4 : decode cX12_eyeFrom 4 = .ok (.istore_n 2, 1) := by decide +kernel
theorem dX12_eyeFrom_5 : decode cX12_eyeFrom 5 = .ok (.iload_n 1, 1) := by decide +kernel
theorem dX12_eyeFrom_6 : decode cX12_eyeFrom 6 = .ok (.bipush 24, 2) := by decide +kernel
theorem dX12_eyeFrom_8 : decode cX12_eyeFrom 8 = .ok (.idiv, 1) := by decide +kernel
theorem dX12_eyeFrom_9 : decode cX12_eyeFrom 9 = .ok (.istore_n 3, 1) := by decide +kernel
theorem dX12_eyeFrom_10 : decode cX12_eyeFrom 10 = .ok (.aload_n 0, 1) := by decide +kernel
theorem dX12_eyeFrom_11 : decode cX12_eyeFrom 11 = .ok (.getfield 42, 3) := by decide +kernel
theorem dX12_eyeFrom_14 : decode cX12_eyeFrom 14 = .ok (.iload_n 1, 1) := by decide +kernel
theorem dX12_eyeFrom_15 : decode cX12_eyeFrom 15 = .ok (.baload, 1) := by decide +kernel
theorem dX12_eyeFrom_16 : decode cX12_eyeFrom 16 = .ok (.ifCond .ne 12, 3) := by decide +kernel
theorem dX12_eyeFrom_19 : decode cX12_eyeFrom 19 = .ok (.aload_n 0, 1) := by decide +kernel
theorem dX12_eyeFrom_20 : decode cX12_eyeFrom 20 = .ok (.iload_n 2, 1) := by decide +kernel
theorem dX12_eyeFrom_21 : decode cX12_eyeFrom 21 = .ok (.iload_n 3, 1) := by decide +kernel
theorem dX12_eyeFrom_22 : decode cX12_eyeFrom 22 = .ok (.invokevirtual 295, 3) := by decide +kernel
theorem dX12_eyeFrom_25 : decode cX12_eyeFrom 25 = .ok (.ifCond .ne 5, 3) := by decide +kernel
theorem dX12_eyeFrom_28 : decode cX12_eyeFrom 28 = .ok (.iconst 0, 1) := by decide +kernel
theorem dX12_eyeFrom_29 : decode cX12_eyeFrom 29 = .ok (.ireturn, 1) := by decide +kernel
theorem dX12_eyeFrom_30 : decode cX12_eyeFrom 30 = .ok (.aload_n 0, 1) := by decide +kernel
theorem dX12_eyeFrom_31 : decode cX12_eyeFrom 31 = .ok (.getfield 42, 3) := by decide +kernel
theorem dX12_eyeFrom_34 : decode cX12_eyeFrom 34 = .ok (.iload_n 1, 1) := by decide +kernel
theorem dX12_eyeFrom_35 : decode cX12_eyeFrom 35 = .ok (.iconst 1, 1) := by decide +kernel
theorem dX12_eyeFrom_36 : decode cX12_eyeFrom 36 = .ok (.bastore, 1) := by decide +kernel
theorem dX12_eyeFrom_37 : decode cX12_eyeFrom 37 = .ok (.iconst 1, 1) := by decide +kernel
theorem dX12_eyeFrom_38 : decode cX12_eyeFrom 38 = .ok (.istore 4, 2) := by decide +kernel
theorem dX12_eyeFrom_40 : decode cX12_eyeFrom 40 = .ok (.iload_n 2, 1) := by decide +kernel
theorem dX12_eyeFrom_41 : decode cX12_eyeFrom 41 = .ok (.ifCond .le 15, 3) := by decide +kernel
theorem dX12_eyeFrom_44 : decode cX12_eyeFrom 44 = .ok (.iload 4, 2) := by decide +kernel
theorem dX12_eyeFrom_46 : decode cX12_eyeFrom 46 = .ok (.aload_n 0, 1) := by decide +kernel
theorem dX12_eyeFrom_47 : decode cX12_eyeFrom 47 = .ok (.iload_n 1, 1) := by decide +kernel
theorem dX12_eyeFrom_48 : decode cX12_eyeFrom 48 = .ok (.iconst 1, 1) := by decide +kernel
theorem dX12_eyeFrom_49 : decode cX12_eyeFrom 49 = .ok (.isub, 1) := by decide +kernel
theorem dX12_eyeFrom_50 : decode cX12_eyeFrom 50 = .ok (.invokevirtual 407, 3) := by decide +kernel
theorem dX12_eyeFrom_53 : decode cX12_eyeFrom 53 = .ok (.iadd, 1) := by decide +kernel
theorem dX12_eyeFrom_54 : decode cX12_eyeFrom 54 = .ok (.istore 4, 2) := by decide +kernel
theorem dX12_eyeFrom_56 : decode cX12_eyeFrom 56 = .ok (.iload_n 2, 1) := by decide +kernel
theorem dX12_eyeFrom_57 : decode cX12_eyeFrom 57 = .ok (.bipush 23, 2) := by decide +kernel
theorem dX12_eyeFrom_59 : decode cX12_eyeFrom 59 = .ok (.if_icmp .ge 15, 3) := by decide +kernel
theorem dX12_eyeFrom_62 : decode cX12_eyeFrom 62 = .ok (.iload 4, 2) := by decide +kernel
theorem dX12_eyeFrom_64 : decode cX12_eyeFrom 64 = .ok (.aload_n 0, 1) := by decide +kernel
theorem dX12_eyeFrom_65 : decode cX12_eyeFrom 65 = .ok (.iload_n 1, 1) := by decide +kernel
theorem dX12_eyeFrom_66 : decode cX12_eyeFrom 66 = .ok (.iconst 1, 1) := by decide +kernel
theorem dX12_eyeFrom_67 : decode cX12_eyeFrom 67 = .ok (.iadd, 1) := by decide +kernel
theorem dX12_eyeFrom_68 : decode cX12_eyeFrom 68 = .ok (.invokevirtual 407, 3) := by decide +kernel
theorem dX12_eyeFrom_71 : decode cX12_eyeFrom 71 = .ok (.iadd, 1) := by decide +kernel
theorem dX12_eyeFrom_72 : decode cX12_eyeFrom 72 = .ok (.istore 4, 2) := by decide +kernel
theorem dX12_eyeFrom_74 : decode cX12_eyeFrom 74 = .ok (.iload_n 3, 1) := by decide +kernel
theorem dX12_eyeFrom_75 : decode cX12_eyeFrom 75 = .ok (.ifCond .le 16, 3) := by decide +kernel
theorem dX12_eyeFrom_78 : decode cX12_eyeFrom 78 = .ok (.iload 4, 2) := by decide +kernel
theorem dX12_eyeFrom_80 : decode cX12_eyeFrom 80 = .ok (.aload_n 0, 1) := by decide +kernel
theorem dX12_eyeFrom_81 : decode cX12_eyeFrom 81 = .ok (.iload_n 1, 1) := by decide +kernel
theorem dX12_eyeFrom_82 : decode cX12_eyeFrom 82 = .ok (.bipush 24, 2) := by decide +kernel
theorem dX12_eyeFrom_84 : decode cX12_eyeFrom 84 = .ok (.isub, 1) := by decide +kernel
theorem dX12_eyeFrom_85 : decode cX12_eyeFrom 85 = .ok (.invokevirtual 407, 3) := by decide +kernel
theorem dX12_eyeFrom_88 : decode cX12_eyeFrom 88 = .ok (.iadd, 1) := by decide +kernel
theorem dX12_eyeFrom_89 : decode cX12_eyeFrom 89 = .ok (.istore 4, 2) := by decide +kernel
theorem dX12_eyeFrom_91 : decode cX12_eyeFrom 91 = .ok (.iload_n 3, 1) := by decide +kernel
theorem dX12_eyeFrom_92 : decode cX12_eyeFrom 92 = .ok (.bipush 15, 2) := by decide +kernel
theorem dX12_eyeFrom_94 : decode cX12_eyeFrom 94 = .ok (.if_icmp .ge 16, 3) := by decide +kernel
theorem dX12_eyeFrom_97 : decode cX12_eyeFrom 97 = .ok (.iload 4, 2) := by decide +kernel
theorem dX12_eyeFrom_99 : decode cX12_eyeFrom 99 = .ok (.aload_n 0, 1) := by decide +kernel
theorem dX12_eyeFrom_100 : decode cX12_eyeFrom 100 = .ok (.iload_n 1, 1) := by decide +kernel
theorem dX12_eyeFrom_101 : decode cX12_eyeFrom 101 = .ok (.bipush 24, 2) := by decide +kernel
theorem dX12_eyeFrom_103 : decode cX12_eyeFrom 103 = .ok (.iadd, 1) := by decide +kernel
theorem dX12_eyeFrom_104 : decode cX12_eyeFrom 104 = .ok (.invokevirtual 407, 3) := by decide +kernel
theorem dX12_eyeFrom_107 : decode cX12_eyeFrom 107 = .ok (.iadd, 1) := by decide +kernel
theorem dX12_eyeFrom_108 : decode cX12_eyeFrom 108 = .ok (.istore 4, 2) := by decide +kernel
theorem dX12_eyeFrom_110 : decode cX12_eyeFrom 110 = .ok (.iload 4, 2) := by decide +kernel
theorem dX12_eyeFrom_112 : decode cX12_eyeFrom 112 = .ok (.ireturn, 1) := by decide +kernel
theorem wX12_eyeFrom : Mw yX12_eyeFrom cX12_eyeFrom 5 (some .int) 1 := ⟨q_1724, q_130, by decide, ⟨by decide +kernel, by decide +kernel⟩, by decide +kernel, by decide +kernel⟩
abbrev yGE : Nat → MethodName := fun w => match w with
  | _ => yX12_eyeFrom
abbrev cGE : Nat → ByteArray := fun w => match w with
  | _ => cX12_eyeFrom
abbrev nGE : Nat → Nat := fun w => match w with
  | _ => 5
/-- what a call of the group is taken to do -/
def RKGE (l : Launch) (B : Bx) (d : Nat) (rec : Nat → Sh → Me → Nat → Int32 → Option (Int32 × Me)) : Prop := ∀ (w : Nat) (T : Sh) (M : Me) (a : Nat) (p0 : Int32) (r : Int32) (M' : Me), rec w T M a p0 = some (r, M') → Kt l B (yGE w) (cGE w) (nGE w) (some .int) d [.ref a, .int p0] T M (some (.int r)) T M'
def jX12_eyeFrom_74 (rec : Nat → Sh → Me → Nat → Int32 → Option (Int32 × Me)) (T : Sh) (M : Me) (x0 : Nat) (x1 : Int32) (x3 : Int32) (x4 : Int32) : Option (Int32 × Me) :=
  if x3 ≤ 0 then (if (15 : Int32) ≤ x3 then (some (x4, M)) else (gd (kd T x0 = 11) <| Option.bind (rec 0 T M x0 (x1 + (24 : Int32))) <| un2 fun r19 M20 => lt (x4 + r19) fun v21 => some (v21, M20))) else (gd (kd T x0 = 11) <| Option.bind (rec 0 T M x0 (x1 - (24 : Int32))) <| un2 fun r23 M24 => lt (x4 + r23) fun v25 => if (15 : Int32) ≤ x3 then (some (v25, M24)) else (Option.bind (rec 0 T M24 x0 (x1 + (24 : Int32))) <| un2 fun r27 M28 => lt (v25 + r27) fun v29 => some (v29, M28)))
set_option maxHeartbeats 4000000 in
theorem tjX12_eyeFrom_74 {X : Fx} {B : Bx} {Z : Nat × Nat × Nat × Nat} {d : Nat} {T : Sh} {M : Me} {x0 : Nat} {x1 : Int32} {x3 : Int32} {x4 : Int32} {r : Int32} {M' : Me} (C : Cx X B cX12_eyeFrom 5 RX12 (d + 1) Z) (hR : Rx X (some .int)) (hd : 2 ≤ d) {rec : Nat → Sh → Me → Nat → Int32 → Option (Int32 × Me)} (hrec : RKGE X.2.1 B d rec) (h : jX12_eyeFrom_74 rec T M x0 x1 x3 x4 = some (r, M')) : G X B 5 Z (Qf X B Z (some (.int r)) T M') 74 [(0, .ref (x0)), (1, .int (x1)), (3, .int (x3)), (4, .int (x4))] [] T M := by
  unfold jX12_eyeFrom_74 at h
  refine g_iload_n (pc := 74) C dX12_eyeFrom_74 rfl 2 rfl ?_
  refine g_if_le (pc := 75) (tgt := 91) C dX12_eyeFrom_75 (by decide) (fun c16 => ?_) (fun c16 => ?_)
  · replace h := ifp c16 h
    refine g_iload_n (pc := 91) C dX12_eyeFrom_91 rfl 2 rfl ?_
    refine g_bipush (pc := 92) (v := 15) C dX12_eyeFrom_92 (by decide) ?_
    refine g_icmp_ge (pc := 94) (tgt := 110) C dX12_eyeFrom_94 (by decide) (fun c17 => ?_) (fun c17 => ?_)
    · replace h := ifp c17 h
      refine g_iload (pc := 110) C dX12_eyeFrom_110 3 rfl ?_
      obtain ⟨rfl, rfl⟩ := Prod.mk.inj (Option.some.inj h)
      exact g_iret C hR dX12_eyeFrom_112
    · replace h := ifn c17 h
      refine g_iload (pc := 97) C dX12_eyeFrom_97 3 rfl ?_
      refine g_aload_n (pc := 99) C dX12_eyeFrom_99 rfl 0 rfl ?_
      refine g_iload_n (pc := 100) C dX12_eyeFrom_100 rfl 1 rfl ?_
      refine g_bipush (pc := 101) (v := 24) C dX12_eyeFrom_101 (by decide) ?_
      refine g_iadd (pc := 103) C dX12_eyeFrom_103 ?_
      replace h := gd_some h; obtain ⟨hk18, h⟩ := h
      replace h := bnd2 h; obtain ⟨r19, M20, h1, h⟩ := h
      refine g_callVi (pc := 104) (As := [.int (x1 + (24 : Int32))]) (st := [.int (x4)]) C dX12_eyeFrom_104 wX12_eyeFrom hk18 rfl (by decide) q_1723 q_110 q_1721 (by omega) rfl (Nat.le_of_ble_eq_true rfl) (hrec 0 _ _ _ _ _ _ h1) ?_
      refine g_iadd (pc := 107) C dX12_eyeFrom_107 ?_
      refine g_topi (fun v21 ev21 => ?_)
      replace h := lt_at ev21 h
      refine g_istore (pc := 108) (lo2 := [(4, .int (v21)), (0, .ref (x0)), (1, .int (x1)), (3, .int (x3))]) C dX12_eyeFrom_108 (by decide) rfl ?_
      refine g_iload (pc := 110) C dX12_eyeFrom_110 0 rfl ?_
      obtain ⟨rfl, rfl⟩ := Prod.mk.inj (Option.some.inj h)
      exact g_iret C hR dX12_eyeFrom_112
  · replace h := ifn c16 h
    refine g_iload (pc := 78) C dX12_eyeFrom_78 3 rfl ?_
    refine g_aload_n (pc := 80) C dX12_eyeFrom_80 rfl 0 rfl ?_
    refine g_iload_n (pc := 81) C dX12_eyeFrom_81 rfl 1 rfl ?_
    refine g_bipush (pc := 82) (v := 24) C dX12_eyeFrom_82 (by decide) ?_
    refine g_isub (pc := 84) C dX12_eyeFrom_84 ?_
    replace h := gd_some h; obtain ⟨hk22, h⟩ := h
    replace h := bnd2 h; obtain ⟨r23, M24, h1, h⟩ := h
    refine g_callVi (pc := 85) (As := [.int (x1 - (24 : Int32))]) (st := [.int (x4)]) C dX12_eyeFrom_85 wX12_eyeFrom hk22 rfl (by decide) q_1723 q_110 q_1721 (by omega) rfl (Nat.le_of_ble_eq_true rfl) (hrec 0 _ _ _ _ _ _ h1) ?_
    refine g_iadd (pc := 88) C dX12_eyeFrom_88 ?_
    refine g_topi (fun v25 ev25 => ?_)
    replace h := lt_at ev25 h
    refine g_istore (pc := 89) (lo2 := [(4, .int (v25)), (0, .ref (x0)), (1, .int (x1)), (3, .int (x3))]) C dX12_eyeFrom_89 (by decide) rfl ?_
    refine g_iload_n (pc := 91) C dX12_eyeFrom_91 rfl 3 rfl ?_
    refine g_bipush (pc := 92) (v := 15) C dX12_eyeFrom_92 (by decide) ?_
    refine g_icmp_ge (pc := 94) (tgt := 110) C dX12_eyeFrom_94 (by decide) (fun c26 => ?_) (fun c26 => ?_)
    · replace h := ifp c26 h
      refine g_iload (pc := 110) C dX12_eyeFrom_110 0 rfl ?_
      obtain ⟨rfl, rfl⟩ := Prod.mk.inj (Option.some.inj h)
      exact g_iret C hR dX12_eyeFrom_112
    · replace h := ifn c26 h
      refine g_iload (pc := 97) C dX12_eyeFrom_97 0 rfl ?_
      refine g_aload_n (pc := 99) C dX12_eyeFrom_99 rfl 1 rfl ?_
      refine g_iload_n (pc := 100) C dX12_eyeFrom_100 rfl 2 rfl ?_
      refine g_bipush (pc := 101) (v := 24) C dX12_eyeFrom_101 (by decide) ?_
      refine g_iadd (pc := 103) C dX12_eyeFrom_103 ?_
      replace h := bnd2 h; obtain ⟨r27, M28, h1, h⟩ := h
      refine g_callVi (pc := 104) (As := [.int (x1 + (24 : Int32))]) (st := [.int (v25)]) C dX12_eyeFrom_104 wX12_eyeFrom hk22 rfl (by decide) q_1723 q_110 q_1721 (by omega) rfl (Nat.le_of_ble_eq_true rfl) (hrec 0 _ _ _ _ _ _ h1) ?_
      refine g_iadd (pc := 107) C dX12_eyeFrom_107 ?_
      refine g_topi (fun v29 ev29 => ?_)
      replace h := lt_at ev29 h
      refine g_istore (pc := 108) (lo2 := [(4, .int (v29)), (0, .ref (x0)), (1, .int (x1)), (3, .int (x3))]) C dX12_eyeFrom_108 (by decide) rfl ?_
      refine g_iload (pc := 110) C dX12_eyeFrom_110 0 rfl ?_
      obtain ⟨rfl, rfl⟩ := Prod.mk.inj (Option.some.inj h)
      exact g_iret C hR dX12_eyeFrom_112
def jX12_eyeFrom_56 (rec : Nat → Sh → Me → Nat → Int32 → Option (Int32 × Me)) (T : Sh) (M : Me) (x0 : Nat) (x1 : Int32) (x2 : Int32) (x3 : Int32) (x4 : Int32) : Option (Int32 × Me) :=
  if (23 : Int32) ≤ x2 then (jX12_eyeFrom_74 rec T M x0 x1 x3 x4) else (gd (kd T x0 = 11) <| Option.bind (rec 0 T M x0 (x1 + (1 : Int32))) <| un2 fun r31 M32 => lt (x4 + r31) fun v33 => jX12_eyeFrom_74 rec T M32 x0 x1 x3 v33)
set_option maxHeartbeats 4000000 in
theorem tjX12_eyeFrom_56 {X : Fx} {B : Bx} {Z : Nat × Nat × Nat × Nat} {d : Nat} {T : Sh} {M : Me} {x0 : Nat} {x1 : Int32} {x2 : Int32} {x3 : Int32} {x4 : Int32} {r : Int32} {M' : Me} (C : Cx X B cX12_eyeFrom 5 RX12 (d + 1) Z) (hR : Rx X (some .int)) (hd : 2 ≤ d) {rec : Nat → Sh → Me → Nat → Int32 → Option (Int32 × Me)} (hrec : RKGE X.2.1 B d rec) (h : jX12_eyeFrom_56 rec T M x0 x1 x2 x3 x4 = some (r, M')) : G X B 5 Z (Qf X B Z (some (.int r)) T M') 56 [(0, .ref (x0)), (1, .int (x1)), (2, .int (x2)), (3, .int (x3)), (4, .int (x4))] [] T M := by
  unfold jX12_eyeFrom_56 at h
  refine g_iload_n (pc := 56) C dX12_eyeFrom_56 rfl 2 rfl ?_
  refine g_bipush (pc := 57) (v := 23) C dX12_eyeFrom_57 (by decide) ?_
  refine g_icmp_ge (pc := 59) (tgt := 74) C dX12_eyeFrom_59 (by decide) (fun c15 => ?_) (fun c15 => ?_)
  · replace h := ifp c15 h
    exact g_sub [0, 1, 3, 4] rfl (tjX12_eyeFrom_74 C hR hd hrec h)
  · replace h := ifn c15 h
    refine g_iload (pc := 62) C dX12_eyeFrom_62 4 rfl ?_
    refine g_aload_n (pc := 64) C dX12_eyeFrom_64 rfl 0 rfl ?_
    refine g_iload_n (pc := 65) C dX12_eyeFrom_65 rfl 1 rfl ?_
    refine g_iconst (pc := 66) (v := 1) C dX12_eyeFrom_66 (by decide) ?_
    refine g_iadd (pc := 67) C dX12_eyeFrom_67 ?_
    replace h := gd_some h; obtain ⟨hk30, h⟩ := h
    replace h := bnd2 h; obtain ⟨r31, M32, h1, h⟩ := h
    refine g_callVi (pc := 68) (As := [.int (x1 + (1 : Int32))]) (st := [.int (x4)]) C dX12_eyeFrom_68 wX12_eyeFrom hk30 rfl (by decide) q_1723 q_110 q_1721 (by omega) rfl (Nat.le_of_ble_eq_true rfl) (hrec 0 _ _ _ _ _ _ h1) ?_
    refine g_iadd (pc := 71) C dX12_eyeFrom_71 ?_
    refine g_topi (fun v33 ev33 => ?_)
    replace h := lt_at ev33 h
    refine g_istore (pc := 72) (lo2 := [(4, .int (v33)), (0, .ref (x0)), (1, .int (x1)), (2, .int (x2)), (3, .int (x3))]) C dX12_eyeFrom_72 (by decide) rfl ?_
    exact g_sub [1, 2, 4, 0] rfl (tjX12_eyeFrom_74 C hR hd hrec h)
/-- EyeTrainerModel.eyeFrom(I)I -/
def hX12_eyeFrom (rec : Nat → Sh → Me → Nat → Int32 → Option (Int32 × Me)) (T : Sh) (M : Me) (x0 : Nat) (x1 : Int32) : Option (Int32 × Me) :=
  lt (x1 - x1 / (24 : Int32) * (24 : Int32)) fun v1 => lt (x1 / (24 : Int32)) fun v2 => gd (kd T x0 = 11) <| Option.bind (gR M x0 33) fun a4 => gd (kd T a4 = 15) <| gv x1 (ln T a4) <| if (gI M a4 (Int32.toNatClampNeg x1)) = 0 then (Option.bind (fX12_isMapped T M x0 v1 v2) fun r8 => if r8 = 0 then (some ((0 : Int32), M)) else (Option.bind (gR M x0 33) fun a10 => gd (kd T a10 = 15) <| gv x1 (ln T a10) <| lt (pI M a10 (Int32.toNatClampNeg x1) (vp_nar .boolean (1 : Int32))) fun M13 => if v1 ≤ 0 then (jX12_eyeFrom_56 rec T M13 x0 x1 v1 v2 (1 : Int32)) else (Option.bind (rec 0 T M13 x0 (x1 - (1 : Int32))) <| un2 fun r34 M35 => lt ((1 : Int32) + r34) fun v36 => jX12_eyeFrom_56 rec T M35 x0 x1 v1 v2 v36))) else (some ((0 : Int32), M))
set_option maxHeartbeats 4000000 in
theorem khX12_eyeFrom {l : Launch} {B : Bx} {d : Nat} (hd : 2 ≤ d) {rec : Nat → Sh → Me → Nat → Int32 → Option (Int32 × Me)} (hrec : RKGE l B d rec) {T : Sh} {M : Me} {x0 : Nat} {x1 : Int32} {r : Int32} {M' : Me} (h : hX12_eyeFrom rec T M x0 x1 = some (r, M')) : Kt l B yX12_eyeFrom cX12_eyeFrom 5 (some .int) (d + 1) [.ref (x0), .int (x1)] T M (some (.int r)) T M' := by
  refine kt_of wX12_eyeFrom (Nat.le_refl _) (Nat.le_refl _) (Nat.le_of_ble_eq_true rfl) (fun X C hR hlx hin => ?_)
  subst hlx
  replace C : Cx X B cX12_eyeFrom 5 RX12 (d + 1) (tp T, sl T, tp T, sl T) := C
  unfold hX12_eyeFrom at h
  show G X B 5 _ _ 0 [(0, .ref (x0)), (1, .int (x1))] [] T M
  refine g_iload_n (pc := 0) C dX12_eyeFrom_0 rfl 1 rfl ?_
  refine g_bipush (pc := 1) (v := 24) C dX12_eyeFrom_1 (by decide) ?_
  refine g_irem (pc := 3) C dX12_eyeFrom_3 (by decide) ?_
  refine g_topi (fun v1 ev1 => ?_)
  replace h := lt_at ev1 h
  refine g_istore_n (pc := 4) (lo2 := [(2, .int (v1)), (0, .ref (x0)), (1, .int (x1))]) C dX12_eyeFrom_4 rfl (by decide) rfl ?_
  refine g_iload_n (pc := 5) C dX12_eyeFrom_5 rfl 2 rfl ?_
  refine g_bipush (pc := 6) (v := 24) C dX12_eyeFrom_6 (by decide) ?_
  refine g_idiv (pc := 8) C dX12_eyeFrom_8 (by decide) ?_
  refine g_topi (fun v2 ev2 => ?_)
  replace h := lt_at ev2 h
  refine g_istore_n (pc := 9) (lo2 := [(3, .int (v2)), (2, .int (v1)), (0, .ref (x0)), (1, .int (x1))]) C dX12_eyeFrom_9 rfl (by decide) rfl ?_
  refine g_aload_n (pc := 10) C dX12_eyeFrom_10 rfl 2 rfl ?_
  replace h := gd_some h; obtain ⟨hk3, h⟩ := h
  refine g_get (pc := 11) (v := va_rf (gR M x0 33)) C dX12_eyeFrom_11 kX12 hk3 33 (by decide) q_1260 rfl ?_
  replace h := bnd h; obtain ⟨a4, ea4, h⟩ := h
  refine g_refq ea4 ?_
  refine g_iload_n (pc := 14) C dX12_eyeFrom_14 rfl 3 rfl ?_
  replace h := gd_some h; obtain ⟨hk5, h⟩ := h
  replace h := gv_some h; obtain ⟨hi6, h⟩ := h
  refine g_zald (pc := 15) C dX12_eyeFrom_15 hk5 hi6 ?_
  refine g_if_ne (pc := 16) (tgt := 28) C dX12_eyeFrom_16 (by decide) (fun c7 => ?_) (fun c7 => ?_)
  · replace h := ifn c7 h
    refine g_iconst (pc := 28) (v := 0) C dX12_eyeFrom_28 (by decide) ?_
    obtain ⟨rfl, rfl⟩ := Prod.mk.inj (Option.some.inj h)
    exact g_iret C hR dX12_eyeFrom_29
  · replace h := ifp c7 h
    refine g_aload_n (pc := 19) C dX12_eyeFrom_19 rfl 2 rfl ?_
    refine g_iload_n (pc := 20) C dX12_eyeFrom_20 rfl 1 rfl ?_
    refine g_iload_n (pc := 21) C dX12_eyeFrom_21 rfl 0 rfl ?_
    replace h := bnd h; obtain ⟨r8, h1, h⟩ := h
    refine g_callVi (pc := 22) (As := [.int (v1), .int (v2)]) (st := []) C dX12_eyeFrom_22 wX12_isMapped hk3 rfl (by decide) q_1612 q_95 q_1610 (by omega) rfl (Nat.le_of_ble_eq_true rfl) (kX12_isMapped (d := 1) (Nat.le_refl _) h1) ?_
    refine g_if_ne (pc := 25) (tgt := 30) C dX12_eyeFrom_25 (by decide) (fun c9 => ?_) (fun c9 => ?_)
    · replace h := ifn c9 h
      refine g_aload_n (pc := 30) C dX12_eyeFrom_30 rfl 2 rfl ?_
      refine g_get (pc := 31) (v := va_rf (gR M x0 33)) C dX12_eyeFrom_31 kX12 hk3 33 (by decide) q_1260 rfl ?_
      replace h := bnd h; obtain ⟨a10, ea10, h⟩ := h
      refine g_refq ea10 ?_
      refine g_iload_n (pc := 34) C dX12_eyeFrom_34 rfl 3 rfl ?_
      refine g_iconst (pc := 35) (v := 1) C dX12_eyeFrom_35 (by decide) ?_
      replace h := gd_some h; obtain ⟨hk11, h⟩ := h
      replace h := gv_some h; obtain ⟨hi12, h⟩ := h
      refine g_zast (pc := 36) C dX12_eyeFrom_36 hk11 hi12 ?_
      refine g_mem (fun M13 eM13 => ?_)
      replace h := lt_at eM13 h
      refine g_iconst (pc := 37) (v := 1) C dX12_eyeFrom_37 (by decide) ?_
      refine g_istore (pc := 38) (lo2 := [(4, .int ((1 : Int32))), (3, .int (v2)), (2, .int (v1)), (0, .ref (x0)), (1, .int (x1))]) C dX12_eyeFrom_38 (by decide) rfl ?_
      refine g_iload_n (pc := 40) C dX12_eyeFrom_40 rfl 2 rfl ?_
      refine g_if_le (pc := 41) (tgt := 56) C dX12_eyeFrom_41 (by decide) (fun c14 => ?_) (fun c14 => ?_)
      · replace h := ifp c14 h
        exact g_sub [3, 4, 2, 1, 0] rfl (tjX12_eyeFrom_56 C hR hd hrec h)
      · replace h := ifn c14 h
        refine g_iload (pc := 44) C dX12_eyeFrom_44 0 rfl ?_
        refine g_aload_n (pc := 46) C dX12_eyeFrom_46 rfl 3 rfl ?_
        refine g_iload_n (pc := 47) C dX12_eyeFrom_47 rfl 4 rfl ?_
        refine g_iconst (pc := 48) (v := 1) C dX12_eyeFrom_48 (by decide) ?_
        refine g_isub (pc := 49) C dX12_eyeFrom_49 ?_
        replace h := bnd2 h; obtain ⟨r34, M35, h1, h⟩ := h
        refine g_callVi (pc := 50) (As := [.int (x1 - (1 : Int32))]) (st := [.int ((1 : Int32))]) C dX12_eyeFrom_50 wX12_eyeFrom hk3 rfl (by decide) q_1723 q_110 q_1721 (by omega) rfl (Nat.le_of_ble_eq_true rfl) (hrec 0 _ _ _ _ _ _ h1) ?_
        refine g_iadd (pc := 53) C dX12_eyeFrom_53 ?_
        refine g_topi (fun v36 ev36 => ?_)
        replace h := lt_at ev36 h
        refine g_istore (pc := 54) (lo2 := [(4, .int (v36)), (3, .int (v2)), (2, .int (v1)), (0, .ref (x0)), (1, .int (x1))]) C dX12_eyeFrom_54 (by decide) rfl ?_
        exact g_sub [3, 4, 2, 1, 0] rfl (tjX12_eyeFrom_56 C hR hd hrec h)
    · replace h := ifp c9 h
      refine g_iconst (pc := 28) (v := 0) C dX12_eyeFrom_28 (by decide) ?_
      obtain ⟨rfl, rfl⟩ := Prod.mk.inj (Option.some.inj h)
      exact g_iret C hR dX12_eyeFrom_29
def fGE : Nat → Nat → Sh → Me → Nat → Int32 → Option (Int32 × Me)
  | 0, _, _, _, _, _ => none
  | n + 1, w, T, M, a, p0 => match w with
    | _ => hX12_eyeFrom (fGE n) T M a p0
theorem kGE {l : Launch} {B : Bx} : ∀ (n : Nat), RKGE l B (2 + n) (fGE n) := by
  intro n
  induction n with
  | zero => intro w T M a p0 r M' h; cases h
  | succ n ih =>
    intro w T M a p0 r M' h
    match w, h with
    | w, h => exact khX12_eyeFrom (hd := by omega) (hrec := ih) h
theorem dX12_common_0 : decode cX12_common 0 = .ok (.lload_n 2, 1) := by decide +kernel
theorem dX12_common_1 : decode cX12_common 1 = .ok (.lconst 0, 1) := by decide +kernel
theorem dX12_common_2 : decode cX12_common 2 = .ok (.lcmp, 1) := by decide +kernel
theorem dX12_common_3 : decode cX12_common 3 = .ok (.ifCond .ne 7, 3) := by decide +kernel
theorem dX12_common_6 : decode cX12_common 6 = .ok (.lload_n 0, 1) := by decide +kernel
theorem dX12_common_7 : decode cX12_common 7 = .ok (.goto 10, 3) := by decide +kernel
theorem dX12_common_10 : decode cX12_common 10 = .ok (.lload_n 2, 1) := by decide +kernel
theorem dX12_common_11 : decode cX12_common 11 = .ok (.lload_n 0, 1) := by decide +kernel
theorem dX12_common_12 : decode cX12_common 12 = .ok (.lload_n 2, 1) := by decide +kernel
theorem dX12_common_13 : decode cX12_common 13 = .ok (.lrem, 1) := by decide +kernel
theorem dX12_common_14 : decode cX12_common 14 = .ok (.invokestatic 454, 3) := by decide +kernel
theorem dX12_common_17 : decode cX12_common 17 = .ok (.lreturn, 1) := by decide +kernel
theorem wX12_common : Mw yX12_common cX12_common 4 (some .long) 2 := ⟨q_1852, q_130, by decide, ⟨by decide +kernel, by decide +kernel⟩, by decide +kernel, by decide +kernel⟩
abbrev yGC : Nat → MethodName := fun w => match w with
  | _ => yX12_common
abbrev cGC : Nat → ByteArray := fun w => match w with
  | _ => cX12_common
abbrev nGC : Nat → Nat := fun w => match w with
  | _ => 4
/-- what a call of the group is taken to do -/
def RKGC (l : Launch) (B : Bx) (d : Nat) (rec : Nat → Int64 → Int64 → Option (Int64)) : Prop := ∀ (w : Nat) (T : Sh) (M : Me) (p0 : Int64) (p1 : Int64) (r : Int64), rec w p0 p1 = some r → Kt l B (yGC w) (cGC w) (nGC w) (some .long) d [.long p0, .long p1] T M (some (.long r)) T M
/-- EyeTrainerModel.common(JJ)J -/
def hX12_common (rec : Nat → Int64 → Int64 → Option (Int64)) (x0 : Int64) (x2 : Int64) : Option (Int64) :=
  if (lg_cmp x2 (0 : Int64)) = 0 then (some x0) else (gd (¬ x2 = 0) <| Option.bind (rec 0 x2 (x0 - x0 / x2 * x2)) fun r3 => some r3)
set_option maxHeartbeats 4000000 in
theorem khX12_common {l : Launch} {B : Bx} {d : Nat} (hd : 0 ≤ d) {rec : Nat → Int64 → Int64 → Option (Int64)} (hrec : RKGC l B d rec) {T : Sh} {M : Me} {x0 : Int64} {x2 : Int64} {r : Int64} (h : hX12_common rec  x0 x2 = some r) : Kt l B yX12_common cX12_common 4 (some .long) (d + 1) [.long (x0), .long (x2)] T M (some (.long r)) T M := by
  refine kt_of wX12_common (Nat.le_refl _) (Nat.le_refl _) (Nat.le_of_ble_eq_true rfl) (fun X C hR hlx hin => ?_)
  subst hlx
  replace C : Cx X B cX12_common 4 RX12 (d + 1) (tp T, sl T, tp T, sl T) := C
  unfold hX12_common at h
  show G X B 4 _ _ 0 [(0, .long (x0)), (2, .long (x2))] [] T M
  refine g_lload_n (pc := 0) C dX12_common_0 rfl 1 rfl ?_
  refine g_lconst (pc := 1) (v := 0) C dX12_common_1 rfl ?_
  refine g_lcmp (pc := 2) C dX12_common_2 ?_
  refine g_if_ne (pc := 3) (tgt := 10) C dX12_common_3 (by decide) (fun c1 => ?_) (fun c1 => ?_)
  · replace h := ifn c1 h
    refine g_lload_n (pc := 10) C dX12_common_10 rfl 1 rfl ?_
    refine g_lload_n (pc := 11) C dX12_common_11 rfl 0 rfl ?_
    refine g_lload_n (pc := 12) C dX12_common_12 rfl 1 rfl ?_
    replace h := gd_some h; obtain ⟨hz2, h⟩ := h
    refine g_lrem (pc := 13) C dX12_common_13 hz2 ?_
    replace h := bnd h; obtain ⟨r3, h1, h⟩ := h
    refine g_callSl (pc := 14) (As := [.long (x2), .long (x0 - x0 / x2 * x2)]) (st := []) C dX12_common_14 wX12_common q_1851 q_1850 (by omega) rfl (Nat.le_of_ble_eq_true rfl) (hrec 0 _ _ _ _ _ h1) ?_
    obtain rfl := Option.some.inj h
    exact g_lret C hR dX12_common_17
  · replace h := ifp c1 h
    refine g_lload_n (pc := 6) C dX12_common_6 rfl 0 rfl ?_
    refine g_goto (pc := 7) (tgt := 17) C dX12_common_7 (by decide) ?_
    obtain rfl := Option.some.inj h
    exact g_lret C hR dX12_common_17
def fGC : Nat → Nat → Int64 → Int64 → Option (Int64)
  | 0, _, _, _ => none
  | n + 1, w, p0, p1 => match w with
    | _ => hX12_common (fGC n) p0 p1
theorem kGC {l : Launch} {B : Bx} : ∀ (n : Nat), RKGC l B (0 + n) (fGC n) := by
  intro n
  induction n with
  | zero => intro w T M p0 p1 r h; cases h
  | succ n ih =>
    intro w T M p0 p1 r h
    match w, h with
    | w, h => exact khX12_common (hd := by omega) (hrec := ih) h
theorem dX12_eyesOf_0 : decode cX12_eyesOf 0 = .ok (.aload_n 0, 1) := by decide +kernel
theorem dX12_eyesOf_1 : decode cX12_eyesOf 1 = .ok (.iload_n 1, 1) := by decide +kernel
theorem dX12_eyesOf_2 : decode cX12_eyesOf 2 = .ok (.invokevirtual 410, 3) := by decide +kernel
theorem dX12_eyesOf_5 : decode cX12_eyesOf 5 = .ok (.iconst 0, 1) := by decide +kernel
theorem dX12_eyesOf_6 : decode cX12_eyesOf 6 = .ok (.istore_n 3, 1) := by decide +kernel
theorem dX12_eyesOf_7 : decode cX12_eyesOf 7 = .ok (.iload_n 3, 1) := by decide +kernel
theorem dX12_eyesOf_8 : decode cX12_eyesOf 8 = .ok (.sipush 384, 3) := by decide +kernel
theorem dX12_eyesOf_11 : decode cX12_eyesOf 11 = .ok (.if_icmp .ge 16, 3) := by decide +kernel
theorem dX12_eyesOf_14 : decode cX12_eyesOf 14 = .ok (.aload_n 0, 1) := by decide +kernel
theorem dX12_eyesOf_15 : decode cX12_eyesOf 15 = .ok (.getfield 42, 3) := by decide +kernel
theorem dX12_eyesOf_18 : decode cX12_eyesOf 18 = .ok (.iload_n 3, 1) := by decide +kernel
theorem dX12_eyesOf_19 : decode cX12_eyesOf 19 = .ok (.iconst 0, 1) := by decide +kernel
theorem dX12_eyesOf_20 : decode cX12_eyesOf 20 = .ok (.bastore, 1) := by decide +kernel
theorem dX12_eyesOf_21 : decode cX12_eyesOf 21 = .ok (.iinc 3 1, 3) := by decide +kernel
theorem dX12_eyesOf_24 : decode cX12_eyesOf 24 = .ok (.goto (-17), 3) := by decide +kernel
theorem dX12_eyesOf_27 : decode cX12_eyesOf 27 = .ok (.iconst 0, 1) := by decide +kernel
theorem dX12_eyesOf_28 : decode cX12_eyesOf 28 = .ok (.istore_n 3, 1) := by decide +kernel
theorem dX12_eyesOf_29 : decode cX12_eyesOf 29 = .ok (.iconst 0, 1) := by decide +kernel
theorem dX12_eyesOf_30 : decode cX12_eyesOf 30 = .ok (.istore 4, 2) := by decide +kernel
theorem dX12_eyesOf_32 : decode cX12_eyesOf 32 = .ok (.iconst 0, 1) := by decide +kernel
theorem dX12_eyesOf_33 : decode cX12_eyesOf 33 = .ok (.istore 5, 2) := by decide +kernel
theorem dX12_eyesOf_35 : decode cX12_eyesOf 35 = .ok (.iload 5, 2) := by decide +kernel
theorem dX12_eyesOf_37 : decode cX12_eyesOf 37 = .ok (.sipush 384, 3) := by decide +kernel
theorem dX12_eyesOf_40 : decode cX12_eyesOf 40 = .ok (.if_icmp .ge 46, 3) := by decide +kernel
theorem dX12_eyesOf_43 : decode cX12_eyesOf 43 = .ok (.aload_n 0, 1) := by decide +kernel
theorem dX12_eyesOf_44 : decode cX12_eyesOf 44 = .ok (.iload 5, 2) := by decide +kernel
theorem dX12_eyesOf_46 : decode cX12_eyesOf 46 = .ok (.invokevirtual 407, 3) := by decide +kernel
theorem dX12_eyesOf_49 : decode cX12_eyesOf 49 = .ok (.istore 6, 2) := by decide +kernel
theorem dX12_eyesOf_51 : decode cX12_eyesOf 51 = .ok (.iload_n 3, 1) := by decide +kernel
theorem dX12_eyesOf_52 : decode cX12_eyesOf 52 = .ok (.iload 6, 2) := by decide +kernel
theorem dX12_eyesOf_54 : decode cX12_eyesOf 54 = .ok (.ifCond .le 7, 3) := by decide +kernel
theorem dX12_eyesOf_57 : decode cX12_eyesOf 57 = .ok (.iconst 1, 1) := by decide +kernel
theorem dX12_eyesOf_58 : decode cX12_eyesOf 58 = .ok (.goto 4, 3) := by decide +kernel
theorem dX12_eyesOf_61 : decode cX12_eyesOf 61 = .ok (.iconst 0, 1) := by decide +kernel
theorem dX12_eyesOf_62 : decode cX12_eyesOf 62 = .ok (.iadd, 1) := by decide +kernel
theorem dX12_eyesOf_63 : decode cX12_eyesOf 63 = .ok (.istore_n 3, 1) := by decide +kernel
theorem dX12_eyesOf_64 : decode cX12_eyesOf 64 = .ok (.iload 6, 2) := by decide +kernel
theorem dX12_eyesOf_66 : decode cX12_eyesOf 66 = .ok (.iload 4, 2) := by decide +kernel
theorem dX12_eyesOf_68 : decode cX12_eyesOf 68 = .ok (.if_icmp .le 8, 3) := by decide +kernel
theorem dX12_eyesOf_71 : decode cX12_eyesOf 71 = .ok (.iload 6, 2) := by decide +kernel
theorem dX12_eyesOf_73 : decode cX12_eyesOf 73 = .ok (.goto 5, 3) := by decide +kernel
theorem dX12_eyesOf_76 : decode cX12_eyesOf 76 = .ok (.iload 4, 2) := by decide +kernel
theorem dX12_eyesOf_78 : decode cX12_eyesOf 78 = .ok (.istore 4, 2) := by decide +kernel
theorem dX12_eyesOf_80 : decode cX12_eyesOf 80 = .ok (.iinc 5 1, 3) := by decide +kernel
theorem dX12_eyesOf_83 : decode cX12_eyesOf 83 = .ok (.goto (-48), 3) := by decide +kernel
theorem dX12_eyesOf_86 : decode cX12_eyesOf 86 = .ok (.iload_n 2, 1) := by decide +kernel
theorem dX12_eyesOf_87 : decode cX12_eyesOf 87 = .ok (.ifCond .eq 7, 3) := by decide +kernel
theorem dX12_eyesOf_90 : decode cX12_eyesOf 90 = .ok (.iload_n 3, 1) := by decide +kernel
theorem dX12_eyesOf_91 : decode cX12_eyesOf 91 = .ok (.goto 5, 3) := by decide +kernel
theorem dX12_eyesOf_94 : decode cX12_eyesOf 94 = .ok (.iload 4, 2) := by decide +kernel
theorem dX12_eyesOf_96 : decode cX12_eyesOf 96 = .ok (.ireturn, 1) := by decide +kernel
theorem wX12_eyesOf : Mw yX12_eyesOf cX12_eyesOf 7 (some .int) 2 := ⟨q_1720, q_130, by decide, ⟨by decide +kernel, by decide +kernel⟩, by decide +kernel, by decide +kernel⟩
-- a loop of EyeTrainerModel.eyesOf at 7
def bX12_eyesOf_7 (T : Sh) (x0 : Nat) (x2 : Int32) (x3 : Int32) (M : Me) : Option ((Int32 × Me) ⊕ (Me)) :=
  if (384 : Int32) ≤ x3 then (some (.inr M)) else (gd (kd T x0 = 11) <| Option.bind (gR M x0 33) fun a5 => gd (kd T a5 = 15) <| gv x3 (ln T a5) <| lt (pI M a5 (Int32.toNatClampNeg x3) (vp_nar .boolean (0 : Int32))) fun M8 => lt (x3 + (1 : Int32)) fun v9 => some (.inl (v9, M8)))
def PX12_eyesOf_7 (X : Fx) (B : Bx) (Z : Nat × Nat × Nat × Nat) (Q : State → Prop) (T : Sh) (x0 : Nat) (x2 : Int32) (s : Int32 × Me) : Prop := G X B 7 Z Q 7 [(0, .ref (x0)), (2, .int (x2)), (3, .int (s.1))] [] T s.2
def EX12_eyesOf_7 (X : Fx) (B : Bx) (Z : Nat × Nat × Nat × Nat) (Q : State → Prop) (T : Sh) (x0 : Nat) (x2 : Int32) (r : Me) : Prop := G X B 7 Z Q 27 [(0, .ref (x0)), (2, .int (x2))] [] T r
set_option maxHeartbeats 4000000 in
theorem tbX12_eyesOf_7 {X : Fx} {B : Bx} {Z : Nat × Nat × Nat × Nat} {Q : State → Prop} {d : Nat} {T : Sh} (C : Cx X B cX12_eyesOf 7 RX12 d Z) (hd : 403 ≤ d) {x0 : Nat} {x2 : Int32} : ∀ (s : Int32 × Me) (o : (Int32 × Me) ⊕ (Me)), bX12_eyesOf_7 T x0 x2 s.1 s.2 = some o → lpE (PX12_eyesOf_7 X B Z Q T x0 x2) (EX12_eyesOf_7 X B Z Q T x0 x2) o → PX12_eyesOf_7 X B Z Q T x0 x2 s := by
  rintro ⟨x3, M⟩ o h hE
  replace h : bX12_eyesOf_7 T x0 x2 x3 M = some o := h
  unfold bX12_eyesOf_7 at h
  show G X B 7 Z Q 7 [(0, .ref (x0)), (2, .int (x2)), (3, .int (x3))] [] T M
  refine g_iload_n (pc := 7) C dX12_eyesOf_7 rfl 2 rfl ?_
  refine g_sipush (pc := 8) (v := 384) C dX12_eyesOf_8 (by decide) ?_
  refine g_icmp_ge (pc := 11) (tgt := 27) C dX12_eyesOf_11 (by decide) (fun c3 => ?_) (fun c3 => ?_)
  · replace h := ifp c3 h
    obtain rfl := Option.some.inj h
    exact g_sub [0, 1] rfl (show G X B 7 Z Q 27 [(0, .ref (x0)), (2, .int (x2))] [] T M from hE)
  · replace h := ifn c3 h
    refine g_aload_n (pc := 14) C dX12_eyesOf_14 rfl 0 rfl ?_
    replace h := gd_some h; obtain ⟨hk4, h⟩ := h
    refine g_get (pc := 15) (v := va_rf (gR M x0 33)) C dX12_eyesOf_15 kX12 hk4 33 (by decide) q_1260 rfl ?_
    replace h := bnd h; obtain ⟨a5, ea5, h⟩ := h
    refine g_refq ea5 ?_
    refine g_iload_n (pc := 18) C dX12_eyesOf_18 rfl 2 rfl ?_
    refine g_iconst (pc := 19) (v := 0) C dX12_eyesOf_19 (by decide) ?_
    replace h := gd_some h; obtain ⟨hk6, h⟩ := h
    replace h := gv_some h; obtain ⟨hi7, h⟩ := h
    refine g_zast (pc := 20) C dX12_eyesOf_20 hk6 hi7 ?_
    refine g_mem (fun M8 eM8 => ?_)
    replace h := lt_at eM8 h
    obtain ⟨v9, ev9⟩ : ∃ y : Int32, y = x3 + (1 : Int32) := ⟨_, rfl⟩
    replace h := lt_at ev9 h
    refine g_iinc (pc := 21) (v := v9) (k := 2) (lo2 := [(3, .int (v9)), (0, .ref (x0)), (2, .int (x2))]) C dX12_eyesOf_21 rfl (by rw [ev9]; rfl) (by decide) rfl ?_
    refine g_goto (pc := 24) (tgt := 7) C dX12_eyesOf_24 (by decide) ?_
    obtain rfl := Option.some.inj h
    exact g_sub [1, 2, 0] rfl (show G X B 7 Z Q 7 [(0, .ref (x0)), (2, .int (x2)), (3, .int (v9))] [] T M8 from hE)
-- a loop of EyeTrainerModel.eyesOf at 35
def bX12_eyesOf_35 (T : Sh) (x0 : Nat) (x2 : Int32) (x3 : Int32) (x4 : Int32) (x5 : Int32) (M : Me) : Option ((Int32 × Int32 × Int32 × Me) ⊕ ((Int32 × Int32 × Me))) :=
  if (384 : Int32) ≤ x5 then (some (.inr (x3, x4, M))) else (gd (kd T x0 = 11) <| Option.bind (fGE 400 0 T M x0 x5) <| un2 fun r13 M14 => if r13 ≤ 0 then (lt (x3 + (0 : Int32)) fun v16 => if r13 ≤ x4 then (lt (x5 + (1 : Int32)) fun v18 => some (.inl (v16, x4, v18, M14))) else (lt (x5 + (1 : Int32)) fun v19 => some (.inl (v16, r13, v19, M14)))) else (lt (x3 + (1 : Int32)) fun v20 => if r13 ≤ x4 then (lt (x5 + (1 : Int32)) fun v22 => some (.inl (v20, x4, v22, M14))) else (lt (x5 + (1 : Int32)) fun v23 => some (.inl (v20, r13, v23, M14)))))
def PX12_eyesOf_35 (X : Fx) (B : Bx) (Z : Nat × Nat × Nat × Nat) (Q : State → Prop) (T : Sh) (x0 : Nat) (x2 : Int32) (s : Int32 × Int32 × Int32 × Me) : Prop := G X B 7 Z Q 35 [(0, .ref (x0)), (2, .int (x2)), (3, .int (s.1)), (4, .int (s.2.1)), (5, .int (s.2.2.1))] [] T s.2.2.2
def EX12_eyesOf_35 (X : Fx) (B : Bx) (Z : Nat × Nat × Nat × Nat) (Q : State → Prop) (T : Sh) (x0 : Nat) (x2 : Int32) (r : (Int32 × Int32 × Me)) : Prop := G X B 7 Z Q 86 [(2, .int (x2)), (3, .int (r.1)), (4, .int (r.2.1))] [] T r.2.2
set_option maxHeartbeats 4000000 in
theorem tbX12_eyesOf_35 {X : Fx} {B : Bx} {Z : Nat × Nat × Nat × Nat} {Q : State → Prop} {d : Nat} {T : Sh} (C : Cx X B cX12_eyesOf 7 RX12 d Z) (hd : 403 ≤ d) {x0 : Nat} {x2 : Int32} : ∀ (s : Int32 × Int32 × Int32 × Me) (o : (Int32 × Int32 × Int32 × Me) ⊕ ((Int32 × Int32 × Me))), bX12_eyesOf_35 T x0 x2 s.1 s.2.1 s.2.2.1 s.2.2.2 = some o → lpE (PX12_eyesOf_35 X B Z Q T x0 x2) (EX12_eyesOf_35 X B Z Q T x0 x2) o → PX12_eyesOf_35 X B Z Q T x0 x2 s := by
  rintro ⟨x3, x4, x5, M⟩ o h hE
  replace h : bX12_eyesOf_35 T x0 x2 x3 x4 x5 M = some o := h
  unfold bX12_eyesOf_35 at h
  show G X B 7 Z Q 35 [(0, .ref (x0)), (2, .int (x2)), (3, .int (x3)), (4, .int (x4)), (5, .int (x5))] [] T M
  refine g_iload (pc := 35) C dX12_eyesOf_35 4 rfl ?_
  refine g_sipush (pc := 37) (v := 384) C dX12_eyesOf_37 (by decide) ?_
  refine g_icmp_ge (pc := 40) (tgt := 86) C dX12_eyesOf_40 (by decide) (fun c11 => ?_) (fun c11 => ?_)
  · replace h := ifp c11 h
    obtain rfl := Option.some.inj h
    exact g_sub [1, 2, 3] rfl (show G X B 7 Z Q 86 [(2, .int (x2)), (3, .int (x3)), (4, .int (x4))] [] T M from hE)
  · replace h := ifn c11 h
    refine g_aload_n (pc := 43) C dX12_eyesOf_43 rfl 0 rfl ?_
    refine g_iload (pc := 44) C dX12_eyesOf_44 4 rfl ?_
    replace h := gd_some h; obtain ⟨hk12, h⟩ := h
    replace h := bnd2 h; obtain ⟨r13, M14, h1, h⟩ := h
    refine g_callVi (pc := 46) (As := [.int (x5)]) (st := []) C dX12_eyesOf_46 wX12_eyeFrom hk12 rfl (by decide) q_1723 q_110 q_1721 (by omega) rfl (Nat.le_of_ble_eq_true rfl) (kGE 400 0 _ _ _ _ _ _ h1) ?_
    refine g_istore (pc := 49) (lo2 := [(6, .int (r13)), (0, .ref (x0)), (2, .int (x2)), (3, .int (x3)), (4, .int (x4)), (5, .int (x5))]) C dX12_eyesOf_49 (by decide) rfl ?_
    refine g_iload_n (pc := 51) C dX12_eyesOf_51 rfl 3 rfl ?_
    refine g_iload (pc := 52) C dX12_eyesOf_52 0 rfl ?_
    refine g_if_le (pc := 54) (tgt := 61) C dX12_eyesOf_54 (by decide) (fun c15 => ?_) (fun c15 => ?_)
    · replace h := ifp c15 h
      refine g_iconst (pc := 61) (v := 0) C dX12_eyesOf_61 (by decide) ?_
      refine g_iadd (pc := 62) C dX12_eyesOf_62 ?_
      refine g_topi (fun v16 ev16 => ?_)
      replace h := lt_at ev16 h
      refine g_istore_n (pc := 63) (lo2 := [(3, .int (v16)), (6, .int (r13)), (0, .ref (x0)), (2, .int (x2)), (4, .int (x4)), (5, .int (x5))]) C dX12_eyesOf_63 rfl (by decide) rfl ?_
      refine g_iload (pc := 64) C dX12_eyesOf_64 1 rfl ?_
      refine g_iload (pc := 66) C dX12_eyesOf_66 4 rfl ?_
      refine g_icmp_le (pc := 68) (tgt := 76) C dX12_eyesOf_68 (by decide) (fun c17 => ?_) (fun c17 => ?_)
      · replace h := ifp c17 h
        refine g_iload (pc := 76) C dX12_eyesOf_76 4 rfl ?_
        refine g_istore (pc := 78) (lo2 := [(4, .int (x4)), (3, .int (v16)), (6, .int (r13)), (0, .ref (x0)), (2, .int (x2)), (5, .int (x5))]) C dX12_eyesOf_78 (by decide) rfl ?_
        obtain ⟨v18, ev18⟩ : ∃ y : Int32, y = x5 + (1 : Int32) := ⟨_, rfl⟩
        replace h := lt_at ev18 h
        refine g_iinc (pc := 80) (v := v18) (k := 5) (lo2 := [(5, .int (v18)), (4, .int (x4)), (3, .int (v16)), (6, .int (r13)), (0, .ref (x0)), (2, .int (x2))]) C dX12_eyesOf_80 rfl (by rw [ev18]; rfl) (by decide) rfl ?_
        refine g_goto (pc := 83) (tgt := 35) C dX12_eyesOf_83 (by decide) ?_
        obtain rfl := Option.some.inj h
        exact g_sub [4, 5, 2, 1, 0] rfl (show G X B 7 Z Q 35 [(0, .ref (x0)), (2, .int (x2)), (3, .int (v16)), (4, .int (x4)), (5, .int (v18))] [] T M14 from hE)
      · replace h := ifn c17 h
        refine g_iload (pc := 71) C dX12_eyesOf_71 1 rfl ?_
        refine g_goto (pc := 73) (tgt := 78) C dX12_eyesOf_73 (by decide) ?_
        refine g_istore (pc := 78) (lo2 := [(4, .int (r13)), (3, .int (v16)), (6, .int (r13)), (0, .ref (x0)), (2, .int (x2)), (5, .int (x5))]) C dX12_eyesOf_78 (by decide) rfl ?_
        obtain ⟨v19, ev19⟩ : ∃ y : Int32, y = x5 + (1 : Int32) := ⟨_, rfl⟩
        replace h := lt_at ev19 h
        refine g_iinc (pc := 80) (v := v19) (k := 5) (lo2 := [(5, .int (v19)), (4, .int (r13)), (3, .int (v16)), (6, .int (r13)), (0, .ref (x0)), (2, .int (x2))]) C dX12_eyesOf_80 rfl (by rw [ev19]; rfl) (by decide) rfl ?_
        refine g_goto (pc := 83) (tgt := 35) C dX12_eyesOf_83 (by decide) ?_
        obtain rfl := Option.some.inj h
        exact g_sub [4, 5, 2, 1, 0] rfl (show G X B 7 Z Q 35 [(0, .ref (x0)), (2, .int (x2)), (3, .int (v16)), (4, .int (r13)), (5, .int (v19))] [] T M14 from hE)
    · replace h := ifn c15 h
      refine g_iconst (pc := 57) (v := 1) C dX12_eyesOf_57 (by decide) ?_
      refine g_goto (pc := 58) (tgt := 62) C dX12_eyesOf_58 (by decide) ?_
      refine g_iadd (pc := 62) C dX12_eyesOf_62 ?_
      refine g_topi (fun v20 ev20 => ?_)
      replace h := lt_at ev20 h
      refine g_istore_n (pc := 63) (lo2 := [(3, .int (v20)), (6, .int (r13)), (0, .ref (x0)), (2, .int (x2)), (4, .int (x4)), (5, .int (x5))]) C dX12_eyesOf_63 rfl (by decide) rfl ?_
      refine g_iload (pc := 64) C dX12_eyesOf_64 1 rfl ?_
      refine g_iload (pc := 66) C dX12_eyesOf_66 4 rfl ?_
      refine g_icmp_le (pc := 68) (tgt := 76) C dX12_eyesOf_68 (by decide) (fun c21 => ?_) (fun c21 => ?_)
      · replace h := ifp c21 h
        refine g_iload (pc := 76) C dX12_eyesOf_76 4 rfl ?_
        refine g_istore (pc := 78) (lo2 := [(4, .int (x4)), (3, .int (v20)), (6, .int (r13)), (0, .ref (x0)), (2, .int (x2)), (5, .int (x5))]) C dX12_eyesOf_78 (by decide) rfl ?_
        obtain ⟨v22, ev22⟩ : ∃ y : Int32, y = x5 + (1 : Int32) := ⟨_, rfl⟩
        replace h := lt_at ev22 h
        refine g_iinc (pc := 80) (v := v22) (k := 5) (lo2 := [(5, .int (v22)), (4, .int (x4)), (3, .int (v20)), (6, .int (r13)), (0, .ref (x0)), (2, .int (x2))]) C dX12_eyesOf_80 rfl (by rw [ev22]; rfl) (by decide) rfl ?_
        refine g_goto (pc := 83) (tgt := 35) C dX12_eyesOf_83 (by decide) ?_
        obtain rfl := Option.some.inj h
        exact g_sub [4, 5, 2, 1, 0] rfl (show G X B 7 Z Q 35 [(0, .ref (x0)), (2, .int (x2)), (3, .int (v20)), (4, .int (x4)), (5, .int (v22))] [] T M14 from hE)
      · replace h := ifn c21 h
        refine g_iload (pc := 71) C dX12_eyesOf_71 1 rfl ?_
        refine g_goto (pc := 73) (tgt := 78) C dX12_eyesOf_73 (by decide) ?_
        refine g_istore (pc := 78) (lo2 := [(4, .int (r13)), (3, .int (v20)), (6, .int (r13)), (0, .ref (x0)), (2, .int (x2)), (5, .int (x5))]) C dX12_eyesOf_78 (by decide) rfl ?_
        obtain ⟨v23, ev23⟩ : ∃ y : Int32, y = x5 + (1 : Int32) := ⟨_, rfl⟩
        replace h := lt_at ev23 h
        refine g_iinc (pc := 80) (v := v23) (k := 5) (lo2 := [(5, .int (v23)), (4, .int (r13)), (3, .int (v20)), (6, .int (r13)), (0, .ref (x0)), (2, .int (x2))]) C dX12_eyesOf_80 rfl (by rw [ev23]; rfl) (by decide) rfl ?_
        refine g_goto (pc := 83) (tgt := 35) C dX12_eyesOf_83 (by decide) ?_
        obtain rfl := Option.some.inj h
        exact g_sub [4, 5, 2, 1, 0] rfl (show G X B 7 Z Q 35 [(0, .ref (x0)), (2, .int (x2)), (3, .int (v20)), (4, .int (r13)), (5, .int (v23))] [] T M14 from hE)
/-- EyeTrainerModel.eyesOf(IZ)I -/
def fX12_eyesOf (T : Sh) (M : Me) (x0 : Nat) (x1 : Int32) (x2 : Int32) : Option (Int32 × Me) :=
  gd (kd T x0 = 11) <| Option.bind (fX12_laysMapNow T M x0 x1) <| un2 fun _u M2 => (lp FU (fun s => bX12_eyesOf_7 T x0 x2 s.1 s.2) ((0 : Int32), M2)).bind (fun M10 => (lp FU (fun s => bX12_eyesOf_35 T x0 x2 s.1 s.2.1 s.2.2.1 s.2.2.2) ((0 : Int32), (0 : Int32), (0 : Int32), M10)).bind (un3 fun x3_24 x4_25 M26 => if x2 = 0 then (some (x4_25, M26)) else (some (x3_24, M26))))
set_option maxHeartbeats 4000000 in
theorem kX12_eyesOf {l : Launch} {B : Bx} {d : Nat} (hd : 403 ≤ d) {T : Sh} {M : Me} {x0 : Nat} {x1 : Int32} {x2 : Int32} {r : Int32} {M' : Me} (h : fX12_eyesOf T M x0 x1 x2 = some (r, M')) : Kt l B yX12_eyesOf cX12_eyesOf 7 (some .int) d [.ref (x0), .int (x1), .int (x2)] T M (some (.int r)) T M' := by
  refine kt_of wX12_eyesOf (Nat.le_refl _) (Nat.le_refl _) (Nat.le_of_ble_eq_true rfl) (fun X C hR hlx hin => ?_)
  subst hlx
  replace C : Cx X B cX12_eyesOf 7 RX12 d (tp T, sl T, tp T, sl T) := C
  unfold fX12_eyesOf at h
  show G X B 7 _ _ 0 [(0, .ref (x0)), (1, .int (x1)), (2, .int (x2))] [] T M
  refine g_aload_n (pc := 0) C dX12_eyesOf_0 rfl 0 rfl ?_
  refine g_iload_n (pc := 1) C dX12_eyesOf_1 rfl 1 rfl ?_
  replace h := gd_some h; obtain ⟨hk1, h⟩ := h
  replace h := bnd2 h; obtain ⟨_u, M2, h1, h⟩ := h
  refine g_callVv (pc := 2) (As := [.int (x1)]) (st := []) C dX12_eyesOf_2 wX12_laysMapNow hk1 rfl (by decide) q_1711 q_108 q_1709 (by omega) rfl (Nat.le_of_ble_eq_true rfl) (kX12_laysMapNow (d := 5) (Nat.le_refl _) h1) ?_
  refine g_iconst (pc := 5) (v := 0) C dX12_eyesOf_5 (by decide) ?_
  refine g_istore_n (pc := 6) (lo2 := [(3, .int ((0 : Int32))), (0, .ref (x0)), (1, .int (x1)), (2, .int (x2))]) C dX12_eyesOf_6 rfl (by decide) rfl ?_
  replace h := bnd h; obtain ⟨M10, h1, h⟩ := h
  refine g_sub [1, 3, 0] rfl ?_
  refine lp_G2 (P := PX12_eyesOf_7 X B _ _ T x0 x2) (E := EX12_eyesOf_7 X B _ _ T x0 x2) (tbX12_eyesOf_7 C hd) h1 ?_
  show G X B 7 _ _ 27 [(0, .ref (x0)), (2, .int (x2))] [] T M10
  refine g_iconst (pc := 27) (v := 0) C dX12_eyesOf_27 (by decide) ?_
  refine g_istore_n (pc := 28) (lo2 := [(3, .int ((0 : Int32))), (0, .ref (x0)), (2, .int (x2))]) C dX12_eyesOf_28 rfl (by decide) rfl ?_
  refine g_iconst (pc := 29) (v := 0) C dX12_eyesOf_29 (by decide) ?_
  refine g_istore (pc := 30) (lo2 := [(4, .int ((0 : Int32))), (3, .int ((0 : Int32))), (0, .ref (x0)), (2, .int (x2))]) C dX12_eyesOf_30 (by decide) rfl ?_
  refine g_iconst (pc := 32) (v := 0) C dX12_eyesOf_32 (by decide) ?_
  refine g_istore (pc := 33) (lo2 := [(5, .int ((0 : Int32))), (4, .int ((0 : Int32))), (3, .int ((0 : Int32))), (0, .ref (x0)), (2, .int (x2))]) C dX12_eyesOf_33 (by decide) rfl ?_
  replace h := bnd3 h; obtain ⟨x3_24, x4_25, M26, h1, h⟩ := h
  refine g_sub [3, 4, 2, 1, 0] rfl ?_
  refine lp_G2 (P := PX12_eyesOf_35 X B _ _ T x0 x2) (E := EX12_eyesOf_35 X B _ _ T x0 x2) (tbX12_eyesOf_35 C hd) h1 ?_
  show G X B 7 _ _ 86 [(2, .int (x2)), (3, .int (x3_24)), (4, .int (x4_25))] [] T M26
  refine g_iload_n (pc := 86) C dX12_eyesOf_86 rfl 0 rfl ?_
  refine g_if_eq (pc := 87) (tgt := 94) C dX12_eyesOf_87 (by decide) (fun c27 => ?_) (fun c27 => ?_)
  · replace h := ifp c27 h
    refine g_iload (pc := 94) C dX12_eyesOf_94 2 rfl ?_
    obtain ⟨rfl, rfl⟩ := Prod.mk.inj (Option.some.inj h)
    exact g_iret C hR dX12_eyesOf_96
  · replace h := ifn c27 h
    refine g_iload_n (pc := 90) C dX12_eyesOf_90 rfl 1 rfl ?_
    refine g_goto (pc := 91) (tgt := 96) C dX12_eyesOf_91 (by decide) ?_
    obtain ⟨rfl, rfl⟩ := Prod.mk.inj (Option.some.inj h)
    exact g_iret C hR dX12_eyesOf_96
theorem dX12_eyes_0 : decode cX12_eyes 0 = .ok (.aload_n 0, 1) := by decide +kernel
theorem dX12_eyes_1 : decode cX12_eyes 1 = .ok (.iconst 0, 1) := by decide +kernel
theorem dX12_eyes_2 : decode cX12_eyes 2 = .ok (.putfield 1, 3) := by decide +kernel
theorem dX12_eyes_5 : decode cX12_eyes 5 = .ok (.aload_n 0, 1) := by decide +kernel
theorem dX12_eyes_6 : decode cX12_eyes 6 = .ok (.iload_n 1, 1) := by decide +kernel
theorem dX12_eyes_7 : decode cX12_eyes 7 = .ok (.i2l, 1) := by decide +kernel
theorem dX12_eyes_8 : decode cX12_eyes 8 = .ok (.invokevirtual 247, 3) := by decide +kernel
theorem dX12_eyes_11 : decode cX12_eyes 11 = .ok (.ifCond .eq 12, 3) := by decide +kernel
theorem dX12_eyes_14 : decode cX12_eyes 14 = .ok (.aload_n 0, 1) := by decide +kernel
theorem dX12_eyes_15 : decode cX12_eyes 15 = .ok (.iload_n 1, 1) := by decide +kernel
theorem dX12_eyes_16 : decode cX12_eyes 16 = .ok (.iconst 1, 1) := by decide +kernel
theorem dX12_eyes_17 : decode cX12_eyes 17 = .ok (.invokevirtual 413, 3) := by decide +kernel
theorem dX12_eyes_20 : decode cX12_eyes 20 = .ok (.goto 5, 3) := by decide +kernel
theorem dX12_eyes_23 : decode cX12_eyes 23 = .ok (.bipush (-2), 2) := by decide +kernel
theorem dX12_eyes_25 : decode cX12_eyes 25 = .ok (.ireturn, 1) := by decide +kernel
theorem wX12_eyes : Mw yX12_eyes cX12_eyes 2 (some .int) 1 := ⟨q_1716, q_130, by decide, ⟨by decide +kernel, by decide +kernel⟩, by decide +kernel, by decide +kernel⟩
/-- EyeTrainerModel.eyes(I)I -/
def fX12_eyes (T : Sh) (M : Me) (x0 : Nat) (x1 : Int32) : Option (Int32 × Me) :=
  gd (kd T x0 = 11) <| lt (pI M x0 0 (0 : Int32)) fun M2 => Option.bind (fX12_isLane T M2 x0 (Int32.toInt64 x1)) fun r3 => if r3 = 0 then (some ((-2 : Int32), M2)) else (Option.bind (fX12_eyesOf T M2 x0 x1 (1 : Int32)) <| un2 fun r5 M6 => some (r5, M6))
set_option maxHeartbeats 4000000 in
theorem kX12_eyes {l : Launch} {B : Bx} {d : Nat} (hd : 404 ≤ d) {T : Sh} {M : Me} {x0 : Nat} {x1 : Int32} {r : Int32} {M' : Me} (h : fX12_eyes T M x0 x1 = some (r, M')) : Kt l B yX12_eyes cX12_eyes 2 (some .int) d [.ref (x0), .int (x1)] T M (some (.int r)) T M' := by
  refine kt_of wX12_eyes (Nat.le_refl _) (Nat.le_refl _) (Nat.le_of_ble_eq_true rfl) (fun X C hR hlx hin => ?_)
  subst hlx
  replace C : Cx X B cX12_eyes 2 RX12 d (tp T, sl T, tp T, sl T) := C
  unfold fX12_eyes at h
  show G X B 2 _ _ 0 [(0, .ref (x0)), (1, .int (x1))] [] T M
  refine g_aload_n (pc := 0) C dX12_eyes_0 rfl 0 rfl ?_
  refine g_iconst (pc := 1) (v := 0) C dX12_eyes_1 (by decide) ?_
  replace h := gd_some h; obtain ⟨hk1, h⟩ := h
  refine g_putI (pc := 2) C dX12_eyes_2 kX12 hk1 0 (by decide) rfl rfl rfl q_1227 ?_
  refine g_mem (fun M2 eM2 => ?_)
  replace h := lt_at eM2 h
  refine g_aload_n (pc := 5) C dX12_eyes_5 rfl 0 rfl ?_
  refine g_iload_n (pc := 6) C dX12_eyes_6 rfl 1 rfl ?_
  refine g_i2l (pc := 7) C dX12_eyes_7 ?_
  replace h := bnd h; obtain ⟨r3, h1, h⟩ := h
  refine g_callVi (pc := 8) (As := [.long (Int32.toInt64 x1)]) (st := []) C dX12_eyes_8 wX12_isLane hk1 rfl (by decide) q_1481 q_75 q_1479 (by omega) rfl (Nat.le_of_ble_eq_true rfl) (kX12_isLane (d := 1) (Nat.le_refl _) h1) ?_
  refine g_if_eq (pc := 11) (tgt := 23) C dX12_eyes_11 (by decide) (fun c4 => ?_) (fun c4 => ?_)
  · replace h := ifp c4 h
    refine g_bipush (pc := 23) (v := (-2)) C dX12_eyes_23 (by decide) ?_
    obtain ⟨rfl, rfl⟩ := Prod.mk.inj (Option.some.inj h)
    exact g_iret C hR dX12_eyes_25
  · replace h := ifn c4 h
    refine g_aload_n (pc := 14) C dX12_eyes_14 rfl 0 rfl ?_
    refine g_iload_n (pc := 15) C dX12_eyes_15 rfl 1 rfl ?_
    refine g_iconst (pc := 16) (v := 1) C dX12_eyes_16 (by decide) ?_
    replace h := bnd2 h; obtain ⟨r5, M6, h1, h⟩ := h
    refine g_callVi (pc := 17) (As := [.int (x1), .int ((1 : Int32))]) (st := []) C dX12_eyes_17 wX12_eyesOf hk1 rfl (by decide) q_1719 q_109 q_1717 (by omega) rfl (Nat.le_of_ble_eq_true rfl) (kX12_eyesOf (d := 403) (Nat.le_refl _) h1) ?_
    refine g_goto (pc := 20) (tgt := 25) C dX12_eyes_20 (by decide) ?_
    obtain ⟨rfl, rfl⟩ := Prod.mk.inj (Option.some.inj h)
    exact g_iret C hR dX12_eyes_25
theorem dX12_greatest_0 : decode cX12_greatest 0 = .ok (.aload_n 0, 1) := by decide +kernel
theorem dX12_greatest_1 : decode cX12_greatest 1 = .ok (.iconst 0, 1) := by decide +kernel
theorem dX12_greatest_2 : decode cX12_greatest 2 = .ok (.putfield 1, 3) := by decide +kernel
theorem dX12_greatest_5 : decode cX12_greatest 5 = .ok (.aload_n 0, 1) := by decide +kernel
theorem dX12_greatest_6 : decode cX12_greatest 6 = .ok (.iload_n 1, 1) := by decide +kernel
theorem dX12_greatest_7 : decode cX12_greatest 7 = .ok (.i2l, 1) := by decide +kernel
theorem dX12_greatest_8 : decode cX12_greatest 8 = .ok (.invokevirtual 247, 3) := by decide +kernel
theorem dX12_greatest_11 : decode cX12_greatest 11 = .ok (.ifCond .eq 12, 3) := by decide +kernel
theorem dX12_greatest_14 : decode cX12_greatest 14 = .ok (.aload_n 0, 1) := by decide +kernel
theorem dX12_greatest_15 : decode cX12_greatest 15 = .ok (.iload_n 1, 1) := by decide +kernel
theorem dX12_greatest_16 : decode cX12_greatest 16 = .ok (.iconst 0, 1) := by decide +kernel
theorem dX12_greatest_17 : decode cX12_greatest 17 = .ok (.invokevirtual 413, 3) := by decide +kernel
theorem dX12_greatest_20 : decode cX12_greatest 20 = .ok (.goto 5, 3) := by decide +kernel
theorem dX12_greatest_23 : decode cX12_greatest 23 = .ok (.bipush (-2), 2) := by decide +kernel
theorem dX12_greatest_25 : decode cX12_greatest 25 = .ok (.ireturn, 1) := by decide +kernel
theorem wX12_greatest : Mw yX12_greatest cX12_greatest 2 (some .int) 1 := ⟨q_1728, q_130, by decide, ⟨by decide +kernel, by decide +kernel⟩, by decide +kernel, by decide +kernel⟩
/-- EyeTrainerModel.greatest(I)I -/
def fX12_greatest (T : Sh) (M : Me) (x0 : Nat) (x1 : Int32) : Option (Int32 × Me) :=
  gd (kd T x0 = 11) <| lt (pI M x0 0 (0 : Int32)) fun M2 => Option.bind (fX12_isLane T M2 x0 (Int32.toInt64 x1)) fun r3 => if r3 = 0 then (some ((-2 : Int32), M2)) else (Option.bind (fX12_eyesOf T M2 x0 x1 (0 : Int32)) <| un2 fun r5 M6 => some (r5, M6))
set_option maxHeartbeats 4000000 in
theorem kX12_greatest {l : Launch} {B : Bx} {d : Nat} (hd : 404 ≤ d) {T : Sh} {M : Me} {x0 : Nat} {x1 : Int32} {r : Int32} {M' : Me} (h : fX12_greatest T M x0 x1 = some (r, M')) : Kt l B yX12_greatest cX12_greatest 2 (some .int) d [.ref (x0), .int (x1)] T M (some (.int r)) T M' := by
  refine kt_of wX12_greatest (Nat.le_refl _) (Nat.le_refl _) (Nat.le_of_ble_eq_true rfl) (fun X C hR hlx hin => ?_)
  subst hlx
  replace C : Cx X B cX12_greatest 2 RX12 d (tp T, sl T, tp T, sl T) := C
  unfold fX12_greatest at h
  show G X B 2 _ _ 0 [(0, .ref (x0)), (1, .int (x1))] [] T M
  refine g_aload_n (pc := 0) C dX12_greatest_0 rfl 0 rfl ?_
  refine g_iconst (pc := 1) (v := 0) C dX12_greatest_1 (by decide) ?_
  replace h := gd_some h; obtain ⟨hk1, h⟩ := h
  refine g_putI (pc := 2) C dX12_greatest_2 kX12 hk1 0 (by decide) rfl rfl rfl q_1227 ?_
  refine g_mem (fun M2 eM2 => ?_)
  replace h := lt_at eM2 h
  refine g_aload_n (pc := 5) C dX12_greatest_5 rfl 0 rfl ?_
  refine g_iload_n (pc := 6) C dX12_greatest_6 rfl 1 rfl ?_
  refine g_i2l (pc := 7) C dX12_greatest_7 ?_
  replace h := bnd h; obtain ⟨r3, h1, h⟩ := h
  refine g_callVi (pc := 8) (As := [.long (Int32.toInt64 x1)]) (st := []) C dX12_greatest_8 wX12_isLane hk1 rfl (by decide) q_1481 q_75 q_1479 (by omega) rfl (Nat.le_of_ble_eq_true rfl) (kX12_isLane (d := 1) (Nat.le_refl _) h1) ?_
  refine g_if_eq (pc := 11) (tgt := 23) C dX12_greatest_11 (by decide) (fun c4 => ?_) (fun c4 => ?_)
  · replace h := ifp c4 h
    refine g_bipush (pc := 23) (v := (-2)) C dX12_greatest_23 (by decide) ?_
    obtain ⟨rfl, rfl⟩ := Prod.mk.inj (Option.some.inj h)
    exact g_iret C hR dX12_greatest_25
  · replace h := ifn c4 h
    refine g_aload_n (pc := 14) C dX12_greatest_14 rfl 0 rfl ?_
    refine g_iload_n (pc := 15) C dX12_greatest_15 rfl 1 rfl ?_
    refine g_iconst (pc := 16) (v := 0) C dX12_greatest_16 (by decide) ?_
    replace h := bnd2 h; obtain ⟨r5, M6, h1, h⟩ := h
    refine g_callVi (pc := 17) (As := [.int (x1), .int ((0 : Int32))]) (st := []) C dX12_greatest_17 wX12_eyesOf hk1 rfl (by decide) q_1719 q_109 q_1717 (by omega) rfl (Nat.le_of_ble_eq_true rfl) (kX12_eyesOf (d := 403) (Nat.le_refl _) h1) ?_
    refine g_goto (pc := 20) (tgt := 25) C dX12_greatest_20 (by decide) ?_
    obtain ⟨rfl, rfl⟩ := Prod.mk.inj (Option.some.inj h)
    exact g_iret C hR dX12_greatest_25
theorem dX12_part_0 : decode cX12_part 0 = .ok (.iload 4, 2) := by decide +kernel
theorem dX12_part_2 : decode cX12_part 2 = .ok (.ifCond .ne 7, 3) := by decide +kernel
theorem dX12_part_5 : decode cX12_part 5 = .ok (.lload_n 0, 1) := by decide +kernel
theorem dX12_part_6 : decode cX12_part 6 = .ok (.goto 4, 3) := by decide +kernel
theorem dX12_part_9 : decode cX12_part 9 = .ok (.lload_n 2, 1) := by decide +kernel
theorem dX12_part_10 : decode cX12_part 10 = .ok (.lload_n 0, 1) := by decide +kernel
theorem dX12_part_11 : decode cX12_part 11 = .ok (.lload_n 2, 1) := by decide +kernel
theorem dX12_part_12 : decode cX12_part 12 = .ok (.invokestatic 454, 3) := by decide +kernel
theorem dX12_part_15 : decode cX12_part 15 = .ok (.ldiv, 1) := by decide +kernel
theorem dX12_part_16 : decode cX12_part 16 = .ok (.l2i, 1) := by decide +kernel
theorem dX12_part_17 : decode cX12_part 17 = .ok (.ireturn, 1) := by decide +kernel
theorem wX12_part : Mw yX12_part cX12_part 5 (some .int) 3 := ⟨q_1849, q_130, by decide, ⟨by decide +kernel, by decide +kernel⟩, by decide +kernel, by decide +kernel⟩
/-- EyeTrainerModel.part(JJI)I -/
def fX12_part (x0 : Int64) (x2 : Int64) (x4 : Int32) : Option (Int32) :=
  if x4 = 0 then (Option.bind (fGC 100 0 x0 x2) fun r4 => gd (¬ r4 = 0) <| some (Int64.toInt32 (x0 / r4))) else (Option.bind (fGC 100 0 x0 x2) fun r2 => gd (¬ r2 = 0) <| some (Int64.toInt32 (x2 / r2)))
set_option maxHeartbeats 4000000 in
theorem kX12_part {l : Launch} {B : Bx} {d : Nat} (hd : 101 ≤ d) {T : Sh} {M : Me} {x0 : Int64} {x2 : Int64} {x4 : Int32} {r : Int32} (h : fX12_part  x0 x2 x4 = some r) : Kt l B yX12_part cX12_part 5 (some .int) d [.long (x0), .long (x2), .int (x4)] T M (some (.int r)) T M := by
  refine kt_of wX12_part (Nat.le_refl _) (Nat.le_refl _) (Nat.le_of_ble_eq_true rfl) (fun X C hR hlx hin => ?_)
  subst hlx
  replace C : Cx X B cX12_part 5 RX12 d (tp T, sl T, tp T, sl T) := C
  unfold fX12_part at h
  show G X B 5 _ _ 0 [(0, .long (x0)), (2, .long (x2)), (4, .int (x4))] [] T M
  refine g_iload (pc := 0) C dX12_part_0 2 rfl ?_
  refine g_if_ne (pc := 2) (tgt := 9) C dX12_part_2 (by decide) (fun c1 => ?_) (fun c1 => ?_)
  · replace h := ifn c1 h
    refine g_lload_n (pc := 9) C dX12_part_9 rfl 1 rfl ?_
    refine g_lload_n (pc := 10) C dX12_part_10 rfl 0 rfl ?_
    refine g_lload_n (pc := 11) C dX12_part_11 rfl 1 rfl ?_
    replace h := bnd h; obtain ⟨r2, h1, h⟩ := h
    refine g_callSl (pc := 12) (As := [.long (x0), .long (x2)]) (st := [.long (x2)]) C dX12_part_12 wX12_common q_1851 q_1850 (by omega) rfl (Nat.le_of_ble_eq_true rfl) (kGC 100 0 _ _ _ _ _ h1) ?_
    replace h := gd_some h; obtain ⟨hz3, h⟩ := h
    refine g_ldiv (pc := 15) C dX12_part_15 hz3 ?_
    refine g_l2i (pc := 16) C dX12_part_16 ?_
    obtain rfl := Option.some.inj h
    exact g_iret C hR dX12_part_17
  · replace h := ifp c1 h
    refine g_lload_n (pc := 5) C dX12_part_5 rfl 0 rfl ?_
    refine g_goto (pc := 6) (tgt := 10) C dX12_part_6 (by decide) ?_
    refine g_lload_n (pc := 10) C dX12_part_10 rfl 0 rfl ?_
    refine g_lload_n (pc := 11) C dX12_part_11 rfl 1 rfl ?_
    replace h := bnd h; obtain ⟨r4, h1, h⟩ := h
    refine g_callSl (pc := 12) (As := [.long (x0), .long (x2)]) (st := [.long (x0)]) C dX12_part_12 wX12_common q_1851 q_1850 (by omega) rfl (Nat.le_of_ble_eq_true rfl) (kGC 100 0 _ _ _ _ _ h1) ?_
    replace h := gd_some h; obtain ⟨hz5, h⟩ := h
    refine g_ldiv (pc := 15) C dX12_part_15 hz5 ?_
    refine g_l2i (pc := 16) C dX12_part_16 ?_
    obtain rfl := Option.some.inj h
    exact g_iret C hR dX12_part_17
theorem dX12_chance_0 : decode cX12_chance 0 = .ok (.aload_n 0, 1) := by decide +kernel
theorem dX12_chance_1 : decode cX12_chance 1 = .ok (.iconst 0, 1) := by decide +kernel
theorem dX12_chance_2 : decode cX12_chance 2 = .ok (.putfield 1, 3) := by decide +kernel
theorem dX12_chance_5 : decode cX12_chance 5 = .ok (.aload_n 0, 1) := by decide +kernel
theorem dX12_chance_6 : decode cX12_chance 6 = .ok (.iload_n 1, 1) := by decide +kernel
theorem dX12_chance_7 : decode cX12_chance 7 = .ok (.i2l, 1) := by decide +kernel
theorem dX12_chance_8 : decode cX12_chance 8 = .ok (.invokevirtual 247, 3) := by decide +kernel
theorem dX12_chance_11 : decode cX12_chance 11 = .ok (.ifCond .eq 13, 3) := by decide +kernel
theorem dX12_chance_14 : decode cX12_chance 14 = .ok (.iload_n 3, 1) := by decide +kernel
theorem dX12_chance_15 : decode cX12_chance 15 = .ok (.i2l, 1) := by decide +kernel
theorem dX12_chance_16 : decode cX12_chance 16 = .ok (.lconst 0, 1) := by decide +kernel
theorem dX12_chance_17 : decode cX12_chance 17 = .ok (.lconst 1, 1) := by decide +kernel
theorem dX12_chance_18 : decode cX12_chance 18 = .ok (.invokestatic 139, 3) := by decide +kernel
theorem dX12_chance_21 : decode cX12_chance 21 = .ok (.ifCond .ne 6, 3) := by decide +kernel
theorem dX12_chance_24 : decode cX12_chance 24 = .ok (.bipush (-2), 2) := by decide +kernel
theorem dX12_chance_26 : decode cX12_chance 26 = .ok (.ireturn, 1) := by decide +kernel
theorem dX12_chance_27 : decode cX12_chance 27 = .ok (.iload_n 2, 1) := by decide +kernel
theorem dX12_chance_28 : decode cX12_chance 28 = .ok (.i2l, 1) := by decide +kernel
theorem dX12_chance_29 : decode cX12_chance 29 = .ok (.lconst 0, 1) := by decide +kernel
theorem dX12_chance_30 : decode cX12_chance 30 = .ok (.ldc2_w 458, 3) := by decide +kernel
theorem dX12_chance_33 : decode cX12_chance 33 = .ok (.invokestatic 139, 3) := by decide +kernel
theorem dX12_chance_36 : decode cX12_chance 36 = .ok (.ifCond .eq 20, 3) := by decide +kernel
theorem dX12_chance_39 : decode cX12_chance 39 = .ok (.aload_n 0, 1) := by decide +kernel
theorem dX12_chance_40 : decode cX12_chance 40 = .ok (.iload_n 1, 1) := by decide +kernel
theorem dX12_chance_41 : decode cX12_chance 41 = .ok (.iload_n 2, 1) := by decide +kernel
theorem dX12_chance_42 : decode cX12_chance 42 = .ok (.invokevirtual 460, 3) := by decide +kernel
theorem dX12_chance_45 : decode cX12_chance 45 = .ok (.iload_n 2, 1) := by decide +kernel
theorem dX12_chance_46 : decode cX12_chance 46 = .ok (.invokestatic 464, 3) := by decide +kernel
theorem dX12_chance_49 : decode cX12_chance 49 = .ok (.iload_n 3, 1) := by decide +kernel
theorem dX12_chance_50 : decode cX12_chance 50 = .ok (.invokestatic 468, 3) := by decide +kernel
theorem dX12_chance_53 : decode cX12_chance 53 = .ok (.goto 5, 3) := by decide +kernel
theorem dX12_chance_56 : decode cX12_chance 56 = .ok (.bipush (-3), 2) := by decide +kernel
theorem dX12_chance_58 : decode cX12_chance 58 = .ok (.ireturn, 1) := by decide +kernel
theorem wX12_chance : Mw yX12_chance cX12_chance 4 (some .int) 3 := ⟨q_1838, q_130, by decide, ⟨by decide +kernel, by decide +kernel⟩, by decide +kernel, by decide +kernel⟩
/-- EyeTrainerModel.chance(III)I -/
def fX12_chance (T : Sh) (M : Me) (x0 : Nat) (x1 : Int32) (x2 : Int32) (x3 : Int32) : Option (Int32 × Me) :=
  gd (kd T x0 = 11) <| lt (pI M x0 0 (0 : Int32)) fun M2 => Option.bind (fX12_isLane T M2 x0 (Int32.toInt64 x1)) fun r3 => if r3 = 0 then (some ((-2 : Int32), M2)) else (Option.bind (fX12_within (Int32.toInt64 x3) (0 : Int64) (1 : Int64)) fun r5 => if r5 = 0 then (some ((-2 : Int32), M2)) else (Option.bind (fX12_within (Int32.toInt64 x2) (0 : Int64) (6 : Int64)) fun r7 => if r7 = 0 then (some ((-3 : Int32), M2)) else (Option.bind (fX12_likelyOf T M2 x0 x1 x2) <| un2 fun r9 M10 => Option.bind (fX12_wholeOf x2) fun r11 => Option.bind (fX12_part r9 r11 x3) fun r12 => some (r12, M10))))
set_option maxHeartbeats 4000000 in
theorem kX12_chance {l : Launch} {B : Bx} {d : Nat} (hd : 102 ≤ d) {T : Sh} {M : Me} {x0 : Nat} {x1 : Int32} {x2 : Int32} {x3 : Int32} {r : Int32} {M' : Me} (h : fX12_chance T M x0 x1 x2 x3 = some (r, M')) : Kt l B yX12_chance cX12_chance 4 (some .int) d [.ref (x0), .int (x1), .int (x2), .int (x3)] T M (some (.int r)) T M' := by
  refine kt_of wX12_chance (Nat.le_refl _) (Nat.le_refl _) (Nat.le_of_ble_eq_true rfl) (fun X C hR hlx hin => ?_)
  subst hlx
  replace C : Cx X B cX12_chance 4 RX12 d (tp T, sl T, tp T, sl T) := C
  unfold fX12_chance at h
  show G X B 4 _ _ 0 [(0, .ref (x0)), (1, .int (x1)), (2, .int (x2)), (3, .int (x3))] [] T M
  refine g_aload_n (pc := 0) C dX12_chance_0 rfl 0 rfl ?_
  refine g_iconst (pc := 1) (v := 0) C dX12_chance_1 (by decide) ?_
  replace h := gd_some h; obtain ⟨hk1, h⟩ := h
  refine g_putI (pc := 2) C dX12_chance_2 kX12 hk1 0 (by decide) rfl rfl rfl q_1227 ?_
  refine g_mem (fun M2 eM2 => ?_)
  replace h := lt_at eM2 h
  refine g_aload_n (pc := 5) C dX12_chance_5 rfl 0 rfl ?_
  refine g_iload_n (pc := 6) C dX12_chance_6 rfl 1 rfl ?_
  refine g_i2l (pc := 7) C dX12_chance_7 ?_
  replace h := bnd h; obtain ⟨r3, h1, h⟩ := h
  refine g_callVi (pc := 8) (As := [.long (Int32.toInt64 x1)]) (st := []) C dX12_chance_8 wX12_isLane hk1 rfl (by decide) q_1481 q_75 q_1479 (by omega) rfl (Nat.le_of_ble_eq_true rfl) (kX12_isLane (d := 1) (Nat.le_refl _) h1) ?_
  refine g_if_eq (pc := 11) (tgt := 24) C dX12_chance_11 (by decide) (fun c4 => ?_) (fun c4 => ?_)
  · replace h := ifp c4 h
    refine g_bipush (pc := 24) (v := (-2)) C dX12_chance_24 (by decide) ?_
    obtain ⟨rfl, rfl⟩ := Prod.mk.inj (Option.some.inj h)
    exact g_iret C hR dX12_chance_26
  · replace h := ifn c4 h
    refine g_iload_n (pc := 14) C dX12_chance_14 rfl 3 rfl ?_
    refine g_i2l (pc := 15) C dX12_chance_15 ?_
    refine g_lconst (pc := 16) (v := 0) C dX12_chance_16 rfl ?_
    refine g_lconst (pc := 17) (v := 1) C dX12_chance_17 rfl ?_
    replace h := bnd h; obtain ⟨r5, h1, h⟩ := h
    refine g_callSi (pc := 18) (As := [.long (Int32.toInt64 x3), .long ((0 : Int64)), .long ((1 : Int64))]) (st := []) C dX12_chance_18 wX12_within q_1367 q_1366 (by omega) rfl (Nat.le_of_ble_eq_true rfl) (kX12_within (d := 0) (Nat.le_refl _) h1) ?_
    refine g_if_ne (pc := 21) (tgt := 27) C dX12_chance_21 (by decide) (fun c6 => ?_) (fun c6 => ?_)
    · replace h := ifn c6 h
      refine g_iload_n (pc := 27) C dX12_chance_27 rfl 2 rfl ?_
      refine g_i2l (pc := 28) C dX12_chance_28 ?_
      refine g_lconst (pc := 29) (v := 0) C dX12_chance_29 rfl ?_
      refine g_ldc2 (pc := 30) C dX12_chance_30 q_1839 ?_
      replace h := bnd h; obtain ⟨r7, h1, h⟩ := h
      refine g_callSi (pc := 33) (As := [.long (Int32.toInt64 x2), .long ((0 : Int64)), .long ((6 : Int64))]) (st := []) C dX12_chance_33 wX12_within q_1367 q_1366 (by omega) rfl (Nat.le_of_ble_eq_true rfl) (kX12_within (d := 0) (Nat.le_refl _) h1) ?_
      refine g_if_eq (pc := 36) (tgt := 56) C dX12_chance_36 (by decide) (fun c8 => ?_) (fun c8 => ?_)
      · replace h := ifp c8 h
        refine g_bipush (pc := 56) (v := (-3)) C dX12_chance_56 (by decide) ?_
        obtain ⟨rfl, rfl⟩ := Prod.mk.inj (Option.some.inj h)
        exact g_iret C hR dX12_chance_58
      · replace h := ifn c8 h
        refine g_aload_n (pc := 39) C dX12_chance_39 rfl 0 rfl ?_
        refine g_iload_n (pc := 40) C dX12_chance_40 rfl 1 rfl ?_
        refine g_iload_n (pc := 41) C dX12_chance_41 rfl 2 rfl ?_
        replace h := bnd2 h; obtain ⟨r9, M10, h1, h⟩ := h
        refine g_callVl (pc := 42) (As := [.int (x1), .int (x2)]) (st := []) C dX12_chance_42 wX12_likelyOf hk1 rfl (by decide) q_1842 q_118 q_1840 (by omega) rfl (Nat.le_of_ble_eq_true rfl) (kX12_likelyOf (d := 4) (Nat.le_refl _) h1) ?_
        refine g_iload_n (pc := 45) C dX12_chance_45 rfl 2 rfl ?_
        replace h := bnd h; obtain ⟨r11, h1, h⟩ := h
        refine g_callSl (pc := 46) (As := [.int (x2)]) (st := [.long (r9)]) C dX12_chance_46 wX12_wholeOf q_1845 q_1844 (by omega) rfl (Nat.le_of_ble_eq_true rfl) (kX12_wholeOf (d := 0) (Nat.le_refl _) h1) ?_
        refine g_iload_n (pc := 49) C dX12_chance_49 rfl 3 rfl ?_
        replace h := bnd h; obtain ⟨r12, h1, h⟩ := h
        refine g_callSi (pc := 50) (As := [.long (r9), .long (r11), .int (x3)]) (st := []) C dX12_chance_50 wX12_part q_1848 q_1847 (by omega) rfl (Nat.le_of_ble_eq_true rfl) (kX12_part (d := 101) (Nat.le_refl _) h1) ?_
        refine g_goto (pc := 53) (tgt := 58) C dX12_chance_53 (by decide) ?_
        obtain ⟨rfl, rfl⟩ := Prod.mk.inj (Option.some.inj h)
        exact g_iret C hR dX12_chance_58
    · replace h := ifp c6 h
      refine g_bipush (pc := 24) (v := (-2)) C dX12_chance_24 (by decide) ?_
      obtain ⟨rfl, rfl⟩ := Prod.mk.inj (Option.some.inj h)
      exact g_iret C hR dX12_chance_26
theorem dX12_mean_0 : decode cX12_mean 0 = .ok (.aload_n 0, 1) := by decide +kernel
theorem dX12_mean_1 : decode cX12_mean 1 = .ok (.iconst 0, 1) := by decide +kernel
theorem dX12_mean_2 : decode cX12_mean 2 = .ok (.putfield 1, 3) := by decide +kernel
theorem dX12_mean_5 : decode cX12_mean 5 = .ok (.iload_n 2, 1) := by decide +kernel
theorem dX12_mean_6 : decode cX12_mean 6 = .ok (.i2l, 1) := by decide +kernel
theorem dX12_mean_7 : decode cX12_mean 7 = .ok (.lconst 0, 1) := by decide +kernel
theorem dX12_mean_8 : decode cX12_mean 8 = .ok (.lconst 1, 1) := by decide +kernel
theorem dX12_mean_9 : decode cX12_mean 9 = .ok (.invokestatic 139, 3) := by decide +kernel
theorem dX12_mean_12 : decode cX12_mean 12 = .ok (.ifCond .ne 6, 3) := by decide +kernel
theorem dX12_mean_15 : decode cX12_mean 15 = .ok (.bipush (-2), 2) := by decide +kernel
theorem dX12_mean_17 : decode cX12_mean 17 = .ok (.ireturn, 1) := by decide +kernel
theorem dX12_mean_18 : decode cX12_mean 18 = .ok (.iload_n 1, 1) := by decide +kernel
theorem dX12_mean_19 : decode cX12_mean 19 = .ok (.i2l, 1) := by decide +kernel
theorem dX12_mean_20 : decode cX12_mean 20 = .ok (.lconst 0, 1) := by decide +kernel
theorem dX12_mean_21 : decode cX12_mean 21 = .ok (.ldc2_w 458, 3) := by decide +kernel
theorem dX12_mean_24 : decode cX12_mean 24 = .ok (.invokestatic 139, 3) := by decide +kernel
theorem dX12_mean_27 : decode cX12_mean 27 = .ok (.ifCond .ne 6, 3) := by decide +kernel
theorem dX12_mean_30 : decode cX12_mean 30 = .ok (.bipush (-3), 2) := by decide +kernel
theorem dX12_mean_32 : decode cX12_mean 32 = .ok (.ireturn, 1) := by decide +kernel
theorem dX12_mean_33 : decode cX12_mean 33 = .ok (.lconst 0, 1) := by decide +kernel
theorem dX12_mean_34 : decode cX12_mean 34 = .ok (.lstore_n 3, 1) := by decide +kernel
theorem dX12_mean_35 : decode cX12_mean 35 = .ok (.iconst 0, 1) := by decide +kernel
theorem dX12_mean_36 : decode cX12_mean 36 = .ok (.istore 5, 2) := by decide +kernel
theorem dX12_mean_38 : decode cX12_mean 38 = .ok (.iload 5, 2) := by decide +kernel
theorem dX12_mean_40 : decode cX12_mean 40 = .ok (.aload_n 0, 1) := by decide +kernel
theorem dX12_mean_41 : decode cX12_mean 41 = .ok (.getfield 13, 3) := by decide +kernel
theorem dX12_mean_44 : decode cX12_mean 44 = .ok (.iconst 3, 1) := by decide +kernel
theorem dX12_mean_45 : decode cX12_mean 45 = .ok (.iaload, 1) := by decide +kernel
theorem dX12_mean_46 : decode cX12_mean 46 = .ok (.if_icmp .ge 19, 3) := by decide +kernel
theorem dX12_mean_49 : decode cX12_mean 49 = .ok (.lload_n 3, 1) := by decide +kernel
theorem dX12_mean_50 : decode cX12_mean 50 = .ok (.aload_n 0, 1) := by decide +kernel
theorem dX12_mean_51 : decode cX12_mean 51 = .ok (.iload 5, 2) := by decide +kernel
theorem dX12_mean_53 : decode cX12_mean 53 = .ok (.iload_n 1, 1) := by decide +kernel
theorem dX12_mean_54 : decode cX12_mean 54 = .ok (.invokevirtual 460, 3) := by decide +kernel
theorem dX12_mean_57 : decode cX12_mean 57 = .ok (.ladd, 1) := by decide +kernel
theorem dX12_mean_58 : decode cX12_mean 58 = .ok (.lstore_n 3, 1) := by decide +kernel
theorem dX12_mean_59 : decode cX12_mean 59 = .ok (.iinc 5 1, 3) := by decide +kernel
theorem dX12_mean_62 : decode cX12_mean 62 = .ok (.goto (-24), 3) := by decide +kernel
theorem dX12_mean_65 : decode cX12_mean 65 = .ok (.lload_n 3, 1) := by decide +kernel
theorem dX12_mean_66 : decode cX12_mean 66 = .ok (.iload_n 1, 1) := by decide +kernel
theorem dX12_mean_67 : decode cX12_mean 67 = .ok (.invokestatic 464, 3) := by decide +kernel
theorem dX12_mean_70 : decode cX12_mean 70 = .ok (.iload_n 2, 1) := by decide +kernel
theorem dX12_mean_71 : decode cX12_mean 71 = .ok (.invokestatic 468, 3) := by decide +kernel
theorem dX12_mean_74 : decode cX12_mean 74 = .ok (.ireturn, 1) := by decide +kernel
theorem wX12_mean : Mw yX12_mean cX12_mean 6 (some .int) 2 := ⟨q_1856, q_130, by decide, ⟨by decide +kernel, by decide +kernel⟩, by decide +kernel, by decide +kernel⟩
-- a loop of EyeTrainerModel.mean at 38
def bX12_mean_38 (T : Sh) (x0 : Nat) (x1 : Int32) (x2 : Int32) (x3 : Int64) (x5 : Int32) (M : Me) : Option ((Int64 × Int32 × Me) ⊕ ((Int64 × Me))) :=
  gd (kd T x0 = 11) <| Option.bind (gR M x0 1) fun a8 => gd (kd T a8 = 13) <| gv (3 : Int32) (ln T a8) <| if (gI M a8 (Int32.toNatClampNeg (3 : Int32))) ≤ x5 then (some (.inr (x3, M))) else (Option.bind (fX12_likelyOf T M x0 x5 x1) <| un2 fun r12 M13 => lt (x3 + r12) fun v14 => lt (x5 + (1 : Int32)) fun v15 => some (.inl (v14, v15, M13)))
def PX12_mean_38 (X : Fx) (B : Bx) (Z : Nat × Nat × Nat × Nat) (Q : State → Prop) (T : Sh) (x0 : Nat) (x1 : Int32) (x2 : Int32) (s : Int64 × Int32 × Me) : Prop := G X B 6 Z Q 38 [(0, .ref (x0)), (1, .int (x1)), (2, .int (x2)), (3, .long (s.1)), (5, .int (s.2.1))] [] T s.2.2
def EX12_mean_38 (X : Fx) (B : Bx) (Z : Nat × Nat × Nat × Nat) (Q : State → Prop) (T : Sh) (x0 : Nat) (x1 : Int32) (x2 : Int32) (r : (Int64 × Me)) : Prop := G X B 6 Z Q 65 [(1, .int (x1)), (2, .int (x2)), (3, .long (r.1))] [] T r.2
set_option maxHeartbeats 4000000 in
theorem tbX12_mean_38 {X : Fx} {B : Bx} {Z : Nat × Nat × Nat × Nat} {Q : State → Prop} {d : Nat} {T : Sh} (C : Cx X B cX12_mean 6 RX12 d Z) (hd : 102 ≤ d) {x0 : Nat} {x1 : Int32} {x2 : Int32} : ∀ (s : Int64 × Int32 × Me) (o : (Int64 × Int32 × Me) ⊕ ((Int64 × Me))), bX12_mean_38 T x0 x1 x2 s.1 s.2.1 s.2.2 = some o → lpE (PX12_mean_38 X B Z Q T x0 x1 x2) (EX12_mean_38 X B Z Q T x0 x1 x2) o → PX12_mean_38 X B Z Q T x0 x1 x2 s := by
  rintro ⟨x3, x5, M⟩ o h hE
  replace h : bX12_mean_38 T x0 x1 x2 x3 x5 M = some o := h
  unfold bX12_mean_38 at h
  show G X B 6 Z Q 38 [(0, .ref (x0)), (1, .int (x1)), (2, .int (x2)), (3, .long (x3)), (5, .int (x5))] [] T M
  refine g_iload (pc := 38) C dX12_mean_38 4 rfl ?_
  refine g_aload_n (pc := 40) C dX12_mean_40 rfl 0 rfl ?_
  replace h := gd_some h; obtain ⟨hk7, h⟩ := h
  refine g_get (pc := 41) (v := va_rf (gR M x0 1)) C dX12_mean_41 kX12 hk7 1 (by decide) q_1228 rfl ?_
  replace h := bnd h; obtain ⟨a8, ea8, h⟩ := h
  refine g_refq ea8 ?_
  refine g_iconst (pc := 44) (v := 3) C dX12_mean_44 (by decide) ?_
  replace h := gd_some h; obtain ⟨hk9, h⟩ := h
  replace h := gv_some h; obtain ⟨hi10, h⟩ := h
  refine g_iald (pc := 45) C dX12_mean_45 hk9 hi10 ?_
  refine g_icmp_ge (pc := 46) (tgt := 65) C dX12_mean_46 (by decide) (fun c11 => ?_) (fun c11 => ?_)
  · replace h := ifp c11 h
    obtain rfl := Option.some.inj h
    exact g_sub [1, 2, 3] rfl (show G X B 6 Z Q 65 [(1, .int (x1)), (2, .int (x2)), (3, .long (x3))] [] T M from hE)
  · replace h := ifn c11 h
    refine g_lload_n (pc := 49) C dX12_mean_49 rfl 3 rfl ?_
    refine g_aload_n (pc := 50) C dX12_mean_50 rfl 0 rfl ?_
    refine g_iload (pc := 51) C dX12_mean_51 4 rfl ?_
    refine g_iload_n (pc := 53) C dX12_mean_53 rfl 1 rfl ?_
    replace h := bnd2 h; obtain ⟨r12, M13, h1, h⟩ := h
    refine g_callVl (pc := 54) (As := [.int (x5), .int (x1)]) (st := [.long (x3)]) C dX12_mean_54 wX12_likelyOf hk7 rfl (by decide) q_1842 q_118 q_1840 (by omega) rfl (Nat.le_of_ble_eq_true rfl) (kX12_likelyOf (d := 4) (Nat.le_refl _) h1) ?_
    refine g_ladd (pc := 57) C dX12_mean_57 ?_
    refine g_topl (fun v14 ev14 => ?_)
    replace h := lt_at ev14 h
    refine g_lstore_n (pc := 58) (lo2 := [(3, .long (v14)), (0, .ref (x0)), (1, .int (x1)), (2, .int (x2)), (5, .int (x5))]) C dX12_mean_58 rfl (by decide) rfl ?_
    obtain ⟨v15, ev15⟩ : ∃ y : Int32, y = x5 + (1 : Int32) := ⟨_, rfl⟩
    replace h := lt_at ev15 h
    refine g_iinc (pc := 59) (v := v15) (k := 4) (lo2 := [(5, .int (v15)), (3, .long (v14)), (0, .ref (x0)), (1, .int (x1)), (2, .int (x2))]) C dX12_mean_59 rfl (by rw [ev15]; rfl) (by decide) rfl ?_
    refine g_goto (pc := 62) (tgt := 38) C dX12_mean_62 (by decide) ?_
    obtain rfl := Option.some.inj h
    exact g_sub [2, 3, 4, 1, 0] rfl (show G X B 6 Z Q 38 [(0, .ref (x0)), (1, .int (x1)), (2, .int (x2)), (3, .long (v14)), (5, .int (v15))] [] T M13 from hE)
/-- EyeTrainerModel.mean(II)I -/
def fX12_mean (T : Sh) (M : Me) (x0 : Nat) (x1 : Int32) (x2 : Int32) : Option (Int32 × Me) :=
  gd (kd T x0 = 11) <| lt (pI M x0 0 (0 : Int32)) fun M2 => Option.bind (fX12_within (Int32.toInt64 x2) (0 : Int64) (1 : Int64)) fun r3 => if r3 = 0 then (some ((-2 : Int32), M2)) else (Option.bind (fX12_within (Int32.toInt64 x1) (0 : Int64) (6 : Int64)) fun r5 => if r5 = 0 then (some ((-3 : Int32), M2)) else ((lp FU (fun s => bX12_mean_38 T x0 x1 x2 s.1 s.2.1 s.2.2) ((0 : Int64), (0 : Int32), M2)).bind (un2 fun x3_16 M17 => Option.bind (fX12_wholeOf x1) fun r18 => Option.bind (fX12_part x3_16 r18 x2) fun r19 => some (r19, M17))))
set_option maxHeartbeats 4000000 in
theorem kX12_mean {l : Launch} {B : Bx} {d : Nat} (hd : 102 ≤ d) {T : Sh} {M : Me} {x0 : Nat} {x1 : Int32} {x2 : Int32} {r : Int32} {M' : Me} (h : fX12_mean T M x0 x1 x2 = some (r, M')) : Kt l B yX12_mean cX12_mean 6 (some .int) d [.ref (x0), .int (x1), .int (x2)] T M (some (.int r)) T M' := by
  refine kt_of wX12_mean (Nat.le_refl _) (Nat.le_refl _) (Nat.le_of_ble_eq_true rfl) (fun X C hR hlx hin => ?_)
  subst hlx
  replace C : Cx X B cX12_mean 6 RX12 d (tp T, sl T, tp T, sl T) := C
  unfold fX12_mean at h
  show G X B 6 _ _ 0 [(0, .ref (x0)), (1, .int (x1)), (2, .int (x2))] [] T M
  refine g_aload_n (pc := 0) C dX12_mean_0 rfl 0 rfl ?_
  refine g_iconst (pc := 1) (v := 0) C dX12_mean_1 (by decide) ?_
  replace h := gd_some h; obtain ⟨hk1, h⟩ := h
  refine g_putI (pc := 2) C dX12_mean_2 kX12 hk1 0 (by decide) rfl rfl rfl q_1227 ?_
  refine g_mem (fun M2 eM2 => ?_)
  replace h := lt_at eM2 h
  refine g_iload_n (pc := 5) C dX12_mean_5 rfl 2 rfl ?_
  refine g_i2l (pc := 6) C dX12_mean_6 ?_
  refine g_lconst (pc := 7) (v := 0) C dX12_mean_7 rfl ?_
  refine g_lconst (pc := 8) (v := 1) C dX12_mean_8 rfl ?_
  replace h := bnd h; obtain ⟨r3, h1, h⟩ := h
  refine g_callSi (pc := 9) (As := [.long (Int32.toInt64 x2), .long ((0 : Int64)), .long ((1 : Int64))]) (st := []) C dX12_mean_9 wX12_within q_1367 q_1366 (by omega) rfl (Nat.le_of_ble_eq_true rfl) (kX12_within (d := 0) (Nat.le_refl _) h1) ?_
  refine g_if_ne (pc := 12) (tgt := 18) C dX12_mean_12 (by decide) (fun c4 => ?_) (fun c4 => ?_)
  · replace h := ifn c4 h
    refine g_iload_n (pc := 18) C dX12_mean_18 rfl 1 rfl ?_
    refine g_i2l (pc := 19) C dX12_mean_19 ?_
    refine g_lconst (pc := 20) (v := 0) C dX12_mean_20 rfl ?_
    refine g_ldc2 (pc := 21) C dX12_mean_21 q_1839 ?_
    replace h := bnd h; obtain ⟨r5, h1, h⟩ := h
    refine g_callSi (pc := 24) (As := [.long (Int32.toInt64 x1), .long ((0 : Int64)), .long ((6 : Int64))]) (st := []) C dX12_mean_24 wX12_within q_1367 q_1366 (by omega) rfl (Nat.le_of_ble_eq_true rfl) (kX12_within (d := 0) (Nat.le_refl _) h1) ?_
    refine g_if_ne (pc := 27) (tgt := 33) C dX12_mean_27 (by decide) (fun c6 => ?_) (fun c6 => ?_)
    · replace h := ifn c6 h
      refine g_lconst (pc := 33) (v := 0) C dX12_mean_33 rfl ?_
      refine g_lstore_n (pc := 34) (lo2 := [(3, .long ((0 : Int64))), (0, .ref (x0)), (1, .int (x1)), (2, .int (x2))]) C dX12_mean_34 rfl (by decide) rfl ?_
      refine g_iconst (pc := 35) (v := 0) C dX12_mean_35 (by decide) ?_
      refine g_istore (pc := 36) (lo2 := [(5, .int ((0 : Int32))), (3, .long ((0 : Int64))), (0, .ref (x0)), (1, .int (x1)), (2, .int (x2))]) C dX12_mean_36 (by decide) rfl ?_
      replace h := bnd2 h; obtain ⟨x3_16, M17, h1, h⟩ := h
      refine g_sub [2, 3, 4, 1, 0] rfl ?_
      refine lp_G2 (P := PX12_mean_38 X B _ _ T x0 x1 x2) (E := EX12_mean_38 X B _ _ T x0 x1 x2) (tbX12_mean_38 C hd) h1 ?_
      show G X B 6 _ _ 65 [(1, .int (x1)), (2, .int (x2)), (3, .long (x3_16))] [] T M17
      refine g_lload_n (pc := 65) C dX12_mean_65 rfl 2 rfl ?_
      refine g_iload_n (pc := 66) C dX12_mean_66 rfl 0 rfl ?_
      replace h := bnd h; obtain ⟨r18, h1, h⟩ := h
      refine g_callSl (pc := 67) (As := [.int (x1)]) (st := [.long (x3_16)]) C dX12_mean_67 wX12_wholeOf q_1845 q_1844 (by omega) rfl (Nat.le_of_ble_eq_true rfl) (kX12_wholeOf (d := 0) (Nat.le_refl _) h1) ?_
      refine g_iload_n (pc := 70) C dX12_mean_70 rfl 1 rfl ?_
      replace h := bnd h; obtain ⟨r19, h1, h⟩ := h
      refine g_callSi (pc := 71) (As := [.long (x3_16), .long (r18), .int (x2)]) (st := []) C dX12_mean_71 wX12_part q_1848 q_1847 (by omega) rfl (Nat.le_of_ble_eq_true rfl) (kX12_part (d := 101) (Nat.le_refl _) h1) ?_
      obtain ⟨rfl, rfl⟩ := Prod.mk.inj (Option.some.inj h)
      exact g_iret C hR dX12_mean_74
    · replace h := ifp c6 h
      refine g_bipush (pc := 30) (v := (-3)) C dX12_mean_30 (by decide) ?_
      obtain ⟨rfl, rfl⟩ := Prod.mk.inj (Option.some.inj h)
      exact g_iret C hR dX12_mean_32
  · replace h := ifp c4 h
    refine g_bipush (pc := 15) (v := (-2)) C dX12_mean_15 (by decide) ?_
    obtain ⟨rfl, rfl⟩ := Prod.mk.inj (Option.some.inj h)
    exact g_iret C hR dX12_mean_17
