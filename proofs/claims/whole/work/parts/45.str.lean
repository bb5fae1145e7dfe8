set_option maxRecDepth 20000 in
theorem q_131 : Cond.initialized RJ0 ∈ lw_gd := mem_gd (List.mem_of_getElem? (i := 131) (by decide +kernel)) rfl
set_option maxRecDepth 20000 in
theorem q_132 : Cond.initialized RJ1 ∈ lw_gd := mem_gd (List.mem_of_getElem? (i := 132) (by decide +kernel)) rfl
set_option maxRecDepth 20000 in
theorem q_133 : Cond.initialized RJ3 ∈ lw_gd := mem_gd (List.mem_of_getElem? (i := 133) (by decide +kernel)) rfl
set_option maxRecDepth 20000 in
theorem q_501 : Cond.instanceMethod yJ0_length_8abf5 ∈ lw_gd := mem_gd (List.mem_of_getElem? (i := 501) (by decide +kernel)) rfl
set_option maxRecDepth 20000 in
theorem q_502 : Cond.selects RJ0 yJ0_length_8abf5 yJ0_length_8abf5 ∈ lw_gd := mem_gd (List.mem_of_getElem? (i := 502) (by decide +kernel)) rfl
set_option maxRecDepth 20000 in
theorem q_503 : Cond.code yJ0_length_8abf5 cJ0_length_8abf5 1 (some .int) ∈ lw_gd := mem_gd (List.mem_of_getElem? (i := 503) (by decide +kernel)) rfl
set_option maxRecDepth 20000 in
theorem q_504 : Cond.methodLink RJ0 335 yJ0_coder_7d493 ∈ lw_gd := mem_gd (List.mem_of_getElem? (i := 504) (by decide +kernel)) rfl
set_option maxRecDepth 20000 in
theorem q_505 : Cond.instanceMethod yJ0_coder_7d493 ∈ lw_gd := mem_gd (List.mem_of_getElem? (i := 505) (by decide +kernel)) rfl
set_option maxRecDepth 20000 in
theorem q_506 : Cond.selects RJ0 yJ0_coder_7d493 yJ0_coder_7d493 ∈ lw_gd := mem_gd (List.mem_of_getElem? (i := 506) (by decide +kernel)) rfl
set_option maxRecDepth 20000 in
theorem q_507 : Cond.code yJ0_coder_7d493 cJ0_coder_7d493 1 (some .byte) ∈ lw_gd := mem_gd (List.mem_of_getElem? (i := 507) (by decide +kernel)) rfl
set_option maxRecDepth 20000 in
theorem q_508 : Cond.fieldLink RJ0 38 "java/lang/String" "COMPACT_STRINGS" "Z" ∈ lw_gd := mem_gd (List.mem_of_getElem? (i := 508) (by decide +kernel)) rfl
set_option maxRecDepth 20000 in
theorem q_513 : Cond.code yJ0_charAt_5068e cJ0_charAt_5068e 2 (some .char) ∈ lw_gd := mem_gd (List.mem_of_getElem? (i := 513) (by decide +kernel)) rfl
set_option maxRecDepth 20000 in
theorem q_514 : Cond.methodLink RJ0 492 yJ0_isLatin1_aae02 ∈ lw_gd := mem_gd (List.mem_of_getElem? (i := 514) (by decide +kernel)) rfl
set_option maxRecDepth 20000 in
theorem q_515 : Cond.instanceMethod yJ0_isLatin1_aae02 ∈ lw_gd := mem_gd (List.mem_of_getElem? (i := 515) (by decide +kernel)) rfl
set_option maxRecDepth 20000 in
theorem q_516 : Cond.selects RJ0 yJ0_isLatin1_aae02 yJ0_isLatin1_aae02 ∈ lw_gd := mem_gd (List.mem_of_getElem? (i := 516) (by decide +kernel)) rfl
set_option maxRecDepth 20000 in
theorem q_517 : Cond.code yJ0_isLatin1_aae02 cJ0_isLatin1_aae02 1 (some .boolean) ∈ lw_gd := mem_gd (List.mem_of_getElem? (i := 517) (by decide +kernel)) rfl
set_option maxRecDepth 20000 in
theorem q_518 : Cond.methodLink RJ0 495 yJ1_charAt_3b067 ∈ lw_gd := mem_gd (List.mem_of_getElem? (i := 518) (by decide +kernel)) rfl
set_option maxRecDepth 20000 in
theorem q_519 : Cond.static yJ1_charAt_3b067 ∈ lw_gd := mem_gd (List.mem_of_getElem? (i := 519) (by decide +kernel)) rfl
set_option maxRecDepth 20000 in
theorem q_520 : Cond.code yJ1_charAt_3b067 cJ1_charAt_3b067 2 (some .char) ∈ lw_gd := mem_gd (List.mem_of_getElem? (i := 520) (by decide +kernel)) rfl
set_option maxRecDepth 20000 in
theorem q_521 : Cond.methodLink RJ1 9 yJ0_checkIndex_df160 ∈ lw_gd := mem_gd (List.mem_of_getElem? (i := 521) (by decide +kernel)) rfl
set_option maxRecDepth 20000 in
theorem q_522 : Cond.static yJ0_checkIndex_df160 ∈ lw_gd := mem_gd (List.mem_of_getElem? (i := 522) (by decide +kernel)) rfl
set_option maxRecDepth 20000 in
theorem q_523 : Cond.code yJ0_checkIndex_df160 cJ0_checkIndex_df160 2 none ∈ lw_gd := mem_gd (List.mem_of_getElem? (i := 523) (by decide +kernel)) rfl
set_option maxRecDepth 20000 in
theorem q_524 : Cond.fieldLink RJ0 1053 "jdk/internal/util/Preconditions" "SIOOBE_FORMATTER" "Ljava/util/function/BiFunction;" ∈ lw_gd := mem_gd (List.mem_of_getElem? (i := 524) (by decide +kernel)) rfl
set_option maxRecDepth 20000 in
theorem q_526 : Cond.methodLink RJ0 1059 yJ3_checkIndex_8e157 ∈ lw_gd := mem_gd (List.mem_of_getElem? (i := 526) (by decide +kernel)) rfl
set_option maxRecDepth 20000 in
theorem q_527 : Cond.static yJ3_checkIndex_8e157 ∈ lw_gd := mem_gd (List.mem_of_getElem? (i := 527) (by decide +kernel)) rfl
set_option maxRecDepth 20000 in
theorem q_528 : Cond.code yJ3_checkIndex_8e157 cJ3_checkIndex_8e157 3 (some .int) ∈ lw_gd := mem_gd (List.mem_of_getElem? (i := 528) (by decide +kernel)) rfl
set_option maxRecDepth 20000 in
theorem q_593 : Cond.code yJ0_indexOf_0f7a4 cJ0_indexOf_0f7a4 2 (some .int) ∈ lw_gd := mem_gd (List.mem_of_getElem? (i := 593) (by decide +kernel)) rfl
set_option maxRecDepth 20000 in
theorem q_594 : Cond.methodLink RJ0 633 yJ0_indexOf_7cf53 ∈ lw_gd := mem_gd (List.mem_of_getElem? (i := 594) (by decide +kernel)) rfl
set_option maxRecDepth 20000 in
theorem q_595 : Cond.instanceMethod yJ0_indexOf_7cf53 ∈ lw_gd := mem_gd (List.mem_of_getElem? (i := 595) (by decide +kernel)) rfl
set_option maxRecDepth 20000 in
theorem q_596 : Cond.selects RJ0 yJ0_indexOf_7cf53 yJ0_indexOf_7cf53 ∈ lw_gd := mem_gd (List.mem_of_getElem? (i := 596) (by decide +kernel)) rfl
set_option maxRecDepth 20000 in
theorem q_597 : Cond.code yJ0_indexOf_7cf53 cJ0_indexOf_7cf53 3 (some .int) ∈ lw_gd := mem_gd (List.mem_of_getElem? (i := 597) (by decide +kernel)) rfl
set_option maxRecDepth 20000 in
theorem q_598 : Cond.methodLink RJ0 505 yJ0_length_8abf5 ∈ lw_gd := mem_gd (List.mem_of_getElem? (i := 598) (by decide +kernel)) rfl
set_option maxRecDepth 20000 in
theorem q_599 : Cond.methodLink RJ0 637 yJ1_indexOf_4cfef ∈ lw_gd := mem_gd (List.mem_of_getElem? (i := 599) (by decide +kernel)) rfl
set_option maxRecDepth 20000 in
theorem q_600 : Cond.static yJ1_indexOf_4cfef ∈ lw_gd := mem_gd (List.mem_of_getElem? (i := 600) (by decide +kernel)) rfl
set_option maxRecDepth 20000 in
theorem q_601 : Cond.code yJ1_indexOf_4cfef cJ1_indexOf_4cfef 4 (some .int) ∈ lw_gd := mem_gd (List.mem_of_getElem? (i := 601) (by decide +kernel)) rfl
set_option maxRecDepth 20000 in
theorem q_602 : Cond.methodLink RJ1 88 yJ1_canEncode_9a6ad ∈ lw_gd := mem_gd (List.mem_of_getElem? (i := 602) (by decide +kernel)) rfl
set_option maxRecDepth 20000 in
theorem q_603 : Cond.static yJ1_canEncode_9a6ad ∈ lw_gd := mem_gd (List.mem_of_getElem? (i := 603) (by decide +kernel)) rfl
set_option maxRecDepth 20000 in
theorem q_604 : Cond.code yJ1_canEncode_9a6ad cJ1_canEncode_9a6ad 1 (some .boolean) ∈ lw_gd := mem_gd (List.mem_of_getElem? (i := 604) (by decide +kernel)) rfl
set_option maxRecDepth 20000 in
theorem q_605 : Cond.methodLink RJ1 92 yJ9_max_7cf53 ∈ lw_gd := mem_gd (List.mem_of_getElem? (i := 605) (by decide +kernel)) rfl
set_option maxRecDepth 20000 in
theorem q_608 : Cond.methodLink RJ1 38 yJ9_min_7cf53 ∈ lw_gd := mem_gd (List.mem_of_getElem? (i := 608) (by decide +kernel)) rfl
set_option maxRecDepth 20000 in
theorem q_609 : Cond.methodLink RJ1 95 yJ1_indexOfChar_4cfef ∈ lw_gd := mem_gd (List.mem_of_getElem? (i := 609) (by decide +kernel)) rfl
set_option maxRecDepth 20000 in
theorem q_610 : Cond.static yJ1_indexOfChar_4cfef ∈ lw_gd := mem_gd (List.mem_of_getElem? (i := 610) (by decide +kernel)) rfl
set_option maxRecDepth 20000 in
theorem q_611 : Cond.code yJ1_indexOfChar_4cfef cJ1_indexOfChar_4cfef 6 (some .int) ∈ lw_gd := mem_gd (List.mem_of_getElem? (i := 611) (by decide +kernel)) rfl
set_option maxRecDepth 20000 in
theorem q_1886 : Cond.fieldLink RJ0 9 "java/lang/String" "value" "[B" ∈ lw_gd := mem_gd (List.mem_of_getElem? (i := 1886) (by decide +kernel)) rfl
set_option maxRecDepth 20000 in
theorem q_1887 : Cond.fieldLink RJ0 15 "java/lang/String" "coder" "B" ∈ lw_gd := mem_gd (List.mem_of_getElem? (i := 1887) (by decide +kernel)) rfl
theorem dJ0_coder_7d493_0 : decode cJ0_coder_7d493 0 = .ok (.getstatic 38, 3) := by decide +kernel
theorem dJ0_coder_7d493_3 : decode cJ0_coder_7d493 3 = .ok (.ifCond .eq 10, 3) := by decide +kernel
theorem dJ0_coder_7d493_6 : decode cJ0_coder_7d493 6 = .ok (.aload_n 0, 1) := by decide +kernel
theorem dJ0_coder_7d493_7 : decode cJ0_coder_7d493 7 = .ok (.getfield 15, 3) := by decide +kernel
theorem dJ0_coder_7d493_10 : decode cJ0_coder_7d493 10 = .ok (.goto 4, 3) := by decide +kernel
theorem dJ0_coder_7d493_13 : decode cJ0_coder_7d493 13 = .ok (.iconst 1, 1) := by decide +kernel
theorem dJ0_coder_7d493_14 : decode cJ0_coder_7d493 14 = .ok (.ireturn, 1) := by decide +kernel
theorem wJ0_coder_7d493 : Mw yJ0_coder_7d493 cJ0_coder_7d493 1 (some .byte) 0 := ⟨q_507, q_131, by decide, ⟨by decide +kernel, by decide +kernel⟩, by decide +kernel, by decide +kernel⟩
/-- java/lang/String.coder()B -/
def fJ0_coder_7d493 (x0 : Nat) : Option (Int32) :=
  if (1 : Int32) = 0 then (some (1 : Int32)) else (gd (x0 < 25) <| some (0 : Int32))
set_option maxHeartbeats 4000000 in
theorem kJ0_coder_7d493 {l : Launch} {B : Bx} {d : Nat} (hd : 0 ≤ d) {T : Sh} {M : Me} {x0 : Nat} {r : Int32} (h : fJ0_coder_7d493  x0 = some r) : Kt l B yJ0_coder_7d493 cJ0_coder_7d493 1 (some .byte) d [.ref (B.2.2.2.1 (x0))] T M (some (.int r)) T M := by
  refine kt_of wJ0_coder_7d493 (Nat.le_refl _) (Nat.le_refl _) (Nat.le_of_ble_eq_true rfl) (fun X C hR hlx hin => ?_)
  subst hlx
  replace C : Cx X B cJ0_coder_7d493 1 RJ0 d (tp T, sl T, tp T, sl T) := C
  unfold fJ0_coder_7d493 at h
  show G X B 1 _ _ 0 [(0, .ref (B.2.2.2.1 (x0)))] [] T M
  refine g_sZ (pc := 0) C dJ0_coder_7d493_0 q_508 ?_
  refine g_if_eq (pc := 3) (tgt := 13) C dJ0_coder_7d493_3 (by decide) (fun c1 => ?_) (fun c1 => ?_)
  · replace h := ifp c1 h
    refine g_iconst (pc := 13) (v := 1) C dJ0_coder_7d493_13 (by decide) ?_
    obtain rfl := Option.some.inj h
    exact g_zret C hR dJ0_coder_7d493_14 rfl
  · replace h := ifn c1 h
    refine g_aload_n (pc := 6) C dJ0_coder_7d493_6 rfl 0 rfl ?_
    replace h := gd_some h; obtain ⟨hw2, h⟩ := h
    refine g_scod (pc := 7) C dJ0_coder_7d493_7 hw2 q_1887 ?_
    refine g_goto (pc := 10) (tgt := 14) C dJ0_coder_7d493_10 (by decide) ?_
    obtain rfl := Option.some.inj h
    exact g_zret C hR dJ0_coder_7d493_14 rfl
theorem dJ0_length_8abf5_0 : decode cJ0_length_8abf5 0 = .ok (.aload_n 0, 1) := by decide +kernel
theorem dJ0_length_8abf5_1 : decode cJ0_length_8abf5 1 = .ok (.getfield 9, 3) := by decide +kernel
theorem dJ0_length_8abf5_4 : decode cJ0_length_8abf5 4 = .ok (.arraylength, 1) := by decide +kernel
theorem dJ0_length_8abf5_5 : decode cJ0_length_8abf5 5 = .ok (.aload_n 0, 1) := by decide +kernel
theorem dJ0_length_8abf5_6 : decode cJ0_length_8abf5 6 = .ok (.invokevirtual 335, 3) := by decide +kernel
theorem dJ0_length_8abf5_9 : decode cJ0_length_8abf5 9 = .ok (.ishr, 1) := by decide +kernel
theorem dJ0_length_8abf5_10 : decode cJ0_length_8abf5 10 = .ok (.ireturn, 1) := by decide +kernel
theorem wJ0_length_8abf5 : Mw yJ0_length_8abf5 cJ0_length_8abf5 1 (some .int) 0 := ⟨q_503, q_131, by decide, ⟨by decide +kernel, by decide +kernel⟩, by decide +kernel, by decide +kernel⟩
/-- java/lang/String.length()I -/
def fJ0_length_8abf5 (x0 : Nat) : Option (Int32) :=
  gd (x0 < 25) <| Option.bind (fJ0_coder_7d493 x0) fun r2 => some ((nI (sLen.getD x0 0)) >>> (r2 &&& 31))
set_option maxHeartbeats 4000000 in
theorem kJ0_length_8abf5 {l : Launch} {B : Bx} {d : Nat} (hd : 1 ≤ d) {T : Sh} {M : Me} {x0 : Nat} {r : Int32} (h : fJ0_length_8abf5  x0 = some r) : Kt l B yJ0_length_8abf5 cJ0_length_8abf5 1 (some .int) d [.ref (B.2.2.2.1 (x0))] T M (some (.int r)) T M := by
  refine kt_of wJ0_length_8abf5 (Nat.le_refl _) (Nat.le_refl _) (Nat.le_of_ble_eq_true rfl) (fun X C hR hlx hin => ?_)
  subst hlx
  replace C : Cx X B cJ0_length_8abf5 1 RJ0 d (tp T, sl T, tp T, sl T) := C
  unfold fJ0_length_8abf5 at h
  show G X B 1 _ _ 0 [(0, .ref (B.2.2.2.1 (x0)))] [] T M
  refine g_aload_n (pc := 0) C dJ0_length_8abf5_0 rfl 0 rfl ?_
  replace h := gd_some h; obtain ⟨hw1, h⟩ := h
  refine g_sval (pc := 1) C dJ0_length_8abf5_1 hw1 q_1886 ?_
  refine g_slen (pc := 4) C dJ0_length_8abf5_4 hw1 ?_
  refine g_aload_n (pc := 5) C dJ0_length_8abf5_5 rfl 0 rfl ?_
  replace h := bnd h; obtain ⟨r2, h1, h⟩ := h
  refine g_callTi (pc := 6) (As := []) (st := [.int (nI (sLen.getD x0 0))]) C dJ0_length_8abf5_6 wJ0_coder_7d493 hw1 rfl q_505 q_506 q_504 (by omega) rfl (Nat.le_of_ble_eq_true rfl) (kJ0_coder_7d493 (d := 0) (Nat.le_refl _) h1) ?_
  refine g_ishr (pc := 9) C dJ0_length_8abf5_9 ?_
  obtain rfl := Option.some.inj h
  exact g_iret C hR dJ0_length_8abf5_10
theorem dJ0_isLatin1_aae02_0 : decode cJ0_isLatin1_aae02 0 = .ok (.getstatic 38, 3) := by decide +kernel
theorem dJ0_isLatin1_aae02_3 : decode cJ0_isLatin1_aae02 3 = .ok (.ifCond .eq 14, 3) := by decide +kernel
theorem dJ0_isLatin1_aae02_6 : decode cJ0_isLatin1_aae02 6 = .ok (.aload_n 0, 1) := by decide +kernel
theorem dJ0_isLatin1_aae02_7 : decode cJ0_isLatin1_aae02 7 = .ok (.getfield 15, 3) := by decide +kernel
theorem dJ0_isLatin1_aae02_10 : decode cJ0_isLatin1_aae02 10 = .ok (.ifCond .ne 7, 3) := by decide +kernel
theorem dJ0_isLatin1_aae02_13 : decode cJ0_isLatin1_aae02 13 = .ok (.iconst 1, 1) := by decide +kernel
theorem dJ0_isLatin1_aae02_14 : decode cJ0_isLatin1_aae02 14 = .ok (.goto 4, 3) := by decide +kernel
theorem dJ0_isLatin1_aae02_17 : decode cJ0_isLatin1_aae02 17 = .ok (.iconst 0, 1) := by decide +kernel
theorem dJ0_isLatin1_aae02_18 : decode cJ0_isLatin1_aae02 18 = .ok (.ireturn, 1) := by decide +kernel
theorem wJ0_isLatin1_aae02 : Mw yJ0_isLatin1_aae02 cJ0_isLatin1_aae02 1 (some .boolean) 0 := ⟨q_517, q_131, by decide, ⟨by decide +kernel, by decide +kernel⟩, by decide +kernel, by decide +kernel⟩
/-- java/lang/String.isLatin1()Z -/
def fJ0_isLatin1_aae02 (x0 : Nat) : Option (Int32) :=
  if (1 : Int32) = 0 then (some (0 : Int32)) else (gd (x0 < 25) <| if (0 : Int32) = 0 then (some (1 : Int32)) else (some (0 : Int32)))
set_option maxHeartbeats 4000000 in
theorem kJ0_isLatin1_aae02 {l : Launch} {B : Bx} {d : Nat} (hd : 0 ≤ d) {T : Sh} {M : Me} {x0 : Nat} {r : Int32} (h : fJ0_isLatin1_aae02  x0 = some r) : Kt l B yJ0_isLatin1_aae02 cJ0_isLatin1_aae02 1 (some .boolean) d [.ref (B.2.2.2.1 (x0))] T M (some (.int r)) T M := by
  refine kt_of wJ0_isLatin1_aae02 (Nat.le_refl _) (Nat.le_refl _) (Nat.le_of_ble_eq_true rfl) (fun X C hR hlx hin => ?_)
  subst hlx
  replace C : Cx X B cJ0_isLatin1_aae02 1 RJ0 d (tp T, sl T, tp T, sl T) := C
  unfold fJ0_isLatin1_aae02 at h
  show G X B 1 _ _ 0 [(0, .ref (B.2.2.2.1 (x0)))] [] T M
  refine g_sZ (pc := 0) C dJ0_isLatin1_aae02_0 q_508 ?_
  refine g_if_eq (pc := 3) (tgt := 17) C dJ0_isLatin1_aae02_3 (by decide) (fun c1 => ?_) (fun c1 => ?_)
  · replace h := ifp c1 h
    refine g_iconst (pc := 17) (v := 0) C dJ0_isLatin1_aae02_17 (by decide) ?_
    obtain rfl := Option.some.inj h
    exact g_zret C hR dJ0_isLatin1_aae02_18 rfl
  · replace h := ifn c1 h
    refine g_aload_n (pc := 6) C dJ0_isLatin1_aae02_6 rfl 0 rfl ?_
    replace h := gd_some h; obtain ⟨hw2, h⟩ := h
    refine g_scod (pc := 7) C dJ0_isLatin1_aae02_7 hw2 q_1887 ?_
    refine g_if_ne (pc := 10) (tgt := 17) C dJ0_isLatin1_aae02_10 (by decide) (fun c3 => ?_) (fun c3 => ?_)
    · replace h := ifn c3 h
      refine g_iconst (pc := 17) (v := 0) C dJ0_isLatin1_aae02_17 (by decide) ?_
      obtain rfl := Option.some.inj h
      exact g_zret C hR dJ0_isLatin1_aae02_18 rfl
    · replace h := ifp c3 h
      refine g_iconst (pc := 13) (v := 1) C dJ0_isLatin1_aae02_13 (by decide) ?_
      refine g_goto (pc := 14) (tgt := 18) C dJ0_isLatin1_aae02_14 (by decide) ?_
      obtain rfl := Option.some.inj h
      exact g_zret C hR dJ0_isLatin1_aae02_18 rfl
theorem dJ3_checkIndex_8e157_0 : decode cJ3_checkIndex_8e157 0 = .ok (.iload_n 0, 1) := by decide +kernel
theorem dJ3_checkIndex_8e157_1 : decode cJ3_checkIndex_8e157 1 = .ok (.ifCond .lt 8, 3) := by decide +kernel
theorem dJ3_checkIndex_8e157_4 : decode cJ3_checkIndex_8e157 4 = .ok (.iload_n 0, 1) := by decide +kernel
theorem dJ3_checkIndex_8e157_5 : decode cJ3_checkIndex_8e157 5 = .ok (.iload_n 1, 1) := by decide +kernel
theorem dJ3_checkIndex_8e157_6 : decode cJ3_checkIndex_8e157 6 = .ok (.if_icmp .lt 10, 3) := by decide +kernel
theorem dJ3_checkIndex_8e157_9 : decode cJ3_checkIndex_8e157 9 = .ok (.aload_n 2, 1) := by decide +kernel
theorem dJ3_checkIndex_8e157_16 : decode cJ3_checkIndex_8e157 16 = .ok (.iload_n 0, 1) := by decide +kernel
theorem dJ3_checkIndex_8e157_17 : decode cJ3_checkIndex_8e157 17 = .ok (.ireturn, 1) := by decide +kernel
theorem wJ3_checkIndex_8e157 : Mw yJ3_checkIndex_8e157 cJ3_checkIndex_8e157 3 (some .int) 3 := ⟨q_528, q_133, by decide, ⟨by decide +kernel, by decide +kernel⟩, by decide +kernel, by decide +kernel⟩
/-- jdk/internal/util/Preconditions.checkIndex(IILjava/util/function/BiFunction;)I -/
def fJ3_checkIndex_8e157 (x0 : Int32) (x1 : Int32) (x2 : Option Nat) : Option (Int32) :=
  if x0 < 0 then (none) else (if x0 < x1 then (some x0) else (none))
set_option maxHeartbeats 4000000 in
theorem kJ3_checkIndex_8e157 {l : Launch} {B : Bx} {d : Nat} (hd : 0 ≤ d) {T : Sh} {M : Me} {x0 : Int32} {x1 : Int32} {x2 : Option Nat} {r : Int32} (h : fJ3_checkIndex_8e157  x0 x1 x2 = some r) : Kt l B yJ3_checkIndex_8e157 cJ3_checkIndex_8e157 3 (some .int) d [.int (x0), .int (x1), va_rf (x2)] T M (some (.int r)) T M := by
  refine kt_of wJ3_checkIndex_8e157 (Nat.le_refl _) (Nat.le_refl _) (by cases x2 <;> exact Nat.le_of_ble_eq_true rfl) (fun X C hR hlx hin => ?_)
  subst hlx
  replace C : Cx X B cJ3_checkIndex_8e157 3 RJ3 d (tp T, sl T, tp T, sl T) := C
  unfold fJ3_checkIndex_8e157 at h
  show G X B 3 _ _ 0 [(0, .int (x0)), (1, .int (x1)), (2, va_rf (x2))] [] T M
  refine g_iload_n (pc := 0) C dJ3_checkIndex_8e157_0 rfl 0 rfl ?_
  refine g_if_lt (pc := 1) (tgt := 9) C dJ3_checkIndex_8e157_1 (by decide) (fun c1 => ?_) (fun c1 => ?_)
  · replace h := ifp c1 h
    cases h
  · replace h := ifn c1 h
    refine g_iload_n (pc := 4) C dJ3_checkIndex_8e157_4 rfl 0 rfl ?_
    refine g_iload_n (pc := 5) C dJ3_checkIndex_8e157_5 rfl 1 rfl ?_
    refine g_icmp_lt (pc := 6) (tgt := 16) C dJ3_checkIndex_8e157_6 (by decide) (fun c2 => ?_) (fun c2 => ?_)
    · replace h := ifp c2 h
      refine g_iload_n (pc := 16) C dJ3_checkIndex_8e157_16 rfl 0 rfl ?_
      obtain rfl := Option.some.inj h
      exact g_iret C hR dJ3_checkIndex_8e157_17
    · replace h := ifn c2 h
      cases h
theorem dJ0_checkIndex_df160_0 : decode cJ0_checkIndex_df160 0 = .ok (.iload_n 0, 1) := by decide +kernel
theorem dJ0_checkIndex_df160_1 : decode cJ0_checkIndex_df160 1 = .ok (.iload_n 1, 1) := by decide +kernel
theorem dJ0_checkIndex_df160_2 : decode cJ0_checkIndex_df160 2 = .ok (.getstatic 1053, 3) := by decide +kernel
theorem dJ0_checkIndex_df160_5 : decode cJ0_checkIndex_df160 5 = .ok (.invokestatic 1059, 3) := by decide +kernel
theorem dJ0_checkIndex_df160_8 : decode cJ0_checkIndex_df160 8 = .ok (.pop, 1) := by decide +kernel
theorem dJ0_checkIndex_df160_9 : decode cJ0_checkIndex_df160 9 = .ok (.return_, 1) := by decide +kernel
theorem wJ0_checkIndex_df160 : Mw yJ0_checkIndex_df160 cJ0_checkIndex_df160 2 none 2 := ⟨q_523, q_131, by decide, ⟨by decide +kernel, by decide +kernel⟩, by decide +kernel, by decide +kernel⟩
/-- java/lang/String.checkIndex(II)V -/
def fJ0_checkIndex_df160 (x0 : Int32) (x1 : Int32) : Option (Unit) :=
  Option.bind (fJ3_checkIndex_8e157 x0 x1 none) fun r2 => some ()
set_option maxHeartbeats 4000000 in
theorem kJ0_checkIndex_df160 {l : Launch} {B : Bx} {d : Nat} (hd : 1 ≤ d) {T : Sh} {M : Me} {x0 : Int32} {x1 : Int32} (h : fJ0_checkIndex_df160  x0 x1 = some ()) : Kt l B yJ0_checkIndex_df160 cJ0_checkIndex_df160 2 none d [.int (x0), .int (x1)] T M none T M := by
  refine kt_of wJ0_checkIndex_df160 (Nat.le_refl _) (Nat.le_refl _) (Nat.le_of_ble_eq_true rfl) (fun X C hR hlx hin => ?_)
  subst hlx
  replace C : Cx X B cJ0_checkIndex_df160 2 RJ0 d (tp T, sl T, tp T, sl T) := C
  unfold fJ0_checkIndex_df160 at h
  show G X B 2 _ _ 0 [(0, .int (x0)), (1, .int (x1))] [] T M
  refine g_iload_n (pc := 0) C dJ0_checkIndex_df160_0 rfl 0 rfl ?_
  refine g_iload_n (pc := 1) C dJ0_checkIndex_df160_1 rfl 1 rfl ?_
  refine g_sQ (pc := 2) C dJ0_checkIndex_df160_2 q_524 (fun z1 => ?_)
  replace h := bnd h; obtain ⟨r2, h1, h⟩ := h
  refine g_callSi (pc := 5) (As := [.int (x0), .int (x1), va_rf (z1)]) (st := []) C dJ0_checkIndex_df160_5 wJ3_checkIndex_8e157 q_527 q_526 (by omega) rfl (Nat.le_of_ble_eq_true rfl) (kJ3_checkIndex_8e157 (d := 0) (Nat.le_refl _) (show fJ3_checkIndex_8e157 x0 x1 z1 = some _ from h1)) ?_
  refine g_pop (pc := 8) C dJ0_checkIndex_df160_8 rfl ?_
  clear h
  exact g_vret C hR dJ0_checkIndex_df160_9
theorem dJ1_charAt_3b067_0 : decode cJ1_charAt_3b067 0 = .ok (.iload_n 1, 1) := by decide +kernel
theorem dJ1_charAt_3b067_1 : decode cJ1_charAt_3b067 1 = .ok (.aload_n 0, 1) := by decide +kernel
theorem dJ1_charAt_3b067_2 : decode cJ1_charAt_3b067 2 = .ok (.arraylength, 1) := by decide +kernel
theorem dJ1_charAt_3b067_3 : decode cJ1_charAt_3b067 3 = .ok (.invokestatic 9, 3) := by decide +kernel
theorem dJ1_charAt_3b067_6 : decode cJ1_charAt_3b067 6 = .ok (.aload_n 0, 1) := by decide +kernel
theorem dJ1_charAt_3b067_7 : decode cJ1_charAt_3b067 7 = .ok (.iload_n 1, 1) := by decide +kernel
theorem dJ1_charAt_3b067_8 : decode cJ1_charAt_3b067 8 = .ok (.baload, 1) := by decide +kernel
theorem dJ1_charAt_3b067_9 : decode cJ1_charAt_3b067 9 = .ok (.sipush 255, 3) := by decide +kernel
theorem dJ1_charAt_3b067_12 : decode cJ1_charAt_3b067 12 = .ok (.iand, 1) := by decide +kernel
theorem dJ1_charAt_3b067_13 : decode cJ1_charAt_3b067 13 = .ok (.i2c, 1) := by decide +kernel
theorem dJ1_charAt_3b067_14 : decode cJ1_charAt_3b067 14 = .ok (.ireturn, 1) := by decide +kernel
theorem wJ1_charAt_3b067 : Mw yJ1_charAt_3b067 cJ1_charAt_3b067 2 (some .char) 2 := ⟨q_520, q_132, by decide, ⟨by decide +kernel, by decide +kernel⟩, by decide +kernel, by decide +kernel⟩
/-- java/lang/StringLatin1.charAt([BI)C -/
def fJ1_charAt_3b067 (x0 : Nat) (x1 : Int32) : Option (Int32) :=
  gd (x0 < 25) <| Option.bind (fJ0_checkIndex_df160 x1 (nI (sLen.getD x0 0))) fun _u => gv x1 (sLen.getD x0 0) <| gd (vp_nar .char (UInt32.toInt32 (Int32.toUInt32 (((sByt.getD x0 []).getD (Int32.toNatClampNeg x1) 0) &&& (255 : Int32)) % 65536)) = (UInt32.toInt32 (Int32.toUInt32 (((sByt.getD x0 []).getD (Int32.toNatClampNeg x1) 0) &&& (255 : Int32)) % 65536))) <| some (UInt32.toInt32 (Int32.toUInt32 (((sByt.getD x0 []).getD (Int32.toNatClampNeg x1) 0) &&& (255 : Int32)) % 65536))
set_option maxHeartbeats 4000000 in
theorem kJ1_charAt_3b067 {l : Launch} {B : Bx} {d : Nat} (hd : 2 ≤ d) {T : Sh} {M : Me} {x0 : Nat} {x1 : Int32} {r : Int32} (h : fJ1_charAt_3b067  x0 x1 = some r) : Kt l B yJ1_charAt_3b067 cJ1_charAt_3b067 2 (some .char) d [.ref (B.2.2.2.2 (x0)), .int (x1)] T M (some (.int r)) T M := by
  refine kt_of wJ1_charAt_3b067 (Nat.le_refl _) (Nat.le_refl _) (Nat.le_of_ble_eq_true rfl) (fun X C hR hlx hin => ?_)
  subst hlx
  replace C : Cx X B cJ1_charAt_3b067 2 RJ1 d (tp T, sl T, tp T, sl T) := C
  unfold fJ1_charAt_3b067 at h
  show G X B 2 _ _ 0 [(0, .ref (B.2.2.2.2 (x0))), (1, .int (x1))] [] T M
  refine g_iload_n (pc := 0) C dJ1_charAt_3b067_0 rfl 1 rfl ?_
  refine g_aload_n (pc := 1) C dJ1_charAt_3b067_1 rfl 0 rfl ?_
  replace h := gd_some h; obtain ⟨hw1, h⟩ := h
  refine g_slen (pc := 2) C dJ1_charAt_3b067_2 hw1 ?_
  replace h := bnd h; obtain ⟨_u, h1, h⟩ := h
  refine g_callSv (pc := 3) (As := [.int (x1), .int (nI (sLen.getD x0 0))]) (st := []) C dJ1_charAt_3b067_3 wJ0_checkIndex_df160 q_522 q_521 (by omega) rfl (Nat.le_of_ble_eq_true rfl) (kJ0_checkIndex_df160 (d := 1) (Nat.le_refl _) h1) ?_
  refine g_aload_n (pc := 6) C dJ1_charAt_3b067_6 rfl 0 rfl ?_
  refine g_iload_n (pc := 7) C dJ1_charAt_3b067_7 rfl 1 rfl ?_
  replace h := gv_some h; obtain ⟨hi2, h⟩ := h
  refine g_sbld (pc := 8) C dJ1_charAt_3b067_8 hw1 hi2 ?_
  refine g_sipush (pc := 9) (v := 255) C dJ1_charAt_3b067_9 (by decide) ?_
  refine g_iand (pc := 12) C dJ1_charAt_3b067_12 ?_
  refine g_i2c (pc := 13) C dJ1_charAt_3b067_13 ?_
  replace h := gd_some h; obtain ⟨hb3, h⟩ := h
  obtain rfl := Option.some.inj h
  exact g_zret C hR dJ1_charAt_3b067_14 (nar_of hb3 ⟨_, rfl⟩)
theorem dJ0_charAt_5068e_0 : decode cJ0_charAt_5068e 0 = .ok (.aload_n 0, 1) := by decide +kernel
theorem dJ0_charAt_5068e_1 : decode cJ0_charAt_5068e 1 = .ok (.invokevirtual 492, 3) := by decide +kernel
theorem dJ0_charAt_5068e_4 : decode cJ0_charAt_5068e 4 = .ok (.ifCond .eq 12, 3) := by decide +kernel
theorem dJ0_charAt_5068e_7 : decode cJ0_charAt_5068e 7 = .ok (.aload_n 0, 1) := by decide +kernel
theorem dJ0_charAt_5068e_8 : decode cJ0_charAt_5068e 8 = .ok (.getfield 9, 3) := by decide +kernel
theorem dJ0_charAt_5068e_11 : decode cJ0_charAt_5068e 11 = .ok (.iload_n 1, 1) := by decide +kernel
theorem dJ0_charAt_5068e_12 : decode cJ0_charAt_5068e 12 = .ok (.invokestatic 495, 3) := by decide +kernel
theorem dJ0_charAt_5068e_15 : decode cJ0_charAt_5068e 15 = .ok (.ireturn, 1) := by decide +kernel
theorem dJ0_charAt_5068e_16 : decode cJ0_charAt_5068e 16 = .ok (.aload_n 0, 1) := by decide +kernel
theorem wJ0_charAt_5068e : Mw yJ0_charAt_5068e cJ0_charAt_5068e 2 (some .char) 1 := ⟨q_513, q_131, by decide, ⟨by decide +kernel, by decide +kernel⟩, by decide +kernel, by decide +kernel⟩
/-- java/lang/String.charAt(I)C -/
def fJ0_charAt_5068e (x0 : Nat) (x1 : Int32) : Option (Int32) :=
  gd (x0 < 25) <| Option.bind (fJ0_isLatin1_aae02 x0) fun r2 => if r2 = 0 then (none) else (Option.bind (fJ1_charAt_3b067 x0 x1) fun r4 => gd (vp_nar .char r4 = r4) <| some r4)
set_option maxHeartbeats 4000000 in
theorem kJ0_charAt_5068e {l : Launch} {B : Bx} {d : Nat} (hd : 3 ≤ d) {T : Sh} {M : Me} {x0 : Nat} {x1 : Int32} {r : Int32} (h : fJ0_charAt_5068e  x0 x1 = some r) : Kt l B yJ0_charAt_5068e cJ0_charAt_5068e 2 (some .char) d [.ref (B.2.2.2.1 (x0)), .int (x1)] T M (some (.int r)) T M := by
  refine kt_of wJ0_charAt_5068e (Nat.le_refl _) (Nat.le_refl _) (Nat.le_of_ble_eq_true rfl) (fun X C hR hlx hin => ?_)
  subst hlx
  replace C : Cx X B cJ0_charAt_5068e 2 RJ0 d (tp T, sl T, tp T, sl T) := C
  unfold fJ0_charAt_5068e at h
  show G X B 2 _ _ 0 [(0, .ref (B.2.2.2.1 (x0))), (1, .int (x1))] [] T M
  refine g_aload_n (pc := 0) C dJ0_charAt_5068e_0 rfl 0 rfl ?_
  replace h := gd_some h; obtain ⟨hw1, h⟩ := h
  replace h := bnd h; obtain ⟨r2, h1, h⟩ := h
  refine g_callTi (pc := 1) (As := []) (st := []) C dJ0_charAt_5068e_1 wJ0_isLatin1_aae02 hw1 rfl q_515 q_516 q_514 (by omega) rfl (Nat.le_of_ble_eq_true rfl) (kJ0_isLatin1_aae02 (d := 0) (Nat.le_refl _) h1) ?_
  refine g_if_eq (pc := 4) (tgt := 16) C dJ0_charAt_5068e_4 (by decide) (fun c3 => ?_) (fun c3 => ?_)
  · replace h := ifp c3 h
    cases h
  · replace h := ifn c3 h
    refine g_aload_n (pc := 7) C dJ0_charAt_5068e_7 rfl 0 rfl ?_
    refine g_sval (pc := 8) C dJ0_charAt_5068e_8 hw1 q_1886 ?_
    refine g_iload_n (pc := 11) C dJ0_charAt_5068e_11 rfl 1 rfl ?_
    replace h := bnd h; obtain ⟨r4, h1, h⟩ := h
    refine g_callSi (pc := 12) (As := [.ref (B.2.2.2.2 (x0)), .int (x1)]) (st := []) C dJ0_charAt_5068e_12 wJ1_charAt_3b067 q_519 q_518 (by omega) rfl (Nat.le_of_ble_eq_true rfl) (kJ1_charAt_3b067 (d := 2) (Nat.le_refl _) h1) ?_
    replace h := gd_some h; obtain ⟨hb5, h⟩ := h
    obtain rfl := Option.some.inj h
    exact g_zret C hR dJ0_charAt_5068e_15 (nar_of hb5 ⟨_, rfl⟩)
theorem dJ1_canEncode_9a6ad_0 : decode cJ1_canEncode_9a6ad 0 = .ok (.iload_n 0, 1) := by decide +kernel
theorem dJ1_canEncode_9a6ad_1 : decode cJ1_canEncode_9a6ad 1 = .ok (.ifCond .lt 14, 3) := by decide +kernel
theorem dJ1_canEncode_9a6ad_4 : decode cJ1_canEncode_9a6ad 4 = .ok (.iload_n 0, 1) := by decide +kernel
theorem dJ1_canEncode_9a6ad_5 : decode cJ1_canEncode_9a6ad 5 = .ok (.sipush 255, 3) := by decide +kernel
theorem dJ1_canEncode_9a6ad_8 : decode cJ1_canEncode_9a6ad 8 = .ok (.if_icmp .gt 7, 3) := by decide +kernel
theorem dJ1_canEncode_9a6ad_11 : decode cJ1_canEncode_9a6ad 11 = .ok (.iconst 1, 1) := by decide +kernel
theorem dJ1_canEncode_9a6ad_12 : decode cJ1_canEncode_9a6ad 12 = .ok (.goto 4, 3) := by decide +kernel
theorem dJ1_canEncode_9a6ad_15 : decode cJ1_canEncode_9a6ad 15 = .ok (.iconst 0, 1) := by decide +kernel
theorem dJ1_canEncode_9a6ad_16 : decode cJ1_canEncode_9a6ad 16 = .ok (.ireturn, 1) := by decide +kernel
theorem wJ1_canEncode_9a6ad : Mw yJ1_canEncode_9a6ad cJ1_canEncode_9a6ad 1 (some .boolean) 1 := ⟨q_604, q_132, by decide, ⟨by decide +kernel, by decide +kernel⟩, by decide +kernel, by decide +kernel⟩
/-- java/lang/StringLatin1.canEncode(I)Z -/
def fJ1_canEncode_9a6ad (x0 : Int32) : Option (Int32) :=
  if x0 < 0 then (some (0 : Int32)) else (if (255 : Int32) < x0 then (some (0 : Int32)) else (some (1 : Int32)))
set_option maxHeartbeats 4000000 in
theorem kJ1_canEncode_9a6ad {l : Launch} {B : Bx} {d : Nat} (hd : 0 ≤ d) {T : Sh} {M : Me} {x0 : Int32} {r : Int32} (h : fJ1_canEncode_9a6ad  x0 = some r) : Kt l B yJ1_canEncode_9a6ad cJ1_canEncode_9a6ad 1 (some .boolean) d [.int (x0)] T M (some (.int r)) T M := by
  refine kt_of wJ1_canEncode_9a6ad (Nat.le_refl _) (Nat.le_refl _) (Nat.le_of_ble_eq_true rfl) (fun X C hR hlx hin => ?_)
  subst hlx
  replace C : Cx X B cJ1_canEncode_9a6ad 1 RJ1 d (tp T, sl T, tp T, sl T) := C
  unfold fJ1_canEncode_9a6ad at h
  show G X B 1 _ _ 0 [(0, .int (x0))] [] T M
  refine g_iload_n (pc := 0) C dJ1_canEncode_9a6ad_0 rfl 0 rfl ?_
  refine g_if_lt (pc := 1) (tgt := 15) C dJ1_canEncode_9a6ad_1 (by decide) (fun c1 => ?_) (fun c1 => ?_)
  · replace h := ifp c1 h
    refine g_iconst (pc := 15) (v := 0) C dJ1_canEncode_9a6ad_15 (by decide) ?_
    obtain rfl := Option.some.inj h
    exact g_zret C hR dJ1_canEncode_9a6ad_16 rfl
  · replace h := ifn c1 h
    refine g_iload_n (pc := 4) C dJ1_canEncode_9a6ad_4 rfl 0 rfl ?_
    refine g_sipush (pc := 5) (v := 255) C dJ1_canEncode_9a6ad_5 (by decide) ?_
    refine g_icmp_gt (pc := 8) (tgt := 15) C dJ1_canEncode_9a6ad_8 (by decide) (fun c2 => ?_) (fun c2 => ?_)
    · replace h := ifp c2 h
      refine g_iconst (pc := 15) (v := 0) C dJ1_canEncode_9a6ad_15 (by decide) ?_
      obtain rfl := Option.some.inj h
      exact g_zret C hR dJ1_canEncode_9a6ad_16 rfl
    · replace h := ifn c2 h
      refine g_iconst (pc := 11) (v := 1) C dJ1_canEncode_9a6ad_11 (by decide) ?_
      refine g_goto (pc := 12) (tgt := 16) C dJ1_canEncode_9a6ad_12 (by decide) ?_
      obtain rfl := Option.some.inj h
      exact g_zret C hR dJ1_canEncode_9a6ad_16 rfl
theorem dJ1_indexOfChar_4cfef_0 : decode cJ1_indexOfChar_4cfef 0 = .ok (.iload_n 1, 1) := by decide +kernel
theorem dJ1_indexOfChar_4cfef_1 : decode cJ1_indexOfChar_4cfef 1 = .ok (.i2b, 1) := by decide +kernel
theorem dJ1_indexOfChar_4cfef_2 : decode cJ1_indexOfChar_4cfef 2 = .ok (.istore 4, 2) := by decide +kernel
theorem dJ1_indexOfChar_4cfef_4 : decode cJ1_indexOfChar_4cfef 4 = .ok (.iload_n 2, 1) := by decide +kernel
theorem dJ1_indexOfChar_4cfef_5 : decode cJ1_indexOfChar_4cfef 5 = .ok (.istore 5, 2) := by decide +kernel
theorem dJ1_indexOfChar_4cfef_7 : decode cJ1_indexOfChar_4cfef 7 = .ok (.iload 5, 2) := by decide +kernel
theorem dJ1_indexOfChar_4cfef_9 : decode cJ1_indexOfChar_4cfef 9 = .ok (.iload_n 3, 1) := by decide +kernel
theorem dJ1_indexOfChar_4cfef_10 : decode cJ1_indexOfChar_4cfef 10 = .ok (.if_icmp .ge 21, 3) := by decide +kernel
theorem dJ1_indexOfChar_4cfef_13 : decode cJ1_indexOfChar_4cfef 13 = .ok (.aload_n 0, 1) := by decide +kernel
theorem dJ1_indexOfChar_4cfef_14 : decode cJ1_indexOfChar_4cfef 14 = .ok (.iload 5, 2) := by decide +kernel
theorem dJ1_indexOfChar_4cfef_16 : decode cJ1_indexOfChar_4cfef 16 = .ok (.baload, 1) := by decide +kernel
theorem dJ1_indexOfChar_4cfef_17 : decode cJ1_indexOfChar_4cfef 17 = .ok (.iload 4, 2) := by decide +kernel
theorem dJ1_indexOfChar_4cfef_19 : decode cJ1_indexOfChar_4cfef 19 = .ok (.if_icmp .ne 6, 3) := by decide +kernel
theorem dJ1_indexOfChar_4cfef_22 : decode cJ1_indexOfChar_4cfef 22 = .ok (.iload 5, 2) := by decide +kernel
theorem dJ1_indexOfChar_4cfef_24 : decode cJ1_indexOfChar_4cfef 24 = .ok (.ireturn, 1) := by decide +kernel
theorem dJ1_indexOfChar_4cfef_25 : decode cJ1_indexOfChar_4cfef 25 = .ok (.iinc 5 1, 3) := by decide +kernel
theorem dJ1_indexOfChar_4cfef_28 : decode cJ1_indexOfChar_4cfef 28 = .ok (.goto (-21), 3) := by decide +kernel
theorem dJ1_indexOfChar_4cfef_31 : decode cJ1_indexOfChar_4cfef 31 = .ok (.iconst (-1), 1) := by decide +kernel
theorem dJ1_indexOfChar_4cfef_32 : decode cJ1_indexOfChar_4cfef 32 = .ok (.ireturn, 1) := by decide +kernel
theorem wJ1_indexOfChar_4cfef : Mw yJ1_indexOfChar_4cfef cJ1_indexOfChar_4cfef 6 (some .int) 4 := ⟨q_611, q_132, by decide, ⟨by decide +kernel, by decide +kernel⟩, by decide +kernel, by decide +kernel⟩
-- a loop of java/lang/StringLatin1.indexOfChar at 7
def bJ1_indexOfChar_4cfef_7 (x0 : Nat) (x3 : Int32) (x4 : Int32) (x5 : Int32) : Option ((Int32) ⊕ (Int32 ⊕ Unit)) :=
  if x3 ≤ x5 then (some (.inr (.inr ()))) else (gd (x0 < 25) <| gv x5 (sLen.getD x0 0) <| if ((sByt.getD x0 []).getD (Int32.toNatClampNeg x5) 0) = x4 then (some (.inr (.inl x5))) else (lt (x5 + (1 : Int32)) fun v6 => some (.inl v6)))
def PJ1_indexOfChar_4cfef_7 (X : Fx) (B : Bx) (Z : Nat × Nat × Nat × Nat) (Q : State → Prop) (T : Sh) (M : Me) (x0 : Nat) (x3 : Int32) (x4 : Int32) (s : Int32) : Prop := G X B 6 Z Q 7 [(0, .ref (B.2.2.2.2 (x0))), (3, .int (x3)), (4, .int (x4)), (5, .int (s))] [] T M
def EJ1_indexOfChar_4cfef_7 (X : Fx) (B : Bx) (Z : Nat × Nat × Nat × Nat) (Q : State → Prop) (T : Sh) (M : Me) (x0 : Nat) (x3 : Int32) (x4 : Int32) (r : Int32 ⊕ Unit) : Prop := Sum.elim (fun r => G X B 6 Z Q 22 [(5, .int (r))] [] T M) (fun r => G X B 6 Z Q 31 [] [] T M) r
set_option maxHeartbeats 4000000 in
theorem tbJ1_indexOfChar_4cfef_7 {X : Fx} {B : Bx} {Z : Nat × Nat × Nat × Nat} {Q : State → Prop} {d : Nat} {T : Sh} {M : Me} (C : Cx X B cJ1_indexOfChar_4cfef 6 RJ1 d Z) (hd : 0 ≤ d) {x0 : Nat} {x3 : Int32} {x4 : Int32} : ∀ (s : Int32) (o : (Int32) ⊕ (Int32 ⊕ Unit)), bJ1_indexOfChar_4cfef_7 x0 x3 x4 s = some o → lpE (PJ1_indexOfChar_4cfef_7 X B Z Q T M x0 x3 x4) (EJ1_indexOfChar_4cfef_7 X B Z Q T M x0 x3 x4) o → PJ1_indexOfChar_4cfef_7 X B Z Q T M x0 x3 x4 s := by
  rintro x5 o h hE
  replace h : bJ1_indexOfChar_4cfef_7 x0 x3 x4 x5 = some o := h
  unfold bJ1_indexOfChar_4cfef_7 at h
  show G X B 6 Z Q 7 [(0, .ref (B.2.2.2.2 (x0))), (3, .int (x3)), (4, .int (x4)), (5, .int (x5))] [] T M
  refine g_iload (pc := 7) C dJ1_indexOfChar_4cfef_7 3 rfl ?_
  refine g_iload_n (pc := 9) C dJ1_indexOfChar_4cfef_9 rfl 1 rfl ?_
  refine g_icmp_ge (pc := 10) (tgt := 31) C dJ1_indexOfChar_4cfef_10 (by decide) (fun c2 => ?_) (fun c2 => ?_)
  · replace h := ifp c2 h
    obtain rfl := Option.some.inj h
    exact g_sub [] rfl (show G X B 6 Z Q 31 [] [] T M from hE)
  · replace h := ifn c2 h
    refine g_aload_n (pc := 13) C dJ1_indexOfChar_4cfef_13 rfl 0 rfl ?_
    refine g_iload (pc := 14) C dJ1_indexOfChar_4cfef_14 3 rfl ?_
    replace h := gd_some h; obtain ⟨hw3, h⟩ := h
    replace h := gv_some h; obtain ⟨hi4, h⟩ := h
    refine g_sbld (pc := 16) C dJ1_indexOfChar_4cfef_16 hw3 hi4 ?_
    refine g_iload (pc := 17) C dJ1_indexOfChar_4cfef_17 2 rfl ?_
    refine g_icmp_ne (pc := 19) (tgt := 25) C dJ1_indexOfChar_4cfef_19 (by decide) (fun c5 => ?_) (fun c5 => ?_)
    · replace h := ifn c5 h
      obtain ⟨v6, ev6⟩ : ∃ y : Int32, y = x5 + (1 : Int32) := ⟨_, rfl⟩
      replace h := lt_at ev6 h
      refine g_iinc (pc := 25) (v := v6) (k := 3) (lo2 := [(5, .int (v6)), (0, .ref (B.2.2.2.2 (x0))), (3, .int (x3)), (4, .int (x4))]) C dJ1_indexOfChar_4cfef_25 rfl (by rw [ev6]; rfl) (by decide) rfl ?_
      refine g_goto (pc := 28) (tgt := 7) C dJ1_indexOfChar_4cfef_28 (by decide) ?_
      obtain rfl := Option.some.inj h
      exact g_sub [1, 2, 3, 0] rfl (show G X B 6 Z Q 7 [(0, .ref (B.2.2.2.2 (x0))), (3, .int (x3)), (4, .int (x4)), (5, .int (v6))] [] T M from hE)
    · replace h := ifp c5 h
      obtain rfl := Option.some.inj h
      exact g_sub [3] rfl (show G X B 6 Z Q 22 [(5, .int (x5))] [] T M from hE)
/-- java/lang/StringLatin1.indexOfChar([BIII)I -/
def fJ1_indexOfChar_4cfef (x0 : Nat) (x1 : Int32) (x2 : Int32) (x3 : Int32) : Option (Int32) :=
  lt (Int8.toInt32 (Int32.toInt8 x1)) fun v1 => (lp FU (fun s => bJ1_indexOfChar_4cfef_7 x0 x3 v1 s) x2).bind (Sum.elim (fun x5_7 => some x5_7) (fun _ => some (-1 : Int32)))
set_option maxHeartbeats 4000000 in
theorem kJ1_indexOfChar_4cfef {l : Launch} {B : Bx} {d : Nat} (hd : 0 ≤ d) {T : Sh} {M : Me} {x0 : Nat} {x1 : Int32} {x2 : Int32} {x3 : Int32} {r : Int32} (h : fJ1_indexOfChar_4cfef  x0 x1 x2 x3 = some r) : Kt l B yJ1_indexOfChar_4cfef cJ1_indexOfChar_4cfef 6 (some .int) d [.ref (B.2.2.2.2 (x0)), .int (x1), .int (x2), .int (x3)] T M (some (.int r)) T M := by
  refine kt_of wJ1_indexOfChar_4cfef (Nat.le_refl _) (Nat.le_refl _) (Nat.le_of_ble_eq_true rfl) (fun X C hR hlx hin => ?_)
  subst hlx
  replace C : Cx X B cJ1_indexOfChar_4cfef 6 RJ1 d (tp T, sl T, tp T, sl T) := C
  unfold fJ1_indexOfChar_4cfef at h
  show G X B 6 _ _ 0 [(0, .ref (B.2.2.2.2 (x0))), (1, .int (x1)), (2, .int (x2)), (3, .int (x3))] [] T M
  refine g_iload_n (pc := 0) C dJ1_indexOfChar_4cfef_0 rfl 1 rfl ?_
  refine g_i2b (pc := 1) C dJ1_indexOfChar_4cfef_1 ?_
  refine g_topi (fun v1 ev1 => ?_)
  replace h := lt_at ev1 h
  refine g_istore (pc := 2) (lo2 := [(4, .int (v1)), (0, .ref (B.2.2.2.2 (x0))), (1, .int (x1)), (2, .int (x2)), (3, .int (x3))]) C dJ1_indexOfChar_4cfef_2 (by decide) rfl ?_
  refine g_iload_n (pc := 4) C dJ1_indexOfChar_4cfef_4 rfl 3 rfl ?_
  refine g_istore (pc := 5) (lo2 := [(5, .int (x2)), (4, .int (v1)), (0, .ref (B.2.2.2.2 (x0))), (1, .int (x1)), (2, .int (x2)), (3, .int (x3))]) C dJ1_indexOfChar_4cfef_5 (by decide) rfl ?_
  replace h := bndE h; rcases h with ⟨x5_7, h1, h⟩ | ⟨a1, h1, h⟩
  · refine g_sub [2, 5, 1, 0] rfl ?_
    refine lp_G2 (P := PJ1_indexOfChar_4cfef_7 X B _ _ T M x0 x3 v1) (E := EJ1_indexOfChar_4cfef_7 X B _ _ T M x0 x3 v1) (tbJ1_indexOfChar_4cfef_7 C hd) h1 ?_
    show G X B 6 _ _ 22 [(5, .int (x5_7))] [] T M
    refine g_iload (pc := 22) C dJ1_indexOfChar_4cfef_22 0 rfl ?_
    obtain rfl := Option.some.inj h
    exact g_iret C hR dJ1_indexOfChar_4cfef_24
  · refine g_sub [2, 5, 1, 0] rfl ?_
    refine lp_G2 (P := PJ1_indexOfChar_4cfef_7 X B _ _ T M x0 x3 v1) (E := EJ1_indexOfChar_4cfef_7 X B _ _ T M x0 x3 v1) (tbJ1_indexOfChar_4cfef_7 C hd) h1 ?_
    show G X B 6 _ _ 31 [] [] T M
    refine g_iconst (pc := 31) (v := (-1)) C dJ1_indexOfChar_4cfef_31 (by decide) ?_
    obtain rfl := Option.some.inj h
    exact g_iret C hR dJ1_indexOfChar_4cfef_32
theorem dJ1_indexOf_4cfef_0 : decode cJ1_indexOf_4cfef 0 = .ok (.iload_n 1, 1) := by decide +kernel
theorem dJ1_indexOf_4cfef_1 : decode cJ1_indexOf_4cfef 1 = .ok (.invokestatic 88, 3) := by decide +kernel
theorem dJ1_indexOf_4cfef_4 : decode cJ1_indexOf_4cfef 4 = .ok (.ifCond .ne 5, 3) := by decide +kernel
theorem dJ1_indexOf_4cfef_7 : decode cJ1_indexOf_4cfef 7 = .ok (.iconst (-1), 1) := by decide +kernel
theorem dJ1_indexOf_4cfef_8 : decode cJ1_indexOf_4cfef 8 = .ok (.ireturn, 1) := by decide +kernel
theorem dJ1_indexOf_4cfef_9 : decode cJ1_indexOf_4cfef 9 = .ok (.iload_n 2, 1) := by decide +kernel
theorem dJ1_indexOf_4cfef_10 : decode cJ1_indexOf_4cfef 10 = .ok (.iconst 0, 1) := by decide +kernel
theorem dJ1_indexOf_4cfef_11 : decode cJ1_indexOf_4cfef 11 = .ok (.invokestatic 92, 3) := by decide +kernel
theorem dJ1_indexOf_4cfef_14 : decode cJ1_indexOf_4cfef 14 = .ok (.istore_n 2, 1) := by decide +kernel
theorem dJ1_indexOf_4cfef_15 : decode cJ1_indexOf_4cfef 15 = .ok (.iload_n 3, 1) := by decide +kernel
theorem dJ1_indexOf_4cfef_16 : decode cJ1_indexOf_4cfef 16 = .ok (.aload_n 0, 1) := by decide +kernel
theorem dJ1_indexOf_4cfef_17 : decode cJ1_indexOf_4cfef 17 = .ok (.arraylength, 1) := by decide +kernel
theorem dJ1_indexOf_4cfef_18 : decode cJ1_indexOf_4cfef 18 = .ok (.invokestatic 38, 3) := by decide +kernel
theorem dJ1_indexOf_4cfef_21 : decode cJ1_indexOf_4cfef 21 = .ok (.istore_n 3, 1) := by decide +kernel
theorem dJ1_indexOf_4cfef_22 : decode cJ1_indexOf_4cfef 22 = .ok (.iload_n 2, 1) := by decide +kernel
theorem dJ1_indexOf_4cfef_23 : decode cJ1_indexOf_4cfef 23 = .ok (.iload_n 3, 1) := by decide +kernel
theorem dJ1_indexOf_4cfef_24 : decode cJ1_indexOf_4cfef 24 = .ok (.if_icmp .lt 5, 3) := by decide +kernel
theorem dJ1_indexOf_4cfef_27 : decode cJ1_indexOf_4cfef 27 = .ok (.iconst (-1), 1) := by decide +kernel
theorem dJ1_indexOf_4cfef_28 : decode cJ1_indexOf_4cfef 28 = .ok (.ireturn, 1) := by decide +kernel
theorem dJ1_indexOf_4cfef_29 : decode cJ1_indexOf_4cfef 29 = .ok (.aload_n 0, 1) := by decide +kernel
theorem dJ1_indexOf_4cfef_30 : decode cJ1_indexOf_4cfef 30 = .ok (.iload_n 1, 1) := by decide +kernel
theorem dJ1_indexOf_4cfef_31 : decode cJ1_indexOf_4cfef 31 = .ok (.iload_n 2, 1) := by decide +kernel
theorem dJ1_indexOf_4cfef_32 : decode cJ1_indexOf_4cfef 32 = .ok (.iload_n 3, 1) := by decide +kernel
theorem dJ1_indexOf_4cfef_33 : decode cJ1_indexOf_4cfef 33 = .ok (.invokestatic 95, 3) := by decide +kernel
theorem dJ1_indexOf_4cfef_36 : decode cJ1_indexOf_4cfef 36 = .ok (.ireturn, 1) := by decide +kernel
theorem wJ1_indexOf_4cfef : Mw yJ1_indexOf_4cfef cJ1_indexOf_4cfef 4 (some .int) 4 := ⟨q_601, q_132, by decide, ⟨by decide +kernel, by decide +kernel⟩, by decide +kernel, by decide +kernel⟩
/-- java/lang/StringLatin1.indexOf([BIII)I -/
def fJ1_indexOf_4cfef (x0 : Nat) (x1 : Int32) (x2 : Int32) (x3 : Int32) : Option (Int32) :=
  Option.bind (fJ1_canEncode_9a6ad x1) fun r1 => if r1 = 0 then (some (-1 : Int32)) else (Option.bind (fJ9_max_7cf53 x2 (0 : Int32)) fun r3 => gd (x0 < 25) <| Option.bind (fJ9_min_7cf53 x3 (nI (sLen.getD x0 0))) fun r5 => if r3 < r5 then (Option.bind (fJ1_indexOfChar_4cfef x0 x1 r3 r5) fun r7 => some r7) else (some (-1 : Int32)))
set_option maxHeartbeats 4000000 in
theorem kJ1_indexOf_4cfef {l : Launch} {B : Bx} {d : Nat} (hd : 1 ≤ d) {T : Sh} {M : Me} {x0 : Nat} {x1 : Int32} {x2 : Int32} {x3 : Int32} {r : Int32} (h : fJ1_indexOf_4cfef  x0 x1 x2 x3 = some r) : Kt l B yJ1_indexOf_4cfef cJ1_indexOf_4cfef 4 (some .int) d [.ref (B.2.2.2.2 (x0)), .int (x1), .int (x2), .int (x3)] T M (some (.int r)) T M := by
  refine kt_of wJ1_indexOf_4cfef (Nat.le_refl _) (Nat.le_refl _) (Nat.le_of_ble_eq_true rfl) (fun X C hR hlx hin => ?_)
  subst hlx
  replace C : Cx X B cJ1_indexOf_4cfef 4 RJ1 d (tp T, sl T, tp T, sl T) := C
  unfold fJ1_indexOf_4cfef at h
  show G X B 4 _ _ 0 [(0, .ref (B.2.2.2.2 (x0))), (1, .int (x1)), (2, .int (x2)), (3, .int (x3))] [] T M
  refine g_iload_n (pc := 0) C dJ1_indexOf_4cfef_0 rfl 1 rfl ?_
  replace h := bnd h; obtain ⟨r1, h1, h⟩ := h
  refine g_callSi (pc := 1) (As := [.int (x1)]) (st := []) C dJ1_indexOf_4cfef_1 wJ1_canEncode_9a6ad q_603 q_602 (by omega) rfl (Nat.le_of_ble_eq_true rfl) (kJ1_canEncode_9a6ad (d := 0) (Nat.le_refl _) h1) ?_
  refine g_if_ne (pc := 4) (tgt := 9) C dJ1_indexOf_4cfef_4 (by decide) (fun c2 => ?_) (fun c2 => ?_)
  · replace h := ifn c2 h
    refine g_iload_n (pc := 9) C dJ1_indexOf_4cfef_9 rfl 2 rfl ?_
    refine g_iconst (pc := 10) (v := 0) C dJ1_indexOf_4cfef_10 (by decide) ?_
    replace h := bnd h; obtain ⟨r3, h1, h⟩ := h
    refine g_callSi (pc := 11) (As := [.int (x2), .int ((0 : Int32))]) (st := []) C dJ1_indexOf_4cfef_11 wJ9_max_7cf53 q_606 q_605 (by omega) rfl (Nat.le_of_ble_eq_true rfl) (kJ9_max_7cf53 (d := 0) (Nat.le_refl _) h1) ?_
    refine g_istore_n (pc := 14) (lo2 := [(2, .int (r3)), (0, .ref (B.2.2.2.2 (x0))), (1, .int (x1)), (3, .int (x3))]) C dJ1_indexOf_4cfef_14 rfl (by decide) rfl ?_
    refine g_iload_n (pc := 15) C dJ1_indexOf_4cfef_15 rfl 3 rfl ?_
    refine g_aload_n (pc := 16) C dJ1_indexOf_4cfef_16 rfl 1 rfl ?_
    replace h := gd_some h; obtain ⟨hw4, h⟩ := h
    refine g_slen (pc := 17) C dJ1_indexOf_4cfef_17 hw4 ?_
    replace h := bnd h; obtain ⟨r5, h1, h⟩ := h
    refine g_callSi (pc := 18) (As := [.int (x3), .int (nI (sLen.getD x0 0))]) (st := []) C dJ1_indexOf_4cfef_18 wJ9_min_7cf53 q_584 q_608 (by omega) rfl (Nat.le_of_ble_eq_true rfl) (kJ9_min_7cf53 (d := 0) (Nat.le_refl _) h1) ?_
    refine g_istore_n (pc := 21) (lo2 := [(3, .int (r5)), (2, .int (r3)), (0, .ref (B.2.2.2.2 (x0))), (1, .int (x1))]) C dJ1_indexOf_4cfef_21 rfl (by decide) rfl ?_
    refine g_iload_n (pc := 22) C dJ1_indexOf_4cfef_22 rfl 1 rfl ?_
    refine g_iload_n (pc := 23) C dJ1_indexOf_4cfef_23 rfl 0 rfl ?_
    refine g_icmp_lt (pc := 24) (tgt := 29) C dJ1_indexOf_4cfef_24 (by decide) (fun c6 => ?_) (fun c6 => ?_)
    · replace h := ifp c6 h
      refine g_aload_n (pc := 29) C dJ1_indexOf_4cfef_29 rfl 2 rfl ?_
      refine g_iload_n (pc := 30) C dJ1_indexOf_4cfef_30 rfl 3 rfl ?_
      refine g_iload_n (pc := 31) C dJ1_indexOf_4cfef_31 rfl 1 rfl ?_
      refine g_iload_n (pc := 32) C dJ1_indexOf_4cfef_32 rfl 0 rfl ?_
      replace h := bnd h; obtain ⟨r7, h1, h⟩ := h
      refine g_callSi (pc := 33) (As := [.ref (B.2.2.2.2 (x0)), .int (x1), .int (r3), .int (r5)]) (st := []) C dJ1_indexOf_4cfef_33 wJ1_indexOfChar_4cfef q_610 q_609 (by omega) rfl (Nat.le_of_ble_eq_true rfl) (kJ1_indexOfChar_4cfef (d := 0) (Nat.le_refl _) h1) ?_
      obtain rfl := Option.some.inj h
      exact g_iret C hR dJ1_indexOf_4cfef_36
    · replace h := ifn c6 h
      refine g_iconst (pc := 27) (v := (-1)) C dJ1_indexOf_4cfef_27 (by decide) ?_
      obtain rfl := Option.some.inj h
      exact g_iret C hR dJ1_indexOf_4cfef_28
  · replace h := ifp c2 h
    refine g_iconst (pc := 7) (v := (-1)) C dJ1_indexOf_4cfef_7 (by decide) ?_
    obtain rfl := Option.some.inj h
    exact g_iret C hR dJ1_indexOf_4cfef_8
theorem dJ0_indexOf_7cf53_0 : decode cJ0_indexOf_7cf53 0 = .ok (.aload_n 0, 1) := by decide +kernel
theorem dJ0_indexOf_7cf53_1 : decode cJ0_indexOf_7cf53 1 = .ok (.invokevirtual 492, 3) := by decide +kernel
theorem dJ0_indexOf_7cf53_4 : decode cJ0_indexOf_7cf53 4 = .ok (.ifCond .eq 19, 3) := by decide +kernel
theorem dJ0_indexOf_7cf53_7 : decode cJ0_indexOf_7cf53 7 = .ok (.aload_n 0, 1) := by decide +kernel
theorem dJ0_indexOf_7cf53_8 : decode cJ0_indexOf_7cf53 8 = .ok (.getfield 9, 3) := by decide +kernel
theorem dJ0_indexOf_7cf53_11 : decode cJ0_indexOf_7cf53 11 = .ok (.iload_n 1, 1) := by decide +kernel
theorem dJ0_indexOf_7cf53_12 : decode cJ0_indexOf_7cf53 12 = .ok (.iload_n 2, 1) := by decide +kernel
theorem dJ0_indexOf_7cf53_13 : decode cJ0_indexOf_7cf53 13 = .ok (.aload_n 0, 1) := by decide +kernel
theorem dJ0_indexOf_7cf53_14 : decode cJ0_indexOf_7cf53 14 = .ok (.invokevirtual 505, 3) := by decide +kernel
theorem dJ0_indexOf_7cf53_17 : decode cJ0_indexOf_7cf53 17 = .ok (.invokestatic 637, 3) := by decide +kernel
theorem dJ0_indexOf_7cf53_20 : decode cJ0_indexOf_7cf53 20 = .ok (.goto 16, 3) := by decide +kernel
theorem dJ0_indexOf_7cf53_23 : decode cJ0_indexOf_7cf53 23 = .ok (.aload_n 0, 1) := by decide +kernel
theorem dJ0_indexOf_7cf53_36 : decode cJ0_indexOf_7cf53 36 = .ok (.ireturn, 1) := by decide +kernel
theorem wJ0_indexOf_7cf53 : Mw yJ0_indexOf_7cf53 cJ0_indexOf_7cf53 3 (some .int) 2 := ⟨q_597, q_131, by decide, ⟨by decide +kernel, by decide +kernel⟩, by decide +kernel, by decide +kernel⟩
/-- java/lang/String.indexOf(II)I -/
def fJ0_indexOf_7cf53 (x0 : Nat) (x1 : Int32) (x2 : Int32) : Option (Int32) :=
  gd (x0 < 25) <| Option.bind (fJ0_isLatin1_aae02 x0) fun r2 => if r2 = 0 then (none) else (Option.bind (fJ0_length_8abf5 x0) fun r4 => Option.bind (fJ1_indexOf_4cfef x0 x1 x2 r4) fun r5 => some r5)
set_option maxHeartbeats 4000000 in
theorem kJ0_indexOf_7cf53 {l : Launch} {B : Bx} {d : Nat} (hd : 4 ≤ d) {T : Sh} {M : Me} {x0 : Nat} {x1 : Int32} {x2 : Int32} {r : Int32} (h : fJ0_indexOf_7cf53  x0 x1 x2 = some r) : Kt l B yJ0_indexOf_7cf53 cJ0_indexOf_7cf53 3 (some .int) d [.ref (B.2.2.2.1 (x0)), .int (x1), .int (x2)] T M (some (.int r)) T M := by
  refine kt_of wJ0_indexOf_7cf53 (Nat.le_refl _) (Nat.le_refl _) (Nat.le_of_ble_eq_true rfl) (fun X C hR hlx hin => ?_)
  subst hlx
  replace C : Cx X B cJ0_indexOf_7cf53 3 RJ0 d (tp T, sl T, tp T, sl T) := C
  unfold fJ0_indexOf_7cf53 at h
  show G X B 3 _ _ 0 [(0, .ref (B.2.2.2.1 (x0))), (1, .int (x1)), (2, .int (x2))] [] T M
  refine g_aload_n (pc := 0) C dJ0_indexOf_7cf53_0 rfl 0 rfl ?_
  replace h := gd_some h; obtain ⟨hw1, h⟩ := h
  replace h := bnd h; obtain ⟨r2, h1, h⟩ := h
  refine g_callTi (pc := 1) (As := []) (st := []) C dJ0_indexOf_7cf53_1 wJ0_isLatin1_aae02 hw1 rfl q_515 q_516 q_514 (by omega) rfl (Nat.le_of_ble_eq_true rfl) (kJ0_isLatin1_aae02 (d := 0) (Nat.le_refl _) h1) ?_
  refine g_if_eq (pc := 4) (tgt := 23) C dJ0_indexOf_7cf53_4 (by decide) (fun c3 => ?_) (fun c3 => ?_)
  · replace h := ifp c3 h
    cases h
  · replace h := ifn c3 h
    refine g_aload_n (pc := 7) C dJ0_indexOf_7cf53_7 rfl 0 rfl ?_
    refine g_sval (pc := 8) C dJ0_indexOf_7cf53_8 hw1 q_1886 ?_
    refine g_iload_n (pc := 11) C dJ0_indexOf_7cf53_11 rfl 1 rfl ?_
    refine g_iload_n (pc := 12) C dJ0_indexOf_7cf53_12 rfl 2 rfl ?_
    refine g_aload_n (pc := 13) C dJ0_indexOf_7cf53_13 rfl 0 rfl ?_
    replace h := bnd h; obtain ⟨r4, h1, h⟩ := h
    refine g_callTi (pc := 14) (As := []) (st := [.int (x2), .int (x1), .ref (B.2.2.2.2 (x0))]) C dJ0_indexOf_7cf53_14 wJ0_length_8abf5 hw1 rfl q_501 q_502 q_598 (by omega) rfl (Nat.le_of_ble_eq_true rfl) (kJ0_length_8abf5 (d := 1) (Nat.le_refl _) h1) ?_
    replace h := bnd h; obtain ⟨r5, h1, h⟩ := h
    refine g_callSi (pc := 17) (As := [.ref (B.2.2.2.2 (x0)), .int (x1), .int (x2), .int (r4)]) (st := []) C dJ0_indexOf_7cf53_17 wJ1_indexOf_4cfef q_600 q_599 (by omega) rfl (Nat.le_of_ble_eq_true rfl) (kJ1_indexOf_4cfef (d := 1) (Nat.le_refl _) h1) ?_
    refine g_goto (pc := 20) (tgt := 36) C dJ0_indexOf_7cf53_20 (by decide) ?_
    obtain rfl := Option.some.inj h
    exact g_iret C hR dJ0_indexOf_7cf53_36
theorem dJ0_indexOf_0f7a4_0 : decode cJ0_indexOf_0f7a4 0 = .ok (.aload_n 0, 1) := by decide +kernel
theorem dJ0_indexOf_0f7a4_1 : decode cJ0_indexOf_0f7a4 1 = .ok (.iload_n 1, 1) := by decide +kernel
theorem dJ0_indexOf_0f7a4_2 : decode cJ0_indexOf_0f7a4 2 = .ok (.iconst 0, 1) := by decide +kernel
theorem dJ0_indexOf_0f7a4_3 : decode cJ0_indexOf_0f7a4 3 = .ok (.invokevirtual 633, 3) := by decide +kernel
theorem dJ0_indexOf_0f7a4_6 : decode cJ0_indexOf_0f7a4 6 = .ok (.ireturn, 1) := by decide +kernel
theorem wJ0_indexOf_0f7a4 : Mw yJ0_indexOf_0f7a4 cJ0_indexOf_0f7a4 2 (some .int) 1 := ⟨q_593, q_131, by decide, ⟨by decide +kernel, by decide +kernel⟩, by decide +kernel, by decide +kernel⟩
/-- java/lang/String.indexOf(I)I -/
def fJ0_indexOf_0f7a4 (x0 : Nat) (x1 : Int32) : Option (Int32) :=
  gd (x0 < 25) <| Option.bind (fJ0_indexOf_7cf53 x0 x1 (0 : Int32)) fun r2 => some r2
set_option maxHeartbeats 4000000 in
theorem kJ0_indexOf_0f7a4 {l : Launch} {B : Bx} {d : Nat} (hd : 5 ≤ d) {T : Sh} {M : Me} {x0 : Nat} {x1 : Int32} {r : Int32} (h : fJ0_indexOf_0f7a4  x0 x1 = some r) : Kt l B yJ0_indexOf_0f7a4 cJ0_indexOf_0f7a4 2 (some .int) d [.ref (B.2.2.2.1 (x0)), .int (x1)] T M (some (.int r)) T M := by
  refine kt_of wJ0_indexOf_0f7a4 (Nat.le_refl _) (Nat.le_refl _) (Nat.le_of_ble_eq_true rfl) (fun X C hR hlx hin => ?_)
  subst hlx
  replace C : Cx X B cJ0_indexOf_0f7a4 2 RJ0 d (tp T, sl T, tp T, sl T) := C
  unfold fJ0_indexOf_0f7a4 at h
  show G X B 2 _ _ 0 [(0, .ref (B.2.2.2.1 (x0))), (1, .int (x1))] [] T M
  refine g_aload_n (pc := 0) C dJ0_indexOf_0f7a4_0 rfl 0 rfl ?_
  refine g_iload_n (pc := 1) C dJ0_indexOf_0f7a4_1 rfl 1 rfl ?_
  refine g_iconst (pc := 2) (v := 0) C dJ0_indexOf_0f7a4_2 (by decide) ?_
  replace h := gd_some h; obtain ⟨hw1, h⟩ := h
  replace h := bnd h; obtain ⟨r2, h1, h⟩ := h
  refine g_callTi (pc := 3) (As := [.int (x1), .int ((0 : Int32))]) (st := []) C dJ0_indexOf_0f7a4_3 wJ0_indexOf_7cf53 hw1 rfl q_595 q_596 q_594 (by omega) rfl (Nat.le_of_ble_eq_true rfl) (kJ0_indexOf_7cf53 (d := 4) (Nat.le_refl _) h1) ?_
  obtain rfl := Option.some.inj h
  exact g_iret C hR dJ0_indexOf_0f7a4_6
