set_option maxRecDepth 20000 in
theorem q_85 : Cond.selects RX12 yX12_stores yX12_stores ∈ lw_gd := mem_gd (List.mem_of_getElem? (i := 85) (by decide +kernel)) rfl
set_option maxRecDepth 20000 in
theorem q_86 : Cond.selects RX12 yX12_notes yX12_notes ∈ lw_gd := mem_gd (List.mem_of_getElem? (i := 86) (by decide +kernel)) rfl
set_option maxRecDepth 20000 in
theorem q_87 : Cond.selects RX12 yX12_whyTrain yX12_whyTrain ∈ lw_gd := mem_gd (List.mem_of_getElem? (i := 87) (by decide +kernel)) rfl
set_option maxRecDepth 20000 in
theorem q_97 : Cond.selects RX12 yX12_goesFor yX12_goesFor ∈ lw_gd := mem_gd (List.mem_of_getElem? (i := 97) (by decide +kernel)) rfl
set_option maxRecDepth 20000 in
theorem q_98 : Cond.selects RX12 yX12_goesTick yX12_goesTick ∈ lw_gd := mem_gd (List.mem_of_getElem? (i := 98) (by decide +kernel)) rfl
set_option maxRecDepth 20000 in
theorem q_100 : Cond.selects RX12 yX12_passedNow yX12_passedNow ∈ lw_gd := mem_gd (List.mem_of_getElem? (i := 100) (by decide +kernel)) rfl
set_option maxRecDepth 20000 in
theorem q_101 : Cond.selects RX12 yX12_noTray yX12_noTray ∈ lw_gd := mem_gd (List.mem_of_getElem? (i := 101) (by decide +kernel)) rfl
set_option maxRecDepth 20000 in
theorem q_102 : Cond.selects RX12 yX12_tells yX12_tells ∈ lw_gd := mem_gd (List.mem_of_getElem? (i := 102) (by decide +kernel)) rfl
set_option maxRecDepth 20000 in
theorem q_103 : Cond.selects RX12 yX12_whyNot yX12_whyNot ∈ lw_gd := mem_gd (List.mem_of_getElem? (i := 103) (by decide +kernel)) rfl
set_option maxRecDepth 20000 in
theorem q_104 : Cond.selects RX12 yX12_does yX12_does ∈ lw_gd := mem_gd (List.mem_of_getElem? (i := 104) (by decide +kernel)) rfl
set_option maxRecDepth 20000 in
theorem q_105 : Cond.selects RX12 yX12_isAgain yX12_isAgain ∈ lw_gd := mem_gd (List.mem_of_getElem? (i := 105) (by decide +kernel)) rfl
set_option maxRecDepth 20000 in
theorem q_106 : Cond.selects RX12 yX12_drawn yX12_drawn ∈ lw_gd := mem_gd (List.mem_of_getElem? (i := 106) (by decide +kernel)) rfl
set_option maxRecDepth 20000 in
theorem q_107 : Cond.selects RX12 yX12_draw yX12_draw ∈ lw_gd := mem_gd (List.mem_of_getElem? (i := 107) (by decide +kernel)) rfl
set_option maxRecDepth 20000 in
theorem q_108 : Cond.selects RX12 yX12_laysMapNow yX12_laysMapNow ∈ lw_gd := mem_gd (List.mem_of_getElem? (i := 108) (by decide +kernel)) rfl
set_option maxRecDepth 20000 in
theorem q_1258 : Cond.fieldLink RX12 374 "EyeTrainerModel" "toldWhy" "I" ∈ lw_gd := mem_gd (List.mem_of_getElem? (i := 1258) (by decide +kernel)) rfl
set_option maxRecDepth 20000 in
theorem q_1259 : Cond.fieldLink RX12 396 "EyeTrainerModel" "x" "I" ∈ lw_gd := mem_gd (List.mem_of_getElem? (i := 1259) (by decide +kernel)) rfl
set_option maxRecDepth 20000 in
theorem q_1267 : Cond.fieldLink RX12 64 "EyeTrainerModel" "rowSort" "[I" ∈ lw_gd := mem_gd (List.mem_of_getElem? (i := 1267) (by decide +kernel)) rfl
set_option maxRecDepth 20000 in
theorem q_1268 : Cond.fieldLink RX12 67 "EyeTrainerModel" "rowMany" "[I" ∈ lw_gd := mem_gd (List.mem_of_getElem? (i := 1268) (by decide +kernel)) rfl
set_option maxRecDepth 20000 in
theorem q_1269 : Cond.fieldLink RX12 70 "EyeTrainerModel" "numbers" "[J" ∈ lw_gd := mem_gd (List.mem_of_getElem? (i := 1269) (by decide +kernel)) rfl
set_option maxRecDepth 20000 in
theorem q_1557 : Cond.code yX12_place cX12_place 3 (some .int) ∈ lw_gd := mem_gd (List.mem_of_getElem? (i := 1557) (by decide +kernel)) rfl
set_option maxRecDepth 20000 in
theorem q_1558 : Cond.methodLink RX12 333 yX12_stores ∈ lw_gd := mem_gd (List.mem_of_getElem? (i := 1558) (by decide +kernel)) rfl
set_option maxRecDepth 20000 in
theorem q_1560 : Cond.instanceMethod yX12_stores ∈ lw_gd := mem_gd (List.mem_of_getElem? (i := 1560) (by decide +kernel)) rfl
set_option maxRecDepth 20000 in
theorem q_1562 : Cond.methodLink RX12 336 yX12_notes ∈ lw_gd := mem_gd (List.mem_of_getElem? (i := 1562) (by decide +kernel)) rfl
set_option maxRecDepth 20000 in
theorem q_1564 : Cond.instanceMethod yX12_notes ∈ lw_gd := mem_gd (List.mem_of_getElem? (i := 1564) (by decide +kernel)) rfl
set_option maxRecDepth 20000 in
theorem q_1569 : Cond.code yX12_train cX12_train 4 (some .int) ∈ lw_gd := mem_gd (List.mem_of_getElem? (i := 1569) (by decide +kernel)) rfl
set_option maxRecDepth 20000 in
theorem q_1570 : Cond.methodLink RX12 339 yX12_whyTrain ∈ lw_gd := mem_gd (List.mem_of_getElem? (i := 1570) (by decide +kernel)) rfl
set_option maxRecDepth 20000 in
theorem q_1572 : Cond.instanceMethod yX12_whyTrain ∈ lw_gd := mem_gd (List.mem_of_getElem? (i := 1572) (by decide +kernel)) rfl
set_option maxRecDepth 20000 in
theorem q_1623 : Cond.code yX12_ticks cX12_ticks 2 (some .int) ∈ lw_gd := mem_gd (List.mem_of_getElem? (i := 1623) (by decide +kernel)) rfl
set_option maxRecDepth 20000 in
theorem q_1624 : Cond.methodLink RX12 352 yX12_goesFor ∈ lw_gd := mem_gd (List.mem_of_getElem? (i := 1624) (by decide +kernel)) rfl
set_option maxRecDepth 20000 in
theorem q_1626 : Cond.instanceMethod yX12_goesFor ∈ lw_gd := mem_gd (List.mem_of_getElem? (i := 1626) (by decide +kernel)) rfl
set_option maxRecDepth 20000 in
theorem q_1627 : Cond.code yX12_goesFor cX12_goesFor 4 (some .int) ∈ lw_gd := mem_gd (List.mem_of_getElem? (i := 1627) (by decide +kernel)) rfl
set_option maxRecDepth 20000 in
theorem q_1628 : Cond.constantLong RX12 343 (99) ∈ lw_gd := mem_gd (List.mem_of_getElem? (i := 1628) (by decide +kernel)) rfl
set_option maxRecDepth 20000 in
theorem q_1629 : Cond.methodLink RX12 345 yX12_goesTick ∈ lw_gd := mem_gd (List.mem_of_getElem? (i := 1629) (by decide +kernel)) rfl
set_option maxRecDepth 20000 in
theorem q_1631 : Cond.instanceMethod yX12_goesTick ∈ lw_gd := mem_gd (List.mem_of_getElem? (i := 1631) (by decide +kernel)) rfl
set_option maxRecDepth 20000 in
theorem q_1637 : Cond.methodLink RX12 349 yX12_passedNow ∈ lw_gd := mem_gd (List.mem_of_getElem? (i := 1637) (by decide +kernel)) rfl
set_option maxRecDepth 20000 in
theorem q_1639 : Cond.instanceMethod yX12_passedNow ∈ lw_gd := mem_gd (List.mem_of_getElem? (i := 1639) (by decide +kernel)) rfl
set_option maxRecDepth 20000 in
theorem q_1644 : Cond.code yX12_follow cX12_follow 2 (some .int) ∈ lw_gd := mem_gd (List.mem_of_getElem? (i := 1644) (by decide +kernel)) rfl
set_option maxRecDepth 20000 in
theorem q_1648 : Cond.code yX12_pattern cX12_pattern 2 (some .int) ∈ lw_gd := mem_gd (List.mem_of_getElem? (i := 1648) (by decide +kernel)) rfl
set_option maxRecDepth 20000 in
theorem q_1649 : Cond.constantLong RX12 356 (-1) ∈ lw_gd := mem_gd (List.mem_of_getElem? (i := 1649) (by decide +kernel)) rfl
set_option maxRecDepth 20000 in
theorem q_1653 : Cond.code yX12_undo cX12_undo 3 (some .int) ∈ lw_gd := mem_gd (List.mem_of_getElem? (i := 1653) (by decide +kernel)) rfl
set_option maxRecDepth 20000 in
theorem q_1654 : Cond.constantLong RX12 358 (10) ∈ lw_gd := mem_gd (List.mem_of_getElem? (i := 1654) (by decide +kernel)) rfl
set_option maxRecDepth 20000 in
theorem q_1658 : Cond.code yX12_judge cX12_judge 7 (some .int) ∈ lw_gd := mem_gd (List.mem_of_getElem? (i := 1658) (by decide +kernel)) rfl
set_option maxRecDepth 20000 in
theorem q_1659 : Cond.constantLong RX12 384 (3) ∈ lw_gd := mem_gd (List.mem_of_getElem? (i := 1659) (by decide +kernel)) rfl
set_option maxRecDepth 20000 in
theorem q_1660 : Cond.methodLink RX12 386 yX12_noTray ∈ lw_gd := mem_gd (List.mem_of_getElem? (i := 1660) (by decide +kernel)) rfl
set_option maxRecDepth 20000 in
theorem q_1662 : Cond.instanceMethod yX12_noTray ∈ lw_gd := mem_gd (List.mem_of_getElem? (i := 1662) (by decide +kernel)) rfl
set_option maxRecDepth 20000 in
theorem q_1663 : Cond.code yX12_noTray cX12_noTray 2 (some .int) ∈ lw_gd := mem_gd (List.mem_of_getElem? (i := 1663) (by decide +kernel)) rfl
set_option maxRecDepth 20000 in
theorem q_1664 : Cond.methodLink RX12 389 yX12_tells ∈ lw_gd := mem_gd (List.mem_of_getElem? (i := 1664) (by decide +kernel)) rfl
set_option maxRecDepth 20000 in
theorem q_1666 : Cond.instanceMethod yX12_tells ∈ lw_gd := mem_gd (List.mem_of_getElem? (i := 1666) (by decide +kernel)) rfl
set_option maxRecDepth 20000 in
theorem q_1667 : Cond.code yX12_tells cX12_tells 3 (some .int) ∈ lw_gd := mem_gd (List.mem_of_getElem? (i := 1667) (by decide +kernel)) rfl
set_option maxRecDepth 20000 in
theorem q_1668 : Cond.methodLink RX12 377 yX12_whyNot ∈ lw_gd := mem_gd (List.mem_of_getElem? (i := 1668) (by decide +kernel)) rfl
set_option maxRecDepth 20000 in
theorem q_1670 : Cond.instanceMethod yX12_whyNot ∈ lw_gd := mem_gd (List.mem_of_getElem? (i := 1670) (by decide +kernel)) rfl
set_option maxRecDepth 20000 in
theorem q_1671 : Cond.code yX12_whyNot cX12_whyNot 3 (some .int) ∈ lw_gd := mem_gd (List.mem_of_getElem? (i := 1671) (by decide +kernel)) rfl
set_option maxRecDepth 20000 in
theorem q_1672 : Cond.constantLong RX12 360 (14) ∈ lw_gd := mem_gd (List.mem_of_getElem? (i := 1672) (by decide +kernel)) rfl
set_option maxRecDepth 20000 in
theorem q_1673 : Cond.constantLong RX12 362 (11) ∈ lw_gd := mem_gd (List.mem_of_getElem? (i := 1673) (by decide +kernel)) rfl
set_option maxRecDepth 20000 in
theorem q_1674 : Cond.constantLong RX12 364 (100) ∈ lw_gd := mem_gd (List.mem_of_getElem? (i := 1674) (by decide +kernel)) rfl
set_option maxRecDepth 20000 in
theorem q_1675 : Cond.constantLong RX12 366 (199) ∈ lw_gd := mem_gd (List.mem_of_getElem? (i := 1675) (by decide +kernel)) rfl
set_option maxRecDepth 20000 in
theorem q_1676 : Cond.constantLong RX12 368 (10000) ∈ lw_gd := mem_gd (List.mem_of_getElem? (i := 1676) (by decide +kernel)) rfl
set_option maxRecDepth 20000 in
theorem q_1677 : Cond.constantLong RX12 370 (15999) ∈ lw_gd := mem_gd (List.mem_of_getElem? (i := 1677) (by decide +kernel)) rfl
set_option maxRecDepth 20000 in
theorem q_1678 : Cond.constantLong RX12 372 (1000) ∈ lw_gd := mem_gd (List.mem_of_getElem? (i := 1678) (by decide +kernel)) rfl
set_option maxRecDepth 20000 in
theorem q_1679 : Cond.methodLink RX12 381 yX12_does ∈ lw_gd := mem_gd (List.mem_of_getElem? (i := 1679) (by decide +kernel)) rfl
set_option maxRecDepth 20000 in
theorem q_1681 : Cond.instanceMethod yX12_does ∈ lw_gd := mem_gd (List.mem_of_getElem? (i := 1681) (by decide +kernel)) rfl
set_option maxRecDepth 20000 in
theorem q_1682 : Cond.code yX12_does cX12_does 2 none ∈ lw_gd := mem_gd (List.mem_of_getElem? (i := 1682) (by decide +kernel)) rfl
set_option maxRecDepth 20000 in
theorem q_1683 : Cond.methodLink RX12 392 yX12_isAgain ∈ lw_gd := mem_gd (List.mem_of_getElem? (i := 1683) (by decide +kernel)) rfl
set_option maxRecDepth 20000 in
theorem q_1685 : Cond.instanceMethod yX12_isAgain ∈ lw_gd := mem_gd (List.mem_of_getElem? (i := 1685) (by decide +kernel)) rfl
set_option maxRecDepth 20000 in
theorem q_1690 : Cond.code yX12_perform cX12_perform 4 (some .int) ∈ lw_gd := mem_gd (List.mem_of_getElem? (i := 1690) (by decide +kernel)) rfl
set_option maxRecDepth 20000 in
theorem q_1694 : Cond.code yX12_day cX12_day 6 (some .int) ∈ lw_gd := mem_gd (List.mem_of_getElem? (i := 1694) (by decide +kernel)) rfl
set_option maxRecDepth 20000 in
theorem q_1695 : Cond.constantLong RX12 402 (40) ∈ lw_gd := mem_gd (List.mem_of_getElem? (i := 1695) (by decide +kernel)) rfl
set_option maxRecDepth 20000 in
theorem q_1696 : Cond.methodLink RX12 404 yX12_drawn ∈ lw_gd := mem_gd (List.mem_of_getElem? (i := 1696) (by decide +kernel)) rfl
set_option maxRecDepth 20000 in
theorem q_1698 : Cond.instanceMethod yX12_drawn ∈ lw_gd := mem_gd (List.mem_of_getElem? (i := 1698) (by decide +kernel)) rfl
set_option maxRecDepth 20000 in
theorem q_1699 : Cond.code yX12_drawn cX12_drawn 3 (some .int) ∈ lw_gd := mem_gd (List.mem_of_getElem? (i := 1699) (by decide +kernel)) rfl
set_option maxRecDepth 20000 in
theorem q_1700 : Cond.methodLink RX12 399 yX12_draw ∈ lw_gd := mem_gd (List.mem_of_getElem? (i := 1700) (by decide +kernel)) rfl
set_option maxRecDepth 20000 in
theorem q_1702 : Cond.instanceMethod yX12_draw ∈ lw_gd := mem_gd (List.mem_of_getElem? (i := 1702) (by decide +kernel)) rfl
set_option maxRecDepth 20000 in
theorem q_1703 : Cond.code yX12_draw cX12_draw 2 (some .int) ∈ lw_gd := mem_gd (List.mem_of_getElem? (i := 1703) (by decide +kernel)) rfl
set_option maxRecDepth 20000 in
theorem q_1704 : Cond.constant RX12 395 (1103515245) ∈ lw_gd := mem_gd (List.mem_of_getElem? (i := 1704) (by decide +kernel)) rfl
set_option maxRecDepth 20000 in
theorem q_1708 : Cond.code yX12_area cX12_area 2 (some .int) ∈ lw_gd := mem_gd (List.mem_of_getElem? (i := 1708) (by decide +kernel)) rfl
set_option maxRecDepth 20000 in
theorem q_1709 : Cond.methodLink RX12 410 yX12_laysMapNow ∈ lw_gd := mem_gd (List.mem_of_getElem? (i := 1709) (by decide +kernel)) rfl
set_option maxRecDepth 20000 in
theorem q_1711 : Cond.instanceMethod yX12_laysMapNow ∈ lw_gd := mem_gd (List.mem_of_getElem? (i := 1711) (by decide +kernel)) rfl
set_option maxRecDepth 20000 in
theorem q_1712 : Cond.code yX12_laysMapNow cX12_laysMapNow 2 none ∈ lw_gd := mem_gd (List.mem_of_getElem? (i := 1712) (by decide +kernel)) rfl
set_option maxRecDepth 20000 in
theorem q_1732 : Cond.code yX12_rectangle cX12_rectangle 3 (some .int) ∈ lw_gd := mem_gd (List.mem_of_getElem? (i := 1732) (by decide +kernel)) rfl
set_option maxRecDepth 20000 in
theorem q_1733 : Cond.constantLong RX12 416 (5) ∈ lw_gd := mem_gd (List.mem_of_getElem? (i := 1733) (by decide +kernel)) rfl
set_option maxRecDepth 20000 in
theorem q_1737 : Cond.code yX12_ellipse cX12_ellipse 3 (some .int) ∈ lw_gd := mem_gd (List.mem_of_getElem? (i := 1737) (by decide +kernel)) rfl
set_option maxRecDepth 20000 in
theorem q_1741 : Cond.code yX12_margin cX12_margin 8 (some .int) ∈ lw_gd := mem_gd (List.mem_of_getElem? (i := 1741) (by decide +kernel)) rfl
set_option maxRecDepth 20000 in
theorem q_1745 : Cond.code yX12_edge cX12_edge 2 (some .int) ∈ lw_gd := mem_gd (List.mem_of_getElem? (i := 1745) (by decide +kernel)) rfl
set_option maxRecDepth 20000 in
theorem q_1749 : Cond.code yX12_lag cX12_lag 6 (some .int) ∈ lw_gd := mem_gd (List.mem_of_getElem? (i := 1749) (by decide +kernel)) rfl
set_option maxRecDepth 20000 in
theorem q_1753 : Cond.code yX12_bus cX12_bus 4 (some .int) ∈ lw_gd := mem_gd (List.mem_of_getElem? (i := 1753) (by decide +kernel)) rfl
theorem dX12_place_0 : decode cX12_place 0 = .ok (.aload_n 0, 1) := by decide +kernel
theorem dX12_place_1 : decode cX12_place 1 = .ok (.iconst 0, 1) := by decide +kernel
theorem dX12_place_2 : decode cX12_place 2 = .ok (.putfield 1, 3) := by decide +kernel
theorem dX12_place_5 : decode cX12_place 5 = .ok (.aload_n 0, 1) := by decide +kernel
theorem dX12_place_6 : decode cX12_place 6 = .ok (.iload_n 1, 1) := by decide +kernel
theorem dX12_place_7 : decode cX12_place 7 = .ok (.i2l, 1) := by decide +kernel
theorem dX12_place_8 : decode cX12_place 8 = .ok (.invokevirtual 247, 3) := by decide +kernel
theorem dX12_place_11 : decode cX12_place 11 = .ok (.ifCond .eq 11, 3) := by decide +kernel
theorem dX12_place_14 : decode cX12_place 14 = .ok (.iload_n 2, 1) := by decide +kernel
theorem dX12_place_15 : decode cX12_place 15 = .ok (.i2l, 1) := by decide +kernel
theorem dX12_place_16 : decode cX12_place 16 = .ok (.invokestatic 263, 3) := by decide +kernel
theorem dX12_place_19 : decode cX12_place 19 = .ok (.ifCond .ne 6, 3) := by decide +kernel
theorem dX12_place_22 : decode cX12_place 22 = .ok (.bipush (-11), 2) := by decide +kernel
theorem dX12_place_24 : decode cX12_place 24 = .ok (.ireturn, 1) := by decide +kernel
theorem dX12_place_25 : decode cX12_place 25 = .ok (.aload_n 0, 1) := by decide +kernel
theorem dX12_place_26 : decode cX12_place 26 = .ok (.invokevirtual 333, 3) := by decide +kernel
theorem dX12_place_29 : decode cX12_place 29 = .ok (.aload_n 0, 1) := by decide +kernel
theorem dX12_place_30 : decode cX12_place 30 = .ok (.getfield 13, 3) := by decide +kernel
theorem dX12_place_33 : decode cX12_place 33 = .ok (.bipush 42, 2) := by decide +kernel
theorem dX12_place_35 : decode cX12_place 35 = .ok (.iload_n 1, 1) := by decide +kernel
theorem dX12_place_36 : decode cX12_place 36 = .ok (.iadd, 1) := by decide +kernel
theorem dX12_place_37 : decode cX12_place 37 = .ok (.iload_n 2, 1) := by decide +kernel
theorem dX12_place_38 : decode cX12_place 38 = .ok (.iastore, 1) := by decide +kernel
theorem dX12_place_39 : decode cX12_place 39 = .ok (.aload_n 0, 1) := by decide +kernel
theorem dX12_place_40 : decode cX12_place 40 = .ok (.invokevirtual 336, 3) := by decide +kernel
theorem dX12_place_43 : decode cX12_place 43 = .ok (.aload_n 0, 1) := by decide +kernel
theorem dX12_place_44 : decode cX12_place 44 = .ok (.invokevirtual 251, 3) := by decide +kernel
theorem dX12_place_47 : decode cX12_place 47 = .ok (.aload_n 0, 1) := by decide +kernel
theorem dX12_place_48 : decode cX12_place 48 = .ok (.iload_n 1, 1) := by decide +kernel
theorem dX12_place_49 : decode cX12_place 49 = .ok (.invokevirtual 254, 3) := by decide +kernel
theorem dX12_place_52 : decode cX12_place 52 = .ok (.ifCond .eq 7, 3) := by decide +kernel
theorem dX12_place_55 : decode cX12_place 55 = .ok (.iconst 1, 1) := by decide +kernel
theorem dX12_place_56 : decode cX12_place 56 = .ok (.goto 4, 3) := by decide +kernel
theorem dX12_place_59 : decode cX12_place 59 = .ok (.iconst 0, 1) := by decide +kernel
theorem dX12_place_60 : decode cX12_place 60 = .ok (.ireturn, 1) := by decide +kernel
theorem wX12_place : Mw yX12_place cX12_place 3 (some .int) 2 := ⟨q_1557, q_130, by decide, ⟨by decide +kernel, by decide +kernel⟩, by decide +kernel, by decide +kernel⟩
/-- EyeTrainerModel.place(II)I -/
def fX12_place (T : Sh) (M : Me) (x0 : Nat) (x1 : Int32) (x2 : Int32) : Option (Int32 × Me) :=
  gd (kd T x0 = 11) <| lt (pI M x0 0 (0 : Int32)) fun M2 => Option.bind (fX12_isLane T M2 x0 (Int32.toInt64 x1)) fun r3 => if r3 = 0 then (some ((-11 : Int32), M2)) else (Option.bind (fX12_isCell (Int32.toInt64 x2)) fun r5 => if r5 = 0 then (some ((-11 : Int32), M2)) else (Option.bind (fX12_stores T M2 x0) <| un2 fun _u M7 => Option.bind (gR M7 x0 1) fun a8 => gd (kd T a8 = 13) <| gv ((42 : Int32) + x1) (ln T a8) <| lt (pI M7 a8 (Int32.toNatClampNeg ((42 : Int32) + x1)) x2) fun M11 => Option.bind (fX12_notes T M11 x0) <| un2 fun _u M12 => Option.bind (fX12_laysNow T M12 x0) <| un2 fun _u M13 => Option.bind (fX12_isAtPoint T M13 x0 x1) <| un2 fun r14 M15 => if r14 = 0 then (some ((0 : Int32), M15)) else (some ((1 : Int32), M15))))
set_option maxHeartbeats 4000000 in
theorem kX12_place {l : Launch} {B : Bx} {d : Nat} (hd : 4 ≤ d) {T : Sh} {M : Me} {x0 : Nat} {x1 : Int32} {x2 : Int32} {r : Int32} {M' : Me} (h : fX12_place T M x0 x1 x2 = some (r, M')) : Kt l B yX12_place cX12_place 3 (some .int) d [.ref (x0), .int (x1), .int (x2)] T M (some (.int r)) T M' := by
  refine kt_of wX12_place (Nat.le_refl _) (Nat.le_refl _) (Nat.le_of_ble_eq_true rfl) (fun X C hR hlx hin => ?_)
  subst hlx
  replace C : Cx X B cX12_place 3 RX12 d (tp T, sl T, tp T, sl T) := C
  unfold fX12_place at h
  show G X B 3 _ _ 0 [(0, .ref (x0)), (1, .int (x1)), (2, .int (x2))] [] T M
  refine g_aload_n (pc := 0) C dX12_place_0 rfl 0 rfl ?_
  refine g_iconst (pc := 1) (v := 0) C dX12_place_1 (by decide) ?_
  replace h := gd_some h; obtain ⟨hk1, h⟩ := h
  refine g_putI (pc := 2) C dX12_place_2 kX12 hk1 0 (by decide) rfl rfl rfl q_1227 ?_
  refine g_mem (fun M2 eM2 => ?_)
  replace h := lt_at eM2 h
  refine g_aload_n (pc := 5) C dX12_place_5 rfl 0 rfl ?_
  refine g_iload_n (pc := 6) C dX12_place_6 rfl 1 rfl ?_
  refine g_i2l (pc := 7) C dX12_place_7 ?_
  replace h := bnd h; obtain ⟨r3, h1, h⟩ := h
  refine g_callVi (pc := 8) (As := [.long (Int32.toInt64 x1)]) (st := []) C dX12_place_8 wX12_isLane hk1 rfl (by decide) q_1481 q_75 q_1479 (by omega) rfl (Nat.le_of_ble_eq_true rfl) (kX12_isLane (d := 1) (Nat.le_refl _) h1) ?_
  refine g_if_eq (pc := 11) (tgt := 22) C dX12_place_11 (by decide) (fun c4 => ?_) (fun c4 => ?_)
  · replace h := ifp c4 h
    refine g_bipush (pc := 22) (v := (-11)) C dX12_place_22 (by decide) ?_
    obtain ⟨rfl, rfl⟩ := Prod.mk.inj (Option.some.inj h)
    exact g_iret C hR dX12_place_24
  · replace h := ifn c4 h
    refine g_iload_n (pc := 14) C dX12_place_14 rfl 2 rfl ?_
    refine g_i2l (pc := 15) C dX12_place_15 ?_
    replace h := bnd h; obtain ⟨r5, h1, h⟩ := h
    refine g_callSi (pc := 16) (As := [.long (Int32.toInt64 x2)]) (st := []) C dX12_place_16 wX12_isCell q_1530 q_1529 (by omega) rfl (Nat.le_of_ble_eq_true rfl) (kX12_isCell (d := 1) (Nat.le_refl _) h1) ?_
    refine g_if_ne (pc := 19) (tgt := 25) C dX12_place_19 (by decide) (fun c6 => ?_) (fun c6 => ?_)
    · replace h := ifn c6 h
      refine g_aload_n (pc := 25) C dX12_place_25 rfl 0 rfl ?_
      replace h := bnd2 h; obtain ⟨_u, M7, h1, h⟩ := h
      refine g_callVv (pc := 26) (As := []) (st := []) C dX12_place_26 wX12_stores hk1 rfl (by decide) q_1560 q_85 q_1558 (by omega) rfl (Nat.le_of_ble_eq_true rfl) (kX12_stores (d := 0) (Nat.le_refl _) h1) ?_
      refine g_aload_n (pc := 29) C dX12_place_29 rfl 0 rfl ?_
      refine g_get (pc := 30) (v := va_rf (gR M7 x0 1)) C dX12_place_30 kX12 hk1 1 (by decide) q_1228 rfl ?_
      replace h := bnd h; obtain ⟨a8, ea8, h⟩ := h
      refine g_refq ea8 ?_
      refine g_bipush (pc := 33) (v := 42) C dX12_place_33 (by decide) ?_
      refine g_iload_n (pc := 35) C dX12_place_35 rfl 1 rfl ?_
      refine g_iadd (pc := 36) C dX12_place_36 ?_
      refine g_iload_n (pc := 37) C dX12_place_37 rfl 2 rfl ?_
      replace h := gd_some h; obtain ⟨hk9, h⟩ := h
      replace h := gv_some h; obtain ⟨hi10, h⟩ := h
      refine g_iast (pc := 38) C dX12_place_38 hk9 hi10 ?_
      refine g_mem (fun M11 eM11 => ?_)
      replace h := lt_at eM11 h
      refine g_aload_n (pc := 39) C dX12_place_39 rfl 0 rfl ?_
      replace h := bnd2 h; obtain ⟨_u, M12, h1, h⟩ := h
      refine g_callVv (pc := 40) (As := []) (st := []) C dX12_place_40 wX12_notes hk1 rfl (by decide) q_1564 q_86 q_1562 (by omega) rfl (Nat.le_of_ble_eq_true rfl) (kX12_notes (d := 0) (Nat.le_refl _) h1) ?_
      refine g_aload_n (pc := 43) C dX12_place_43 rfl 0 rfl ?_
      replace h := bnd2 h; obtain ⟨_u, M13, h1, h⟩ := h
      refine g_callVv (pc := 44) (As := []) (st := []) C dX12_place_44 wX12_laysNow hk1 rfl (by decide) q_1485 q_76 q_1483 (by omega) rfl (Nat.le_of_ble_eq_true rfl) (kX12_laysNow (d := 3) (Nat.le_refl _) h1) ?_
      refine g_aload_n (pc := 47) C dX12_place_47 rfl 0 rfl ?_
      refine g_iload_n (pc := 48) C dX12_place_48 rfl 1 rfl ?_
      replace h := bnd2 h; obtain ⟨r14, M15, h1, h⟩ := h
      refine g_callVi (pc := 49) (As := [.int (x1)]) (st := []) C dX12_place_49 wX12_isAtPoint hk1 rfl (by decide) q_1502 q_79 q_1500 (by omega) rfl (Nat.le_of_ble_eq_true rfl) (kX12_isAtPoint (d := 3) (Nat.le_refl _) h1) ?_
      refine g_if_eq (pc := 52) (tgt := 59) C dX12_place_52 (by decide) (fun c16 => ?_) (fun c16 => ?_)
      · replace h := ifp c16 h
        refine g_iconst (pc := 59) (v := 0) C dX12_place_59 (by decide) ?_
        obtain ⟨rfl, rfl⟩ := Prod.mk.inj (Option.some.inj h)
        exact g_iret C hR dX12_place_60
      · replace h := ifn c16 h
        refine g_iconst (pc := 55) (v := 1) C dX12_place_55 (by decide) ?_
        refine g_goto (pc := 56) (tgt := 60) C dX12_place_56 (by decide) ?_
        obtain ⟨rfl, rfl⟩ := Prod.mk.inj (Option.some.inj h)
        exact g_iret C hR dX12_place_60
    · replace h := ifp c6 h
      refine g_bipush (pc := 22) (v := (-11)) C dX12_place_22 (by decide) ?_
      obtain ⟨rfl, rfl⟩ := Prod.mk.inj (Option.some.inj h)
      exact g_iret C hR dX12_place_24
theorem dX12_train_0 : decode cX12_train 0 = .ok (.aload_n 0, 1) := by decide +kernel
theorem dX12_train_1 : decode cX12_train 1 = .ok (.iconst 0, 1) := by decide +kernel
theorem dX12_train_2 : decode cX12_train 2 = .ok (.putfield 1, 3) := by decide +kernel
theorem dX12_train_5 : decode cX12_train 5 = .ok (.aload_n 0, 1) := by decide +kernel
theorem dX12_train_6 : decode cX12_train 6 = .ok (.iload_n 1, 1) := by decide +kernel
theorem dX12_train_7 : decode cX12_train 7 = .ok (.i2l, 1) := by decide +kernel
theorem dX12_train_8 : decode cX12_train 8 = .ok (.iload_n 2, 1) := by decide +kernel
theorem dX12_train_9 : decode cX12_train 9 = .ok (.i2l, 1) := by decide +kernel
theorem dX12_train_10 : decode cX12_train 10 = .ok (.invokevirtual 339, 3) := by decide +kernel
theorem dX12_train_13 : decode cX12_train 13 = .ok (.istore_n 3, 1) := by decide +kernel
theorem dX12_train_14 : decode cX12_train 14 = .ok (.iload_n 3, 1) := by decide +kernel
theorem dX12_train_15 : decode cX12_train 15 = .ok (.ifCond .eq 8, 3) := by decide +kernel
theorem dX12_train_18 : decode cX12_train 18 = .ok (.bipush (-10), 2) := by decide +kernel
theorem dX12_train_20 : decode cX12_train 20 = .ok (.iload_n 3, 1) := by decide +kernel
theorem dX12_train_21 : decode cX12_train 21 = .ok (.isub, 1) := by decide +kernel
theorem dX12_train_22 : decode cX12_train 22 = .ok (.ireturn, 1) := by decide +kernel
theorem dX12_train_23 : decode cX12_train 23 = .ok (.aload_n 0, 1) := by decide +kernel
theorem dX12_train_24 : decode cX12_train 24 = .ok (.invokevirtual 333, 3) := by decide +kernel
theorem dX12_train_27 : decode cX12_train 27 = .ok (.aload_n 0, 1) := by decide +kernel
theorem dX12_train_28 : decode cX12_train 28 = .ok (.getfield 13, 3) := by decide +kernel
theorem dX12_train_31 : decode cX12_train 31 = .ok (.bipush 42, 2) := by decide +kernel
theorem dX12_train_33 : decode cX12_train 33 = .ok (.iload_n 1, 1) := by decide +kernel
theorem dX12_train_34 : decode cX12_train 34 = .ok (.iadd, 1) := by decide +kernel
theorem dX12_train_35 : decode cX12_train 35 = .ok (.aload_n 0, 1) := by decide +kernel
theorem dX12_train_36 : decode cX12_train 36 = .ok (.getfield 312, 3) := by decide +kernel
theorem dX12_train_39 : decode cX12_train 39 = .ok (.iastore, 1) := by decide +kernel
theorem dX12_train_40 : decode cX12_train 40 = .ok (.aload_n 0, 1) := by decide +kernel
theorem dX12_train_41 : decode cX12_train 41 = .ok (.invokevirtual 336, 3) := by decide +kernel
theorem dX12_train_44 : decode cX12_train 44 = .ok (.aload_n 0, 1) := by decide +kernel
theorem dX12_train_45 : decode cX12_train 45 = .ok (.getfield 312, 3) := by decide +kernel
theorem dX12_train_48 : decode cX12_train 48 = .ok (.ireturn, 1) := by decide +kernel
theorem wX12_train : Mw yX12_train cX12_train 4 (some .int) 2 := ⟨q_1569, q_130, by decide, ⟨by decide +kernel, by decide +kernel⟩, by decide +kernel, by decide +kernel⟩
/-- EyeTrainerModel.train(II)I -/
def fX12_train (T : Sh) (M : Me) (x0 : Nat) (x1 : Int32) (x2 : Int32) : Option (Int32 × Me) :=
  gd (kd T x0 = 11) <| lt (pI M x0 0 (0 : Int32)) fun M2 => Option.bind (fX12_whyTrain T M2 x0 (Int32.toInt64 x1) (Int32.toInt64 x2)) <| un2 fun r3 M4 => if r3 = 0 then (Option.bind (fX12_stores T M4 x0) <| un2 fun _u M6 => Option.bind (gR M6 x0 1) fun a7 => gd (kd T a7 = 13) <| gv ((42 : Int32) + x1) (ln T a7) <| lt (pI M6 a7 (Int32.toNatClampNeg ((42 : Int32) + x1)) (gI M6 x0 30)) fun M10 => Option.bind (fX12_notes T M10 x0) <| un2 fun _u M11 => some ((gI M11 x0 30), M11)) else (some (((-10 : Int32) - r3), M4))
set_option maxHeartbeats 4000000 in
theorem kX12_train {l : Launch} {B : Bx} {d : Nat} (hd : 6 ≤ d) {T : Sh} {M : Me} {x0 : Nat} {x1 : Int32} {x2 : Int32} {r : Int32} {M' : Me} (h : fX12_train T M x0 x1 x2 = some (r, M')) : Kt l B yX12_train cX12_train 4 (some .int) d [.ref (x0), .int (x1), .int (x2)] T M (some (.int r)) T M' := by
  refine kt_of wX12_train (Nat.le_refl _) (Nat.le_refl _) (Nat.le_of_ble_eq_true rfl) (fun X C hR hlx hin => ?_)
  subst hlx
  replace C : Cx X B cX12_train 4 RX12 d (tp T, sl T, tp T, sl T) := C
  unfold fX12_train at h
  show G X B 4 _ _ 0 [(0, .ref (x0)), (1, .int (x1)), (2, .int (x2))] [] T M
  refine g_aload_n (pc := 0) C dX12_train_0 rfl 0 rfl ?_
  refine g_iconst (pc := 1) (v := 0) C dX12_train_1 (by decide) ?_
  replace h := gd_some h; obtain ⟨hk1, h⟩ := h
  refine g_putI (pc := 2) C dX12_train_2 kX12 hk1 0 (by decide) rfl rfl rfl q_1227 ?_
  refine g_mem (fun M2 eM2 => ?_)
  replace h := lt_at eM2 h
  refine g_aload_n (pc := 5) C dX12_train_5 rfl 0 rfl ?_
  refine g_iload_n (pc := 6) C dX12_train_6 rfl 1 rfl ?_
  refine g_i2l (pc := 7) C dX12_train_7 ?_
  refine g_iload_n (pc := 8) C dX12_train_8 rfl 2 rfl ?_
  refine g_i2l (pc := 9) C dX12_train_9 ?_
  replace h := bnd2 h; obtain ⟨r3, M4, h1, h⟩ := h
  refine g_callVi (pc := 10) (As := [.long (Int32.toInt64 x1), .long (Int32.toInt64 x2)]) (st := []) C dX12_train_10 wX12_whyTrain hk1 rfl (by decide) q_1572 q_87 q_1570 (by omega) rfl (Nat.le_of_ble_eq_true rfl) (kX12_whyTrain (d := 5) (Nat.le_refl _) h1) ?_
  refine g_istore_n (pc := 13) (lo2 := [(3, .int (r3)), (0, .ref (x0)), (1, .int (x1)), (2, .int (x2))]) C dX12_train_13 rfl (by decide) rfl ?_
  refine g_iload_n (pc := 14) C dX12_train_14 rfl 0 rfl ?_
  refine g_if_eq (pc := 15) (tgt := 23) C dX12_train_15 (by decide) (fun c5 => ?_) (fun c5 => ?_)
  · replace h := ifp c5 h
    refine g_aload_n (pc := 23) C dX12_train_23 rfl 1 rfl ?_
    replace h := bnd2 h; obtain ⟨_u, M6, h1, h⟩ := h
    refine g_callVv (pc := 24) (As := []) (st := []) C dX12_train_24 wX12_stores hk1 rfl (by decide) q_1560 q_85 q_1558 (by omega) rfl (Nat.le_of_ble_eq_true rfl) (kX12_stores (d := 0) (Nat.le_refl _) h1) ?_
    refine g_aload_n (pc := 27) C dX12_train_27 rfl 1 rfl ?_
    refine g_get (pc := 28) (v := va_rf (gR M6 x0 1)) C dX12_train_28 kX12 hk1 1 (by decide) q_1228 rfl ?_
    replace h := bnd h; obtain ⟨a7, ea7, h⟩ := h
    refine g_refq ea7 ?_
    refine g_bipush (pc := 31) (v := 42) C dX12_train_31 (by decide) ?_
    refine g_iload_n (pc := 33) C dX12_train_33 rfl 2 rfl ?_
    refine g_iadd (pc := 34) C dX12_train_34 ?_
    refine g_aload_n (pc := 35) C dX12_train_35 rfl 1 rfl ?_
    refine g_get (pc := 36) (v := .int (gI M6 x0 30)) C dX12_train_36 kX12 hk1 30 (by decide) q_1257 rfl ?_
    replace h := gd_some h; obtain ⟨hk8, h⟩ := h
    replace h := gv_some h; obtain ⟨hi9, h⟩ := h
    refine g_iast (pc := 39) C dX12_train_39 hk8 hi9 ?_
    refine g_mem (fun M10 eM10 => ?_)
    replace h := lt_at eM10 h
    refine g_aload_n (pc := 40) C dX12_train_40 rfl 1 rfl ?_
    replace h := bnd2 h; obtain ⟨_u, M11, h1, h⟩ := h
    refine g_callVv (pc := 41) (As := []) (st := []) C dX12_train_41 wX12_notes hk1 rfl (by decide) q_1564 q_86 q_1562 (by omega) rfl (Nat.le_of_ble_eq_true rfl) (kX12_notes (d := 0) (Nat.le_refl _) h1) ?_
    refine g_aload_n (pc := 44) C dX12_train_44 rfl 1 rfl ?_
    refine g_get (pc := 45) (v := .int (gI M11 x0 30)) C dX12_train_45 kX12 hk1 30 (by decide) q_1257 rfl ?_
    obtain ⟨rfl, rfl⟩ := Prod.mk.inj (Option.some.inj h)
    exact g_iret C hR dX12_train_48
  · replace h := ifn c5 h
    refine g_bipush (pc := 18) (v := (-10)) C dX12_train_18 (by decide) ?_
    refine g_iload_n (pc := 20) C dX12_train_20 rfl 0 rfl ?_
    refine g_isub (pc := 21) C dX12_train_21 ?_
    obtain ⟨rfl, rfl⟩ := Prod.mk.inj (Option.some.inj h)
    exact g_iret C hR dX12_train_22
theorem dX12_goesFor_0 : decode cX12_goesFor 0 = .ok (.iload_n 1, 1) := by decide +kernel
theorem dX12_goesFor_1 : decode cX12_goesFor 1 = .ok (.i2l, 1) := by decide +kernel
theorem dX12_goesFor_2 : decode cX12_goesFor 2 = .ok (.lconst 1, 1) := by decide +kernel
theorem dX12_goesFor_3 : decode cX12_goesFor 3 = .ok (.ldc2_w 343, 3) := by decide +kernel
theorem dX12_goesFor_6 : decode cX12_goesFor 6 = .ok (.invokestatic 139, 3) := by decide +kernel
theorem dX12_goesFor_9 : decode cX12_goesFor 9 = .ok (.ifCond .ne 6, 3) := by decide +kernel
theorem dX12_goesFor_12 : decode cX12_goesFor 12 = .ok (.bipush (-3), 2) := by decide +kernel
theorem dX12_goesFor_14 : decode cX12_goesFor 14 = .ok (.ireturn, 1) := by decide +kernel
theorem dX12_goesFor_15 : decode cX12_goesFor 15 = .ok (.aload_n 0, 1) := by decide +kernel
theorem dX12_goesFor_16 : decode cX12_goesFor 16 = .ok (.invokevirtual 333, 3) := by decide +kernel
theorem dX12_goesFor_19 : decode cX12_goesFor 19 = .ok (.iconst 0, 1) := by decide +kernel
theorem dX12_goesFor_20 : decode cX12_goesFor 20 = .ok (.istore_n 3, 1) := by decide +kernel
theorem dX12_goesFor_21 : decode cX12_goesFor 21 = .ok (.iload_n 3, 1) := by decide +kernel
theorem dX12_goesFor_22 : decode cX12_goesFor 22 = .ok (.iload_n 1, 1) := by decide +kernel
theorem dX12_goesFor_23 : decode cX12_goesFor 23 = .ok (.if_icmp .ge 14, 3) := by decide +kernel
theorem dX12_goesFor_26 : decode cX12_goesFor 26 = .ok (.aload_n 0, 1) := by decide +kernel
theorem dX12_goesFor_27 : decode cX12_goesFor 27 = .ok (.iload_n 2, 1) := by decide +kernel
theorem dX12_goesFor_28 : decode cX12_goesFor 28 = .ok (.invokevirtual 345, 3) := by decide +kernel
theorem dX12_goesFor_31 : decode cX12_goesFor 31 = .ok (.iinc 3 1, 3) := by decide +kernel
theorem dX12_goesFor_34 : decode cX12_goesFor 34 = .ok (.goto (-13), 3) := by decide +kernel
theorem dX12_goesFor_37 : decode cX12_goesFor 37 = .ok (.aload_n 0, 1) := by decide +kernel
theorem dX12_goesFor_38 : decode cX12_goesFor 38 = .ok (.invokevirtual 336, 3) := by decide +kernel
theorem dX12_goesFor_41 : decode cX12_goesFor 41 = .ok (.aload_n 0, 1) := by decide +kernel
theorem dX12_goesFor_42 : decode cX12_goesFor 42 = .ok (.invokevirtual 349, 3) := by decide +kernel
theorem dX12_goesFor_45 : decode cX12_goesFor 45 = .ok (.invokestatic 244, 3) := by decide +kernel
theorem dX12_goesFor_48 : decode cX12_goesFor 48 = .ok (.ireturn, 1) := by decide +kernel
theorem wX12_goesFor : Mw yX12_goesFor cX12_goesFor 4 (some .int) 2 := ⟨q_1627, q_130, by decide, ⟨by decide +kernel, by decide +kernel⟩, by decide +kernel, by decide +kernel⟩
-- a loop of EyeTrainerModel.goesFor at 21
def bX12_goesFor_21 (T : Sh) (x0 : Nat) (x1 : Int32) (x2 : Int32) (x3 : Int32) (M : Me) : Option ((Int32 × Me) ⊕ (Me)) :=
  if x1 ≤ x3 then (some (.inr M)) else (gd (kd T x0 = 11) <| Option.bind (fX12_goesTick T M x0 x2) <| un2 fun _u M7 => lt (x3 + (1 : Int32)) fun v8 => some (.inl (v8, M7)))
def PX12_goesFor_21 (X : Fx) (B : Bx) (Z : Nat × Nat × Nat × Nat) (Q : State → Prop) (T : Sh) (x0 : Nat) (x1 : Int32) (x2 : Int32) (s : Int32 × Me) : Prop := G X B 4 Z Q 21 [(0, .ref (x0)), (1, .int (x1)), (2, .int (x2)), (3, .int (s.1))] [] T s.2
def EX12_goesFor_21 (X : Fx) (B : Bx) (Z : Nat × Nat × Nat × Nat) (Q : State → Prop) (T : Sh) (x0 : Nat) (x1 : Int32) (x2 : Int32) (r : Me) : Prop := G X B 4 Z Q 37 [(0, .ref (x0))] [] T r
set_option maxHeartbeats 4000000 in
theorem tbX12_goesFor_21 {X : Fx} {B : Bx} {Z : Nat × Nat × Nat × Nat} {Q : State → Prop} {d : Nat} {T : Sh} (C : Cx X B cX12_goesFor 4 RX12 d Z) (hd : 6 ≤ d) {x0 : Nat} {x1 : Int32} {x2 : Int32} : ∀ (s : Int32 × Me) (o : (Int32 × Me) ⊕ (Me)), bX12_goesFor_21 T x0 x1 x2 s.1 s.2 = some o → lpE (PX12_goesFor_21 X B Z Q T x0 x1 x2) (EX12_goesFor_21 X B Z Q T x0 x1 x2) o → PX12_goesFor_21 X B Z Q T x0 x1 x2 s := by
  rintro ⟨x3, M⟩ o h hE
  replace h : bX12_goesFor_21 T x0 x1 x2 x3 M = some o := h
  unfold bX12_goesFor_21 at h
  show G X B 4 Z Q 21 [(0, .ref (x0)), (1, .int (x1)), (2, .int (x2)), (3, .int (x3))] [] T M
  refine g_iload_n (pc := 21) C dX12_goesFor_21 rfl 3 rfl ?_
  refine g_iload_n (pc := 22) C dX12_goesFor_22 rfl 1 rfl ?_
  refine g_icmp_ge (pc := 23) (tgt := 37) C dX12_goesFor_23 (by decide) (fun c5 => ?_) (fun c5 => ?_)
  · replace h := ifp c5 h
    obtain rfl := Option.some.inj h
    exact g_sub [0] rfl (show G X B 4 Z Q 37 [(0, .ref (x0))] [] T M from hE)
  · replace h := ifn c5 h
    refine g_aload_n (pc := 26) C dX12_goesFor_26 rfl 0 rfl ?_
    refine g_iload_n (pc := 27) C dX12_goesFor_27 rfl 2 rfl ?_
    replace h := gd_some h; obtain ⟨hk6, h⟩ := h
    replace h := bnd2 h; obtain ⟨_u, M7, h1, h⟩ := h
    refine g_callVv (pc := 28) (As := [.int (x2)]) (st := []) C dX12_goesFor_28 wX12_goesTick hk6 rfl (by decide) q_1631 q_98 q_1629 (by omega) rfl (Nat.le_of_ble_eq_true rfl) (kX12_goesTick (d := 5) (Nat.le_refl _) h1) ?_
    obtain ⟨v8, ev8⟩ : ∃ y : Int32, y = x3 + (1 : Int32) := ⟨_, rfl⟩
    replace h := lt_at ev8 h
    refine g_iinc (pc := 31) (v := v8) (k := 3) (lo2 := [(3, .int (v8)), (0, .ref (x0)), (1, .int (x1)), (2, .int (x2))]) C dX12_goesFor_31 rfl (by rw [ev8]; rfl) (by decide) rfl ?_
    refine g_goto (pc := 34) (tgt := 21) C dX12_goesFor_34 (by decide) ?_
    obtain rfl := Option.some.inj h
    exact g_sub [1, 2, 3, 0] rfl (show G X B 4 Z Q 21 [(0, .ref (x0)), (1, .int (x1)), (2, .int (x2)), (3, .int (v8))] [] T M7 from hE)
/-- EyeTrainerModel.goesFor(IZ)I -/
def fX12_goesFor (T : Sh) (M : Me) (x0 : Nat) (x1 : Int32) (x2 : Int32) : Option (Int32 × Me) :=
  Option.bind (fX12_within (Int32.toInt64 x1) (1 : Int64) (99 : Int64)) fun r1 => if r1 = 0 then (some ((-3 : Int32), M)) else (gd (kd T x0 = 11) <| Option.bind (fX12_stores T M x0) <| un2 fun _u M4 => (lp FU (fun s => bX12_goesFor_21 T x0 x1 x2 s.1 s.2) ((0 : Int32), M4)).bind (fun M9 => Option.bind (fX12_notes T M9 x0) <| un2 fun _u M10 => Option.bind (fX12_passedNow T M10 x0) <| un2 fun r11 M12 => Option.bind (fX12_bitsOf r11) fun r13 => some (r13, M12)))
set_option maxHeartbeats 4000000 in
theorem kX12_goesFor {l : Launch} {B : Bx} {d : Nat} (hd : 6 ≤ d) {T : Sh} {M : Me} {x0 : Nat} {x1 : Int32} {x2 : Int32} {r : Int32} {M' : Me} (h : fX12_goesFor T M x0 x1 x2 = some (r, M')) : Kt l B yX12_goesFor cX12_goesFor 4 (some .int) d [.ref (x0), .int (x1), .int (x2)] T M (some (.int r)) T M' := by
  refine kt_of wX12_goesFor (Nat.le_refl _) (Nat.le_refl _) (Nat.le_of_ble_eq_true rfl) (fun X C hR hlx hin => ?_)
  subst hlx
  replace C : Cx X B cX12_goesFor 4 RX12 d (tp T, sl T, tp T, sl T) := C
  unfold fX12_goesFor at h
  show G X B 4 _ _ 0 [(0, .ref (x0)), (1, .int (x1)), (2, .int (x2))] [] T M
  refine g_iload_n (pc := 0) C dX12_goesFor_0 rfl 1 rfl ?_
  refine g_i2l (pc := 1) C dX12_goesFor_1 ?_
  refine g_lconst (pc := 2) (v := 1) C dX12_goesFor_2 rfl ?_
  refine g_ldc2 (pc := 3) C dX12_goesFor_3 q_1628 ?_
  replace h := bnd h; obtain ⟨r1, h1, h⟩ := h
  refine g_callSi (pc := 6) (As := [.long (Int32.toInt64 x1), .long ((1 : Int64)), .long ((99 : Int64))]) (st := []) C dX12_goesFor_6 wX12_within q_1367 q_1366 (by omega) rfl (Nat.le_of_ble_eq_true rfl) (kX12_within (d := 0) (Nat.le_refl _) h1) ?_
  refine g_if_ne (pc := 9) (tgt := 15) C dX12_goesFor_9 (by decide) (fun c2 => ?_) (fun c2 => ?_)
  · replace h := ifn c2 h
    refine g_aload_n (pc := 15) C dX12_goesFor_15 rfl 0 rfl ?_
    replace h := gd_some h; obtain ⟨hk3, h⟩ := h
    replace h := bnd2 h; obtain ⟨_u, M4, h1, h⟩ := h
    refine g_callVv (pc := 16) (As := []) (st := []) C dX12_goesFor_16 wX12_stores hk3 rfl (by decide) q_1560 q_85 q_1558 (by omega) rfl (Nat.le_of_ble_eq_true rfl) (kX12_stores (d := 0) (Nat.le_refl _) h1) ?_
    refine g_iconst (pc := 19) (v := 0) C dX12_goesFor_19 (by decide) ?_
    refine g_istore_n (pc := 20) (lo2 := [(3, .int ((0 : Int32))), (0, .ref (x0)), (1, .int (x1)), (2, .int (x2))]) C dX12_goesFor_20 rfl (by decide) rfl ?_
    replace h := bnd h; obtain ⟨M9, h1, h⟩ := h
    refine g_sub [1, 2, 3, 0] rfl ?_
    refine lp_G2 (P := PX12_goesFor_21 X B _ _ T x0 x1 x2) (E := EX12_goesFor_21 X B _ _ T x0 x1 x2) (tbX12_goesFor_21 C hd) h1 ?_
    show G X B 4 _ _ 37 [(0, .ref (x0))] [] T M9
    refine g_aload_n (pc := 37) C dX12_goesFor_37 rfl 0 rfl ?_
    replace h := bnd2 h; obtain ⟨_u, M10, h1, h⟩ := h
    refine g_callVv (pc := 38) (As := []) (st := []) C dX12_goesFor_38 wX12_notes hk3 rfl (by decide) q_1564 q_86 q_1562 (by omega) rfl (Nat.le_of_ble_eq_true rfl) (kX12_notes (d := 0) (Nat.le_refl _) h1) ?_
    refine g_aload_n (pc := 41) C dX12_goesFor_41 rfl 0 rfl ?_
    replace h := bnd2 h; obtain ⟨r11, M12, h1, h⟩ := h
    refine g_callVi (pc := 42) (As := []) (st := []) C dX12_goesFor_42 wX12_passedNow hk3 rfl (by decide) q_1639 q_100 q_1637 (by omega) rfl (Nat.le_of_ble_eq_true rfl) (kX12_passedNow (d := 4) (Nat.le_refl _) h1) ?_
    replace h := bnd h; obtain ⟨r13, h1, h⟩ := h
    refine g_callSi (pc := 45) (As := [.int (r11)]) (st := []) C dX12_goesFor_45 wX12_bitsOf q_1591 q_1590 (by omega) rfl (Nat.le_of_ble_eq_true rfl) (kX12_bitsOf (d := 0) (Nat.le_refl _) h1) ?_
    obtain ⟨rfl, rfl⟩ := Prod.mk.inj (Option.some.inj h)
    exact g_iret C hR dX12_goesFor_48
  · replace h := ifp c2 h
    refine g_bipush (pc := 12) (v := (-3)) C dX12_goesFor_12 (by decide) ?_
    obtain ⟨rfl, rfl⟩ := Prod.mk.inj (Option.some.inj h)
    exact g_iret C hR dX12_goesFor_14
theorem dX12_ticks_0 : decode cX12_ticks 0 = .ok (.aload_n 0, 1) := by decide +kernel
theorem dX12_ticks_1 : decode cX12_ticks 1 = .ok (.iconst 0, 1) := by decide +kernel
theorem dX12_ticks_2 : decode cX12_ticks 2 = .ok (.putfield 1, 3) := by decide +kernel
theorem dX12_ticks_5 : decode cX12_ticks 5 = .ok (.aload_n 0, 1) := by decide +kernel
theorem dX12_ticks_6 : decode cX12_ticks 6 = .ok (.iload_n 1, 1) := by decide +kernel
theorem dX12_ticks_7 : decode cX12_ticks 7 = .ok (.iconst 0, 1) := by decide +kernel
theorem dX12_ticks_8 : decode cX12_ticks 8 = .ok (.invokevirtual 352, 3) := by decide +kernel
theorem dX12_ticks_11 : decode cX12_ticks 11 = .ok (.ireturn, 1) := by decide +kernel
theorem wX12_ticks : Mw yX12_ticks cX12_ticks 2 (some .int) 1 := ⟨q_1623, q_130, by decide, ⟨by decide +kernel, by decide +kernel⟩, by decide +kernel, by decide +kernel⟩
/-- EyeTrainerModel.ticks(I)I -/
def fX12_ticks (T : Sh) (M : Me) (x0 : Nat) (x1 : Int32) : Option (Int32 × Me) :=
  gd (kd T x0 = 11) <| lt (pI M x0 0 (0 : Int32)) fun M2 => Option.bind (fX12_goesFor T M2 x0 x1 (0 : Int32)) <| un2 fun r3 M4 => some (r3, M4)
set_option maxHeartbeats 4000000 in
theorem kX12_ticks {l : Launch} {B : Bx} {d : Nat} (hd : 7 ≤ d) {T : Sh} {M : Me} {x0 : Nat} {x1 : Int32} {r : Int32} {M' : Me} (h : fX12_ticks T M x0 x1 = some (r, M')) : Kt l B yX12_ticks cX12_ticks 2 (some .int) d [.ref (x0), .int (x1)] T M (some (.int r)) T M' := by
  refine kt_of wX12_ticks (Nat.le_refl _) (Nat.le_refl _) (Nat.le_of_ble_eq_true rfl) (fun X C hR hlx hin => ?_)
  subst hlx
  replace C : Cx X B cX12_ticks 2 RX12 d (tp T, sl T, tp T, sl T) := C
  unfold fX12_ticks at h
  show G X B 2 _ _ 0 [(0, .ref (x0)), (1, .int (x1))] [] T M
  refine g_aload_n (pc := 0) C dX12_ticks_0 rfl 0 rfl ?_
  refine g_iconst (pc := 1) (v := 0) C dX12_ticks_1 (by decide) ?_
  replace h := gd_some h; obtain ⟨hk1, h⟩ := h
  refine g_putI (pc := 2) C dX12_ticks_2 kX12 hk1 0 (by decide) rfl rfl rfl q_1227 ?_
  refine g_mem (fun M2 eM2 => ?_)
  replace h := lt_at eM2 h
  refine g_aload_n (pc := 5) C dX12_ticks_5 rfl 0 rfl ?_
  refine g_iload_n (pc := 6) C dX12_ticks_6 rfl 1 rfl ?_
  refine g_iconst (pc := 7) (v := 0) C dX12_ticks_7 (by decide) ?_
  replace h := bnd2 h; obtain ⟨r3, M4, h1, h⟩ := h
  refine g_callVi (pc := 8) (As := [.int (x1), .int ((0 : Int32))]) (st := []) C dX12_ticks_8 wX12_goesFor hk1 rfl (by decide) q_1626 q_97 q_1624 (by omega) rfl (Nat.le_of_ble_eq_true rfl) (kX12_goesFor (d := 6) (Nat.le_refl _) h1) ?_
  obtain ⟨rfl, rfl⟩ := Prod.mk.inj (Option.some.inj h)
  exact g_iret C hR dX12_ticks_11
theorem dX12_follow_0 : decode cX12_follow 0 = .ok (.aload_n 0, 1) := by decide +kernel
theorem dX12_follow_1 : decode cX12_follow 1 = .ok (.iconst 0, 1) := by decide +kernel
theorem dX12_follow_2 : decode cX12_follow 2 = .ok (.putfield 1, 3) := by decide +kernel
theorem dX12_follow_5 : decode cX12_follow 5 = .ok (.aload_n 0, 1) := by decide +kernel
theorem dX12_follow_6 : decode cX12_follow 6 = .ok (.iload_n 1, 1) := by decide +kernel
theorem dX12_follow_7 : decode cX12_follow 7 = .ok (.iconst 1, 1) := by decide +kernel
theorem dX12_follow_8 : decode cX12_follow 8 = .ok (.invokevirtual 352, 3) := by decide +kernel
theorem dX12_follow_11 : decode cX12_follow 11 = .ok (.ireturn, 1) := by decide +kernel
theorem wX12_follow : Mw yX12_follow cX12_follow 2 (some .int) 1 := ⟨q_1644, q_130, by decide, ⟨by decide +kernel, by decide +kernel⟩, by decide +kernel, by decide +kernel⟩
/-- EyeTrainerModel.follow(I)I -/
def fX12_follow (T : Sh) (M : Me) (x0 : Nat) (x1 : Int32) : Option (Int32 × Me) :=
  gd (kd T x0 = 11) <| lt (pI M x0 0 (0 : Int32)) fun M2 => Option.bind (fX12_goesFor T M2 x0 x1 (1 : Int32)) <| un2 fun r3 M4 => some (r3, M4)
set_option maxHeartbeats 4000000 in
theorem kX12_follow {l : Launch} {B : Bx} {d : Nat} (hd : 7 ≤ d) {T : Sh} {M : Me} {x0 : Nat} {x1 : Int32} {r : Int32} {M' : Me} (h : fX12_follow T M x0 x1 = some (r, M')) : Kt l B yX12_follow cX12_follow 2 (some .int) d [.ref (x0), .int (x1)] T M (some (.int r)) T M' := by
  refine kt_of wX12_follow (Nat.le_refl _) (Nat.le_refl _) (Nat.le_of_ble_eq_true rfl) (fun X C hR hlx hin => ?_)
  subst hlx
  replace C : Cx X B cX12_follow 2 RX12 d (tp T, sl T, tp T, sl T) := C
  unfold fX12_follow at h
  show G X B 2 _ _ 0 [(0, .ref (x0)), (1, .int (x1))] [] T M
  refine g_aload_n (pc := 0) C dX12_follow_0 rfl 0 rfl ?_
  refine g_iconst (pc := 1) (v := 0) C dX12_follow_1 (by decide) ?_
  replace h := gd_some h; obtain ⟨hk1, h⟩ := h
  refine g_putI (pc := 2) C dX12_follow_2 kX12 hk1 0 (by decide) rfl rfl rfl q_1227 ?_
  refine g_mem (fun M2 eM2 => ?_)
  replace h := lt_at eM2 h
  refine g_aload_n (pc := 5) C dX12_follow_5 rfl 0 rfl ?_
  refine g_iload_n (pc := 6) C dX12_follow_6 rfl 1 rfl ?_
  refine g_iconst (pc := 7) (v := 1) C dX12_follow_7 (by decide) ?_
  replace h := bnd2 h; obtain ⟨r3, M4, h1, h⟩ := h
  refine g_callVi (pc := 8) (As := [.int (x1), .int ((1 : Int32))]) (st := []) C dX12_follow_8 wX12_goesFor hk1 rfl (by decide) q_1626 q_97 q_1624 (by omega) rfl (Nat.le_of_ble_eq_true rfl) (kX12_goesFor (d := 6) (Nat.le_refl _) h1) ?_
  obtain ⟨rfl, rfl⟩ := Prod.mk.inj (Option.some.inj h)
  exact g_iret C hR dX12_follow_11
theorem dX12_pattern_0 : decode cX12_pattern 0 = .ok (.aload_n 0, 1) := by decide +kernel
theorem dX12_pattern_1 : decode cX12_pattern 1 = .ok (.iconst 0, 1) := by decide +kernel
theorem dX12_pattern_2 : decode cX12_pattern 2 = .ok (.putfield 1, 3) := by decide +kernel
theorem dX12_pattern_5 : decode cX12_pattern 5 = .ok (.iload_n 1, 1) := by decide +kernel
theorem dX12_pattern_6 : decode cX12_pattern 6 = .ok (.i2l, 1) := by decide +kernel
theorem dX12_pattern_7 : decode cX12_pattern 7 = .ok (.ldc2_w 356, 3) := by decide +kernel
theorem dX12_pattern_10 : decode cX12_pattern 10 = .ok (.aload_n 0, 1) := by decide +kernel
theorem dX12_pattern_11 : decode cX12_pattern 11 = .ok (.getfield 13, 3) := by decide +kernel
theorem dX12_pattern_14 : decode cX12_pattern 14 = .ok (.iconst 4, 1) := by decide +kernel
theorem dX12_pattern_15 : decode cX12_pattern 15 = .ok (.iaload, 1) := by decide +kernel
theorem dX12_pattern_16 : decode cX12_pattern 16 = .ok (.iconst 1, 1) := by decide +kernel
theorem dX12_pattern_17 : decode cX12_pattern 17 = .ok (.isub, 1) := by decide +kernel
theorem dX12_pattern_18 : decode cX12_pattern 18 = .ok (.i2l, 1) := by decide +kernel
theorem dX12_pattern_19 : decode cX12_pattern 19 = .ok (.invokestatic 139, 3) := by decide +kernel
theorem dX12_pattern_22 : decode cX12_pattern 22 = .ok (.ifCond .ne 6, 3) := by decide +kernel
theorem dX12_pattern_25 : decode cX12_pattern 25 = .ok (.bipush (-11), 2) := by decide +kernel
theorem dX12_pattern_27 : decode cX12_pattern 27 = .ok (.ireturn, 1) := by decide +kernel
theorem dX12_pattern_28 : decode cX12_pattern 28 = .ok (.aload_n 0, 1) := by decide +kernel
theorem dX12_pattern_29 : decode cX12_pattern 29 = .ok (.invokevirtual 333, 3) := by decide +kernel
theorem dX12_pattern_32 : decode cX12_pattern 32 = .ok (.aload_n 0, 1) := by decide +kernel
theorem dX12_pattern_33 : decode cX12_pattern 33 = .ok (.getfield 13, 3) := by decide +kernel
theorem dX12_pattern_36 : decode cX12_pattern 36 = .ok (.bipush 49, 2) := by decide +kernel
theorem dX12_pattern_38 : decode cX12_pattern 38 = .ok (.iload_n 1, 1) := by decide +kernel
theorem dX12_pattern_39 : decode cX12_pattern 39 = .ok (.iastore, 1) := by decide +kernel
theorem dX12_pattern_40 : decode cX12_pattern 40 = .ok (.aload_n 0, 1) := by decide +kernel
theorem dX12_pattern_41 : decode cX12_pattern 41 = .ok (.invokevirtual 336, 3) := by decide +kernel
theorem dX12_pattern_44 : decode cX12_pattern 44 = .ok (.aload_n 0, 1) := by decide +kernel
theorem dX12_pattern_45 : decode cX12_pattern 45 = .ok (.getfield 39, 3) := by decide +kernel
theorem dX12_pattern_48 : decode cX12_pattern 48 = .ok (.bipush 7, 2) := by decide +kernel
theorem dX12_pattern_50 : decode cX12_pattern 50 = .ok (.iaload, 1) := by decide +kernel
theorem dX12_pattern_51 : decode cX12_pattern 51 = .ok (.ireturn, 1) := by decide +kernel
theorem wX12_pattern : Mw yX12_pattern cX12_pattern 2 (some .int) 1 := ⟨q_1648, q_130, by decide, ⟨by decide +kernel, by decide +kernel⟩, by decide +kernel, by decide +kernel⟩
/-- EyeTrainerModel.pattern(I)I -/
def fX12_pattern (T : Sh) (M : Me) (x0 : Nat) (x1 : Int32) : Option (Int32 × Me) :=
  gd (kd T x0 = 11) <| lt (pI M x0 0 (0 : Int32)) fun M2 => Option.bind (gR M2 x0 1) fun a3 => gd (kd T a3 = 13) <| gv (4 : Int32) (ln T a3) <| Option.bind (fX12_within (Int32.toInt64 x1) (-1 : Int64) (Int32.toInt64 ((gI M2 a3 (Int32.toNatClampNeg (4 : Int32))) - (1 : Int32)))) fun r6 => if r6 = 0 then (some ((-11 : Int32), M2)) else (Option.bind (fX12_stores T M2 x0) <| un2 fun _u M8 => Option.bind (gR M8 x0 1) fun a9 => gd (kd T a9 = 13) <| gv (49 : Int32) (ln T a9) <| lt (pI M8 a9 (Int32.toNatClampNeg (49 : Int32)) x1) fun M12 => Option.bind (fX12_notes T M12 x0) <| un2 fun _u M13 => Option.bind (gR M13 x0 29) fun a14 => gd (kd T a14 = 13) <| gv (7 : Int32) (ln T a14) <| some ((gI M13 a14 (Int32.toNatClampNeg (7 : Int32))), M13))
set_option maxHeartbeats 4000000 in
theorem kX12_pattern {l : Launch} {B : Bx} {d : Nat} (hd : 1 ≤ d) {T : Sh} {M : Me} {x0 : Nat} {x1 : Int32} {r : Int32} {M' : Me} (h : fX12_pattern T M x0 x1 = some (r, M')) : Kt l B yX12_pattern cX12_pattern 2 (some .int) d [.ref (x0), .int (x1)] T M (some (.int r)) T M' := by
  refine kt_of wX12_pattern (Nat.le_refl _) (Nat.le_refl _) (Nat.le_of_ble_eq_true rfl) (fun X C hR hlx hin => ?_)
  subst hlx
  replace C : Cx X B cX12_pattern 2 RX12 d (tp T, sl T, tp T, sl T) := C
  unfold fX12_pattern at h
  show G X B 2 _ _ 0 [(0, .ref (x0)), (1, .int (x1))] [] T M
  refine g_aload_n (pc := 0) C dX12_pattern_0 rfl 0 rfl ?_
  refine g_iconst (pc := 1) (v := 0) C dX12_pattern_1 (by decide) ?_
  replace h := gd_some h; obtain ⟨hk1, h⟩ := h
  refine g_putI (pc := 2) C dX12_pattern_2 kX12 hk1 0 (by decide) rfl rfl rfl q_1227 ?_
  refine g_mem (fun M2 eM2 => ?_)
  replace h := lt_at eM2 h
  refine g_iload_n (pc := 5) C dX12_pattern_5 rfl 1 rfl ?_
  refine g_i2l (pc := 6) C dX12_pattern_6 ?_
  refine g_ldc2 (pc := 7) C dX12_pattern_7 q_1649 ?_
  refine g_aload_n (pc := 10) C dX12_pattern_10 rfl 0 rfl ?_
  refine g_get (pc := 11) (v := va_rf (gR M2 x0 1)) C dX12_pattern_11 kX12 hk1 1 (by decide) q_1228 rfl ?_
  replace h := bnd h; obtain ⟨a3, ea3, h⟩ := h
  refine g_refq ea3 ?_
  refine g_iconst (pc := 14) (v := 4) C dX12_pattern_14 (by decide) ?_
  replace h := gd_some h; obtain ⟨hk4, h⟩ := h
  replace h := gv_some h; obtain ⟨hi5, h⟩ := h
  refine g_iald (pc := 15) C dX12_pattern_15 hk4 hi5 ?_
  refine g_iconst (pc := 16) (v := 1) C dX12_pattern_16 (by decide) ?_
  refine g_isub (pc := 17) C dX12_pattern_17 ?_
  refine g_i2l (pc := 18) C dX12_pattern_18 ?_
  replace h := bnd h; obtain ⟨r6, h1, h⟩ := h
  refine g_callSi (pc := 19) (As := [.long (Int32.toInt64 x1), .long ((-1 : Int64)), .long (Int32.toInt64 ((gI M2 a3 (Int32.toNatClampNeg (4 : Int32))) - (1 : Int32)))]) (st := []) C dX12_pattern_19 wX12_within q_1367 q_1366 (by omega) rfl (Nat.le_of_ble_eq_true rfl) (kX12_within (d := 0) (Nat.le_refl _) h1) ?_
  refine g_if_ne (pc := 22) (tgt := 28) C dX12_pattern_22 (by decide) (fun c7 => ?_) (fun c7 => ?_)
  · replace h := ifn c7 h
    refine g_aload_n (pc := 28) C dX12_pattern_28 rfl 0 rfl ?_
    replace h := bnd2 h; obtain ⟨_u, M8, h1, h⟩ := h
    refine g_callVv (pc := 29) (As := []) (st := []) C dX12_pattern_29 wX12_stores hk1 rfl (by decide) q_1560 q_85 q_1558 (by omega) rfl (Nat.le_of_ble_eq_true rfl) (kX12_stores (d := 0) (Nat.le_refl _) h1) ?_
    refine g_aload_n (pc := 32) C dX12_pattern_32 rfl 0 rfl ?_
    refine g_get (pc := 33) (v := va_rf (gR M8 x0 1)) C dX12_pattern_33 kX12 hk1 1 (by decide) q_1228 rfl ?_
    replace h := bnd h; obtain ⟨a9, ea9, h⟩ := h
    refine g_refq ea9 ?_
    refine g_bipush (pc := 36) (v := 49) C dX12_pattern_36 (by decide) ?_
    refine g_iload_n (pc := 38) C dX12_pattern_38 rfl 1 rfl ?_
    replace h := gd_some h; obtain ⟨hk10, h⟩ := h
    replace h := gv_some h; obtain ⟨hi11, h⟩ := h
    refine g_iast (pc := 39) C dX12_pattern_39 hk10 hi11 ?_
    refine g_mem (fun M12 eM12 => ?_)
    replace h := lt_at eM12 h
    refine g_aload_n (pc := 40) C dX12_pattern_40 rfl 0 rfl ?_
    replace h := bnd2 h; obtain ⟨_u, M13, h1, h⟩ := h
    refine g_callVv (pc := 41) (As := []) (st := []) C dX12_pattern_41 wX12_notes hk1 rfl (by decide) q_1564 q_86 q_1562 (by omega) rfl (Nat.le_of_ble_eq_true rfl) (kX12_notes (d := 0) (Nat.le_refl _) h1) ?_
    refine g_aload_n (pc := 44) C dX12_pattern_44 rfl 0 rfl ?_
    refine g_get (pc := 45) (v := va_rf (gR M13 x0 29)) C dX12_pattern_45 kX12 hk1 29 (by decide) q_1256 rfl ?_
    replace h := bnd h; obtain ⟨a14, ea14, h⟩ := h
    refine g_refq ea14 ?_
    refine g_bipush (pc := 48) (v := 7) C dX12_pattern_48 (by decide) ?_
    replace h := gd_some h; obtain ⟨hk15, h⟩ := h
    replace h := gv_some h; obtain ⟨hi16, h⟩ := h
    refine g_iald (pc := 50) C dX12_pattern_50 hk15 hi16 ?_
    obtain ⟨rfl, rfl⟩ := Prod.mk.inj (Option.some.inj h)
    exact g_iret C hR dX12_pattern_51
  · replace h := ifp c7 h
    refine g_bipush (pc := 25) (v := (-11)) C dX12_pattern_25 (by decide) ?_
    obtain ⟨rfl, rfl⟩ := Prod.mk.inj (Option.some.inj h)
    exact g_iret C hR dX12_pattern_27
theorem dX12_undo_0 : decode cX12_undo 0 = .ok (.aload_n 0, 1) := by decide +kernel
theorem dX12_undo_1 : decode cX12_undo 1 = .ok (.iconst 0, 1) := by decide +kernel
theorem dX12_undo_2 : decode cX12_undo 2 = .ok (.putfield 1, 3) := by decide +kernel
theorem dX12_undo_5 : decode cX12_undo 5 = .ok (.iload_n 1, 1) := by decide +kernel
theorem dX12_undo_6 : decode cX12_undo 6 = .ok (.i2l, 1) := by decide +kernel
theorem dX12_undo_7 : decode cX12_undo 7 = .ok (.lconst 1, 1) := by decide +kernel
theorem dX12_undo_8 : decode cX12_undo 8 = .ok (.ldc2_w 358, 3) := by decide +kernel
theorem dX12_undo_11 : decode cX12_undo 11 = .ok (.invokestatic 139, 3) := by decide +kernel
theorem dX12_undo_14 : decode cX12_undo 14 = .ok (.ifCond .eq 14, 3) := by decide +kernel
theorem dX12_undo_17 : decode cX12_undo 17 = .ok (.iload_n 1, 1) := by decide +kernel
theorem dX12_undo_18 : decode cX12_undo 18 = .ok (.aload_n 0, 1) := by decide +kernel
theorem dX12_undo_19 : decode cX12_undo 19 = .ok (.getfield 13, 3) := by decide +kernel
theorem dX12_undo_22 : decode cX12_undo 22 = .ok (.bipush 50, 2) := by decide +kernel
theorem dX12_undo_24 : decode cX12_undo 24 = .ok (.iaload, 1) := by decide +kernel
theorem dX12_undo_25 : decode cX12_undo 25 = .ok (.if_icmp .le 6, 3) := by decide +kernel
theorem dX12_undo_28 : decode cX12_undo 28 = .ok (.bipush (-3), 2) := by decide +kernel
theorem dX12_undo_30 : decode cX12_undo 30 = .ok (.ireturn, 1) := by decide +kernel
theorem dX12_undo_31 : decode cX12_undo 31 = .ok (.aload_n 0, 1) := by decide +kernel
theorem dX12_undo_32 : decode cX12_undo 32 = .ok (.getfield 13, 3) := by decide +kernel
theorem dX12_undo_35 : decode cX12_undo 35 = .ok (.bipush 50, 2) := by decide +kernel
theorem dX12_undo_37 : decode cX12_undo 37 = .ok (.dup2, 1) := by decide +kernel
theorem dX12_undo_38 : decode cX12_undo 38 = .ok (.iaload, 1) := by decide +kernel
theorem dX12_undo_39 : decode cX12_undo 39 = .ok (.iload_n 1, 1) := by decide +kernel
theorem dX12_undo_40 : decode cX12_undo 40 = .ok (.isub, 1) := by decide +kernel
theorem dX12_undo_41 : decode cX12_undo 41 = .ok (.iastore, 1) := by decide +kernel
theorem dX12_undo_42 : decode cX12_undo 42 = .ok (.iconst 0, 1) := by decide +kernel
theorem dX12_undo_43 : decode cX12_undo 43 = .ok (.istore_n 2, 1) := by decide +kernel
theorem dX12_undo_44 : decode cX12_undo 44 = .ok (.iload_n 2, 1) := by decide +kernel
theorem dX12_undo_45 : decode cX12_undo 45 = .ok (.bipush 8, 2) := by decide +kernel
theorem dX12_undo_47 : decode cX12_undo 47 = .ok (.if_icmp .ge 38, 3) := by decide +kernel
theorem dX12_undo_50 : decode cX12_undo 50 = .ok (.aload_n 0, 1) := by decide +kernel
theorem dX12_undo_51 : decode cX12_undo 51 = .ok (.getfield 13, 3) := by decide +kernel
theorem dX12_undo_54 : decode cX12_undo 54 = .ok (.bipush 42, 2) := by decide +kernel
theorem dX12_undo_56 : decode cX12_undo 56 = .ok (.iload_n 2, 1) := by decide +kernel
theorem dX12_undo_57 : decode cX12_undo 57 = .ok (.iadd, 1) := by decide +kernel
theorem dX12_undo_58 : decode cX12_undo 58 = .ok (.aload_n 0, 1) := by decide +kernel
theorem dX12_undo_59 : decode cX12_undo 59 = .ok (.getfield 13, 3) := by decide +kernel
theorem dX12_undo_62 : decode cX12_undo 62 = .ok (.bipush 51, 2) := by decide +kernel
theorem dX12_undo_64 : decode cX12_undo 64 = .ok (.bipush 8, 2) := by decide +kernel
theorem dX12_undo_66 : decode cX12_undo 66 = .ok (.aload_n 0, 1) := by decide +kernel
theorem dX12_undo_67 : decode cX12_undo 67 = .ok (.getfield 13, 3) := by decide +kernel
theorem dX12_undo_70 : decode cX12_undo 70 = .ok (.bipush 50, 2) := by decide +kernel
theorem dX12_undo_72 : decode cX12_undo 72 = .ok (.iaload, 1) := by decide +kernel
theorem dX12_undo_73 : decode cX12_undo 73 = .ok (.imul, 1) := by decide +kernel
theorem dX12_undo_74 : decode cX12_undo 74 = .ok (.iadd, 1) := by decide +kernel
theorem dX12_undo_75 : decode cX12_undo 75 = .ok (.iload_n 2, 1) := by decide +kernel
theorem dX12_undo_76 : decode cX12_undo 76 = .ok (.iadd, 1) := by decide +kernel
theorem dX12_undo_77 : decode cX12_undo 77 = .ok (.iaload, 1) := by decide +kernel
theorem dX12_undo_78 : decode cX12_undo 78 = .ok (.iastore, 1) := by decide +kernel
theorem dX12_undo_79 : decode cX12_undo 79 = .ok (.iinc 2 1, 3) := by decide +kernel
theorem dX12_undo_82 : decode cX12_undo 82 = .ok (.goto (-38), 3) := by decide +kernel
theorem dX12_undo_85 : decode cX12_undo 85 = .ok (.aload_n 0, 1) := by decide +kernel
theorem dX12_undo_86 : decode cX12_undo 86 = .ok (.getfield 13, 3) := by decide +kernel
theorem dX12_undo_89 : decode cX12_undo 89 = .ok (.bipush 50, 2) := by decide +kernel
theorem dX12_undo_91 : decode cX12_undo 91 = .ok (.iaload, 1) := by decide +kernel
theorem dX12_undo_92 : decode cX12_undo 92 = .ok (.ireturn, 1) := by decide +kernel
theorem wX12_undo : Mw yX12_undo cX12_undo 3 (some .int) 1 := ⟨q_1653, q_130, by decide, ⟨by decide +kernel, by decide +kernel⟩, by decide +kernel, by decide +kernel⟩
-- a loop of EyeTrainerModel.undo at 44
def bX12_undo_44 (T : Sh) (x0 : Nat) (x2 : Int32) (M : Me) : Option ((Int32 × Me) ⊕ (Me)) :=
  if (8 : Int32) ≤ x2 then (some (.inr M)) else (gd (kd T x0 = 11) <| Option.bind (gR M x0 1) fun a16 => Option.bind (gR M x0 1) fun a17 => Option.bind (gR M x0 1) fun a18 => gd (kd T a18 = 13) <| gv (50 : Int32) (ln T a18) <| gd (kd T a17 = 13) <| gv (((51 : Int32) + ((8 : Int32) * (gI M a18 (Int32.toNatClampNeg (50 : Int32))))) + x2) (ln T a17) <| gd (kd T a16 = 13) <| gv ((42 : Int32) + x2) (ln T a16) <| lt (pI M a16 (Int32.toNatClampNeg ((42 : Int32) + x2)) (gI M a17 (Int32.toNatClampNeg (((51 : Int32) + ((8 : Int32) * (gI M a18 (Int32.toNatClampNeg (50 : Int32))))) + x2)))) fun M25 => lt (x2 + (1 : Int32)) fun v26 => some (.inl (v26, M25)))
def PX12_undo_44 (X : Fx) (B : Bx) (Z : Nat × Nat × Nat × Nat) (Q : State → Prop) (T : Sh) (x0 : Nat) (s : Int32 × Me) : Prop := G X B 3 Z Q 44 [(0, .ref (x0)), (2, .int (s.1))] [] T s.2
def EX12_undo_44 (X : Fx) (B : Bx) (Z : Nat × Nat × Nat × Nat) (Q : State → Prop) (T : Sh) (x0 : Nat) (r : Me) : Prop := G X B 3 Z Q 85 [(0, .ref (x0))] [] T r
set_option maxHeartbeats 4000000 in
theorem tbX12_undo_44 {X : Fx} {B : Bx} {Z : Nat × Nat × Nat × Nat} {Q : State → Prop} {d : Nat} {T : Sh} (C : Cx X B cX12_undo 3 RX12 d Z) (hd : 1 ≤ d) {x0 : Nat} : ∀ (s : Int32 × Me) (o : (Int32 × Me) ⊕ (Me)), bX12_undo_44 T x0 s.1 s.2 = some o → lpE (PX12_undo_44 X B Z Q T x0) (EX12_undo_44 X B Z Q T x0) o → PX12_undo_44 X B Z Q T x0 s := by
  rintro ⟨x2, M⟩ o h hE
  replace h : bX12_undo_44 T x0 x2 M = some o := h
  unfold bX12_undo_44 at h
  show G X B 3 Z Q 44 [(0, .ref (x0)), (2, .int (x2))] [] T M
  refine g_iload_n (pc := 44) C dX12_undo_44 rfl 1 rfl ?_
  refine g_bipush (pc := 45) (v := 8) C dX12_undo_45 (by decide) ?_
  refine g_icmp_ge (pc := 47) (tgt := 85) C dX12_undo_47 (by decide) (fun c14 => ?_) (fun c14 => ?_)
  · replace h := ifp c14 h
    obtain rfl := Option.some.inj h
    exact g_sub [0] rfl (show G X B 3 Z Q 85 [(0, .ref (x0))] [] T M from hE)
  · replace h := ifn c14 h
    refine g_aload_n (pc := 50) C dX12_undo_50 rfl 0 rfl ?_
    replace h := gd_some h; obtain ⟨hk15, h⟩ := h
    refine g_get (pc := 51) (v := va_rf (gR M x0 1)) C dX12_undo_51 kX12 hk15 1 (by decide) q_1228 rfl ?_
    replace h := bnd h; obtain ⟨a16, ea16, h⟩ := h
    refine g_refq ea16 ?_
    refine g_bipush (pc := 54) (v := 42) C dX12_undo_54 (by decide) ?_
    refine g_iload_n (pc := 56) C dX12_undo_56 rfl 1 rfl ?_
    refine g_iadd (pc := 57) C dX12_undo_57 ?_
    refine g_aload_n (pc := 58) C dX12_undo_58 rfl 0 rfl ?_
    refine g_get (pc := 59) (v := va_rf (gR M x0 1)) C dX12_undo_59 kX12 hk15 1 (by decide) q_1228 rfl ?_
    replace h := bnd h; obtain ⟨a17, ea17, h⟩ := h
    refine g_refq ea17 ?_
    refine g_bipush (pc := 62) (v := 51) C dX12_undo_62 (by decide) ?_
    refine g_bipush (pc := 64) (v := 8) C dX12_undo_64 (by decide) ?_
    refine g_aload_n (pc := 66) C dX12_undo_66 rfl 0 rfl ?_
    refine g_get (pc := 67) (v := va_rf (gR M x0 1)) C dX12_undo_67 kX12 hk15 1 (by decide) q_1228 rfl ?_
    replace h := bnd h; obtain ⟨a18, ea18, h⟩ := h
    refine g_refq ea18 ?_
    refine g_bipush (pc := 70) (v := 50) C dX12_undo_70 (by decide) ?_
    replace h := gd_some h; obtain ⟨hk19, h⟩ := h
    replace h := gv_some h; obtain ⟨hi20, h⟩ := h
    refine g_iald (pc := 72) C dX12_undo_72 hk19 hi20 ?_
    refine g_imul (pc := 73) C dX12_undo_73 ?_
    refine g_iadd (pc := 74) C dX12_undo_74 ?_
    refine g_iload_n (pc := 75) C dX12_undo_75 rfl 1 rfl ?_
    refine g_iadd (pc := 76) C dX12_undo_76 ?_
    replace h := gd_some h; obtain ⟨hk21, h⟩ := h
    replace h := gv_some h; obtain ⟨hi22, h⟩ := h
    refine g_iald (pc := 77) C dX12_undo_77 hk21 hi22 ?_
    replace h := gd_some h; obtain ⟨hk23, h⟩ := h
    replace h := gv_some h; obtain ⟨hi24, h⟩ := h
    refine g_iast (pc := 78) C dX12_undo_78 hk23 hi24 ?_
    refine g_mem (fun M25 eM25 => ?_)
    replace h := lt_at eM25 h
    obtain ⟨v26, ev26⟩ : ∃ y : Int32, y = x2 + (1 : Int32) := ⟨_, rfl⟩
    replace h := lt_at ev26 h
    refine g_iinc (pc := 79) (v := v26) (k := 1) (lo2 := [(2, .int (v26)), (0, .ref (x0))]) C dX12_undo_79 rfl (by rw [ev26]; rfl) (by decide) rfl ?_
    refine g_goto (pc := 82) (tgt := 44) C dX12_undo_82 (by decide) ?_
    obtain rfl := Option.some.inj h
    exact g_sub [1, 0] rfl (show G X B 3 Z Q 44 [(0, .ref (x0)), (2, .int (v26))] [] T M25 from hE)
/-- EyeTrainerModel.undo(I)I -/
def fX12_undo (T : Sh) (M : Me) (x0 : Nat) (x1 : Int32) : Option (Int32 × Me) :=
  gd (kd T x0 = 11) <| lt (pI M x0 0 (0 : Int32)) fun M2 => Option.bind (fX12_within (Int32.toInt64 x1) (1 : Int64) (10 : Int64)) fun r3 => if r3 = 0 then (some ((-3 : Int32), M2)) else (Option.bind (gR M2 x0 1) fun a5 => gd (kd T a5 = 13) <| gv (50 : Int32) (ln T a5) <| if x1 ≤ (gI M2 a5 (Int32.toNatClampNeg (50 : Int32))) then (Option.bind (gR M2 x0 1) fun a9 => gd (kd T a9 = 13) <| gv (50 : Int32) (ln T a9) <| gv (50 : Int32) (ln T a9) <| lt (pI M2 a9 (Int32.toNatClampNeg (50 : Int32)) ((gI M2 a9 (Int32.toNatClampNeg (50 : Int32))) - x1)) fun M13 => (lp FU (fun s => bX12_undo_44 T x0 s.1 s.2) ((0 : Int32), M13)).bind (fun M27 => Option.bind (gR M27 x0 1) fun a28 => gd (kd T a28 = 13) <| gv (50 : Int32) (ln T a28) <| some ((gI M27 a28 (Int32.toNatClampNeg (50 : Int32))), M27))) else (some ((-3 : Int32), M2)))
set_option maxHeartbeats 4000000 in
theorem kX12_undo {l : Launch} {B : Bx} {d : Nat} (hd : 1 ≤ d) {T : Sh} {M : Me} {x0 : Nat} {x1 : Int32} {r : Int32} {M' : Me} (h : fX12_undo T M x0 x1 = some (r, M')) : Kt l B yX12_undo cX12_undo 3 (some .int) d [.ref (x0), .int (x1)] T M (some (.int r)) T M' := by
  refine kt_of wX12_undo (Nat.le_refl _) (Nat.le_refl _) (Nat.le_of_ble_eq_true rfl) (fun X C hR hlx hin => ?_)
  subst hlx
  replace C : Cx X B cX12_undo 3 RX12 d (tp T, sl T, tp T, sl T) := C
  unfold fX12_undo at h
  show G X B 3 _ _ 0 [(0, .ref (x0)), (1, .int (x1))] [] T M
  refine g_aload_n (pc := 0) C dX12_undo_0 rfl 0 rfl ?_
  refine g_iconst (pc := 1) (v := 0) C dX12_undo_1 (by decide) ?_
  replace h := gd_some h; obtain ⟨hk1, h⟩ := h
  refine g_putI (pc := 2) C dX12_undo_2 kX12 hk1 0 (by decide) rfl rfl rfl q_1227 ?_
  refine g_mem (fun M2 eM2 => ?_)
  replace h := lt_at eM2 h
  refine g_iload_n (pc := 5) C dX12_undo_5 rfl 1 rfl ?_
  refine g_i2l (pc := 6) C dX12_undo_6 ?_
  refine g_lconst (pc := 7) (v := 1) C dX12_undo_7 rfl ?_
  refine g_ldc2 (pc := 8) C dX12_undo_8 q_1654 ?_
  replace h := bnd h; obtain ⟨r3, h1, h⟩ := h
  refine g_callSi (pc := 11) (As := [.long (Int32.toInt64 x1), .long ((1 : Int64)), .long ((10 : Int64))]) (st := []) C dX12_undo_11 wX12_within q_1367 q_1366 (by omega) rfl (Nat.le_of_ble_eq_true rfl) (kX12_within (d := 0) (Nat.le_refl _) h1) ?_
  refine g_if_eq (pc := 14) (tgt := 28) C dX12_undo_14 (by decide) (fun c4 => ?_) (fun c4 => ?_)
  · replace h := ifp c4 h
    refine g_bipush (pc := 28) (v := (-3)) C dX12_undo_28 (by decide) ?_
    obtain ⟨rfl, rfl⟩ := Prod.mk.inj (Option.some.inj h)
    exact g_iret C hR dX12_undo_30
  · replace h := ifn c4 h
    refine g_iload_n (pc := 17) C dX12_undo_17 rfl 1 rfl ?_
    refine g_aload_n (pc := 18) C dX12_undo_18 rfl 0 rfl ?_
    refine g_get (pc := 19) (v := va_rf (gR M2 x0 1)) C dX12_undo_19 kX12 hk1 1 (by decide) q_1228 rfl ?_
    replace h := bnd h; obtain ⟨a5, ea5, h⟩ := h
    refine g_refq ea5 ?_
    refine g_bipush (pc := 22) (v := 50) C dX12_undo_22 (by decide) ?_
    replace h := gd_some h; obtain ⟨hk6, h⟩ := h
    replace h := gv_some h; obtain ⟨hi7, h⟩ := h
    refine g_iald (pc := 24) C dX12_undo_24 hk6 hi7 ?_
    refine g_icmp_le (pc := 25) (tgt := 31) C dX12_undo_25 (by decide) (fun c8 => ?_) (fun c8 => ?_)
    · replace h := ifp c8 h
      refine g_aload_n (pc := 31) C dX12_undo_31 rfl 0 rfl ?_
      refine g_get (pc := 32) (v := va_rf (gR M2 x0 1)) C dX12_undo_32 kX12 hk1 1 (by decide) q_1228 rfl ?_
      replace h := bnd h; obtain ⟨a9, ea9, h⟩ := h
      refine g_refq ea9 ?_
      refine g_bipush (pc := 35) (v := 50) C dX12_undo_35 (by decide) ?_
      refine g_dup2 (pc := 37) C dX12_undo_37 rfl rfl ?_
      replace h := gd_some h; obtain ⟨hk10, h⟩ := h
      replace h := gv_some h; obtain ⟨hi11, h⟩ := h
      refine g_iald (pc := 38) C dX12_undo_38 hk10 hi11 ?_
      refine g_iload_n (pc := 39) C dX12_undo_39 rfl 1 rfl ?_
      refine g_isub (pc := 40) C dX12_undo_40 ?_
      replace h := gv_some h; obtain ⟨hi12, h⟩ := h
      refine g_iast (pc := 41) C dX12_undo_41 hk10 hi12 ?_
      refine g_mem (fun M13 eM13 => ?_)
      replace h := lt_at eM13 h
      refine g_iconst (pc := 42) (v := 0) C dX12_undo_42 (by decide) ?_
      refine g_istore_n (pc := 43) (lo2 := [(2, .int ((0 : Int32))), (0, .ref (x0)), (1, .int (x1))]) C dX12_undo_43 rfl (by decide) rfl ?_
      replace h := bnd h; obtain ⟨M27, h1, h⟩ := h
      refine g_sub [1, 0] rfl ?_
      refine lp_G2 (P := PX12_undo_44 X B _ _ T x0) (E := EX12_undo_44 X B _ _ T x0) (tbX12_undo_44 C hd) h1 ?_
      show G X B 3 _ _ 85 [(0, .ref (x0))] [] T M27
      refine g_aload_n (pc := 85) C dX12_undo_85 rfl 0 rfl ?_
      refine g_get (pc := 86) (v := va_rf (gR M27 x0 1)) C dX12_undo_86 kX12 hk1 1 (by decide) q_1228 rfl ?_
      replace h := bnd h; obtain ⟨a28, ea28, h⟩ := h
      refine g_refq ea28 ?_
      refine g_bipush (pc := 89) (v := 50) C dX12_undo_89 (by decide) ?_
      replace h := gd_some h; obtain ⟨hk29, h⟩ := h
      replace h := gv_some h; obtain ⟨hi30, h⟩ := h
      refine g_iald (pc := 91) C dX12_undo_91 hk29 hi30 ?_
      obtain ⟨rfl, rfl⟩ := Prod.mk.inj (Option.some.inj h)
      exact g_iret C hR dX12_undo_92
    · replace h := ifn c8 h
      refine g_bipush (pc := 28) (v := (-3)) C dX12_undo_28 (by decide) ?_
      obtain ⟨rfl, rfl⟩ := Prod.mk.inj (Option.some.inj h)
      exact g_iret C hR dX12_undo_30
theorem dX12_whyNot_0 : decode cX12_whyNot 0 = .ok (.lload_n 1, 1) := by decide +kernel
theorem dX12_whyNot_1 : decode cX12_whyNot 1 = .ok (.lconst 0, 1) := by decide +kernel
theorem dX12_whyNot_2 : decode cX12_whyNot 2 = .ok (.lconst 1, 1) := by decide +kernel
theorem dX12_whyNot_3 : decode cX12_whyNot 3 = .ok (.invokestatic 139, 3) := by decide +kernel
theorem dX12_whyNot_6 : decode cX12_whyNot 6 = .ok (.ifCond .eq 5, 3) := by decide +kernel
theorem dX12_whyNot_9 : decode cX12_whyNot 9 = .ok (.iconst 0, 1) := by decide +kernel
theorem dX12_whyNot_10 : decode cX12_whyNot 10 = .ok (.ireturn, 1) := by decide +kernel
theorem dX12_whyNot_11 : decode cX12_whyNot 11 = .ok (.lload_n 1, 1) := by decide +kernel
theorem dX12_whyNot_12 : decode cX12_whyNot 12 = .ok (.ldc2_w 358, 3) := by decide +kernel
theorem dX12_whyNot_15 : decode cX12_whyNot 15 = .ok (.ldc2_w 360, 3) := by decide +kernel
theorem dX12_whyNot_18 : decode cX12_whyNot 18 = .ok (.invokestatic 139, 3) := by decide +kernel
theorem dX12_whyNot_21 : decode cX12_whyNot 21 = .ok (.ifCond .eq 32, 3) := by decide +kernel
theorem dX12_whyNot_24 : decode cX12_whyNot 24 = .ok (.lload_n 1, 1) := by decide +kernel
theorem dX12_whyNot_25 : decode cX12_whyNot 25 = .ok (.ldc2_w 362, 3) := by decide +kernel
theorem dX12_whyNot_28 : decode cX12_whyNot 28 = .ok (.lsub, 1) := by decide +kernel
theorem dX12_whyNot_29 : decode cX12_whyNot 29 = .ok (.ldc2_w 356, 3) := by decide +kernel
theorem dX12_whyNot_32 : decode cX12_whyNot 32 = .ok (.aload_n 0, 1) := by decide +kernel
theorem dX12_whyNot_33 : decode cX12_whyNot 33 = .ok (.getfield 13, 3) := by decide +kernel
theorem dX12_whyNot_36 : decode cX12_whyNot 36 = .ok (.iconst 4, 1) := by decide +kernel
theorem dX12_whyNot_37 : decode cX12_whyNot 37 = .ok (.iaload, 1) := by decide +kernel
theorem dX12_whyNot_38 : decode cX12_whyNot 38 = .ok (.iconst 1, 1) := by decide +kernel
theorem dX12_whyNot_39 : decode cX12_whyNot 39 = .ok (.isub, 1) := by decide +kernel
theorem dX12_whyNot_40 : decode cX12_whyNot 40 = .ok (.i2l, 1) := by decide +kernel
theorem dX12_whyNot_41 : decode cX12_whyNot 41 = .ok (.invokestatic 139, 3) := by decide +kernel
theorem dX12_whyNot_44 : decode cX12_whyNot 44 = .ok (.ifCond .eq 7, 3) := by decide +kernel
theorem dX12_whyNot_47 : decode cX12_whyNot 47 = .ok (.iconst 0, 1) := by decide +kernel
theorem dX12_whyNot_48 : decode cX12_whyNot 48 = .ok (.goto 4, 3) := by decide +kernel
theorem dX12_whyNot_51 : decode cX12_whyNot 51 = .ok (.iconst 1, 1) := by decide +kernel
theorem dX12_whyNot_52 : decode cX12_whyNot 52 = .ok (.ireturn, 1) := by decide +kernel
theorem dX12_whyNot_53 : decode cX12_whyNot 53 = .ok (.lload_n 1, 1) := by decide +kernel
theorem dX12_whyNot_54 : decode cX12_whyNot 54 = .ok (.ldc2_w 364, 3) := by decide +kernel
theorem dX12_whyNot_57 : decode cX12_whyNot 57 = .ok (.ldc2_w 366, 3) := by decide +kernel
theorem dX12_whyNot_60 : decode cX12_whyNot 60 = .ok (.invokestatic 139, 3) := by decide +kernel
theorem dX12_whyNot_63 : decode cX12_whyNot 63 = .ok (.ifCond .eq 22, 3) := by decide +kernel
theorem dX12_whyNot_66 : decode cX12_whyNot 66 = .ok (.aload_n 0, 1) := by decide +kernel
theorem dX12_whyNot_67 : decode cX12_whyNot 67 = .ok (.lload_n 1, 1) := by decide +kernel
theorem dX12_whyNot_68 : decode cX12_whyNot 68 = .ok (.ldc2_w 364, 3) := by decide +kernel
theorem dX12_whyNot_71 : decode cX12_whyNot 71 = .ok (.lsub, 1) := by decide +kernel
theorem dX12_whyNot_72 : decode cX12_whyNot 72 = .ok (.ldc2_w 358, 3) := by decide +kernel
theorem dX12_whyNot_75 : decode cX12_whyNot 75 = .ok (.ldiv, 1) := by decide +kernel
theorem dX12_whyNot_76 : decode cX12_whyNot 76 = .ok (.lload_n 1, 1) := by decide +kernel
theorem dX12_whyNot_77 : decode cX12_whyNot 77 = .ok (.ldc2_w 358, 3) := by decide +kernel
theorem dX12_whyNot_80 : decode cX12_whyNot 80 = .ok (.lrem, 1) := by decide +kernel
theorem dX12_whyNot_81 : decode cX12_whyNot 81 = .ok (.invokevirtual 339, 3) := by decide +kernel
theorem dX12_whyNot_84 : decode cX12_whyNot 84 = .ok (.ireturn, 1) := by decide +kernel
theorem dX12_whyNot_85 : decode cX12_whyNot 85 = .ok (.lload_n 1, 1) := by decide +kernel
theorem dX12_whyNot_86 : decode cX12_whyNot 86 = .ok (.ldc2_w 368, 3) := by decide +kernel
theorem dX12_whyNot_89 : decode cX12_whyNot 89 = .ok (.ldc2_w 370, 3) := by decide +kernel
theorem dX12_whyNot_92 : decode cX12_whyNot 92 = .ok (.invokestatic 139, 3) := by decide +kernel
theorem dX12_whyNot_95 : decode cX12_whyNot 95 = .ok (.ifCond .eq 34, 3) := by decide +kernel
theorem dX12_whyNot_98 : decode cX12_whyNot 98 = .ok (.aload_n 0, 1) := by decide +kernel
theorem dX12_whyNot_99 : decode cX12_whyNot 99 = .ok (.lload_n 1, 1) := by decide +kernel
theorem dX12_whyNot_100 : decode cX12_whyNot 100 = .ok (.ldc2_w 368, 3) := by decide +kernel
theorem dX12_whyNot_103 : decode cX12_whyNot 103 = .ok (.lsub, 1) := by decide +kernel
theorem dX12_whyNot_104 : decode cX12_whyNot 104 = .ok (.ldc2_w 372, 3) := by decide +kernel
theorem dX12_whyNot_107 : decode cX12_whyNot 107 = .ok (.ldiv, 1) := by decide +kernel
theorem dX12_whyNot_108 : decode cX12_whyNot 108 = .ok (.invokevirtual 247, 3) := by decide +kernel
theorem dX12_whyNot_111 : decode cX12_whyNot 111 = .ok (.ifCond .eq 18, 3) := by decide +kernel
theorem dX12_whyNot_114 : decode cX12_whyNot 114 = .ok (.lload_n 1, 1) := by decide +kernel
theorem dX12_whyNot_115 : decode cX12_whyNot 115 = .ok (.ldc2_w 372, 3) := by decide +kernel
theorem dX12_whyNot_118 : decode cX12_whyNot 118 = .ok (.lrem, 1) := by decide +kernel
theorem dX12_whyNot_119 : decode cX12_whyNot 119 = .ok (.invokestatic 263, 3) := by decide +kernel
theorem dX12_whyNot_122 : decode cX12_whyNot 122 = .ok (.ifCond .eq 7, 3) := by decide +kernel
theorem dX12_whyNot_125 : decode cX12_whyNot 125 = .ok (.iconst 0, 1) := by decide +kernel
theorem dX12_whyNot_126 : decode cX12_whyNot 126 = .ok (.goto 4, 3) := by decide +kernel
theorem dX12_whyNot_129 : decode cX12_whyNot 129 = .ok (.iconst 1, 1) := by decide +kernel
theorem dX12_whyNot_130 : decode cX12_whyNot 130 = .ok (.ireturn, 1) := by decide +kernel
theorem wX12_whyNot : Mw yX12_whyNot cX12_whyNot 3 (some .int) 1 := ⟨q_1671, q_130, by decide, ⟨by decide +kernel, by decide +kernel⟩, by decide +kernel, by decide +kernel⟩
/-- EyeTrainerModel.whyNot(J)I -/
def fX12_whyNot (T : Sh) (M : Me) (x0 : Nat) (x1 : Int64) : Option (Int32 × Me) :=
  Option.bind (fX12_within x1 (0 : Int64) (1 : Int64)) fun r1 => if r1 = 0 then (Option.bind (fX12_within x1 (10 : Int64) (14 : Int64)) fun r3 => if r3 = 0 then (Option.bind (fX12_within x1 (100 : Int64) (199 : Int64)) fun r5 => if r5 = 0 then (Option.bind (fX12_within x1 (10000 : Int64) (15999 : Int64)) fun r7 => if r7 = 0 then (some ((1 : Int32), M)) else (gd (kd T x0 = 11) <| Option.bind (fX12_isLane T M x0 ((x1 - (10000 : Int64)) / (1000 : Int64))) fun r10 => if r10 = 0 then (some ((1 : Int32), M)) else (Option.bind (fX12_isCell (x1 - x1 / (1000 : Int64) * (1000 : Int64))) fun r12 => if r12 = 0 then (some ((1 : Int32), M)) else (some ((0 : Int32), M))))) else (gd (kd T x0 = 11) <| Option.bind (fX12_whyTrain T M x0 ((x1 - (100 : Int64)) / (10 : Int64)) (x1 - x1 / (10 : Int64) * (10 : Int64))) <| un2 fun r15 M16 => some (r15, M16))) else (gd (kd T x0 = 11) <| Option.bind (gR M x0 1) fun a18 => gd (kd T a18 = 13) <| gv (4 : Int32) (ln T a18) <| Option.bind (fX12_within (x1 - (11 : Int64)) (-1 : Int64) (Int32.toInt64 ((gI M a18 (Int32.toNatClampNeg (4 : Int32))) - (1 : Int32)))) fun r21 => if r21 = 0 then (some ((1 : Int32), M)) else (some ((0 : Int32), M)))) else (some ((0 : Int32), M))
set_option maxHeartbeats 4000000 in
theorem kX12_whyNot {l : Launch} {B : Bx} {d : Nat} (hd : 6 ≤ d) {T : Sh} {M : Me} {x0 : Nat} {x1 : Int64} {r : Int32} {M' : Me} (h : fX12_whyNot T M x0 x1 = some (r, M')) : Kt l B yX12_whyNot cX12_whyNot 3 (some .int) d [.ref (x0), .long (x1)] T M (some (.int r)) T M' := by
  refine kt_of wX12_whyNot (Nat.le_refl _) (Nat.le_refl _) (Nat.le_of_ble_eq_true rfl) (fun X C hR hlx hin => ?_)
  subst hlx
  replace C : Cx X B cX12_whyNot 3 RX12 d (tp T, sl T, tp T, sl T) := C
  unfold fX12_whyNot at h
  show G X B 3 _ _ 0 [(0, .ref (x0)), (1, .long (x1))] [] T M
  refine g_lload_n (pc := 0) C dX12_whyNot_0 rfl 1 rfl ?_
  refine g_lconst (pc := 1) (v := 0) C dX12_whyNot_1 rfl ?_
  refine g_lconst (pc := 2) (v := 1) C dX12_whyNot_2 rfl ?_
  replace h := bnd h; obtain ⟨r1, h1, h⟩ := h
  refine g_callSi (pc := 3) (As := [.long (x1), .long ((0 : Int64)), .long ((1 : Int64))]) (st := []) C dX12_whyNot_3 wX12_within q_1367 q_1366 (by omega) rfl (Nat.le_of_ble_eq_true rfl) (kX12_within (d := 0) (Nat.le_refl _) h1) ?_
  refine g_if_eq (pc := 6) (tgt := 11) C dX12_whyNot_6 (by decide) (fun c2 => ?_) (fun c2 => ?_)
  · replace h := ifp c2 h
    refine g_lload_n (pc := 11) C dX12_whyNot_11 rfl 1 rfl ?_
    refine g_ldc2 (pc := 12) C dX12_whyNot_12 q_1654 ?_
    refine g_ldc2 (pc := 15) C dX12_whyNot_15 q_1672 ?_
    replace h := bnd h; obtain ⟨r3, h1, h⟩ := h
    refine g_callSi (pc := 18) (As := [.long (x1), .long ((10 : Int64)), .long ((14 : Int64))]) (st := []) C dX12_whyNot_18 wX12_within q_1367 q_1366 (by omega) rfl (Nat.le_of_ble_eq_true rfl) (kX12_within (d := 0) (Nat.le_refl _) h1) ?_
    refine g_if_eq (pc := 21) (tgt := 53) C dX12_whyNot_21 (by decide) (fun c4 => ?_) (fun c4 => ?_)
    · replace h := ifp c4 h
      refine g_lload_n (pc := 53) C dX12_whyNot_53 rfl 1 rfl ?_
      refine g_ldc2 (pc := 54) C dX12_whyNot_54 q_1674 ?_
      refine g_ldc2 (pc := 57) C dX12_whyNot_57 q_1675 ?_
      replace h := bnd h; obtain ⟨r5, h1, h⟩ := h
      refine g_callSi (pc := 60) (As := [.long (x1), .long ((100 : Int64)), .long ((199 : Int64))]) (st := []) C dX12_whyNot_60 wX12_within q_1367 q_1366 (by omega) rfl (Nat.le_of_ble_eq_true rfl) (kX12_within (d := 0) (Nat.le_refl _) h1) ?_
      refine g_if_eq (pc := 63) (tgt := 85) C dX12_whyNot_63 (by decide) (fun c6 => ?_) (fun c6 => ?_)
      · replace h := ifp c6 h
        refine g_lload_n (pc := 85) C dX12_whyNot_85 rfl 1 rfl ?_
        refine g_ldc2 (pc := 86) C dX12_whyNot_86 q_1676 ?_
        refine g_ldc2 (pc := 89) C dX12_whyNot_89 q_1677 ?_
        replace h := bnd h; obtain ⟨r7, h1, h⟩ := h
        refine g_callSi (pc := 92) (As := [.long (x1), .long ((10000 : Int64)), .long ((15999 : Int64))]) (st := []) C dX12_whyNot_92 wX12_within q_1367 q_1366 (by omega) rfl (Nat.le_of_ble_eq_true rfl) (kX12_within (d := 0) (Nat.le_refl _) h1) ?_
        refine g_if_eq (pc := 95) (tgt := 129) C dX12_whyNot_95 (by decide) (fun c8 => ?_) (fun c8 => ?_)
        · replace h := ifp c8 h
          refine g_iconst (pc := 129) (v := 1) C dX12_whyNot_129 (by decide) ?_
          obtain ⟨rfl, rfl⟩ := Prod.mk.inj (Option.some.inj h)
          exact g_iret C hR dX12_whyNot_130
        · replace h := ifn c8 h
          refine g_aload_n (pc := 98) C dX12_whyNot_98 rfl 0 rfl ?_
          refine g_lload_n (pc := 99) C dX12_whyNot_99 rfl 1 rfl ?_
          refine g_ldc2 (pc := 100) C dX12_whyNot_100 q_1676 ?_
          refine g_lsub (pc := 103) C dX12_whyNot_103 ?_
          refine g_ldc2 (pc := 104) C dX12_whyNot_104 q_1678 ?_
          refine g_ldiv (pc := 107) C dX12_whyNot_107 (by decide) ?_
          replace h := gd_some h; obtain ⟨hk9, h⟩ := h
          replace h := bnd h; obtain ⟨r10, h1, h⟩ := h
          refine g_callVi (pc := 108) (As := [.long ((x1 - (10000 : Int64)) / (1000 : Int64))]) (st := []) C dX12_whyNot_108 wX12_isLane hk9 rfl (by decide) q_1481 q_75 q_1479 (by omega) rfl (Nat.le_of_ble_eq_true rfl) (kX12_isLane (d := 1) (Nat.le_refl _) h1) ?_
          refine g_if_eq (pc := 111) (tgt := 129) C dX12_whyNot_111 (by decide) (fun c11 => ?_) (fun c11 => ?_)
          · replace h := ifp c11 h
            refine g_iconst (pc := 129) (v := 1) C dX12_whyNot_129 (by decide) ?_
            obtain ⟨rfl, rfl⟩ := Prod.mk.inj (Option.some.inj h)
            exact g_iret C hR dX12_whyNot_130
          · replace h := ifn c11 h
            refine g_lload_n (pc := 114) C dX12_whyNot_114 rfl 1 rfl ?_
            refine g_ldc2 (pc := 115) C dX12_whyNot_115 q_1678 ?_
            refine g_lrem (pc := 118) C dX12_whyNot_118 (by decide) ?_
            replace h := bnd h; obtain ⟨r12, h1, h⟩ := h
            refine g_callSi (pc := 119) (As := [.long (x1 - x1 / (1000 : Int64) * (1000 : Int64))]) (st := []) C dX12_whyNot_119 wX12_isCell q_1530 q_1529 (by omega) rfl (Nat.le_of_ble_eq_true rfl) (kX12_isCell (d := 1) (Nat.le_refl _) h1) ?_
            refine g_if_eq (pc := 122) (tgt := 129) C dX12_whyNot_122 (by decide) (fun c13 => ?_) (fun c13 => ?_)
            · replace h := ifp c13 h
              refine g_iconst (pc := 129) (v := 1) C dX12_whyNot_129 (by decide) ?_
              obtain ⟨rfl, rfl⟩ := Prod.mk.inj (Option.some.inj h)
              exact g_iret C hR dX12_whyNot_130
            · replace h := ifn c13 h
              refine g_iconst (pc := 125) (v := 0) C dX12_whyNot_125 (by decide) ?_
              refine g_goto (pc := 126) (tgt := 130) C dX12_whyNot_126 (by decide) ?_
              obtain ⟨rfl, rfl⟩ := Prod.mk.inj (Option.some.inj h)
              exact g_iret C hR dX12_whyNot_130
      · replace h := ifn c6 h
        refine g_aload_n (pc := 66) C dX12_whyNot_66 rfl 0 rfl ?_
        refine g_lload_n (pc := 67) C dX12_whyNot_67 rfl 1 rfl ?_
        refine g_ldc2 (pc := 68) C dX12_whyNot_68 q_1674 ?_
        refine g_lsub (pc := 71) C dX12_whyNot_71 ?_
        refine g_ldc2 (pc := 72) C dX12_whyNot_72 q_1654 ?_
        refine g_ldiv (pc := 75) C dX12_whyNot_75 (by decide) ?_
        refine g_lload_n (pc := 76) C dX12_whyNot_76 rfl 1 rfl ?_
        refine g_ldc2 (pc := 77) C dX12_whyNot_77 q_1654 ?_
        refine g_lrem (pc := 80) C dX12_whyNot_80 (by decide) ?_
        replace h := gd_some h; obtain ⟨hk14, h⟩ := h
        replace h := bnd2 h; obtain ⟨r15, M16, h1, h⟩ := h
        refine g_callVi (pc := 81) (As := [.long ((x1 - (100 : Int64)) / (10 : Int64)), .long (x1 - x1 / (10 : Int64) * (10 : Int64))]) (st := []) C dX12_whyNot_81 wX12_whyTrain hk14 rfl (by decide) q_1572 q_87 q_1570 (by omega) rfl (Nat.le_of_ble_eq_true rfl) (kX12_whyTrain (d := 5) (Nat.le_refl _) h1) ?_
        obtain ⟨rfl, rfl⟩ := Prod.mk.inj (Option.some.inj h)
        exact g_iret C hR dX12_whyNot_84
    · replace h := ifn c4 h
      refine g_lload_n (pc := 24) C dX12_whyNot_24 rfl 1 rfl ?_
      refine g_ldc2 (pc := 25) C dX12_whyNot_25 q_1673 ?_
      refine g_lsub (pc := 28) C dX12_whyNot_28 ?_
      refine g_ldc2 (pc := 29) C dX12_whyNot_29 q_1649 ?_
      refine g_aload_n (pc := 32) C dX12_whyNot_32 rfl 0 rfl ?_
      replace h := gd_some h; obtain ⟨hk17, h⟩ := h
      refine g_get (pc := 33) (v := va_rf (gR M x0 1)) C dX12_whyNot_33 kX12 hk17 1 (by decide) q_1228 rfl ?_
      replace h := bnd h; obtain ⟨a18, ea18, h⟩ := h
      refine g_refq ea18 ?_
      refine g_iconst (pc := 36) (v := 4) C dX12_whyNot_36 (by decide) ?_
      replace h := gd_some h; obtain ⟨hk19, h⟩ := h
      replace h := gv_some h; obtain ⟨hi20, h⟩ := h
      refine g_iald (pc := 37) C dX12_whyNot_37 hk19 hi20 ?_
      refine g_iconst (pc := 38) (v := 1) C dX12_whyNot_38 (by decide) ?_
      refine g_isub (pc := 39) C dX12_whyNot_39 ?_
      refine g_i2l (pc := 40) C dX12_whyNot_40 ?_
      replace h := bnd h; obtain ⟨r21, h1, h⟩ := h
      refine g_callSi (pc := 41) (As := [.long (x1 - (11 : Int64)), .long ((-1 : Int64)), .long (Int32.toInt64 ((gI M a18 (Int32.toNatClampNeg (4 : Int32))) - (1 : Int32)))]) (st := []) C dX12_whyNot_41 wX12_within q_1367 q_1366 (by omega) rfl (Nat.le_of_ble_eq_true rfl) (kX12_within (d := 0) (Nat.le_refl _) h1) ?_
      refine g_if_eq (pc := 44) (tgt := 51) C dX12_whyNot_44 (by decide) (fun c22 => ?_) (fun c22 => ?_)
      · replace h := ifp c22 h
        refine g_iconst (pc := 51) (v := 1) C dX12_whyNot_51 (by decide) ?_
        obtain ⟨rfl, rfl⟩ := Prod.mk.inj (Option.some.inj h)
        exact g_iret C hR dX12_whyNot_52
      · replace h := ifn c22 h
        refine g_iconst (pc := 47) (v := 0) C dX12_whyNot_47 (by decide) ?_
        refine g_goto (pc := 48) (tgt := 52) C dX12_whyNot_48 (by decide) ?_
        obtain ⟨rfl, rfl⟩ := Prod.mk.inj (Option.some.inj h)
        exact g_iret C hR dX12_whyNot_52
  · replace h := ifn c2 h
    refine g_iconst (pc := 9) (v := 0) C dX12_whyNot_9 (by decide) ?_
    obtain ⟨rfl, rfl⟩ := Prod.mk.inj (Option.some.inj h)
    exact g_iret C hR dX12_whyNot_10
theorem dX12_does_0 : decode cX12_does 0 = .ok (.iload_n 1, 1) := by decide +kernel
theorem dX12_does_1 : decode cX12_does 1 = .ok (.iconst 2, 1) := by decide +kernel
theorem dX12_does_2 : decode cX12_does 2 = .ok (.if_icmp .ge 20, 3) := by decide +kernel
theorem dX12_does_5 : decode cX12_does 5 = .ok (.aload_n 0, 1) := by decide +kernel
theorem dX12_does_6 : decode cX12_does 6 = .ok (.iload_n 1, 1) := by decide +kernel
theorem dX12_does_7 : decode cX12_does 7 = .ok (.iconst 1, 1) := by decide +kernel
theorem dX12_does_8 : decode cX12_does 8 = .ok (.if_icmp .ne 7, 3) := by decide +kernel
theorem dX12_does_11 : decode cX12_does 11 = .ok (.iconst 1, 1) := by decide +kernel
theorem dX12_does_12 : decode cX12_does 12 = .ok (.goto 4, 3) := by decide +kernel
theorem dX12_does_15 : decode cX12_does 15 = .ok (.iconst 0, 1) := by decide +kernel
theorem dX12_does_16 : decode cX12_does 16 = .ok (.invokevirtual 345, 3) := by decide +kernel
theorem dX12_does_19 : decode cX12_does 19 = .ok (.goto 74, 3) := by decide +kernel
theorem dX12_does_22 : decode cX12_does 22 = .ok (.iload_n 1, 1) := by decide +kernel
theorem dX12_does_23 : decode cX12_does 23 = .ok (.bipush 15, 2) := by decide +kernel
theorem dX12_does_25 : decode cX12_does 25 = .ok (.if_icmp .ge 17, 3) := by decide +kernel
theorem dX12_does_28 : decode cX12_does 28 = .ok (.aload_n 0, 1) := by decide +kernel
theorem dX12_does_29 : decode cX12_does 29 = .ok (.getfield 13, 3) := by decide +kernel
theorem dX12_does_32 : decode cX12_does 32 = .ok (.bipush 49, 2) := by decide +kernel
theorem dX12_does_34 : decode cX12_does 34 = .ok (.iload_n 1, 1) := by decide +kernel
theorem dX12_does_35 : decode cX12_does 35 = .ok (.bipush 11, 2) := by decide +kernel
theorem dX12_does_37 : decode cX12_does 37 = .ok (.isub, 1) := by decide +kernel
theorem dX12_does_38 : decode cX12_does 38 = .ok (.iastore, 1) := by decide +kernel
theorem dX12_does_39 : decode cX12_does 39 = .ok (.goto 54, 3) := by decide +kernel
theorem dX12_does_42 : decode cX12_does 42 = .ok (.iload_n 1, 1) := by decide +kernel
theorem dX12_does_43 : decode cX12_does 43 = .ok (.sipush 200, 3) := by decide +kernel
theorem dX12_does_46 : decode cX12_does 46 = .ok (.if_icmp .ge 25, 3) := by decide +kernel
theorem dX12_does_49 : decode cX12_does 49 = .ok (.aload_n 0, 1) := by decide +kernel
theorem dX12_does_50 : decode cX12_does 50 = .ok (.getfield 13, 3) := by decide +kernel
theorem dX12_does_53 : decode cX12_does 53 = .ok (.bipush 42, 2) := by decide +kernel
theorem dX12_does_55 : decode cX12_does 55 = .ok (.iload_n 1, 1) := by decide +kernel
theorem dX12_does_56 : decode cX12_does 56 = .ok (.bipush 100, 2) := by decide +kernel
theorem dX12_does_58 : decode cX12_does 58 = .ok (.isub, 1) := by decide +kernel
theorem dX12_does_59 : decode cX12_does 59 = .ok (.bipush 10, 2) := by decide +kernel
theorem dX12_does_61 : decode cX12_does 61 = .ok (.idiv, 1) := by decide +kernel
theorem dX12_does_62 : decode cX12_does 62 = .ok (.iadd, 1) := by decide +kernel
theorem dX12_does_63 : decode cX12_does 63 = .ok (.aload_n 0, 1) := by decide +kernel
theorem dX12_does_64 : decode cX12_does 64 = .ok (.getfield 312, 3) := by decide +kernel
theorem dX12_does_67 : decode cX12_does 67 = .ok (.iastore, 1) := by decide +kernel
theorem dX12_does_68 : decode cX12_does 68 = .ok (.goto 25, 3) := by decide +kernel
theorem dX12_does_71 : decode cX12_does 71 = .ok (.aload_n 0, 1) := by decide +kernel
theorem dX12_does_72 : decode cX12_does 72 = .ok (.getfield 13, 3) := by decide +kernel
theorem dX12_does_75 : decode cX12_does 75 = .ok (.bipush 42, 2) := by decide +kernel
theorem dX12_does_77 : decode cX12_does 77 = .ok (.iload_n 1, 1) := by decide +kernel
theorem dX12_does_78 : decode cX12_does 78 = .ok (.sipush 10000, 3) := by decide +kernel
theorem dX12_does_81 : decode cX12_does 81 = .ok (.isub, 1) := by decide +kernel
theorem dX12_does_82 : decode cX12_does 82 = .ok (.sipush 1000, 3) := by decide +kernel
theorem dX12_does_85 : decode cX12_does 85 = .ok (.idiv, 1) := by decide +kernel
theorem dX12_does_86 : decode cX12_does 86 = .ok (.iadd, 1) := by decide +kernel
theorem dX12_does_87 : decode cX12_does 87 = .ok (.iload_n 1, 1) := by decide +kernel
theorem dX12_does_88 : decode cX12_does 88 = .ok (.sipush 1000, 3) := by decide +kernel
theorem dX12_does_91 : decode cX12_does 91 = .ok (.irem, 1) := by decide +kernel
theorem dX12_does_92 : decode cX12_does 92 = .ok (.iastore, 1) := by decide +kernel
theorem dX12_does_93 : decode cX12_does 93 = .ok (.return_, 1) := by decide +kernel
theorem wX12_does : Mw yX12_does cX12_does 2 none 1 := ⟨q_1682, q_130, by decide, ⟨by decide +kernel, by decide +kernel⟩, by decide +kernel, by decide +kernel⟩
/-- EyeTrainerModel.does(I)V -/
def fX12_does (T : Sh) (M : Me) (x0 : Nat) (x1 : Int32) : Option (Unit × Me) :=
  if (2 : Int32) ≤ x1 then (if (15 : Int32) ≤ x1 then (if (200 : Int32) ≤ x1 then (gd (kd T x0 = 11) <| Option.bind (gR M x0 1) fun a5 => gd (kd T a5 = 13) <| gv ((42 : Int32) + ((x1 - (10000 : Int32)) / (1000 : Int32))) (ln T a5) <| lt (pI M a5 (Int32.toNatClampNeg ((42 : Int32) + ((x1 - (10000 : Int32)) / (1000 : Int32)))) (x1 - x1 / (1000 : Int32) * (1000 : Int32))) fun M8 => some ((), M8)) else (gd (kd T x0 = 11) <| Option.bind (gR M x0 1) fun a10 => gd (kd T a10 = 13) <| gv ((42 : Int32) + ((x1 - (100 : Int32)) / (10 : Int32))) (ln T a10) <| lt (pI M a10 (Int32.toNatClampNeg ((42 : Int32) + ((x1 - (100 : Int32)) / (10 : Int32)))) (gI M x0 30)) fun M13 => some ((), M13))) else (gd (kd T x0 = 11) <| Option.bind (gR M x0 1) fun a15 => gd (kd T a15 = 13) <| gv (49 : Int32) (ln T a15) <| lt (pI M a15 (Int32.toNatClampNeg (49 : Int32)) (x1 - (11 : Int32))) fun M18 => some ((), M18))) else (if x1 = (1 : Int32) then (gd (kd T x0 = 11) <| Option.bind (fX12_goesTick T M x0 (1 : Int32)) <| un2 fun _u M23 => some ((), M23)) else (gd (kd T x0 = 11) <| Option.bind (fX12_goesTick T M x0 (0 : Int32)) <| un2 fun _u M21 => some ((), M21)))
set_option maxHeartbeats 4000000 in
theorem kX12_does {l : Launch} {B : Bx} {d : Nat} (hd : 6 ≤ d) {T : Sh} {M : Me} {x0 : Nat} {x1 : Int32} {M' : Me} (h : fX12_does T M x0 x1 = some ((), M')) : Kt l B yX12_does cX12_does 2 none d [.ref (x0), .int (x1)] T M none T M' := by
  refine kt_of wX12_does (Nat.le_refl _) (Nat.le_refl _) (Nat.le_of_ble_eq_true rfl) (fun X C hR hlx hin => ?_)
  subst hlx
  replace C : Cx X B cX12_does 2 RX12 d (tp T, sl T, tp T, sl T) := C
  unfold fX12_does at h
  show G X B 2 _ _ 0 [(0, .ref (x0)), (1, .int (x1))] [] T M
  refine g_iload_n (pc := 0) C dX12_does_0 rfl 1 rfl ?_
  refine g_iconst (pc := 1) (v := 2) C dX12_does_1 (by decide) ?_
  refine g_icmp_ge (pc := 2) (tgt := 22) C dX12_does_2 (by decide) (fun c1 => ?_) (fun c1 => ?_)
  · replace h := ifp c1 h
    refine g_iload_n (pc := 22) C dX12_does_22 rfl 1 rfl ?_
    refine g_bipush (pc := 23) (v := 15) C dX12_does_23 (by decide) ?_
    refine g_icmp_ge (pc := 25) (tgt := 42) C dX12_does_25 (by decide) (fun c2 => ?_) (fun c2 => ?_)
    · replace h := ifp c2 h
      refine g_iload_n (pc := 42) C dX12_does_42 rfl 1 rfl ?_
      refine g_sipush (pc := 43) (v := 200) C dX12_does_43 (by decide) ?_
      refine g_icmp_ge (pc := 46) (tgt := 71) C dX12_does_46 (by decide) (fun c3 => ?_) (fun c3 => ?_)
      · replace h := ifp c3 h
        refine g_aload_n (pc := 71) C dX12_does_71 rfl 0 rfl ?_
        replace h := gd_some h; obtain ⟨hk4, h⟩ := h
        refine g_get (pc := 72) (v := va_rf (gR M x0 1)) C dX12_does_72 kX12 hk4 1 (by decide) q_1228 rfl ?_
        replace h := bnd h; obtain ⟨a5, ea5, h⟩ := h
        refine g_refq ea5 ?_
        refine g_bipush (pc := 75) (v := 42) C dX12_does_75 (by decide) ?_
        refine g_iload_n (pc := 77) C dX12_does_77 rfl 1 rfl ?_
        refine g_sipush (pc := 78) (v := 10000) C dX12_does_78 (by decide) ?_
        refine g_isub (pc := 81) C dX12_does_81 ?_
        refine g_sipush (pc := 82) (v := 1000) C dX12_does_82 (by decide) ?_
        refine g_idiv (pc := 85) C dX12_does_85 (by decide) ?_
        refine g_iadd (pc := 86) C dX12_does_86 ?_
        refine g_iload_n (pc := 87) C dX12_does_87 rfl 1 rfl ?_
        refine g_sipush (pc := 88) (v := 1000) C dX12_does_88 (by decide) ?_
        refine g_irem (pc := 91) C dX12_does_91 (by decide) ?_
        replace h := gd_some h; obtain ⟨hk6, h⟩ := h
        replace h := gv_some h; obtain ⟨hi7, h⟩ := h
        refine g_iast (pc := 92) C dX12_does_92 hk6 hi7 ?_
        refine g_mem (fun M8 eM8 => ?_)
        replace h := lt_at eM8 h
        obtain ⟨-, rfl⟩ := Prod.mk.inj (Option.some.inj h)
        exact g_vret C hR dX12_does_93
      · replace h := ifn c3 h
        refine g_aload_n (pc := 49) C dX12_does_49 rfl 0 rfl ?_
        replace h := gd_some h; obtain ⟨hk9, h⟩ := h
        refine g_get (pc := 50) (v := va_rf (gR M x0 1)) C dX12_does_50 kX12 hk9 1 (by decide) q_1228 rfl ?_
        replace h := bnd h; obtain ⟨a10, ea10, h⟩ := h
        refine g_refq ea10 ?_
        refine g_bipush (pc := 53) (v := 42) C dX12_does_53 (by decide) ?_
        refine g_iload_n (pc := 55) C dX12_does_55 rfl 1 rfl ?_
        refine g_bipush (pc := 56) (v := 100) C dX12_does_56 (by decide) ?_
        refine g_isub (pc := 58) C dX12_does_58 ?_
        refine g_bipush (pc := 59) (v := 10) C dX12_does_59 (by decide) ?_
        refine g_idiv (pc := 61) C dX12_does_61 (by decide) ?_
        refine g_iadd (pc := 62) C dX12_does_62 ?_
        refine g_aload_n (pc := 63) C dX12_does_63 rfl 0 rfl ?_
        refine g_get (pc := 64) (v := .int (gI M x0 30)) C dX12_does_64 kX12 hk9 30 (by decide) q_1257 rfl ?_
        replace h := gd_some h; obtain ⟨hk11, h⟩ := h
        replace h := gv_some h; obtain ⟨hi12, h⟩ := h
        refine g_iast (pc := 67) C dX12_does_67 hk11 hi12 ?_
        refine g_mem (fun M13 eM13 => ?_)
        replace h := lt_at eM13 h
        refine g_goto (pc := 68) (tgt := 93) C dX12_does_68 (by decide) ?_
        obtain ⟨-, rfl⟩ := Prod.mk.inj (Option.some.inj h)
        exact g_vret C hR dX12_does_93
    · replace h := ifn c2 h
      refine g_aload_n (pc := 28) C dX12_does_28 rfl 0 rfl ?_
      replace h := gd_some h; obtain ⟨hk14, h⟩ := h
      refine g_get (pc := 29) (v := va_rf (gR M x0 1)) C dX12_does_29 kX12 hk14 1 (by decide) q_1228 rfl ?_
      replace h := bnd h; obtain ⟨a15, ea15, h⟩ := h
      refine g_refq ea15 ?_
      refine g_bipush (pc := 32) (v := 49) C dX12_does_32 (by decide) ?_
      refine g_iload_n (pc := 34) C dX12_does_34 rfl 1 rfl ?_
      refine g_bipush (pc := 35) (v := 11) C dX12_does_35 (by decide) ?_
      refine g_isub (pc := 37) C dX12_does_37 ?_
      replace h := gd_some h; obtain ⟨hk16, h⟩ := h
      replace h := gv_some h; obtain ⟨hi17, h⟩ := h
      refine g_iast (pc := 38) C dX12_does_38 hk16 hi17 ?_
      refine g_mem (fun M18 eM18 => ?_)
      replace h := lt_at eM18 h
      refine g_goto (pc := 39) (tgt := 93) C dX12_does_39 (by decide) ?_
      obtain ⟨-, rfl⟩ := Prod.mk.inj (Option.some.inj h)
      exact g_vret C hR dX12_does_93
  · replace h := ifn c1 h
    refine g_aload_n (pc := 5) C dX12_does_5 rfl 0 rfl ?_
    refine g_iload_n (pc := 6) C dX12_does_6 rfl 1 rfl ?_
    refine g_iconst (pc := 7) (v := 1) C dX12_does_7 (by decide) ?_
    refine g_icmp_ne (pc := 8) (tgt := 15) C dX12_does_8 (by decide) (fun c19 => ?_) (fun c19 => ?_)
    · replace h := ifn c19 h
      refine g_iconst (pc := 15) (v := 0) C dX12_does_15 (by decide) ?_
      replace h := gd_some h; obtain ⟨hk20, h⟩ := h
      replace h := bnd2 h; obtain ⟨_u, M21, h1, h⟩ := h
      refine g_callVv (pc := 16) (As := [.int ((0 : Int32))]) (st := []) C dX12_does_16 wX12_goesTick hk20 rfl (by decide) q_1631 q_98 q_1629 (by omega) rfl (Nat.le_of_ble_eq_true rfl) (kX12_goesTick (d := 5) (Nat.le_refl _) h1) ?_
      refine g_goto (pc := 19) (tgt := 93) C dX12_does_19 (by decide) ?_
      obtain ⟨-, rfl⟩ := Prod.mk.inj (Option.some.inj h)
      exact g_vret C hR dX12_does_93
    · replace h := ifp c19 h
      refine g_iconst (pc := 11) (v := 1) C dX12_does_11 (by decide) ?_
      refine g_goto (pc := 12) (tgt := 16) C dX12_does_12 (by decide) ?_
      replace h := gd_some h; obtain ⟨hk22, h⟩ := h
      replace h := bnd2 h; obtain ⟨_u, M23, h1, h⟩ := h
      refine g_callVv (pc := 16) (As := [.int ((1 : Int32))]) (st := []) C dX12_does_16 wX12_goesTick hk22 rfl (by decide) q_1631 q_98 q_1629 (by omega) rfl (Nat.le_of_ble_eq_true rfl) (kX12_goesTick (d := 5) (Nat.le_refl _) h1) ?_
      refine g_goto (pc := 19) (tgt := 93) C dX12_does_19 (by decide) ?_
      obtain ⟨-, rfl⟩ := Prod.mk.inj (Option.some.inj h)
      exact g_vret C hR dX12_does_93
theorem dX12_tells_0 : decode cX12_tells 0 = .ok (.aload_n 0, 1) := by decide +kernel
theorem dX12_tells_1 : decode cX12_tells 1 = .ok (.iconst 0, 1) := by decide +kernel
theorem dX12_tells_2 : decode cX12_tells 2 = .ok (.putfield 374, 3) := by decide +kernel
theorem dX12_tells_5 : decode cX12_tells 5 = .ok (.iconst 0, 1) := by decide +kernel
theorem dX12_tells_6 : decode cX12_tells 6 = .ok (.istore_n 2, 1) := by decide +kernel
theorem dX12_tells_7 : decode cX12_tells 7 = .ok (.iload_n 2, 1) := by decide +kernel
theorem dX12_tells_8 : decode cX12_tells 8 = .ok (.aload_n 0, 1) := by decide +kernel
theorem dX12_tells_9 : decode cX12_tells 9 = .ok (.getfield 67, 3) := by decide +kernel
theorem dX12_tells_12 : decode cX12_tells 12 = .ok (.iload_n 1, 1) := by decide +kernel
theorem dX12_tells_13 : decode cX12_tells 13 = .ok (.iaload, 1) := by decide +kernel
theorem dX12_tells_14 : decode cX12_tells 14 = .ok (.if_icmp .ge 53, 3) := by decide +kernel
theorem dX12_tells_17 : decode cX12_tells 17 = .ok (.aload_n 0, 1) := by decide +kernel
theorem dX12_tells_18 : decode cX12_tells 18 = .ok (.aload_n 0, 1) := by decide +kernel
theorem dX12_tells_19 : decode cX12_tells 19 = .ok (.aload_n 0, 1) := by decide +kernel
theorem dX12_tells_20 : decode cX12_tells 20 = .ok (.getfield 70, 3) := by decide +kernel
theorem dX12_tells_23 : decode cX12_tells 23 = .ok (.bipush 40, 2) := by decide +kernel
theorem dX12_tells_25 : decode cX12_tells 25 = .ok (.iload_n 1, 1) := by decide +kernel
theorem dX12_tells_26 : decode cX12_tells 26 = .ok (.imul, 1) := by decide +kernel
theorem dX12_tells_27 : decode cX12_tells 27 = .ok (.iload_n 2, 1) := by decide +kernel
theorem dX12_tells_28 : decode cX12_tells 28 = .ok (.iadd, 1) := by decide +kernel
theorem dX12_tells_29 : decode cX12_tells 29 = .ok (.laload, 1) := by decide +kernel
theorem dX12_tells_30 : decode cX12_tells 30 = .ok (.invokevirtual 377, 3) := by decide +kernel
theorem dX12_tells_33 : decode cX12_tells 33 = .ok (.putfield 374, 3) := by decide +kernel
theorem dX12_tells_36 : decode cX12_tells 36 = .ok (.aload_n 0, 1) := by decide +kernel
theorem dX12_tells_37 : decode cX12_tells 37 = .ok (.getfield 374, 3) := by decide +kernel
theorem dX12_tells_40 : decode cX12_tells 40 = .ok (.ifCond .eq 5, 3) := by decide +kernel
theorem dX12_tells_43 : decode cX12_tells 43 = .ok (.iload_n 2, 1) := by decide +kernel
theorem dX12_tells_44 : decode cX12_tells 44 = .ok (.ireturn, 1) := by decide +kernel
theorem dX12_tells_45 : decode cX12_tells 45 = .ok (.aload_n 0, 1) := by decide +kernel
theorem dX12_tells_46 : decode cX12_tells 46 = .ok (.aload_n 0, 1) := by decide +kernel
theorem dX12_tells_47 : decode cX12_tells 47 = .ok (.getfield 70, 3) := by decide +kernel
theorem dX12_tells_50 : decode cX12_tells 50 = .ok (.bipush 40, 2) := by decide +kernel
theorem dX12_tells_52 : decode cX12_tells 52 = .ok (.iload_n 1, 1) := by decide +kernel
theorem dX12_tells_53 : decode cX12_tells 53 = .ok (.imul, 1) := by decide +kernel
theorem dX12_tells_54 : decode cX12_tells 54 = .ok (.iload_n 2, 1) := by decide +kernel
theorem dX12_tells_55 : decode cX12_tells 55 = .ok (.iadd, 1) := by decide +kernel
theorem dX12_tells_56 : decode cX12_tells 56 = .ok (.laload, 1) := by decide +kernel
theorem dX12_tells_57 : decode cX12_tells 57 = .ok (.l2i, 1) := by decide +kernel
theorem dX12_tells_58 : decode cX12_tells 58 = .ok (.invokevirtual 381, 3) := by decide +kernel
theorem dX12_tells_61 : decode cX12_tells 61 = .ok (.iinc 2 1, 3) := by decide +kernel
theorem dX12_tells_64 : decode cX12_tells 64 = .ok (.goto (-57), 3) := by decide +kernel
theorem dX12_tells_67 : decode cX12_tells 67 = .ok (.aload_n 0, 1) := by decide +kernel
theorem dX12_tells_68 : decode cX12_tells 68 = .ok (.getfield 67, 3) := by decide +kernel
theorem dX12_tells_71 : decode cX12_tells 71 = .ok (.iload_n 1, 1) := by decide +kernel
theorem dX12_tells_72 : decode cX12_tells 72 = .ok (.iaload, 1) := by decide +kernel
theorem dX12_tells_73 : decode cX12_tells 73 = .ok (.ireturn, 1) := by decide +kernel
theorem wX12_tells : Mw yX12_tells cX12_tells 3 (some .int) 1 := ⟨q_1667, q_130, by decide, ⟨by decide +kernel, by decide +kernel⟩, by decide +kernel, by decide +kernel⟩
-- a loop of EyeTrainerModel.tells at 7
def bX12_tells_7 (T : Sh) (x0 : Nat) (x1 : Int32) (x2 : Int32) (M : Me) : Option ((Int32 × Me) ⊕ ((Int32 × Me) ⊕ Me)) :=
  gd (kd T x0 = 11) <| Option.bind (gR M x0 41) fun a4 => gd (kd T a4 = 13) <| gv x1 (ln T a4) <| if (gI M a4 (Int32.toNatClampNeg x1)) ≤ x2 then (some (.inr (.inr M))) else (Option.bind (gR M x0 42) fun a8 => gd (kd T a8 = 14) <| gv (((40 : Int32) * x1) + x2) (ln T a8) <| Option.bind (fX12_whyNot T M x0 (gJ M a8 (Int32.toNatClampNeg (((40 : Int32) * x1) + x2)))) <| un2 fun r11 M12 => lt (pI M12 x0 31 r11) fun M13 => if (gI M13 x0 31) = 0 then (Option.bind (gR M13 x0 42) fun a15 => gd (kd T a15 = 14) <| gv (((40 : Int32) * x1) + x2) (ln T a15) <| Option.bind (fX12_does T M13 x0 (Int64.toInt32 (gJ M13 a15 (Int32.toNatClampNeg (((40 : Int32) * x1) + x2))))) <| un2 fun _u M18 => lt (x2 + (1 : Int32)) fun v19 => some (.inl (v19, M18))) else (some (.inr (.inl (x2, M13)))))
def PX12_tells_7 (X : Fx) (B : Bx) (Z : Nat × Nat × Nat × Nat) (Q : State → Prop) (T : Sh) (x0 : Nat) (x1 : Int32) (s : Int32 × Me) : Prop := G X B 3 Z Q 7 [(0, .ref (x0)), (1, .int (x1)), (2, .int (s.1))] [] T s.2
def EX12_tells_7 (X : Fx) (B : Bx) (Z : Nat × Nat × Nat × Nat) (Q : State → Prop) (T : Sh) (x0 : Nat) (x1 : Int32) (r : (Int32 × Me) ⊕ Me) : Prop := Sum.elim (fun r => G X B 3 Z Q 43 [(2, .int (r.1))] [] T r.2) (fun r => G X B 3 Z Q 67 [(0, .ref (x0)), (1, .int (x1))] [] T r) r
set_option maxHeartbeats 4000000 in
theorem tbX12_tells_7 {X : Fx} {B : Bx} {Z : Nat × Nat × Nat × Nat} {Q : State → Prop} {d : Nat} {T : Sh} (C : Cx X B cX12_tells 3 RX12 d Z) (hd : 7 ≤ d) {x0 : Nat} {x1 : Int32} : ∀ (s : Int32 × Me) (o : (Int32 × Me) ⊕ ((Int32 × Me) ⊕ Me)), bX12_tells_7 T x0 x1 s.1 s.2 = some o → lpE (PX12_tells_7 X B Z Q T x0 x1) (EX12_tells_7 X B Z Q T x0 x1) o → PX12_tells_7 X B Z Q T x0 x1 s := by
  rintro ⟨x2, M⟩ o h hE
  replace h : bX12_tells_7 T x0 x1 x2 M = some o := h
  unfold bX12_tells_7 at h
  show G X B 3 Z Q 7 [(0, .ref (x0)), (1, .int (x1)), (2, .int (x2))] [] T M
  refine g_iload_n (pc := 7) C dX12_tells_7 rfl 2 rfl ?_
  refine g_aload_n (pc := 8) C dX12_tells_8 rfl 0 rfl ?_
  replace h := gd_some h; obtain ⟨hk3, h⟩ := h
  refine g_get (pc := 9) (v := va_rf (gR M x0 41)) C dX12_tells_9 kX12 hk3 41 (by decide) q_1268 rfl ?_
  replace h := bnd h; obtain ⟨a4, ea4, h⟩ := h
  refine g_refq ea4 ?_
  refine g_iload_n (pc := 12) C dX12_tells_12 rfl 1 rfl ?_
  replace h := gd_some h; obtain ⟨hk5, h⟩ := h
  replace h := gv_some h; obtain ⟨hi6, h⟩ := h
  refine g_iald (pc := 13) C dX12_tells_13 hk5 hi6 ?_
  refine g_icmp_ge (pc := 14) (tgt := 67) C dX12_tells_14 (by decide) (fun c7 => ?_) (fun c7 => ?_)
  · replace h := ifp c7 h
    obtain rfl := Option.some.inj h
    exact g_sub [0, 1] rfl (show G X B 3 Z Q 67 [(0, .ref (x0)), (1, .int (x1))] [] T M from hE)
  · replace h := ifn c7 h
    refine g_aload_n (pc := 17) C dX12_tells_17 rfl 0 rfl ?_
    refine g_aload_n (pc := 18) C dX12_tells_18 rfl 0 rfl ?_
    refine g_aload_n (pc := 19) C dX12_tells_19 rfl 0 rfl ?_
    refine g_get (pc := 20) (v := va_rf (gR M x0 42)) C dX12_tells_20 kX12 hk3 42 (by decide) q_1269 rfl ?_
    replace h := bnd h; obtain ⟨a8, ea8, h⟩ := h
    refine g_refq ea8 ?_
    refine g_bipush (pc := 23) (v := 40) C dX12_tells_23 (by decide) ?_
    refine g_iload_n (pc := 25) C dX12_tells_25 rfl 1 rfl ?_
    refine g_imul (pc := 26) C dX12_tells_26 ?_
    refine g_iload_n (pc := 27) C dX12_tells_27 rfl 2 rfl ?_
    refine g_iadd (pc := 28) C dX12_tells_28 ?_
    replace h := gd_some h; obtain ⟨hk9, h⟩ := h
    replace h := gv_some h; obtain ⟨hi10, h⟩ := h
    refine g_lald (pc := 29) C dX12_tells_29 hk9 hi10 ?_
    replace h := bnd2 h; obtain ⟨r11, M12, h1, h⟩ := h
    refine g_callVi (pc := 30) (As := [.long (gJ M a8 (Int32.toNatClampNeg (((40 : Int32) * x1) + x2)))]) (st := [.ref (x0)]) C dX12_tells_30 wX12_whyNot hk3 rfl (by decide) q_1670 q_103 q_1668 (by omega) rfl (Nat.le_of_ble_eq_true rfl) (kX12_whyNot (d := 6) (Nat.le_refl _) h1) ?_
    refine g_putI (pc := 33) C dX12_tells_33 kX12 hk3 31 (by decide) rfl rfl rfl q_1258 ?_
    refine g_mem (fun M13 eM13 => ?_)
    replace h := lt_at eM13 h
    refine g_aload_n (pc := 36) C dX12_tells_36 rfl 0 rfl ?_
    refine g_get (pc := 37) (v := .int (gI M13 x0 31)) C dX12_tells_37 kX12 hk3 31 (by decide) q_1258 rfl ?_
    refine g_if_eq (pc := 40) (tgt := 45) C dX12_tells_40 (by decide) (fun c14 => ?_) (fun c14 => ?_)
    · replace h := ifp c14 h
      refine g_aload_n (pc := 45) C dX12_tells_45 rfl 0 rfl ?_
      refine g_aload_n (pc := 46) C dX12_tells_46 rfl 0 rfl ?_
      refine g_get (pc := 47) (v := va_rf (gR M13 x0 42)) C dX12_tells_47 kX12 hk3 42 (by decide) q_1269 rfl ?_
      replace h := bnd h; obtain ⟨a15, ea15, h⟩ := h
      refine g_refq ea15 ?_
      refine g_bipush (pc := 50) (v := 40) C dX12_tells_50 (by decide) ?_
      refine g_iload_n (pc := 52) C dX12_tells_52 rfl 1 rfl ?_
      refine g_imul (pc := 53) C dX12_tells_53 ?_
      refine g_iload_n (pc := 54) C dX12_tells_54 rfl 2 rfl ?_
      refine g_iadd (pc := 55) C dX12_tells_55 ?_
      replace h := gd_some h; obtain ⟨hk16, h⟩ := h
      replace h := gv_some h; obtain ⟨hi17, h⟩ := h
      refine g_lald (pc := 56) C dX12_tells_56 hk16 hi17 ?_
      refine g_l2i (pc := 57) C dX12_tells_57 ?_
      replace h := bnd2 h; obtain ⟨_u, M18, h1, h⟩ := h
      refine g_callVv (pc := 58) (As := [.int (Int64.toInt32 (gJ M13 a15 (Int32.toNatClampNeg (((40 : Int32) * x1) + x2))))]) (st := []) C dX12_tells_58 wX12_does hk3 rfl (by decide) q_1681 q_104 q_1679 (by omega) rfl (Nat.le_of_ble_eq_true rfl) (kX12_does (d := 6) (Nat.le_refl _) h1) ?_
      obtain ⟨v19, ev19⟩ : ∃ y : Int32, y = x2 + (1 : Int32) := ⟨_, rfl⟩
      replace h := lt_at ev19 h
      refine g_iinc (pc := 61) (v := v19) (k := 2) (lo2 := [(2, .int (v19)), (0, .ref (x0)), (1, .int (x1))]) C dX12_tells_61 rfl (by rw [ev19]; rfl) (by decide) rfl ?_
      refine g_goto (pc := 64) (tgt := 7) C dX12_tells_64 (by decide) ?_
      obtain rfl := Option.some.inj h
      exact g_sub [1, 2, 0] rfl (show G X B 3 Z Q 7 [(0, .ref (x0)), (1, .int (x1)), (2, .int (v19))] [] T M18 from hE)
    · replace h := ifn c14 h
      obtain rfl := Option.some.inj h
      exact g_sub [2] rfl (show G X B 3 Z Q 43 [(2, .int (x2))] [] T M13 from hE)
/-- EyeTrainerModel.tells(I)I -/
def fX12_tells (T : Sh) (M : Me) (x0 : Nat) (x1 : Int32) : Option (Int32 × Me) :=
  gd (kd T x0 = 11) <| lt (pI M x0 31 (0 : Int32)) fun M2 => (lp FU (fun s => bX12_tells_7 T x0 x1 s.1 s.2) ((0 : Int32), M2)).bind (Sum.elim (un2 fun x2_20 M21 => some (x2_20, M21)) (fun M22 => Option.bind (gR M22 x0 41) fun a23 => gd (kd T a23 = 13) <| gv x1 (ln T a23) <| some ((gI M22 a23 (Int32.toNatClampNeg x1)), M22)))
set_option maxHeartbeats 4000000 in
theorem kX12_tells {l : Launch} {B : Bx} {d : Nat} (hd : 7 ≤ d) {T : Sh} {M : Me} {x0 : Nat} {x1 : Int32} {r : Int32} {M' : Me} (h : fX12_tells T M x0 x1 = some (r, M')) : Kt l B yX12_tells cX12_tells 3 (some .int) d [.ref (x0), .int (x1)] T M (some (.int r)) T M' := by
  refine kt_of wX12_tells (Nat.le_refl _) (Nat.le_refl _) (Nat.le_of_ble_eq_true rfl) (fun X C hR hlx hin => ?_)
  subst hlx
  replace C : Cx X B cX12_tells 3 RX12 d (tp T, sl T, tp T, sl T) := C
  unfold fX12_tells at h
  show G X B 3 _ _ 0 [(0, .ref (x0)), (1, .int (x1))] [] T M
  refine g_aload_n (pc := 0) C dX12_tells_0 rfl 0 rfl ?_
  refine g_iconst (pc := 1) (v := 0) C dX12_tells_1 (by decide) ?_
  replace h := gd_some h; obtain ⟨hk1, h⟩ := h
  refine g_putI (pc := 2) C dX12_tells_2 kX12 hk1 31 (by decide) rfl rfl rfl q_1258 ?_
  refine g_mem (fun M2 eM2 => ?_)
  replace h := lt_at eM2 h
  refine g_iconst (pc := 5) (v := 0) C dX12_tells_5 (by decide) ?_
  refine g_istore_n (pc := 6) (lo2 := [(2, .int ((0 : Int32))), (0, .ref (x0)), (1, .int (x1))]) C dX12_tells_6 rfl (by decide) rfl ?_
  replace h := bndE h; rcases h with ⟨a1, h1, h⟩ | ⟨M22, h1, h⟩
  · obtain ⟨x2_20, M21⟩ := a1
    replace h := un2_d h
    refine g_sub [1, 2, 0] rfl ?_
    refine lp_G2 (P := PX12_tells_7 X B _ _ T x0 x1) (E := EX12_tells_7 X B _ _ T x0 x1) (tbX12_tells_7 C hd) h1 ?_
    show G X B 3 _ _ 43 [(2, .int (x2_20))] [] T M21
    refine g_iload_n (pc := 43) C dX12_tells_43 rfl 0 rfl ?_
    obtain ⟨rfl, rfl⟩ := Prod.mk.inj (Option.some.inj h)
    exact g_iret C hR dX12_tells_44
  · refine g_sub [1, 2, 0] rfl ?_
    refine lp_G2 (P := PX12_tells_7 X B _ _ T x0 x1) (E := EX12_tells_7 X B _ _ T x0 x1) (tbX12_tells_7 C hd) h1 ?_
    show G X B 3 _ _ 67 [(0, .ref (x0)), (1, .int (x1))] [] T M22
    refine g_aload_n (pc := 67) C dX12_tells_67 rfl 0 rfl ?_
    refine g_get (pc := 68) (v := va_rf (gR M22 x0 41)) C dX12_tells_68 kX12 hk1 41 (by decide) q_1268 rfl ?_
    replace h := bnd h; obtain ⟨a23, ea23, h⟩ := h
    refine g_refq ea23 ?_
    refine g_iload_n (pc := 71) C dX12_tells_71 rfl 1 rfl ?_
    replace h := gd_some h; obtain ⟨hk24, h⟩ := h
    replace h := gv_some h; obtain ⟨hi25, h⟩ := h
    refine g_iald (pc := 72) C dX12_tells_72 hk24 hi25 ?_
    obtain ⟨rfl, rfl⟩ := Prod.mk.inj (Option.some.inj h)
    exact g_iret C hR dX12_tells_73
theorem dX12_noTray_0 : decode cX12_noTray 0 = .ok (.iload_n 1, 1) := by decide +kernel
theorem dX12_noTray_1 : decode cX12_noTray 1 = .ok (.i2l, 1) := by decide +kernel
theorem dX12_noTray_2 : decode cX12_noTray 2 = .ok (.lconst 0, 1) := by decide +kernel
theorem dX12_noTray_3 : decode cX12_noTray 3 = .ok (.ldc2_w 384, 3) := by decide +kernel
theorem dX12_noTray_6 : decode cX12_noTray 6 = .ok (.invokestatic 139, 3) := by decide +kernel
theorem dX12_noTray_9 : decode cX12_noTray 9 = .ok (.ifCond .ne 8, 3) := by decide +kernel
theorem dX12_noTray_12 : decode cX12_noTray 12 = .ok (.bipush (-2), 2) := by decide +kernel
theorem dX12_noTray_14 : decode cX12_noTray 14 = .ok (.goto 19, 3) := by decide +kernel
theorem dX12_noTray_17 : decode cX12_noTray 17 = .ok (.aload_n 0, 1) := by decide +kernel
theorem dX12_noTray_18 : decode cX12_noTray 18 = .ok (.getfield 64, 3) := by decide +kernel
theorem dX12_noTray_21 : decode cX12_noTray 21 = .ok (.iload_n 1, 1) := by decide +kernel
theorem dX12_noTray_22 : decode cX12_noTray 22 = .ok (.iaload, 1) := by decide +kernel
theorem dX12_noTray_23 : decode cX12_noTray 23 = .ok (.iconst (-1), 1) := by decide +kernel
theorem dX12_noTray_24 : decode cX12_noTray 24 = .ok (.if_icmp .ne 8, 3) := by decide +kernel
theorem dX12_noTray_27 : decode cX12_noTray 27 = .ok (.bipush (-6), 2) := by decide +kernel
theorem dX12_noTray_29 : decode cX12_noTray 29 = .ok (.goto 4, 3) := by decide +kernel
theorem dX12_noTray_32 : decode cX12_noTray 32 = .ok (.iconst 0, 1) := by decide +kernel
theorem dX12_noTray_33 : decode cX12_noTray 33 = .ok (.ireturn, 1) := by decide +kernel
theorem wX12_noTray : Mw yX12_noTray cX12_noTray 2 (some .int) 1 := ⟨q_1663, q_130, by decide, ⟨by decide +kernel, by decide +kernel⟩, by decide +kernel, by decide +kernel⟩
/-- EyeTrainerModel.noTray(I)I -/
def fX12_noTray (T : Sh) (M : Me) (x0 : Nat) (x1 : Int32) : Option (Int32) :=
  Option.bind (fX12_within (Int32.toInt64 x1) (0 : Int64) (3 : Int64)) fun r1 => if r1 = 0 then (some (-2 : Int32)) else (gd (kd T x0 = 11) <| Option.bind (gR M x0 40) fun a4 => gd (kd T a4 = 13) <| gv x1 (ln T a4) <| if (gI M a4 (Int32.toNatClampNeg x1)) = (-1 : Int32) then (some (-6 : Int32)) else (some (0 : Int32)))
set_option maxHeartbeats 4000000 in
theorem kX12_noTray {l : Launch} {B : Bx} {d : Nat} (hd : 1 ≤ d) {T : Sh} {M : Me} {x0 : Nat} {x1 : Int32} {r : Int32} (h : fX12_noTray T M x0 x1 = some r) : Kt l B yX12_noTray cX12_noTray 2 (some .int) d [.ref (x0), .int (x1)] T M (some (.int r)) T M := by
  refine kt_of wX12_noTray (Nat.le_refl _) (Nat.le_refl _) (Nat.le_of_ble_eq_true rfl) (fun X C hR hlx hin => ?_)
  subst hlx
  replace C : Cx X B cX12_noTray 2 RX12 d (tp T, sl T, tp T, sl T) := C
  unfold fX12_noTray at h
  show G X B 2 _ _ 0 [(0, .ref (x0)), (1, .int (x1))] [] T M
  refine g_iload_n (pc := 0) C dX12_noTray_0 rfl 1 rfl ?_
  refine g_i2l (pc := 1) C dX12_noTray_1 ?_
  refine g_lconst (pc := 2) (v := 0) C dX12_noTray_2 rfl ?_
  refine g_ldc2 (pc := 3) C dX12_noTray_3 q_1659 ?_
  replace h := bnd h; obtain ⟨r1, h1, h⟩ := h
  refine g_callSi (pc := 6) (As := [.long (Int32.toInt64 x1), .long ((0 : Int64)), .long ((3 : Int64))]) (st := []) C dX12_noTray_6 wX12_within q_1367 q_1366 (by omega) rfl (Nat.le_of_ble_eq_true rfl) (kX12_within (d := 0) (Nat.le_refl _) h1) ?_
  refine g_if_ne (pc := 9) (tgt := 17) C dX12_noTray_9 (by decide) (fun c2 => ?_) (fun c2 => ?_)
  · replace h := ifn c2 h
    refine g_aload_n (pc := 17) C dX12_noTray_17 rfl 0 rfl ?_
    replace h := gd_some h; obtain ⟨hk3, h⟩ := h
    refine g_get (pc := 18) (v := va_rf (gR M x0 40)) C dX12_noTray_18 kX12 hk3 40 (by decide) q_1267 rfl ?_
    replace h := bnd h; obtain ⟨a4, ea4, h⟩ := h
    refine g_refq ea4 ?_
    refine g_iload_n (pc := 21) C dX12_noTray_21 rfl 1 rfl ?_
    replace h := gd_some h; obtain ⟨hk5, h⟩ := h
    replace h := gv_some h; obtain ⟨hi6, h⟩ := h
    refine g_iald (pc := 22) C dX12_noTray_22 hk5 hi6 ?_
    refine g_iconst (pc := 23) (v := (-1)) C dX12_noTray_23 (by decide) ?_
    refine g_icmp_ne (pc := 24) (tgt := 32) C dX12_noTray_24 (by decide) (fun c7 => ?_) (fun c7 => ?_)
    · replace h := ifn c7 h
      refine g_iconst (pc := 32) (v := 0) C dX12_noTray_32 (by decide) ?_
      obtain rfl := Option.some.inj h
      exact g_iret C hR dX12_noTray_33
    · replace h := ifp c7 h
      refine g_bipush (pc := 27) (v := (-6)) C dX12_noTray_27 (by decide) ?_
      refine g_goto (pc := 29) (tgt := 33) C dX12_noTray_29 (by decide) ?_
      obtain rfl := Option.some.inj h
      exact g_iret C hR dX12_noTray_33
  · replace h := ifp c2 h
    refine g_bipush (pc := 12) (v := (-2)) C dX12_noTray_12 (by decide) ?_
    refine g_goto (pc := 14) (tgt := 33) C dX12_noTray_14 (by decide) ?_
    obtain rfl := Option.some.inj h
    exact g_iret C hR dX12_noTray_33
theorem dX12_judge_0 : decode cX12_judge 0 = .ok (.aload_n 0, 1) := by decide +kernel
theorem dX12_judge_1 : decode cX12_judge 1 = .ok (.iconst 0, 1) := by decide +kernel
theorem dX12_judge_2 : decode cX12_judge 2 = .ok (.putfield 1, 3) := by decide +kernel
theorem dX12_judge_5 : decode cX12_judge 5 = .ok (.iload_n 2, 1) := by decide +kernel
theorem dX12_judge_6 : decode cX12_judge 6 = .ok (.i2l, 1) := by decide +kernel
theorem dX12_judge_7 : decode cX12_judge 7 = .ok (.lconst 0, 1) := by decide +kernel
theorem dX12_judge_8 : decode cX12_judge 8 = .ok (.ldc2_w 384, 3) := by decide +kernel
theorem dX12_judge_11 : decode cX12_judge 11 = .ok (.invokestatic 139, 3) := by decide +kernel
theorem dX12_judge_14 : decode cX12_judge 14 = .ok (.ifCond .ne 6, 3) := by decide +kernel
theorem dX12_judge_17 : decode cX12_judge 17 = .ok (.bipush (-2), 2) := by decide +kernel
theorem dX12_judge_19 : decode cX12_judge 19 = .ok (.ireturn, 1) := by decide +kernel
theorem dX12_judge_20 : decode cX12_judge 20 = .ok (.aload_n 0, 1) := by decide +kernel
theorem dX12_judge_21 : decode cX12_judge 21 = .ok (.iload_n 1, 1) := by decide +kernel
theorem dX12_judge_22 : decode cX12_judge 22 = .ok (.invokevirtual 386, 3) := by decide +kernel
theorem dX12_judge_25 : decode cX12_judge 25 = .ok (.istore_n 3, 1) := by decide +kernel
theorem dX12_judge_26 : decode cX12_judge 26 = .ok (.iload_n 3, 1) := by decide +kernel
theorem dX12_judge_27 : decode cX12_judge 27 = .ok (.ifCond .eq 5, 3) := by decide +kernel
theorem dX12_judge_30 : decode cX12_judge 30 = .ok (.iload_n 3, 1) := by decide +kernel
theorem dX12_judge_31 : decode cX12_judge 31 = .ok (.ireturn, 1) := by decide +kernel
theorem dX12_judge_32 : decode cX12_judge 32 = .ok (.aload_n 0, 1) := by decide +kernel
theorem dX12_judge_33 : decode cX12_judge 33 = .ok (.invokevirtual 333, 3) := by decide +kernel
theorem dX12_judge_36 : decode cX12_judge 36 = .ok (.aload_n 0, 1) := by decide +kernel
theorem dX12_judge_37 : decode cX12_judge 37 = .ok (.iload_n 1, 1) := by decide +kernel
theorem dX12_judge_38 : decode cX12_judge 38 = .ok (.invokevirtual 389, 3) := by decide +kernel
theorem dX12_judge_41 : decode cX12_judge 41 = .ok (.istore 4, 2) := by decide +kernel
theorem dX12_judge_43 : decode cX12_judge 43 = .ok (.iconst 0, 1) := by decide +kernel
theorem dX12_judge_44 : decode cX12_judge 44 = .ok (.istore 5, 2) := by decide +kernel
theorem dX12_judge_46 : decode cX12_judge 46 = .ok (.iconst 0, 1) := by decide +kernel
theorem dX12_judge_47 : decode cX12_judge 47 = .ok (.istore 6, 2) := by decide +kernel
theorem dX12_judge_49 : decode cX12_judge 49 = .ok (.iload 6, 2) := by decide +kernel
theorem dX12_judge_51 : decode cX12_judge 51 = .ok (.aload_n 0, 1) := by decide +kernel
theorem dX12_judge_52 : decode cX12_judge 52 = .ok (.getfield 13, 3) := by decide +kernel
theorem dX12_judge_55 : decode cX12_judge 55 = .ok (.iconst 3, 1) := by decide +kernel
theorem dX12_judge_56 : decode cX12_judge 56 = .ok (.iaload, 1) := by decide +kernel
theorem dX12_judge_57 : decode cX12_judge 57 = .ok (.if_icmp .ge 24, 3) := by decide +kernel
theorem dX12_judge_60 : decode cX12_judge 60 = .ok (.iload 5, 2) := by decide +kernel
theorem dX12_judge_62 : decode cX12_judge 62 = .ok (.aload_n 0, 1) := by decide +kernel
theorem dX12_judge_63 : decode cX12_judge 63 = .ok (.getfield 13, 3) := by decide +kernel
theorem dX12_judge_66 : decode cX12_judge 66 = .ok (.bipush 42, 2) := by decide +kernel
theorem dX12_judge_68 : decode cX12_judge 68 = .ok (.iload 6, 2) := by decide +kernel
theorem dX12_judge_70 : decode cX12_judge 70 = .ok (.iadd, 1) := by decide +kernel
theorem dX12_judge_71 : decode cX12_judge 71 = .ok (.iaload, 1) := by decide +kernel
theorem dX12_judge_72 : decode cX12_judge 72 = .ok (.iadd, 1) := by decide +kernel
theorem dX12_judge_73 : decode cX12_judge 73 = .ok (.istore 5, 2) := by decide +kernel
theorem dX12_judge_75 : decode cX12_judge 75 = .ok (.iinc 6 1, 3) := by decide +kernel
theorem dX12_judge_78 : decode cX12_judge 78 = .ok (.goto (-29), 3) := by decide +kernel
theorem dX12_judge_81 : decode cX12_judge 81 = .ok (.aload_n 0, 1) := by decide +kernel
theorem dX12_judge_82 : decode cX12_judge 82 = .ok (.invokevirtual 349, 3) := by decide +kernel
theorem dX12_judge_85 : decode cX12_judge 85 = .ok (.istore 6, 2) := by decide +kernel
theorem dX12_judge_87 : decode cX12_judge 87 = .ok (.aload_n 0, 1) := by decide +kernel
theorem dX12_judge_88 : decode cX12_judge 88 = .ok (.invokevirtual 392, 3) := by decide +kernel
theorem dX12_judge_91 : decode cX12_judge 91 = .ok (.iload_n 2, 1) := by decide +kernel
theorem dX12_judge_92 : decode cX12_judge 92 = .ok (.ifCond .ne 19, 3) := by decide +kernel
theorem dX12_judge_95 : decode cX12_judge 95 = .ok (.aload_n 0, 1) := by decide +kernel
theorem dX12_judge_96 : decode cX12_judge 96 = .ok (.getfield 374, 3) := by decide +kernel
theorem dX12_judge_99 : decode cX12_judge 99 = .ok (.ifCond .ne 7, 3) := by decide +kernel
theorem dX12_judge_102 : decode cX12_judge 102 = .ok (.iconst (-1), 1) := by decide +kernel
theorem dX12_judge_103 : decode cX12_judge 103 = .ok (.goto 32, 3) := by decide +kernel
theorem dX12_judge_106 : decode cX12_judge 106 = .ok (.iload 4, 2) := by decide +kernel
theorem dX12_judge_108 : decode cX12_judge 108 = .ok (.goto 27, 3) := by decide +kernel
theorem dX12_judge_111 : decode cX12_judge 111 = .ok (.iload_n 2, 1) := by decide +kernel
theorem dX12_judge_112 : decode cX12_judge 112 = .ok (.iconst 1, 1) := by decide +kernel
theorem dX12_judge_113 : decode cX12_judge 113 = .ok (.if_icmp .ne 10, 3) := by decide +kernel
theorem dX12_judge_116 : decode cX12_judge 116 = .ok (.aload_n 0, 1) := by decide +kernel
theorem dX12_judge_117 : decode cX12_judge 117 = .ok (.getfield 374, 3) := by decide +kernel
theorem dX12_judge_120 : decode cX12_judge 120 = .ok (.goto 15, 3) := by decide +kernel
theorem dX12_judge_123 : decode cX12_judge 123 = .ok (.iload_n 2, 1) := by decide +kernel
theorem dX12_judge_124 : decode cX12_judge 124 = .ok (.iconst 2, 1) := by decide +kernel
theorem dX12_judge_125 : decode cX12_judge 125 = .ok (.if_icmp .ne 8, 3) := by decide +kernel
theorem dX12_judge_128 : decode cX12_judge 128 = .ok (.iload 5, 2) := by decide +kernel
theorem dX12_judge_130 : decode cX12_judge 130 = .ok (.goto 5, 3) := by decide +kernel
theorem dX12_judge_133 : decode cX12_judge 133 = .ok (.iload 6, 2) := by decide +kernel
theorem dX12_judge_135 : decode cX12_judge 135 = .ok (.ireturn, 1) := by decide +kernel
theorem wX12_judge : Mw yX12_judge cX12_judge 7 (some .int) 2 := ⟨q_1658, q_130, by decide, ⟨by decide +kernel, by decide +kernel⟩, by decide +kernel, by decide +kernel⟩
-- a loop of EyeTrainerModel.judge at 49
def bX12_judge_49 (T : Sh) (M : Me) (x0 : Nat) (x2 : Int32) (x4 : Int32) (x5 : Int32) (x6 : Int32) : Option ((Int32 × Int32) ⊕ (Int32)) :=
  gd (kd T x0 = 11) <| Option.bind (gR M x0 1) fun a11 => gd (kd T a11 = 13) <| gv (3 : Int32) (ln T a11) <| if (gI M a11 (Int32.toNatClampNeg (3 : Int32))) ≤ x6 then (some (.inr x5)) else (Option.bind (gR M x0 1) fun a15 => gd (kd T a15 = 13) <| gv ((42 : Int32) + x6) (ln T a15) <| lt (x5 + (gI M a15 (Int32.toNatClampNeg ((42 : Int32) + x6)))) fun v18 => lt (x6 + (1 : Int32)) fun v19 => some (.inl (v18, v19)))
def PX12_judge_49 (X : Fx) (B : Bx) (Z : Nat × Nat × Nat × Nat) (Q : State → Prop) (T : Sh) (M : Me) (x0 : Nat) (x2 : Int32) (x4 : Int32) (s : Int32 × Int32) : Prop := G X B 7 Z Q 49 [(0, .ref (x0)), (2, .int (x2)), (4, .int (x4)), (5, .int (s.1)), (6, .int (s.2))] [] T M
def EX12_judge_49 (X : Fx) (B : Bx) (Z : Nat × Nat × Nat × Nat) (Q : State → Prop) (T : Sh) (M : Me) (x0 : Nat) (x2 : Int32) (x4 : Int32) (r : Int32) : Prop := G X B 7 Z Q 81 [(0, .ref (x0)), (2, .int (x2)), (4, .int (x4)), (5, .int (r))] [] T M
set_option maxHeartbeats 4000000 in
theorem tbX12_judge_49 {X : Fx} {B : Bx} {Z : Nat × Nat × Nat × Nat} {Q : State → Prop} {d : Nat} {T : Sh} {M : Me} (C : Cx X B cX12_judge 7 RX12 d Z) (hd : 8 ≤ d) {x0 : Nat} {x2 : Int32} {x4 : Int32} : ∀ (s : Int32 × Int32) (o : (Int32 × Int32) ⊕ (Int32)), bX12_judge_49 T M x0 x2 x4 s.1 s.2 = some o → lpE (PX12_judge_49 X B Z Q T M x0 x2 x4) (EX12_judge_49 X B Z Q T M x0 x2 x4) o → PX12_judge_49 X B Z Q T M x0 x2 x4 s := by
  rintro ⟨x5, x6⟩ o h hE
  replace h : bX12_judge_49 T M x0 x2 x4 x5 x6 = some o := h
  unfold bX12_judge_49 at h
  show G X B 7 Z Q 49 [(0, .ref (x0)), (2, .int (x2)), (4, .int (x4)), (5, .int (x5)), (6, .int (x6))] [] T M
  refine g_iload (pc := 49) C dX12_judge_49 4 rfl ?_
  refine g_aload_n (pc := 51) C dX12_judge_51 rfl 0 rfl ?_
  replace h := gd_some h; obtain ⟨hk10, h⟩ := h
  refine g_get (pc := 52) (v := va_rf (gR M x0 1)) C dX12_judge_52 kX12 hk10 1 (by decide) q_1228 rfl ?_
  replace h := bnd h; obtain ⟨a11, ea11, h⟩ := h
  refine g_refq ea11 ?_
  refine g_iconst (pc := 55) (v := 3) C dX12_judge_55 (by decide) ?_
  replace h := gd_some h; obtain ⟨hk12, h⟩ := h
  replace h := gv_some h; obtain ⟨hi13, h⟩ := h
  refine g_iald (pc := 56) C dX12_judge_56 hk12 hi13 ?_
  refine g_icmp_ge (pc := 57) (tgt := 81) C dX12_judge_57 (by decide) (fun c14 => ?_) (fun c14 => ?_)
  · replace h := ifp c14 h
    obtain rfl := Option.some.inj h
    exact g_sub [0, 1, 2, 3] rfl (show G X B 7 Z Q 81 [(0, .ref (x0)), (2, .int (x2)), (4, .int (x4)), (5, .int (x5))] [] T M from hE)
  · replace h := ifn c14 h
    refine g_iload (pc := 60) C dX12_judge_60 3 rfl ?_
    refine g_aload_n (pc := 62) C dX12_judge_62 rfl 0 rfl ?_
    refine g_get (pc := 63) (v := va_rf (gR M x0 1)) C dX12_judge_63 kX12 hk10 1 (by decide) q_1228 rfl ?_
    replace h := bnd h; obtain ⟨a15, ea15, h⟩ := h
    refine g_refq ea15 ?_
    refine g_bipush (pc := 66) (v := 42) C dX12_judge_66 (by decide) ?_
    refine g_iload (pc := 68) C dX12_judge_68 4 rfl ?_
    refine g_iadd (pc := 70) C dX12_judge_70 ?_
    replace h := gd_some h; obtain ⟨hk16, h⟩ := h
    replace h := gv_some h; obtain ⟨hi17, h⟩ := h
    refine g_iald (pc := 71) C dX12_judge_71 hk16 hi17 ?_
    refine g_iadd (pc := 72) C dX12_judge_72 ?_
    refine g_topi (fun v18 ev18 => ?_)
    replace h := lt_at ev18 h
    refine g_istore (pc := 73) (lo2 := [(5, .int (v18)), (0, .ref (x0)), (2, .int (x2)), (4, .int (x4)), (6, .int (x6))]) C dX12_judge_73 (by decide) rfl ?_
    obtain ⟨v19, ev19⟩ : ∃ y : Int32, y = x6 + (1 : Int32) := ⟨_, rfl⟩
    replace h := lt_at ev19 h
    refine g_iinc (pc := 75) (v := v19) (k := 4) (lo2 := [(6, .int (v19)), (5, .int (v18)), (0, .ref (x0)), (2, .int (x2)), (4, .int (x4))]) C dX12_judge_75 rfl (by rw [ev19]; rfl) (by decide) rfl ?_
    refine g_goto (pc := 78) (tgt := 49) C dX12_judge_78 (by decide) ?_
    obtain rfl := Option.some.inj h
    exact g_sub [2, 3, 4, 1, 0] rfl (show G X B 7 Z Q 49 [(0, .ref (x0)), (2, .int (x2)), (4, .int (x4)), (5, .int (v18)), (6, .int (v19))] [] T M from hE)
/-- EyeTrainerModel.judge(II)I -/
def fX12_judge (T : Sh) (M : Me) (x0 : Nat) (x1 : Int32) (x2 : Int32) : Option (Int32 × Me) :=
  gd (kd T x0 = 11) <| lt (pI M x0 0 (0 : Int32)) fun M2 => Option.bind (fX12_within (Int32.toInt64 x2) (0 : Int64) (3 : Int64)) fun r3 => if r3 = 0 then (some ((-2 : Int32), M2)) else (Option.bind (fX12_noTray T M2 x0 x1) fun r5 => if r5 = 0 then (Option.bind (fX12_stores T M2 x0) <| un2 fun _u M7 => Option.bind (fX12_tells T M7 x0 x1) <| un2 fun r8 M9 => (lp FU (fun s => bX12_judge_49 T M9 x0 x2 r8 s.1 s.2) ((0 : Int32), (0 : Int32))).bind (fun x5_20 => Option.bind (fX12_passedNow T M9 x0) <| un2 fun r21 M22 => Option.bind (fX12_isAgain T M22 x0) <| un2 fun _u M23 => if x2 = 0 then (if (gI M23 x0 31) = 0 then (some ((-1 : Int32), M23)) else (some (r8, M23))) else (if x2 = (1 : Int32) then (some ((gI M23 x0 31), M23)) else (if x2 = (2 : Int32) then (some (x5_20, M23)) else (some (r21, M23)))))) else (some (r5, M2)))
set_option maxHeartbeats 4000000 in
theorem kX12_judge {l : Launch} {B : Bx} {d : Nat} (hd : 8 ≤ d) {T : Sh} {M : Me} {x0 : Nat} {x1 : Int32} {x2 : Int32} {r : Int32} {M' : Me} (h : fX12_judge T M x0 x1 x2 = some (r, M')) : Kt l B yX12_judge cX12_judge 7 (some .int) d [.ref (x0), .int (x1), .int (x2)] T M (some (.int r)) T M' := by
  refine kt_of wX12_judge (Nat.le_refl _) (Nat.le_refl _) (Nat.le_of_ble_eq_true rfl) (fun X C hR hlx hin => ?_)
  subst hlx
  replace C : Cx X B cX12_judge 7 RX12 d (tp T, sl T, tp T, sl T) := C
  unfold fX12_judge at h
  show G X B 7 _ _ 0 [(0, .ref (x0)), (1, .int (x1)), (2, .int (x2))] [] T M
  refine g_aload_n (pc := 0) C dX12_judge_0 rfl 0 rfl ?_
  refine g_iconst (pc := 1) (v := 0) C dX12_judge_1 (by decide) ?_
  replace h := gd_some h; obtain ⟨hk1, h⟩ := h
  refine g_putI (pc := 2) C dX12_judge_2 kX12 hk1 0 (by decide) rfl rfl rfl q_1227 ?_
  refine g_mem (fun M2 eM2 => ?_)
  replace h := lt_at eM2 h
  refine g_iload_n (pc := 5) C dX12_judge_5 rfl 2 rfl ?_
  refine g_i2l (pc := 6) C dX12_judge_6 ?_
  refine g_lconst (pc := 7) (v := 0) C dX12_judge_7 rfl ?_
  refine g_ldc2 (pc := 8) C dX12_judge_8 q_1659 ?_
  replace h := bnd h; obtain ⟨r3, h1, h⟩ := h
  refine g_callSi (pc := 11) (As := [.long (Int32.toInt64 x2), .long ((0 : Int64)), .long ((3 : Int64))]) (st := []) C dX12_judge_11 wX12_within q_1367 q_1366 (by omega) rfl (Nat.le_of_ble_eq_true rfl) (kX12_within (d := 0) (Nat.le_refl _) h1) ?_
  refine g_if_ne (pc := 14) (tgt := 20) C dX12_judge_14 (by decide) (fun c4 => ?_) (fun c4 => ?_)
  · replace h := ifn c4 h
    refine g_aload_n (pc := 20) C dX12_judge_20 rfl 0 rfl ?_
    refine g_iload_n (pc := 21) C dX12_judge_21 rfl 1 rfl ?_
    replace h := bnd h; obtain ⟨r5, h1, h⟩ := h
    refine g_callVi (pc := 22) (As := [.int (x1)]) (st := []) C dX12_judge_22 wX12_noTray hk1 rfl (by decide) q_1662 q_101 q_1660 (by omega) rfl (Nat.le_of_ble_eq_true rfl) (kX12_noTray (d := 1) (Nat.le_refl _) h1) ?_
    refine g_istore_n (pc := 25) (lo2 := [(3, .int (r5)), (0, .ref (x0)), (1, .int (x1)), (2, .int (x2))]) C dX12_judge_25 rfl (by decide) rfl ?_
    refine g_iload_n (pc := 26) C dX12_judge_26 rfl 0 rfl ?_
    refine g_if_eq (pc := 27) (tgt := 32) C dX12_judge_27 (by decide) (fun c6 => ?_) (fun c6 => ?_)
    · replace h := ifp c6 h
      refine g_aload_n (pc := 32) C dX12_judge_32 rfl 1 rfl ?_
      replace h := bnd2 h; obtain ⟨_u, M7, h1, h⟩ := h
      refine g_callVv (pc := 33) (As := []) (st := []) C dX12_judge_33 wX12_stores hk1 rfl (by decide) q_1560 q_85 q_1558 (by omega) rfl (Nat.le_of_ble_eq_true rfl) (kX12_stores (d := 0) (Nat.le_refl _) h1) ?_
      refine g_aload_n (pc := 36) C dX12_judge_36 rfl 1 rfl ?_
      refine g_iload_n (pc := 37) C dX12_judge_37 rfl 2 rfl ?_
      replace h := bnd2 h; obtain ⟨r8, M9, h1, h⟩ := h
      refine g_callVi (pc := 38) (As := [.int (x1)]) (st := []) C dX12_judge_38 wX12_tells hk1 rfl (by decide) q_1666 q_102 q_1664 (by omega) rfl (Nat.le_of_ble_eq_true rfl) (kX12_tells (d := 7) (Nat.le_refl _) h1) ?_
      refine g_istore (pc := 41) (lo2 := [(4, .int (r8)), (3, .int (r5)), (0, .ref (x0)), (1, .int (x1)), (2, .int (x2))]) C dX12_judge_41 (by decide) rfl ?_
      refine g_iconst (pc := 43) (v := 0) C dX12_judge_43 (by decide) ?_
      refine g_istore (pc := 44) (lo2 := [(5, .int ((0 : Int32))), (4, .int (r8)), (3, .int (r5)), (0, .ref (x0)), (1, .int (x1)), (2, .int (x2))]) C dX12_judge_44 (by decide) rfl ?_
      refine g_iconst (pc := 46) (v := 0) C dX12_judge_46 (by decide) ?_
      refine g_istore (pc := 47) (lo2 := [(6, .int ((0 : Int32))), (5, .int ((0 : Int32))), (4, .int (r8)), (3, .int (r5)), (0, .ref (x0)), (1, .int (x1)), (2, .int (x2))]) C dX12_judge_47 (by decide) rfl ?_
      replace h := bnd h; obtain ⟨x5_20, h1, h⟩ := h
      refine g_sub [4, 6, 2, 1, 0] rfl ?_
      refine lp_G2 (P := PX12_judge_49 X B _ _ T M9 x0 x2 r8) (E := EX12_judge_49 X B _ _ T M9 x0 x2 r8) (tbX12_judge_49 C hd) h1 ?_
      show G X B 7 _ _ 81 [(0, .ref (x0)), (2, .int (x2)), (4, .int (r8)), (5, .int (x5_20))] [] T M9
      refine g_aload_n (pc := 81) C dX12_judge_81 rfl 0 rfl ?_
      replace h := bnd2 h; obtain ⟨r21, M22, h1, h⟩ := h
      refine g_callVi (pc := 82) (As := []) (st := []) C dX12_judge_82 wX12_passedNow hk1 rfl (by decide) q_1639 q_100 q_1637 (by omega) rfl (Nat.le_of_ble_eq_true rfl) (kX12_passedNow (d := 4) (Nat.le_refl _) h1) ?_
      refine g_istore (pc := 85) (lo2 := [(6, .int (r21)), (0, .ref (x0)), (2, .int (x2)), (4, .int (r8)), (5, .int (x5_20))]) C dX12_judge_85 (by decide) rfl ?_
      refine g_aload_n (pc := 87) C dX12_judge_87 rfl 1 rfl ?_
      replace h := bnd2 h; obtain ⟨_u, M23, h1, h⟩ := h
      refine g_callVv (pc := 88) (As := []) (st := []) C dX12_judge_88 wX12_isAgain hk1 rfl (by decide) q_1685 q_105 q_1683 (by omega) rfl (Nat.le_of_ble_eq_true rfl) (kX12_isAgain (d := 0) (Nat.le_refl _) h1) ?_
      refine g_iload_n (pc := 91) C dX12_judge_91 rfl 2 rfl ?_
      refine g_if_ne (pc := 92) (tgt := 111) C dX12_judge_92 (by decide) (fun c24 => ?_) (fun c24 => ?_)
      · replace h := ifn c24 h
        refine g_iload_n (pc := 111) C dX12_judge_111 rfl 2 rfl ?_
        refine g_iconst (pc := 112) (v := 1) C dX12_judge_112 (by decide) ?_
        refine g_icmp_ne (pc := 113) (tgt := 123) C dX12_judge_113 (by decide) (fun c25 => ?_) (fun c25 => ?_)
        · replace h := ifn c25 h
          refine g_iload_n (pc := 123) C dX12_judge_123 rfl 2 rfl ?_
          refine g_iconst (pc := 124) (v := 2) C dX12_judge_124 (by decide) ?_
          refine g_icmp_ne (pc := 125) (tgt := 133) C dX12_judge_125 (by decide) (fun c26 => ?_) (fun c26 => ?_)
          · replace h := ifn c26 h
            refine g_iload (pc := 133) C dX12_judge_133 0 rfl ?_
            obtain ⟨rfl, rfl⟩ := Prod.mk.inj (Option.some.inj h)
            exact g_iret C hR dX12_judge_135
          · replace h := ifp c26 h
            refine g_iload (pc := 128) C dX12_judge_128 4 rfl ?_
            refine g_goto (pc := 130) (tgt := 135) C dX12_judge_130 (by decide) ?_
            obtain ⟨rfl, rfl⟩ := Prod.mk.inj (Option.some.inj h)
            exact g_iret C hR dX12_judge_135
        · replace h := ifp c25 h
          refine g_aload_n (pc := 116) C dX12_judge_116 rfl 1 rfl ?_
          refine g_get (pc := 117) (v := .int (gI M23 x0 31)) C dX12_judge_117 kX12 hk1 31 (by decide) q_1258 rfl ?_
          refine g_goto (pc := 120) (tgt := 135) C dX12_judge_120 (by decide) ?_
          obtain ⟨rfl, rfl⟩ := Prod.mk.inj (Option.some.inj h)
          exact g_iret C hR dX12_judge_135
      · replace h := ifp c24 h
        refine g_aload_n (pc := 95) C dX12_judge_95 rfl 1 rfl ?_
        refine g_get (pc := 96) (v := .int (gI M23 x0 31)) C dX12_judge_96 kX12 hk1 31 (by decide) q_1258 rfl ?_
        refine g_if_ne (pc := 99) (tgt := 106) C dX12_judge_99 (by decide) (fun c27 => ?_) (fun c27 => ?_)
        · replace h := ifn c27 h
          refine g_iload (pc := 106) C dX12_judge_106 3 rfl ?_
          refine g_goto (pc := 108) (tgt := 135) C dX12_judge_108 (by decide) ?_
          obtain ⟨rfl, rfl⟩ := Prod.mk.inj (Option.some.inj h)
          exact g_iret C hR dX12_judge_135
        · replace h := ifp c27 h
          refine g_iconst (pc := 102) (v := (-1)) C dX12_judge_102 (by decide) ?_
          refine g_goto (pc := 103) (tgt := 135) C dX12_judge_103 (by decide) ?_
          obtain ⟨rfl, rfl⟩ := Prod.mk.inj (Option.some.inj h)
          exact g_iret C hR dX12_judge_135
    · replace h := ifn c6 h
      refine g_iload_n (pc := 30) C dX12_judge_30 rfl 0 rfl ?_
      obtain ⟨rfl, rfl⟩ := Prod.mk.inj (Option.some.inj h)
      exact g_iret C hR dX12_judge_31
  · replace h := ifp c4 h
    refine g_bipush (pc := 17) (v := (-2)) C dX12_judge_17 (by decide) ?_
    obtain ⟨rfl, rfl⟩ := Prod.mk.inj (Option.some.inj h)
    exact g_iret C hR dX12_judge_19
theorem dX12_perform_0 : decode cX12_perform 0 = .ok (.aload_n 0, 1) := by decide +kernel
theorem dX12_perform_1 : decode cX12_perform 1 = .ok (.iconst 0, 1) := by decide +kernel
theorem dX12_perform_2 : decode cX12_perform 2 = .ok (.putfield 1, 3) := by decide +kernel
theorem dX12_perform_5 : decode cX12_perform 5 = .ok (.aload_n 0, 1) := by decide +kernel
theorem dX12_perform_6 : decode cX12_perform 6 = .ok (.iload_n 1, 1) := by decide +kernel
theorem dX12_perform_7 : decode cX12_perform 7 = .ok (.invokevirtual 386, 3) := by decide +kernel
theorem dX12_perform_10 : decode cX12_perform 10 = .ok (.istore_n 2, 1) := by decide +kernel
theorem dX12_perform_11 : decode cX12_perform 11 = .ok (.iload_n 2, 1) := by decide +kernel
theorem dX12_perform_12 : decode cX12_perform 12 = .ok (.ifCond .eq 5, 3) := by decide +kernel
theorem dX12_perform_15 : decode cX12_perform 15 = .ok (.iload_n 2, 1) := by decide +kernel
theorem dX12_perform_16 : decode cX12_perform 16 = .ok (.ireturn, 1) := by decide +kernel
theorem dX12_perform_17 : decode cX12_perform 17 = .ok (.aload_n 0, 1) := by decide +kernel
theorem dX12_perform_18 : decode cX12_perform 18 = .ok (.invokevirtual 333, 3) := by decide +kernel
theorem dX12_perform_21 : decode cX12_perform 21 = .ok (.aload_n 0, 1) := by decide +kernel
theorem dX12_perform_22 : decode cX12_perform 22 = .ok (.iload_n 1, 1) := by decide +kernel
theorem dX12_perform_23 : decode cX12_perform 23 = .ok (.invokevirtual 389, 3) := by decide +kernel
theorem dX12_perform_26 : decode cX12_perform 26 = .ok (.istore_n 3, 1) := by decide +kernel
theorem dX12_perform_27 : decode cX12_perform 27 = .ok (.iload_n 3, 1) := by decide +kernel
theorem dX12_perform_28 : decode cX12_perform 28 = .ok (.ifCond .le 7, 3) := by decide +kernel
theorem dX12_perform_31 : decode cX12_perform 31 = .ok (.aload_n 0, 1) := by decide +kernel
theorem dX12_perform_32 : decode cX12_perform 32 = .ok (.invokevirtual 336, 3) := by decide +kernel
theorem dX12_perform_35 : decode cX12_perform 35 = .ok (.iload_n 3, 1) := by decide +kernel
theorem dX12_perform_36 : decode cX12_perform 36 = .ok (.ireturn, 1) := by decide +kernel
theorem wX12_perform : Mw yX12_perform cX12_perform 4 (some .int) 1 := ⟨q_1690, q_130, by decide, ⟨by decide +kernel, by decide +kernel⟩, by decide +kernel, by decide +kernel⟩
/-- EyeTrainerModel.perform(I)I -/
def fX12_perform (T : Sh) (M : Me) (x0 : Nat) (x1 : Int32) : Option (Int32 × Me) :=
  gd (kd T x0 = 11) <| lt (pI M x0 0 (0 : Int32)) fun M2 => Option.bind (fX12_noTray T M2 x0 x1) fun r3 => if r3 = 0 then (Option.bind (fX12_stores T M2 x0) <| un2 fun _u M5 => Option.bind (fX12_tells T M5 x0 x1) <| un2 fun r6 M7 => if r6 ≤ 0 then (some (r6, M7)) else (Option.bind (fX12_notes T M7 x0) <| un2 fun _u M9 => some (r6, M9))) else (some (r3, M2))
set_option maxHeartbeats 4000000 in
theorem kX12_perform {l : Launch} {B : Bx} {d : Nat} (hd : 8 ≤ d) {T : Sh} {M : Me} {x0 : Nat} {x1 : Int32} {r : Int32} {M' : Me} (h : fX12_perform T M x0 x1 = some (r, M')) : Kt l B yX12_perform cX12_perform 4 (some .int) d [.ref (x0), .int (x1)] T M (some (.int r)) T M' := by
  refine kt_of wX12_perform (Nat.le_refl _) (Nat.le_refl _) (Nat.le_of_ble_eq_true rfl) (fun X C hR hlx hin => ?_)
  subst hlx
  replace C : Cx X B cX12_perform 4 RX12 d (tp T, sl T, tp T, sl T) := C
  unfold fX12_perform at h
  show G X B 4 _ _ 0 [(0, .ref (x0)), (1, .int (x1))] [] T M
  refine g_aload_n (pc := 0) C dX12_perform_0 rfl 0 rfl ?_
  refine g_iconst (pc := 1) (v := 0) C dX12_perform_1 (by decide) ?_
  replace h := gd_some h; obtain ⟨hk1, h⟩ := h
  refine g_putI (pc := 2) C dX12_perform_2 kX12 hk1 0 (by decide) rfl rfl rfl q_1227 ?_
  refine g_mem (fun M2 eM2 => ?_)
  replace h := lt_at eM2 h
  refine g_aload_n (pc := 5) C dX12_perform_5 rfl 0 rfl ?_
  refine g_iload_n (pc := 6) C dX12_perform_6 rfl 1 rfl ?_
  replace h := bnd h; obtain ⟨r3, h1, h⟩ := h
  refine g_callVi (pc := 7) (As := [.int (x1)]) (st := []) C dX12_perform_7 wX12_noTray hk1 rfl (by decide) q_1662 q_101 q_1660 (by omega) rfl (Nat.le_of_ble_eq_true rfl) (kX12_noTray (d := 1) (Nat.le_refl _) h1) ?_
  refine g_istore_n (pc := 10) (lo2 := [(2, .int (r3)), (0, .ref (x0)), (1, .int (x1))]) C dX12_perform_10 rfl (by decide) rfl ?_
  refine g_iload_n (pc := 11) C dX12_perform_11 rfl 0 rfl ?_
  refine g_if_eq (pc := 12) (tgt := 17) C dX12_perform_12 (by decide) (fun c4 => ?_) (fun c4 => ?_)
  · replace h := ifp c4 h
    refine g_aload_n (pc := 17) C dX12_perform_17 rfl 1 rfl ?_
    replace h := bnd2 h; obtain ⟨_u, M5, h1, h⟩ := h
    refine g_callVv (pc := 18) (As := []) (st := []) C dX12_perform_18 wX12_stores hk1 rfl (by decide) q_1560 q_85 q_1558 (by omega) rfl (Nat.le_of_ble_eq_true rfl) (kX12_stores (d := 0) (Nat.le_refl _) h1) ?_
    refine g_aload_n (pc := 21) C dX12_perform_21 rfl 1 rfl ?_
    refine g_iload_n (pc := 22) C dX12_perform_22 rfl 2 rfl ?_
    replace h := bnd2 h; obtain ⟨r6, M7, h1, h⟩ := h
    refine g_callVi (pc := 23) (As := [.int (x1)]) (st := []) C dX12_perform_23 wX12_tells hk1 rfl (by decide) q_1666 q_102 q_1664 (by omega) rfl (Nat.le_of_ble_eq_true rfl) (kX12_tells (d := 7) (Nat.le_refl _) h1) ?_
    refine g_istore_n (pc := 26) (lo2 := [(3, .int (r6)), (2, .int (r3)), (0, .ref (x0)), (1, .int (x1))]) C dX12_perform_26 rfl (by decide) rfl ?_
    refine g_iload_n (pc := 27) C dX12_perform_27 rfl 0 rfl ?_
    refine g_if_le (pc := 28) (tgt := 35) C dX12_perform_28 (by decide) (fun c8 => ?_) (fun c8 => ?_)
    · replace h := ifp c8 h
      refine g_iload_n (pc := 35) C dX12_perform_35 rfl 0 rfl ?_
      obtain ⟨rfl, rfl⟩ := Prod.mk.inj (Option.some.inj h)
      exact g_iret C hR dX12_perform_36
    · replace h := ifn c8 h
      refine g_aload_n (pc := 31) C dX12_perform_31 rfl 2 rfl ?_
      replace h := bnd2 h; obtain ⟨_u, M9, h1, h⟩ := h
      refine g_callVv (pc := 32) (As := []) (st := []) C dX12_perform_32 wX12_notes hk1 rfl (by decide) q_1564 q_86 q_1562 (by omega) rfl (Nat.le_of_ble_eq_true rfl) (kX12_notes (d := 0) (Nat.le_refl _) h1) ?_
      refine g_iload_n (pc := 35) C dX12_perform_35 rfl 0 rfl ?_
      obtain ⟨rfl, rfl⟩ := Prod.mk.inj (Option.some.inj h)
      exact g_iret C hR dX12_perform_36
  · replace h := ifn c4 h
    refine g_iload_n (pc := 15) C dX12_perform_15 rfl 0 rfl ?_
    obtain ⟨rfl, rfl⟩ := Prod.mk.inj (Option.some.inj h)
    exact g_iret C hR dX12_perform_16
theorem dX12_draw_0 : decode cX12_draw 0 = .ok (.aload_n 0, 1) := by decide +kernel
theorem dX12_draw_1 : decode cX12_draw 1 = .ok (.ldc_w 395, 3) := by decide +kernel
theorem dX12_draw_4 : decode cX12_draw 4 = .ok (.aload_n 0, 1) := by decide +kernel
theorem dX12_draw_5 : decode cX12_draw 5 = .ok (.getfield 396, 3) := by decide +kernel
theorem dX12_draw_8 : decode cX12_draw 8 = .ok (.imul, 1) := by decide +kernel
theorem dX12_draw_9 : decode cX12_draw 9 = .ok (.sipush 12345, 3) := by decide +kernel
theorem dX12_draw_12 : decode cX12_draw 12 = .ok (.iadd, 1) := by decide +kernel
theorem dX12_draw_13 : decode cX12_draw 13 = .ok (.putfield 396, 3) := by decide +kernel
theorem dX12_draw_16 : decode cX12_draw 16 = .ok (.aload_n 0, 1) := by decide +kernel
theorem dX12_draw_17 : decode cX12_draw 17 = .ok (.getfield 396, 3) := by decide +kernel
theorem dX12_draw_20 : decode cX12_draw 20 = .ok (.bipush 16, 2) := by decide +kernel
theorem dX12_draw_22 : decode cX12_draw 22 = .ok (.iushr, 1) := by decide +kernel
theorem dX12_draw_23 : decode cX12_draw 23 = .ok (.iload_n 1, 1) := by decide +kernel
theorem dX12_draw_24 : decode cX12_draw 24 = .ok (.irem, 1) := by decide +kernel
theorem dX12_draw_25 : decode cX12_draw 25 = .ok (.ireturn, 1) := by decide +kernel
theorem wX12_draw : Mw yX12_draw cX12_draw 2 (some .int) 1 := ⟨q_1703, q_130, by decide, ⟨by decide +kernel, by decide +kernel⟩, by decide +kernel, by decide +kernel⟩
/-- EyeTrainerModel.draw(I)I -/
def fX12_draw (T : Sh) (M : Me) (x0 : Nat) (x1 : Int32) : Option (Int32 × Me) :=
  gd (kd T x0 = 11) <| lt (pI M x0 32 (((1103515245 : Int32) * (gI M x0 32)) + (12345 : Int32))) fun M2 => gd (¬ x1 = 0) <| some ((((Int32.toUInt32 (gI M2 x0 32) >>> (Int32.toUInt32 (16 : Int32) &&& Int32.toUInt32 31)).toInt32) - ((Int32.toUInt32 (gI M2 x0 32) >>> (Int32.toUInt32 (16 : Int32) &&& Int32.toUInt32 31)).toInt32) / x1 * x1), M2)
set_option maxHeartbeats 4000000 in
theorem kX12_draw {l : Launch} {B : Bx} {d : Nat} (hd : 0 ≤ d) {T : Sh} {M : Me} {x0 : Nat} {x1 : Int32} {r : Int32} {M' : Me} (h : fX12_draw T M x0 x1 = some (r, M')) : Kt l B yX12_draw cX12_draw 2 (some .int) d [.ref (x0), .int (x1)] T M (some (.int r)) T M' := by
  refine kt_of wX12_draw (Nat.le_refl _) (Nat.le_refl _) (Nat.le_of_ble_eq_true rfl) (fun X C hR hlx hin => ?_)
  subst hlx
  replace C : Cx X B cX12_draw 2 RX12 d (tp T, sl T, tp T, sl T) := C
  unfold fX12_draw at h
  show G X B 2 _ _ 0 [(0, .ref (x0)), (1, .int (x1))] [] T M
  refine g_aload_n (pc := 0) C dX12_draw_0 rfl 0 rfl ?_
  refine g_ldcw (pc := 1) C dX12_draw_1 q_1704 ?_
  refine g_aload_n (pc := 4) C dX12_draw_4 rfl 0 rfl ?_
  replace h := gd_some h; obtain ⟨hk1, h⟩ := h
  refine g_get (pc := 5) (v := .int (gI M x0 32)) C dX12_draw_5 kX12 hk1 32 (by decide) q_1259 rfl ?_
  refine g_imul (pc := 8) C dX12_draw_8 ?_
  refine g_sipush (pc := 9) (v := 12345) C dX12_draw_9 (by decide) ?_
  refine g_iadd (pc := 12) C dX12_draw_12 ?_
  refine g_putI (pc := 13) C dX12_draw_13 kX12 hk1 32 (by decide) rfl rfl rfl q_1259 ?_
  refine g_mem (fun M2 eM2 => ?_)
  replace h := lt_at eM2 h
  refine g_aload_n (pc := 16) C dX12_draw_16 rfl 0 rfl ?_
  refine g_get (pc := 17) (v := .int (gI M2 x0 32)) C dX12_draw_17 kX12 hk1 32 (by decide) q_1259 rfl ?_
  refine g_bipush (pc := 20) (v := 16) C dX12_draw_20 (by decide) ?_
  refine g_iushr (pc := 22) C dX12_draw_22 ?_
  refine g_iload_n (pc := 23) C dX12_draw_23 rfl 1 rfl ?_
  replace h := gd_some h; obtain ⟨hz3, h⟩ := h
  refine g_irem (pc := 24) C dX12_draw_24 hz3 ?_
  obtain ⟨rfl, rfl⟩ := Prod.mk.inj (Option.some.inj h)
  exact g_iret C hR dX12_draw_25
theorem dX12_drawn_0 : decode cX12_drawn 0 = .ok (.aload_n 0, 1) := by decide +kernel
theorem dX12_drawn_1 : decode cX12_drawn 1 = .ok (.bipush 6, 2) := by decide +kernel
theorem dX12_drawn_3 : decode cX12_drawn 3 = .ok (.invokevirtual 399, 3) := by decide +kernel
theorem dX12_drawn_6 : decode cX12_drawn 6 = .ok (.istore_n 1, 1) := by decide +kernel
theorem dX12_drawn_7 : decode cX12_drawn 7 = .ok (.iload_n 1, 1) := by decide +kernel
theorem dX12_drawn_8 : decode cX12_drawn 8 = .ok (.iconst 3, 1) := by decide +kernel
theorem dX12_drawn_9 : decode cX12_drawn 9 = .ok (.if_icmp .ge 13, 3) := by decide +kernel
theorem dX12_drawn_12 : decode cX12_drawn 12 = .ok (.iload_n 1, 1) := by decide +kernel
theorem dX12_drawn_13 : decode cX12_drawn 13 = .ok (.ifCond .ne 7, 3) := by decide +kernel
theorem dX12_drawn_16 : decode cX12_drawn 16 = .ok (.iconst 0, 1) := by decide +kernel
theorem dX12_drawn_17 : decode cX12_drawn 17 = .ok (.goto 4, 3) := by decide +kernel
theorem dX12_drawn_20 : decode cX12_drawn 20 = .ok (.iconst 1, 1) := by decide +kernel
theorem dX12_drawn_21 : decode cX12_drawn 21 = .ok (.ireturn, 1) := by decide +kernel
theorem dX12_drawn_22 : decode cX12_drawn 22 = .ok (.iload_n 1, 1) := by decide +kernel
theorem dX12_drawn_23 : decode cX12_drawn 23 = .ok (.iconst 3, 1) := by decide +kernel
theorem dX12_drawn_24 : decode cX12_drawn 24 = .ok (.if_icmp .ne 12, 3) := by decide +kernel
theorem dX12_drawn_27 : decode cX12_drawn 27 = .ok (.bipush 10, 2) := by decide +kernel
theorem dX12_drawn_29 : decode cX12_drawn 29 = .ok (.aload_n 0, 1) := by decide +kernel
theorem dX12_drawn_30 : decode cX12_drawn 30 = .ok (.iconst 5, 1) := by decide +kernel
theorem dX12_drawn_31 : decode cX12_drawn 31 = .ok (.invokevirtual 399, 3) := by decide +kernel
theorem dX12_drawn_34 : decode cX12_drawn 34 = .ok (.iadd, 1) := by decide +kernel
theorem dX12_drawn_35 : decode cX12_drawn 35 = .ok (.ireturn, 1) := by decide +kernel
theorem dX12_drawn_36 : decode cX12_drawn 36 = .ok (.aload_n 0, 1) := by decide +kernel
theorem dX12_drawn_37 : decode cX12_drawn 37 = .ok (.bipush 6, 2) := by decide +kernel
theorem dX12_drawn_39 : decode cX12_drawn 39 = .ok (.invokevirtual 399, 3) := by decide +kernel
theorem dX12_drawn_42 : decode cX12_drawn 42 = .ok (.istore_n 2, 1) := by decide +kernel
theorem dX12_drawn_43 : decode cX12_drawn 43 = .ok (.iload_n 1, 1) := by decide +kernel
theorem dX12_drawn_44 : decode cX12_drawn 44 = .ok (.iconst 4, 1) := by decide +kernel
theorem dX12_drawn_45 : decode cX12_drawn 45 = .ok (.if_icmp .ne 19, 3) := by decide +kernel
theorem dX12_drawn_48 : decode cX12_drawn 48 = .ok (.bipush 100, 2) := by decide +kernel
theorem dX12_drawn_50 : decode cX12_drawn 50 = .ok (.bipush 10, 2) := by decide +kernel
theorem dX12_drawn_52 : decode cX12_drawn 52 = .ok (.iload_n 2, 1) := by decide +kernel
theorem dX12_drawn_53 : decode cX12_drawn 53 = .ok (.imul, 1) := by decide +kernel
theorem dX12_drawn_54 : decode cX12_drawn 54 = .ok (.iadd, 1) := by decide +kernel
theorem dX12_drawn_55 : decode cX12_drawn 55 = .ok (.aload_n 0, 1) := by decide +kernel
theorem dX12_drawn_56 : decode cX12_drawn 56 = .ok (.iconst 3, 1) := by decide +kernel
theorem dX12_drawn_57 : decode cX12_drawn 57 = .ok (.invokevirtual 399, 3) := by decide +kernel
theorem dX12_drawn_60 : decode cX12_drawn 60 = .ok (.iadd, 1) := by decide +kernel
theorem dX12_drawn_61 : decode cX12_drawn 61 = .ok (.goto 20, 3) := by decide +kernel
theorem dX12_drawn_64 : decode cX12_drawn 64 = .ok (.sipush 10000, 3) := by decide +kernel
theorem dX12_drawn_67 : decode cX12_drawn 67 = .ok (.sipush 1000, 3) := by decide +kernel
theorem dX12_drawn_70 : decode cX12_drawn 70 = .ok (.iload_n 2, 1) := by decide +kernel
theorem dX12_drawn_71 : decode cX12_drawn 71 = .ok (.imul, 1) := by decide +kernel
theorem dX12_drawn_72 : decode cX12_drawn 72 = .ok (.iadd, 1) := by decide +kernel
theorem dX12_drawn_73 : decode cX12_drawn 73 = .ok (.aload_n 0, 1) := by decide +kernel
theorem dX12_drawn_74 : decode cX12_drawn 74 = .ok (.sipush 384, 3) := by decide +kernel
theorem dX12_drawn_77 : decode cX12_drawn 77 = .ok (.invokevirtual 399, 3) := by decide +kernel
theorem dX12_drawn_80 : decode cX12_drawn 80 = .ok (.iadd, 1) := by decide +kernel
theorem dX12_drawn_81 : decode cX12_drawn 81 = .ok (.ireturn, 1) := by decide +kernel
theorem wX12_drawn : Mw yX12_drawn cX12_drawn 3 (some .int) 0 := ⟨q_1699, q_130, by decide, ⟨by decide +kernel, by decide +kernel⟩, by decide +kernel, by decide +kernel⟩
/-- EyeTrainerModel.drawn()I -/
def fX12_drawn (T : Sh) (M : Me) (x0 : Nat) : Option (Int32 × Me) :=
  gd (kd T x0 = 11) <| Option.bind (fX12_draw T M x0 (6 : Int32)) <| un2 fun r2 M3 => if (3 : Int32) ≤ r2 then (if r2 = (3 : Int32) then (Option.bind (fX12_draw T M3 x0 (5 : Int32)) <| un2 fun r13 M14 => some (((10 : Int32) + r13), M14)) else (Option.bind (fX12_draw T M3 x0 (6 : Int32)) <| un2 fun r6 M7 => if r2 = (4 : Int32) then (Option.bind (fX12_draw T M7 x0 (3 : Int32)) <| un2 fun r11 M12 => some ((((100 : Int32) + ((10 : Int32) * r6)) + r11), M12)) else (Option.bind (fX12_draw T M7 x0 (384 : Int32)) <| un2 fun r9 M10 => some ((((10000 : Int32) + ((1000 : Int32) * r6)) + r9), M10)))) else (if r2 = 0 then (some ((0 : Int32), M3)) else (some ((1 : Int32), M3)))
set_option maxHeartbeats 4000000 in
theorem kX12_drawn {l : Launch} {B : Bx} {d : Nat} (hd : 1 ≤ d) {T : Sh} {M : Me} {x0 : Nat} {r : Int32} {M' : Me} (h : fX12_drawn T M x0 = some (r, M')) : Kt l B yX12_drawn cX12_drawn 3 (some .int) d [.ref (x0)] T M (some (.int r)) T M' := by
  refine kt_of wX12_drawn (Nat.le_refl _) (Nat.le_refl _) (Nat.le_of_ble_eq_true rfl) (fun X C hR hlx hin => ?_)
  subst hlx
  replace C : Cx X B cX12_drawn 3 RX12 d (tp T, sl T, tp T, sl T) := C
  unfold fX12_drawn at h
  show G X B 3 _ _ 0 [(0, .ref (x0))] [] T M
  refine g_aload_n (pc := 0) C dX12_drawn_0 rfl 0 rfl ?_
  refine g_bipush (pc := 1) (v := 6) C dX12_drawn_1 (by decide) ?_
  replace h := gd_some h; obtain ⟨hk1, h⟩ := h
  replace h := bnd2 h; obtain ⟨r2, M3, h1, h⟩ := h
  refine g_callVi (pc := 3) (As := [.int ((6 : Int32))]) (st := []) C dX12_drawn_3 wX12_draw hk1 rfl (by decide) q_1702 q_107 q_1700 (by omega) rfl (Nat.le_of_ble_eq_true rfl) (kX12_draw (d := 0) (Nat.le_refl _) h1) ?_
  refine g_istore_n (pc := 6) (lo2 := [(1, .int (r2)), (0, .ref (x0))]) C dX12_drawn_6 rfl (by decide) rfl ?_
  refine g_iload_n (pc := 7) C dX12_drawn_7 rfl 0 rfl ?_
  refine g_iconst (pc := 8) (v := 3) C dX12_drawn_8 (by decide) ?_
  refine g_icmp_ge (pc := 9) (tgt := 22) C dX12_drawn_9 (by decide) (fun c4 => ?_) (fun c4 => ?_)
  · replace h := ifp c4 h
    refine g_iload_n (pc := 22) C dX12_drawn_22 rfl 0 rfl ?_
    refine g_iconst (pc := 23) (v := 3) C dX12_drawn_23 (by decide) ?_
    refine g_icmp_ne (pc := 24) (tgt := 36) C dX12_drawn_24 (by decide) (fun c5 => ?_) (fun c5 => ?_)
    · replace h := ifn c5 h
      refine g_aload_n (pc := 36) C dX12_drawn_36 rfl 1 rfl ?_
      refine g_bipush (pc := 37) (v := 6) C dX12_drawn_37 (by decide) ?_
      replace h := bnd2 h; obtain ⟨r6, M7, h1, h⟩ := h
      refine g_callVi (pc := 39) (As := [.int ((6 : Int32))]) (st := []) C dX12_drawn_39 wX12_draw hk1 rfl (by decide) q_1702 q_107 q_1700 (by omega) rfl (Nat.le_of_ble_eq_true rfl) (kX12_draw (d := 0) (Nat.le_refl _) h1) ?_
      refine g_istore_n (pc := 42) (lo2 := [(2, .int (r6)), (1, .int (r2)), (0, .ref (x0))]) C dX12_drawn_42 rfl (by decide) rfl ?_
      refine g_iload_n (pc := 43) C dX12_drawn_43 rfl 1 rfl ?_
      refine g_iconst (pc := 44) (v := 4) C dX12_drawn_44 (by decide) ?_
      refine g_icmp_ne (pc := 45) (tgt := 64) C dX12_drawn_45 (by decide) (fun c8 => ?_) (fun c8 => ?_)
      · replace h := ifn c8 h
        refine g_sipush (pc := 64) (v := 10000) C dX12_drawn_64 (by decide) ?_
        refine g_sipush (pc := 67) (v := 1000) C dX12_drawn_67 (by decide) ?_
        refine g_iload_n (pc := 70) C dX12_drawn_70 rfl 0 rfl ?_
        refine g_imul (pc := 71) C dX12_drawn_71 ?_
        refine g_iadd (pc := 72) C dX12_drawn_72 ?_
        refine g_aload_n (pc := 73) C dX12_drawn_73 rfl 2 rfl ?_
        refine g_sipush (pc := 74) (v := 384) C dX12_drawn_74 (by decide) ?_
        replace h := bnd2 h; obtain ⟨r9, M10, h1, h⟩ := h
        refine g_callVi (pc := 77) (As := [.int ((384 : Int32))]) (st := [.int ((10000 : Int32) + ((1000 : Int32) * r6))]) C dX12_drawn_77 wX12_draw hk1 rfl (by decide) q_1702 q_107 q_1700 (by omega) rfl (Nat.le_of_ble_eq_true rfl) (kX12_draw (d := 0) (Nat.le_refl _) h1) ?_
        refine g_iadd (pc := 80) C dX12_drawn_80 ?_
        obtain ⟨rfl, rfl⟩ := Prod.mk.inj (Option.some.inj h)
        exact g_iret C hR dX12_drawn_81
      · replace h := ifp c8 h
        refine g_bipush (pc := 48) (v := 100) C dX12_drawn_48 (by decide) ?_
        refine g_bipush (pc := 50) (v := 10) C dX12_drawn_50 (by decide) ?_
        refine g_iload_n (pc := 52) C dX12_drawn_52 rfl 0 rfl ?_
        refine g_imul (pc := 53) C dX12_drawn_53 ?_
        refine g_iadd (pc := 54) C dX12_drawn_54 ?_
        refine g_aload_n (pc := 55) C dX12_drawn_55 rfl 2 rfl ?_
        refine g_iconst (pc := 56) (v := 3) C dX12_drawn_56 (by decide) ?_
        replace h := bnd2 h; obtain ⟨r11, M12, h1, h⟩ := h
        refine g_callVi (pc := 57) (As := [.int ((3 : Int32))]) (st := [.int ((100 : Int32) + ((10 : Int32) * r6))]) C dX12_drawn_57 wX12_draw hk1 rfl (by decide) q_1702 q_107 q_1700 (by omega) rfl (Nat.le_of_ble_eq_true rfl) (kX12_draw (d := 0) (Nat.le_refl _) h1) ?_
        refine g_iadd (pc := 60) C dX12_drawn_60 ?_
        refine g_goto (pc := 61) (tgt := 81) C dX12_drawn_61 (by decide) ?_
        obtain ⟨rfl, rfl⟩ := Prod.mk.inj (Option.some.inj h)
        exact g_iret C hR dX12_drawn_81
    · replace h := ifp c5 h
      refine g_bipush (pc := 27) (v := 10) C dX12_drawn_27 (by decide) ?_
      refine g_aload_n (pc := 29) C dX12_drawn_29 rfl 1 rfl ?_
      refine g_iconst (pc := 30) (v := 5) C dX12_drawn_30 (by decide) ?_
      replace h := bnd2 h; obtain ⟨r13, M14, h1, h⟩ := h
      refine g_callVi (pc := 31) (As := [.int ((5 : Int32))]) (st := [.int ((10 : Int32))]) C dX12_drawn_31 wX12_draw hk1 rfl (by decide) q_1702 q_107 q_1700 (by omega) rfl (Nat.le_of_ble_eq_true rfl) (kX12_draw (d := 0) (Nat.le_refl _) h1) ?_
      refine g_iadd (pc := 34) C dX12_drawn_34 ?_
      obtain ⟨rfl, rfl⟩ := Prod.mk.inj (Option.some.inj h)
      exact g_iret C hR dX12_drawn_35
  · replace h := ifn c4 h
    refine g_iload_n (pc := 12) C dX12_drawn_12 rfl 0 rfl ?_
    refine g_if_ne (pc := 13) (tgt := 20) C dX12_drawn_13 (by decide) (fun c15 => ?_) (fun c15 => ?_)
    · replace h := ifn c15 h
      refine g_iconst (pc := 20) (v := 1) C dX12_drawn_20 (by decide) ?_
      obtain ⟨rfl, rfl⟩ := Prod.mk.inj (Option.some.inj h)
      exact g_iret C hR dX12_drawn_21
    · replace h := ifp c15 h
      refine g_iconst (pc := 16) (v := 0) C dX12_drawn_16 (by decide) ?_
      refine g_goto (pc := 17) (tgt := 21) C dX12_drawn_17 (by decide) ?_
      obtain ⟨rfl, rfl⟩ := Prod.mk.inj (Option.some.inj h)
      exact g_iret C hR dX12_drawn_21
theorem dX12_day_0 : decode cX12_day 0 = .ok (.aload_n 0, 1) := by decide +kernel
theorem dX12_day_1 : decode cX12_day 1 = .ok (.iconst 0, 1) := by decide +kernel
theorem dX12_day_2 : decode cX12_day 2 = .ok (.putfield 1, 3) := by decide +kernel
theorem dX12_day_5 : decode cX12_day 5 = .ok (.iload_n 2, 1) := by decide +kernel
theorem dX12_day_6 : decode cX12_day 6 = .ok (.i2l, 1) := by decide +kernel
theorem dX12_day_7 : decode cX12_day 7 = .ok (.lconst 1, 1) := by decide +kernel
theorem dX12_day_8 : decode cX12_day 8 = .ok (.ldc2_w 402, 3) := by decide +kernel
theorem dX12_day_11 : decode cX12_day 11 = .ok (.invokestatic 139, 3) := by decide +kernel
theorem dX12_day_14 : decode cX12_day 14 = .ok (.ifCond .ne 6, 3) := by decide +kernel
theorem dX12_day_17 : decode cX12_day 17 = .ok (.bipush (-3), 2) := by decide +kernel
theorem dX12_day_19 : decode cX12_day 19 = .ok (.ireturn, 1) := by decide +kernel
theorem dX12_day_20 : decode cX12_day 20 = .ok (.aload_n 0, 1) := by decide +kernel
theorem dX12_day_21 : decode cX12_day 21 = .ok (.invokevirtual 333, 3) := by decide +kernel
theorem dX12_day_24 : decode cX12_day 24 = .ok (.aload_n 0, 1) := by decide +kernel
theorem dX12_day_25 : decode cX12_day 25 = .ok (.iload_n 1, 1) := by decide +kernel
theorem dX12_day_26 : decode cX12_day 26 = .ok (.putfield 396, 3) := by decide +kernel
theorem dX12_day_29 : decode cX12_day 29 = .ok (.iconst 0, 1) := by decide +kernel
theorem dX12_day_30 : decode cX12_day 30 = .ok (.istore_n 3, 1) := by decide +kernel
theorem dX12_day_31 : decode cX12_day 31 = .ok (.iconst 0, 1) := by decide +kernel
theorem dX12_day_32 : decode cX12_day 32 = .ok (.istore 4, 2) := by decide +kernel
theorem dX12_day_34 : decode cX12_day 34 = .ok (.iload 4, 2) := by decide +kernel
theorem dX12_day_36 : decode cX12_day 36 = .ok (.iload_n 2, 1) := by decide +kernel
theorem dX12_day_37 : decode cX12_day 37 = .ok (.if_icmp .ge 37, 3) := by decide +kernel
theorem dX12_day_40 : decode cX12_day 40 = .ok (.aload_n 0, 1) := by decide +kernel
theorem dX12_day_41 : decode cX12_day 41 = .ok (.invokevirtual 404, 3) := by decide +kernel
theorem dX12_day_44 : decode cX12_day 44 = .ok (.istore 5, 2) := by decide +kernel
theorem dX12_day_46 : decode cX12_day 46 = .ok (.aload_n 0, 1) := by decide +kernel
theorem dX12_day_47 : decode cX12_day 47 = .ok (.iload 5, 2) := by decide +kernel
theorem dX12_day_49 : decode cX12_day 49 = .ok (.i2l, 1) := by decide +kernel
theorem dX12_day_50 : decode cX12_day 50 = .ok (.invokevirtual 377, 3) := by decide +kernel
theorem dX12_day_53 : decode cX12_day 53 = .ok (.ifCond .eq 6, 3) := by decide +kernel
theorem dX12_day_56 : decode cX12_day 56 = .ok (.goto 12, 3) := by decide +kernel
theorem dX12_day_59 : decode cX12_day 59 = .ok (.aload_n 0, 1) := by decide +kernel
theorem dX12_day_60 : decode cX12_day 60 = .ok (.iload 5, 2) := by decide +kernel
theorem dX12_day_62 : decode cX12_day 62 = .ok (.invokevirtual 381, 3) := by decide +kernel
theorem dX12_day_65 : decode cX12_day 65 = .ok (.iinc 3 1, 3) := by decide +kernel
theorem dX12_day_68 : decode cX12_day 68 = .ok (.iinc 4 1, 3) := by decide +kernel
theorem dX12_day_71 : decode cX12_day 71 = .ok (.goto (-37), 3) := by decide +kernel
theorem dX12_day_74 : decode cX12_day 74 = .ok (.iload_n 3, 1) := by decide +kernel
theorem dX12_day_75 : decode cX12_day 75 = .ok (.ifCond .le 7, 3) := by decide +kernel
theorem dX12_day_78 : decode cX12_day 78 = .ok (.aload_n 0, 1) := by decide +kernel
theorem dX12_day_79 : decode cX12_day 79 = .ok (.invokevirtual 336, 3) := by decide +kernel
theorem dX12_day_82 : decode cX12_day 82 = .ok (.iload_n 3, 1) := by decide +kernel
theorem dX12_day_83 : decode cX12_day 83 = .ok (.ireturn, 1) := by decide +kernel
theorem wX12_day : Mw yX12_day cX12_day 6 (some .int) 2 := ⟨q_1694, q_130, by decide, ⟨by decide +kernel, by decide +kernel⟩, by decide +kernel, by decide +kernel⟩
-- a loop of EyeTrainerModel.day at 34
def bX12_day_34 (T : Sh) (x0 : Nat) (x2 : Int32) (x3 : Int32) (x4 : Int32) (M : Me) : Option ((Int32 × Int32 × Me) ⊕ ((Int32 × Me))) :=
  if x2 ≤ x4 then (some (.inr (x3, M))) else (gd (kd T x0 = 11) <| Option.bind (fX12_drawn T M x0) <| un2 fun r9 M10 => Option.bind (fX12_whyNot T M10 x0 (Int32.toInt64 r9)) <| un2 fun r11 M12 => if r11 = 0 then (Option.bind (fX12_does T M12 x0 r9) <| un2 fun _u M14 => lt (x3 + (1 : Int32)) fun v15 => lt (x4 + (1 : Int32)) fun v16 => some (.inl (v15, v16, M14))) else (lt (x4 + (1 : Int32)) fun v17 => some (.inl (x3, v17, M12))))
def PX12_day_34 (X : Fx) (B : Bx) (Z : Nat × Nat × Nat × Nat) (Q : State → Prop) (T : Sh) (x0 : Nat) (x2 : Int32) (s : Int32 × Int32 × Me) : Prop := G X B 6 Z Q 34 [(0, .ref (x0)), (2, .int (x2)), (3, .int (s.1)), (4, .int (s.2.1))] [] T s.2.2
def EX12_day_34 (X : Fx) (B : Bx) (Z : Nat × Nat × Nat × Nat) (Q : State → Prop) (T : Sh) (x0 : Nat) (x2 : Int32) (r : (Int32 × Me)) : Prop := G X B 6 Z Q 74 [(0, .ref (x0)), (3, .int (r.1))] [] T r.2
set_option maxHeartbeats 4000000 in
theorem tbX12_day_34 {X : Fx} {B : Bx} {Z : Nat × Nat × Nat × Nat} {Q : State → Prop} {d : Nat} {T : Sh} (C : Cx X B cX12_day 6 RX12 d Z) (hd : 7 ≤ d) {x0 : Nat} {x2 : Int32} : ∀ (s : Int32 × Int32 × Me) (o : (Int32 × Int32 × Me) ⊕ ((Int32 × Me))), bX12_day_34 T x0 x2 s.1 s.2.1 s.2.2 = some o → lpE (PX12_day_34 X B Z Q T x0 x2) (EX12_day_34 X B Z Q T x0 x2) o → PX12_day_34 X B Z Q T x0 x2 s := by
  rintro ⟨x3, x4, M⟩ o h hE
  replace h : bX12_day_34 T x0 x2 x3 x4 M = some o := h
  unfold bX12_day_34 at h
  show G X B 6 Z Q 34 [(0, .ref (x0)), (2, .int (x2)), (3, .int (x3)), (4, .int (x4))] [] T M
  refine g_iload (pc := 34) C dX12_day_34 3 rfl ?_
  refine g_iload_n (pc := 36) C dX12_day_36 rfl 1 rfl ?_
  refine g_icmp_ge (pc := 37) (tgt := 74) C dX12_day_37 (by decide) (fun c7 => ?_) (fun c7 => ?_)
  · replace h := ifp c7 h
    obtain rfl := Option.some.inj h
    exact g_sub [0, 2] rfl (show G X B 6 Z Q 74 [(0, .ref (x0)), (3, .int (x3))] [] T M from hE)
  · replace h := ifn c7 h
    refine g_aload_n (pc := 40) C dX12_day_40 rfl 0 rfl ?_
    replace h := gd_some h; obtain ⟨hk8, h⟩ := h
    replace h := bnd2 h; obtain ⟨r9, M10, h1, h⟩ := h
    refine g_callVi (pc := 41) (As := []) (st := []) C dX12_day_41 wX12_drawn hk8 rfl (by decide) q_1698 q_106 q_1696 (by omega) rfl (Nat.le_of_ble_eq_true rfl) (kX12_drawn (d := 1) (Nat.le_refl _) h1) ?_
    refine g_istore (pc := 44) (lo2 := [(5, .int (r9)), (0, .ref (x0)), (2, .int (x2)), (3, .int (x3)), (4, .int (x4))]) C dX12_day_44 (by decide) rfl ?_
    refine g_aload_n (pc := 46) C dX12_day_46 rfl 1 rfl ?_
    refine g_iload (pc := 47) C dX12_day_47 0 rfl ?_
    refine g_i2l (pc := 49) C dX12_day_49 ?_
    replace h := bnd2 h; obtain ⟨r11, M12, h1, h⟩ := h
    refine g_callVi (pc := 50) (As := [.long (Int32.toInt64 r9)]) (st := []) C dX12_day_50 wX12_whyNot hk8 rfl (by decide) q_1670 q_103 q_1668 (by omega) rfl (Nat.le_of_ble_eq_true rfl) (kX12_whyNot (d := 6) (Nat.le_refl _) h1) ?_
    refine g_if_eq (pc := 53) (tgt := 59) C dX12_day_53 (by decide) (fun c13 => ?_) (fun c13 => ?_)
    · replace h := ifp c13 h
      refine g_aload_n (pc := 59) C dX12_day_59 rfl 1 rfl ?_
      refine g_iload (pc := 60) C dX12_day_60 0 rfl ?_
      replace h := bnd2 h; obtain ⟨_u, M14, h1, h⟩ := h
      refine g_callVv (pc := 62) (As := [.int (r9)]) (st := []) C dX12_day_62 wX12_does hk8 rfl (by decide) q_1681 q_104 q_1679 (by omega) rfl (Nat.le_of_ble_eq_true rfl) (kX12_does (d := 6) (Nat.le_refl _) h1) ?_
      obtain ⟨v15, ev15⟩ : ∃ y : Int32, y = x3 + (1 : Int32) := ⟨_, rfl⟩
      replace h := lt_at ev15 h
      refine g_iinc (pc := 65) (v := v15) (k := 3) (lo2 := [(3, .int (v15)), (5, .int (r9)), (0, .ref (x0)), (2, .int (x2)), (4, .int (x4))]) C dX12_day_65 rfl (by rw [ev15]; rfl) (by decide) rfl ?_
      obtain ⟨v16, ev16⟩ : ∃ y : Int32, y = x4 + (1 : Int32) := ⟨_, rfl⟩
      replace h := lt_at ev16 h
      refine g_iinc (pc := 68) (v := v16) (k := 4) (lo2 := [(4, .int (v16)), (3, .int (v15)), (5, .int (r9)), (0, .ref (x0)), (2, .int (x2))]) C dX12_day_68 rfl (by rw [ev16]; rfl) (by decide) rfl ?_
      refine g_goto (pc := 71) (tgt := 34) C dX12_day_71 (by decide) ?_
      obtain rfl := Option.some.inj h
      exact g_sub [3, 4, 1, 0] rfl (show G X B 6 Z Q 34 [(0, .ref (x0)), (2, .int (x2)), (3, .int (v15)), (4, .int (v16))] [] T M14 from hE)
    · replace h := ifn c13 h
      refine g_goto (pc := 56) (tgt := 68) C dX12_day_56 (by decide) ?_
      obtain ⟨v17, ev17⟩ : ∃ y : Int32, y = x4 + (1 : Int32) := ⟨_, rfl⟩
      replace h := lt_at ev17 h
      refine g_iinc (pc := 68) (v := v17) (k := 4) (lo2 := [(4, .int (v17)), (5, .int (r9)), (0, .ref (x0)), (2, .int (x2)), (3, .int (x3))]) C dX12_day_68 rfl (by rw [ev17]; rfl) (by decide) rfl ?_
      refine g_goto (pc := 71) (tgt := 34) C dX12_day_71 (by decide) ?_
      obtain rfl := Option.some.inj h
      exact g_sub [2, 3, 4, 0] rfl (show G X B 6 Z Q 34 [(0, .ref (x0)), (2, .int (x2)), (3, .int (x3)), (4, .int (v17))] [] T M12 from hE)
/-- EyeTrainerModel.day(II)I -/
def fX12_day (T : Sh) (M : Me) (x0 : Nat) (x1 : Int32) (x2 : Int32) : Option (Int32 × Me) :=
  gd (kd T x0 = 11) <| lt (pI M x0 0 (0 : Int32)) fun M2 => Option.bind (fX12_within (Int32.toInt64 x2) (1 : Int64) (40 : Int64)) fun r3 => if r3 = 0 then (some ((-3 : Int32), M2)) else (Option.bind (fX12_stores T M2 x0) <| un2 fun _u M5 => lt (pI M5 x0 32 x1) fun M6 => (lp FU (fun s => bX12_day_34 T x0 x2 s.1 s.2.1 s.2.2) ((0 : Int32), (0 : Int32), M6)).bind (un2 fun x3_18 M19 => if x3_18 ≤ 0 then (some (x3_18, M19)) else (Option.bind (fX12_notes T M19 x0) <| un2 fun _u M21 => some (x3_18, M21))))
set_option maxHeartbeats 4000000 in
theorem kX12_day {l : Launch} {B : Bx} {d : Nat} (hd : 7 ≤ d) {T : Sh} {M : Me} {x0 : Nat} {x1 : Int32} {x2 : Int32} {r : Int32} {M' : Me} (h : fX12_day T M x0 x1 x2 = some (r, M')) : Kt l B yX12_day cX12_day 6 (some .int) d [.ref (x0), .int (x1), .int (x2)] T M (some (.int r)) T M' := by
  refine kt_of wX12_day (Nat.le_refl _) (Nat.le_refl _) (Nat.le_of_ble_eq_true rfl) (fun X C hR hlx hin => ?_)
  subst hlx
  replace C : Cx X B cX12_day 6 RX12 d (tp T, sl T, tp T, sl T) := C
  unfold fX12_day at h
  show G X B 6 _ _ 0 [(0, .ref (x0)), (1, .int (x1)), (2, .int (x2))] [] T M
  refine g_aload_n (pc := 0) C dX12_day_0 rfl 0 rfl ?_
  refine g_iconst (pc := 1) (v := 0) C dX12_day_1 (by decide) ?_
  replace h := gd_some h; obtain ⟨hk1, h⟩ := h
  refine g_putI (pc := 2) C dX12_day_2 kX12 hk1 0 (by decide) rfl rfl rfl q_1227 ?_
  refine g_mem (fun M2 eM2 => ?_)
  replace h := lt_at eM2 h
  refine g_iload_n (pc := 5) C dX12_day_5 rfl 2 rfl ?_
  refine g_i2l (pc := 6) C dX12_day_6 ?_
  refine g_lconst (pc := 7) (v := 1) C dX12_day_7 rfl ?_
  refine g_ldc2 (pc := 8) C dX12_day_8 q_1695 ?_
  replace h := bnd h; obtain ⟨r3, h1, h⟩ := h
  refine g_callSi (pc := 11) (As := [.long (Int32.toInt64 x2), .long ((1 : Int64)), .long ((40 : Int64))]) (st := []) C dX12_day_11 wX12_within q_1367 q_1366 (by omega) rfl (Nat.le_of_ble_eq_true rfl) (kX12_within (d := 0) (Nat.le_refl _) h1) ?_
  refine g_if_ne (pc := 14) (tgt := 20) C dX12_day_14 (by decide) (fun c4 => ?_) (fun c4 => ?_)
  · replace h := ifn c4 h
    refine g_aload_n (pc := 20) C dX12_day_20 rfl 0 rfl ?_
    replace h := bnd2 h; obtain ⟨_u, M5, h1, h⟩ := h
    refine g_callVv (pc := 21) (As := []) (st := []) C dX12_day_21 wX12_stores hk1 rfl (by decide) q_1560 q_85 q_1558 (by omega) rfl (Nat.le_of_ble_eq_true rfl) (kX12_stores (d := 0) (Nat.le_refl _) h1) ?_
    refine g_aload_n (pc := 24) C dX12_day_24 rfl 0 rfl ?_
    refine g_iload_n (pc := 25) C dX12_day_25 rfl 1 rfl ?_
    refine g_putI (pc := 26) C dX12_day_26 kX12 hk1 32 (by decide) rfl rfl rfl q_1259 ?_
    refine g_mem (fun M6 eM6 => ?_)
    replace h := lt_at eM6 h
    refine g_iconst (pc := 29) (v := 0) C dX12_day_29 (by decide) ?_
    refine g_istore_n (pc := 30) (lo2 := [(3, .int ((0 : Int32))), (0, .ref (x0)), (1, .int (x1)), (2, .int (x2))]) C dX12_day_30 rfl (by decide) rfl ?_
    refine g_iconst (pc := 31) (v := 0) C dX12_day_31 (by decide) ?_
    refine g_istore (pc := 32) (lo2 := [(4, .int ((0 : Int32))), (3, .int ((0 : Int32))), (0, .ref (x0)), (1, .int (x1)), (2, .int (x2))]) C dX12_day_32 (by decide) rfl ?_
    replace h := bnd2 h; obtain ⟨x3_18, M19, h1, h⟩ := h
    refine g_sub [2, 4, 1, 0] rfl ?_
    refine lp_G2 (P := PX12_day_34 X B _ _ T x0 x2) (E := EX12_day_34 X B _ _ T x0 x2) (tbX12_day_34 C hd) h1 ?_
    show G X B 6 _ _ 74 [(0, .ref (x0)), (3, .int (x3_18))] [] T M19
    refine g_iload_n (pc := 74) C dX12_day_74 rfl 1 rfl ?_
    refine g_if_le (pc := 75) (tgt := 82) C dX12_day_75 (by decide) (fun c20 => ?_) (fun c20 => ?_)
    · replace h := ifp c20 h
      refine g_iload_n (pc := 82) C dX12_day_82 rfl 1 rfl ?_
      obtain ⟨rfl, rfl⟩ := Prod.mk.inj (Option.some.inj h)
      exact g_iret C hR dX12_day_83
    · replace h := ifn c20 h
      refine g_aload_n (pc := 78) C dX12_day_78 rfl 0 rfl ?_
      replace h := bnd2 h; obtain ⟨_u, M21, h1, h⟩ := h
      refine g_callVv (pc := 79) (As := []) (st := []) C dX12_day_79 wX12_notes hk1 rfl (by decide) q_1564 q_86 q_1562 (by omega) rfl (Nat.le_of_ble_eq_true rfl) (kX12_notes (d := 0) (Nat.le_refl _) h1) ?_
      refine g_iload_n (pc := 82) C dX12_day_82 rfl 1 rfl ?_
      obtain ⟨rfl, rfl⟩ := Prod.mk.inj (Option.some.inj h)
      exact g_iret C hR dX12_day_83
  · replace h := ifp c4 h
    refine g_bipush (pc := 17) (v := (-3)) C dX12_day_17 (by decide) ?_
    obtain ⟨rfl, rfl⟩ := Prod.mk.inj (Option.some.inj h)
    exact g_iret C hR dX12_day_19
theorem dX12_laysMapNow_0 : decode cX12_laysMapNow 0 = .ok (.aload_n 0, 1) := by decide +kernel
theorem dX12_laysMapNow_1 : decode cX12_laysMapNow 1 = .ok (.invokevirtual 251, 3) := by decide +kernel
theorem dX12_laysMapNow_4 : decode cX12_laysMapNow 4 = .ok (.aload_n 0, 1) := by decide +kernel
theorem dX12_laysMapNow_5 : decode cX12_laysMapNow 5 = .ok (.iload_n 1, 1) := by decide +kernel
theorem dX12_laysMapNow_6 : decode cX12_laysMapNow 6 = .ok (.invokevirtual 315, 3) := by decide +kernel
theorem dX12_laysMapNow_9 : decode cX12_laysMapNow 9 = .ok (.return_, 1) := by decide +kernel
theorem wX12_laysMapNow : Mw yX12_laysMapNow cX12_laysMapNow 2 none 1 := ⟨q_1712, q_130, by decide, ⟨by decide +kernel, by decide +kernel⟩, by decide +kernel, by decide +kernel⟩
/-- EyeTrainerModel.laysMapNow(I)V -/
def fX12_laysMapNow (T : Sh) (M : Me) (x0 : Nat) (x1 : Int32) : Option (Unit × Me) :=
  gd (kd T x0 = 11) <| Option.bind (fX12_laysNow T M x0) <| un2 fun _u M2 => Option.bind (fX12_laysMap T M2 x0 x1) <| un2 fun _u M3 => some ((), M3)
set_option maxHeartbeats 4000000 in
theorem kX12_laysMapNow {l : Launch} {B : Bx} {d : Nat} (hd : 5 ≤ d) {T : Sh} {M : Me} {x0 : Nat} {x1 : Int32} {M' : Me} (h : fX12_laysMapNow T M x0 x1 = some ((), M')) : Kt l B yX12_laysMapNow cX12_laysMapNow 2 none d [.ref (x0), .int (x1)] T M none T M' := by
  refine kt_of wX12_laysMapNow (Nat.le_refl _) (Nat.le_refl _) (Nat.le_of_ble_eq_true rfl) (fun X C hR hlx hin => ?_)
  subst hlx
  replace C : Cx X B cX12_laysMapNow 2 RX12 d (tp T, sl T, tp T, sl T) := C
  unfold fX12_laysMapNow at h
  show G X B 2 _ _ 0 [(0, .ref (x0)), (1, .int (x1))] [] T M
  refine g_aload_n (pc := 0) C dX12_laysMapNow_0 rfl 0 rfl ?_
  replace h := gd_some h; obtain ⟨hk1, h⟩ := h
  replace h := bnd2 h; obtain ⟨_u, M2, h1, h⟩ := h
  refine g_callVv (pc := 1) (As := []) (st := []) C dX12_laysMapNow_1 wX12_laysNow hk1 rfl (by decide) q_1485 q_76 q_1483 (by omega) rfl (Nat.le_of_ble_eq_true rfl) (kX12_laysNow (d := 3) (Nat.le_refl _) h1) ?_
  refine g_aload_n (pc := 4) C dX12_laysMapNow_4 rfl 0 rfl ?_
  refine g_iload_n (pc := 5) C dX12_laysMapNow_5 rfl 1 rfl ?_
  replace h := bnd2 h; obtain ⟨_u, M3, h1, h⟩ := h
  refine g_callVv (pc := 6) (As := [.int (x1)]) (st := []) C dX12_laysMapNow_6 wX12_laysMap hk1 rfl (by decide) q_1584 q_89 q_1582 (by omega) rfl (Nat.le_of_ble_eq_true rfl) (kX12_laysMap (d := 4) (Nat.le_refl _) h1) ?_
  obtain ⟨-, rfl⟩ := Prod.mk.inj (Option.some.inj h)
  exact g_vret C hR dX12_laysMapNow_9
theorem dX12_area_0 : decode cX12_area 0 = .ok (.aload_n 0, 1) := by decide +kernel
theorem dX12_area_1 : decode cX12_area 1 = .ok (.iconst 0, 1) := by decide +kernel
theorem dX12_area_2 : decode cX12_area 2 = .ok (.putfield 1, 3) := by decide +kernel
theorem dX12_area_5 : decode cX12_area 5 = .ok (.aload_n 0, 1) := by decide +kernel
theorem dX12_area_6 : decode cX12_area 6 = .ok (.iload_n 1, 1) := by decide +kernel
theorem dX12_area_7 : decode cX12_area 7 = .ok (.i2l, 1) := by decide +kernel
theorem dX12_area_8 : decode cX12_area 8 = .ok (.invokevirtual 247, 3) := by decide +kernel
theorem dX12_area_11 : decode cX12_area 11 = .ok (.ifCond .ne 6, 3) := by decide +kernel
theorem dX12_area_14 : decode cX12_area 14 = .ok (.bipush (-2), 2) := by decide +kernel
theorem dX12_area_16 : decode cX12_area 16 = .ok (.ireturn, 1) := by decide +kernel
theorem dX12_area_17 : decode cX12_area 17 = .ok (.aload_n 0, 1) := by decide +kernel
theorem dX12_area_18 : decode cX12_area 18 = .ok (.iload_n 1, 1) := by decide +kernel
theorem dX12_area_19 : decode cX12_area 19 = .ok (.invokevirtual 410, 3) := by decide +kernel
theorem dX12_area_22 : decode cX12_area 22 = .ok (.aload_n 0, 1) := by decide +kernel
theorem dX12_area_23 : decode cX12_area 23 = .ok (.invokevirtual 318, 3) := by decide +kernel
theorem dX12_area_26 : decode cX12_area 26 = .ok (.ireturn, 1) := by decide +kernel
theorem wX12_area : Mw yX12_area cX12_area 2 (some .int) 1 := ⟨q_1708, q_130, by decide, ⟨by decide +kernel, by decide +kernel⟩, by decide +kernel, by decide +kernel⟩
/-- EyeTrainerModel.area(I)I -/
def fX12_area (T : Sh) (M : Me) (x0 : Nat) (x1 : Int32) : Option (Int32 × Me) :=
  gd (kd T x0 = 11) <| lt (pI M x0 0 (0 : Int32)) fun M2 => Option.bind (fX12_isLane T M2 x0 (Int32.toInt64 x1)) fun r3 => if r3 = 0 then (some ((-2 : Int32), M2)) else (Option.bind (fX12_laysMapNow T M2 x0 x1) <| un2 fun _u M5 => Option.bind (fX12_areaNow T M5 x0) fun r6 => some (r6, M5))
set_option maxHeartbeats 4000000 in
theorem kX12_area {l : Launch} {B : Bx} {d : Nat} (hd : 6 ≤ d) {T : Sh} {M : Me} {x0 : Nat} {x1 : Int32} {r : Int32} {M' : Me} (h : fX12_area T M x0 x1 = some (r, M')) : Kt l B yX12_area cX12_area 2 (some .int) d [.ref (x0), .int (x1)] T M (some (.int r)) T M' := by
  refine kt_of wX12_area (Nat.le_refl _) (Nat.le_refl _) (Nat.le_of_ble_eq_true rfl) (fun X C hR hlx hin => ?_)
  subst hlx
  replace C : Cx X B cX12_area 2 RX12 d (tp T, sl T, tp T, sl T) := C
  unfold fX12_area at h
  show G X B 2 _ _ 0 [(0, .ref (x0)), (1, .int (x1))] [] T M
  refine g_aload_n (pc := 0) C dX12_area_0 rfl 0 rfl ?_
  refine g_iconst (pc := 1) (v := 0) C dX12_area_1 (by decide) ?_
  replace h := gd_some h; obtain ⟨hk1, h⟩ := h
  refine g_putI (pc := 2) C dX12_area_2 kX12 hk1 0 (by decide) rfl rfl rfl q_1227 ?_
  refine g_mem (fun M2 eM2 => ?_)
  replace h := lt_at eM2 h
  refine g_aload_n (pc := 5) C dX12_area_5 rfl 0 rfl ?_
  refine g_iload_n (pc := 6) C dX12_area_6 rfl 1 rfl ?_
  refine g_i2l (pc := 7) C dX12_area_7 ?_
  replace h := bnd h; obtain ⟨r3, h1, h⟩ := h
  refine g_callVi (pc := 8) (As := [.long (Int32.toInt64 x1)]) (st := []) C dX12_area_8 wX12_isLane hk1 rfl (by decide) q_1481 q_75 q_1479 (by omega) rfl (Nat.le_of_ble_eq_true rfl) (kX12_isLane (d := 1) (Nat.le_refl _) h1) ?_
  refine g_if_ne (pc := 11) (tgt := 17) C dX12_area_11 (by decide) (fun c4 => ?_) (fun c4 => ?_)
  · replace h := ifn c4 h
    refine g_aload_n (pc := 17) C dX12_area_17 rfl 0 rfl ?_
    refine g_iload_n (pc := 18) C dX12_area_18 rfl 1 rfl ?_
    replace h := bnd2 h; obtain ⟨_u, M5, h1, h⟩ := h
    refine g_callVv (pc := 19) (As := [.int (x1)]) (st := []) C dX12_area_19 wX12_laysMapNow hk1 rfl (by decide) q_1711 q_108 q_1709 (by omega) rfl (Nat.le_of_ble_eq_true rfl) (kX12_laysMapNow (d := 5) (Nat.le_refl _) h1) ?_
    refine g_aload_n (pc := 22) C dX12_area_22 rfl 0 rfl ?_
    replace h := bnd h; obtain ⟨r6, h1, h⟩ := h
    refine g_callVi (pc := 23) (As := []) (st := []) C dX12_area_23 wX12_areaNow hk1 rfl (by decide) q_1588 q_90 q_1586 (by omega) rfl (Nat.le_of_ble_eq_true rfl) (kX12_areaNow (d := 1) (Nat.le_refl _) h1) ?_
    obtain ⟨rfl, rfl⟩ := Prod.mk.inj (Option.some.inj h)
    exact g_iret C hR dX12_area_26
  · replace h := ifp c4 h
    refine g_bipush (pc := 14) (v := (-2)) C dX12_area_14 (by decide) ?_
    obtain ⟨rfl, rfl⟩ := Prod.mk.inj (Option.some.inj h)
    exact g_iret C hR dX12_area_16
theorem dX12_rectangle_0 : decode cX12_rectangle 0 = .ok (.aload_n 0, 1) := by decide +kernel
theorem dX12_rectangle_1 : decode cX12_rectangle 1 = .ok (.iconst 0, 1) := by decide +kernel
theorem dX12_rectangle_2 : decode cX12_rectangle 2 = .ok (.putfield 1, 3) := by decide +kernel
theorem dX12_rectangle_5 : decode cX12_rectangle 5 = .ok (.aload_n 0, 1) := by decide +kernel
theorem dX12_rectangle_6 : decode cX12_rectangle 6 = .ok (.iload_n 1, 1) := by decide +kernel
theorem dX12_rectangle_7 : decode cX12_rectangle 7 = .ok (.i2l, 1) := by decide +kernel
theorem dX12_rectangle_8 : decode cX12_rectangle 8 = .ok (.invokevirtual 247, 3) := by decide +kernel
theorem dX12_rectangle_11 : decode cX12_rectangle 11 = .ok (.ifCond .eq 15, 3) := by decide +kernel
theorem dX12_rectangle_14 : decode cX12_rectangle 14 = .ok (.iload_n 2, 1) := by decide +kernel
theorem dX12_rectangle_15 : decode cX12_rectangle 15 = .ok (.i2l, 1) := by decide +kernel
theorem dX12_rectangle_16 : decode cX12_rectangle 16 = .ok (.lconst 0, 1) := by decide +kernel
theorem dX12_rectangle_17 : decode cX12_rectangle 17 = .ok (.ldc2_w 416, 3) := by decide +kernel
theorem dX12_rectangle_20 : decode cX12_rectangle 20 = .ok (.invokestatic 139, 3) := by decide +kernel
theorem dX12_rectangle_23 : decode cX12_rectangle 23 = .ok (.ifCond .ne 6, 3) := by decide +kernel
theorem dX12_rectangle_26 : decode cX12_rectangle 26 = .ok (.bipush (-2), 2) := by decide +kernel
theorem dX12_rectangle_28 : decode cX12_rectangle 28 = .ok (.ireturn, 1) := by decide +kernel
theorem dX12_rectangle_29 : decode cX12_rectangle 29 = .ok (.aload_n 0, 1) := by decide +kernel
theorem dX12_rectangle_30 : decode cX12_rectangle 30 = .ok (.iload_n 1, 1) := by decide +kernel
theorem dX12_rectangle_31 : decode cX12_rectangle 31 = .ok (.invokevirtual 410, 3) := by decide +kernel
theorem dX12_rectangle_34 : decode cX12_rectangle 34 = .ok (.aload_n 0, 1) := by decide +kernel
theorem dX12_rectangle_35 : decode cX12_rectangle 35 = .ok (.invokevirtual 321, 3) := by decide +kernel
theorem dX12_rectangle_38 : decode cX12_rectangle 38 = .ok (.aload_n 0, 1) := by decide +kernel
theorem dX12_rectangle_39 : decode cX12_rectangle 39 = .ok (.getfield 275, 3) := by decide +kernel
theorem dX12_rectangle_42 : decode cX12_rectangle 42 = .ok (.ifCond .ne 5, 3) := by decide +kernel
theorem dX12_rectangle_45 : decode cX12_rectangle 45 = .ok (.iconst (-1), 1) := by decide +kernel
theorem dX12_rectangle_46 : decode cX12_rectangle 46 = .ok (.ireturn, 1) := by decide +kernel
theorem dX12_rectangle_47 : decode cX12_rectangle 47 = .ok (.iload_n 2, 1) := by decide +kernel
theorem dX12_rectangle_48 : decode cX12_rectangle 48 = .ok (.tableswitch 61 0 4 #[36, 41, 46, 51, 56], 36) := by decide +kernel
theorem dX12_rectangle_84 : decode cX12_rectangle 84 = .ok (.aload_n 0, 1) := by decide +kernel
theorem dX12_rectangle_85 : decode cX12_rectangle 85 = .ok (.getfield 275, 3) := by decide +kernel
theorem dX12_rectangle_88 : decode cX12_rectangle 88 = .ok (.ireturn, 1) := by decide +kernel
theorem dX12_rectangle_89 : decode cX12_rectangle 89 = .ok (.aload_n 0, 1) := by decide +kernel
theorem dX12_rectangle_90 : decode cX12_rectangle 90 = .ok (.getfield 282, 3) := by decide +kernel
theorem dX12_rectangle_93 : decode cX12_rectangle 93 = .ok (.ireturn, 1) := by decide +kernel
theorem dX12_rectangle_94 : decode cX12_rectangle 94 = .ok (.aload_n 0, 1) := by decide +kernel
theorem dX12_rectangle_95 : decode cX12_rectangle 95 = .ok (.getfield 285, 3) := by decide +kernel
theorem dX12_rectangle_98 : decode cX12_rectangle 98 = .ok (.ireturn, 1) := by decide +kernel
theorem dX12_rectangle_99 : decode cX12_rectangle 99 = .ok (.aload_n 0, 1) := by decide +kernel
theorem dX12_rectangle_100 : decode cX12_rectangle 100 = .ok (.getfield 288, 3) := by decide +kernel
theorem dX12_rectangle_103 : decode cX12_rectangle 103 = .ok (.ireturn, 1) := by decide +kernel
theorem dX12_rectangle_104 : decode cX12_rectangle 104 = .ok (.aload_n 0, 1) := by decide +kernel
theorem dX12_rectangle_105 : decode cX12_rectangle 105 = .ok (.getfield 291, 3) := by decide +kernel
theorem dX12_rectangle_108 : decode cX12_rectangle 108 = .ok (.ireturn, 1) := by decide +kernel
theorem dX12_rectangle_109 : decode cX12_rectangle 109 = .ok (.aload_n 0, 1) := by decide +kernel
theorem dX12_rectangle_110 : decode cX12_rectangle 110 = .ok (.invokevirtual 324, 3) := by decide +kernel
theorem dX12_rectangle_113 : decode cX12_rectangle 113 = .ok (.ireturn, 1) := by decide +kernel
theorem wX12_rectangle : Mw yX12_rectangle cX12_rectangle 3 (some .int) 2 := ⟨q_1732, q_130, by decide, ⟨by decide +kernel, by decide +kernel⟩, by decide +kernel, by decide +kernel⟩
/-- EyeTrainerModel.rectangle(II)I -/
def fX12_rectangle (T : Sh) (M : Me) (x0 : Nat) (x1 : Int32) (x2 : Int32) : Option (Int32 × Me) :=
  gd (kd T x0 = 11) <| lt (pI M x0 0 (0 : Int32)) fun M2 => Option.bind (fX12_isLane T M2 x0 (Int32.toInt64 x1)) fun r3 => if r3 = 0 then (some ((-2 : Int32), M2)) else (Option.bind (fX12_within (Int32.toInt64 x2) (0 : Int64) (5 : Int64)) fun r5 => if r5 = 0 then (some ((-2 : Int32), M2)) else (Option.bind (fX12_laysMapNow T M2 x0 x1) <| un2 fun _u M7 => Option.bind (fX12_laysRectangle T M7 x0) <| un2 fun _u M8 => if (gI M8 x0 21) = 0 then (some ((-1 : Int32), M8)) else (if x2 = (0 : Int32) then (some ((gI M8 x0 21), M8)) else (if x2 = (1 : Int32) then (some ((gI M8 x0 22), M8)) else (if x2 = (2 : Int32) then (some ((gI M8 x0 23), M8)) else (if x2 = (3 : Int32) then (some ((gI M8 x0 24), M8)) else (if x2 = (4 : Int32) then (some ((gI M8 x0 25), M8)) else (Option.bind (fX12_middleNow T M8 x0) fun r10 => some (r10, M8)))))))))
set_option maxHeartbeats 4000000 in
theorem kX12_rectangle {l : Launch} {B : Bx} {d : Nat} (hd : 6 ≤ d) {T : Sh} {M : Me} {x0 : Nat} {x1 : Int32} {x2 : Int32} {r : Int32} {M' : Me} (h : fX12_rectangle T M x0 x1 x2 = some (r, M')) : Kt l B yX12_rectangle cX12_rectangle 3 (some .int) d [.ref (x0), .int (x1), .int (x2)] T M (some (.int r)) T M' := by
  refine kt_of wX12_rectangle (Nat.le_refl _) (Nat.le_refl _) (Nat.le_of_ble_eq_true rfl) (fun X C hR hlx hin => ?_)
  subst hlx
  replace C : Cx X B cX12_rectangle 3 RX12 d (tp T, sl T, tp T, sl T) := C
  unfold fX12_rectangle at h
  show G X B 3 _ _ 0 [(0, .ref (x0)), (1, .int (x1)), (2, .int (x2))] [] T M
  refine g_aload_n (pc := 0) C dX12_rectangle_0 rfl 0 rfl ?_
  refine g_iconst (pc := 1) (v := 0) C dX12_rectangle_1 (by decide) ?_
  replace h := gd_some h; obtain ⟨hk1, h⟩ := h
  refine g_putI (pc := 2) C dX12_rectangle_2 kX12 hk1 0 (by decide) rfl rfl rfl q_1227 ?_
  refine g_mem (fun M2 eM2 => ?_)
  replace h := lt_at eM2 h
  refine g_aload_n (pc := 5) C dX12_rectangle_5 rfl 0 rfl ?_
  refine g_iload_n (pc := 6) C dX12_rectangle_6 rfl 1 rfl ?_
  refine g_i2l (pc := 7) C dX12_rectangle_7 ?_
  replace h := bnd h; obtain ⟨r3, h1, h⟩ := h
  refine g_callVi (pc := 8) (As := [.long (Int32.toInt64 x1)]) (st := []) C dX12_rectangle_8 wX12_isLane hk1 rfl (by decide) q_1481 q_75 q_1479 (by omega) rfl (Nat.le_of_ble_eq_true rfl) (kX12_isLane (d := 1) (Nat.le_refl _) h1) ?_
  refine g_if_eq (pc := 11) (tgt := 26) C dX12_rectangle_11 (by decide) (fun c4 => ?_) (fun c4 => ?_)
  · replace h := ifp c4 h
    refine g_bipush (pc := 26) (v := (-2)) C dX12_rectangle_26 (by decide) ?_
    obtain ⟨rfl, rfl⟩ := Prod.mk.inj (Option.some.inj h)
    exact g_iret C hR dX12_rectangle_28
  · replace h := ifn c4 h
    refine g_iload_n (pc := 14) C dX12_rectangle_14 rfl 2 rfl ?_
    refine g_i2l (pc := 15) C dX12_rectangle_15 ?_
    refine g_lconst (pc := 16) (v := 0) C dX12_rectangle_16 rfl ?_
    refine g_ldc2 (pc := 17) C dX12_rectangle_17 q_1733 ?_
    replace h := bnd h; obtain ⟨r5, h1, h⟩ := h
    refine g_callSi (pc := 20) (As := [.long (Int32.toInt64 x2), .long ((0 : Int64)), .long ((5 : Int64))]) (st := []) C dX12_rectangle_20 wX12_within q_1367 q_1366 (by omega) rfl (Nat.le_of_ble_eq_true rfl) (kX12_within (d := 0) (Nat.le_refl _) h1) ?_
    refine g_if_ne (pc := 23) (tgt := 29) C dX12_rectangle_23 (by decide) (fun c6 => ?_) (fun c6 => ?_)
    · replace h := ifn c6 h
      refine g_aload_n (pc := 29) C dX12_rectangle_29 rfl 0 rfl ?_
      refine g_iload_n (pc := 30) C dX12_rectangle_30 rfl 1 rfl ?_
      replace h := bnd2 h; obtain ⟨_u, M7, h1, h⟩ := h
      refine g_callVv (pc := 31) (As := [.int (x1)]) (st := []) C dX12_rectangle_31 wX12_laysMapNow hk1 rfl (by decide) q_1711 q_108 q_1709 (by omega) rfl (Nat.le_of_ble_eq_true rfl) (kX12_laysMapNow (d := 5) (Nat.le_refl _) h1) ?_
      refine g_aload_n (pc := 34) C dX12_rectangle_34 rfl 0 rfl ?_
      replace h := bnd2 h; obtain ⟨_u, M8, h1, h⟩ := h
      refine g_callVv (pc := 35) (As := []) (st := []) C dX12_rectangle_35 wX12_laysRectangle hk1 rfl (by decide) q_1595 q_91 q_1593 (by omega) rfl (Nat.le_of_ble_eq_true rfl) (kX12_laysRectangle (d := 2) (Nat.le_refl _) h1) ?_
      refine g_aload_n (pc := 38) C dX12_rectangle_38 rfl 0 rfl ?_
      refine g_get (pc := 39) (v := .int (gI M8 x0 21)) C dX12_rectangle_39 kX12 hk1 21 (by decide) q_1248 rfl ?_
      refine g_if_ne (pc := 42) (tgt := 47) C dX12_rectangle_42 (by decide) (fun c9 => ?_) (fun c9 => ?_)
      · replace h := ifn c9 h
        refine g_iload_n (pc := 47) C dX12_rectangle_47 rfl 2 rfl ?_
        by_cases cw11_0 : x2 = (0 : Int32)
        · replace h := ifp cw11_0 h
          have hq : x2.toInt = 0 := by rw [cw11_0]; rfl
          refine g_tswIn (off := 36) (tgt := 84) C dX12_rectangle_48 (by rw [hq]; decide) (by rw [hq]; decide) (by rw [hq]; rfl) (by decide) ?_
          refine g_aload_n (pc := 84) C dX12_rectangle_84 rfl 0 rfl ?_
          refine g_get (pc := 85) (v := .int (gI M8 x0 21)) C dX12_rectangle_85 kX12 hk1 21 (by decide) q_1248 rfl ?_
          obtain ⟨rfl, rfl⟩ := Prod.mk.inj (Option.some.inj h)
          exact g_iret C hR dX12_rectangle_88
        · replace h := ifn cw11_0 h
          by_cases cw11_1 : x2 = (1 : Int32)
          · replace h := ifp cw11_1 h
            have hq : x2.toInt = 1 := by rw [cw11_1]; rfl
            refine g_tswIn (off := 41) (tgt := 89) C dX12_rectangle_48 (by rw [hq]; decide) (by rw [hq]; decide) (by rw [hq]; rfl) (by decide) ?_
            refine g_aload_n (pc := 89) C dX12_rectangle_89 rfl 0 rfl ?_
            refine g_get (pc := 90) (v := .int (gI M8 x0 22)) C dX12_rectangle_90 kX12 hk1 22 (by decide) q_1249 rfl ?_
            obtain ⟨rfl, rfl⟩ := Prod.mk.inj (Option.some.inj h)
            exact g_iret C hR dX12_rectangle_93
          · replace h := ifn cw11_1 h
            by_cases cw11_2 : x2 = (2 : Int32)
            · replace h := ifp cw11_2 h
              have hq : x2.toInt = 2 := by rw [cw11_2]; rfl
              refine g_tswIn (off := 46) (tgt := 94) C dX12_rectangle_48 (by rw [hq]; decide) (by rw [hq]; decide) (by rw [hq]; rfl) (by decide) ?_
              refine g_aload_n (pc := 94) C dX12_rectangle_94 rfl 0 rfl ?_
              refine g_get (pc := 95) (v := .int (gI M8 x0 23)) C dX12_rectangle_95 kX12 hk1 23 (by decide) q_1250 rfl ?_
              obtain ⟨rfl, rfl⟩ := Prod.mk.inj (Option.some.inj h)
              exact g_iret C hR dX12_rectangle_98
            · replace h := ifn cw11_2 h
              by_cases cw11_3 : x2 = (3 : Int32)
              · replace h := ifp cw11_3 h
                have hq : x2.toInt = 3 := by rw [cw11_3]; rfl
                refine g_tswIn (off := 51) (tgt := 99) C dX12_rectangle_48 (by rw [hq]; decide) (by rw [hq]; decide) (by rw [hq]; rfl) (by decide) ?_
                refine g_aload_n (pc := 99) C dX12_rectangle_99 rfl 0 rfl ?_
                refine g_get (pc := 100) (v := .int (gI M8 x0 24)) C dX12_rectangle_100 kX12 hk1 24 (by decide) q_1251 rfl ?_
                obtain ⟨rfl, rfl⟩ := Prod.mk.inj (Option.some.inj h)
                exact g_iret C hR dX12_rectangle_103
              · replace h := ifn cw11_3 h
                by_cases cw11_4 : x2 = (4 : Int32)
                · replace h := ifp cw11_4 h
                  have hq : x2.toInt = 4 := by rw [cw11_4]; rfl
                  refine g_tswIn (off := 56) (tgt := 104) C dX12_rectangle_48 (by rw [hq]; decide) (by rw [hq]; decide) (by rw [hq]; rfl) (by decide) ?_
                  refine g_aload_n (pc := 104) C dX12_rectangle_104 rfl 0 rfl ?_
                  refine g_get (pc := 105) (v := .int (gI M8 x0 25)) C dX12_rectangle_105 kX12 hk1 25 (by decide) q_1252 rfl ?_
                  obtain ⟨rfl, rfl⟩ := Prod.mk.inj (Option.some.inj h)
                  exact g_iret C hR dX12_rectangle_108
                · replace h := ifn cw11_4 h
                  refine g_tswOut (tgt := 109) C dX12_rectangle_48 (by
                      have := sw_ne cw11_0 (i := 0) rfl
                      have := sw_ne cw11_1 (i := 1) rfl
                      have := sw_ne cw11_2 (i := 2) rfl
                      have := sw_ne cw11_3 (i := 3) rfl
                      have := sw_ne cw11_4 (i := 4) rfl
                      omega) (by decide) ?_
                  refine g_aload_n (pc := 109) C dX12_rectangle_109 rfl 0 rfl ?_
                  replace h := bnd h; obtain ⟨r10, h1, h⟩ := h
                  refine g_callVi (pc := 110) (As := []) (st := []) C dX12_rectangle_110 wX12_middleNow hk1 rfl (by decide) q_1604 q_93 q_1602 (by omega) rfl (Nat.le_of_ble_eq_true rfl) (kX12_middleNow (d := 0) (Nat.le_refl _) h1) ?_
                  obtain ⟨rfl, rfl⟩ := Prod.mk.inj (Option.some.inj h)
                  exact g_iret C hR dX12_rectangle_113
      · replace h := ifp c9 h
        refine g_iconst (pc := 45) (v := (-1)) C dX12_rectangle_45 (by decide) ?_
        obtain ⟨rfl, rfl⟩ := Prod.mk.inj (Option.some.inj h)
        exact g_iret C hR dX12_rectangle_46
    · replace h := ifp c6 h
      refine g_bipush (pc := 26) (v := (-2)) C dX12_rectangle_26 (by decide) ?_
      obtain ⟨rfl, rfl⟩ := Prod.mk.inj (Option.some.inj h)
      exact g_iret C hR dX12_rectangle_28
theorem dX12_ellipse_0 : decode cX12_ellipse 0 = .ok (.aload_n 0, 1) := by decide +kernel
theorem dX12_ellipse_1 : decode cX12_ellipse 1 = .ok (.iconst 0, 1) := by decide +kernel
theorem dX12_ellipse_2 : decode cX12_ellipse 2 = .ok (.putfield 1, 3) := by decide +kernel
theorem dX12_ellipse_5 : decode cX12_ellipse 5 = .ok (.aload_n 0, 1) := by decide +kernel
theorem dX12_ellipse_6 : decode cX12_ellipse 6 = .ok (.iload_n 1, 1) := by decide +kernel
theorem dX12_ellipse_7 : decode cX12_ellipse 7 = .ok (.i2l, 1) := by decide +kernel
theorem dX12_ellipse_8 : decode cX12_ellipse 8 = .ok (.invokevirtual 247, 3) := by decide +kernel
theorem dX12_ellipse_11 : decode cX12_ellipse 11 = .ok (.ifCond .eq 13, 3) := by decide +kernel
theorem dX12_ellipse_14 : decode cX12_ellipse 14 = .ok (.iload_n 2, 1) := by decide +kernel
theorem dX12_ellipse_15 : decode cX12_ellipse 15 = .ok (.i2l, 1) := by decide +kernel
theorem dX12_ellipse_16 : decode cX12_ellipse 16 = .ok (.lconst 0, 1) := by decide +kernel
theorem dX12_ellipse_17 : decode cX12_ellipse 17 = .ok (.lconst 1, 1) := by decide +kernel
theorem dX12_ellipse_18 : decode cX12_ellipse 18 = .ok (.invokestatic 139, 3) := by decide +kernel
theorem dX12_ellipse_21 : decode cX12_ellipse 21 = .ok (.ifCond .ne 6, 3) := by decide +kernel
theorem dX12_ellipse_24 : decode cX12_ellipse 24 = .ok (.bipush (-2), 2) := by decide +kernel
theorem dX12_ellipse_26 : decode cX12_ellipse 26 = .ok (.ireturn, 1) := by decide +kernel
theorem dX12_ellipse_27 : decode cX12_ellipse 27 = .ok (.aload_n 0, 1) := by decide +kernel
theorem dX12_ellipse_28 : decode cX12_ellipse 28 = .ok (.iload_n 1, 1) := by decide +kernel
theorem dX12_ellipse_29 : decode cX12_ellipse 29 = .ok (.invokevirtual 410, 3) := by decide +kernel
theorem dX12_ellipse_32 : decode cX12_ellipse 32 = .ok (.aload_n 0, 1) := by decide +kernel
theorem dX12_ellipse_33 : decode cX12_ellipse 33 = .ok (.invokevirtual 327, 3) := by decide +kernel
theorem dX12_ellipse_36 : decode cX12_ellipse 36 = .ok (.aload_n 0, 1) := by decide +kernel
theorem dX12_ellipse_37 : decode cX12_ellipse 37 = .ok (.getfield 298, 3) := by decide +kernel
theorem dX12_ellipse_40 : decode cX12_ellipse 40 = .ok (.iconst (-1), 1) := by decide +kernel
theorem dX12_ellipse_41 : decode cX12_ellipse 41 = .ok (.if_icmp .ne 7, 3) := by decide +kernel
theorem dX12_ellipse_44 : decode cX12_ellipse 44 = .ok (.iconst (-1), 1) := by decide +kernel
theorem dX12_ellipse_45 : decode cX12_ellipse 45 = .ok (.goto 18, 3) := by decide +kernel
theorem dX12_ellipse_48 : decode cX12_ellipse 48 = .ok (.iload_n 2, 1) := by decide +kernel
theorem dX12_ellipse_49 : decode cX12_ellipse 49 = .ok (.ifCond .ne 10, 3) := by decide +kernel
theorem dX12_ellipse_52 : decode cX12_ellipse 52 = .ok (.aload_n 0, 1) := by decide +kernel
theorem dX12_ellipse_53 : decode cX12_ellipse 53 = .ok (.getfield 298, 3) := by decide +kernel
theorem dX12_ellipse_56 : decode cX12_ellipse 56 = .ok (.goto 7, 3) := by decide +kernel
theorem dX12_ellipse_59 : decode cX12_ellipse 59 = .ok (.aload_n 0, 1) := by decide +kernel
theorem dX12_ellipse_60 : decode cX12_ellipse 60 = .ok (.getfield 304, 3) := by decide +kernel
theorem dX12_ellipse_63 : decode cX12_ellipse 63 = .ok (.ireturn, 1) := by decide +kernel
theorem wX12_ellipse : Mw yX12_ellipse cX12_ellipse 3 (some .int) 2 := ⟨q_1737, q_130, by decide, ⟨by decide +kernel, by decide +kernel⟩, by decide +kernel, by decide +kernel⟩
/-- EyeTrainerModel.ellipse(II)I -/
def fX12_ellipse (T : Sh) (M : Me) (x0 : Nat) (x1 : Int32) (x2 : Int32) : Option (Int32 × Me) :=
  gd (kd T x0 = 11) <| lt (pI M x0 0 (0 : Int32)) fun M2 => Option.bind (fX12_isLane T M2 x0 (Int32.toInt64 x1)) fun r3 => if r3 = 0 then (some ((-2 : Int32), M2)) else (Option.bind (fX12_within (Int32.toInt64 x2) (0 : Int64) (1 : Int64)) fun r5 => if r5 = 0 then (some ((-2 : Int32), M2)) else (Option.bind (fX12_laysMapNow T M2 x0 x1) <| un2 fun _u M7 => Option.bind (fX12_laysEllipse T M7 x0) <| un2 fun _u M8 => if (gI M8 x0 26) = (-1 : Int32) then (some ((-1 : Int32), M8)) else (if x2 = 0 then (some ((gI M8 x0 26), M8)) else (some ((gI M8 x0 27), M8)))))
set_option maxHeartbeats 4000000 in
theorem kX12_ellipse {l : Launch} {B : Bx} {d : Nat} (hd : 6 ≤ d) {T : Sh} {M : Me} {x0 : Nat} {x1 : Int32} {x2 : Int32} {r : Int32} {M' : Me} (h : fX12_ellipse T M x0 x1 x2 = some (r, M')) : Kt l B yX12_ellipse cX12_ellipse 3 (some .int) d [.ref (x0), .int (x1), .int (x2)] T M (some (.int r)) T M' := by
  refine kt_of wX12_ellipse (Nat.le_refl _) (Nat.le_refl _) (Nat.le_of_ble_eq_true rfl) (fun X C hR hlx hin => ?_)
  subst hlx
  replace C : Cx X B cX12_ellipse 3 RX12 d (tp T, sl T, tp T, sl T) := C
  unfold fX12_ellipse at h
  show G X B 3 _ _ 0 [(0, .ref (x0)), (1, .int (x1)), (2, .int (x2))] [] T M
  refine g_aload_n (pc := 0) C dX12_ellipse_0 rfl 0 rfl ?_
  refine g_iconst (pc := 1) (v := 0) C dX12_ellipse_1 (by decide) ?_
  replace h := gd_some h; obtain ⟨hk1, h⟩ := h
  refine g_putI (pc := 2) C dX12_ellipse_2 kX12 hk1 0 (by decide) rfl rfl rfl q_1227 ?_
  refine g_mem (fun M2 eM2 => ?_)
  replace h := lt_at eM2 h
  refine g_aload_n (pc := 5) C dX12_ellipse_5 rfl 0 rfl ?_
  refine g_iload_n (pc := 6) C dX12_ellipse_6 rfl 1 rfl ?_
  refine g_i2l (pc := 7) C dX12_ellipse_7 ?_
  replace h := bnd h; obtain ⟨r3, h1, h⟩ := h
  refine g_callVi (pc := 8) (As := [.long (Int32.toInt64 x1)]) (st := []) C dX12_ellipse_8 wX12_isLane hk1 rfl (by decide) q_1481 q_75 q_1479 (by omega) rfl (Nat.le_of_ble_eq_true rfl) (kX12_isLane (d := 1) (Nat.le_refl _) h1) ?_
  refine g_if_eq (pc := 11) (tgt := 24) C dX12_ellipse_11 (by decide) (fun c4 => ?_) (fun c4 => ?_)
  · replace h := ifp c4 h
    refine g_bipush (pc := 24) (v := (-2)) C dX12_ellipse_24 (by decide) ?_
    obtain ⟨rfl, rfl⟩ := Prod.mk.inj (Option.some.inj h)
    exact g_iret C hR dX12_ellipse_26
  · replace h := ifn c4 h
    refine g_iload_n (pc := 14) C dX12_ellipse_14 rfl 2 rfl ?_
    refine g_i2l (pc := 15) C dX12_ellipse_15 ?_
    refine g_lconst (pc := 16) (v := 0) C dX12_ellipse_16 rfl ?_
    refine g_lconst (pc := 17) (v := 1) C dX12_ellipse_17 rfl ?_
    replace h := bnd h; obtain ⟨r5, h1, h⟩ := h
    refine g_callSi (pc := 18) (As := [.long (Int32.toInt64 x2), .long ((0 : Int64)), .long ((1 : Int64))]) (st := []) C dX12_ellipse_18 wX12_within q_1367 q_1366 (by omega) rfl (Nat.le_of_ble_eq_true rfl) (kX12_within (d := 0) (Nat.le_refl _) h1) ?_
    refine g_if_ne (pc := 21) (tgt := 27) C dX12_ellipse_21 (by decide) (fun c6 => ?_) (fun c6 => ?_)
    · replace h := ifn c6 h
      refine g_aload_n (pc := 27) C dX12_ellipse_27 rfl 0 rfl ?_
      refine g_iload_n (pc := 28) C dX12_ellipse_28 rfl 1 rfl ?_
      replace h := bnd2 h; obtain ⟨_u, M7, h1, h⟩ := h
      refine g_callVv (pc := 29) (As := [.int (x1)]) (st := []) C dX12_ellipse_29 wX12_laysMapNow hk1 rfl (by decide) q_1711 q_108 q_1709 (by omega) rfl (Nat.le_of_ble_eq_true rfl) (kX12_laysMapNow (d := 5) (Nat.le_refl _) h1) ?_
      refine g_aload_n (pc := 32) C dX12_ellipse_32 rfl 0 rfl ?_
      replace h := bnd2 h; obtain ⟨_u, M8, h1, h⟩ := h
      refine g_callVv (pc := 33) (As := []) (st := []) C dX12_ellipse_33 wX12_laysEllipse hk1 rfl (by decide) q_1608 q_94 q_1606 (by omega) rfl (Nat.le_of_ble_eq_true rfl) (kX12_laysEllipse (d := 3) (Nat.le_refl _) h1) ?_
      refine g_aload_n (pc := 36) C dX12_ellipse_36 rfl 0 rfl ?_
      refine g_get (pc := 37) (v := .int (gI M8 x0 26)) C dX12_ellipse_37 kX12 hk1 26 (by decide) q_1253 rfl ?_
      refine g_iconst (pc := 40) (v := (-1)) C dX12_ellipse_40 (by decide) ?_
      refine g_icmp_ne (pc := 41) (tgt := 48) C dX12_ellipse_41 (by decide) (fun c9 => ?_) (fun c9 => ?_)
      · replace h := ifn c9 h
        refine g_iload_n (pc := 48) C dX12_ellipse_48 rfl 2 rfl ?_
        refine g_if_ne (pc := 49) (tgt := 59) C dX12_ellipse_49 (by decide) (fun c10 => ?_) (fun c10 => ?_)
        · replace h := ifn c10 h
          refine g_aload_n (pc := 59) C dX12_ellipse_59 rfl 0 rfl ?_
          refine g_get (pc := 60) (v := .int (gI M8 x0 27)) C dX12_ellipse_60 kX12 hk1 27 (by decide) q_1254 rfl ?_
          obtain ⟨rfl, rfl⟩ := Prod.mk.inj (Option.some.inj h)
          exact g_iret C hR dX12_ellipse_63
        · replace h := ifp c10 h
          refine g_aload_n (pc := 52) C dX12_ellipse_52 rfl 0 rfl ?_
          refine g_get (pc := 53) (v := .int (gI M8 x0 26)) C dX12_ellipse_53 kX12 hk1 26 (by decide) q_1253 rfl ?_
          refine g_goto (pc := 56) (tgt := 63) C dX12_ellipse_56 (by decide) ?_
          obtain ⟨rfl, rfl⟩ := Prod.mk.inj (Option.some.inj h)
          exact g_iret C hR dX12_ellipse_63
      · replace h := ifp c9 h
        refine g_iconst (pc := 44) (v := (-1)) C dX12_ellipse_44 (by decide) ?_
        refine g_goto (pc := 45) (tgt := 63) C dX12_ellipse_45 (by decide) ?_
        obtain ⟨rfl, rfl⟩ := Prod.mk.inj (Option.some.inj h)
        exact g_iret C hR dX12_ellipse_63
    · replace h := ifp c6 h
      refine g_bipush (pc := 24) (v := (-2)) C dX12_ellipse_24 (by decide) ?_
      obtain ⟨rfl, rfl⟩ := Prod.mk.inj (Option.some.inj h)
      exact g_iret C hR dX12_ellipse_26
theorem dX12_margin_0 : decode cX12_margin 0 = .ok (.aload_n 0, 1) := by decide +kernel
theorem dX12_margin_1 : decode cX12_margin 1 = .ok (.iconst 0, 1) := by decide +kernel
theorem dX12_margin_2 : decode cX12_margin 2 = .ok (.putfield 1, 3) := by decide +kernel
theorem dX12_margin_5 : decode cX12_margin 5 = .ok (.aload_n 0, 1) := by decide +kernel
theorem dX12_margin_6 : decode cX12_margin 6 = .ok (.iload_n 1, 1) := by decide +kernel
theorem dX12_margin_7 : decode cX12_margin 7 = .ok (.i2l, 1) := by decide +kernel
theorem dX12_margin_8 : decode cX12_margin 8 = .ok (.invokevirtual 247, 3) := by decide +kernel
theorem dX12_margin_11 : decode cX12_margin 11 = .ok (.ifCond .eq 15, 3) := by decide +kernel
theorem dX12_margin_14 : decode cX12_margin 14 = .ok (.iload_n 2, 1) := by decide +kernel
theorem dX12_margin_15 : decode cX12_margin 15 = .ok (.i2l, 1) := by decide +kernel
theorem dX12_margin_16 : decode cX12_margin 16 = .ok (.lconst 0, 1) := by decide +kernel
theorem dX12_margin_17 : decode cX12_margin 17 = .ok (.ldc2_w 384, 3) := by decide +kernel
theorem dX12_margin_20 : decode cX12_margin 20 = .ok (.invokestatic 139, 3) := by decide +kernel
theorem dX12_margin_23 : decode cX12_margin 23 = .ok (.ifCond .ne 6, 3) := by decide +kernel
theorem dX12_margin_26 : decode cX12_margin 26 = .ok (.bipush (-2), 2) := by decide +kernel
theorem dX12_margin_28 : decode cX12_margin 28 = .ok (.ireturn, 1) := by decide +kernel
theorem dX12_margin_29 : decode cX12_margin 29 = .ok (.aload_n 0, 1) := by decide +kernel
theorem dX12_margin_30 : decode cX12_margin 30 = .ok (.iload_n 1, 1) := by decide +kernel
theorem dX12_margin_31 : decode cX12_margin 31 = .ok (.invokevirtual 410, 3) := by decide +kernel
theorem dX12_margin_34 : decode cX12_margin 34 = .ok (.aload_n 0, 1) := by decide +kernel
theorem dX12_margin_35 : decode cX12_margin 35 = .ok (.getfield 13, 3) := by decide +kernel
theorem dX12_margin_38 : decode cX12_margin 38 = .ok (.bipush 42, 2) := by decide +kernel
theorem dX12_margin_40 : decode cX12_margin 40 = .ok (.iload_n 1, 1) := by decide +kernel
theorem dX12_margin_41 : decode cX12_margin 41 = .ok (.iadd, 1) := by decide +kernel
theorem dX12_margin_42 : decode cX12_margin 42 = .ok (.iaload, 1) := by decide +kernel
theorem dX12_margin_43 : decode cX12_margin 43 = .ok (.bipush 24, 2) := by decide +kernel
theorem dX12_margin_45 : decode cX12_margin 45 = .ok (.irem, 1) := by decide +kernel
theorem dX12_margin_46 : decode cX12_margin 46 = .ok (.istore_n 3, 1) := by decide +kernel
theorem dX12_margin_47 : decode cX12_margin 47 = .ok (.aload_n 0, 1) := by decide +kernel
theorem dX12_margin_48 : decode cX12_margin 48 = .ok (.getfield 13, 3) := by decide +kernel
theorem dX12_margin_51 : decode cX12_margin 51 = .ok (.bipush 42, 2) := by decide +kernel
theorem dX12_margin_53 : decode cX12_margin 53 = .ok (.iload_n 1, 1) := by decide +kernel
theorem dX12_margin_54 : decode cX12_margin 54 = .ok (.iadd, 1) := by decide +kernel
theorem dX12_margin_55 : decode cX12_margin 55 = .ok (.iaload, 1) := by decide +kernel
theorem dX12_margin_56 : decode cX12_margin 56 = .ok (.bipush 24, 2) := by decide +kernel
theorem dX12_margin_58 : decode cX12_margin 58 = .ok (.idiv, 1) := by decide +kernel
theorem dX12_margin_59 : decode cX12_margin 59 = .ok (.istore 4, 2) := by decide +kernel
theorem dX12_margin_61 : decode cX12_margin 61 = .ok (.aload_n 0, 1) := by decide +kernel
theorem dX12_margin_62 : decode cX12_margin 62 = .ok (.iload_n 3, 1) := by decide +kernel
theorem dX12_margin_63 : decode cX12_margin 63 = .ok (.iload 4, 2) := by decide +kernel
theorem dX12_margin_65 : decode cX12_margin 65 = .ok (.invokevirtual 295, 3) := by decide +kernel
theorem dX12_margin_68 : decode cX12_margin 68 = .ok (.ifCond .ne 6, 3) := by decide +kernel
theorem dX12_margin_71 : decode cX12_margin 71 = .ok (.bipush (-5), 2) := by decide +kernel
theorem dX12_margin_73 : decode cX12_margin 73 = .ok (.ireturn, 1) := by decide +kernel
theorem dX12_margin_74 : decode cX12_margin 74 = .ok (.iload_n 2, 1) := by decide +kernel
theorem dX12_margin_75 : decode cX12_margin 75 = .ok (.ifCond .ne 7, 3) := by decide +kernel
theorem dX12_margin_78 : decode cX12_margin 78 = .ok (.iconst (-1), 1) := by decide +kernel
theorem dX12_margin_79 : decode cX12_margin 79 = .ok (.goto 13, 3) := by decide +kernel
theorem dX12_margin_82 : decode cX12_margin 82 = .ok (.iload_n 2, 1) := by decide +kernel
theorem dX12_margin_83 : decode cX12_margin 83 = .ok (.iconst 1, 1) := by decide +kernel
theorem dX12_margin_84 : decode cX12_margin 84 = .ok (.if_icmp .ne 7, 3) := by decide +kernel
theorem dX12_margin_87 : decode cX12_margin 87 = .ok (.iconst 1, 1) := by decide +kernel
theorem dX12_margin_88 : decode cX12_margin 88 = .ok (.goto 4, 3) := by decide +kernel
theorem dX12_margin_91 : decode cX12_margin 91 = .ok (.iconst 0, 1) := by decide +kernel
theorem dX12_margin_92 : decode cX12_margin 92 = .ok (.istore 5, 2) := by decide +kernel
theorem dX12_margin_94 : decode cX12_margin 94 = .ok (.iload_n 2, 1) := by decide +kernel
theorem dX12_margin_95 : decode cX12_margin 95 = .ok (.iconst 2, 1) := by decide +kernel
theorem dX12_margin_96 : decode cX12_margin 96 = .ok (.if_icmp .ne 7, 3) := by decide +kernel
theorem dX12_margin_99 : decode cX12_margin 99 = .ok (.iconst (-1), 1) := by decide +kernel
theorem dX12_margin_100 : decode cX12_margin 100 = .ok (.goto 13, 3) := by decide +kernel
theorem dX12_margin_103 : decode cX12_margin 103 = .ok (.iload_n 2, 1) := by decide +kernel
theorem dX12_margin_104 : decode cX12_margin 104 = .ok (.iconst 3, 1) := by decide +kernel
theorem dX12_margin_105 : decode cX12_margin 105 = .ok (.if_icmp .ne 7, 3) := by decide +kernel
theorem dX12_margin_108 : decode cX12_margin 108 = .ok (.iconst 1, 1) := by decide +kernel
theorem dX12_margin_109 : decode cX12_margin 109 = .ok (.goto 4, 3) := by decide +kernel
theorem dX12_margin_112 : decode cX12_margin 112 = .ok (.iconst 0, 1) := by decide +kernel
theorem dX12_margin_113 : decode cX12_margin 113 = .ok (.istore 6, 2) := by decide +kernel
theorem dX12_margin_115 : decode cX12_margin 115 = .ok (.iconst 0, 1) := by decide +kernel
theorem dX12_margin_116 : decode cX12_margin 116 = .ok (.istore 7, 2) := by decide +kernel
theorem dX12_margin_118 : decode cX12_margin 118 = .ok (.aload_n 0, 1) := by decide +kernel
theorem dX12_margin_119 : decode cX12_margin 119 = .ok (.iload_n 3, 1) := by decide +kernel
theorem dX12_margin_120 : decode cX12_margin 120 = .ok (.iload 7, 2) := by decide +kernel
theorem dX12_margin_122 : decode cX12_margin 122 = .ok (.iconst 1, 1) := by decide +kernel
theorem dX12_margin_123 : decode cX12_margin 123 = .ok (.iadd, 1) := by decide +kernel
theorem dX12_margin_124 : decode cX12_margin 124 = .ok (.iload 5, 2) := by decide +kernel
theorem dX12_margin_126 : decode cX12_margin 126 = .ok (.imul, 1) := by decide +kernel
theorem dX12_margin_127 : decode cX12_margin 127 = .ok (.iadd, 1) := by decide +kernel
theorem dX12_margin_128 : decode cX12_margin 128 = .ok (.iload 4, 2) := by decide +kernel
theorem dX12_margin_130 : decode cX12_margin 130 = .ok (.iload 7, 2) := by decide +kernel
theorem dX12_margin_132 : decode cX12_margin 132 = .ok (.iconst 1, 1) := by decide +kernel
theorem dX12_margin_133 : decode cX12_margin 133 = .ok (.iadd, 1) := by decide +kernel
theorem dX12_margin_134 : decode cX12_margin 134 = .ok (.iload 6, 2) := by decide +kernel
theorem dX12_margin_136 : decode cX12_margin 136 = .ok (.imul, 1) := by decide +kernel
theorem dX12_margin_137 : decode cX12_margin 137 = .ok (.iadd, 1) := by decide +kernel
theorem dX12_margin_138 : decode cX12_margin 138 = .ok (.invokevirtual 295, 3) := by decide +kernel
theorem dX12_margin_141 : decode cX12_margin 141 = .ok (.ifCond .eq 9, 3) := by decide +kernel
theorem dX12_margin_144 : decode cX12_margin 144 = .ok (.iinc 7 1, 3) := by decide +kernel
theorem dX12_margin_147 : decode cX12_margin 147 = .ok (.goto (-29), 3) := by decide +kernel
theorem dX12_margin_150 : decode cX12_margin 150 = .ok (.iload 7, 2) := by decide +kernel
theorem dX12_margin_152 : decode cX12_margin 152 = .ok (.ireturn, 1) := by decide +kernel
theorem wX12_margin : Mw yX12_margin cX12_margin 8 (some .int) 2 := ⟨q_1741, q_130, by decide, ⟨by decide +kernel, by decide +kernel⟩, by decide +kernel, by decide +kernel⟩
-- a loop of EyeTrainerModel.margin at 118
def bX12_margin_118 (T : Sh) (M : Me) (x0 : Nat) (x3 : Int32) (x4 : Int32) (x5 : Int32) (x6 : Int32) (x7 : Int32) : Option ((Int32) ⊕ (Int32)) :=
  gd (kd T x0 = 11) <| Option.bind (fX12_isMapped T M x0 (x3 + ((x7 + (1 : Int32)) * x5)) (x4 + ((x7 + (1 : Int32)) * x6))) fun r23 => if r23 = 0 then (some (.inr x7)) else (lt (x7 + (1 : Int32)) fun v25 => some (.inl v25))
def PX12_margin_118 (X : Fx) (B : Bx) (Z : Nat × Nat × Nat × Nat) (Q : State → Prop) (T : Sh) (M : Me) (x0 : Nat) (x3 : Int32) (x4 : Int32) (x5 : Int32) (x6 : Int32) (s : Int32) : Prop := G X B 8 Z Q 118 [(0, .ref (x0)), (3, .int (x3)), (4, .int (x4)), (5, .int (x5)), (6, .int (x6)), (7, .int (s))] [] T M
def EX12_margin_118 (X : Fx) (B : Bx) (Z : Nat × Nat × Nat × Nat) (Q : State → Prop) (T : Sh) (M : Me) (x0 : Nat) (x3 : Int32) (x4 : Int32) (x5 : Int32) (x6 : Int32) (r : Int32) : Prop := G X B 8 Z Q 150 [(7, .int (r))] [] T M
set_option maxHeartbeats 4000000 in
theorem tbX12_margin_118 {X : Fx} {B : Bx} {Z : Nat × Nat × Nat × Nat} {Q : State → Prop} {d : Nat} {T : Sh} {M : Me} (C : Cx X B cX12_margin 8 RX12 d Z) (hd : 6 ≤ d) {x0 : Nat} {x3 : Int32} {x4 : Int32} {x5 : Int32} {x6 : Int32} : ∀ (s : Int32) (o : (Int32) ⊕ (Int32)), bX12_margin_118 T M x0 x3 x4 x5 x6 s = some o → lpE (PX12_margin_118 X B Z Q T M x0 x3 x4 x5 x6) (EX12_margin_118 X B Z Q T M x0 x3 x4 x5 x6) o → PX12_margin_118 X B Z Q T M x0 x3 x4 x5 x6 s := by
  rintro x7 o h hE
  replace h : bX12_margin_118 T M x0 x3 x4 x5 x6 x7 = some o := h
  unfold bX12_margin_118 at h
  show G X B 8 Z Q 118 [(0, .ref (x0)), (3, .int (x3)), (4, .int (x4)), (5, .int (x5)), (6, .int (x6)), (7, .int (x7))] [] T M
  refine g_aload_n (pc := 118) C dX12_margin_118 rfl 0 rfl ?_
  refine g_iload_n (pc := 119) C dX12_margin_119 rfl 1 rfl ?_
  refine g_iload (pc := 120) C dX12_margin_120 5 rfl ?_
  refine g_iconst (pc := 122) (v := 1) C dX12_margin_122 (by decide) ?_
  refine g_iadd (pc := 123) C dX12_margin_123 ?_
  refine g_iload (pc := 124) C dX12_margin_124 3 rfl ?_
  refine g_imul (pc := 126) C dX12_margin_126 ?_
  refine g_iadd (pc := 127) C dX12_margin_127 ?_
  refine g_iload (pc := 128) C dX12_margin_128 2 rfl ?_
  refine g_iload (pc := 130) C dX12_margin_130 5 rfl ?_
  refine g_iconst (pc := 132) (v := 1) C dX12_margin_132 (by decide) ?_
  refine g_iadd (pc := 133) C dX12_margin_133 ?_
  refine g_iload (pc := 134) C dX12_margin_134 4 rfl ?_
  refine g_imul (pc := 136) C dX12_margin_136 ?_
  refine g_iadd (pc := 137) C dX12_margin_137 ?_
  replace h := gd_some h; obtain ⟨hk22, h⟩ := h
  replace h := bnd h; obtain ⟨r23, h1, h⟩ := h
  refine g_callVi (pc := 138) (As := [.int (x3 + ((x7 + (1 : Int32)) * x5)), .int (x4 + ((x7 + (1 : Int32)) * x6))]) (st := []) C dX12_margin_138 wX12_isMapped hk22 rfl (by decide) q_1612 q_95 q_1610 (by omega) rfl (Nat.le_of_ble_eq_true rfl) (kX12_isMapped (d := 1) (Nat.le_refl _) h1) ?_
  refine g_if_eq (pc := 141) (tgt := 150) C dX12_margin_141 (by decide) (fun c24 => ?_) (fun c24 => ?_)
  · replace h := ifp c24 h
    obtain rfl := Option.some.inj h
    exact g_sub [5] rfl (show G X B 8 Z Q 150 [(7, .int (x7))] [] T M from hE)
  · replace h := ifn c24 h
    obtain ⟨v25, ev25⟩ : ∃ y : Int32, y = x7 + (1 : Int32) := ⟨_, rfl⟩
    replace h := lt_at ev25 h
    refine g_iinc (pc := 144) (v := v25) (k := 5) (lo2 := [(7, .int (v25)), (0, .ref (x0)), (3, .int (x3)), (4, .int (x4)), (5, .int (x5)), (6, .int (x6))]) C dX12_margin_144 rfl (by rw [ev25]; rfl) (by decide) rfl ?_
    refine g_goto (pc := 147) (tgt := 118) C dX12_margin_147 (by decide) ?_
    obtain rfl := Option.some.inj h
    exact g_sub [1, 2, 3, 4, 5, 0] rfl (show G X B 8 Z Q 118 [(0, .ref (x0)), (3, .int (x3)), (4, .int (x4)), (5, .int (x5)), (6, .int (x6)), (7, .int (v25))] [] T M from hE)
def jX12_margin_113 (T : Sh) (M : Me) (x0 : Nat) (x3 : Int32) (x4 : Int32) (x5 : Int32) (s0 : Int32) : Option (Int32 × Me) :=
  (lp FU (fun s => bX12_margin_118 T M x0 x3 x4 x5 s0 s) (0 : Int32)).bind (fun x7_26 => some (x7_26, M))
set_option maxHeartbeats 4000000 in
theorem tjX12_margin_113 {X : Fx} {B : Bx} {Z : Nat × Nat × Nat × Nat} {d : Nat} {T : Sh} {M : Me} {x0 : Nat} {x3 : Int32} {x4 : Int32} {x5 : Int32} {s0 : Int32} {r : Int32} {M' : Me} (C : Cx X B cX12_margin 8 RX12 d Z) (hR : Rx X (some .int)) (hd : 6 ≤ d) (h : jX12_margin_113 T M x0 x3 x4 x5 s0 = some (r, M')) : G X B 8 Z (Qf X B Z (some (.int r)) T M') 113 [(0, .ref (x0)), (3, .int (x3)), (4, .int (x4)), (5, .int (x5))] [.int (s0)] T M := by
  unfold jX12_margin_113 at h
  refine g_istore (pc := 113) (lo2 := [(6, .int (s0)), (0, .ref (x0)), (3, .int (x3)), (4, .int (x4)), (5, .int (x5))]) C dX12_margin_113 (by decide) rfl ?_
  refine g_iconst (pc := 115) (v := 0) C dX12_margin_115 (by decide) ?_
  refine g_istore (pc := 116) (lo2 := [(7, .int ((0 : Int32))), (6, .int (s0)), (0, .ref (x0)), (3, .int (x3)), (4, .int (x4)), (5, .int (x5))]) C dX12_margin_116 (by decide) rfl ?_
  replace h := bnd h; obtain ⟨x7_26, h1, h⟩ := h
  refine g_sub [2, 3, 4, 5, 1, 0] rfl ?_
  refine lp_G2 (P := PX12_margin_118 X B _ _ T M x0 x3 x4 x5 s0) (E := EX12_margin_118 X B _ _ T M x0 x3 x4 x5 s0) (tbX12_margin_118 C hd) h1 ?_
  show G X B 8 _ _ 150 [(7, .int (x7_26))] [] T M
  refine g_iload (pc := 150) C dX12_margin_150 0 rfl ?_
  obtain ⟨rfl, rfl⟩ := Prod.mk.inj (Option.some.inj h)
  exact g_iret C hR dX12_margin_152
def jX12_margin_92 (T : Sh) (M : Me) (x0 : Nat) (x2 : Int32) (x3 : Int32) (x4 : Int32) (s0 : Int32) : Option (Int32 × Me) :=
  if x2 = (2 : Int32) then (jX12_margin_113 T M x0 x3 x4 s0 (-1 : Int32)) else (if x2 = (3 : Int32) then (jX12_margin_113 T M x0 x3 x4 s0 (1 : Int32)) else (jX12_margin_113 T M x0 x3 x4 s0 (0 : Int32)))
set_option maxHeartbeats 4000000 in
theorem tjX12_margin_92 {X : Fx} {B : Bx} {Z : Nat × Nat × Nat × Nat} {d : Nat} {T : Sh} {M : Me} {x0 : Nat} {x2 : Int32} {x3 : Int32} {x4 : Int32} {s0 : Int32} {r : Int32} {M' : Me} (C : Cx X B cX12_margin 8 RX12 d Z) (hR : Rx X (some .int)) (hd : 6 ≤ d) (h : jX12_margin_92 T M x0 x2 x3 x4 s0 = some (r, M')) : G X B 8 Z (Qf X B Z (some (.int r)) T M') 92 [(0, .ref (x0)), (2, .int (x2)), (3, .int (x3)), (4, .int (x4))] [.int (s0)] T M := by
  unfold jX12_margin_92 at h
  refine g_istore (pc := 92) (lo2 := [(5, .int (s0)), (0, .ref (x0)), (2, .int (x2)), (3, .int (x3)), (4, .int (x4))]) C dX12_margin_92 (by decide) rfl ?_
  refine g_iload_n (pc := 94) C dX12_margin_94 rfl 2 rfl ?_
  refine g_iconst (pc := 95) (v := 2) C dX12_margin_95 (by decide) ?_
  refine g_icmp_ne (pc := 96) (tgt := 103) C dX12_margin_96 (by decide) (fun c20 => ?_) (fun c20 => ?_)
  · replace h := ifn c20 h
    refine g_iload_n (pc := 103) C dX12_margin_103 rfl 2 rfl ?_
    refine g_iconst (pc := 104) (v := 3) C dX12_margin_104 (by decide) ?_
    refine g_icmp_ne (pc := 105) (tgt := 112) C dX12_margin_105 (by decide) (fun c21 => ?_) (fun c21 => ?_)
    · replace h := ifn c21 h
      refine g_iconst (pc := 112) (v := 0) C dX12_margin_112 (by decide) ?_
      exact g_sub [1, 3, 4, 0] rfl (tjX12_margin_113 C hR hd h)
    · replace h := ifp c21 h
      refine g_iconst (pc := 108) (v := 1) C dX12_margin_108 (by decide) ?_
      refine g_goto (pc := 109) (tgt := 113) C dX12_margin_109 (by decide) ?_
      exact g_sub [1, 3, 4, 0] rfl (tjX12_margin_113 C hR hd h)
  · replace h := ifp c20 h
    refine g_iconst (pc := 99) (v := (-1)) C dX12_margin_99 (by decide) ?_
    refine g_goto (pc := 100) (tgt := 113) C dX12_margin_100 (by decide) ?_
    exact g_sub [1, 3, 4, 0] rfl (tjX12_margin_113 C hR hd h)
/-- EyeTrainerModel.margin(II)I -/
def fX12_margin (T : Sh) (M : Me) (x0 : Nat) (x1 : Int32) (x2 : Int32) : Option (Int32 × Me) :=
  gd (kd T x0 = 11) <| lt (pI M x0 0 (0 : Int32)) fun M2 => Option.bind (fX12_isLane T M2 x0 (Int32.toInt64 x1)) fun r3 => if r3 = 0 then (some ((-2 : Int32), M2)) else (Option.bind (fX12_within (Int32.toInt64 x2) (0 : Int64) (3 : Int64)) fun r5 => if r5 = 0 then (some ((-2 : Int32), M2)) else (Option.bind (fX12_laysMapNow T M2 x0 x1) <| un2 fun _u M7 => Option.bind (gR M7 x0 1) fun a8 => gd (kd T a8 = 13) <| gv ((42 : Int32) + x1) (ln T a8) <| lt ((gI M7 a8 (Int32.toNatClampNeg ((42 : Int32) + x1))) - (gI M7 a8 (Int32.toNatClampNeg ((42 : Int32) + x1))) / (24 : Int32) * (24 : Int32)) fun v11 => Option.bind (gR M7 x0 1) fun a12 => gd (kd T a12 = 13) <| gv ((42 : Int32) + x1) (ln T a12) <| lt ((gI M7 a12 (Int32.toNatClampNeg ((42 : Int32) + x1))) / (24 : Int32)) fun v15 => Option.bind (fX12_isMapped T M7 x0 v11 v15) fun r16 => if r16 = 0 then (some ((-5 : Int32), M7)) else (if x2 = 0 then (jX12_margin_92 T M7 x0 x2 v11 v15 (-1 : Int32)) else (if x2 = (1 : Int32) then (jX12_margin_92 T M7 x0 x2 v11 v15 (1 : Int32)) else (jX12_margin_92 T M7 x0 x2 v11 v15 (0 : Int32))))))
set_option maxHeartbeats 4000000 in
theorem kX12_margin {l : Launch} {B : Bx} {d : Nat} (hd : 6 ≤ d) {T : Sh} {M : Me} {x0 : Nat} {x1 : Int32} {x2 : Int32} {r : Int32} {M' : Me} (h : fX12_margin T M x0 x1 x2 = some (r, M')) : Kt l B yX12_margin cX12_margin 8 (some .int) d [.ref (x0), .int (x1), .int (x2)] T M (some (.int r)) T M' := by
  refine kt_of wX12_margin (Nat.le_refl _) (Nat.le_refl _) (Nat.le_of_ble_eq_true rfl) (fun X C hR hlx hin => ?_)
  subst hlx
  replace C : Cx X B cX12_margin 8 RX12 d (tp T, sl T, tp T, sl T) := C
  unfold fX12_margin at h
  show G X B 8 _ _ 0 [(0, .ref (x0)), (1, .int (x1)), (2, .int (x2))] [] T M
  refine g_aload_n (pc := 0) C dX12_margin_0 rfl 0 rfl ?_
  refine g_iconst (pc := 1) (v := 0) C dX12_margin_1 (by decide) ?_
  replace h := gd_some h; obtain ⟨hk1, h⟩ := h
  refine g_putI (pc := 2) C dX12_margin_2 kX12 hk1 0 (by decide) rfl rfl rfl q_1227 ?_
  refine g_mem (fun M2 eM2 => ?_)
  replace h := lt_at eM2 h
  refine g_aload_n (pc := 5) C dX12_margin_5 rfl 0 rfl ?_
  refine g_iload_n (pc := 6) C dX12_margin_6 rfl 1 rfl ?_
  refine g_i2l (pc := 7) C dX12_margin_7 ?_
  replace h := bnd h; obtain ⟨r3, h1, h⟩ := h
  refine g_callVi (pc := 8) (As := [.long (Int32.toInt64 x1)]) (st := []) C dX12_margin_8 wX12_isLane hk1 rfl (by decide) q_1481 q_75 q_1479 (by omega) rfl (Nat.le_of_ble_eq_true rfl) (kX12_isLane (d := 1) (Nat.le_refl _) h1) ?_
  refine g_if_eq (pc := 11) (tgt := 26) C dX12_margin_11 (by decide) (fun c4 => ?_) (fun c4 => ?_)
  · replace h := ifp c4 h
    refine g_bipush (pc := 26) (v := (-2)) C dX12_margin_26 (by decide) ?_
    obtain ⟨rfl, rfl⟩ := Prod.mk.inj (Option.some.inj h)
    exact g_iret C hR dX12_margin_28
  · replace h := ifn c4 h
    refine g_iload_n (pc := 14) C dX12_margin_14 rfl 2 rfl ?_
    refine g_i2l (pc := 15) C dX12_margin_15 ?_
    refine g_lconst (pc := 16) (v := 0) C dX12_margin_16 rfl ?_
    refine g_ldc2 (pc := 17) C dX12_margin_17 q_1659 ?_
    replace h := bnd h; obtain ⟨r5, h1, h⟩ := h
    refine g_callSi (pc := 20) (As := [.long (Int32.toInt64 x2), .long ((0 : Int64)), .long ((3 : Int64))]) (st := []) C dX12_margin_20 wX12_within q_1367 q_1366 (by omega) rfl (Nat.le_of_ble_eq_true rfl) (kX12_within (d := 0) (Nat.le_refl _) h1) ?_
    refine g_if_ne (pc := 23) (tgt := 29) C dX12_margin_23 (by decide) (fun c6 => ?_) (fun c6 => ?_)
    · replace h := ifn c6 h
      refine g_aload_n (pc := 29) C dX12_margin_29 rfl 0 rfl ?_
      refine g_iload_n (pc := 30) C dX12_margin_30 rfl 1 rfl ?_
      replace h := bnd2 h; obtain ⟨_u, M7, h1, h⟩ := h
      refine g_callVv (pc := 31) (As := [.int (x1)]) (st := []) C dX12_margin_31 wX12_laysMapNow hk1 rfl (by decide) q_1711 q_108 q_1709 (by omega) rfl (Nat.le_of_ble_eq_true rfl) (kX12_laysMapNow (d := 5) (Nat.le_refl _) h1) ?_
      refine g_aload_n (pc := 34) C dX12_margin_34 rfl 0 rfl ?_
      refine g_get (pc := 35) (v := va_rf (gR M7 x0 1)) C dX12_margin_35 kX12 hk1 1 (by decide) q_1228 rfl ?_
      replace h := bnd h; obtain ⟨a8, ea8, h⟩ := h
      refine g_refq ea8 ?_
      refine g_bipush (pc := 38) (v := 42) C dX12_margin_38 (by decide) ?_
      refine g_iload_n (pc := 40) C dX12_margin_40 rfl 1 rfl ?_
      refine g_iadd (pc := 41) C dX12_margin_41 ?_
      replace h := gd_some h; obtain ⟨hk9, h⟩ := h
      replace h := gv_some h; obtain ⟨hi10, h⟩ := h
      refine g_iald (pc := 42) C dX12_margin_42 hk9 hi10 ?_
      refine g_bipush (pc := 43) (v := 24) C dX12_margin_43 (by decide) ?_
      refine g_irem (pc := 45) C dX12_margin_45 (by decide) ?_
      refine g_topi (fun v11 ev11 => ?_)
      replace h := lt_at ev11 h
      refine g_istore_n (pc := 46) (lo2 := [(3, .int (v11)), (0, .ref (x0)), (1, .int (x1)), (2, .int (x2))]) C dX12_margin_46 rfl (by decide) rfl ?_
      refine g_aload_n (pc := 47) C dX12_margin_47 rfl 1 rfl ?_
      refine g_get (pc := 48) (v := va_rf (gR M7 x0 1)) C dX12_margin_48 kX12 hk1 1 (by decide) q_1228 rfl ?_
      replace h := bnd h; obtain ⟨a12, ea12, h⟩ := h
      refine g_refq ea12 ?_
      refine g_bipush (pc := 51) (v := 42) C dX12_margin_51 (by decide) ?_
      refine g_iload_n (pc := 53) C dX12_margin_53 rfl 2 rfl ?_
      refine g_iadd (pc := 54) C dX12_margin_54 ?_
      replace h := gd_some h; obtain ⟨hk13, h⟩ := h
      replace h := gv_some h; obtain ⟨hi14, h⟩ := h
      refine g_iald (pc := 55) C dX12_margin_55 hk13 hi14 ?_
      refine g_bipush (pc := 56) (v := 24) C dX12_margin_56 (by decide) ?_
      refine g_idiv (pc := 58) C dX12_margin_58 (by decide) ?_
      refine g_topi (fun v15 ev15 => ?_)
      replace h := lt_at ev15 h
      refine g_istore (pc := 59) (lo2 := [(4, .int (v15)), (3, .int (v11)), (0, .ref (x0)), (1, .int (x1)), (2, .int (x2))]) C dX12_margin_59 (by decide) rfl ?_
      refine g_aload_n (pc := 61) C dX12_margin_61 rfl 2 rfl ?_
      refine g_iload_n (pc := 62) C dX12_margin_62 rfl 1 rfl ?_
      refine g_iload (pc := 63) C dX12_margin_63 0 rfl ?_
      replace h := bnd h; obtain ⟨r16, h1, h⟩ := h
      refine g_callVi (pc := 65) (As := [.int (v11), .int (v15)]) (st := []) C dX12_margin_65 wX12_isMapped hk1 rfl (by decide) q_1612 q_95 q_1610 (by omega) rfl (Nat.le_of_ble_eq_true rfl) (kX12_isMapped (d := 1) (Nat.le_refl _) h1) ?_
      refine g_if_ne (pc := 68) (tgt := 74) C dX12_margin_68 (by decide) (fun c17 => ?_) (fun c17 => ?_)
      · replace h := ifn c17 h
        refine g_iload_n (pc := 74) C dX12_margin_74 rfl 4 rfl ?_
        refine g_if_ne (pc := 75) (tgt := 82) C dX12_margin_75 (by decide) (fun c18 => ?_) (fun c18 => ?_)
        · replace h := ifn c18 h
          refine g_iload_n (pc := 82) C dX12_margin_82 rfl 4 rfl ?_
          refine g_iconst (pc := 83) (v := 1) C dX12_margin_83 (by decide) ?_
          refine g_icmp_ne (pc := 84) (tgt := 91) C dX12_margin_84 (by decide) (fun c19 => ?_) (fun c19 => ?_)
          · replace h := ifn c19 h
            refine g_iconst (pc := 91) (v := 0) C dX12_margin_91 (by decide) ?_
            exact g_sub [2, 4, 1, 0] rfl (tjX12_margin_92 C hR hd h)
          · replace h := ifp c19 h
            refine g_iconst (pc := 87) (v := 1) C dX12_margin_87 (by decide) ?_
            refine g_goto (pc := 88) (tgt := 92) C dX12_margin_88 (by decide) ?_
            exact g_sub [2, 4, 1, 0] rfl (tjX12_margin_92 C hR hd h)
        · replace h := ifp c18 h
          refine g_iconst (pc := 78) (v := (-1)) C dX12_margin_78 (by decide) ?_
          refine g_goto (pc := 79) (tgt := 92) C dX12_margin_79 (by decide) ?_
          exact g_sub [2, 4, 1, 0] rfl (tjX12_margin_92 C hR hd h)
      · replace h := ifp c17 h
        refine g_bipush (pc := 71) (v := (-5)) C dX12_margin_71 (by decide) ?_
        obtain ⟨rfl, rfl⟩ := Prod.mk.inj (Option.some.inj h)
        exact g_iret C hR dX12_margin_73
    · replace h := ifp c6 h
      refine g_bipush (pc := 26) (v := (-2)) C dX12_margin_26 (by decide) ?_
      obtain ⟨rfl, rfl⟩ := Prod.mk.inj (Option.some.inj h)
      exact g_iret C hR dX12_margin_28
theorem dX12_edge_0 : decode cX12_edge 0 = .ok (.aload_n 0, 1) := by decide +kernel
theorem dX12_edge_1 : decode cX12_edge 1 = .ok (.iconst 0, 1) := by decide +kernel
theorem dX12_edge_2 : decode cX12_edge 2 = .ok (.putfield 1, 3) := by decide +kernel
theorem dX12_edge_5 : decode cX12_edge 5 = .ok (.aload_n 0, 1) := by decide +kernel
theorem dX12_edge_6 : decode cX12_edge 6 = .ok (.iload_n 1, 1) := by decide +kernel
theorem dX12_edge_7 : decode cX12_edge 7 = .ok (.i2l, 1) := by decide +kernel
theorem dX12_edge_8 : decode cX12_edge 8 = .ok (.invokevirtual 247, 3) := by decide +kernel
theorem dX12_edge_11 : decode cX12_edge 11 = .ok (.ifCond .ne 6, 3) := by decide +kernel
theorem dX12_edge_14 : decode cX12_edge 14 = .ok (.bipush (-2), 2) := by decide +kernel
theorem dX12_edge_16 : decode cX12_edge 16 = .ok (.ireturn, 1) := by decide +kernel
theorem dX12_edge_17 : decode cX12_edge 17 = .ok (.aload_n 0, 1) := by decide +kernel
theorem dX12_edge_18 : decode cX12_edge 18 = .ok (.invokevirtual 251, 3) := by decide +kernel
theorem dX12_edge_21 : decode cX12_edge 21 = .ok (.aload_n 0, 1) := by decide +kernel
theorem dX12_edge_22 : decode cX12_edge 22 = .ok (.iload_n 1, 1) := by decide +kernel
theorem dX12_edge_23 : decode cX12_edge 23 = .ok (.invokevirtual 309, 3) := by decide +kernel
theorem dX12_edge_26 : decode cX12_edge 26 = .ok (.ireturn, 1) := by decide +kernel
theorem wX12_edge : Mw yX12_edge cX12_edge 2 (some .int) 1 := ⟨q_1745, q_130, by decide, ⟨by decide +kernel, by decide +kernel⟩, by decide +kernel, by decide +kernel⟩
/-- EyeTrainerModel.edge(I)I -/
def fX12_edge (T : Sh) (M : Me) (x0 : Nat) (x1 : Int32) : Option (Int32 × Me) :=
  gd (kd T x0 = 11) <| lt (pI M x0 0 (0 : Int32)) fun M2 => Option.bind (fX12_isLane T M2 x0 (Int32.toInt64 x1)) fun r3 => if r3 = 0 then (some ((-2 : Int32), M2)) else (Option.bind (fX12_laysNow T M2 x0) <| un2 fun _u M5 => Option.bind (fX12_edgeOf T M5 x0 x1) <| un2 fun r6 M7 => some (r6, M7))
set_option maxHeartbeats 4000000 in
theorem kX12_edge {l : Launch} {B : Bx} {d : Nat} (hd : 5 ≤ d) {T : Sh} {M : Me} {x0 : Nat} {x1 : Int32} {r : Int32} {M' : Me} (h : fX12_edge T M x0 x1 = some (r, M')) : Kt l B yX12_edge cX12_edge 2 (some .int) d [.ref (x0), .int (x1)] T M (some (.int r)) T M' := by
  refine kt_of wX12_edge (Nat.le_refl _) (Nat.le_refl _) (Nat.le_of_ble_eq_true rfl) (fun X C hR hlx hin => ?_)
  subst hlx
  replace C : Cx X B cX12_edge 2 RX12 d (tp T, sl T, tp T, sl T) := C
  unfold fX12_edge at h
  show G X B 2 _ _ 0 [(0, .ref (x0)), (1, .int (x1))] [] T M
  refine g_aload_n (pc := 0) C dX12_edge_0 rfl 0 rfl ?_
  refine g_iconst (pc := 1) (v := 0) C dX12_edge_1 (by decide) ?_
  replace h := gd_some h; obtain ⟨hk1, h⟩ := h
  refine g_putI (pc := 2) C dX12_edge_2 kX12 hk1 0 (by decide) rfl rfl rfl q_1227 ?_
  refine g_mem (fun M2 eM2 => ?_)
  replace h := lt_at eM2 h
  refine g_aload_n (pc := 5) C dX12_edge_5 rfl 0 rfl ?_
  refine g_iload_n (pc := 6) C dX12_edge_6 rfl 1 rfl ?_
  refine g_i2l (pc := 7) C dX12_edge_7 ?_
  replace h := bnd h; obtain ⟨r3, h1, h⟩ := h
  refine g_callVi (pc := 8) (As := [.long (Int32.toInt64 x1)]) (st := []) C dX12_edge_8 wX12_isLane hk1 rfl (by decide) q_1481 q_75 q_1479 (by omega) rfl (Nat.le_of_ble_eq_true rfl) (kX12_isLane (d := 1) (Nat.le_refl _) h1) ?_
  refine g_if_ne (pc := 11) (tgt := 17) C dX12_edge_11 (by decide) (fun c4 => ?_) (fun c4 => ?_)
  · replace h := ifn c4 h
    refine g_aload_n (pc := 17) C dX12_edge_17 rfl 0 rfl ?_
    replace h := bnd2 h; obtain ⟨_u, M5, h1, h⟩ := h
    refine g_callVv (pc := 18) (As := []) (st := []) C dX12_edge_18 wX12_laysNow hk1 rfl (by decide) q_1485 q_76 q_1483 (by omega) rfl (Nat.le_of_ble_eq_true rfl) (kX12_laysNow (d := 3) (Nat.le_refl _) h1) ?_
    refine g_aload_n (pc := 21) C dX12_edge_21 rfl 0 rfl ?_
    refine g_iload_n (pc := 22) C dX12_edge_22 rfl 1 rfl ?_
    replace h := bnd2 h; obtain ⟨r6, M7, h1, h⟩ := h
    refine g_callVi (pc := 23) (As := [.int (x1)]) (st := []) C dX12_edge_23 wX12_edgeOf hk1 rfl (by decide) q_1577 q_88 q_1575 (by omega) rfl (Nat.le_of_ble_eq_true rfl) (kX12_edgeOf (d := 4) (Nat.le_refl _) h1) ?_
    obtain ⟨rfl, rfl⟩ := Prod.mk.inj (Option.some.inj h)
    exact g_iret C hR dX12_edge_26
  · replace h := ifp c4 h
    refine g_bipush (pc := 14) (v := (-2)) C dX12_edge_14 (by decide) ?_
    obtain ⟨rfl, rfl⟩ := Prod.mk.inj (Option.some.inj h)
    exact g_iret C hR dX12_edge_16
theorem dX12_lag_0 : decode cX12_lag 0 = .ok (.aload_n 0, 1) := by decide +kernel
theorem dX12_lag_1 : decode cX12_lag 1 = .ok (.iconst 0, 1) := by decide +kernel
theorem dX12_lag_2 : decode cX12_lag 2 = .ok (.putfield 1, 3) := by decide +kernel
theorem dX12_lag_5 : decode cX12_lag 5 = .ok (.aload_n 0, 1) := by decide +kernel
theorem dX12_lag_6 : decode cX12_lag 6 = .ok (.iload_n 1, 1) := by decide +kernel
theorem dX12_lag_7 : decode cX12_lag 7 = .ok (.i2l, 1) := by decide +kernel
theorem dX12_lag_8 : decode cX12_lag 8 = .ok (.invokevirtual 247, 3) := by decide +kernel
theorem dX12_lag_11 : decode cX12_lag 11 = .ok (.ifCond .ne 6, 3) := by decide +kernel
theorem dX12_lag_14 : decode cX12_lag 14 = .ok (.bipush (-2), 2) := by decide +kernel
theorem dX12_lag_16 : decode cX12_lag 16 = .ok (.ireturn, 1) := by decide +kernel
theorem dX12_lag_17 : decode cX12_lag 17 = .ok (.iconst (-1), 1) := by decide +kernel
theorem dX12_lag_18 : decode cX12_lag 18 = .ok (.istore_n 2, 1) := by decide +kernel
theorem dX12_lag_19 : decode cX12_lag 19 = .ok (.iconst (-1), 1) := by decide +kernel
theorem dX12_lag_20 : decode cX12_lag 20 = .ok (.istore_n 3, 1) := by decide +kernel
theorem dX12_lag_21 : decode cX12_lag 21 = .ok (.iconst 0, 1) := by decide +kernel
theorem dX12_lag_22 : decode cX12_lag 22 = .ok (.istore 4, 2) := by decide +kernel
theorem dX12_lag_24 : decode cX12_lag 24 = .ok (.iload 4, 2) := by decide +kernel
theorem dX12_lag_26 : decode cX12_lag 26 = .ok (.aload_n 0, 1) := by decide +kernel
theorem dX12_lag_27 : decode cX12_lag 27 = .ok (.getfield 13, 3) := by decide +kernel
theorem dX12_lag_30 : decode cX12_lag 30 = .ok (.iconst 3, 1) := by decide +kernel
theorem dX12_lag_31 : decode cX12_lag 31 = .ok (.iaload, 1) := by decide +kernel
theorem dX12_lag_32 : decode cX12_lag 32 = .ok (.if_icmp .ge 63, 3) := by decide +kernel
theorem dX12_lag_35 : decode cX12_lag 35 = .ok (.aload_n 0, 1) := by decide +kernel
theorem dX12_lag_36 : decode cX12_lag 36 = .ok (.iload 4, 2) := by decide +kernel
theorem dX12_lag_38 : decode cX12_lag 38 = .ok (.invokevirtual 410, 3) := by decide +kernel
theorem dX12_lag_41 : decode cX12_lag 41 = .ok (.aload_n 0, 1) := by decide +kernel
theorem dX12_lag_42 : decode cX12_lag 42 = .ok (.invokevirtual 321, 3) := by decide +kernel
theorem dX12_lag_45 : decode cX12_lag 45 = .ok (.aload_n 0, 1) := by decide +kernel
theorem dX12_lag_46 : decode cX12_lag 46 = .ok (.getfield 275, 3) := by decide +kernel
theorem dX12_lag_49 : decode cX12_lag 49 = .ok (.ifCond .ne 5, 3) := by decide +kernel
theorem dX12_lag_52 : decode cX12_lag 52 = .ok (.iconst (-1), 1) := by decide +kernel
theorem dX12_lag_53 : decode cX12_lag 53 = .ok (.ireturn, 1) := by decide +kernel
theorem dX12_lag_54 : decode cX12_lag 54 = .ok (.aload_n 0, 1) := by decide +kernel
theorem dX12_lag_55 : decode cX12_lag 55 = .ok (.getfield 282, 3) := by decide +kernel
theorem dX12_lag_58 : decode cX12_lag 58 = .ok (.aload_n 0, 1) := by decide +kernel
theorem dX12_lag_59 : decode cX12_lag 59 = .ok (.getfield 285, 3) := by decide +kernel
theorem dX12_lag_62 : decode cX12_lag 62 = .ok (.iadd, 1) := by decide +kernel
theorem dX12_lag_63 : decode cX12_lag 63 = .ok (.iconst 2, 1) := by decide +kernel
theorem dX12_lag_64 : decode cX12_lag 64 = .ok (.idiv, 1) := by decide +kernel
theorem dX12_lag_65 : decode cX12_lag 65 = .ok (.istore 5, 2) := by decide +kernel
theorem dX12_lag_67 : decode cX12_lag 67 = .ok (.iload 5, 2) := by decide +kernel
theorem dX12_lag_69 : decode cX12_lag 69 = .ok (.iload_n 2, 1) := by decide +kernel
theorem dX12_lag_70 : decode cX12_lag 70 = .ok (.if_icmp .le 8, 3) := by decide +kernel
theorem dX12_lag_73 : decode cX12_lag 73 = .ok (.iload 5, 2) := by decide +kernel
theorem dX12_lag_75 : decode cX12_lag 75 = .ok (.goto 4, 3) := by decide +kernel
theorem dX12_lag_78 : decode cX12_lag 78 = .ok (.iload_n 2, 1) := by decide +kernel
theorem dX12_lag_79 : decode cX12_lag 79 = .ok (.istore_n 2, 1) := by decide +kernel
theorem dX12_lag_80 : decode cX12_lag 80 = .ok (.iload 4, 2) := by decide +kernel
theorem dX12_lag_82 : decode cX12_lag 82 = .ok (.iload_n 1, 1) := by decide +kernel
theorem dX12_lag_83 : decode cX12_lag 83 = .ok (.if_icmp .ne 6, 3) := by decide +kernel
theorem dX12_lag_86 : decode cX12_lag 86 = .ok (.iload 5, 2) := by decide +kernel
theorem dX12_lag_88 : decode cX12_lag 88 = .ok (.istore_n 3, 1) := by decide +kernel
theorem dX12_lag_89 : decode cX12_lag 89 = .ok (.iinc 4 1, 3) := by decide +kernel
theorem dX12_lag_92 : decode cX12_lag 92 = .ok (.goto (-68), 3) := by decide +kernel
theorem dX12_lag_95 : decode cX12_lag 95 = .ok (.iload_n 2, 1) := by decide +kernel
theorem dX12_lag_96 : decode cX12_lag 96 = .ok (.iload_n 3, 1) := by decide +kernel
theorem dX12_lag_97 : decode cX12_lag 97 = .ok (.isub, 1) := by decide +kernel
theorem dX12_lag_98 : decode cX12_lag 98 = .ok (.ireturn, 1) := by decide +kernel
theorem wX12_lag : Mw yX12_lag cX12_lag 6 (some .int) 1 := ⟨q_1749, q_130, by decide, ⟨by decide +kernel, by decide +kernel⟩, by decide +kernel, by decide +kernel⟩
-- a loop of EyeTrainerModel.lag at 24
def bX12_lag_24 (T : Sh) (x0 : Nat) (x1 : Int32) (x2 : Int32) (x3 : Int32) (x4 : Int32) (M : Me) : Option ((Int32 × Int32 × Int32 × Me) ⊕ (Me ⊕ (Int32 × Int32 × Me))) :=
  gd (kd T x0 = 11) <| Option.bind (gR M x0 1) fun a6 => gd (kd T a6 = 13) <| gv (3 : Int32) (ln T a6) <| if (gI M a6 (Int32.toNatClampNeg (3 : Int32))) ≤ x4 then (some (.inr (.inr (x2, x3, M)))) else (Option.bind (fX12_laysMapNow T M x0 x4) <| un2 fun _u M10 => Option.bind (fX12_laysRectangle T M10 x0) <| un2 fun _u M11 => if (gI M11 x0 21) = 0 then (some (.inr (.inl M11))) else (lt (((gI M11 x0 22) + (gI M11 x0 23)) / (2 : Int32)) fun v13 => if v13 ≤ x2 then (if x4 = x1 then (lt (x4 + (1 : Int32)) fun v17 => some (.inl (x2, v13, v17, M11))) else (lt (x4 + (1 : Int32)) fun v16 => some (.inl (x2, x3, v16, M11)))) else (if x4 = x1 then (lt (x4 + (1 : Int32)) fun v20 => some (.inl (v13, v13, v20, M11))) else (lt (x4 + (1 : Int32)) fun v19 => some (.inl (v13, x3, v19, M11))))))
def PX12_lag_24 (X : Fx) (B : Bx) (Z : Nat × Nat × Nat × Nat) (Q : State → Prop) (T : Sh) (x0 : Nat) (x1 : Int32) (s : Int32 × Int32 × Int32 × Me) : Prop := G X B 6 Z Q 24 [(0, .ref (x0)), (1, .int (x1)), (2, .int (s.1)), (3, .int (s.2.1)), (4, .int (s.2.2.1))] [] T s.2.2.2
def EX12_lag_24 (X : Fx) (B : Bx) (Z : Nat × Nat × Nat × Nat) (Q : State → Prop) (T : Sh) (x0 : Nat) (x1 : Int32) (r : Me ⊕ (Int32 × Int32 × Me)) : Prop := Sum.elim (fun r => G X B 6 Z Q 52 [] [] T r) (fun r => G X B 6 Z Q 95 [(2, .int (r.1)), (3, .int (r.2.1))] [] T r.2.2) r
set_option maxHeartbeats 4000000 in
theorem tbX12_lag_24 {X : Fx} {B : Bx} {Z : Nat × Nat × Nat × Nat} {Q : State → Prop} {d : Nat} {T : Sh} (C : Cx X B cX12_lag 6 RX12 d Z) (hd : 6 ≤ d) {x0 : Nat} {x1 : Int32} : ∀ (s : Int32 × Int32 × Int32 × Me) (o : (Int32 × Int32 × Int32 × Me) ⊕ (Me ⊕ (Int32 × Int32 × Me))), bX12_lag_24 T x0 x1 s.1 s.2.1 s.2.2.1 s.2.2.2 = some o → lpE (PX12_lag_24 X B Z Q T x0 x1) (EX12_lag_24 X B Z Q T x0 x1) o → PX12_lag_24 X B Z Q T x0 x1 s := by
  rintro ⟨x2, x3, x4, M⟩ o h hE
  replace h : bX12_lag_24 T x0 x1 x2 x3 x4 M = some o := h
  unfold bX12_lag_24 at h
  show G X B 6 Z Q 24 [(0, .ref (x0)), (1, .int (x1)), (2, .int (x2)), (3, .int (x3)), (4, .int (x4))] [] T M
  refine g_iload (pc := 24) C dX12_lag_24 4 rfl ?_
  refine g_aload_n (pc := 26) C dX12_lag_26 rfl 0 rfl ?_
  replace h := gd_some h; obtain ⟨hk5, h⟩ := h
  refine g_get (pc := 27) (v := va_rf (gR M x0 1)) C dX12_lag_27 kX12 hk5 1 (by decide) q_1228 rfl ?_
  replace h := bnd h; obtain ⟨a6, ea6, h⟩ := h
  refine g_refq ea6 ?_
  refine g_iconst (pc := 30) (v := 3) C dX12_lag_30 (by decide) ?_
  replace h := gd_some h; obtain ⟨hk7, h⟩ := h
  replace h := gv_some h; obtain ⟨hi8, h⟩ := h
  refine g_iald (pc := 31) C dX12_lag_31 hk7 hi8 ?_
  refine g_icmp_ge (pc := 32) (tgt := 95) C dX12_lag_32 (by decide) (fun c9 => ?_) (fun c9 => ?_)
  · replace h := ifp c9 h
    obtain rfl := Option.some.inj h
    exact g_sub [2, 3] rfl (show G X B 6 Z Q 95 [(2, .int (x2)), (3, .int (x3))] [] T M from hE)
  · replace h := ifn c9 h
    refine g_aload_n (pc := 35) C dX12_lag_35 rfl 0 rfl ?_
    refine g_iload (pc := 36) C dX12_lag_36 4 rfl ?_
    replace h := bnd2 h; obtain ⟨_u, M10, h1, h⟩ := h
    refine g_callVv (pc := 38) (As := [.int (x4)]) (st := []) C dX12_lag_38 wX12_laysMapNow hk5 rfl (by decide) q_1711 q_108 q_1709 (by omega) rfl (Nat.le_of_ble_eq_true rfl) (kX12_laysMapNow (d := 5) (Nat.le_refl _) h1) ?_
    refine g_aload_n (pc := 41) C dX12_lag_41 rfl 0 rfl ?_
    replace h := bnd2 h; obtain ⟨_u, M11, h1, h⟩ := h
    refine g_callVv (pc := 42) (As := []) (st := []) C dX12_lag_42 wX12_laysRectangle hk5 rfl (by decide) q_1595 q_91 q_1593 (by omega) rfl (Nat.le_of_ble_eq_true rfl) (kX12_laysRectangle (d := 2) (Nat.le_refl _) h1) ?_
    refine g_aload_n (pc := 45) C dX12_lag_45 rfl 0 rfl ?_
    refine g_get (pc := 46) (v := .int (gI M11 x0 21)) C dX12_lag_46 kX12 hk5 21 (by decide) q_1248 rfl ?_
    refine g_if_ne (pc := 49) (tgt := 54) C dX12_lag_49 (by decide) (fun c12 => ?_) (fun c12 => ?_)
    · replace h := ifn c12 h
      refine g_aload_n (pc := 54) C dX12_lag_54 rfl 0 rfl ?_
      refine g_get (pc := 55) (v := .int (gI M11 x0 22)) C dX12_lag_55 kX12 hk5 22 (by decide) q_1249 rfl ?_
      refine g_aload_n (pc := 58) C dX12_lag_58 rfl 0 rfl ?_
      refine g_get (pc := 59) (v := .int (gI M11 x0 23)) C dX12_lag_59 kX12 hk5 23 (by decide) q_1250 rfl ?_
      refine g_iadd (pc := 62) C dX12_lag_62 ?_
      refine g_iconst (pc := 63) (v := 2) C dX12_lag_63 (by decide) ?_
      refine g_idiv (pc := 64) C dX12_lag_64 (by decide) ?_
      refine g_topi (fun v13 ev13 => ?_)
      replace h := lt_at ev13 h
      refine g_istore (pc := 65) (lo2 := [(5, .int (v13)), (0, .ref (x0)), (1, .int (x1)), (2, .int (x2)), (3, .int (x3)), (4, .int (x4))]) C dX12_lag_65 (by decide) rfl ?_
      refine g_iload (pc := 67) C dX12_lag_67 0 rfl ?_
      refine g_iload_n (pc := 69) C dX12_lag_69 rfl 3 rfl ?_
      refine g_icmp_le (pc := 70) (tgt := 78) C dX12_lag_70 (by decide) (fun c14 => ?_) (fun c14 => ?_)
      · replace h := ifp c14 h
        refine g_iload_n (pc := 78) C dX12_lag_78 rfl 3 rfl ?_
        refine g_istore_n (pc := 79) (lo2 := [(2, .int (x2)), (5, .int (v13)), (0, .ref (x0)), (1, .int (x1)), (3, .int (x3)), (4, .int (x4))]) C dX12_lag_79 rfl (by decide) rfl ?_
        refine g_iload (pc := 80) C dX12_lag_80 5 rfl ?_
        refine g_iload_n (pc := 82) C dX12_lag_82 rfl 3 rfl ?_
        refine g_icmp_ne (pc := 83) (tgt := 89) C dX12_lag_83 (by decide) (fun c15 => ?_) (fun c15 => ?_)
        · replace h := ifn c15 h
          obtain ⟨v16, ev16⟩ : ∃ y : Int32, y = x4 + (1 : Int32) := ⟨_, rfl⟩
          replace h := lt_at ev16 h
          refine g_iinc (pc := 89) (v := v16) (k := 5) (lo2 := [(4, .int (v16)), (2, .int (x2)), (5, .int (v13)), (0, .ref (x0)), (1, .int (x1)), (3, .int (x3))]) C dX12_lag_89 rfl (by rw [ev16]; rfl) (by decide) rfl ?_
          refine g_goto (pc := 92) (tgt := 24) C dX12_lag_92 (by decide) ?_
          obtain rfl := Option.some.inj h
          exact g_sub [3, 4, 1, 5, 0] rfl (show G X B 6 Z Q 24 [(0, .ref (x0)), (1, .int (x1)), (2, .int (x2)), (3, .int (x3)), (4, .int (v16))] [] T M11 from hE)
        · replace h := ifp c15 h
          refine g_iload (pc := 86) C dX12_lag_86 1 rfl ?_
          refine g_istore_n (pc := 88) (lo2 := [(3, .int (v13)), (2, .int (x2)), (5, .int (v13)), (0, .ref (x0)), (1, .int (x1)), (4, .int (x4))]) C dX12_lag_88 rfl (by decide) rfl ?_
          obtain ⟨v17, ev17⟩ : ∃ y : Int32, y = x4 + (1 : Int32) := ⟨_, rfl⟩
          replace h := lt_at ev17 h
          refine g_iinc (pc := 89) (v := v17) (k := 5) (lo2 := [(4, .int (v17)), (3, .int (v13)), (2, .int (x2)), (5, .int (v13)), (0, .ref (x0)), (1, .int (x1))]) C dX12_lag_89 rfl (by rw [ev17]; rfl) (by decide) rfl ?_
          refine g_goto (pc := 92) (tgt := 24) C dX12_lag_92 (by decide) ?_
          obtain rfl := Option.some.inj h
          exact g_sub [4, 5, 2, 1, 0] rfl (show G X B 6 Z Q 24 [(0, .ref (x0)), (1, .int (x1)), (2, .int (x2)), (3, .int (v13)), (4, .int (v17))] [] T M11 from hE)
      · replace h := ifn c14 h
        refine g_iload (pc := 73) C dX12_lag_73 0 rfl ?_
        refine g_goto (pc := 75) (tgt := 79) C dX12_lag_75 (by decide) ?_
        refine g_istore_n (pc := 79) (lo2 := [(2, .int (v13)), (5, .int (v13)), (0, .ref (x0)), (1, .int (x1)), (3, .int (x3)), (4, .int (x4))]) C dX12_lag_79 rfl (by decide) rfl ?_
        refine g_iload (pc := 80) C dX12_lag_80 5 rfl ?_
        refine g_iload_n (pc := 82) C dX12_lag_82 rfl 3 rfl ?_
        refine g_icmp_ne (pc := 83) (tgt := 89) C dX12_lag_83 (by decide) (fun c18 => ?_) (fun c18 => ?_)
        · replace h := ifn c18 h
          obtain ⟨v19, ev19⟩ : ∃ y : Int32, y = x4 + (1 : Int32) := ⟨_, rfl⟩
          replace h := lt_at ev19 h
          refine g_iinc (pc := 89) (v := v19) (k := 5) (lo2 := [(4, .int (v19)), (2, .int (v13)), (5, .int (v13)), (0, .ref (x0)), (1, .int (x1)), (3, .int (x3))]) C dX12_lag_89 rfl (by rw [ev19]; rfl) (by decide) rfl ?_
          refine g_goto (pc := 92) (tgt := 24) C dX12_lag_92 (by decide) ?_
          obtain rfl := Option.some.inj h
          exact g_sub [3, 4, 1, 5, 0] rfl (show G X B 6 Z Q 24 [(0, .ref (x0)), (1, .int (x1)), (2, .int (v13)), (3, .int (x3)), (4, .int (v19))] [] T M11 from hE)
        · replace h := ifp c18 h
          refine g_iload (pc := 86) C dX12_lag_86 1 rfl ?_
          refine g_istore_n (pc := 88) (lo2 := [(3, .int (v13)), (2, .int (v13)), (5, .int (v13)), (0, .ref (x0)), (1, .int (x1)), (4, .int (x4))]) C dX12_lag_88 rfl (by decide) rfl ?_
          obtain ⟨v20, ev20⟩ : ∃ y : Int32, y = x4 + (1 : Int32) := ⟨_, rfl⟩
          replace h := lt_at ev20 h
          refine g_iinc (pc := 89) (v := v20) (k := 5) (lo2 := [(4, .int (v20)), (3, .int (v13)), (2, .int (v13)), (5, .int (v13)), (0, .ref (x0)), (1, .int (x1))]) C dX12_lag_89 rfl (by rw [ev20]; rfl) (by decide) rfl ?_
          refine g_goto (pc := 92) (tgt := 24) C dX12_lag_92 (by decide) ?_
          obtain rfl := Option.some.inj h
          exact g_sub [4, 5, 2, 1, 0] rfl (show G X B 6 Z Q 24 [(0, .ref (x0)), (1, .int (x1)), (2, .int (v13)), (3, .int (v13)), (4, .int (v20))] [] T M11 from hE)
    · replace h := ifp c12 h
      obtain rfl := Option.some.inj h
      exact g_sub [] rfl (show G X B 6 Z Q 52 [] [] T M11 from hE)
/-- EyeTrainerModel.lag(I)I -/
def fX12_lag (T : Sh) (M : Me) (x0 : Nat) (x1 : Int32) : Option (Int32 × Me) :=
  gd (kd T x0 = 11) <| lt (pI M x0 0 (0 : Int32)) fun M2 => Option.bind (fX12_isLane T M2 x0 (Int32.toInt64 x1)) fun r3 => if r3 = 0 then (some ((-2 : Int32), M2)) else ((lp FU (fun s => bX12_lag_24 T x0 x1 s.1 s.2.1 s.2.2.1 s.2.2.2) ((-1 : Int32), (-1 : Int32), (0 : Int32), M2)).bind (Sum.elim (fun M21 => some ((-1 : Int32), M21)) (un3 fun x2_22 x3_23 M24 => some ((x2_22 - x3_23), M24))))
set_option maxHeartbeats 4000000 in
theorem kX12_lag {l : Launch} {B : Bx} {d : Nat} (hd : 6 ≤ d) {T : Sh} {M : Me} {x0 : Nat} {x1 : Int32} {r : Int32} {M' : Me} (h : fX12_lag T M x0 x1 = some (r, M')) : Kt l B yX12_lag cX12_lag 6 (some .int) d [.ref (x0), .int (x1)] T M (some (.int r)) T M' := by
  refine kt_of wX12_lag (Nat.le_refl _) (Nat.le_refl _) (Nat.le_of_ble_eq_true rfl) (fun X C hR hlx hin => ?_)
  subst hlx
  replace C : Cx X B cX12_lag 6 RX12 d (tp T, sl T, tp T, sl T) := C
  unfold fX12_lag at h
  show G X B 6 _ _ 0 [(0, .ref (x0)), (1, .int (x1))] [] T M
  refine g_aload_n (pc := 0) C dX12_lag_0 rfl 0 rfl ?_
  refine g_iconst (pc := 1) (v := 0) C dX12_lag_1 (by decide) ?_
  replace h := gd_some h; obtain ⟨hk1, h⟩ := h
  refine g_putI (pc := 2) C dX12_lag_2 kX12 hk1 0 (by decide) rfl rfl rfl q_1227 ?_
  refine g_mem (fun M2 eM2 => ?_)
  replace h := lt_at eM2 h
  refine g_aload_n (pc := 5) C dX12_lag_5 rfl 0 rfl ?_
  refine g_iload_n (pc := 6) C dX12_lag_6 rfl 1 rfl ?_
  refine g_i2l (pc := 7) C dX12_lag_7 ?_
  replace h := bnd h; obtain ⟨r3, h1, h⟩ := h
  refine g_callVi (pc := 8) (As := [.long (Int32.toInt64 x1)]) (st := []) C dX12_lag_8 wX12_isLane hk1 rfl (by decide) q_1481 q_75 q_1479 (by omega) rfl (Nat.le_of_ble_eq_true rfl) (kX12_isLane (d := 1) (Nat.le_refl _) h1) ?_
  refine g_if_ne (pc := 11) (tgt := 17) C dX12_lag_11 (by decide) (fun c4 => ?_) (fun c4 => ?_)
  · replace h := ifn c4 h
    refine g_iconst (pc := 17) (v := (-1)) C dX12_lag_17 (by decide) ?_
    refine g_istore_n (pc := 18) (lo2 := [(2, .int ((-1 : Int32))), (0, .ref (x0)), (1, .int (x1))]) C dX12_lag_18 rfl (by decide) rfl ?_
    refine g_iconst (pc := 19) (v := (-1)) C dX12_lag_19 (by decide) ?_
    refine g_istore_n (pc := 20) (lo2 := [(3, .int ((-1 : Int32))), (2, .int ((-1 : Int32))), (0, .ref (x0)), (1, .int (x1))]) C dX12_lag_20 rfl (by decide) rfl ?_
    refine g_iconst (pc := 21) (v := 0) C dX12_lag_21 (by decide) ?_
    refine g_istore (pc := 22) (lo2 := [(4, .int ((0 : Int32))), (3, .int ((-1 : Int32))), (2, .int ((-1 : Int32))), (0, .ref (x0)), (1, .int (x1))]) C dX12_lag_22 (by decide) rfl ?_
    replace h := bndE h; rcases h with ⟨M21, h1, h⟩ | ⟨a1, h1, h⟩
    · refine g_sub [3, 4, 2, 1, 0] rfl ?_
      refine lp_G2 (P := PX12_lag_24 X B _ _ T x0 x1) (E := EX12_lag_24 X B _ _ T x0 x1) (tbX12_lag_24 C hd) h1 ?_
      show G X B 6 _ _ 52 [] [] T M21
      refine g_iconst (pc := 52) (v := (-1)) C dX12_lag_52 (by decide) ?_
      obtain ⟨rfl, rfl⟩ := Prod.mk.inj (Option.some.inj h)
      exact g_iret C hR dX12_lag_53
    · obtain ⟨x2_22, x3_23, M24⟩ := a1
      replace h := un3_d h
      refine g_sub [3, 4, 2, 1, 0] rfl ?_
      refine lp_G2 (P := PX12_lag_24 X B _ _ T x0 x1) (E := EX12_lag_24 X B _ _ T x0 x1) (tbX12_lag_24 C hd) h1 ?_
      show G X B 6 _ _ 95 [(2, .int (x2_22)), (3, .int (x3_23))] [] T M24
      refine g_iload_n (pc := 95) C dX12_lag_95 rfl 0 rfl ?_
      refine g_iload_n (pc := 96) C dX12_lag_96 rfl 1 rfl ?_
      refine g_isub (pc := 97) C dX12_lag_97 ?_
      obtain ⟨rfl, rfl⟩ := Prod.mk.inj (Option.some.inj h)
      exact g_iret C hR dX12_lag_98
  · replace h := ifp c4 h
    refine g_bipush (pc := 14) (v := (-2)) C dX12_lag_14 (by decide) ?_
    obtain ⟨rfl, rfl⟩ := Prod.mk.inj (Option.some.inj h)
    exact g_iret C hR dX12_lag_16
theorem dX12_bus_0 : decode cX12_bus 0 = .ok (.aload_n 0, 1) := by decide +kernel
theorem dX12_bus_1 : decode cX12_bus 1 = .ok (.iconst 0, 1) := by decide +kernel
theorem dX12_bus_2 : decode cX12_bus 2 = .ok (.putfield 1, 3) := by decide +kernel
theorem dX12_bus_5 : decode cX12_bus 5 = .ok (.iload_n 1, 1) := by decide +kernel
theorem dX12_bus_6 : decode cX12_bus 6 = .ok (.i2l, 1) := by decide +kernel
theorem dX12_bus_7 : decode cX12_bus 7 = .ok (.lconst 0, 1) := by decide +kernel
theorem dX12_bus_8 : decode cX12_bus 8 = .ok (.ldc2_w 307, 3) := by decide +kernel
theorem dX12_bus_11 : decode cX12_bus 11 = .ok (.invokestatic 139, 3) := by decide +kernel
theorem dX12_bus_14 : decode cX12_bus 14 = .ok (.ifCond .ne 6, 3) := by decide +kernel
theorem dX12_bus_17 : decode cX12_bus 17 = .ok (.bipush (-2), 2) := by decide +kernel
theorem dX12_bus_19 : decode cX12_bus 19 = .ok (.ireturn, 1) := by decide +kernel
theorem dX12_bus_20 : decode cX12_bus 20 = .ok (.aload_n 0, 1) := by decide +kernel
theorem dX12_bus_21 : decode cX12_bus 21 = .ok (.getfield 13, 3) := by decide +kernel
theorem dX12_bus_24 : decode cX12_bus 24 = .ok (.iconst 3, 1) := by decide +kernel
theorem dX12_bus_25 : decode cX12_bus 25 = .ok (.iaload, 1) := by decide +kernel
theorem dX12_bus_26 : decode cX12_bus 26 = .ok (.ifCond .ne 5, 3) := by decide +kernel
theorem dX12_bus_29 : decode cX12_bus 29 = .ok (.iconst (-1), 1) := by decide +kernel
theorem dX12_bus_30 : decode cX12_bus 30 = .ok (.ireturn, 1) := by decide +kernel
theorem dX12_bus_31 : decode cX12_bus 31 = .ok (.aload_n 0, 1) := by decide +kernel
theorem dX12_bus_32 : decode cX12_bus 32 = .ok (.invokevirtual 251, 3) := by decide +kernel
theorem dX12_bus_35 : decode cX12_bus 35 = .ok (.ldc_w 278, 3) := by decide +kernel
theorem dX12_bus_38 : decode cX12_bus 38 = .ok (.istore_n 2, 1) := by decide +kernel
theorem dX12_bus_39 : decode cX12_bus 39 = .ok (.iconst 0, 1) := by decide +kernel
theorem dX12_bus_40 : decode cX12_bus 40 = .ok (.istore_n 3, 1) := by decide +kernel
theorem dX12_bus_41 : decode cX12_bus 41 = .ok (.iload_n 3, 1) := by decide +kernel
theorem dX12_bus_42 : decode cX12_bus 42 = .ok (.aload_n 0, 1) := by decide +kernel
theorem dX12_bus_43 : decode cX12_bus 43 = .ok (.getfield 13, 3) := by decide +kernel
theorem dX12_bus_46 : decode cX12_bus 46 = .ok (.iconst 3, 1) := by decide +kernel
theorem dX12_bus_47 : decode cX12_bus 47 = .ok (.iaload, 1) := by decide +kernel
theorem dX12_bus_48 : decode cX12_bus 48 = .ok (.if_icmp .ge 29, 3) := by decide +kernel
theorem dX12_bus_51 : decode cX12_bus 51 = .ok (.iload_n 2, 1) := by decide +kernel
theorem dX12_bus_52 : decode cX12_bus 52 = .ok (.aload_n 0, 1) := by decide +kernel
theorem dX12_bus_53 : decode cX12_bus 53 = .ok (.iload_n 3, 1) := by decide +kernel
theorem dX12_bus_54 : decode cX12_bus 54 = .ok (.aload_n 0, 1) := by decide +kernel
theorem dX12_bus_55 : decode cX12_bus 55 = .ok (.getfield 13, 3) := by decide +kernel
theorem dX12_bus_58 : decode cX12_bus 58 = .ok (.bipush 42, 2) := by decide +kernel
theorem dX12_bus_60 : decode cX12_bus 60 = .ok (.iload_n 3, 1) := by decide +kernel
theorem dX12_bus_61 : decode cX12_bus 61 = .ok (.iadd, 1) := by decide +kernel
theorem dX12_bus_62 : decode cX12_bus 62 = .ok (.iaload, 1) := by decide +kernel
theorem dX12_bus_63 : decode cX12_bus 63 = .ok (.bipush 24, 2) := by decide +kernel
theorem dX12_bus_65 : decode cX12_bus 65 = .ok (.idiv, 1) := by decide +kernel
theorem dX12_bus_66 : decode cX12_bus 66 = .ok (.invokevirtual 233, 3) := by decide +kernel
theorem dX12_bus_69 : decode cX12_bus 69 = .ok (.iand, 1) := by decide +kernel
theorem dX12_bus_70 : decode cX12_bus 70 = .ok (.istore_n 2, 1) := by decide +kernel
theorem dX12_bus_71 : decode cX12_bus 71 = .ok (.iinc 3 1, 3) := by decide +kernel
theorem dX12_bus_74 : decode cX12_bus 74 = .ok (.goto (-33), 3) := by decide +kernel
theorem dX12_bus_77 : decode cX12_bus 77 = .ok (.aload_n 0, 1) := by decide +kernel
theorem dX12_bus_78 : decode cX12_bus 78 = .ok (.iload_n 2, 1) := by decide +kernel
theorem dX12_bus_79 : decode cX12_bus 79 = .ok (.invokevirtual 279, 3) := by decide +kernel
theorem dX12_bus_82 : decode cX12_bus 82 = .ok (.istore_n 3, 1) := by decide +kernel
theorem dX12_bus_83 : decode cX12_bus 83 = .ok (.iload_n 1, 1) := by decide +kernel
theorem dX12_bus_84 : decode cX12_bus 84 = .ok (.ifCond .ne 7, 3) := by decide +kernel
theorem dX12_bus_87 : decode cX12_bus 87 = .ok (.iload_n 2, 1) := by decide +kernel
theorem dX12_bus_88 : decode cX12_bus 88 = .ok (.goto 16, 3) := by decide +kernel
theorem dX12_bus_91 : decode cX12_bus 91 = .ok (.iload_n 1, 1) := by decide +kernel
theorem dX12_bus_92 : decode cX12_bus 92 = .ok (.iconst 1, 1) := by decide +kernel
theorem dX12_bus_93 : decode cX12_bus 93 = .ok (.if_icmp .ne 7, 3) := by decide +kernel
theorem dX12_bus_96 : decode cX12_bus 96 = .ok (.iload_n 3, 1) := by decide +kernel
theorem dX12_bus_97 : decode cX12_bus 97 = .ok (.goto 7, 3) := by decide +kernel
theorem dX12_bus_100 : decode cX12_bus 100 = .ok (.aload_n 0, 1) := by decide +kernel
theorem dX12_bus_101 : decode cX12_bus 101 = .ok (.getfield 272, 3) := by decide +kernel
theorem dX12_bus_104 : decode cX12_bus 104 = .ok (.ireturn, 1) := by decide +kernel
theorem wX12_bus : Mw yX12_bus cX12_bus 4 (some .int) 1 := ⟨q_1753, q_130, by decide, ⟨by decide +kernel, by decide +kernel⟩, by decide +kernel, by decide +kernel⟩
-- a loop of EyeTrainerModel.bus at 41
def bX12_bus_41 (T : Sh) (x0 : Nat) (x1 : Int32) (x2 : Int32) (x3 : Int32) (M : Me) : Option ((Int32 × Int32 × Me) ⊕ ((Int32 × Me))) :=
  gd (kd T x0 = 11) <| Option.bind (gR M x0 1) fun a11 => gd (kd T a11 = 13) <| gv (3 : Int32) (ln T a11) <| if (gI M a11 (Int32.toNatClampNeg (3 : Int32))) ≤ x3 then (some (.inr (x2, M))) else (Option.bind (gR M x0 1) fun a15 => gd (kd T a15 = 13) <| gv ((42 : Int32) + x3) (ln T a15) <| Option.bind (fX12_rowOf T M x0 x3 ((gI M a15 (Int32.toNatClampNeg ((42 : Int32) + x3))) / (24 : Int32))) <| un2 fun r18 M19 => lt (x2 &&& r18) fun v20 => lt (x3 + (1 : Int32)) fun v21 => some (.inl (v20, v21, M19)))
def PX12_bus_41 (X : Fx) (B : Bx) (Z : Nat × Nat × Nat × Nat) (Q : State → Prop) (T : Sh) (x0 : Nat) (x1 : Int32) (s : Int32 × Int32 × Me) : Prop := G X B 4 Z Q 41 [(0, .ref (x0)), (1, .int (x1)), (2, .int (s.1)), (3, .int (s.2.1))] [] T s.2.2
def EX12_bus_41 (X : Fx) (B : Bx) (Z : Nat × Nat × Nat × Nat) (Q : State → Prop) (T : Sh) (x0 : Nat) (x1 : Int32) (r : (Int32 × Me)) : Prop := G X B 4 Z Q 77 [(0, .ref (x0)), (1, .int (x1)), (2, .int (r.1))] [] T r.2
set_option maxHeartbeats 4000000 in
theorem tbX12_bus_41 {X : Fx} {B : Bx} {Z : Nat × Nat × Nat × Nat} {Q : State → Prop} {d : Nat} {T : Sh} (C : Cx X B cX12_bus 4 RX12 d Z) (hd : 4 ≤ d) {x0 : Nat} {x1 : Int32} : ∀ (s : Int32 × Int32 × Me) (o : (Int32 × Int32 × Me) ⊕ ((Int32 × Me))), bX12_bus_41 T x0 x1 s.1 s.2.1 s.2.2 = some o → lpE (PX12_bus_41 X B Z Q T x0 x1) (EX12_bus_41 X B Z Q T x0 x1) o → PX12_bus_41 X B Z Q T x0 x1 s := by
  rintro ⟨x2, x3, M⟩ o h hE
  replace h : bX12_bus_41 T x0 x1 x2 x3 M = some o := h
  unfold bX12_bus_41 at h
  show G X B 4 Z Q 41 [(0, .ref (x0)), (1, .int (x1)), (2, .int (x2)), (3, .int (x3))] [] T M
  refine g_iload_n (pc := 41) C dX12_bus_41 rfl 3 rfl ?_
  refine g_aload_n (pc := 42) C dX12_bus_42 rfl 0 rfl ?_
  replace h := gd_some h; obtain ⟨hk10, h⟩ := h
  refine g_get (pc := 43) (v := va_rf (gR M x0 1)) C dX12_bus_43 kX12 hk10 1 (by decide) q_1228 rfl ?_
  replace h := bnd h; obtain ⟨a11, ea11, h⟩ := h
  refine g_refq ea11 ?_
  refine g_iconst (pc := 46) (v := 3) C dX12_bus_46 (by decide) ?_
  replace h := gd_some h; obtain ⟨hk12, h⟩ := h
  replace h := gv_some h; obtain ⟨hi13, h⟩ := h
  refine g_iald (pc := 47) C dX12_bus_47 hk12 hi13 ?_
  refine g_icmp_ge (pc := 48) (tgt := 77) C dX12_bus_48 (by decide) (fun c14 => ?_) (fun c14 => ?_)
  · replace h := ifp c14 h
    obtain rfl := Option.some.inj h
    exact g_sub [0, 1, 2] rfl (show G X B 4 Z Q 77 [(0, .ref (x0)), (1, .int (x1)), (2, .int (x2))] [] T M from hE)
  · replace h := ifn c14 h
    refine g_iload_n (pc := 51) C dX12_bus_51 rfl 2 rfl ?_
    refine g_aload_n (pc := 52) C dX12_bus_52 rfl 0 rfl ?_
    refine g_iload_n (pc := 53) C dX12_bus_53 rfl 3 rfl ?_
    refine g_aload_n (pc := 54) C dX12_bus_54 rfl 0 rfl ?_
    refine g_get (pc := 55) (v := va_rf (gR M x0 1)) C dX12_bus_55 kX12 hk10 1 (by decide) q_1228 rfl ?_
    replace h := bnd h; obtain ⟨a15, ea15, h⟩ := h
    refine g_refq ea15 ?_
    refine g_bipush (pc := 58) (v := 42) C dX12_bus_58 (by decide) ?_
    refine g_iload_n (pc := 60) C dX12_bus_60 rfl 3 rfl ?_
    refine g_iadd (pc := 61) C dX12_bus_61 ?_
    replace h := gd_some h; obtain ⟨hk16, h⟩ := h
    replace h := gv_some h; obtain ⟨hi17, h⟩ := h
    refine g_iald (pc := 62) C dX12_bus_62 hk16 hi17 ?_
    refine g_bipush (pc := 63) (v := 24) C dX12_bus_63 (by decide) ?_
    refine g_idiv (pc := 65) C dX12_bus_65 (by decide) ?_
    replace h := bnd2 h; obtain ⟨r18, M19, h1, h⟩ := h
    refine g_callVi (pc := 66) (As := [.int (x3), .int ((gI M a15 (Int32.toNatClampNeg ((42 : Int32) + x3))) / (24 : Int32))]) (st := [.int (x2)]) C dX12_bus_66 wX12_rowOf hk10 rfl (by decide) q_1540 q_82 q_1538 (by omega) rfl (Nat.le_of_ble_eq_true rfl) (kX12_rowOf (d := 3) (Nat.le_refl _) h1) ?_
    refine g_iand (pc := 69) C dX12_bus_69 ?_
    refine g_topi (fun v20 ev20 => ?_)
    replace h := lt_at ev20 h
    refine g_istore_n (pc := 70) (lo2 := [(2, .int (v20)), (0, .ref (x0)), (1, .int (x1)), (3, .int (x3))]) C dX12_bus_70 rfl (by decide) rfl ?_
    obtain ⟨v21, ev21⟩ : ∃ y : Int32, y = x3 + (1 : Int32) := ⟨_, rfl⟩
    replace h := lt_at ev21 h
    refine g_iinc (pc := 71) (v := v21) (k := 3) (lo2 := [(3, .int (v21)), (2, .int (v20)), (0, .ref (x0)), (1, .int (x1))]) C dX12_bus_71 rfl (by rw [ev21]; rfl) (by decide) rfl ?_
    refine g_goto (pc := 74) (tgt := 41) C dX12_bus_74 (by decide) ?_
    obtain rfl := Option.some.inj h
    exact g_sub [2, 3, 1, 0] rfl (show G X B 4 Z Q 41 [(0, .ref (x0)), (1, .int (x1)), (2, .int (v20)), (3, .int (v21))] [] T M19 from hE)
/-- EyeTrainerModel.bus(I)I -/
def fX12_bus (T : Sh) (M : Me) (x0 : Nat) (x1 : Int32) : Option (Int32 × Me) :=
  gd (kd T x0 = 11) <| lt (pI M x0 0 (0 : Int32)) fun M2 => Option.bind (fX12_within (Int32.toInt64 x1) (0 : Int64) (2 : Int64)) fun r3 => if r3 = 0 then (some ((-2 : Int32), M2)) else (Option.bind (gR M2 x0 1) fun a5 => gd (kd T a5 = 13) <| gv (3 : Int32) (ln T a5) <| if (gI M2 a5 (Int32.toNatClampNeg (3 : Int32))) = 0 then (some ((-1 : Int32), M2)) else (Option.bind (fX12_laysNow T M2 x0) <| un2 fun _u M9 => (lp FU (fun s => bX12_bus_41 T x0 x1 s.1 s.2.1 s.2.2) ((16777215 : Int32), (0 : Int32), M9)).bind (un2 fun x2_22 M23 => Option.bind (fX12_longestIn T M23 x0 x2_22) <| un2 fun r24 M25 => if x1 = 0 then (some (x2_22, M25)) else (if x1 = (1 : Int32) then (some (r24, M25)) else (some ((gI M25 x0 28), M25))))))
set_option maxHeartbeats 4000000 in
theorem kX12_bus {l : Launch} {B : Bx} {d : Nat} (hd : 4 ≤ d) {T : Sh} {M : Me} {x0 : Nat} {x1 : Int32} {r : Int32} {M' : Me} (h : fX12_bus T M x0 x1 = some (r, M')) : Kt l B yX12_bus cX12_bus 4 (some .int) d [.ref (x0), .int (x1)] T M (some (.int r)) T M' := by
  refine kt_of wX12_bus (Nat.le_refl _) (Nat.le_refl _) (Nat.le_of_ble_eq_true rfl) (fun X C hR hlx hin => ?_)
  subst hlx
  replace C : Cx X B cX12_bus 4 RX12 d (tp T, sl T, tp T, sl T) := C
  unfold fX12_bus at h
  show G X B 4 _ _ 0 [(0, .ref (x0)), (1, .int (x1))] [] T M
  refine g_aload_n (pc := 0) C dX12_bus_0 rfl 0 rfl ?_
  refine g_iconst (pc := 1) (v := 0) C dX12_bus_1 (by decide) ?_
  replace h := gd_some h; obtain ⟨hk1, h⟩ := h
  refine g_putI (pc := 2) C dX12_bus_2 kX12 hk1 0 (by decide) rfl rfl rfl q_1227 ?_
  refine g_mem (fun M2 eM2 => ?_)
  replace h := lt_at eM2 h
  refine g_iload_n (pc := 5) C dX12_bus_5 rfl 1 rfl ?_
  refine g_i2l (pc := 6) C dX12_bus_6 ?_
  refine g_lconst (pc := 7) (v := 0) C dX12_bus_7 rfl ?_
  refine g_ldc2 (pc := 8) C dX12_bus_8 q_1574 ?_
  replace h := bnd h; obtain ⟨r3, h1, h⟩ := h
  refine g_callSi (pc := 11) (As := [.long (Int32.toInt64 x1), .long ((0 : Int64)), .long ((2 : Int64))]) (st := []) C dX12_bus_11 wX12_within q_1367 q_1366 (by omega) rfl (Nat.le_of_ble_eq_true rfl) (kX12_within (d := 0) (Nat.le_refl _) h1) ?_
  refine g_if_ne (pc := 14) (tgt := 20) C dX12_bus_14 (by decide) (fun c4 => ?_) (fun c4 => ?_)
  · replace h := ifn c4 h
    refine g_aload_n (pc := 20) C dX12_bus_20 rfl 0 rfl ?_
    refine g_get (pc := 21) (v := va_rf (gR M2 x0 1)) C dX12_bus_21 kX12 hk1 1 (by decide) q_1228 rfl ?_
    replace h := bnd h; obtain ⟨a5, ea5, h⟩ := h
    refine g_refq ea5 ?_
    refine g_iconst (pc := 24) (v := 3) C dX12_bus_24 (by decide) ?_
    replace h := gd_some h; obtain ⟨hk6, h⟩ := h
    replace h := gv_some h; obtain ⟨hi7, h⟩ := h
    refine g_iald (pc := 25) C dX12_bus_25 hk6 hi7 ?_
    refine g_if_ne (pc := 26) (tgt := 31) C dX12_bus_26 (by decide) (fun c8 => ?_) (fun c8 => ?_)
    · replace h := ifn c8 h
      refine g_aload_n (pc := 31) C dX12_bus_31 rfl 0 rfl ?_
      replace h := bnd2 h; obtain ⟨_u, M9, h1, h⟩ := h
      refine g_callVv (pc := 32) (As := []) (st := []) C dX12_bus_32 wX12_laysNow hk1 rfl (by decide) q_1485 q_76 q_1483 (by omega) rfl (Nat.le_of_ble_eq_true rfl) (kX12_laysNow (d := 3) (Nat.le_refl _) h1) ?_
      refine g_ldcw (pc := 35) C dX12_bus_35 q_1597 ?_
      refine g_istore_n (pc := 38) (lo2 := [(2, .int ((16777215 : Int32))), (0, .ref (x0)), (1, .int (x1))]) C dX12_bus_38 rfl (by decide) rfl ?_
      refine g_iconst (pc := 39) (v := 0) C dX12_bus_39 (by decide) ?_
      refine g_istore_n (pc := 40) (lo2 := [(3, .int ((0 : Int32))), (2, .int ((16777215 : Int32))), (0, .ref (x0)), (1, .int (x1))]) C dX12_bus_40 rfl (by decide) rfl ?_
      replace h := bnd2 h; obtain ⟨x2_22, M23, h1, h⟩ := h
      refine g_sub [2, 3, 1, 0] rfl ?_
      refine lp_G2 (P := PX12_bus_41 X B _ _ T x0 x1) (E := EX12_bus_41 X B _ _ T x0 x1) (tbX12_bus_41 C hd) h1 ?_
      show G X B 4 _ _ 77 [(0, .ref (x0)), (1, .int (x1)), (2, .int (x2_22))] [] T M23
      refine g_aload_n (pc := 77) C dX12_bus_77 rfl 0 rfl ?_
      refine g_iload_n (pc := 78) C dX12_bus_78 rfl 2 rfl ?_
      replace h := bnd2 h; obtain ⟨r24, M25, h1, h⟩ := h
      refine g_callVi (pc := 79) (As := [.int (x2_22)]) (st := []) C dX12_bus_79 wX12_longestIn hk1 rfl (by decide) q_1600 q_92 q_1598 (by omega) rfl (Nat.le_of_ble_eq_true rfl) (kX12_longestIn (d := 1) (Nat.le_refl _) h1) ?_
      refine g_istore_n (pc := 82) (lo2 := [(3, .int (r24)), (0, .ref (x0)), (1, .int (x1)), (2, .int (x2_22))]) C dX12_bus_82 rfl (by decide) rfl ?_
      refine g_iload_n (pc := 83) C dX12_bus_83 rfl 2 rfl ?_
      refine g_if_ne (pc := 84) (tgt := 91) C dX12_bus_84 (by decide) (fun c26 => ?_) (fun c26 => ?_)
      · replace h := ifn c26 h
        refine g_iload_n (pc := 91) C dX12_bus_91 rfl 2 rfl ?_
        refine g_iconst (pc := 92) (v := 1) C dX12_bus_92 (by decide) ?_
        refine g_icmp_ne (pc := 93) (tgt := 100) C dX12_bus_93 (by decide) (fun c27 => ?_) (fun c27 => ?_)
        · replace h := ifn c27 h
          refine g_aload_n (pc := 100) C dX12_bus_100 rfl 1 rfl ?_
          refine g_get (pc := 101) (v := .int (gI M25 x0 28)) C dX12_bus_101 kX12 hk1 28 (by decide) q_1255 rfl ?_
          obtain ⟨rfl, rfl⟩ := Prod.mk.inj (Option.some.inj h)
          exact g_iret C hR dX12_bus_104
        · replace h := ifp c27 h
          refine g_iload_n (pc := 96) C dX12_bus_96 rfl 0 rfl ?_
          refine g_goto (pc := 97) (tgt := 104) C dX12_bus_97 (by decide) ?_
          obtain ⟨rfl, rfl⟩ := Prod.mk.inj (Option.some.inj h)
          exact g_iret C hR dX12_bus_104
      · replace h := ifp c26 h
        refine g_iload_n (pc := 87) C dX12_bus_87 rfl 3 rfl ?_
        refine g_goto (pc := 88) (tgt := 104) C dX12_bus_88 (by decide) ?_
        obtain ⟨rfl, rfl⟩ := Prod.mk.inj (Option.some.inj h)
        exact g_iret C hR dX12_bus_104
    · replace h := ifp c8 h
      refine g_iconst (pc := 29) (v := (-1)) C dX12_bus_29 (by decide) ?_
      obtain ⟨rfl, rfl⟩ := Prod.mk.inj (Option.some.inj h)
      exact g_iret C hR dX12_bus_30
  · replace h := ifp c4 h
    refine g_bipush (pc := 17) (v := (-2)) C dX12_bus_17 (by decide) ?_
    obtain ⟨rfl, rfl⟩ := Prod.mk.inj (Option.some.inj h)
    exact g_iret C hR dX12_bus_19
