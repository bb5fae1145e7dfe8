set_option maxRecDepth 20000 in
theorem q_60 : Cond.selects RX12 yX12_closes yX12_closes ∈ lw_gd := mem_gd (List.mem_of_getElem? (i := 60) (by decide +kernel)) rfl
set_option maxRecDepth 20000 in
theorem q_61 : Cond.selects RX12 yX12_readLine yX12_readLine ∈ lw_gd := mem_gd (List.mem_of_getElem? (i := 61) (by decide +kernel)) rfl
set_option maxRecDepth 20000 in
theorem q_62 : Cond.selects RX12 yX12_readLane yX12_readLane ∈ lw_gd := mem_gd (List.mem_of_getElem? (i := 62) (by decide +kernel)) rfl
set_option maxRecDepth 20000 in
theorem q_63 : Cond.selects RX12 yX12_readPattern yX12_readPattern ∈ lw_gd := mem_gd (List.mem_of_getElem? (i := 63) (by decide +kernel)) rfl
set_option maxRecDepth 20000 in
theorem q_64 : Cond.selects RX12 yX12_readLaw yX12_readLaw ∈ lw_gd := mem_gd (List.mem_of_getElem? (i := 64) (by decide +kernel)) rfl
set_option maxRecDepth 20000 in
theorem q_65 : Cond.selects RX12 yX12_readSum yX12_readSum ∈ lw_gd := mem_gd (List.mem_of_getElem? (i := 65) (by decide +kernel)) rfl
set_option maxRecDepth 20000 in
theorem q_66 : Cond.selects RX12 yX12_readTerm yX12_readTerm ∈ lw_gd := mem_gd (List.mem_of_getElem? (i := 66) (by decide +kernel)) rfl
set_option maxRecDepth 20000 in
theorem q_67 : Cond.selects RX12 yX12_readAtom yX12_readAtom ∈ lw_gd := mem_gd (List.mem_of_getElem? (i := 67) (by decide +kernel)) rfl
set_option maxRecDepth 20000 in
theorem q_68 : Cond.selects RX12 yX12_codes yX12_codes ∈ lw_gd := mem_gd (List.mem_of_getElem? (i := 68) (by decide +kernel)) rfl
set_option maxRecDepth 20000 in
theorem q_69 : Cond.selects RX12 yX12_wordOf yX12_wordOf ∈ lw_gd := mem_gd (List.mem_of_getElem? (i := 69) (by decide +kernel)) rfl
set_option maxRecDepth 20000 in
theorem q_70 : Cond.selects RX12 yX12_goesIn yX12_goesIn ∈ lw_gd := mem_gd (List.mem_of_getElem? (i := 70) (by decide +kernel)) rfl
set_option maxRecDepth 20000 in
theorem q_71 : Cond.selects RX12 yX12_readIf yX12_readIf ∈ lw_gd := mem_gd (List.mem_of_getElem? (i := 71) (by decide +kernel)) rfl
set_option maxRecDepth 20000 in
theorem q_72 : Cond.selects RX12 yX12_readTruth yX12_readTruth ∈ lw_gd := mem_gd (List.mem_of_getElem? (i := 72) (by decide +kernel)) rfl
set_option maxRecDepth 20000 in
theorem q_73 : Cond.selects RX12 yX12_readBoth yX12_readBoth ∈ lw_gd := mem_gd (List.mem_of_getElem? (i := 73) (by decide +kernel)) rfl
set_option maxRecDepth 20000 in
theorem q_74 : Cond.selects RX12 yX12_readUnit yX12_readUnit ∈ lw_gd := mem_gd (List.mem_of_getElem? (i := 74) (by decide +kernel)) rfl
set_option maxRecDepth 20000 in
theorem q_1222 : Cond.code yX12_init cX12_init 1 none ∈ lw_gd := mem_gd (List.mem_of_getElem? (i := 1222) (by decide +kernel)) rfl
set_option maxRecDepth 20000 in
theorem q_1223 : Cond.methodLink RX12 7 Lib.objectInit ∈ lw_gd := mem_gd (List.mem_of_getElem? (i := 1223) (by decide +kernel)) rfl
set_option maxRecDepth 20000 in
theorem q_1224 : Cond.methodLink RX12 73 yX12_plain ∈ lw_gd := mem_gd (List.mem_of_getElem? (i := 1224) (by decide +kernel)) rfl
set_option maxRecDepth 20000 in
theorem q_1225 : Cond.static yX12_plain ∈ lw_gd := mem_gd (List.mem_of_getElem? (i := 1225) (by decide +kernel)) rfl
set_option maxRecDepth 20000 in
theorem q_1357 : Cond.arrayClass .boolean ∈ lw_gd := mem_gd (List.mem_of_getElem? (i := 1357) (by decide +kernel)) rfl
set_option maxRecDepth 20000 in
theorem q_1365 : Cond.code yX12_lab cX12_lab 3 (some .int) ∈ lw_gd := mem_gd (List.mem_of_getElem? (i := 1365) (by decide +kernel)) rfl
set_option maxRecDepth 20000 in
theorem q_1411 : Cond.methodLink RX12 196 yX12_closes ∈ lw_gd := mem_gd (List.mem_of_getElem? (i := 1411) (by decide +kernel)) rfl
set_option maxRecDepth 20000 in
theorem q_1413 : Cond.instanceMethod yX12_closes ∈ lw_gd := mem_gd (List.mem_of_getElem? (i := 1413) (by decide +kernel)) rfl
set_option maxRecDepth 20000 in
theorem q_1415 : Cond.methodLink RX12 199 yX12_readLine ∈ lw_gd := mem_gd (List.mem_of_getElem? (i := 1415) (by decide +kernel)) rfl
set_option maxRecDepth 20000 in
theorem q_1417 : Cond.instanceMethod yX12_readLine ∈ lw_gd := mem_gd (List.mem_of_getElem? (i := 1417) (by decide +kernel)) rfl
set_option maxRecDepth 20000 in
theorem q_1418 : Cond.code yX12_readLine cX12_readLine 1 none ∈ lw_gd := mem_gd (List.mem_of_getElem? (i := 1418) (by decide +kernel)) rfl
set_option maxRecDepth 20000 in
theorem q_1419 : Cond.methodLink RX12 187 yX12_readLane ∈ lw_gd := mem_gd (List.mem_of_getElem? (i := 1419) (by decide +kernel)) rfl
set_option maxRecDepth 20000 in
theorem q_1421 : Cond.instanceMethod yX12_readLane ∈ lw_gd := mem_gd (List.mem_of_getElem? (i := 1421) (by decide +kernel)) rfl
set_option maxRecDepth 20000 in
theorem q_1423 : Cond.methodLink RX12 190 yX12_readPattern ∈ lw_gd := mem_gd (List.mem_of_getElem? (i := 1423) (by decide +kernel)) rfl
set_option maxRecDepth 20000 in
theorem q_1425 : Cond.instanceMethod yX12_readPattern ∈ lw_gd := mem_gd (List.mem_of_getElem? (i := 1425) (by decide +kernel)) rfl
set_option maxRecDepth 20000 in
theorem q_1427 : Cond.methodLink RX12 193 yX12_readLaw ∈ lw_gd := mem_gd (List.mem_of_getElem? (i := 1427) (by decide +kernel)) rfl
set_option maxRecDepth 20000 in
theorem q_1429 : Cond.instanceMethod yX12_readLaw ∈ lw_gd := mem_gd (List.mem_of_getElem? (i := 1429) (by decide +kernel)) rfl
set_option maxRecDepth 20000 in
theorem q_1430 : Cond.code yX12_readLaw cX12_readLaw 3 none ∈ lw_gd := mem_gd (List.mem_of_getElem? (i := 1430) (by decide +kernel)) rfl
set_option maxRecDepth 20000 in
theorem q_1431 : Cond.methodLink RX12 155 yX12_readSum ∈ lw_gd := mem_gd (List.mem_of_getElem? (i := 1431) (by decide +kernel)) rfl
set_option maxRecDepth 20000 in
theorem q_1433 : Cond.instanceMethod yX12_readSum ∈ lw_gd := mem_gd (List.mem_of_getElem? (i := 1433) (by decide +kernel)) rfl
set_option maxRecDepth 20000 in
theorem q_1434 : Cond.code yX12_readSum cX12_readSum 3 none ∈ lw_gd := mem_gd (List.mem_of_getElem? (i := 1434) (by decide +kernel)) rfl
set_option maxRecDepth 20000 in
theorem q_1435 : Cond.methodLink RX12 170 yX12_readTerm ∈ lw_gd := mem_gd (List.mem_of_getElem? (i := 1435) (by decide +kernel)) rfl
set_option maxRecDepth 20000 in
theorem q_1437 : Cond.instanceMethod yX12_readTerm ∈ lw_gd := mem_gd (List.mem_of_getElem? (i := 1437) (by decide +kernel)) rfl
set_option maxRecDepth 20000 in
theorem q_1438 : Cond.code yX12_readTerm cX12_readTerm 2 none ∈ lw_gd := mem_gd (List.mem_of_getElem? (i := 1438) (by decide +kernel)) rfl
set_option maxRecDepth 20000 in
theorem q_1439 : Cond.methodLink RX12 167 yX12_readAtom ∈ lw_gd := mem_gd (List.mem_of_getElem? (i := 1439) (by decide +kernel)) rfl
set_option maxRecDepth 20000 in
theorem q_1441 : Cond.instanceMethod yX12_readAtom ∈ lw_gd := mem_gd (List.mem_of_getElem? (i := 1441) (by decide +kernel)) rfl
set_option maxRecDepth 20000 in
theorem q_1442 : Cond.code yX12_readAtom cX12_readAtom 2 none ∈ lw_gd := mem_gd (List.mem_of_getElem? (i := 1442) (by decide +kernel)) rfl
set_option maxRecDepth 20000 in
theorem q_1443 : Cond.methodLink RX12 146 yX12_codes ∈ lw_gd := mem_gd (List.mem_of_getElem? (i := 1443) (by decide +kernel)) rfl
set_option maxRecDepth 20000 in
theorem q_1445 : Cond.instanceMethod yX12_codes ∈ lw_gd := mem_gd (List.mem_of_getElem? (i := 1445) (by decide +kernel)) rfl
set_option maxRecDepth 20000 in
theorem q_1447 : Cond.methodLink RX12 149 yX12_wordOf ∈ lw_gd := mem_gd (List.mem_of_getElem? (i := 1447) (by decide +kernel)) rfl
set_option maxRecDepth 20000 in
theorem q_1449 : Cond.instanceMethod yX12_wordOf ∈ lw_gd := mem_gd (List.mem_of_getElem? (i := 1449) (by decide +kernel)) rfl
set_option maxRecDepth 20000 in
theorem q_1451 : Cond.methodLink RX12 152 yX12_goesIn ∈ lw_gd := mem_gd (List.mem_of_getElem? (i := 1451) (by decide +kernel)) rfl
set_option maxRecDepth 20000 in
theorem q_1453 : Cond.instanceMethod yX12_goesIn ∈ lw_gd := mem_gd (List.mem_of_getElem? (i := 1453) (by decide +kernel)) rfl
set_option maxRecDepth 20000 in
theorem q_1455 : Cond.methodLink RX12 161 yX12_readIf ∈ lw_gd := mem_gd (List.mem_of_getElem? (i := 1455) (by decide +kernel)) rfl
set_option maxRecDepth 20000 in
theorem q_1457 : Cond.instanceMethod yX12_readIf ∈ lw_gd := mem_gd (List.mem_of_getElem? (i := 1457) (by decide +kernel)) rfl
set_option maxRecDepth 20000 in
theorem q_1458 : Cond.code yX12_readIf cX12_readIf 2 none ∈ lw_gd := mem_gd (List.mem_of_getElem? (i := 1458) (by decide +kernel)) rfl
set_option maxRecDepth 20000 in
theorem q_1459 : Cond.methodLink RX12 164 yX12_readTruth ∈ lw_gd := mem_gd (List.mem_of_getElem? (i := 1459) (by decide +kernel)) rfl
set_option maxRecDepth 20000 in
theorem q_1461 : Cond.instanceMethod yX12_readTruth ∈ lw_gd := mem_gd (List.mem_of_getElem? (i := 1461) (by decide +kernel)) rfl
set_option maxRecDepth 20000 in
theorem q_1462 : Cond.code yX12_readTruth cX12_readTruth 2 none ∈ lw_gd := mem_gd (List.mem_of_getElem? (i := 1462) (by decide +kernel)) rfl
set_option maxRecDepth 20000 in
theorem q_1463 : Cond.methodLink RX12 176 yX12_readBoth ∈ lw_gd := mem_gd (List.mem_of_getElem? (i := 1463) (by decide +kernel)) rfl
set_option maxRecDepth 20000 in
theorem q_1465 : Cond.instanceMethod yX12_readBoth ∈ lw_gd := mem_gd (List.mem_of_getElem? (i := 1465) (by decide +kernel)) rfl
set_option maxRecDepth 20000 in
theorem q_1466 : Cond.code yX12_readBoth cX12_readBoth 2 none ∈ lw_gd := mem_gd (List.mem_of_getElem? (i := 1466) (by decide +kernel)) rfl
set_option maxRecDepth 20000 in
theorem q_1467 : Cond.methodLink RX12 173 yX12_readUnit ∈ lw_gd := mem_gd (List.mem_of_getElem? (i := 1467) (by decide +kernel)) rfl
set_option maxRecDepth 20000 in
theorem q_1469 : Cond.instanceMethod yX12_readUnit ∈ lw_gd := mem_gd (List.mem_of_getElem? (i := 1469) (by decide +kernel)) rfl
set_option maxRecDepth 20000 in
theorem q_1470 : Cond.code yX12_readUnit cX12_readUnit 3 none ∈ lw_gd := mem_gd (List.mem_of_getElem? (i := 1470) (by decide +kernel)) rfl
theorem dX12_readTruth_0 : decode cX12_readTruth 0 = .ok (.aload_n 0, 1) := by decide +kernel
theorem dX12_readTruth_1 : decode cX12_readTruth 1 = .ok (.iload_n 1, 1) := by decide +kernel
theorem dX12_readTruth_2 : decode cX12_readTruth 2 = .ok (.invokevirtual 176, 3) := by decide +kernel
theorem dX12_readTruth_5 : decode cX12_readTruth 5 = .ok (.aload_n 0, 1) := by decide +kernel
theorem dX12_readTruth_6 : decode cX12_readTruth 6 = .ok (.bipush 21, 2) := by decide +kernel
theorem dX12_readTruth_8 : decode cX12_readTruth 8 = .ok (.invokevirtual 158, 3) := by decide +kernel
theorem dX12_readTruth_11 : decode cX12_readTruth 11 = .ok (.ifCond .eq 18, 3) := by decide +kernel
theorem dX12_readTruth_14 : decode cX12_readTruth 14 = .ok (.aload_n 0, 1) := by decide +kernel
theorem dX12_readTruth_15 : decode cX12_readTruth 15 = .ok (.iload_n 1, 1) := by decide +kernel
theorem dX12_readTruth_16 : decode cX12_readTruth 16 = .ok (.invokevirtual 176, 3) := by decide +kernel
theorem dX12_readTruth_19 : decode cX12_readTruth 19 = .ok (.aload_n 0, 1) := by decide +kernel
theorem dX12_readTruth_20 : decode cX12_readTruth 20 = .ok (.sipush 3008, 3) := by decide +kernel
theorem dX12_readTruth_23 : decode cX12_readTruth 23 = .ok (.invokevirtual 146, 3) := by decide +kernel
theorem dX12_readTruth_26 : decode cX12_readTruth 26 = .ok (.goto (-21), 3) := by decide +kernel
theorem dX12_readTruth_29 : decode cX12_readTruth 29 = .ok (.return_, 1) := by decide +kernel
theorem dX12_readBoth_0 : decode cX12_readBoth 0 = .ok (.aload_n 0, 1) := by decide +kernel
theorem dX12_readBoth_1 : decode cX12_readBoth 1 = .ok (.iload_n 1, 1) := by decide +kernel
theorem dX12_readBoth_2 : decode cX12_readBoth 2 = .ok (.invokevirtual 173, 3) := by decide +kernel
theorem dX12_readBoth_5 : decode cX12_readBoth 5 = .ok (.aload_n 0, 1) := by decide +kernel
theorem dX12_readBoth_6 : decode cX12_readBoth 6 = .ok (.bipush 20, 2) := by decide +kernel
theorem dX12_readBoth_8 : decode cX12_readBoth 8 = .ok (.invokevirtual 158, 3) := by decide +kernel
theorem dX12_readBoth_11 : decode cX12_readBoth 11 = .ok (.ifCond .eq 18, 3) := by decide +kernel
theorem dX12_readBoth_14 : decode cX12_readBoth 14 = .ok (.aload_n 0, 1) := by decide +kernel
theorem dX12_readBoth_15 : decode cX12_readBoth 15 = .ok (.iload_n 1, 1) := by decide +kernel
theorem dX12_readBoth_16 : decode cX12_readBoth 16 = .ok (.invokevirtual 173, 3) := by decide +kernel
theorem dX12_readBoth_19 : decode cX12_readBoth 19 = .ok (.aload_n 0, 1) := by decide +kernel
theorem dX12_readBoth_20 : decode cX12_readBoth 20 = .ok (.sipush 3007, 3) := by decide +kernel
theorem dX12_readBoth_23 : decode cX12_readBoth 23 = .ok (.invokevirtual 146, 3) := by decide +kernel
theorem dX12_readBoth_26 : decode cX12_readBoth 26 = .ok (.goto (-21), 3) := by decide +kernel
theorem dX12_readBoth_29 : decode cX12_readBoth 29 = .ok (.return_, 1) := by decide +kernel
theorem dX12_readUnit_0 : decode cX12_readUnit 0 = .ok (.aload_n 0, 1) := by decide +kernel
theorem dX12_readUnit_1 : decode cX12_readUnit 1 = .ok (.bipush 22, 2) := by decide +kernel
theorem dX12_readUnit_3 : decode cX12_readUnit 3 = .ok (.invokevirtual 129, 3) := by decide +kernel
theorem dX12_readUnit_6 : decode cX12_readUnit 6 = .ok (.ifCond .eq 27, 3) := by decide +kernel
theorem dX12_readUnit_9 : decode cX12_readUnit 9 = .ok (.aload_n 0, 1) := by decide +kernel
theorem dX12_readUnit_10 : decode cX12_readUnit 10 = .ok (.iload_n 1, 1) := by decide +kernel
theorem dX12_readUnit_11 : decode cX12_readUnit 11 = .ok (.invokevirtual 152, 3) := by decide +kernel
theorem dX12_readUnit_14 : decode cX12_readUnit 14 = .ok (.ifCond .ne 4, 3) := by decide +kernel
theorem dX12_readUnit_17 : decode cX12_readUnit 17 = .ok (.return_, 1) := by decide +kernel
theorem dX12_readUnit_18 : decode cX12_readUnit 18 = .ok (.aload_n 0, 1) := by decide +kernel
theorem dX12_readUnit_19 : decode cX12_readUnit 19 = .ok (.iload_n 1, 1) := by decide +kernel
theorem dX12_readUnit_20 : decode cX12_readUnit 20 = .ok (.iconst 1, 1) := by decide +kernel
theorem dX12_readUnit_21 : decode cX12_readUnit 21 = .ok (.iadd, 1) := by decide +kernel
theorem dX12_readUnit_22 : decode cX12_readUnit 22 = .ok (.invokevirtual 173, 3) := by decide +kernel
theorem dX12_readUnit_25 : decode cX12_readUnit 25 = .ok (.aload_n 0, 1) := by decide +kernel
theorem dX12_readUnit_26 : decode cX12_readUnit 26 = .ok (.sipush 3006, 3) := by decide +kernel
theorem dX12_readUnit_29 : decode cX12_readUnit 29 = .ok (.invokevirtual 146, 3) := by decide +kernel
theorem dX12_readUnit_32 : decode cX12_readUnit 32 = .ok (.return_, 1) := by decide +kernel
theorem dX12_readUnit_33 : decode cX12_readUnit 33 = .ok (.aload_n 0, 1) := by decide +kernel
theorem dX12_readUnit_34 : decode cX12_readUnit 34 = .ok (.bipush 37, 2) := by decide +kernel
theorem dX12_readUnit_36 : decode cX12_readUnit 36 = .ok (.invokevirtual 129, 3) := by decide +kernel
theorem dX12_readUnit_39 : decode cX12_readUnit 39 = .ok (.ifCond .eq 34, 3) := by decide +kernel
theorem dX12_readUnit_42 : decode cX12_readUnit 42 = .ok (.aload_n 0, 1) := by decide +kernel
theorem dX12_readUnit_43 : decode cX12_readUnit 43 = .ok (.iload_n 1, 1) := by decide +kernel
theorem dX12_readUnit_44 : decode cX12_readUnit 44 = .ok (.invokevirtual 152, 3) := by decide +kernel
theorem dX12_readUnit_47 : decode cX12_readUnit 47 = .ok (.ifCond .ne 4, 3) := by decide +kernel
theorem dX12_readUnit_50 : decode cX12_readUnit 50 = .ok (.return_, 1) := by decide +kernel
theorem dX12_readUnit_51 : decode cX12_readUnit 51 = .ok (.aload_n 0, 1) := by decide +kernel
theorem dX12_readUnit_52 : decode cX12_readUnit 52 = .ok (.iload_n 1, 1) := by decide +kernel
theorem dX12_readUnit_53 : decode cX12_readUnit 53 = .ok (.iconst 1, 1) := by decide +kernel
theorem dX12_readUnit_54 : decode cX12_readUnit 54 = .ok (.iadd, 1) := by decide +kernel
theorem dX12_readUnit_55 : decode cX12_readUnit 55 = .ok (.invokevirtual 164, 3) := by decide +kernel
theorem dX12_readUnit_58 : decode cX12_readUnit 58 = .ok (.aload_n 0, 1) := by decide +kernel
theorem dX12_readUnit_59 : decode cX12_readUnit 59 = .ok (.bipush 38, 2) := by decide +kernel
theorem dX12_readUnit_61 : decode cX12_readUnit 61 = .ok (.invokevirtual 158, 3) := by decide +kernel
theorem dX12_readUnit_64 : decode cX12_readUnit 64 = .ok (.ifCond .ne 8, 3) := by decide +kernel
theorem dX12_readUnit_67 : decode cX12_readUnit 67 = .ok (.aload_n 0, 1) := by decide +kernel
theorem dX12_readUnit_68 : decode cX12_readUnit 68 = .ok (.iconst 2, 1) := by decide +kernel
theorem dX12_readUnit_69 : decode cX12_readUnit 69 = .ok (.invokevirtual 135, 3) := by decide +kernel
theorem dX12_readUnit_72 : decode cX12_readUnit 72 = .ok (.return_, 1) := by decide +kernel
theorem dX12_readUnit_73 : decode cX12_readUnit 73 = .ok (.aload_n 0, 1) := by decide +kernel
theorem dX12_readUnit_74 : decode cX12_readUnit 74 = .ok (.iload_n 1, 1) := by decide +kernel
theorem dX12_readUnit_75 : decode cX12_readUnit 75 = .ok (.invokevirtual 155, 3) := by decide +kernel
theorem dX12_readUnit_78 : decode cX12_readUnit 78 = .ok (.aload_n 0, 1) := by decide +kernel
theorem dX12_readUnit_79 : decode cX12_readUnit 79 = .ok (.bipush 39, 2) := by decide +kernel
theorem dX12_readUnit_81 : decode cX12_readUnit 81 = .ok (.invokevirtual 129, 3) := by decide +kernel
theorem dX12_readUnit_84 : decode cX12_readUnit 84 = .ok (.ifCond .eq 9, 3) := by decide +kernel
theorem dX12_readUnit_87 : decode cX12_readUnit 87 = .ok (.sipush 3003, 3) := by decide +kernel
theorem dX12_readUnit_90 : decode cX12_readUnit 90 = .ok (.goto 21, 3) := by decide +kernel
theorem dX12_readUnit_93 : decode cX12_readUnit 93 = .ok (.aload_n 0, 1) := by decide +kernel
theorem dX12_readUnit_94 : decode cX12_readUnit 94 = .ok (.bipush 40, 2) := by decide +kernel
theorem dX12_readUnit_96 : decode cX12_readUnit 96 = .ok (.invokevirtual 129, 3) := by decide +kernel
theorem dX12_readUnit_99 : decode cX12_readUnit 99 = .ok (.ifCond .eq 9, 3) := by decide +kernel
theorem dX12_readUnit_102 : decode cX12_readUnit 102 = .ok (.sipush 3004, 3) := by decide +kernel
theorem dX12_readUnit_105 : decode cX12_readUnit 105 = .ok (.goto 6, 3) := by decide +kernel
theorem dX12_readUnit_108 : decode cX12_readUnit 108 = .ok (.sipush 3005, 3) := by decide +kernel
theorem dX12_readUnit_111 : decode cX12_readUnit 111 = .ok (.istore_n 2, 1) := by decide +kernel
theorem dX12_readUnit_112 : decode cX12_readUnit 112 = .ok (.aload_n 0, 1) := by decide +kernel
theorem dX12_readUnit_113 : decode cX12_readUnit 113 = .ok (.bipush 39, 2) := by decide +kernel
theorem dX12_readUnit_115 : decode cX12_readUnit 115 = .ok (.invokevirtual 129, 3) := by decide +kernel
theorem dX12_readUnit_118 : decode cX12_readUnit 118 = .ok (.ifCond .ne 21, 3) := by decide +kernel
theorem dX12_readUnit_121 : decode cX12_readUnit 121 = .ok (.aload_n 0, 1) := by decide +kernel
theorem dX12_readUnit_122 : decode cX12_readUnit 122 = .ok (.bipush 40, 2) := by decide +kernel
theorem dX12_readUnit_124 : decode cX12_readUnit 124 = .ok (.invokevirtual 129, 3) := by decide +kernel
theorem dX12_readUnit_127 : decode cX12_readUnit 127 = .ok (.ifCond .ne 12, 3) := by decide +kernel
theorem dX12_readUnit_130 : decode cX12_readUnit 130 = .ok (.aload_n 0, 1) := by decide +kernel
theorem dX12_readUnit_131 : decode cX12_readUnit 131 = .ok (.bipush 41, 2) := by decide +kernel
theorem dX12_readUnit_133 : decode cX12_readUnit 133 = .ok (.invokevirtual 129, 3) := by decide +kernel
theorem dX12_readUnit_136 : decode cX12_readUnit 136 = .ok (.ifCond .eq 10, 3) := by decide +kernel
theorem dX12_readUnit_139 : decode cX12_readUnit 139 = .ok (.aload_n 0, 1) := by decide +kernel
theorem dX12_readUnit_140 : decode cX12_readUnit 140 = .ok (.invokevirtual 132, 3) := by decide +kernel
theorem dX12_readUnit_143 : decode cX12_readUnit 143 = .ok (.goto 8, 3) := by decide +kernel
theorem dX12_readUnit_146 : decode cX12_readUnit 146 = .ok (.aload_n 0, 1) := by decide +kernel
theorem dX12_readUnit_147 : decode cX12_readUnit 147 = .ok (.iconst 2, 1) := by decide +kernel
theorem dX12_readUnit_148 : decode cX12_readUnit 148 = .ok (.invokevirtual 135, 3) := by decide +kernel
theorem dX12_readUnit_151 : decode cX12_readUnit 151 = .ok (.aload_n 0, 1) := by decide +kernel
theorem dX12_readUnit_152 : decode cX12_readUnit 152 = .ok (.iload_n 1, 1) := by decide +kernel
theorem dX12_readUnit_153 : decode cX12_readUnit 153 = .ok (.invokevirtual 155, 3) := by decide +kernel
theorem dX12_readUnit_156 : decode cX12_readUnit 156 = .ok (.aload_n 0, 1) := by decide +kernel
theorem dX12_readUnit_157 : decode cX12_readUnit 157 = .ok (.iload_n 2, 1) := by decide +kernel
theorem dX12_readUnit_158 : decode cX12_readUnit 158 = .ok (.invokevirtual 146, 3) := by decide +kernel
theorem dX12_readUnit_161 : decode cX12_readUnit 161 = .ok (.return_, 1) := by decide +kernel
theorem dX12_readSum_0 : decode cX12_readSum 0 = .ok (.aload_n 0, 1) := by decide +kernel
theorem dX12_readSum_1 : decode cX12_readSum 1 = .ok (.iload_n 1, 1) := by decide +kernel
theorem dX12_readSum_2 : decode cX12_readSum 2 = .ok (.invokevirtual 170, 3) := by decide +kernel
theorem dX12_readSum_5 : decode cX12_readSum 5 = .ok (.aload_n 0, 1) := by decide +kernel
theorem dX12_readSum_6 : decode cX12_readSum 6 = .ok (.bipush 32, 2) := by decide +kernel
theorem dX12_readSum_8 : decode cX12_readSum 8 = .ok (.invokevirtual 129, 3) := by decide +kernel
theorem dX12_readSum_11 : decode cX12_readSum 11 = .ok (.ifCond .ne 12, 3) := by decide +kernel
theorem dX12_readSum_14 : decode cX12_readSum 14 = .ok (.aload_n 0, 1) := by decide +kernel
theorem dX12_readSum_15 : decode cX12_readSum 15 = .ok (.bipush 33, 2) := by decide +kernel
theorem dX12_readSum_17 : decode cX12_readSum 17 = .ok (.invokevirtual 129, 3) := by decide +kernel
theorem dX12_readSum_20 : decode cX12_readSum 20 = .ok (.ifCond .eq 39, 3) := by decide +kernel
theorem dX12_readSum_23 : decode cX12_readSum 23 = .ok (.aload_n 0, 1) := by decide +kernel
theorem dX12_readSum_24 : decode cX12_readSum 24 = .ok (.getfield 105, 3) := by decide +kernel
theorem dX12_readSum_27 : decode cX12_readSum 27 = .ok (.bipush 32, 2) := by decide +kernel
theorem dX12_readSum_29 : decode cX12_readSum 29 = .ok (.if_icmp .ne 9, 3) := by decide +kernel
theorem dX12_readSum_32 : decode cX12_readSum 32 = .ok (.sipush 3000, 3) := by decide +kernel
theorem dX12_readSum_35 : decode cX12_readSum 35 = .ok (.goto 6, 3) := by decide +kernel
theorem dX12_readSum_38 : decode cX12_readSum 38 = .ok (.sipush 3001, 3) := by decide +kernel
theorem dX12_readSum_41 : decode cX12_readSum 41 = .ok (.istore_n 2, 1) := by decide +kernel
theorem dX12_readSum_42 : decode cX12_readSum 42 = .ok (.aload_n 0, 1) := by decide +kernel
theorem dX12_readSum_43 : decode cX12_readSum 43 = .ok (.invokevirtual 132, 3) := by decide +kernel
theorem dX12_readSum_46 : decode cX12_readSum 46 = .ok (.aload_n 0, 1) := by decide +kernel
theorem dX12_readSum_47 : decode cX12_readSum 47 = .ok (.iload_n 1, 1) := by decide +kernel
theorem dX12_readSum_48 : decode cX12_readSum 48 = .ok (.invokevirtual 170, 3) := by decide +kernel
theorem dX12_readSum_51 : decode cX12_readSum 51 = .ok (.aload_n 0, 1) := by decide +kernel
theorem dX12_readSum_52 : decode cX12_readSum 52 = .ok (.iload_n 2, 1) := by decide +kernel
theorem dX12_readSum_53 : decode cX12_readSum 53 = .ok (.invokevirtual 146, 3) := by decide +kernel
theorem dX12_readSum_56 : decode cX12_readSum 56 = .ok (.goto (-51), 3) := by decide +kernel
theorem dX12_readSum_59 : decode cX12_readSum 59 = .ok (.return_, 1) := by decide +kernel
theorem dX12_readTerm_0 : decode cX12_readTerm 0 = .ok (.aload_n 0, 1) := by decide +kernel
theorem dX12_readTerm_1 : decode cX12_readTerm 1 = .ok (.iload_n 1, 1) := by decide +kernel
theorem dX12_readTerm_2 : decode cX12_readTerm 2 = .ok (.invokevirtual 167, 3) := by decide +kernel
theorem dX12_readTerm_5 : decode cX12_readTerm 5 = .ok (.aload_n 0, 1) := by decide +kernel
theorem dX12_readTerm_6 : decode cX12_readTerm 6 = .ok (.bipush 34, 2) := by decide +kernel
theorem dX12_readTerm_8 : decode cX12_readTerm 8 = .ok (.invokevirtual 158, 3) := by decide +kernel
theorem dX12_readTerm_11 : decode cX12_readTerm 11 = .ok (.ifCond .eq 18, 3) := by decide +kernel
theorem dX12_readTerm_14 : decode cX12_readTerm 14 = .ok (.aload_n 0, 1) := by decide +kernel
theorem dX12_readTerm_15 : decode cX12_readTerm 15 = .ok (.iload_n 1, 1) := by decide +kernel
theorem dX12_readTerm_16 : decode cX12_readTerm 16 = .ok (.invokevirtual 167, 3) := by decide +kernel
theorem dX12_readTerm_19 : decode cX12_readTerm 19 = .ok (.aload_n 0, 1) := by decide +kernel
theorem dX12_readTerm_20 : decode cX12_readTerm 20 = .ok (.sipush 3002, 3) := by decide +kernel
theorem dX12_readTerm_23 : decode cX12_readTerm 23 = .ok (.invokevirtual 146, 3) := by decide +kernel
theorem dX12_readTerm_26 : decode cX12_readTerm 26 = .ok (.goto (-21), 3) := by decide +kernel
theorem dX12_readTerm_29 : decode cX12_readTerm 29 = .ok (.return_, 1) := by decide +kernel
theorem dX12_readAtom_0 : decode cX12_readAtom 0 = .ok (.aload_n 0, 1) := by decide +kernel
theorem dX12_readAtom_1 : decode cX12_readAtom 1 = .ok (.bipush 25, 2) := by decide +kernel
theorem dX12_readAtom_3 : decode cX12_readAtom 3 = .ok (.invokevirtual 129, 3) := by decide +kernel
theorem dX12_readAtom_6 : decode cX12_readAtom 6 = .ok (.ifCond .eq 18, 3) := by decide +kernel
theorem dX12_readAtom_9 : decode cX12_readAtom 9 = .ok (.aload_n 0, 1) := by decide +kernel
theorem dX12_readAtom_10 : decode cX12_readAtom 10 = .ok (.aload_n 0, 1) := by decide +kernel
theorem dX12_readAtom_11 : decode cX12_readAtom 11 = .ok (.getfield 118, 3) := by decide +kernel
theorem dX12_readAtom_14 : decode cX12_readAtom 14 = .ok (.invokevirtual 146, 3) := by decide +kernel
theorem dX12_readAtom_17 : decode cX12_readAtom 17 = .ok (.aload_n 0, 1) := by decide +kernel
theorem dX12_readAtom_18 : decode cX12_readAtom 18 = .ok (.invokevirtual 132, 3) := by decide +kernel
theorem dX12_readAtom_21 : decode cX12_readAtom 21 = .ok (.goto 109, 3) := by decide +kernel
theorem dX12_readAtom_24 : decode cX12_readAtom 24 = .ok (.aload_n 0, 1) := by decide +kernel
theorem dX12_readAtom_25 : decode cX12_readAtom 25 = .ok (.getfield 123, 3) := by decide +kernel
theorem dX12_readAtom_28 : decode cX12_readAtom 28 = .ok (.ifCond .ne 38, 3) := by decide +kernel
theorem dX12_readAtom_31 : decode cX12_readAtom 31 = .ok (.aload_n 0, 1) := by decide +kernel
theorem dX12_readAtom_32 : decode cX12_readAtom 32 = .ok (.aload_n 0, 1) := by decide +kernel
theorem dX12_readAtom_33 : decode cX12_readAtom 33 = .ok (.getfield 105, 3) := by decide +kernel
theorem dX12_readAtom_36 : decode cX12_readAtom 36 = .ok (.invokevirtual 149, 3) := by decide +kernel
theorem dX12_readAtom_39 : decode cX12_readAtom 39 = .ok (.iconst (-1), 1) := by decide +kernel
theorem dX12_readAtom_40 : decode cX12_readAtom 40 = .ok (.if_icmp .eq 26, 3) := by decide +kernel
theorem dX12_readAtom_43 : decode cX12_readAtom 43 = .ok (.aload_n 0, 1) := by decide +kernel
theorem dX12_readAtom_44 : decode cX12_readAtom 44 = .ok (.sipush 1000, 3) := by decide +kernel
theorem dX12_readAtom_47 : decode cX12_readAtom 47 = .ok (.aload_n 0, 1) := by decide +kernel
theorem dX12_readAtom_48 : decode cX12_readAtom 48 = .ok (.aload_n 0, 1) := by decide +kernel
theorem dX12_readAtom_49 : decode cX12_readAtom 49 = .ok (.getfield 105, 3) := by decide +kernel
theorem dX12_readAtom_52 : decode cX12_readAtom 52 = .ok (.invokevirtual 149, 3) := by decide +kernel
theorem dX12_readAtom_55 : decode cX12_readAtom 55 = .ok (.iadd, 1) := by decide +kernel
theorem dX12_readAtom_56 : decode cX12_readAtom 56 = .ok (.invokevirtual 146, 3) := by decide +kernel
theorem dX12_readAtom_59 : decode cX12_readAtom 59 = .ok (.aload_n 0, 1) := by decide +kernel
theorem dX12_readAtom_60 : decode cX12_readAtom 60 = .ok (.invokevirtual 132, 3) := by decide +kernel
theorem dX12_readAtom_63 : decode cX12_readAtom 63 = .ok (.goto 67, 3) := by decide +kernel
theorem dX12_readAtom_66 : decode cX12_readAtom 66 = .ok (.aload_n 0, 1) := by decide +kernel
theorem dX12_readAtom_67 : decode cX12_readAtom 67 = .ok (.bipush 35, 2) := by decide +kernel
theorem dX12_readAtom_69 : decode cX12_readAtom 69 = .ok (.invokevirtual 129, 3) := by decide +kernel
theorem dX12_readAtom_72 : decode cX12_readAtom 72 = .ok (.ifCond .eq 36, 3) := by decide +kernel
theorem dX12_readAtom_75 : decode cX12_readAtom 75 = .ok (.aload_n 0, 1) := by decide +kernel
theorem dX12_readAtom_76 : decode cX12_readAtom 76 = .ok (.iload_n 1, 1) := by decide +kernel
theorem dX12_readAtom_77 : decode cX12_readAtom 77 = .ok (.invokevirtual 152, 3) := by decide +kernel
theorem dX12_readAtom_80 : decode cX12_readAtom 80 = .ok (.ifCond .ne 4, 3) := by decide +kernel
theorem dX12_readAtom_83 : decode cX12_readAtom 83 = .ok (.return_, 1) := by decide +kernel
theorem dX12_readAtom_84 : decode cX12_readAtom 84 = .ok (.aload_n 0, 1) := by decide +kernel
theorem dX12_readAtom_85 : decode cX12_readAtom 85 = .ok (.iload_n 1, 1) := by decide +kernel
theorem dX12_readAtom_86 : decode cX12_readAtom 86 = .ok (.iconst 1, 1) := by decide +kernel
theorem dX12_readAtom_87 : decode cX12_readAtom 87 = .ok (.iadd, 1) := by decide +kernel
theorem dX12_readAtom_88 : decode cX12_readAtom 88 = .ok (.invokevirtual 155, 3) := by decide +kernel
theorem dX12_readAtom_91 : decode cX12_readAtom 91 = .ok (.aload_n 0, 1) := by decide +kernel
theorem dX12_readAtom_92 : decode cX12_readAtom 92 = .ok (.bipush 36, 2) := by decide +kernel
theorem dX12_readAtom_94 : decode cX12_readAtom 94 = .ok (.invokevirtual 158, 3) := by decide +kernel
theorem dX12_readAtom_97 : decode cX12_readAtom 97 = .ok (.ifCond .ne 33, 3) := by decide +kernel
theorem dX12_readAtom_100 : decode cX12_readAtom 100 = .ok (.aload_n 0, 1) := by decide +kernel
theorem dX12_readAtom_101 : decode cX12_readAtom 101 = .ok (.iconst 2, 1) := by decide +kernel
theorem dX12_readAtom_102 : decode cX12_readAtom 102 = .ok (.invokevirtual 135, 3) := by decide +kernel
theorem dX12_readAtom_105 : decode cX12_readAtom 105 = .ok (.goto 25, 3) := by decide +kernel
theorem dX12_readAtom_108 : decode cX12_readAtom 108 = .ok (.aload_n 0, 1) := by decide +kernel
theorem dX12_readAtom_109 : decode cX12_readAtom 109 = .ok (.bipush 12, 2) := by decide +kernel
theorem dX12_readAtom_111 : decode cX12_readAtom 111 = .ok (.invokevirtual 129, 3) := by decide +kernel
theorem dX12_readAtom_114 : decode cX12_readAtom 114 = .ok (.ifCond .eq 11, 3) := by decide +kernel
theorem dX12_readAtom_117 : decode cX12_readAtom 117 = .ok (.aload_n 0, 1) := by decide +kernel
theorem dX12_readAtom_118 : decode cX12_readAtom 118 = .ok (.iload_n 1, 1) := by decide +kernel
theorem dX12_readAtom_119 : decode cX12_readAtom 119 = .ok (.invokevirtual 161, 3) := by decide +kernel
theorem dX12_readAtom_122 : decode cX12_readAtom 122 = .ok (.goto 8, 3) := by decide +kernel
theorem dX12_readAtom_125 : decode cX12_readAtom 125 = .ok (.aload_n 0, 1) := by decide +kernel
theorem dX12_readAtom_126 : decode cX12_readAtom 126 = .ok (.iconst 2, 1) := by decide +kernel
theorem dX12_readAtom_127 : decode cX12_readAtom 127 = .ok (.invokevirtual 135, 3) := by decide +kernel
theorem dX12_readAtom_130 : decode cX12_readAtom 130 = .ok (.return_, 1) := by decide +kernel
theorem dX12_readIf_0 : decode cX12_readIf 0 = .ok (.aload_n 0, 1) := by decide +kernel
theorem dX12_readIf_1 : decode cX12_readIf 1 = .ok (.iload_n 1, 1) := by decide +kernel
theorem dX12_readIf_2 : decode cX12_readIf 2 = .ok (.invokevirtual 152, 3) := by decide +kernel
theorem dX12_readIf_5 : decode cX12_readIf 5 = .ok (.ifCond .ne 4, 3) := by decide +kernel
theorem dX12_readIf_8 : decode cX12_readIf 8 = .ok (.return_, 1) := by decide +kernel
theorem dX12_readIf_9 : decode cX12_readIf 9 = .ok (.aload_n 0, 1) := by decide +kernel
theorem dX12_readIf_10 : decode cX12_readIf 10 = .ok (.iload_n 1, 1) := by decide +kernel
theorem dX12_readIf_11 : decode cX12_readIf 11 = .ok (.iconst 1, 1) := by decide +kernel
theorem dX12_readIf_12 : decode cX12_readIf 12 = .ok (.iadd, 1) := by decide +kernel
theorem dX12_readIf_13 : decode cX12_readIf 13 = .ok (.invokevirtual 164, 3) := by decide +kernel
theorem dX12_readIf_16 : decode cX12_readIf 16 = .ok (.aload_n 0, 1) := by decide +kernel
theorem dX12_readIf_17 : decode cX12_readIf 17 = .ok (.bipush 13, 2) := by decide +kernel
theorem dX12_readIf_19 : decode cX12_readIf 19 = .ok (.invokevirtual 158, 3) := by decide +kernel
theorem dX12_readIf_22 : decode cX12_readIf 22 = .ok (.ifCond .ne 8, 3) := by decide +kernel
theorem dX12_readIf_25 : decode cX12_readIf 25 = .ok (.aload_n 0, 1) := by decide +kernel
theorem dX12_readIf_26 : decode cX12_readIf 26 = .ok (.iconst 2, 1) := by decide +kernel
theorem dX12_readIf_27 : decode cX12_readIf 27 = .ok (.invokevirtual 135, 3) := by decide +kernel
theorem dX12_readIf_30 : decode cX12_readIf 30 = .ok (.aload_n 0, 1) := by decide +kernel
theorem dX12_readIf_31 : decode cX12_readIf 31 = .ok (.iload_n 1, 1) := by decide +kernel
theorem dX12_readIf_32 : decode cX12_readIf 32 = .ok (.iconst 1, 1) := by decide +kernel
theorem dX12_readIf_33 : decode cX12_readIf 33 = .ok (.iadd, 1) := by decide +kernel
theorem dX12_readIf_34 : decode cX12_readIf 34 = .ok (.invokevirtual 155, 3) := by decide +kernel
theorem dX12_readIf_37 : decode cX12_readIf 37 = .ok (.aload_n 0, 1) := by decide +kernel
theorem dX12_readIf_38 : decode cX12_readIf 38 = .ok (.bipush 14, 2) := by decide +kernel
theorem dX12_readIf_40 : decode cX12_readIf 40 = .ok (.invokevirtual 158, 3) := by decide +kernel
theorem dX12_readIf_43 : decode cX12_readIf 43 = .ok (.ifCond .ne 8, 3) := by decide +kernel
theorem dX12_readIf_46 : decode cX12_readIf 46 = .ok (.aload_n 0, 1) := by decide +kernel
theorem dX12_readIf_47 : decode cX12_readIf 47 = .ok (.iconst 2, 1) := by decide +kernel
theorem dX12_readIf_48 : decode cX12_readIf 48 = .ok (.invokevirtual 135, 3) := by decide +kernel
theorem dX12_readIf_51 : decode cX12_readIf 51 = .ok (.aload_n 0, 1) := by decide +kernel
theorem dX12_readIf_52 : decode cX12_readIf 52 = .ok (.iload_n 1, 1) := by decide +kernel
theorem dX12_readIf_53 : decode cX12_readIf 53 = .ok (.iconst 1, 1) := by decide +kernel
theorem dX12_readIf_54 : decode cX12_readIf 54 = .ok (.iadd, 1) := by decide +kernel
theorem dX12_readIf_55 : decode cX12_readIf 55 = .ok (.invokevirtual 155, 3) := by decide +kernel
theorem dX12_readIf_58 : decode cX12_readIf 58 = .ok (.aload_n 0, 1) := by decide +kernel
theorem dX12_readIf_59 : decode cX12_readIf 59 = .ok (.bipush 15, 2) := by decide +kernel
theorem dX12_readIf_61 : decode cX12_readIf 61 = .ok (.invokevirtual 158, 3) := by decide +kernel
theorem dX12_readIf_64 : decode cX12_readIf 64 = .ok (.ifCond .ne 8, 3) := by decide +kernel
theorem dX12_readIf_67 : decode cX12_readIf 67 = .ok (.aload_n 0, 1) := by decide +kernel
theorem dX12_readIf_68 : decode cX12_readIf 68 = .ok (.iconst 2, 1) := by decide +kernel
theorem dX12_readIf_69 : decode cX12_readIf 69 = .ok (.invokevirtual 135, 3) := by decide +kernel
theorem dX12_readIf_72 : decode cX12_readIf 72 = .ok (.aload_n 0, 1) := by decide +kernel
theorem dX12_readIf_73 : decode cX12_readIf 73 = .ok (.sipush 3009, 3) := by decide +kernel
theorem dX12_readIf_76 : decode cX12_readIf 76 = .ok (.invokevirtual 146, 3) := by decide +kernel
theorem dX12_readIf_79 : decode cX12_readIf 79 = .ok (.return_, 1) := by decide +kernel
theorem wX12_readTruth : Mw yX12_readTruth cX12_readTruth 2 none 1 := ⟨q_1462, q_130, by decide, ⟨by decide +kernel, by decide +kernel⟩, by decide +kernel, by decide +kernel⟩
theorem wX12_readBoth : Mw yX12_readBoth cX12_readBoth 2 none 1 := ⟨q_1466, q_130, by decide, ⟨by decide +kernel, by decide +kernel⟩, by decide +kernel, by decide +kernel⟩
theorem wX12_readUnit : Mw yX12_readUnit cX12_readUnit 3 none 1 := ⟨q_1470, q_130, by decide, ⟨by decide +kernel, by decide +kernel⟩, by decide +kernel, by decide +kernel⟩
theorem wX12_readSum : Mw yX12_readSum cX12_readSum 3 none 1 := ⟨q_1434, q_130, by decide, ⟨by decide +kernel, by decide +kernel⟩, by decide +kernel, by decide +kernel⟩
theorem wX12_readTerm : Mw yX12_readTerm cX12_readTerm 2 none 1 := ⟨q_1438, q_130, by decide, ⟨by decide +kernel, by decide +kernel⟩, by decide +kernel, by decide +kernel⟩
theorem wX12_readAtom : Mw yX12_readAtom cX12_readAtom 2 none 1 := ⟨q_1442, q_130, by decide, ⟨by decide +kernel, by decide +kernel⟩, by decide +kernel, by decide +kernel⟩
theorem wX12_readIf : Mw yX12_readIf cX12_readIf 2 none 1 := ⟨q_1458, q_130, by decide, ⟨by decide +kernel, by decide +kernel⟩, by decide +kernel, by decide +kernel⟩
abbrev yG12 : Nat → MethodName := fun w => match w with
  | 0 => yX12_readTruth
  | 1 => yX12_readBoth
  | 2 => yX12_readUnit
  | 3 => yX12_readSum
  | 4 => yX12_readTerm
  | 5 => yX12_readAtom
  | _ => yX12_readIf
abbrev cG12 : Nat → ByteArray := fun w => match w with
  | 0 => cX12_readTruth
  | 1 => cX12_readBoth
  | 2 => cX12_readUnit
  | 3 => cX12_readSum
  | 4 => cX12_readTerm
  | 5 => cX12_readAtom
  | _ => cX12_readIf
abbrev nG12 : Nat → Nat := fun w => match w with
  | 0 => 2
  | 1 => 2
  | 2 => 3
  | 3 => 3
  | 4 => 2
  | 5 => 2
  | _ => 2
/-- what a call of the group is taken to do -/
def RKG12 (l : Launch) (B : Bx) (d : Nat) (rec : Nat → Sh → Me → Nat → Int32 → Option (Unit × Me)) : Prop := ∀ (w : Nat) (T : Sh) (M : Me) (a : Nat) (p0 : Int32) (M' : Me), rec w T M a p0 = some ((), M') → Kt l B (yG12 w) (cG12 w) (nG12 w) none d [.ref a, .int p0] T M none T M'
-- a loop of EyeTrainerModel.readTruth at 5
def bX12_readTruth_5 (rec : Nat → Sh → Me → Nat → Int32 → Option (Unit × Me)) (T : Sh) (x0 : Nat) (x1 : Int32) (M : Me) : Option ((Me) ⊕ (Me)) :=
  gd (kd T x0 = 11) <| Option.bind (fX12_eats T M x0 (21 : Int32)) <| un2 fun r4 M5 => if r4 = 0 then (some (.inr M5)) else (Option.bind (rec 1 T M5 x0 x1) <| un2 fun _u M7 => Option.bind (fX12_codes T M7 x0 (3008 : Int32)) <| un2 fun _u M8 => some (.inl M8))
def PX12_readTruth_5 (X : Fx) (B : Bx) (Z : Nat × Nat × Nat × Nat) (Q : State → Prop) (T : Sh) (x0 : Nat) (x1 : Int32) (s : Me) : Prop := G X B 2 Z Q 5 [(0, .ref (x0)), (1, .int (x1))] [] T s
def EX12_readTruth_5 (X : Fx) (B : Bx) (Z : Nat × Nat × Nat × Nat) (Q : State → Prop) (T : Sh) (x0 : Nat) (x1 : Int32) (r : Me) : Prop := G X B 2 Z Q 29 [] [] T r
set_option maxHeartbeats 4000000 in
theorem tbX12_readTruth_5 {X : Fx} {B : Bx} {Z : Nat × Nat × Nat × Nat} {Q : State → Prop} {d : Nat} {T : Sh} (C : Cx X B cX12_readTruth 2 RX12 (d + 1) Z) (hd : 7 ≤ d) {rec : Nat → Sh → Me → Nat → Int32 → Option (Unit × Me)} (hrec : RKG12 X.2.1 B d rec) {x0 : Nat} {x1 : Int32} : ∀ (s : Me) (o : (Me) ⊕ (Me)), bX12_readTruth_5 rec T x0 x1 s = some o → lpE (PX12_readTruth_5 X B Z Q T x0 x1) (EX12_readTruth_5 X B Z Q T x0 x1) o → PX12_readTruth_5 X B Z Q T x0 x1 s := by
  rintro M o h hE
  replace h : bX12_readTruth_5 rec T x0 x1 M = some o := h
  unfold bX12_readTruth_5 at h
  show G X B 2 Z Q 5 [(0, .ref (x0)), (1, .int (x1))] [] T M
  refine g_aload_n (pc := 5) C dX12_readTruth_5 rfl 0 rfl ?_
  refine g_bipush (pc := 6) (v := 21) C dX12_readTruth_6 (by decide) ?_
  replace h := gd_some h; obtain ⟨hk3, h⟩ := h
  replace h := bnd2 h; obtain ⟨r4, M5, h1, h⟩ := h
  refine g_callVi (pc := 8) (As := [.int ((21 : Int32))]) (st := []) C dX12_readTruth_8 wX12_eats hk3 rfl (by decide) q_1393 q_55 q_1391 (by omega) rfl (Nat.le_of_ble_eq_true rfl) (kX12_eats (d := 6) (Nat.le_refl _) h1) ?_
  refine g_if_eq (pc := 11) (tgt := 29) C dX12_readTruth_11 (by decide) (fun c6 => ?_) (fun c6 => ?_)
  · replace h := ifp c6 h
    obtain rfl := Option.some.inj h
    exact g_sub [] rfl (show G X B 2 Z Q 29 [] [] T M5 from hE)
  · replace h := ifn c6 h
    refine g_aload_n (pc := 14) C dX12_readTruth_14 rfl 0 rfl ?_
    refine g_iload_n (pc := 15) C dX12_readTruth_15 rfl 1 rfl ?_
    replace h := bnd2 h; obtain ⟨_u, M7, h1, h⟩ := h
    refine g_callVv (pc := 16) (As := [.int (x1)]) (st := []) C dX12_readTruth_16 wX12_readBoth hk3 rfl (by decide) q_1465 q_73 q_1463 (by omega) rfl (Nat.le_of_ble_eq_true rfl) (hrec 1 _ _ _ _ _ h1) ?_
    refine g_aload_n (pc := 19) C dX12_readTruth_19 rfl 0 rfl ?_
    refine g_sipush (pc := 20) (v := 3008) C dX12_readTruth_20 (by decide) ?_
    replace h := bnd2 h; obtain ⟨_u, M8, h1, h⟩ := h
    refine g_callVv (pc := 23) (As := [.int ((3008 : Int32))]) (st := []) C dX12_readTruth_23 wX12_codes hk3 rfl (by decide) q_1445 q_68 q_1443 (by omega) rfl (Nat.le_of_ble_eq_true rfl) (kX12_codes (d := 0) (Nat.le_refl _) h1) ?_
    refine g_goto (pc := 26) (tgt := 5) C dX12_readTruth_26 (by decide) ?_
    obtain rfl := Option.some.inj h
    exact g_sub [0, 1] rfl (show G X B 2 Z Q 5 [(0, .ref (x0)), (1, .int (x1))] [] T M8 from hE)
/-- EyeTrainerModel.readTruth(I)V -/
def hX12_readTruth (rec : Nat → Sh → Me → Nat → Int32 → Option (Unit × Me)) (T : Sh) (M : Me) (x0 : Nat) (x1 : Int32) : Option (Unit × Me) :=
  gd (kd T x0 = 11) <| Option.bind (rec 1 T M x0 x1) <| un2 fun _u M2 => (lp FU (fun s => bX12_readTruth_5 rec T x0 x1 s) M2).bind (fun M9 => some ((), M9))
set_option maxHeartbeats 4000000 in
theorem khX12_readTruth {l : Launch} {B : Bx} {d : Nat} (hd : 7 ≤ d) {rec : Nat → Sh → Me → Nat → Int32 → Option (Unit × Me)} (hrec : RKG12 l B d rec) {T : Sh} {M : Me} {x0 : Nat} {x1 : Int32} {M' : Me} (h : hX12_readTruth rec T M x0 x1 = some ((), M')) : Kt l B yX12_readTruth cX12_readTruth 2 none (d + 1) [.ref (x0), .int (x1)] T M none T M' := by
  refine kt_of wX12_readTruth (Nat.le_refl _) (Nat.le_refl _) (Nat.le_of_ble_eq_true rfl) (fun X C hR hlx hin => ?_)
  subst hlx
  replace C : Cx X B cX12_readTruth 2 RX12 (d + 1) (tp T, sl T, tp T, sl T) := C
  unfold hX12_readTruth at h
  show G X B 2 _ _ 0 [(0, .ref (x0)), (1, .int (x1))] [] T M
  refine g_aload_n (pc := 0) C dX12_readTruth_0 rfl 0 rfl ?_
  refine g_iload_n (pc := 1) C dX12_readTruth_1 rfl 1 rfl ?_
  replace h := gd_some h; obtain ⟨hk1, h⟩ := h
  replace h := bnd2 h; obtain ⟨_u, M2, h1, h⟩ := h
  refine g_callVv (pc := 2) (As := [.int (x1)]) (st := []) C dX12_readTruth_2 wX12_readBoth hk1 rfl (by decide) q_1465 q_73 q_1463 (by omega) rfl (Nat.le_of_ble_eq_true rfl) (hrec 1 _ _ _ _ _ h1) ?_
  replace h := bnd h; obtain ⟨M9, h1, h⟩ := h
  refine g_sub [0, 1] rfl ?_
  refine lp_G2 (P := PX12_readTruth_5 X B _ _ T x0 x1) (E := EX12_readTruth_5 X B _ _ T x0 x1) (tbX12_readTruth_5 C hd hrec) h1 ?_
  show G X B 2 _ _ 29 [] [] T M9
  obtain ⟨-, rfl⟩ := Prod.mk.inj (Option.some.inj h)
  exact g_vret C hR dX12_readTruth_29
-- a loop of EyeTrainerModel.readBoth at 5
def bX12_readBoth_5 (rec : Nat → Sh → Me → Nat → Int32 → Option (Unit × Me)) (T : Sh) (x0 : Nat) (x1 : Int32) (M : Me) : Option ((Me) ⊕ (Me)) :=
  gd (kd T x0 = 11) <| Option.bind (fX12_eats T M x0 (20 : Int32)) <| un2 fun r4 M5 => if r4 = 0 then (some (.inr M5)) else (Option.bind (rec 2 T M5 x0 x1) <| un2 fun _u M7 => Option.bind (fX12_codes T M7 x0 (3007 : Int32)) <| un2 fun _u M8 => some (.inl M8))
def PX12_readBoth_5 (X : Fx) (B : Bx) (Z : Nat × Nat × Nat × Nat) (Q : State → Prop) (T : Sh) (x0 : Nat) (x1 : Int32) (s : Me) : Prop := G X B 2 Z Q 5 [(0, .ref (x0)), (1, .int (x1))] [] T s
def EX12_readBoth_5 (X : Fx) (B : Bx) (Z : Nat × Nat × Nat × Nat) (Q : State → Prop) (T : Sh) (x0 : Nat) (x1 : Int32) (r : Me) : Prop := G X B 2 Z Q 29 [] [] T r
set_option maxHeartbeats 4000000 in
theorem tbX12_readBoth_5 {X : Fx} {B : Bx} {Z : Nat × Nat × Nat × Nat} {Q : State → Prop} {d : Nat} {T : Sh} (C : Cx X B cX12_readBoth 2 RX12 (d + 1) Z) (hd : 7 ≤ d) {rec : Nat → Sh → Me → Nat → Int32 → Option (Unit × Me)} (hrec : RKG12 X.2.1 B d rec) {x0 : Nat} {x1 : Int32} : ∀ (s : Me) (o : (Me) ⊕ (Me)), bX12_readBoth_5 rec T x0 x1 s = some o → lpE (PX12_readBoth_5 X B Z Q T x0 x1) (EX12_readBoth_5 X B Z Q T x0 x1) o → PX12_readBoth_5 X B Z Q T x0 x1 s := by
  rintro M o h hE
  replace h : bX12_readBoth_5 rec T x0 x1 M = some o := h
  unfold bX12_readBoth_5 at h
  show G X B 2 Z Q 5 [(0, .ref (x0)), (1, .int (x1))] [] T M
  refine g_aload_n (pc := 5) C dX12_readBoth_5 rfl 0 rfl ?_
  refine g_bipush (pc := 6) (v := 20) C dX12_readBoth_6 (by decide) ?_
  replace h := gd_some h; obtain ⟨hk3, h⟩ := h
  replace h := bnd2 h; obtain ⟨r4, M5, h1, h⟩ := h
  refine g_callVi (pc := 8) (As := [.int ((20 : Int32))]) (st := []) C dX12_readBoth_8 wX12_eats hk3 rfl (by decide) q_1393 q_55 q_1391 (by omega) rfl (Nat.le_of_ble_eq_true rfl) (kX12_eats (d := 6) (Nat.le_refl _) h1) ?_
  refine g_if_eq (pc := 11) (tgt := 29) C dX12_readBoth_11 (by decide) (fun c6 => ?_) (fun c6 => ?_)
  · replace h := ifp c6 h
    obtain rfl := Option.some.inj h
    exact g_sub [] rfl (show G X B 2 Z Q 29 [] [] T M5 from hE)
  · replace h := ifn c6 h
    refine g_aload_n (pc := 14) C dX12_readBoth_14 rfl 0 rfl ?_
    refine g_iload_n (pc := 15) C dX12_readBoth_15 rfl 1 rfl ?_
    replace h := bnd2 h; obtain ⟨_u, M7, h1, h⟩ := h
    refine g_callVv (pc := 16) (As := [.int (x1)]) (st := []) C dX12_readBoth_16 wX12_readUnit hk3 rfl (by decide) q_1469 q_74 q_1467 (by omega) rfl (Nat.le_of_ble_eq_true rfl) (hrec 2 _ _ _ _ _ h1) ?_
    refine g_aload_n (pc := 19) C dX12_readBoth_19 rfl 0 rfl ?_
    refine g_sipush (pc := 20) (v := 3007) C dX12_readBoth_20 (by decide) ?_
    replace h := bnd2 h; obtain ⟨_u, M8, h1, h⟩ := h
    refine g_callVv (pc := 23) (As := [.int ((3007 : Int32))]) (st := []) C dX12_readBoth_23 wX12_codes hk3 rfl (by decide) q_1445 q_68 q_1443 (by omega) rfl (Nat.le_of_ble_eq_true rfl) (kX12_codes (d := 0) (Nat.le_refl _) h1) ?_
    refine g_goto (pc := 26) (tgt := 5) C dX12_readBoth_26 (by decide) ?_
    obtain rfl := Option.some.inj h
    exact g_sub [0, 1] rfl (show G X B 2 Z Q 5 [(0, .ref (x0)), (1, .int (x1))] [] T M8 from hE)
/-- EyeTrainerModel.readBoth(I)V -/
def hX12_readBoth (rec : Nat → Sh → Me → Nat → Int32 → Option (Unit × Me)) (T : Sh) (M : Me) (x0 : Nat) (x1 : Int32) : Option (Unit × Me) :=
  gd (kd T x0 = 11) <| Option.bind (rec 2 T M x0 x1) <| un2 fun _u M2 => (lp FU (fun s => bX12_readBoth_5 rec T x0 x1 s) M2).bind (fun M9 => some ((), M9))
set_option maxHeartbeats 4000000 in
theorem khX12_readBoth {l : Launch} {B : Bx} {d : Nat} (hd : 7 ≤ d) {rec : Nat → Sh → Me → Nat → Int32 → Option (Unit × Me)} (hrec : RKG12 l B d rec) {T : Sh} {M : Me} {x0 : Nat} {x1 : Int32} {M' : Me} (h : hX12_readBoth rec T M x0 x1 = some ((), M')) : Kt l B yX12_readBoth cX12_readBoth 2 none (d + 1) [.ref (x0), .int (x1)] T M none T M' := by
  refine kt_of wX12_readBoth (Nat.le_refl _) (Nat.le_refl _) (Nat.le_of_ble_eq_true rfl) (fun X C hR hlx hin => ?_)
  subst hlx
  replace C : Cx X B cX12_readBoth 2 RX12 (d + 1) (tp T, sl T, tp T, sl T) := C
  unfold hX12_readBoth at h
  show G X B 2 _ _ 0 [(0, .ref (x0)), (1, .int (x1))] [] T M
  refine g_aload_n (pc := 0) C dX12_readBoth_0 rfl 0 rfl ?_
  refine g_iload_n (pc := 1) C dX12_readBoth_1 rfl 1 rfl ?_
  replace h := gd_some h; obtain ⟨hk1, h⟩ := h
  replace h := bnd2 h; obtain ⟨_u, M2, h1, h⟩ := h
  refine g_callVv (pc := 2) (As := [.int (x1)]) (st := []) C dX12_readBoth_2 wX12_readUnit hk1 rfl (by decide) q_1469 q_74 q_1467 (by omega) rfl (Nat.le_of_ble_eq_true rfl) (hrec 2 _ _ _ _ _ h1) ?_
  replace h := bnd h; obtain ⟨M9, h1, h⟩ := h
  refine g_sub [0, 1] rfl ?_
  refine lp_G2 (P := PX12_readBoth_5 X B _ _ T x0 x1) (E := EX12_readBoth_5 X B _ _ T x0 x1) (tbX12_readBoth_5 C hd hrec) h1 ?_
  show G X B 2 _ _ 29 [] [] T M9
  obtain ⟨-, rfl⟩ := Prod.mk.inj (Option.some.inj h)
  exact g_vret C hR dX12_readBoth_29
def jX12_readUnit_111 (rec : Nat → Sh → Me → Nat → Int32 → Option (Unit × Me)) (T : Sh) (M : Me) (x0 : Nat) (x1 : Int32) (s0 : Int32) : Option (Unit × Me) :=
  gd (kd T x0 = 11) <| Option.bind (fX12_is T M x0 (39 : Int32)) fun r12 => if r12 = 0 then (Option.bind (fX12_is T M x0 (40 : Int32)) fun r17 => if r17 = 0 then (Option.bind (fX12_is T M x0 (41 : Int32)) fun r22 => if r22 = 0 then (Option.bind (fX12_fails T M x0 (2 : Int32)) <| un2 fun _u M24 => Option.bind (rec 3 T M24 x0 x1) <| un2 fun _u M25 => Option.bind (fX12_codes T M25 x0 s0) <| un2 fun _u M26 => some ((), M26)) else (Option.bind (fX12_next T M x0) <| un2 fun _u M27 => Option.bind (rec 3 T M27 x0 x1) <| un2 fun _u M28 => Option.bind (fX12_codes T M28 x0 s0) <| un2 fun _u M29 => some ((), M29))) else (Option.bind (fX12_next T M x0) <| un2 fun _u M19 => Option.bind (rec 3 T M19 x0 x1) <| un2 fun _u M20 => Option.bind (fX12_codes T M20 x0 s0) <| un2 fun _u M21 => some ((), M21))) else (Option.bind (fX12_next T M x0) <| un2 fun _u M14 => Option.bind (rec 3 T M14 x0 x1) <| un2 fun _u M15 => Option.bind (fX12_codes T M15 x0 s0) <| un2 fun _u M16 => some ((), M16))
set_option maxHeartbeats 4000000 in
theorem tjX12_readUnit_111 {X : Fx} {B : Bx} {Z : Nat × Nat × Nat × Nat} {d : Nat} {T : Sh} {M : Me} {x0 : Nat} {x1 : Int32} {s0 : Int32} {M' : Me} (C : Cx X B cX12_readUnit 3 RX12 (d + 1) Z) (hR : Rx X none) (hd : 7 ≤ d) {rec : Nat → Sh → Me → Nat → Int32 → Option (Unit × Me)} (hrec : RKG12 X.2.1 B d rec) (h : jX12_readUnit_111 rec T M x0 x1 s0 = some ((), M')) : G X B 3 Z (Qf X B Z none T M') 111 [(0, .ref (x0)), (1, .int (x1))] [.int (s0)] T M := by
  unfold jX12_readUnit_111 at h
  refine g_istore_n (pc := 111) (lo2 := [(2, .int (s0)), (0, .ref (x0)), (1, .int (x1))]) C dX12_readUnit_111 rfl (by decide) rfl ?_
  refine g_aload_n (pc := 112) C dX12_readUnit_112 rfl 1 rfl ?_
  refine g_bipush (pc := 113) (v := 39) C dX12_readUnit_113 (by decide) ?_
  replace h := gd_some h; obtain ⟨hk11, h⟩ := h
  replace h := bnd h; obtain ⟨r12, h1, h⟩ := h
  refine g_callVi (pc := 115) (As := [.int ((39 : Int32))]) (st := []) C dX12_readUnit_115 wX12_is hk11 rfl (by decide) q_1397 q_56 q_1395 (by omega) rfl (Nat.le_of_ble_eq_true rfl) (kX12_is (d := 0) (Nat.le_refl _) h1) ?_
  refine g_if_ne (pc := 118) (tgt := 139) C dX12_readUnit_118 (by decide) (fun c13 => ?_) (fun c13 => ?_)
  · replace h := ifn c13 h
    refine g_aload_n (pc := 139) C dX12_readUnit_139 rfl 1 rfl ?_
    replace h := bnd2 h; obtain ⟨_u, M14, h1, h⟩ := h
    refine g_callVv (pc := 140) (As := []) (st := []) C dX12_readUnit_140 wX12_next hk11 rfl (by decide) q_1371 q_52 q_1369 (by omega) rfl (Nat.le_of_ble_eq_true rfl) (kX12_next (d := 5) (Nat.le_refl _) h1) ?_
    refine g_goto (pc := 143) (tgt := 151) C dX12_readUnit_143 (by decide) ?_
    refine g_aload_n (pc := 151) C dX12_readUnit_151 rfl 1 rfl ?_
    refine g_iload_n (pc := 152) C dX12_readUnit_152 rfl 2 rfl ?_
    replace h := bnd2 h; obtain ⟨_u, M15, h1, h⟩ := h
    refine g_callVv (pc := 153) (As := [.int (x1)]) (st := []) C dX12_readUnit_153 wX12_readSum hk11 rfl (by decide) q_1433 q_65 q_1431 (by omega) rfl (Nat.le_of_ble_eq_true rfl) (hrec 3 _ _ _ _ _ h1) ?_
    refine g_aload_n (pc := 156) C dX12_readUnit_156 rfl 1 rfl ?_
    refine g_iload_n (pc := 157) C dX12_readUnit_157 rfl 0 rfl ?_
    replace h := bnd2 h; obtain ⟨_u, M16, h1, h⟩ := h
    refine g_callVv (pc := 158) (As := [.int (s0)]) (st := []) C dX12_readUnit_158 wX12_codes hk11 rfl (by decide) q_1445 q_68 q_1443 (by omega) rfl (Nat.le_of_ble_eq_true rfl) (kX12_codes (d := 0) (Nat.le_refl _) h1) ?_
    obtain ⟨-, rfl⟩ := Prod.mk.inj (Option.some.inj h)
    exact g_vret C hR dX12_readUnit_161
  · replace h := ifp c13 h
    refine g_aload_n (pc := 121) C dX12_readUnit_121 rfl 1 rfl ?_
    refine g_bipush (pc := 122) (v := 40) C dX12_readUnit_122 (by decide) ?_
    replace h := bnd h; obtain ⟨r17, h1, h⟩ := h
    refine g_callVi (pc := 124) (As := [.int ((40 : Int32))]) (st := []) C dX12_readUnit_124 wX12_is hk11 rfl (by decide) q_1397 q_56 q_1395 (by omega) rfl (Nat.le_of_ble_eq_true rfl) (kX12_is (d := 0) (Nat.le_refl _) h1) ?_
    refine g_if_ne (pc := 127) (tgt := 139) C dX12_readUnit_127 (by decide) (fun c18 => ?_) (fun c18 => ?_)
    · replace h := ifn c18 h
      refine g_aload_n (pc := 139) C dX12_readUnit_139 rfl 1 rfl ?_
      replace h := bnd2 h; obtain ⟨_u, M19, h1, h⟩ := h
      refine g_callVv (pc := 140) (As := []) (st := []) C dX12_readUnit_140 wX12_next hk11 rfl (by decide) q_1371 q_52 q_1369 (by omega) rfl (Nat.le_of_ble_eq_true rfl) (kX12_next (d := 5) (Nat.le_refl _) h1) ?_
      refine g_goto (pc := 143) (tgt := 151) C dX12_readUnit_143 (by decide) ?_
      refine g_aload_n (pc := 151) C dX12_readUnit_151 rfl 1 rfl ?_
      refine g_iload_n (pc := 152) C dX12_readUnit_152 rfl 2 rfl ?_
      replace h := bnd2 h; obtain ⟨_u, M20, h1, h⟩ := h
      refine g_callVv (pc := 153) (As := [.int (x1)]) (st := []) C dX12_readUnit_153 wX12_readSum hk11 rfl (by decide) q_1433 q_65 q_1431 (by omega) rfl (Nat.le_of_ble_eq_true rfl) (hrec 3 _ _ _ _ _ h1) ?_
      refine g_aload_n (pc := 156) C dX12_readUnit_156 rfl 1 rfl ?_
      refine g_iload_n (pc := 157) C dX12_readUnit_157 rfl 0 rfl ?_
      replace h := bnd2 h; obtain ⟨_u, M21, h1, h⟩ := h
      refine g_callVv (pc := 158) (As := [.int (s0)]) (st := []) C dX12_readUnit_158 wX12_codes hk11 rfl (by decide) q_1445 q_68 q_1443 (by omega) rfl (Nat.le_of_ble_eq_true rfl) (kX12_codes (d := 0) (Nat.le_refl _) h1) ?_
      obtain ⟨-, rfl⟩ := Prod.mk.inj (Option.some.inj h)
      exact g_vret C hR dX12_readUnit_161
    · replace h := ifp c18 h
      refine g_aload_n (pc := 130) C dX12_readUnit_130 rfl 1 rfl ?_
      refine g_bipush (pc := 131) (v := 41) C dX12_readUnit_131 (by decide) ?_
      replace h := bnd h; obtain ⟨r22, h1, h⟩ := h
      refine g_callVi (pc := 133) (As := [.int ((41 : Int32))]) (st := []) C dX12_readUnit_133 wX12_is hk11 rfl (by decide) q_1397 q_56 q_1395 (by omega) rfl (Nat.le_of_ble_eq_true rfl) (kX12_is (d := 0) (Nat.le_refl _) h1) ?_
      refine g_if_eq (pc := 136) (tgt := 146) C dX12_readUnit_136 (by decide) (fun c23 => ?_) (fun c23 => ?_)
      · replace h := ifp c23 h
        refine g_aload_n (pc := 146) C dX12_readUnit_146 rfl 1 rfl ?_
        refine g_iconst (pc := 147) (v := 2) C dX12_readUnit_147 (by decide) ?_
        replace h := bnd2 h; obtain ⟨_u, M24, h1, h⟩ := h
        refine g_callVv (pc := 148) (As := [.int ((2 : Int32))]) (st := []) C dX12_readUnit_148 wX12_fails hk11 rfl (by decide) q_1401 q_57 q_1399 (by omega) rfl (Nat.le_of_ble_eq_true rfl) (kX12_fails (d := 0) (Nat.le_refl _) h1) ?_
        refine g_aload_n (pc := 151) C dX12_readUnit_151 rfl 1 rfl ?_
        refine g_iload_n (pc := 152) C dX12_readUnit_152 rfl 2 rfl ?_
        replace h := bnd2 h; obtain ⟨_u, M25, h1, h⟩ := h
        refine g_callVv (pc := 153) (As := [.int (x1)]) (st := []) C dX12_readUnit_153 wX12_readSum hk11 rfl (by decide) q_1433 q_65 q_1431 (by omega) rfl (Nat.le_of_ble_eq_true rfl) (hrec 3 _ _ _ _ _ h1) ?_
        refine g_aload_n (pc := 156) C dX12_readUnit_156 rfl 1 rfl ?_
        refine g_iload_n (pc := 157) C dX12_readUnit_157 rfl 0 rfl ?_
        replace h := bnd2 h; obtain ⟨_u, M26, h1, h⟩ := h
        refine g_callVv (pc := 158) (As := [.int (s0)]) (st := []) C dX12_readUnit_158 wX12_codes hk11 rfl (by decide) q_1445 q_68 q_1443 (by omega) rfl (Nat.le_of_ble_eq_true rfl) (kX12_codes (d := 0) (Nat.le_refl _) h1) ?_
        obtain ⟨-, rfl⟩ := Prod.mk.inj (Option.some.inj h)
        exact g_vret C hR dX12_readUnit_161
      · replace h := ifn c23 h
        refine g_aload_n (pc := 139) C dX12_readUnit_139 rfl 1 rfl ?_
        replace h := bnd2 h; obtain ⟨_u, M27, h1, h⟩ := h
        refine g_callVv (pc := 140) (As := []) (st := []) C dX12_readUnit_140 wX12_next hk11 rfl (by decide) q_1371 q_52 q_1369 (by omega) rfl (Nat.le_of_ble_eq_true rfl) (kX12_next (d := 5) (Nat.le_refl _) h1) ?_
        refine g_goto (pc := 143) (tgt := 151) C dX12_readUnit_143 (by decide) ?_
        refine g_aload_n (pc := 151) C dX12_readUnit_151 rfl 1 rfl ?_
        refine g_iload_n (pc := 152) C dX12_readUnit_152 rfl 2 rfl ?_
        replace h := bnd2 h; obtain ⟨_u, M28, h1, h⟩ := h
        refine g_callVv (pc := 153) (As := [.int (x1)]) (st := []) C dX12_readUnit_153 wX12_readSum hk11 rfl (by decide) q_1433 q_65 q_1431 (by omega) rfl (Nat.le_of_ble_eq_true rfl) (hrec 3 _ _ _ _ _ h1) ?_
        refine g_aload_n (pc := 156) C dX12_readUnit_156 rfl 1 rfl ?_
        refine g_iload_n (pc := 157) C dX12_readUnit_157 rfl 0 rfl ?_
        replace h := bnd2 h; obtain ⟨_u, M29, h1, h⟩ := h
        refine g_callVv (pc := 158) (As := [.int (s0)]) (st := []) C dX12_readUnit_158 wX12_codes hk11 rfl (by decide) q_1445 q_68 q_1443 (by omega) rfl (Nat.le_of_ble_eq_true rfl) (kX12_codes (d := 0) (Nat.le_refl _) h1) ?_
        obtain ⟨-, rfl⟩ := Prod.mk.inj (Option.some.inj h)
        exact g_vret C hR dX12_readUnit_161
/-- EyeTrainerModel.readUnit(I)V -/
def hX12_readUnit (rec : Nat → Sh → Me → Nat → Int32 → Option (Unit × Me)) (T : Sh) (M : Me) (x0 : Nat) (x1 : Int32) : Option (Unit × Me) :=
  gd (kd T x0 = 11) <| Option.bind (fX12_is T M x0 (22 : Int32)) fun r2 => if r2 = 0 then (Option.bind (fX12_is T M x0 (37 : Int32)) fun r4 => if r4 = 0 then (Option.bind (rec 3 T M x0 x1) <| un2 fun _u M6 => Option.bind (fX12_is T M6 x0 (39 : Int32)) fun r7 => if r7 = 0 then (Option.bind (fX12_is T M6 x0 (40 : Int32)) fun r9 => if r9 = 0 then (jX12_readUnit_111 rec T M6 x0 x1 (3005 : Int32)) else (jX12_readUnit_111 rec T M6 x0 x1 (3004 : Int32))) else (jX12_readUnit_111 rec T M6 x0 x1 (3003 : Int32))) else (Option.bind (fX12_goesIn T M x0 x1) <| un2 fun r30 M31 => if r30 = 0 then (some ((), M31)) else (Option.bind (rec 0 T M31 x0 (x1 + (1 : Int32))) <| un2 fun _u M33 => Option.bind (fX12_eats T M33 x0 (38 : Int32)) <| un2 fun r34 M35 => if r34 = 0 then (Option.bind (fX12_fails T M35 x0 (2 : Int32)) <| un2 fun _u M37 => some ((), M37)) else (some ((), M35))))) else (Option.bind (fX12_goesIn T M x0 x1) <| un2 fun r38 M39 => if r38 = 0 then (some ((), M39)) else (Option.bind (rec 2 T M39 x0 (x1 + (1 : Int32))) <| un2 fun _u M41 => Option.bind (fX12_codes T M41 x0 (3006 : Int32)) <| un2 fun _u M42 => some ((), M42)))
set_option maxHeartbeats 4000000 in
theorem khX12_readUnit {l : Launch} {B : Bx} {d : Nat} (hd : 7 ≤ d) {rec : Nat → Sh → Me → Nat → Int32 → Option (Unit × Me)} (hrec : RKG12 l B d rec) {T : Sh} {M : Me} {x0 : Nat} {x1 : Int32} {M' : Me} (h : hX12_readUnit rec T M x0 x1 = some ((), M')) : Kt l B yX12_readUnit cX12_readUnit 3 none (d + 1) [.ref (x0), .int (x1)] T M none T M' := by
  refine kt_of wX12_readUnit (Nat.le_refl _) (Nat.le_refl _) (Nat.le_of_ble_eq_true rfl) (fun X C hR hlx hin => ?_)
  subst hlx
  replace C : Cx X B cX12_readUnit 3 RX12 (d + 1) (tp T, sl T, tp T, sl T) := C
  unfold hX12_readUnit at h
  show G X B 3 _ _ 0 [(0, .ref (x0)), (1, .int (x1))] [] T M
  refine g_aload_n (pc := 0) C dX12_readUnit_0 rfl 0 rfl ?_
  refine g_bipush (pc := 1) (v := 22) C dX12_readUnit_1 (by decide) ?_
  replace h := gd_some h; obtain ⟨hk1, h⟩ := h
  replace h := bnd h; obtain ⟨r2, h1, h⟩ := h
  refine g_callVi (pc := 3) (As := [.int ((22 : Int32))]) (st := []) C dX12_readUnit_3 wX12_is hk1 rfl (by decide) q_1397 q_56 q_1395 (by omega) rfl (Nat.le_of_ble_eq_true rfl) (kX12_is (d := 0) (Nat.le_refl _) h1) ?_
  refine g_if_eq (pc := 6) (tgt := 33) C dX12_readUnit_6 (by decide) (fun c3 => ?_) (fun c3 => ?_)
  · replace h := ifp c3 h
    refine g_aload_n (pc := 33) C dX12_readUnit_33 rfl 0 rfl ?_
    refine g_bipush (pc := 34) (v := 37) C dX12_readUnit_34 (by decide) ?_
    replace h := bnd h; obtain ⟨r4, h1, h⟩ := h
    refine g_callVi (pc := 36) (As := [.int ((37 : Int32))]) (st := []) C dX12_readUnit_36 wX12_is hk1 rfl (by decide) q_1397 q_56 q_1395 (by omega) rfl (Nat.le_of_ble_eq_true rfl) (kX12_is (d := 0) (Nat.le_refl _) h1) ?_
    refine g_if_eq (pc := 39) (tgt := 73) C dX12_readUnit_39 (by decide) (fun c5 => ?_) (fun c5 => ?_)
    · replace h := ifp c5 h
      refine g_aload_n (pc := 73) C dX12_readUnit_73 rfl 0 rfl ?_
      refine g_iload_n (pc := 74) C dX12_readUnit_74 rfl 1 rfl ?_
      replace h := bnd2 h; obtain ⟨_u, M6, h1, h⟩ := h
      refine g_callVv (pc := 75) (As := [.int (x1)]) (st := []) C dX12_readUnit_75 wX12_readSum hk1 rfl (by decide) q_1433 q_65 q_1431 (by omega) rfl (Nat.le_of_ble_eq_true rfl) (hrec 3 _ _ _ _ _ h1) ?_
      refine g_aload_n (pc := 78) C dX12_readUnit_78 rfl 0 rfl ?_
      refine g_bipush (pc := 79) (v := 39) C dX12_readUnit_79 (by decide) ?_
      replace h := bnd h; obtain ⟨r7, h1, h⟩ := h
      refine g_callVi (pc := 81) (As := [.int ((39 : Int32))]) (st := []) C dX12_readUnit_81 wX12_is hk1 rfl (by decide) q_1397 q_56 q_1395 (by omega) rfl (Nat.le_of_ble_eq_true rfl) (kX12_is (d := 0) (Nat.le_refl _) h1) ?_
      refine g_if_eq (pc := 84) (tgt := 93) C dX12_readUnit_84 (by decide) (fun c8 => ?_) (fun c8 => ?_)
      · replace h := ifp c8 h
        refine g_aload_n (pc := 93) C dX12_readUnit_93 rfl 0 rfl ?_
        refine g_bipush (pc := 94) (v := 40) C dX12_readUnit_94 (by decide) ?_
        replace h := bnd h; obtain ⟨r9, h1, h⟩ := h
        refine g_callVi (pc := 96) (As := [.int ((40 : Int32))]) (st := []) C dX12_readUnit_96 wX12_is hk1 rfl (by decide) q_1397 q_56 q_1395 (by omega) rfl (Nat.le_of_ble_eq_true rfl) (kX12_is (d := 0) (Nat.le_refl _) h1) ?_
        refine g_if_eq (pc := 99) (tgt := 108) C dX12_readUnit_99 (by decide) (fun c10 => ?_) (fun c10 => ?_)
        · replace h := ifp c10 h
          refine g_sipush (pc := 108) (v := 3005) C dX12_readUnit_108 (by decide) ?_
          exact g_sub [0, 1] rfl (tjX12_readUnit_111 C hR hd hrec h)
        · replace h := ifn c10 h
          refine g_sipush (pc := 102) (v := 3004) C dX12_readUnit_102 (by decide) ?_
          refine g_goto (pc := 105) (tgt := 111) C dX12_readUnit_105 (by decide) ?_
          exact g_sub [0, 1] rfl (tjX12_readUnit_111 C hR hd hrec h)
      · replace h := ifn c8 h
        refine g_sipush (pc := 87) (v := 3003) C dX12_readUnit_87 (by decide) ?_
        refine g_goto (pc := 90) (tgt := 111) C dX12_readUnit_90 (by decide) ?_
        exact g_sub [0, 1] rfl (tjX12_readUnit_111 C hR hd hrec h)
    · replace h := ifn c5 h
      refine g_aload_n (pc := 42) C dX12_readUnit_42 rfl 0 rfl ?_
      refine g_iload_n (pc := 43) C dX12_readUnit_43 rfl 1 rfl ?_
      replace h := bnd2 h; obtain ⟨r30, M31, h1, h⟩ := h
      refine g_callVi (pc := 44) (As := [.int (x1)]) (st := []) C dX12_readUnit_44 wX12_goesIn hk1 rfl (by decide) q_1453 q_70 q_1451 (by omega) rfl (Nat.le_of_ble_eq_true rfl) (kX12_goesIn (d := 6) (Nat.le_refl _) h1) ?_
      refine g_if_ne (pc := 47) (tgt := 51) C dX12_readUnit_47 (by decide) (fun c32 => ?_) (fun c32 => ?_)
      · replace h := ifn c32 h
        refine g_aload_n (pc := 51) C dX12_readUnit_51 rfl 0 rfl ?_
        refine g_iload_n (pc := 52) C dX12_readUnit_52 rfl 1 rfl ?_
        refine g_iconst (pc := 53) (v := 1) C dX12_readUnit_53 (by decide) ?_
        refine g_iadd (pc := 54) C dX12_readUnit_54 ?_
        replace h := bnd2 h; obtain ⟨_u, M33, h1, h⟩ := h
        refine g_callVv (pc := 55) (As := [.int (x1 + (1 : Int32))]) (st := []) C dX12_readUnit_55 wX12_readTruth hk1 rfl (by decide) q_1461 q_72 q_1459 (by omega) rfl (Nat.le_of_ble_eq_true rfl) (hrec 0 _ _ _ _ _ h1) ?_
        refine g_aload_n (pc := 58) C dX12_readUnit_58 rfl 0 rfl ?_
        refine g_bipush (pc := 59) (v := 38) C dX12_readUnit_59 (by decide) ?_
        replace h := bnd2 h; obtain ⟨r34, M35, h1, h⟩ := h
        refine g_callVi (pc := 61) (As := [.int ((38 : Int32))]) (st := []) C dX12_readUnit_61 wX12_eats hk1 rfl (by decide) q_1393 q_55 q_1391 (by omega) rfl (Nat.le_of_ble_eq_true rfl) (kX12_eats (d := 6) (Nat.le_refl _) h1) ?_
        refine g_if_ne (pc := 64) (tgt := 72) C dX12_readUnit_64 (by decide) (fun c36 => ?_) (fun c36 => ?_)
        · replace h := ifn c36 h
          obtain ⟨-, rfl⟩ := Prod.mk.inj (Option.some.inj h)
          exact g_vret C hR dX12_readUnit_72
        · replace h := ifp c36 h
          refine g_aload_n (pc := 67) C dX12_readUnit_67 rfl 0 rfl ?_
          refine g_iconst (pc := 68) (v := 2) C dX12_readUnit_68 (by decide) ?_
          replace h := bnd2 h; obtain ⟨_u, M37, h1, h⟩ := h
          refine g_callVv (pc := 69) (As := [.int ((2 : Int32))]) (st := []) C dX12_readUnit_69 wX12_fails hk1 rfl (by decide) q_1401 q_57 q_1399 (by omega) rfl (Nat.le_of_ble_eq_true rfl) (kX12_fails (d := 0) (Nat.le_refl _) h1) ?_
          obtain ⟨-, rfl⟩ := Prod.mk.inj (Option.some.inj h)
          exact g_vret C hR dX12_readUnit_72
      · replace h := ifp c32 h
        obtain ⟨-, rfl⟩ := Prod.mk.inj (Option.some.inj h)
        exact g_vret C hR dX12_readUnit_50
  · replace h := ifn c3 h
    refine g_aload_n (pc := 9) C dX12_readUnit_9 rfl 0 rfl ?_
    refine g_iload_n (pc := 10) C dX12_readUnit_10 rfl 1 rfl ?_
    replace h := bnd2 h; obtain ⟨r38, M39, h1, h⟩ := h
    refine g_callVi (pc := 11) (As := [.int (x1)]) (st := []) C dX12_readUnit_11 wX12_goesIn hk1 rfl (by decide) q_1453 q_70 q_1451 (by omega) rfl (Nat.le_of_ble_eq_true rfl) (kX12_goesIn (d := 6) (Nat.le_refl _) h1) ?_
    refine g_if_ne (pc := 14) (tgt := 18) C dX12_readUnit_14 (by decide) (fun c40 => ?_) (fun c40 => ?_)
    · replace h := ifn c40 h
      refine g_aload_n (pc := 18) C dX12_readUnit_18 rfl 0 rfl ?_
      refine g_iload_n (pc := 19) C dX12_readUnit_19 rfl 1 rfl ?_
      refine g_iconst (pc := 20) (v := 1) C dX12_readUnit_20 (by decide) ?_
      refine g_iadd (pc := 21) C dX12_readUnit_21 ?_
      replace h := bnd2 h; obtain ⟨_u, M41, h1, h⟩ := h
      refine g_callVv (pc := 22) (As := [.int (x1 + (1 : Int32))]) (st := []) C dX12_readUnit_22 wX12_readUnit hk1 rfl (by decide) q_1469 q_74 q_1467 (by omega) rfl (Nat.le_of_ble_eq_true rfl) (hrec 2 _ _ _ _ _ h1) ?_
      refine g_aload_n (pc := 25) C dX12_readUnit_25 rfl 0 rfl ?_
      refine g_sipush (pc := 26) (v := 3006) C dX12_readUnit_26 (by decide) ?_
      replace h := bnd2 h; obtain ⟨_u, M42, h1, h⟩ := h
      refine g_callVv (pc := 29) (As := [.int ((3006 : Int32))]) (st := []) C dX12_readUnit_29 wX12_codes hk1 rfl (by decide) q_1445 q_68 q_1443 (by omega) rfl (Nat.le_of_ble_eq_true rfl) (kX12_codes (d := 0) (Nat.le_refl _) h1) ?_
      obtain ⟨-, rfl⟩ := Prod.mk.inj (Option.some.inj h)
      exact g_vret C hR dX12_readUnit_32
    · replace h := ifp c40 h
      obtain ⟨-, rfl⟩ := Prod.mk.inj (Option.some.inj h)
      exact g_vret C hR dX12_readUnit_17
-- a loop of EyeTrainerModel.readSum at 5
def jX12_readSum_23 (rec : Nat → Sh → Me → Nat → Int32 → Option (Unit × Me)) (T : Sh) (M : Me) (x0 : Nat) (x1 : Int32) : Option ((Me) ⊕ (Me)) :=
  gd (kd T x0 = 11) <| if (gI M x0 9) = (32 : Int32) then (Option.bind (fX12_next T M x0) <| un2 fun _u M11 => Option.bind (rec 4 T M11 x0 x1) <| un2 fun _u M12 => Option.bind (fX12_codes T M12 x0 (3000 : Int32)) <| un2 fun _u M13 => some (.inl M13)) else (Option.bind (fX12_next T M x0) <| un2 fun _u M8 => Option.bind (rec 4 T M8 x0 x1) <| un2 fun _u M9 => Option.bind (fX12_codes T M9 x0 (3001 : Int32)) <| un2 fun _u M10 => some (.inl M10))
def bX12_readSum_5 (rec : Nat → Sh → Me → Nat → Int32 → Option (Unit × Me)) (T : Sh) (x0 : Nat) (x1 : Int32) (M : Me) : Option ((Me) ⊕ (Me)) :=
  gd (kd T x0 = 11) <| Option.bind (fX12_is T M x0 (32 : Int32)) fun r4 => if r4 = 0 then (Option.bind (fX12_is T M x0 (33 : Int32)) fun r14 => if r14 = 0 then (some (.inr M)) else (jX12_readSum_23 rec T M x0 x1)) else (jX12_readSum_23 rec T M x0 x1)
def PX12_readSum_5 (X : Fx) (B : Bx) (Z : Nat × Nat × Nat × Nat) (Q : State → Prop) (T : Sh) (x0 : Nat) (x1 : Int32) (s : Me) : Prop := G X B 3 Z Q 5 [(0, .ref (x0)), (1, .int (x1))] [] T s
def EX12_readSum_5 (X : Fx) (B : Bx) (Z : Nat × Nat × Nat × Nat) (Q : State → Prop) (T : Sh) (x0 : Nat) (x1 : Int32) (r : Me) : Prop := G X B 3 Z Q 59 [] [] T r
set_option maxHeartbeats 4000000 in
theorem tjX12_readSum_23 {X : Fx} {B : Bx} {Z : Nat × Nat × Nat × Nat} {Q : State → Prop} {d : Nat} {T : Sh} {M : Me} {x0 : Nat} {x1 : Int32} {o : (Me) ⊕ (Me)} (C : Cx X B cX12_readSum 3 RX12 (d + 1) Z) (hd : 7 ≤ d) {rec : Nat → Sh → Me → Nat → Int32 → Option (Unit × Me)} (hrec : RKG12 X.2.1 B d rec) (h : jX12_readSum_23 rec T M x0 x1 = some o) (hE : lpE (PX12_readSum_5 X B Z Q T x0 x1) (EX12_readSum_5 X B Z Q T x0 x1) o) : G X B 3 Z Q 23 [(0, .ref (x0)), (1, .int (x1))] [] T M := by
  unfold jX12_readSum_23 at h
  refine g_aload_n (pc := 23) C dX12_readSum_23 rfl 0 rfl ?_
  replace h := gd_some h; obtain ⟨hk6, h⟩ := h
  refine g_get (pc := 24) (v := .int (gI M x0 9)) C dX12_readSum_24 kX12 hk6 9 (by decide) q_1236 rfl ?_
  refine g_bipush (pc := 27) (v := 32) C dX12_readSum_27 (by decide) ?_
  refine g_icmp_ne (pc := 29) (tgt := 38) C dX12_readSum_29 (by decide) (fun c7 => ?_) (fun c7 => ?_)
  · replace h := ifn c7 h
    refine g_sipush (pc := 38) (v := 3001) C dX12_readSum_38 (by decide) ?_
    refine g_istore_n (pc := 41) (lo2 := [(2, .int ((3001 : Int32))), (0, .ref (x0)), (1, .int (x1))]) C dX12_readSum_41 rfl (by decide) rfl ?_
    refine g_aload_n (pc := 42) C dX12_readSum_42 rfl 1 rfl ?_
    replace h := bnd2 h; obtain ⟨_u, M8, h1, h⟩ := h
    refine g_callVv (pc := 43) (As := []) (st := []) C dX12_readSum_43 wX12_next hk6 rfl (by decide) q_1371 q_52 q_1369 (by omega) rfl (Nat.le_of_ble_eq_true rfl) (kX12_next (d := 5) (Nat.le_refl _) h1) ?_
    refine g_aload_n (pc := 46) C dX12_readSum_46 rfl 1 rfl ?_
    refine g_iload_n (pc := 47) C dX12_readSum_47 rfl 2 rfl ?_
    replace h := bnd2 h; obtain ⟨_u, M9, h1, h⟩ := h
    refine g_callVv (pc := 48) (As := [.int (x1)]) (st := []) C dX12_readSum_48 wX12_readTerm hk6 rfl (by decide) q_1437 q_66 q_1435 (by omega) rfl (Nat.le_of_ble_eq_true rfl) (hrec 4 _ _ _ _ _ h1) ?_
    refine g_aload_n (pc := 51) C dX12_readSum_51 rfl 1 rfl ?_
    refine g_iload_n (pc := 52) C dX12_readSum_52 rfl 0 rfl ?_
    replace h := bnd2 h; obtain ⟨_u, M10, h1, h⟩ := h
    refine g_callVv (pc := 53) (As := [.int ((3001 : Int32))]) (st := []) C dX12_readSum_53 wX12_codes hk6 rfl (by decide) q_1445 q_68 q_1443 (by omega) rfl (Nat.le_of_ble_eq_true rfl) (kX12_codes (d := 0) (Nat.le_refl _) h1) ?_
    refine g_goto (pc := 56) (tgt := 5) C dX12_readSum_56 (by decide) ?_
    obtain rfl := Option.some.inj h
    exact g_sub [1, 2] rfl (show G X B 3 Z Q 5 [(0, .ref (x0)), (1, .int (x1))] [] T M10 from hE)
  · replace h := ifp c7 h
    refine g_sipush (pc := 32) (v := 3000) C dX12_readSum_32 (by decide) ?_
    refine g_goto (pc := 35) (tgt := 41) C dX12_readSum_35 (by decide) ?_
    refine g_istore_n (pc := 41) (lo2 := [(2, .int ((3000 : Int32))), (0, .ref (x0)), (1, .int (x1))]) C dX12_readSum_41 rfl (by decide) rfl ?_
    refine g_aload_n (pc := 42) C dX12_readSum_42 rfl 1 rfl ?_
    replace h := bnd2 h; obtain ⟨_u, M11, h1, h⟩ := h
    refine g_callVv (pc := 43) (As := []) (st := []) C dX12_readSum_43 wX12_next hk6 rfl (by decide) q_1371 q_52 q_1369 (by omega) rfl (Nat.le_of_ble_eq_true rfl) (kX12_next (d := 5) (Nat.le_refl _) h1) ?_
    refine g_aload_n (pc := 46) C dX12_readSum_46 rfl 1 rfl ?_
    refine g_iload_n (pc := 47) C dX12_readSum_47 rfl 2 rfl ?_
    replace h := bnd2 h; obtain ⟨_u, M12, h1, h⟩ := h
    refine g_callVv (pc := 48) (As := [.int (x1)]) (st := []) C dX12_readSum_48 wX12_readTerm hk6 rfl (by decide) q_1437 q_66 q_1435 (by omega) rfl (Nat.le_of_ble_eq_true rfl) (hrec 4 _ _ _ _ _ h1) ?_
    refine g_aload_n (pc := 51) C dX12_readSum_51 rfl 1 rfl ?_
    refine g_iload_n (pc := 52) C dX12_readSum_52 rfl 0 rfl ?_
    replace h := bnd2 h; obtain ⟨_u, M13, h1, h⟩ := h
    refine g_callVv (pc := 53) (As := [.int ((3000 : Int32))]) (st := []) C dX12_readSum_53 wX12_codes hk6 rfl (by decide) q_1445 q_68 q_1443 (by omega) rfl (Nat.le_of_ble_eq_true rfl) (kX12_codes (d := 0) (Nat.le_refl _) h1) ?_
    refine g_goto (pc := 56) (tgt := 5) C dX12_readSum_56 (by decide) ?_
    obtain rfl := Option.some.inj h
    exact g_sub [1, 2] rfl (show G X B 3 Z Q 5 [(0, .ref (x0)), (1, .int (x1))] [] T M13 from hE)
set_option maxHeartbeats 4000000 in
theorem tbX12_readSum_5 {X : Fx} {B : Bx} {Z : Nat × Nat × Nat × Nat} {Q : State → Prop} {d : Nat} {T : Sh} (C : Cx X B cX12_readSum 3 RX12 (d + 1) Z) (hd : 7 ≤ d) {rec : Nat → Sh → Me → Nat → Int32 → Option (Unit × Me)} (hrec : RKG12 X.2.1 B d rec) {x0 : Nat} {x1 : Int32} : ∀ (s : Me) (o : (Me) ⊕ (Me)), bX12_readSum_5 rec T x0 x1 s = some o → lpE (PX12_readSum_5 X B Z Q T x0 x1) (EX12_readSum_5 X B Z Q T x0 x1) o → PX12_readSum_5 X B Z Q T x0 x1 s := by
  rintro M o h hE
  replace h : bX12_readSum_5 rec T x0 x1 M = some o := h
  unfold bX12_readSum_5 at h
  show G X B 3 Z Q 5 [(0, .ref (x0)), (1, .int (x1))] [] T M
  refine g_aload_n (pc := 5) C dX12_readSum_5 rfl 0 rfl ?_
  refine g_bipush (pc := 6) (v := 32) C dX12_readSum_6 (by decide) ?_
  replace h := gd_some h; obtain ⟨hk3, h⟩ := h
  replace h := bnd h; obtain ⟨r4, h1, h⟩ := h
  refine g_callVi (pc := 8) (As := [.int ((32 : Int32))]) (st := []) C dX12_readSum_8 wX12_is hk3 rfl (by decide) q_1397 q_56 q_1395 (by omega) rfl (Nat.le_of_ble_eq_true rfl) (kX12_is (d := 0) (Nat.le_refl _) h1) ?_
  refine g_if_ne (pc := 11) (tgt := 23) C dX12_readSum_11 (by decide) (fun c5 => ?_) (fun c5 => ?_)
  · replace h := ifn c5 h
    exact g_sub [0, 1] rfl (tjX12_readSum_23 C hd hrec h hE)
  · replace h := ifp c5 h
    refine g_aload_n (pc := 14) C dX12_readSum_14 rfl 0 rfl ?_
    refine g_bipush (pc := 15) (v := 33) C dX12_readSum_15 (by decide) ?_
    replace h := bnd h; obtain ⟨r14, h1, h⟩ := h
    refine g_callVi (pc := 17) (As := [.int ((33 : Int32))]) (st := []) C dX12_readSum_17 wX12_is hk3 rfl (by decide) q_1397 q_56 q_1395 (by omega) rfl (Nat.le_of_ble_eq_true rfl) (kX12_is (d := 0) (Nat.le_refl _) h1) ?_
    refine g_if_eq (pc := 20) (tgt := 59) C dX12_readSum_20 (by decide) (fun c15 => ?_) (fun c15 => ?_)
    · replace h := ifp c15 h
      obtain rfl := Option.some.inj h
      exact g_sub [] rfl (show G X B 3 Z Q 59 [] [] T M from hE)
    · replace h := ifn c15 h
      exact g_sub [0, 1] rfl (tjX12_readSum_23 C hd hrec h hE)
/-- EyeTrainerModel.readSum(I)V -/
def hX12_readSum (rec : Nat → Sh → Me → Nat → Int32 → Option (Unit × Me)) (T : Sh) (M : Me) (x0 : Nat) (x1 : Int32) : Option (Unit × Me) :=
  gd (kd T x0 = 11) <| Option.bind (rec 4 T M x0 x1) <| un2 fun _u M2 => (lp FU (fun s => bX12_readSum_5 rec T x0 x1 s) M2).bind (fun M16 => some ((), M16))
set_option maxHeartbeats 4000000 in
theorem khX12_readSum {l : Launch} {B : Bx} {d : Nat} (hd : 7 ≤ d) {rec : Nat → Sh → Me → Nat → Int32 → Option (Unit × Me)} (hrec : RKG12 l B d rec) {T : Sh} {M : Me} {x0 : Nat} {x1 : Int32} {M' : Me} (h : hX12_readSum rec T M x0 x1 = some ((), M')) : Kt l B yX12_readSum cX12_readSum 3 none (d + 1) [.ref (x0), .int (x1)] T M none T M' := by
  refine kt_of wX12_readSum (Nat.le_refl _) (Nat.le_refl _) (Nat.le_of_ble_eq_true rfl) (fun X C hR hlx hin => ?_)
  subst hlx
  replace C : Cx X B cX12_readSum 3 RX12 (d + 1) (tp T, sl T, tp T, sl T) := C
  unfold hX12_readSum at h
  show G X B 3 _ _ 0 [(0, .ref (x0)), (1, .int (x1))] [] T M
  refine g_aload_n (pc := 0) C dX12_readSum_0 rfl 0 rfl ?_
  refine g_iload_n (pc := 1) C dX12_readSum_1 rfl 1 rfl ?_
  replace h := gd_some h; obtain ⟨hk1, h⟩ := h
  replace h := bnd2 h; obtain ⟨_u, M2, h1, h⟩ := h
  refine g_callVv (pc := 2) (As := [.int (x1)]) (st := []) C dX12_readSum_2 wX12_readTerm hk1 rfl (by decide) q_1437 q_66 q_1435 (by omega) rfl (Nat.le_of_ble_eq_true rfl) (hrec 4 _ _ _ _ _ h1) ?_
  replace h := bnd h; obtain ⟨M16, h1, h⟩ := h
  refine g_sub [0, 1] rfl ?_
  refine lp_G2 (P := PX12_readSum_5 X B _ _ T x0 x1) (E := EX12_readSum_5 X B _ _ T x0 x1) (tbX12_readSum_5 C hd hrec) h1 ?_
  show G X B 3 _ _ 59 [] [] T M16
  obtain ⟨-, rfl⟩ := Prod.mk.inj (Option.some.inj h)
  exact g_vret C hR dX12_readSum_59
-- a loop of EyeTrainerModel.readTerm at 5
def bX12_readTerm_5 (rec : Nat → Sh → Me → Nat → Int32 → Option (Unit × Me)) (T : Sh) (x0 : Nat) (x1 : Int32) (M : Me) : Option ((Me) ⊕ (Me)) :=
  gd (kd T x0 = 11) <| Option.bind (fX12_eats T M x0 (34 : Int32)) <| un2 fun r4 M5 => if r4 = 0 then (some (.inr M5)) else (Option.bind (rec 5 T M5 x0 x1) <| un2 fun _u M7 => Option.bind (fX12_codes T M7 x0 (3002 : Int32)) <| un2 fun _u M8 => some (.inl M8))
def PX12_readTerm_5 (X : Fx) (B : Bx) (Z : Nat × Nat × Nat × Nat) (Q : State → Prop) (T : Sh) (x0 : Nat) (x1 : Int32) (s : Me) : Prop := G X B 2 Z Q 5 [(0, .ref (x0)), (1, .int (x1))] [] T s
def EX12_readTerm_5 (X : Fx) (B : Bx) (Z : Nat × Nat × Nat × Nat) (Q : State → Prop) (T : Sh) (x0 : Nat) (x1 : Int32) (r : Me) : Prop := G X B 2 Z Q 29 [] [] T r
set_option maxHeartbeats 4000000 in
theorem tbX12_readTerm_5 {X : Fx} {B : Bx} {Z : Nat × Nat × Nat × Nat} {Q : State → Prop} {d : Nat} {T : Sh} (C : Cx X B cX12_readTerm 2 RX12 (d + 1) Z) (hd : 7 ≤ d) {rec : Nat → Sh → Me → Nat → Int32 → Option (Unit × Me)} (hrec : RKG12 X.2.1 B d rec) {x0 : Nat} {x1 : Int32} : ∀ (s : Me) (o : (Me) ⊕ (Me)), bX12_readTerm_5 rec T x0 x1 s = some o → lpE (PX12_readTerm_5 X B Z Q T x0 x1) (EX12_readTerm_5 X B Z Q T x0 x1) o → PX12_readTerm_5 X B Z Q T x0 x1 s := by
  rintro M o h hE
  replace h : bX12_readTerm_5 rec T x0 x1 M = some o := h
  unfold bX12_readTerm_5 at h
  show G X B 2 Z Q 5 [(0, .ref (x0)), (1, .int (x1))] [] T M
  refine g_aload_n (pc := 5) C dX12_readTerm_5 rfl 0 rfl ?_
  refine g_bipush (pc := 6) (v := 34) C dX12_readTerm_6 (by decide) ?_
  replace h := gd_some h; obtain ⟨hk3, h⟩ := h
  replace h := bnd2 h; obtain ⟨r4, M5, h1, h⟩ := h
  refine g_callVi (pc := 8) (As := [.int ((34 : Int32))]) (st := []) C dX12_readTerm_8 wX12_eats hk3 rfl (by decide) q_1393 q_55 q_1391 (by omega) rfl (Nat.le_of_ble_eq_true rfl) (kX12_eats (d := 6) (Nat.le_refl _) h1) ?_
  refine g_if_eq (pc := 11) (tgt := 29) C dX12_readTerm_11 (by decide) (fun c6 => ?_) (fun c6 => ?_)
  · replace h := ifp c6 h
    obtain rfl := Option.some.inj h
    exact g_sub [] rfl (show G X B 2 Z Q 29 [] [] T M5 from hE)
  · replace h := ifn c6 h
    refine g_aload_n (pc := 14) C dX12_readTerm_14 rfl 0 rfl ?_
    refine g_iload_n (pc := 15) C dX12_readTerm_15 rfl 1 rfl ?_
    replace h := bnd2 h; obtain ⟨_u, M7, h1, h⟩ := h
    refine g_callVv (pc := 16) (As := [.int (x1)]) (st := []) C dX12_readTerm_16 wX12_readAtom hk3 rfl (by decide) q_1441 q_67 q_1439 (by omega) rfl (Nat.le_of_ble_eq_true rfl) (hrec 5 _ _ _ _ _ h1) ?_
    refine g_aload_n (pc := 19) C dX12_readTerm_19 rfl 0 rfl ?_
    refine g_sipush (pc := 20) (v := 3002) C dX12_readTerm_20 (by decide) ?_
    replace h := bnd2 h; obtain ⟨_u, M8, h1, h⟩ := h
    refine g_callVv (pc := 23) (As := [.int ((3002 : Int32))]) (st := []) C dX12_readTerm_23 wX12_codes hk3 rfl (by decide) q_1445 q_68 q_1443 (by omega) rfl (Nat.le_of_ble_eq_true rfl) (kX12_codes (d := 0) (Nat.le_refl _) h1) ?_
    refine g_goto (pc := 26) (tgt := 5) C dX12_readTerm_26 (by decide) ?_
    obtain rfl := Option.some.inj h
    exact g_sub [0, 1] rfl (show G X B 2 Z Q 5 [(0, .ref (x0)), (1, .int (x1))] [] T M8 from hE)
/-- EyeTrainerModel.readTerm(I)V -/
def hX12_readTerm (rec : Nat → Sh → Me → Nat → Int32 → Option (Unit × Me)) (T : Sh) (M : Me) (x0 : Nat) (x1 : Int32) : Option (Unit × Me) :=
  gd (kd T x0 = 11) <| Option.bind (rec 5 T M x0 x1) <| un2 fun _u M2 => (lp FU (fun s => bX12_readTerm_5 rec T x0 x1 s) M2).bind (fun M9 => some ((), M9))
set_option maxHeartbeats 4000000 in
theorem khX12_readTerm {l : Launch} {B : Bx} {d : Nat} (hd : 7 ≤ d) {rec : Nat → Sh → Me → Nat → Int32 → Option (Unit × Me)} (hrec : RKG12 l B d rec) {T : Sh} {M : Me} {x0 : Nat} {x1 : Int32} {M' : Me} (h : hX12_readTerm rec T M x0 x1 = some ((), M')) : Kt l B yX12_readTerm cX12_readTerm 2 none (d + 1) [.ref (x0), .int (x1)] T M none T M' := by
  refine kt_of wX12_readTerm (Nat.le_refl _) (Nat.le_refl _) (Nat.le_of_ble_eq_true rfl) (fun X C hR hlx hin => ?_)
  subst hlx
  replace C : Cx X B cX12_readTerm 2 RX12 (d + 1) (tp T, sl T, tp T, sl T) := C
  unfold hX12_readTerm at h
  show G X B 2 _ _ 0 [(0, .ref (x0)), (1, .int (x1))] [] T M
  refine g_aload_n (pc := 0) C dX12_readTerm_0 rfl 0 rfl ?_
  refine g_iload_n (pc := 1) C dX12_readTerm_1 rfl 1 rfl ?_
  replace h := gd_some h; obtain ⟨hk1, h⟩ := h
  replace h := bnd2 h; obtain ⟨_u, M2, h1, h⟩ := h
  refine g_callVv (pc := 2) (As := [.int (x1)]) (st := []) C dX12_readTerm_2 wX12_readAtom hk1 rfl (by decide) q_1441 q_67 q_1439 (by omega) rfl (Nat.le_of_ble_eq_true rfl) (hrec 5 _ _ _ _ _ h1) ?_
  replace h := bnd h; obtain ⟨M9, h1, h⟩ := h
  refine g_sub [0, 1] rfl ?_
  refine lp_G2 (P := PX12_readTerm_5 X B _ _ T x0 x1) (E := EX12_readTerm_5 X B _ _ T x0 x1) (tbX12_readTerm_5 C hd hrec) h1 ?_
  show G X B 2 _ _ 29 [] [] T M9
  obtain ⟨-, rfl⟩ := Prod.mk.inj (Option.some.inj h)
  exact g_vret C hR dX12_readTerm_29
def jX12_readAtom_66 (rec : Nat → Sh → Me → Nat → Int32 → Option (Unit × Me)) (T : Sh) (M : Me) (x0 : Nat) (x1 : Int32) : Option (Unit × Me) :=
  gd (kd T x0 = 11) <| Option.bind (fX12_is T M x0 (35 : Int32)) fun r6 => if r6 = 0 then (Option.bind (fX12_is T M x0 (12 : Int32)) fun r8 => if r8 = 0 then (Option.bind (fX12_fails T M x0 (2 : Int32)) <| un2 fun _u M10 => some ((), M10)) else (Option.bind (rec 6 T M x0 x1) <| un2 fun _u M11 => some ((), M11))) else (Option.bind (fX12_goesIn T M x0 x1) <| un2 fun r12 M13 => if r12 = 0 then (some ((), M13)) else (Option.bind (rec 3 T M13 x0 (x1 + (1 : Int32))) <| un2 fun _u M15 => Option.bind (fX12_eats T M15 x0 (36 : Int32)) <| un2 fun r16 M17 => if r16 = 0 then (Option.bind (fX12_fails T M17 x0 (2 : Int32)) <| un2 fun _u M19 => some ((), M19)) else (some ((), M17))))
set_option maxHeartbeats 4000000 in
theorem tjX12_readAtom_66 {X : Fx} {B : Bx} {Z : Nat × Nat × Nat × Nat} {d : Nat} {T : Sh} {M : Me} {x0 : Nat} {x1 : Int32} {M' : Me} (C : Cx X B cX12_readAtom 2 RX12 (d + 1) Z) (hR : Rx X none) (hd : 7 ≤ d) {rec : Nat → Sh → Me → Nat → Int32 → Option (Unit × Me)} (hrec : RKG12 X.2.1 B d rec) (h : jX12_readAtom_66 rec T M x0 x1 = some ((), M')) : G X B 2 Z (Qf X B Z none T M') 66 [(0, .ref (x0)), (1, .int (x1))] [] T M := by
  unfold jX12_readAtom_66 at h
  refine g_aload_n (pc := 66) C dX12_readAtom_66 rfl 0 rfl ?_
  refine g_bipush (pc := 67) (v := 35) C dX12_readAtom_67 (by decide) ?_
  replace h := gd_some h; obtain ⟨hk5, h⟩ := h
  replace h := bnd h; obtain ⟨r6, h1, h⟩ := h
  refine g_callVi (pc := 69) (As := [.int ((35 : Int32))]) (st := []) C dX12_readAtom_69 wX12_is hk5 rfl (by decide) q_1397 q_56 q_1395 (by omega) rfl (Nat.le_of_ble_eq_true rfl) (kX12_is (d := 0) (Nat.le_refl _) h1) ?_
  refine g_if_eq (pc := 72) (tgt := 108) C dX12_readAtom_72 (by decide) (fun c7 => ?_) (fun c7 => ?_)
  · replace h := ifp c7 h
    refine g_aload_n (pc := 108) C dX12_readAtom_108 rfl 0 rfl ?_
    refine g_bipush (pc := 109) (v := 12) C dX12_readAtom_109 (by decide) ?_
    replace h := bnd h; obtain ⟨r8, h1, h⟩ := h
    refine g_callVi (pc := 111) (As := [.int ((12 : Int32))]) (st := []) C dX12_readAtom_111 wX12_is hk5 rfl (by decide) q_1397 q_56 q_1395 (by omega) rfl (Nat.le_of_ble_eq_true rfl) (kX12_is (d := 0) (Nat.le_refl _) h1) ?_
    refine g_if_eq (pc := 114) (tgt := 125) C dX12_readAtom_114 (by decide) (fun c9 => ?_) (fun c9 => ?_)
    · replace h := ifp c9 h
      refine g_aload_n (pc := 125) C dX12_readAtom_125 rfl 0 rfl ?_
      refine g_iconst (pc := 126) (v := 2) C dX12_readAtom_126 (by decide) ?_
      replace h := bnd2 h; obtain ⟨_u, M10, h1, h⟩ := h
      refine g_callVv (pc := 127) (As := [.int ((2 : Int32))]) (st := []) C dX12_readAtom_127 wX12_fails hk5 rfl (by decide) q_1401 q_57 q_1399 (by omega) rfl (Nat.le_of_ble_eq_true rfl) (kX12_fails (d := 0) (Nat.le_refl _) h1) ?_
      obtain ⟨-, rfl⟩ := Prod.mk.inj (Option.some.inj h)
      exact g_vret C hR dX12_readAtom_130
    · replace h := ifn c9 h
      refine g_aload_n (pc := 117) C dX12_readAtom_117 rfl 0 rfl ?_
      refine g_iload_n (pc := 118) C dX12_readAtom_118 rfl 1 rfl ?_
      replace h := bnd2 h; obtain ⟨_u, M11, h1, h⟩ := h
      refine g_callVv (pc := 119) (As := [.int (x1)]) (st := []) C dX12_readAtom_119 wX12_readIf hk5 rfl (by decide) q_1457 q_71 q_1455 (by omega) rfl (Nat.le_of_ble_eq_true rfl) (hrec 6 _ _ _ _ _ h1) ?_
      refine g_goto (pc := 122) (tgt := 130) C dX12_readAtom_122 (by decide) ?_
      obtain ⟨-, rfl⟩ := Prod.mk.inj (Option.some.inj h)
      exact g_vret C hR dX12_readAtom_130
  · replace h := ifn c7 h
    refine g_aload_n (pc := 75) C dX12_readAtom_75 rfl 0 rfl ?_
    refine g_iload_n (pc := 76) C dX12_readAtom_76 rfl 1 rfl ?_
    replace h := bnd2 h; obtain ⟨r12, M13, h1, h⟩ := h
    refine g_callVi (pc := 77) (As := [.int (x1)]) (st := []) C dX12_readAtom_77 wX12_goesIn hk5 rfl (by decide) q_1453 q_70 q_1451 (by omega) rfl (Nat.le_of_ble_eq_true rfl) (kX12_goesIn (d := 6) (Nat.le_refl _) h1) ?_
    refine g_if_ne (pc := 80) (tgt := 84) C dX12_readAtom_80 (by decide) (fun c14 => ?_) (fun c14 => ?_)
    · replace h := ifn c14 h
      refine g_aload_n (pc := 84) C dX12_readAtom_84 rfl 0 rfl ?_
      refine g_iload_n (pc := 85) C dX12_readAtom_85 rfl 1 rfl ?_
      refine g_iconst (pc := 86) (v := 1) C dX12_readAtom_86 (by decide) ?_
      refine g_iadd (pc := 87) C dX12_readAtom_87 ?_
      replace h := bnd2 h; obtain ⟨_u, M15, h1, h⟩ := h
      refine g_callVv (pc := 88) (As := [.int (x1 + (1 : Int32))]) (st := []) C dX12_readAtom_88 wX12_readSum hk5 rfl (by decide) q_1433 q_65 q_1431 (by omega) rfl (Nat.le_of_ble_eq_true rfl) (hrec 3 _ _ _ _ _ h1) ?_
      refine g_aload_n (pc := 91) C dX12_readAtom_91 rfl 0 rfl ?_
      refine g_bipush (pc := 92) (v := 36) C dX12_readAtom_92 (by decide) ?_
      replace h := bnd2 h; obtain ⟨r16, M17, h1, h⟩ := h
      refine g_callVi (pc := 94) (As := [.int ((36 : Int32))]) (st := []) C dX12_readAtom_94 wX12_eats hk5 rfl (by decide) q_1393 q_55 q_1391 (by omega) rfl (Nat.le_of_ble_eq_true rfl) (kX12_eats (d := 6) (Nat.le_refl _) h1) ?_
      refine g_if_ne (pc := 97) (tgt := 130) C dX12_readAtom_97 (by decide) (fun c18 => ?_) (fun c18 => ?_)
      · replace h := ifn c18 h
        obtain ⟨-, rfl⟩ := Prod.mk.inj (Option.some.inj h)
        exact g_vret C hR dX12_readAtom_130
      · replace h := ifp c18 h
        refine g_aload_n (pc := 100) C dX12_readAtom_100 rfl 0 rfl ?_
        refine g_iconst (pc := 101) (v := 2) C dX12_readAtom_101 (by decide) ?_
        replace h := bnd2 h; obtain ⟨_u, M19, h1, h⟩ := h
        refine g_callVv (pc := 102) (As := [.int ((2 : Int32))]) (st := []) C dX12_readAtom_102 wX12_fails hk5 rfl (by decide) q_1401 q_57 q_1399 (by omega) rfl (Nat.le_of_ble_eq_true rfl) (kX12_fails (d := 0) (Nat.le_refl _) h1) ?_
        refine g_goto (pc := 105) (tgt := 130) C dX12_readAtom_105 (by decide) ?_
        obtain ⟨-, rfl⟩ := Prod.mk.inj (Option.some.inj h)
        exact g_vret C hR dX12_readAtom_130
    · replace h := ifp c14 h
      obtain ⟨-, rfl⟩ := Prod.mk.inj (Option.some.inj h)
      exact g_vret C hR dX12_readAtom_83
/-- EyeTrainerModel.readAtom(I)V -/
def hX12_readAtom (rec : Nat → Sh → Me → Nat → Int32 → Option (Unit × Me)) (T : Sh) (M : Me) (x0 : Nat) (x1 : Int32) : Option (Unit × Me) :=
  gd (kd T x0 = 11) <| Option.bind (fX12_is T M x0 (25 : Int32)) fun r2 => if r2 = 0 then (if (gI M x0 11) = 0 then (Option.bind (fX12_wordOf T M x0 (gI M x0 9)) fun r20 => if r20 = (-1 : Int32) then (jX12_readAtom_66 rec T M x0 x1) else (Option.bind (fX12_wordOf T M x0 (gI M x0 9)) fun r22 => Option.bind (fX12_codes T M x0 ((1000 : Int32) + r22)) <| un2 fun _u M23 => Option.bind (fX12_next T M23 x0) <| un2 fun _u M24 => some ((), M24))) else (jX12_readAtom_66 rec T M x0 x1)) else (Option.bind (fX12_codes T M x0 (gI M x0 10)) <| un2 fun _u M25 => Option.bind (fX12_next T M25 x0) <| un2 fun _u M26 => some ((), M26))
set_option maxHeartbeats 4000000 in
theorem khX12_readAtom {l : Launch} {B : Bx} {d : Nat} (hd : 7 ≤ d) {rec : Nat → Sh → Me → Nat → Int32 → Option (Unit × Me)} (hrec : RKG12 l B d rec) {T : Sh} {M : Me} {x0 : Nat} {x1 : Int32} {M' : Me} (h : hX12_readAtom rec T M x0 x1 = some ((), M')) : Kt l B yX12_readAtom cX12_readAtom 2 none (d + 1) [.ref (x0), .int (x1)] T M none T M' := by
  refine kt_of wX12_readAtom (Nat.le_refl _) (Nat.le_refl _) (Nat.le_of_ble_eq_true rfl) (fun X C hR hlx hin => ?_)
  subst hlx
  replace C : Cx X B cX12_readAtom 2 RX12 (d + 1) (tp T, sl T, tp T, sl T) := C
  unfold hX12_readAtom at h
  show G X B 2 _ _ 0 [(0, .ref (x0)), (1, .int (x1))] [] T M
  refine g_aload_n (pc := 0) C dX12_readAtom_0 rfl 0 rfl ?_
  refine g_bipush (pc := 1) (v := 25) C dX12_readAtom_1 (by decide) ?_
  replace h := gd_some h; obtain ⟨hk1, h⟩ := h
  replace h := bnd h; obtain ⟨r2, h1, h⟩ := h
  refine g_callVi (pc := 3) (As := [.int ((25 : Int32))]) (st := []) C dX12_readAtom_3 wX12_is hk1 rfl (by decide) q_1397 q_56 q_1395 (by omega) rfl (Nat.le_of_ble_eq_true rfl) (kX12_is (d := 0) (Nat.le_refl _) h1) ?_
  refine g_if_eq (pc := 6) (tgt := 24) C dX12_readAtom_6 (by decide) (fun c3 => ?_) (fun c3 => ?_)
  · replace h := ifp c3 h
    refine g_aload_n (pc := 24) C dX12_readAtom_24 rfl 0 rfl ?_
    refine g_get (pc := 25) (v := .int (gI M x0 11)) C dX12_readAtom_25 kX12 hk1 11 (by decide) q_1238 rfl ?_
    refine g_if_ne (pc := 28) (tgt := 66) C dX12_readAtom_28 (by decide) (fun c4 => ?_) (fun c4 => ?_)
    · replace h := ifn c4 h
      exact g_sub [0, 1] rfl (tjX12_readAtom_66 C hR hd hrec h)
    · replace h := ifp c4 h
      refine g_aload_n (pc := 31) C dX12_readAtom_31 rfl 0 rfl ?_
      refine g_aload_n (pc := 32) C dX12_readAtom_32 rfl 0 rfl ?_
      refine g_get (pc := 33) (v := .int (gI M x0 9)) C dX12_readAtom_33 kX12 hk1 9 (by decide) q_1236 rfl ?_
      replace h := bnd h; obtain ⟨r20, h1, h⟩ := h
      refine g_callVi (pc := 36) (As := [.int (gI M x0 9)]) (st := []) C dX12_readAtom_36 wX12_wordOf hk1 rfl (by decide) q_1449 q_69 q_1447 (by omega) rfl (Nat.le_of_ble_eq_true rfl) (kX12_wordOf (d := 0) (Nat.le_refl _) h1) ?_
      refine g_iconst (pc := 39) (v := (-1)) C dX12_readAtom_39 (by decide) ?_
      refine g_icmp_eq (pc := 40) (tgt := 66) C dX12_readAtom_40 (by decide) (fun c21 => ?_) (fun c21 => ?_)
      · replace h := ifp c21 h
        exact g_sub [0, 1] rfl (tjX12_readAtom_66 C hR hd hrec h)
      · replace h := ifn c21 h
        refine g_aload_n (pc := 43) C dX12_readAtom_43 rfl 0 rfl ?_
        refine g_sipush (pc := 44) (v := 1000) C dX12_readAtom_44 (by decide) ?_
        refine g_aload_n (pc := 47) C dX12_readAtom_47 rfl 0 rfl ?_
        refine g_aload_n (pc := 48) C dX12_readAtom_48 rfl 0 rfl ?_
        refine g_get (pc := 49) (v := .int (gI M x0 9)) C dX12_readAtom_49 kX12 hk1 9 (by decide) q_1236 rfl ?_
        replace h := bnd h; obtain ⟨r22, h1, h⟩ := h
        refine g_callVi (pc := 52) (As := [.int (gI M x0 9)]) (st := [.int ((1000 : Int32)), .ref (x0)]) C dX12_readAtom_52 wX12_wordOf hk1 rfl (by decide) q_1449 q_69 q_1447 (by omega) rfl (Nat.le_of_ble_eq_true rfl) (kX12_wordOf (d := 0) (Nat.le_refl _) h1) ?_
        refine g_iadd (pc := 55) C dX12_readAtom_55 ?_
        replace h := bnd2 h; obtain ⟨_u, M23, h1, h⟩ := h
        refine g_callVv (pc := 56) (As := [.int ((1000 : Int32) + r22)]) (st := []) C dX12_readAtom_56 wX12_codes hk1 rfl (by decide) q_1445 q_68 q_1443 (by omega) rfl (Nat.le_of_ble_eq_true rfl) (kX12_codes (d := 0) (Nat.le_refl _) h1) ?_
        refine g_aload_n (pc := 59) C dX12_readAtom_59 rfl 0 rfl ?_
        replace h := bnd2 h; obtain ⟨_u, M24, h1, h⟩ := h
        refine g_callVv (pc := 60) (As := []) (st := []) C dX12_readAtom_60 wX12_next hk1 rfl (by decide) q_1371 q_52 q_1369 (by omega) rfl (Nat.le_of_ble_eq_true rfl) (kX12_next (d := 5) (Nat.le_refl _) h1) ?_
        refine g_goto (pc := 63) (tgt := 130) C dX12_readAtom_63 (by decide) ?_
        obtain ⟨-, rfl⟩ := Prod.mk.inj (Option.some.inj h)
        exact g_vret C hR dX12_readAtom_130
  · replace h := ifn c3 h
    refine g_aload_n (pc := 9) C dX12_readAtom_9 rfl 0 rfl ?_
    refine g_aload_n (pc := 10) C dX12_readAtom_10 rfl 0 rfl ?_
    refine g_get (pc := 11) (v := .int (gI M x0 10)) C dX12_readAtom_11 kX12 hk1 10 (by decide) q_1237 rfl ?_
    replace h := bnd2 h; obtain ⟨_u, M25, h1, h⟩ := h
    refine g_callVv (pc := 14) (As := [.int (gI M x0 10)]) (st := []) C dX12_readAtom_14 wX12_codes hk1 rfl (by decide) q_1445 q_68 q_1443 (by omega) rfl (Nat.le_of_ble_eq_true rfl) (kX12_codes (d := 0) (Nat.le_refl _) h1) ?_
    refine g_aload_n (pc := 17) C dX12_readAtom_17 rfl 0 rfl ?_
    replace h := bnd2 h; obtain ⟨_u, M26, h1, h⟩ := h
    refine g_callVv (pc := 18) (As := []) (st := []) C dX12_readAtom_18 wX12_next hk1 rfl (by decide) q_1371 q_52 q_1369 (by omega) rfl (Nat.le_of_ble_eq_true rfl) (kX12_next (d := 5) (Nat.le_refl _) h1) ?_
    refine g_goto (pc := 21) (tgt := 130) C dX12_readAtom_21 (by decide) ?_
    obtain ⟨-, rfl⟩ := Prod.mk.inj (Option.some.inj h)
    exact g_vret C hR dX12_readAtom_130
def jX12_readIf_51 (rec : Nat → Sh → Me → Nat → Int32 → Option (Unit × Me)) (T : Sh) (M : Me) (x0 : Nat) (x1 : Int32) : Option (Unit × Me) :=
  gd (kd T x0 = 11) <| Option.bind (rec 3 T M x0 (x1 + (1 : Int32))) <| un2 fun _u M15 => Option.bind (fX12_eats T M15 x0 (15 : Int32)) <| un2 fun r16 M17 => if r16 = 0 then (Option.bind (fX12_fails T M17 x0 (2 : Int32)) <| un2 fun _u M20 => Option.bind (fX12_codes T M20 x0 (3009 : Int32)) <| un2 fun _u M21 => some ((), M21)) else (Option.bind (fX12_codes T M17 x0 (3009 : Int32)) <| un2 fun _u M19 => some ((), M19))
set_option maxHeartbeats 4000000 in
theorem tjX12_readIf_51 {X : Fx} {B : Bx} {Z : Nat × Nat × Nat × Nat} {d : Nat} {T : Sh} {M : Me} {x0 : Nat} {x1 : Int32} {M' : Me} (C : Cx X B cX12_readIf 2 RX12 (d + 1) Z) (hR : Rx X none) (hd : 7 ≤ d) {rec : Nat → Sh → Me → Nat → Int32 → Option (Unit × Me)} (hrec : RKG12 X.2.1 B d rec) (h : jX12_readIf_51 rec T M x0 x1 = some ((), M')) : G X B 2 Z (Qf X B Z none T M') 51 [(0, .ref (x0)), (1, .int (x1))] [] T M := by
  unfold jX12_readIf_51 at h
  refine g_aload_n (pc := 51) C dX12_readIf_51 rfl 0 rfl ?_
  refine g_iload_n (pc := 52) C dX12_readIf_52 rfl 1 rfl ?_
  refine g_iconst (pc := 53) (v := 1) C dX12_readIf_53 (by decide) ?_
  refine g_iadd (pc := 54) C dX12_readIf_54 ?_
  replace h := gd_some h; obtain ⟨hk14, h⟩ := h
  replace h := bnd2 h; obtain ⟨_u, M15, h1, h⟩ := h
  refine g_callVv (pc := 55) (As := [.int (x1 + (1 : Int32))]) (st := []) C dX12_readIf_55 wX12_readSum hk14 rfl (by decide) q_1433 q_65 q_1431 (by omega) rfl (Nat.le_of_ble_eq_true rfl) (hrec 3 _ _ _ _ _ h1) ?_
  refine g_aload_n (pc := 58) C dX12_readIf_58 rfl 0 rfl ?_
  refine g_bipush (pc := 59) (v := 15) C dX12_readIf_59 (by decide) ?_
  replace h := bnd2 h; obtain ⟨r16, M17, h1, h⟩ := h
  refine g_callVi (pc := 61) (As := [.int ((15 : Int32))]) (st := []) C dX12_readIf_61 wX12_eats hk14 rfl (by decide) q_1393 q_55 q_1391 (by omega) rfl (Nat.le_of_ble_eq_true rfl) (kX12_eats (d := 6) (Nat.le_refl _) h1) ?_
  refine g_if_ne (pc := 64) (tgt := 72) C dX12_readIf_64 (by decide) (fun c18 => ?_) (fun c18 => ?_)
  · replace h := ifn c18 h
    refine g_aload_n (pc := 72) C dX12_readIf_72 rfl 0 rfl ?_
    refine g_sipush (pc := 73) (v := 3009) C dX12_readIf_73 (by decide) ?_
    replace h := bnd2 h; obtain ⟨_u, M19, h1, h⟩ := h
    refine g_callVv (pc := 76) (As := [.int ((3009 : Int32))]) (st := []) C dX12_readIf_76 wX12_codes hk14 rfl (by decide) q_1445 q_68 q_1443 (by omega) rfl (Nat.le_of_ble_eq_true rfl) (kX12_codes (d := 0) (Nat.le_refl _) h1) ?_
    obtain ⟨-, rfl⟩ := Prod.mk.inj (Option.some.inj h)
    exact g_vret C hR dX12_readIf_79
  · replace h := ifp c18 h
    refine g_aload_n (pc := 67) C dX12_readIf_67 rfl 0 rfl ?_
    refine g_iconst (pc := 68) (v := 2) C dX12_readIf_68 (by decide) ?_
    replace h := bnd2 h; obtain ⟨_u, M20, h1, h⟩ := h
    refine g_callVv (pc := 69) (As := [.int ((2 : Int32))]) (st := []) C dX12_readIf_69 wX12_fails hk14 rfl (by decide) q_1401 q_57 q_1399 (by omega) rfl (Nat.le_of_ble_eq_true rfl) (kX12_fails (d := 0) (Nat.le_refl _) h1) ?_
    refine g_aload_n (pc := 72) C dX12_readIf_72 rfl 0 rfl ?_
    refine g_sipush (pc := 73) (v := 3009) C dX12_readIf_73 (by decide) ?_
    replace h := bnd2 h; obtain ⟨_u, M21, h1, h⟩ := h
    refine g_callVv (pc := 76) (As := [.int ((3009 : Int32))]) (st := []) C dX12_readIf_76 wX12_codes hk14 rfl (by decide) q_1445 q_68 q_1443 (by omega) rfl (Nat.le_of_ble_eq_true rfl) (kX12_codes (d := 0) (Nat.le_refl _) h1) ?_
    obtain ⟨-, rfl⟩ := Prod.mk.inj (Option.some.inj h)
    exact g_vret C hR dX12_readIf_79
def jX12_readIf_30 (rec : Nat → Sh → Me → Nat → Int32 → Option (Unit × Me)) (T : Sh) (M : Me) (x0 : Nat) (x1 : Int32) : Option (Unit × Me) :=
  gd (kd T x0 = 11) <| Option.bind (rec 3 T M x0 (x1 + (1 : Int32))) <| un2 fun _u M10 => Option.bind (fX12_eats T M10 x0 (14 : Int32)) <| un2 fun r11 M12 => if r11 = 0 then (Option.bind (fX12_fails T M12 x0 (2 : Int32)) <| un2 fun _u M22 => jX12_readIf_51 rec T M22 x0 x1) else (jX12_readIf_51 rec T M12 x0 x1)
set_option maxHeartbeats 4000000 in
theorem tjX12_readIf_30 {X : Fx} {B : Bx} {Z : Nat × Nat × Nat × Nat} {d : Nat} {T : Sh} {M : Me} {x0 : Nat} {x1 : Int32} {M' : Me} (C : Cx X B cX12_readIf 2 RX12 (d + 1) Z) (hR : Rx X none) (hd : 7 ≤ d) {rec : Nat → Sh → Me → Nat → Int32 → Option (Unit × Me)} (hrec : RKG12 X.2.1 B d rec) (h : jX12_readIf_30 rec T M x0 x1 = some ((), M')) : G X B 2 Z (Qf X B Z none T M') 30 [(0, .ref (x0)), (1, .int (x1))] [] T M := by
  unfold jX12_readIf_30 at h
  refine g_aload_n (pc := 30) C dX12_readIf_30 rfl 0 rfl ?_
  refine g_iload_n (pc := 31) C dX12_readIf_31 rfl 1 rfl ?_
  refine g_iconst (pc := 32) (v := 1) C dX12_readIf_32 (by decide) ?_
  refine g_iadd (pc := 33) C dX12_readIf_33 ?_
  replace h := gd_some h; obtain ⟨hk9, h⟩ := h
  replace h := bnd2 h; obtain ⟨_u, M10, h1, h⟩ := h
  refine g_callVv (pc := 34) (As := [.int (x1 + (1 : Int32))]) (st := []) C dX12_readIf_34 wX12_readSum hk9 rfl (by decide) q_1433 q_65 q_1431 (by omega) rfl (Nat.le_of_ble_eq_true rfl) (hrec 3 _ _ _ _ _ h1) ?_
  refine g_aload_n (pc := 37) C dX12_readIf_37 rfl 0 rfl ?_
  refine g_bipush (pc := 38) (v := 14) C dX12_readIf_38 (by decide) ?_
  replace h := bnd2 h; obtain ⟨r11, M12, h1, h⟩ := h
  refine g_callVi (pc := 40) (As := [.int ((14 : Int32))]) (st := []) C dX12_readIf_40 wX12_eats hk9 rfl (by decide) q_1393 q_55 q_1391 (by omega) rfl (Nat.le_of_ble_eq_true rfl) (kX12_eats (d := 6) (Nat.le_refl _) h1) ?_
  refine g_if_ne (pc := 43) (tgt := 51) C dX12_readIf_43 (by decide) (fun c13 => ?_) (fun c13 => ?_)
  · replace h := ifn c13 h
    exact g_sub [0, 1] rfl (tjX12_readIf_51 C hR hd hrec h)
  · replace h := ifp c13 h
    refine g_aload_n (pc := 46) C dX12_readIf_46 rfl 0 rfl ?_
    refine g_iconst (pc := 47) (v := 2) C dX12_readIf_47 (by decide) ?_
    replace h := bnd2 h; obtain ⟨_u, M22, h1, h⟩ := h
    refine g_callVv (pc := 48) (As := [.int ((2 : Int32))]) (st := []) C dX12_readIf_48 wX12_fails hk9 rfl (by decide) q_1401 q_57 q_1399 (by omega) rfl (Nat.le_of_ble_eq_true rfl) (kX12_fails (d := 0) (Nat.le_refl _) h1) ?_
    exact g_sub [0, 1] rfl (tjX12_readIf_51 C hR hd hrec h)
/-- EyeTrainerModel.readIf(I)V -/
def hX12_readIf (rec : Nat → Sh → Me → Nat → Int32 → Option (Unit × Me)) (T : Sh) (M : Me) (x0 : Nat) (x1 : Int32) : Option (Unit × Me) :=
  gd (kd T x0 = 11) <| Option.bind (fX12_goesIn T M x0 x1) <| un2 fun r2 M3 => if r2 = 0 then (some ((), M3)) else (Option.bind (rec 0 T M3 x0 (x1 + (1 : Int32))) <| un2 fun _u M5 => Option.bind (fX12_eats T M5 x0 (13 : Int32)) <| un2 fun r6 M7 => if r6 = 0 then (Option.bind (fX12_fails T M7 x0 (2 : Int32)) <| un2 fun _u M23 => jX12_readIf_30 rec T M23 x0 x1) else (jX12_readIf_30 rec T M7 x0 x1))
set_option maxHeartbeats 4000000 in
theorem khX12_readIf {l : Launch} {B : Bx} {d : Nat} (hd : 7 ≤ d) {rec : Nat → Sh → Me → Nat → Int32 → Option (Unit × Me)} (hrec : RKG12 l B d rec) {T : Sh} {M : Me} {x0 : Nat} {x1 : Int32} {M' : Me} (h : hX12_readIf rec T M x0 x1 = some ((), M')) : Kt l B yX12_readIf cX12_readIf 2 none (d + 1) [.ref (x0), .int (x1)] T M none T M' := by
  refine kt_of wX12_readIf (Nat.le_refl _) (Nat.le_refl _) (Nat.le_of_ble_eq_true rfl) (fun X C hR hlx hin => ?_)
  subst hlx
  replace C : Cx X B cX12_readIf 2 RX12 (d + 1) (tp T, sl T, tp T, sl T) := C
  unfold hX12_readIf at h
  show G X B 2 _ _ 0 [(0, .ref (x0)), (1, .int (x1))] [] T M
  refine g_aload_n (pc := 0) C dX12_readIf_0 rfl 0 rfl ?_
  refine g_iload_n (pc := 1) C dX12_readIf_1 rfl 1 rfl ?_
  replace h := gd_some h; obtain ⟨hk1, h⟩ := h
  replace h := bnd2 h; obtain ⟨r2, M3, h1, h⟩ := h
  refine g_callVi (pc := 2) (As := [.int (x1)]) (st := []) C dX12_readIf_2 wX12_goesIn hk1 rfl (by decide) q_1453 q_70 q_1451 (by omega) rfl (Nat.le_of_ble_eq_true rfl) (kX12_goesIn (d := 6) (Nat.le_refl _) h1) ?_
  refine g_if_ne (pc := 5) (tgt := 9) C dX12_readIf_5 (by decide) (fun c4 => ?_) (fun c4 => ?_)
  · replace h := ifn c4 h
    refine g_aload_n (pc := 9) C dX12_readIf_9 rfl 0 rfl ?_
    refine g_iload_n (pc := 10) C dX12_readIf_10 rfl 1 rfl ?_
    refine g_iconst (pc := 11) (v := 1) C dX12_readIf_11 (by decide) ?_
    refine g_iadd (pc := 12) C dX12_readIf_12 ?_
    replace h := bnd2 h; obtain ⟨_u, M5, h1, h⟩ := h
    refine g_callVv (pc := 13) (As := [.int (x1 + (1 : Int32))]) (st := []) C dX12_readIf_13 wX12_readTruth hk1 rfl (by decide) q_1461 q_72 q_1459 (by omega) rfl (Nat.le_of_ble_eq_true rfl) (hrec 0 _ _ _ _ _ h1) ?_
    refine g_aload_n (pc := 16) C dX12_readIf_16 rfl 0 rfl ?_
    refine g_bipush (pc := 17) (v := 13) C dX12_readIf_17 (by decide) ?_
    replace h := bnd2 h; obtain ⟨r6, M7, h1, h⟩ := h
    refine g_callVi (pc := 19) (As := [.int ((13 : Int32))]) (st := []) C dX12_readIf_19 wX12_eats hk1 rfl (by decide) q_1393 q_55 q_1391 (by omega) rfl (Nat.le_of_ble_eq_true rfl) (kX12_eats (d := 6) (Nat.le_refl _) h1) ?_
    refine g_if_ne (pc := 22) (tgt := 30) C dX12_readIf_22 (by decide) (fun c8 => ?_) (fun c8 => ?_)
    · replace h := ifn c8 h
      exact g_sub [0, 1] rfl (tjX12_readIf_30 C hR hd hrec h)
    · replace h := ifp c8 h
      refine g_aload_n (pc := 25) C dX12_readIf_25 rfl 0 rfl ?_
      refine g_iconst (pc := 26) (v := 2) C dX12_readIf_26 (by decide) ?_
      replace h := bnd2 h; obtain ⟨_u, M23, h1, h⟩ := h
      refine g_callVv (pc := 27) (As := [.int ((2 : Int32))]) (st := []) C dX12_readIf_27 wX12_fails hk1 rfl (by decide) q_1401 q_57 q_1399 (by omega) rfl (Nat.le_of_ble_eq_true rfl) (kX12_fails (d := 0) (Nat.le_refl _) h1) ?_
      exact g_sub [0, 1] rfl (tjX12_readIf_30 C hR hd hrec h)
  · replace h := ifp c4 h
    obtain ⟨-, rfl⟩ := Prod.mk.inj (Option.some.inj h)
    exact g_vret C hR dX12_readIf_8
def fG12 : Nat → Nat → Sh → Me → Nat → Int32 → Option (Unit × Me)
  | 0, _, _, _, _, _ => none
  | n + 1, w, T, M, a, p0 => match w with
    | 0 => hX12_readTruth (fG12 n) T M a p0
    | 1 => hX12_readBoth (fG12 n) T M a p0
    | 2 => hX12_readUnit (fG12 n) T M a p0
    | 3 => hX12_readSum (fG12 n) T M a p0
    | 4 => hX12_readTerm (fG12 n) T M a p0
    | 5 => hX12_readAtom (fG12 n) T M a p0
    | _ => hX12_readIf (fG12 n) T M a p0
theorem kG12 {l : Launch} {B : Bx} : ∀ (n : Nat), RKG12 l B (7 + n) (fG12 n) := by
  intro n
  induction n with
  | zero => intro w T M a p0 M' h; cases h
  | succ n ih =>
    intro w T M a p0 M' h
    match w, h with
    | 0, h => exact khX12_readTruth (hd := by omega) (hrec := ih) h
    | 1, h => exact khX12_readBoth (hd := by omega) (hrec := ih) h
    | 2, h => exact khX12_readUnit (hd := by omega) (hrec := ih) h
    | 3, h => exact khX12_readSum (hd := by omega) (hrec := ih) h
    | 4, h => exact khX12_readTerm (hd := by omega) (hrec := ih) h
    | 5, h => exact khX12_readAtom (hd := by omega) (hrec := ih) h
    | w + 6, h => exact khX12_readIf (hd := by omega) (hrec := ih) h
theorem dX12_readLaw_0 : decode cX12_readLaw 0 = .ok (.aload_n 0, 1) := by decide +kernel
theorem dX12_readLaw_1 : decode cX12_readLaw 1 = .ok (.invokevirtual 132, 3) := by decide +kernel
theorem dX12_readLaw_4 : decode cX12_readLaw 4 = .ok (.aload_n 0, 1) := by decide +kernel
theorem dX12_readLaw_5 : decode cX12_readLaw 5 = .ok (.bipush 31, 2) := by decide +kernel
theorem dX12_readLaw_7 : decode cX12_readLaw 7 = .ok (.invokevirtual 158, 3) := by decide +kernel
theorem dX12_readLaw_10 : decode cX12_readLaw 10 = .ok (.ifCond .ne 8, 3) := by decide +kernel
theorem dX12_readLaw_13 : decode cX12_readLaw 13 = .ok (.aload_n 0, 1) := by decide +kernel
theorem dX12_readLaw_14 : decode cX12_readLaw 14 = .ok (.iconst 2, 1) := by decide +kernel
theorem dX12_readLaw_15 : decode cX12_readLaw 15 = .ok (.invokevirtual 135, 3) := by decide +kernel
theorem dX12_readLaw_18 : decode cX12_readLaw 18 = .ok (.aload_n 0, 1) := by decide +kernel
theorem dX12_readLaw_19 : decode cX12_readLaw 19 = .ok (.getfield 24, 3) := by decide +kernel
theorem dX12_readLaw_22 : decode cX12_readLaw 22 = .ok (.sipush 131, 3) := by decide +kernel
theorem dX12_readLaw_25 : decode cX12_readLaw 25 = .ok (.iaload, 1) := by decide +kernel
theorem dX12_readLaw_26 : decode cX12_readLaw 26 = .ok (.istore_n 2, 1) := by decide +kernel
theorem dX12_readLaw_27 : decode cX12_readLaw 27 = .ok (.aload_n 0, 1) := by decide +kernel
theorem dX12_readLaw_28 : decode cX12_readLaw 28 = .ok (.iload_n 1, 1) := by decide +kernel
theorem dX12_readLaw_29 : decode cX12_readLaw 29 = .ok (.putfield 143, 3) := by decide +kernel
theorem dX12_readLaw_32 : decode cX12_readLaw 32 = .ok (.iload_n 1, 1) := by decide +kernel
theorem dX12_readLaw_33 : decode cX12_readLaw 33 = .ok (.iconst 2, 1) := by decide +kernel
theorem dX12_readLaw_34 : decode cX12_readLaw 34 = .ok (.if_icmp .ne 11, 3) := by decide +kernel
theorem dX12_readLaw_37 : decode cX12_readLaw 37 = .ok (.aload_n 0, 1) := by decide +kernel
theorem dX12_readLaw_38 : decode cX12_readLaw 38 = .ok (.iconst 0, 1) := by decide +kernel
theorem dX12_readLaw_39 : decode cX12_readLaw 39 = .ok (.invokevirtual 155, 3) := by decide +kernel
theorem dX12_readLaw_42 : decode cX12_readLaw 42 = .ok (.goto 8, 3) := by decide +kernel
theorem dX12_readLaw_45 : decode cX12_readLaw 45 = .ok (.aload_n 0, 1) := by decide +kernel
theorem dX12_readLaw_46 : decode cX12_readLaw 46 = .ok (.iconst 0, 1) := by decide +kernel
theorem dX12_readLaw_47 : decode cX12_readLaw 47 = .ok (.invokevirtual 164, 3) := by decide +kernel
theorem dX12_readLaw_50 : decode cX12_readLaw 50 = .ok (.aload_n 0, 1) := by decide +kernel
theorem dX12_readLaw_51 : decode cX12_readLaw 51 = .ok (.getfield 123, 3) := by decide +kernel
theorem dX12_readLaw_54 : decode cX12_readLaw 54 = .ok (.ifCond .eq 4, 3) := by decide +kernel
theorem dX12_readLaw_57 : decode cX12_readLaw 57 = .ok (.return_, 1) := by decide +kernel
theorem dX12_readLaw_58 : decode cX12_readLaw 58 = .ok (.aload_n 0, 1) := by decide +kernel
theorem dX12_readLaw_59 : decode cX12_readLaw 59 = .ok (.getfield 24, 3) := by decide +kernel
theorem dX12_readLaw_62 : decode cX12_readLaw 62 = .ok (.iconst 5, 1) := by decide +kernel
theorem dX12_readLaw_63 : decode cX12_readLaw 63 = .ok (.iload_n 1, 1) := by decide +kernel
theorem dX12_readLaw_64 : decode cX12_readLaw 64 = .ok (.iadd, 1) := by decide +kernel
theorem dX12_readLaw_65 : decode cX12_readLaw 65 = .ok (.iconst 1, 1) := by decide +kernel
theorem dX12_readLaw_66 : decode cX12_readLaw 66 = .ok (.iastore, 1) := by decide +kernel
theorem dX12_readLaw_67 : decode cX12_readLaw 67 = .ok (.aload_n 0, 1) := by decide +kernel
theorem dX12_readLaw_68 : decode cX12_readLaw 68 = .ok (.getfield 24, 3) := by decide +kernel
theorem dX12_readLaw_71 : decode cX12_readLaw 71 = .ok (.bipush 8, 2) := by decide +kernel
theorem dX12_readLaw_73 : decode cX12_readLaw 73 = .ok (.iload_n 1, 1) := by decide +kernel
theorem dX12_readLaw_74 : decode cX12_readLaw 74 = .ok (.iadd, 1) := by decide +kernel
theorem dX12_readLaw_75 : decode cX12_readLaw 75 = .ok (.iload_n 2, 1) := by decide +kernel
theorem dX12_readLaw_76 : decode cX12_readLaw 76 = .ok (.iastore, 1) := by decide +kernel
theorem dX12_readLaw_77 : decode cX12_readLaw 77 = .ok (.aload_n 0, 1) := by decide +kernel
theorem dX12_readLaw_78 : decode cX12_readLaw 78 = .ok (.getfield 24, 3) := by decide +kernel
theorem dX12_readLaw_81 : decode cX12_readLaw 81 = .ok (.bipush 11, 2) := by decide +kernel
theorem dX12_readLaw_83 : decode cX12_readLaw 83 = .ok (.iload_n 1, 1) := by decide +kernel
theorem dX12_readLaw_84 : decode cX12_readLaw 84 = .ok (.iadd, 1) := by decide +kernel
theorem dX12_readLaw_85 : decode cX12_readLaw 85 = .ok (.aload_n 0, 1) := by decide +kernel
theorem dX12_readLaw_86 : decode cX12_readLaw 86 = .ok (.getfield 24, 3) := by decide +kernel
theorem dX12_readLaw_89 : decode cX12_readLaw 89 = .ok (.sipush 131, 3) := by decide +kernel
theorem dX12_readLaw_92 : decode cX12_readLaw 92 = .ok (.iaload, 1) := by decide +kernel
theorem dX12_readLaw_93 : decode cX12_readLaw 93 = .ok (.iload_n 2, 1) := by decide +kernel
theorem dX12_readLaw_94 : decode cX12_readLaw 94 = .ok (.isub, 1) := by decide +kernel
theorem dX12_readLaw_95 : decode cX12_readLaw 95 = .ok (.iastore, 1) := by decide +kernel
theorem dX12_readLaw_96 : decode cX12_readLaw 96 = .ok (.return_, 1) := by decide +kernel
theorem wX12_readLaw : Mw yX12_readLaw cX12_readLaw 3 none 1 := ⟨q_1430, q_130, by decide, ⟨by decide +kernel, by decide +kernel⟩, by decide +kernel, by decide +kernel⟩
def jX12_readLaw_50 (T : Sh) (M : Me) (x0 : Nat) (x1 : Int32) (x2 : Int32) : Option (Unit × Me) :=
  gd (kd T x0 = 11) <| if (gI M x0 11) = 0 then (Option.bind (gR M x0 4) fun a16 => gd (kd T a16 = 13) <| gv ((5 : Int32) + x1) (ln T a16) <| lt (pI M a16 (Int32.toNatClampNeg ((5 : Int32) + x1)) (1 : Int32)) fun M19 => Option.bind (gR M19 x0 4) fun a20 => gd (kd T a20 = 13) <| gv ((8 : Int32) + x1) (ln T a20) <| lt (pI M19 a20 (Int32.toNatClampNeg ((8 : Int32) + x1)) x2) fun M23 => Option.bind (gR M23 x0 4) fun a24 => Option.bind (gR M23 x0 4) fun a25 => gd (kd T a25 = 13) <| gv (131 : Int32) (ln T a25) <| gd (kd T a24 = 13) <| gv ((11 : Int32) + x1) (ln T a24) <| lt (pI M23 a24 (Int32.toNatClampNeg ((11 : Int32) + x1)) ((gI M23 a25 (Int32.toNatClampNeg (131 : Int32))) - x2)) fun M30 => some ((), M30)) else (some ((), M))
set_option maxHeartbeats 4000000 in
theorem tjX12_readLaw_50 {X : Fx} {B : Bx} {Z : Nat × Nat × Nat × Nat} {d : Nat} {T : Sh} {M : Me} {x0 : Nat} {x1 : Int32} {x2 : Int32} {M' : Me} (C : Cx X B cX12_readLaw 3 RX12 d Z) (hR : Rx X none) (hd : 108 ≤ d) (h : jX12_readLaw_50 T M x0 x1 x2 = some ((), M')) : G X B 3 Z (Qf X B Z none T M') 50 [(0, .ref (x0)), (1, .int (x1)), (2, .int (x2))] [] T M := by
  unfold jX12_readLaw_50 at h
  refine g_aload_n (pc := 50) C dX12_readLaw_50 rfl 0 rfl ?_
  replace h := gd_some h; obtain ⟨hk14, h⟩ := h
  refine g_get (pc := 51) (v := .int (gI M x0 11)) C dX12_readLaw_51 kX12 hk14 11 (by decide) q_1238 rfl ?_
  refine g_if_eq (pc := 54) (tgt := 58) C dX12_readLaw_54 (by decide) (fun c15 => ?_) (fun c15 => ?_)
  · replace h := ifp c15 h
    refine g_aload_n (pc := 58) C dX12_readLaw_58 rfl 0 rfl ?_
    refine g_get (pc := 59) (v := va_rf (gR M x0 4)) C dX12_readLaw_59 kX12 hk14 4 (by decide) q_1231 rfl ?_
    replace h := bnd h; obtain ⟨a16, ea16, h⟩ := h
    refine g_refq ea16 ?_
    refine g_iconst (pc := 62) (v := 5) C dX12_readLaw_62 (by decide) ?_
    refine g_iload_n (pc := 63) C dX12_readLaw_63 rfl 1 rfl ?_
    refine g_iadd (pc := 64) C dX12_readLaw_64 ?_
    refine g_iconst (pc := 65) (v := 1) C dX12_readLaw_65 (by decide) ?_
    replace h := gd_some h; obtain ⟨hk17, h⟩ := h
    replace h := gv_some h; obtain ⟨hi18, h⟩ := h
    refine g_iast (pc := 66) C dX12_readLaw_66 hk17 hi18 ?_
    refine g_mem (fun M19 eM19 => ?_)
    replace h := lt_at eM19 h
    refine g_aload_n (pc := 67) C dX12_readLaw_67 rfl 0 rfl ?_
    refine g_get (pc := 68) (v := va_rf (gR M19 x0 4)) C dX12_readLaw_68 kX12 hk14 4 (by decide) q_1231 rfl ?_
    replace h := bnd h; obtain ⟨a20, ea20, h⟩ := h
    refine g_refq ea20 ?_
    refine g_bipush (pc := 71) (v := 8) C dX12_readLaw_71 (by decide) ?_
    refine g_iload_n (pc := 73) C dX12_readLaw_73 rfl 1 rfl ?_
    refine g_iadd (pc := 74) C dX12_readLaw_74 ?_
    refine g_iload_n (pc := 75) C dX12_readLaw_75 rfl 2 rfl ?_
    replace h := gd_some h; obtain ⟨hk21, h⟩ := h
    replace h := gv_some h; obtain ⟨hi22, h⟩ := h
    refine g_iast (pc := 76) C dX12_readLaw_76 hk21 hi22 ?_
    refine g_mem (fun M23 eM23 => ?_)
    replace h := lt_at eM23 h
    refine g_aload_n (pc := 77) C dX12_readLaw_77 rfl 0 rfl ?_
    refine g_get (pc := 78) (v := va_rf (gR M23 x0 4)) C dX12_readLaw_78 kX12 hk14 4 (by decide) q_1231 rfl ?_
    replace h := bnd h; obtain ⟨a24, ea24, h⟩ := h
    refine g_refq ea24 ?_
    refine g_bipush (pc := 81) (v := 11) C dX12_readLaw_81 (by decide) ?_
    refine g_iload_n (pc := 83) C dX12_readLaw_83 rfl 1 rfl ?_
    refine g_iadd (pc := 84) C dX12_readLaw_84 ?_
    refine g_aload_n (pc := 85) C dX12_readLaw_85 rfl 0 rfl ?_
    refine g_get (pc := 86) (v := va_rf (gR M23 x0 4)) C dX12_readLaw_86 kX12 hk14 4 (by decide) q_1231 rfl ?_
    replace h := bnd h; obtain ⟨a25, ea25, h⟩ := h
    refine g_refq ea25 ?_
    refine g_sipush (pc := 89) (v := 131) C dX12_readLaw_89 (by decide) ?_
    replace h := gd_some h; obtain ⟨hk26, h⟩ := h
    replace h := gv_some h; obtain ⟨hi27, h⟩ := h
    refine g_iald (pc := 92) C dX12_readLaw_92 hk26 hi27 ?_
    refine g_iload_n (pc := 93) C dX12_readLaw_93 rfl 2 rfl ?_
    refine g_isub (pc := 94) C dX12_readLaw_94 ?_
    replace h := gd_some h; obtain ⟨hk28, h⟩ := h
    replace h := gv_some h; obtain ⟨hi29, h⟩ := h
    refine g_iast (pc := 95) C dX12_readLaw_95 hk28 hi29 ?_
    refine g_mem (fun M30 eM30 => ?_)
    replace h := lt_at eM30 h
    obtain ⟨-, rfl⟩ := Prod.mk.inj (Option.some.inj h)
    exact g_vret C hR dX12_readLaw_96
  · replace h := ifn c15 h
    obtain ⟨-, rfl⟩ := Prod.mk.inj (Option.some.inj h)
    exact g_vret C hR dX12_readLaw_57
def jX12_readLaw_18 (T : Sh) (M : Me) (x0 : Nat) (x1 : Int32) : Option (Unit × Me) :=
  gd (kd T x0 = 11) <| Option.bind (gR M x0 4) fun a7 => gd (kd T a7 = 13) <| gv (131 : Int32) (ln T a7) <| lt (gI M a7 (Int32.toNatClampNeg (131 : Int32))) fun v10 => lt (pI M x0 15 x1) fun M11 => if x1 = (2 : Int32) then (Option.bind (fG12 100 3 T M11 x0 (0 : Int32)) <| un2 fun _u M31 => jX12_readLaw_50 T M31 x0 x1 v10) else (Option.bind (fG12 100 0 T M11 x0 (0 : Int32)) <| un2 fun _u M13 => jX12_readLaw_50 T M13 x0 x1 v10)
set_option maxHeartbeats 4000000 in
theorem tjX12_readLaw_18 {X : Fx} {B : Bx} {Z : Nat × Nat × Nat × Nat} {d : Nat} {T : Sh} {M : Me} {x0 : Nat} {x1 : Int32} {M' : Me} (C : Cx X B cX12_readLaw 3 RX12 d Z) (hR : Rx X none) (hd : 108 ≤ d) (h : jX12_readLaw_18 T M x0 x1 = some ((), M')) : G X B 3 Z (Qf X B Z none T M') 18 [(0, .ref (x0)), (1, .int (x1))] [] T M := by
  unfold jX12_readLaw_18 at h
  refine g_aload_n (pc := 18) C dX12_readLaw_18 rfl 0 rfl ?_
  replace h := gd_some h; obtain ⟨hk6, h⟩ := h
  refine g_get (pc := 19) (v := va_rf (gR M x0 4)) C dX12_readLaw_19 kX12 hk6 4 (by decide) q_1231 rfl ?_
  replace h := bnd h; obtain ⟨a7, ea7, h⟩ := h
  refine g_refq ea7 ?_
  refine g_sipush (pc := 22) (v := 131) C dX12_readLaw_22 (by decide) ?_
  replace h := gd_some h; obtain ⟨hk8, h⟩ := h
  replace h := gv_some h; obtain ⟨hi9, h⟩ := h
  refine g_iald (pc := 25) C dX12_readLaw_25 hk8 hi9 ?_
  refine g_topi (fun v10 ev10 => ?_)
  replace h := lt_at ev10 h
  refine g_istore_n (pc := 26) (lo2 := [(2, .int (v10)), (0, .ref (x0)), (1, .int (x1))]) C dX12_readLaw_26 rfl (by decide) rfl ?_
  refine g_aload_n (pc := 27) C dX12_readLaw_27 rfl 1 rfl ?_
  refine g_iload_n (pc := 28) C dX12_readLaw_28 rfl 2 rfl ?_
  refine g_putI (pc := 29) C dX12_readLaw_29 kX12 hk6 15 (by decide) rfl rfl rfl q_1242 ?_
  refine g_mem (fun M11 eM11 => ?_)
  replace h := lt_at eM11 h
  refine g_iload_n (pc := 32) C dX12_readLaw_32 rfl 2 rfl ?_
  refine g_iconst (pc := 33) (v := 2) C dX12_readLaw_33 (by decide) ?_
  refine g_icmp_ne (pc := 34) (tgt := 45) C dX12_readLaw_34 (by decide) (fun c12 => ?_) (fun c12 => ?_)
  · replace h := ifn c12 h
    refine g_aload_n (pc := 45) C dX12_readLaw_45 rfl 1 rfl ?_
    refine g_iconst (pc := 46) (v := 0) C dX12_readLaw_46 (by decide) ?_
    replace h := bnd2 h; obtain ⟨_u, M13, h1, h⟩ := h
    refine g_callVv (pc := 47) (As := [.int ((0 : Int32))]) (st := []) C dX12_readLaw_47 wX12_readTruth hk6 rfl (by decide) q_1461 q_72 q_1459 (by omega) rfl (Nat.le_of_ble_eq_true rfl) (kG12 100 0 _ _ _ _ _ h1) ?_
    exact g_sub [1, 2, 0] rfl (tjX12_readLaw_50 C hR hd h)
  · replace h := ifp c12 h
    refine g_aload_n (pc := 37) C dX12_readLaw_37 rfl 1 rfl ?_
    refine g_iconst (pc := 38) (v := 0) C dX12_readLaw_38 (by decide) ?_
    replace h := bnd2 h; obtain ⟨_u, M31, h1, h⟩ := h
    refine g_callVv (pc := 39) (As := [.int ((0 : Int32))]) (st := []) C dX12_readLaw_39 wX12_readSum hk6 rfl (by decide) q_1433 q_65 q_1431 (by omega) rfl (Nat.le_of_ble_eq_true rfl) (kG12 100 3 _ _ _ _ _ h1) ?_
    refine g_goto (pc := 42) (tgt := 50) C dX12_readLaw_42 (by decide) ?_
    exact g_sub [1, 2, 0] rfl (tjX12_readLaw_50 C hR hd h)
/-- EyeTrainerModel.readLaw(I)V -/
def fX12_readLaw (T : Sh) (M : Me) (x0 : Nat) (x1 : Int32) : Option (Unit × Me) :=
  gd (kd T x0 = 11) <| Option.bind (fX12_next T M x0) <| un2 fun _u M2 => Option.bind (fX12_eats T M2 x0 (31 : Int32)) <| un2 fun r3 M4 => if r3 = 0 then (Option.bind (fX12_fails T M4 x0 (2 : Int32)) <| un2 fun _u M32 => jX12_readLaw_18 T M32 x0 x1) else (jX12_readLaw_18 T M4 x0 x1)
set_option maxHeartbeats 4000000 in
theorem kX12_readLaw {l : Launch} {B : Bx} {d : Nat} (hd : 108 ≤ d) {T : Sh} {M : Me} {x0 : Nat} {x1 : Int32} {M' : Me} (h : fX12_readLaw T M x0 x1 = some ((), M')) : Kt l B yX12_readLaw cX12_readLaw 3 none d [.ref (x0), .int (x1)] T M none T M' := by
  refine kt_of wX12_readLaw (Nat.le_refl _) (Nat.le_refl _) (Nat.le_of_ble_eq_true rfl) (fun X C hR hlx hin => ?_)
  subst hlx
  replace C : Cx X B cX12_readLaw 3 RX12 d (tp T, sl T, tp T, sl T) := C
  unfold fX12_readLaw at h
  show G X B 3 _ _ 0 [(0, .ref (x0)), (1, .int (x1))] [] T M
  refine g_aload_n (pc := 0) C dX12_readLaw_0 rfl 0 rfl ?_
  replace h := gd_some h; obtain ⟨hk1, h⟩ := h
  replace h := bnd2 h; obtain ⟨_u, M2, h1, h⟩ := h
  refine g_callVv (pc := 1) (As := []) (st := []) C dX12_readLaw_1 wX12_next hk1 rfl (by decide) q_1371 q_52 q_1369 (by omega) rfl (Nat.le_of_ble_eq_true rfl) (kX12_next (d := 5) (Nat.le_refl _) h1) ?_
  refine g_aload_n (pc := 4) C dX12_readLaw_4 rfl 0 rfl ?_
  refine g_bipush (pc := 5) (v := 31) C dX12_readLaw_5 (by decide) ?_
  replace h := bnd2 h; obtain ⟨r3, M4, h1, h⟩ := h
  refine g_callVi (pc := 7) (As := [.int ((31 : Int32))]) (st := []) C dX12_readLaw_7 wX12_eats hk1 rfl (by decide) q_1393 q_55 q_1391 (by omega) rfl (Nat.le_of_ble_eq_true rfl) (kX12_eats (d := 6) (Nat.le_refl _) h1) ?_
  refine g_if_ne (pc := 10) (tgt := 18) C dX12_readLaw_10 (by decide) (fun c5 => ?_) (fun c5 => ?_)
  · replace h := ifn c5 h
    exact g_sub [0, 1] rfl (tjX12_readLaw_18 C hR hd h)
  · replace h := ifp c5 h
    refine g_aload_n (pc := 13) C dX12_readLaw_13 rfl 0 rfl ?_
    refine g_iconst (pc := 14) (v := 2) C dX12_readLaw_14 (by decide) ?_
    replace h := bnd2 h; obtain ⟨_u, M32, h1, h⟩ := h
    refine g_callVv (pc := 15) (As := [.int ((2 : Int32))]) (st := []) C dX12_readLaw_15 wX12_fails hk1 rfl (by decide) q_1401 q_57 q_1399 (by omega) rfl (Nat.le_of_ble_eq_true rfl) (kX12_fails (d := 0) (Nat.le_refl _) h1) ?_
    exact g_sub [0, 1] rfl (tjX12_readLaw_18 C hR hd h)
theorem dX12_readLine_0 : decode cX12_readLine 0 = .ok (.aload_n 0, 1) := by decide +kernel
theorem dX12_readLine_1 : decode cX12_readLine 1 = .ok (.getfield 123, 3) := by decide +kernel
theorem dX12_readLine_4 : decode cX12_readLine 4 = .ok (.ifCond .eq 4, 3) := by decide +kernel
theorem dX12_readLine_7 : decode cX12_readLine 7 = .ok (.return_, 1) := by decide +kernel
theorem dX12_readLine_8 : decode cX12_readLine 8 = .ok (.aload_n 0, 1) := by decide +kernel
theorem dX12_readLine_9 : decode cX12_readLine 9 = .ok (.iconst 3, 1) := by decide +kernel
theorem dX12_readLine_10 : decode cX12_readLine 10 = .ok (.invokevirtual 129, 3) := by decide +kernel
theorem dX12_readLine_13 : decode cX12_readLine 13 = .ok (.ifCond .eq 10, 3) := by decide +kernel
theorem dX12_readLine_16 : decode cX12_readLine 16 = .ok (.aload_n 0, 1) := by decide +kernel
theorem dX12_readLine_17 : decode cX12_readLine 17 = .ok (.invokevirtual 187, 3) := by decide +kernel
theorem dX12_readLine_20 : decode cX12_readLine 20 = .ok (.goto 56, 3) := by decide +kernel
theorem dX12_readLine_23 : decode cX12_readLine 23 = .ok (.aload_n 0, 1) := by decide +kernel
theorem dX12_readLine_24 : decode cX12_readLine 24 = .ok (.bipush 8, 2) := by decide +kernel
theorem dX12_readLine_26 : decode cX12_readLine 26 = .ok (.invokevirtual 129, 3) := by decide +kernel
theorem dX12_readLine_29 : decode cX12_readLine 29 = .ok (.ifCond .eq 10, 3) := by decide +kernel
theorem dX12_readLine_32 : decode cX12_readLine 32 = .ok (.aload_n 0, 1) := by decide +kernel
theorem dX12_readLine_33 : decode cX12_readLine 33 = .ok (.invokevirtual 190, 3) := by decide +kernel
theorem dX12_readLine_36 : decode cX12_readLine 36 = .ok (.goto 40, 3) := by decide +kernel
theorem dX12_readLine_39 : decode cX12_readLine 39 = .ok (.aload_n 0, 1) := by decide +kernel
theorem dX12_readLine_40 : decode cX12_readLine 40 = .ok (.getfield 105, 3) := by decide +kernel
theorem dX12_readLine_43 : decode cX12_readLine 43 = .ok (.bipush 9, 2) := by decide +kernel
theorem dX12_readLine_45 : decode cX12_readLine 45 = .ok (.if_icmp .lt 26, 3) := by decide +kernel
theorem dX12_readLine_48 : decode cX12_readLine 48 = .ok (.aload_n 0, 1) := by decide +kernel
theorem dX12_readLine_49 : decode cX12_readLine 49 = .ok (.getfield 105, 3) := by decide +kernel
theorem dX12_readLine_52 : decode cX12_readLine 52 = .ok (.bipush 11, 2) := by decide +kernel
theorem dX12_readLine_54 : decode cX12_readLine 54 = .ok (.if_icmp .gt 17, 3) := by decide +kernel
theorem dX12_readLine_57 : decode cX12_readLine 57 = .ok (.aload_n 0, 1) := by decide +kernel
theorem dX12_readLine_58 : decode cX12_readLine 58 = .ok (.aload_n 0, 1) := by decide +kernel
theorem dX12_readLine_59 : decode cX12_readLine 59 = .ok (.getfield 105, 3) := by decide +kernel
theorem dX12_readLine_62 : decode cX12_readLine 62 = .ok (.bipush 9, 2) := by decide +kernel
theorem dX12_readLine_64 : decode cX12_readLine 64 = .ok (.isub, 1) := by decide +kernel
theorem dX12_readLine_65 : decode cX12_readLine 65 = .ok (.invokevirtual 193, 3) := by decide +kernel
theorem dX12_readLine_68 : decode cX12_readLine 68 = .ok (.goto 8, 3) := by decide +kernel
theorem dX12_readLine_71 : decode cX12_readLine 71 = .ok (.aload_n 0, 1) := by decide +kernel
theorem dX12_readLine_72 : decode cX12_readLine 72 = .ok (.iconst 2, 1) := by decide +kernel
theorem dX12_readLine_73 : decode cX12_readLine 73 = .ok (.invokevirtual 135, 3) := by decide +kernel
theorem dX12_readLine_76 : decode cX12_readLine 76 = .ok (.return_, 1) := by decide +kernel
theorem wX12_readLine : Mw yX12_readLine cX12_readLine 1 none 0 := ⟨q_1418, q_130, by decide, ⟨by decide +kernel, by decide +kernel⟩, by decide +kernel, by decide +kernel⟩
/-- EyeTrainerModel.readLine()V -/
def fX12_readLine (T : Sh) (M : Me) (x0 : Nat) : Option (Unit × Me) :=
  gd (kd T x0 = 11) <| if (gI M x0 11) = 0 then (Option.bind (fX12_is T M x0 (3 : Int32)) fun r3 => if r3 = 0 then (Option.bind (fX12_is T M x0 (8 : Int32)) fun r5 => if r5 = 0 then (if (gI M x0 9) < (9 : Int32) then (Option.bind (fX12_fails T M x0 (2 : Int32)) <| un2 fun _u M8 => some ((), M8)) else (if (11 : Int32) < (gI M x0 9) then (Option.bind (fX12_fails T M x0 (2 : Int32)) <| un2 fun _u M10 => some ((), M10)) else (Option.bind (fX12_readLaw T M x0 ((gI M x0 9) - (9 : Int32))) <| un2 fun _u M11 => some ((), M11)))) else (Option.bind (fX12_readPattern T M x0) <| un2 fun _u M12 => some ((), M12))) else (Option.bind (fX12_readLane T M x0) <| un2 fun _u M13 => some ((), M13))) else (some ((), M))
set_option maxHeartbeats 4000000 in
theorem kX12_readLine {l : Launch} {B : Bx} {d : Nat} (hd : 109 ≤ d) {T : Sh} {M : Me} {x0 : Nat} {M' : Me} (h : fX12_readLine T M x0 = some ((), M')) : Kt l B yX12_readLine cX12_readLine 1 none d [.ref (x0)] T M none T M' := by
  refine kt_of wX12_readLine (Nat.le_refl _) (Nat.le_refl _) (Nat.le_of_ble_eq_true rfl) (fun X C hR hlx hin => ?_)
  subst hlx
  replace C : Cx X B cX12_readLine 1 RX12 d (tp T, sl T, tp T, sl T) := C
  unfold fX12_readLine at h
  show G X B 1 _ _ 0 [(0, .ref (x0))] [] T M
  refine g_aload_n (pc := 0) C dX12_readLine_0 rfl 0 rfl ?_
  replace h := gd_some h; obtain ⟨hk1, h⟩ := h
  refine g_get (pc := 1) (v := .int (gI M x0 11)) C dX12_readLine_1 kX12 hk1 11 (by decide) q_1238 rfl ?_
  refine g_if_eq (pc := 4) (tgt := 8) C dX12_readLine_4 (by decide) (fun c2 => ?_) (fun c2 => ?_)
  · replace h := ifp c2 h
    refine g_aload_n (pc := 8) C dX12_readLine_8 rfl 0 rfl ?_
    refine g_iconst (pc := 9) (v := 3) C dX12_readLine_9 (by decide) ?_
    replace h := bnd h; obtain ⟨r3, h1, h⟩ := h
    refine g_callVi (pc := 10) (As := [.int ((3 : Int32))]) (st := []) C dX12_readLine_10 wX12_is hk1 rfl (by decide) q_1397 q_56 q_1395 (by omega) rfl (Nat.le_of_ble_eq_true rfl) (kX12_is (d := 0) (Nat.le_refl _) h1) ?_
    refine g_if_eq (pc := 13) (tgt := 23) C dX12_readLine_13 (by decide) (fun c4 => ?_) (fun c4 => ?_)
    · replace h := ifp c4 h
      refine g_aload_n (pc := 23) C dX12_readLine_23 rfl 0 rfl ?_
      refine g_bipush (pc := 24) (v := 8) C dX12_readLine_24 (by decide) ?_
      replace h := bnd h; obtain ⟨r5, h1, h⟩ := h
      refine g_callVi (pc := 26) (As := [.int ((8 : Int32))]) (st := []) C dX12_readLine_26 wX12_is hk1 rfl (by decide) q_1397 q_56 q_1395 (by omega) rfl (Nat.le_of_ble_eq_true rfl) (kX12_is (d := 0) (Nat.le_refl _) h1) ?_
      refine g_if_eq (pc := 29) (tgt := 39) C dX12_readLine_29 (by decide) (fun c6 => ?_) (fun c6 => ?_)
      · replace h := ifp c6 h
        refine g_aload_n (pc := 39) C dX12_readLine_39 rfl 0 rfl ?_
        refine g_get (pc := 40) (v := .int (gI M x0 9)) C dX12_readLine_40 kX12 hk1 9 (by decide) q_1236 rfl ?_
        refine g_bipush (pc := 43) (v := 9) C dX12_readLine_43 (by decide) ?_
        refine g_icmp_lt (pc := 45) (tgt := 71) C dX12_readLine_45 (by decide) (fun c7 => ?_) (fun c7 => ?_)
        · replace h := ifp c7 h
          refine g_aload_n (pc := 71) C dX12_readLine_71 rfl 0 rfl ?_
          refine g_iconst (pc := 72) (v := 2) C dX12_readLine_72 (by decide) ?_
          replace h := bnd2 h; obtain ⟨_u, M8, h1, h⟩ := h
          refine g_callVv (pc := 73) (As := [.int ((2 : Int32))]) (st := []) C dX12_readLine_73 wX12_fails hk1 rfl (by decide) q_1401 q_57 q_1399 (by omega) rfl (Nat.le_of_ble_eq_true rfl) (kX12_fails (d := 0) (Nat.le_refl _) h1) ?_
          obtain ⟨-, rfl⟩ := Prod.mk.inj (Option.some.inj h)
          exact g_vret C hR dX12_readLine_76
        · replace h := ifn c7 h
          refine g_aload_n (pc := 48) C dX12_readLine_48 rfl 0 rfl ?_
          refine g_get (pc := 49) (v := .int (gI M x0 9)) C dX12_readLine_49 kX12 hk1 9 (by decide) q_1236 rfl ?_
          refine g_bipush (pc := 52) (v := 11) C dX12_readLine_52 (by decide) ?_
          refine g_icmp_gt (pc := 54) (tgt := 71) C dX12_readLine_54 (by decide) (fun c9 => ?_) (fun c9 => ?_)
          · replace h := ifp c9 h
            refine g_aload_n (pc := 71) C dX12_readLine_71 rfl 0 rfl ?_
            refine g_iconst (pc := 72) (v := 2) C dX12_readLine_72 (by decide) ?_
            replace h := bnd2 h; obtain ⟨_u, M10, h1, h⟩ := h
            refine g_callVv (pc := 73) (As := [.int ((2 : Int32))]) (st := []) C dX12_readLine_73 wX12_fails hk1 rfl (by decide) q_1401 q_57 q_1399 (by omega) rfl (Nat.le_of_ble_eq_true rfl) (kX12_fails (d := 0) (Nat.le_refl _) h1) ?_
            obtain ⟨-, rfl⟩ := Prod.mk.inj (Option.some.inj h)
            exact g_vret C hR dX12_readLine_76
          · replace h := ifn c9 h
            refine g_aload_n (pc := 57) C dX12_readLine_57 rfl 0 rfl ?_
            refine g_aload_n (pc := 58) C dX12_readLine_58 rfl 0 rfl ?_
            refine g_get (pc := 59) (v := .int (gI M x0 9)) C dX12_readLine_59 kX12 hk1 9 (by decide) q_1236 rfl ?_
            refine g_bipush (pc := 62) (v := 9) C dX12_readLine_62 (by decide) ?_
            refine g_isub (pc := 64) C dX12_readLine_64 ?_
            replace h := bnd2 h; obtain ⟨_u, M11, h1, h⟩ := h
            refine g_callVv (pc := 65) (As := [.int ((gI M x0 9) - (9 : Int32))]) (st := []) C dX12_readLine_65 wX12_readLaw hk1 rfl (by decide) q_1429 q_64 q_1427 (by omega) rfl (Nat.le_of_ble_eq_true rfl) (kX12_readLaw (d := 108) (Nat.le_refl _) h1) ?_
            refine g_goto (pc := 68) (tgt := 76) C dX12_readLine_68 (by decide) ?_
            obtain ⟨-, rfl⟩ := Prod.mk.inj (Option.some.inj h)
            exact g_vret C hR dX12_readLine_76
      · replace h := ifn c6 h
        refine g_aload_n (pc := 32) C dX12_readLine_32 rfl 0 rfl ?_
        replace h := bnd2 h; obtain ⟨_u, M12, h1, h⟩ := h
        refine g_callVv (pc := 33) (As := []) (st := []) C dX12_readLine_33 wX12_readPattern hk1 rfl (by decide) q_1425 q_63 q_1423 (by omega) rfl (Nat.le_of_ble_eq_true rfl) (kX12_readPattern (d := 7) (Nat.le_refl _) h1) ?_
        refine g_goto (pc := 36) (tgt := 76) C dX12_readLine_36 (by decide) ?_
        obtain ⟨-, rfl⟩ := Prod.mk.inj (Option.some.inj h)
        exact g_vret C hR dX12_readLine_76
    · replace h := ifn c4 h
      refine g_aload_n (pc := 16) C dX12_readLine_16 rfl 0 rfl ?_
      replace h := bnd2 h; obtain ⟨_u, M13, h1, h⟩ := h
      refine g_callVv (pc := 17) (As := []) (st := []) C dX12_readLine_17 wX12_readLane hk1 rfl (by decide) q_1421 q_62 q_1419 (by omega) rfl (Nat.le_of_ble_eq_true rfl) (kX12_readLane (d := 8) (Nat.le_refl _) h1) ?_
      refine g_goto (pc := 20) (tgt := 76) C dX12_readLine_20 (by decide) ?_
      obtain ⟨-, rfl⟩ := Prod.mk.inj (Option.some.inj h)
      exact g_vret C hR dX12_readLine_76
  · replace h := ifn c2 h
    obtain ⟨-, rfl⟩ := Prod.mk.inj (Option.some.inj h)
    exact g_vret C hR dX12_readLine_7
theorem dX12_lab_0 : decode cX12_lab 0 = .ok (.aload_n 0, 1) := by decide +kernel
theorem dX12_lab_1 : decode cX12_lab 1 = .ok (.iconst 0, 1) := by decide +kernel
theorem dX12_lab_2 : decode cX12_lab 2 = .ok (.putfield 1, 3) := by decide +kernel
theorem dX12_lab_5 : decode cX12_lab 5 = .ok (.iload_n 1, 1) := by decide +kernel
theorem dX12_lab_6 : decode cX12_lab 6 = .ok (.i2l, 1) := by decide +kernel
theorem dX12_lab_7 : decode cX12_lab 7 = .ok (.lconst 0, 1) := by decide +kernel
theorem dX12_lab_8 : decode cX12_lab 8 = .ok (.aload_n 0, 1) := by decide +kernel
theorem dX12_lab_9 : decode cX12_lab 9 = .ok (.getfield 77, 3) := by decide +kernel
theorem dX12_lab_12 : decode cX12_lab 12 = .ok (.i2l, 1) := by decide +kernel
theorem dX12_lab_13 : decode cX12_lab 13 = .ok (.invokestatic 139, 3) := by decide +kernel
theorem dX12_lab_16 : decode cX12_lab 16 = .ok (.ifCond .ne 6, 3) := by decide +kernel
theorem dX12_lab_19 : decode cX12_lab 19 = .ok (.bipush (-3), 2) := by decide +kernel
theorem dX12_lab_21 : decode cX12_lab 21 = .ok (.ireturn, 1) := by decide +kernel
theorem dX12_lab_22 : decode cX12_lab 22 = .ok (.aload_n 0, 1) := by decide +kernel
theorem dX12_lab_23 : decode cX12_lab 23 = .ok (.iload_n 1, 1) := by decide +kernel
theorem dX12_lab_24 : decode cX12_lab 24 = .ok (.putfield 80, 3) := by decide +kernel
theorem dX12_lab_27 : decode cX12_lab 27 = .ok (.aload_n 0, 1) := by decide +kernel
theorem dX12_lab_28 : decode cX12_lab 28 = .ok (.iconst 0, 1) := by decide +kernel
theorem dX12_lab_29 : decode cX12_lab 29 = .ok (.putfield 77, 3) := by decide +kernel
theorem dX12_lab_32 : decode cX12_lab 32 = .ok (.aload_n 0, 1) := by decide +kernel
theorem dX12_lab_33 : decode cX12_lab 33 = .ok (.iconst 0, 1) := by decide +kernel
theorem dX12_lab_34 : decode cX12_lab 34 = .ok (.putfield 98, 3) := by decide +kernel
theorem dX12_lab_37 : decode cX12_lab 37 = .ok (.aload_n 0, 1) := by decide +kernel
theorem dX12_lab_38 : decode cX12_lab 38 = .ok (.iconst 0, 1) := by decide +kernel
theorem dX12_lab_39 : decode cX12_lab 39 = .ok (.putfield 123, 3) := by decide +kernel
theorem dX12_lab_42 : decode cX12_lab 42 = .ok (.aload_n 0, 1) := by decide +kernel
theorem dX12_lab_43 : decode cX12_lab 43 = .ok (.getfield 24, 3) := by decide +kernel
theorem dX12_lab_46 : decode cX12_lab 46 = .ok (.invokestatic 73, 3) := by decide +kernel
theorem dX12_lab_49 : decode cX12_lab 49 = .ok (.aload_n 0, 1) := by decide +kernel
theorem dX12_lab_50 : decode cX12_lab 50 = .ok (.invokevirtual 132, 3) := by decide +kernel
theorem dX12_lab_53 : decode cX12_lab 53 = .ok (.aload_n 0, 1) := by decide +kernel
theorem dX12_lab_54 : decode cX12_lab 54 = .ok (.iconst 0, 1) := by decide +kernel
theorem dX12_lab_55 : decode cX12_lab 55 = .ok (.invokevirtual 158, 3) := by decide +kernel
theorem dX12_lab_58 : decode cX12_lab 58 = .ok (.ifCond .ne 8, 3) := by decide +kernel
theorem dX12_lab_61 : decode cX12_lab 61 = .ok (.aload_n 0, 1) := by decide +kernel
theorem dX12_lab_62 : decode cX12_lab 62 = .ok (.iconst 2, 1) := by decide +kernel
theorem dX12_lab_63 : decode cX12_lab 63 = .ok (.invokevirtual 135, 3) := by decide +kernel
theorem dX12_lab_66 : decode cX12_lab 66 = .ok (.aload_n 0, 1) := by decide +kernel
theorem dX12_lab_67 : decode cX12_lab 67 = .ok (.getfield 24, 3) := by decide +kernel
theorem dX12_lab_70 : decode cX12_lab 70 = .ok (.iconst 1, 1) := by decide +kernel
theorem dX12_lab_71 : decode cX12_lab 71 = .ok (.aload_n 0, 1) := by decide +kernel
theorem dX12_lab_72 : decode cX12_lab 72 = .ok (.iconst 1, 1) := by decide +kernel
theorem dX12_lab_73 : decode cX12_lab 73 = .ok (.iconst 1, 1) := by decide +kernel
theorem dX12_lab_74 : decode cX12_lab 74 = .ok (.bipush 9, 2) := by decide +kernel
theorem dX12_lab_76 : decode cX12_lab 76 = .ok (.invokevirtual 183, 3) := by decide +kernel
theorem dX12_lab_79 : decode cX12_lab 79 = .ok (.iastore, 1) := by decide +kernel
theorem dX12_lab_80 : decode cX12_lab 80 = .ok (.aload_n 0, 1) := by decide +kernel
theorem dX12_lab_81 : decode cX12_lab 81 = .ok (.getfield 24, 3) := by decide +kernel
theorem dX12_lab_84 : decode cX12_lab 84 = .ok (.iconst 2, 1) := by decide +kernel
theorem dX12_lab_85 : decode cX12_lab 85 = .ok (.aload_n 0, 1) := by decide +kernel
theorem dX12_lab_86 : decode cX12_lab 86 = .ok (.iconst 2, 1) := by decide +kernel
theorem dX12_lab_87 : decode cX12_lab 87 = .ok (.iconst 1, 1) := by decide +kernel
theorem dX12_lab_88 : decode cX12_lab 88 = .ok (.bipush 9, 2) := by decide +kernel
theorem dX12_lab_90 : decode cX12_lab 90 = .ok (.invokevirtual 183, 3) := by decide +kernel
theorem dX12_lab_93 : decode cX12_lab 93 = .ok (.iastore, 1) := by decide +kernel
theorem dX12_lab_94 : decode cX12_lab 94 = .ok (.aload_n 0, 1) := by decide +kernel
theorem dX12_lab_95 : decode cX12_lab 95 = .ok (.invokevirtual 196, 3) := by decide +kernel
theorem dX12_lab_98 : decode cX12_lab 98 = .ok (.aload_n 0, 1) := by decide +kernel
theorem dX12_lab_99 : decode cX12_lab 99 = .ok (.getfield 123, 3) := by decide +kernel
theorem dX12_lab_102 : decode cX12_lab 102 = .ok (.ifCond .ne 23, 3) := by decide +kernel
theorem dX12_lab_105 : decode cX12_lab 105 = .ok (.aload_n 0, 1) := by decide +kernel
theorem dX12_lab_106 : decode cX12_lab 106 = .ok (.getfield 105, 3) := by decide +kernel
theorem dX12_lab_109 : decode cX12_lab 109 = .ok (.bipush 26, 2) := by decide +kernel
theorem dX12_lab_111 : decode cX12_lab 111 = .ok (.if_icmp .eq 14, 3) := by decide +kernel
theorem dX12_lab_114 : decode cX12_lab 114 = .ok (.aload_n 0, 1) := by decide +kernel
theorem dX12_lab_115 : decode cX12_lab 115 = .ok (.invokevirtual 199, 3) := by decide +kernel
theorem dX12_lab_118 : decode cX12_lab 118 = .ok (.aload_n 0, 1) := by decide +kernel
theorem dX12_lab_119 : decode cX12_lab 119 = .ok (.invokevirtual 196, 3) := by decide +kernel
theorem dX12_lab_122 : decode cX12_lab 122 = .ok (.goto (-24), 3) := by decide +kernel
theorem dX12_lab_125 : decode cX12_lab 125 = .ok (.aload_n 0, 1) := by decide +kernel
theorem dX12_lab_126 : decode cX12_lab 126 = .ok (.aload_n 0, 1) := by decide +kernel
theorem dX12_lab_127 : decode cX12_lab 127 = .ok (.getfield 123, 3) := by decide +kernel
theorem dX12_lab_130 : decode cX12_lab 130 = .ok (.putfield 202, 3) := by decide +kernel
theorem dX12_lab_133 : decode cX12_lab 133 = .ok (.aload_n 0, 1) := by decide +kernel
theorem dX12_lab_134 : decode cX12_lab 134 = .ok (.aload_n 0, 1) := by decide +kernel
theorem dX12_lab_135 : decode cX12_lab 135 = .ok (.getfield 123, 3) := by decide +kernel
theorem dX12_lab_138 : decode cX12_lab 138 = .ok (.ifCond .ne 7, 3) := by decide +kernel
theorem dX12_lab_141 : decode cX12_lab 141 = .ok (.iconst (-1), 1) := by decide +kernel
theorem dX12_lab_142 : decode cX12_lab 142 = .ok (.goto 7, 3) := by decide +kernel
theorem dX12_lab_145 : decode cX12_lab 145 = .ok (.aload_n 0, 1) := by decide +kernel
theorem dX12_lab_146 : decode cX12_lab 146 = .ok (.getfield 126, 3) := by decide +kernel
theorem dX12_lab_149 : decode cX12_lab 149 = .ok (.putfield 27, 3) := by decide +kernel
theorem dX12_lab_152 : decode cX12_lab 152 = .ok (.aload_n 0, 1) := by decide +kernel
theorem dX12_lab_153 : decode cX12_lab 153 = .ok (.getfield 123, 3) := by decide +kernel
theorem dX12_lab_156 : decode cX12_lab 156 = .ok (.ifCond .eq 11, 3) := by decide +kernel
theorem dX12_lab_159 : decode cX12_lab 159 = .ok (.bipush (-30), 2) := by decide +kernel
theorem dX12_lab_161 : decode cX12_lab 161 = .ok (.aload_n 0, 1) := by decide +kernel
theorem dX12_lab_162 : decode cX12_lab 162 = .ok (.getfield 123, 3) := by decide +kernel
theorem dX12_lab_165 : decode cX12_lab 165 = .ok (.isub, 1) := by decide +kernel
theorem dX12_lab_166 : decode cX12_lab 166 = .ok (.ireturn, 1) := by decide +kernel
theorem dX12_lab_167 : decode cX12_lab 167 = .ok (.iconst 0, 1) := by decide +kernel
theorem dX12_lab_168 : decode cX12_lab 168 = .ok (.istore_n 2, 1) := by decide +kernel
theorem dX12_lab_169 : decode cX12_lab 169 = .ok (.iload_n 2, 1) := by decide +kernel
theorem dX12_lab_170 : decode cX12_lab 170 = .ok (.sipush 1032, 3) := by decide +kernel
theorem dX12_lab_173 : decode cX12_lab 173 = .ok (.if_icmp .ge 21, 3) := by decide +kernel
theorem dX12_lab_176 : decode cX12_lab 176 = .ok (.aload_n 0, 1) := by decide +kernel
theorem dX12_lab_177 : decode cX12_lab 177 = .ok (.getfield 13, 3) := by decide +kernel
theorem dX12_lab_180 : decode cX12_lab 180 = .ok (.iload_n 2, 1) := by decide +kernel
theorem dX12_lab_181 : decode cX12_lab 181 = .ok (.aload_n 0, 1) := by decide +kernel
theorem dX12_lab_182 : decode cX12_lab 182 = .ok (.getfield 24, 3) := by decide +kernel
theorem dX12_lab_185 : decode cX12_lab 185 = .ok (.iload_n 2, 1) := by decide +kernel
theorem dX12_lab_186 : decode cX12_lab 186 = .ok (.iaload, 1) := by decide +kernel
theorem dX12_lab_187 : decode cX12_lab 187 = .ok (.iastore, 1) := by decide +kernel
theorem dX12_lab_188 : decode cX12_lab 188 = .ok (.iinc 2 1, 3) := by decide +kernel
theorem dX12_lab_191 : decode cX12_lab 191 = .ok (.goto (-22), 3) := by decide +kernel
theorem dX12_lab_194 : decode cX12_lab 194 = .ok (.aload_n 0, 1) := by decide +kernel
theorem dX12_lab_195 : decode cX12_lab 195 = .ok (.getfield 13, 3) := by decide +kernel
theorem dX12_lab_198 : decode cX12_lab 198 = .ok (.iconst 0, 1) := by decide +kernel
theorem dX12_lab_199 : decode cX12_lab 199 = .ok (.iaload, 1) := by decide +kernel
theorem dX12_lab_200 : decode cX12_lab 200 = .ok (.ireturn, 1) := by decide +kernel
theorem wX12_lab : Mw yX12_lab cX12_lab 3 (some .int) 1 := ⟨q_1365, q_130, by decide, ⟨by decide +kernel, by decide +kernel⟩, by decide +kernel, by decide +kernel⟩
-- a loop of EyeTrainerModel.lab at 98
def bX12_lab_98 (T : Sh) (x0 : Nat) (M : Me) : Option ((Me) ⊕ (Me)) :=
  gd (kd T x0 = 11) <| if (gI M x0 11) = 0 then (if (gI M x0 9) = (26 : Int32) then (some (.inr M)) else (Option.bind (fX12_readLine T M x0) <| un2 fun _u M32 => Option.bind (fX12_closes T M32 x0) <| un2 fun _u M33 => some (.inl M33))) else (some (.inr M))
def PX12_lab_98 (X : Fx) (B : Bx) (Z : Nat × Nat × Nat × Nat) (Q : State → Prop) (T : Sh) (x0 : Nat) (s : Me) : Prop := G X B 3 Z Q 98 [(0, .ref (x0))] [] T s
def EX12_lab_98 (X : Fx) (B : Bx) (Z : Nat × Nat × Nat × Nat) (Q : State → Prop) (T : Sh) (x0 : Nat) (r : Me) : Prop := G X B 3 Z Q 125 [(0, .ref (x0))] [] T r
set_option maxHeartbeats 4000000 in
theorem tbX12_lab_98 {X : Fx} {B : Bx} {Z : Nat × Nat × Nat × Nat} {Q : State → Prop} {d : Nat} {T : Sh} (C : Cx X B cX12_lab 3 RX12 d Z) (hd : 110 ≤ d) {x0 : Nat} : ∀ (s : Me) (o : (Me) ⊕ (Me)), bX12_lab_98 T x0 s = some o → lpE (PX12_lab_98 X B Z Q T x0) (EX12_lab_98 X B Z Q T x0) o → PX12_lab_98 X B Z Q T x0 s := by
  rintro M o h hE
  replace h : bX12_lab_98 T x0 M = some o := h
  unfold bX12_lab_98 at h
  show G X B 3 Z Q 98 [(0, .ref (x0))] [] T M
  refine g_aload_n (pc := 98) C dX12_lab_98 rfl 0 rfl ?_
  replace h := gd_some h; obtain ⟨hk29, h⟩ := h
  refine g_get (pc := 99) (v := .int (gI M x0 11)) C dX12_lab_99 kX12 hk29 11 (by decide) q_1238 rfl ?_
  refine g_if_ne (pc := 102) (tgt := 125) C dX12_lab_102 (by decide) (fun c30 => ?_) (fun c30 => ?_)
  · replace h := ifn c30 h
    obtain rfl := Option.some.inj h
    exact g_sub [0] rfl (show G X B 3 Z Q 125 [(0, .ref (x0))] [] T M from hE)
  · replace h := ifp c30 h
    refine g_aload_n (pc := 105) C dX12_lab_105 rfl 0 rfl ?_
    refine g_get (pc := 106) (v := .int (gI M x0 9)) C dX12_lab_106 kX12 hk29 9 (by decide) q_1236 rfl ?_
    refine g_bipush (pc := 109) (v := 26) C dX12_lab_109 (by decide) ?_
    refine g_icmp_eq (pc := 111) (tgt := 125) C dX12_lab_111 (by decide) (fun c31 => ?_) (fun c31 => ?_)
    · replace h := ifp c31 h
      obtain rfl := Option.some.inj h
      exact g_sub [0] rfl (show G X B 3 Z Q 125 [(0, .ref (x0))] [] T M from hE)
    · replace h := ifn c31 h
      refine g_aload_n (pc := 114) C dX12_lab_114 rfl 0 rfl ?_
      replace h := bnd2 h; obtain ⟨_u, M32, h1, h⟩ := h
      refine g_callVv (pc := 115) (As := []) (st := []) C dX12_lab_115 wX12_readLine hk29 rfl (by decide) q_1417 q_61 q_1415 (by omega) rfl (Nat.le_of_ble_eq_true rfl) (kX12_readLine (d := 109) (Nat.le_refl _) h1) ?_
      refine g_aload_n (pc := 118) C dX12_lab_118 rfl 0 rfl ?_
      replace h := bnd2 h; obtain ⟨_u, M33, h1, h⟩ := h
      refine g_callVv (pc := 119) (As := []) (st := []) C dX12_lab_119 wX12_closes hk29 rfl (by decide) q_1413 q_60 q_1411 (by omega) rfl (Nat.le_of_ble_eq_true rfl) (kX12_closes (d := 7) (Nat.le_refl _) h1) ?_
      refine g_goto (pc := 122) (tgt := 98) C dX12_lab_122 (by decide) ?_
      obtain rfl := Option.some.inj h
      exact g_sub [0] rfl (show G X B 3 Z Q 98 [(0, .ref (x0))] [] T M33 from hE)
-- a loop of EyeTrainerModel.lab at 169
def bX12_lab_169 (T : Sh) (x0 : Nat) (x2 : Int32) (M : Me) : Option ((Int32 × Me) ⊕ (Me)) :=
  if (1032 : Int32) ≤ x2 then (some (.inr M)) else (gd (kd T x0 = 11) <| Option.bind (gR M x0 1) fun a43 => Option.bind (gR M x0 4) fun a44 => gd (kd T a44 = 13) <| gv x2 (ln T a44) <| gd (kd T a43 = 13) <| gv x2 (ln T a43) <| lt (pI M a43 (Int32.toNatClampNeg x2) (gI M a44 (Int32.toNatClampNeg x2))) fun M49 => lt (x2 + (1 : Int32)) fun v50 => some (.inl (v50, M49)))
def PX12_lab_169 (X : Fx) (B : Bx) (Z : Nat × Nat × Nat × Nat) (Q : State → Prop) (T : Sh) (x0 : Nat) (s : Int32 × Me) : Prop := G X B 3 Z Q 169 [(0, .ref (x0)), (2, .int (s.1))] [] T s.2
def EX12_lab_169 (X : Fx) (B : Bx) (Z : Nat × Nat × Nat × Nat) (Q : State → Prop) (T : Sh) (x0 : Nat) (r : Me) : Prop := G X B 3 Z Q 194 [(0, .ref (x0))] [] T r
set_option maxHeartbeats 4000000 in
theorem tbX12_lab_169 {X : Fx} {B : Bx} {Z : Nat × Nat × Nat × Nat} {Q : State → Prop} {d : Nat} {T : Sh} (C : Cx X B cX12_lab 3 RX12 d Z) (hd : 110 ≤ d) {x0 : Nat} : ∀ (s : Int32 × Me) (o : (Int32 × Me) ⊕ (Me)), bX12_lab_169 T x0 s.1 s.2 = some o → lpE (PX12_lab_169 X B Z Q T x0) (EX12_lab_169 X B Z Q T x0) o → PX12_lab_169 X B Z Q T x0 s := by
  rintro ⟨x2, M⟩ o h hE
  replace h : bX12_lab_169 T x0 x2 M = some o := h
  unfold bX12_lab_169 at h
  show G X B 3 Z Q 169 [(0, .ref (x0)), (2, .int (x2))] [] T M
  refine g_iload_n (pc := 169) C dX12_lab_169 rfl 1 rfl ?_
  refine g_sipush (pc := 170) (v := 1032) C dX12_lab_170 (by decide) ?_
  refine g_icmp_ge (pc := 173) (tgt := 194) C dX12_lab_173 (by decide) (fun c41 => ?_) (fun c41 => ?_)
  · replace h := ifp c41 h
    obtain rfl := Option.some.inj h
    exact g_sub [0] rfl (show G X B 3 Z Q 194 [(0, .ref (x0))] [] T M from hE)
  · replace h := ifn c41 h
    refine g_aload_n (pc := 176) C dX12_lab_176 rfl 0 rfl ?_
    replace h := gd_some h; obtain ⟨hk42, h⟩ := h
    refine g_get (pc := 177) (v := va_rf (gR M x0 1)) C dX12_lab_177 kX12 hk42 1 (by decide) q_1228 rfl ?_
    replace h := bnd h; obtain ⟨a43, ea43, h⟩ := h
    refine g_refq ea43 ?_
    refine g_iload_n (pc := 180) C dX12_lab_180 rfl 1 rfl ?_
    refine g_aload_n (pc := 181) C dX12_lab_181 rfl 0 rfl ?_
    refine g_get (pc := 182) (v := va_rf (gR M x0 4)) C dX12_lab_182 kX12 hk42 4 (by decide) q_1231 rfl ?_
    replace h := bnd h; obtain ⟨a44, ea44, h⟩ := h
    refine g_refq ea44 ?_
    refine g_iload_n (pc := 185) C dX12_lab_185 rfl 1 rfl ?_
    replace h := gd_some h; obtain ⟨hk45, h⟩ := h
    replace h := gv_some h; obtain ⟨hi46, h⟩ := h
    refine g_iald (pc := 186) C dX12_lab_186 hk45 hi46 ?_
    replace h := gd_some h; obtain ⟨hk47, h⟩ := h
    replace h := gv_some h; obtain ⟨hi48, h⟩ := h
    refine g_iast (pc := 187) C dX12_lab_187 hk47 hi48 ?_
    refine g_mem (fun M49 eM49 => ?_)
    replace h := lt_at eM49 h
    obtain ⟨v50, ev50⟩ : ∃ y : Int32, y = x2 + (1 : Int32) := ⟨_, rfl⟩
    replace h := lt_at ev50 h
    refine g_iinc (pc := 188) (v := v50) (k := 1) (lo2 := [(2, .int (v50)), (0, .ref (x0))]) C dX12_lab_188 rfl (by rw [ev50]; rfl) (by decide) rfl ?_
    refine g_goto (pc := 191) (tgt := 169) C dX12_lab_191 (by decide) ?_
    obtain rfl := Option.some.inj h
    exact g_sub [1, 0] rfl (show G X B 3 Z Q 169 [(0, .ref (x0)), (2, .int (v50))] [] T M49 from hE)
def jX12_lab_149 (T : Sh) (M : Me) (x0 : Nat) (s0 : Int32) (s1 : Nat) : Option (Int32 × Me) :=
  gd (kd T s1 = 11) <| lt (pI M s1 14 s0) fun M38 => gd (kd T x0 = 11) <| if (gI M38 x0 11) = 0 then ((lp FU (fun s => bX12_lab_169 T x0 s.1 s.2) ((0 : Int32), M38)).bind (fun M51 => Option.bind (gR M51 x0 1) fun a52 => gd (kd T a52 = 13) <| gv (0 : Int32) (ln T a52) <| some ((gI M51 a52 (Int32.toNatClampNeg (0 : Int32))), M51))) else (some (((-30 : Int32) - (gI M38 x0 11)), M38))
set_option maxHeartbeats 4000000 in
theorem tjX12_lab_149 {X : Fx} {B : Bx} {Z : Nat × Nat × Nat × Nat} {d : Nat} {T : Sh} {M : Me} {x0 : Nat} {s0 : Int32} {s1 : Nat} {r : Int32} {M' : Me} (C : Cx X B cX12_lab 3 RX12 d Z) (hR : Rx X (some .int)) (hd : 110 ≤ d) (h : jX12_lab_149 T M x0 s0 s1 = some (r, M')) : G X B 3 Z (Qf X B Z (some (.int r)) T M') 149 [(0, .ref (x0))] [.int (s0), .ref (s1)] T M := by
  unfold jX12_lab_149 at h
  replace h := gd_some h; obtain ⟨hk37, h⟩ := h
  refine g_putI (pc := 149) C dX12_lab_149 kX12 hk37 14 (by decide) rfl rfl rfl q_1241 ?_
  refine g_mem (fun M38 eM38 => ?_)
  replace h := lt_at eM38 h
  refine g_aload_n (pc := 152) C dX12_lab_152 rfl 0 rfl ?_
  replace h := gd_some h; obtain ⟨hk39, h⟩ := h
  refine g_get (pc := 153) (v := .int (gI M38 x0 11)) C dX12_lab_153 kX12 hk39 11 (by decide) q_1238 rfl ?_
  refine g_if_eq (pc := 156) (tgt := 167) C dX12_lab_156 (by decide) (fun c40 => ?_) (fun c40 => ?_)
  · replace h := ifp c40 h
    refine g_iconst (pc := 167) (v := 0) C dX12_lab_167 (by decide) ?_
    refine g_istore_n (pc := 168) (lo2 := [(2, .int ((0 : Int32))), (0, .ref (x0))]) C dX12_lab_168 rfl (by decide) rfl ?_
    replace h := bnd h; obtain ⟨M51, h1, h⟩ := h
    refine g_sub [1, 0] rfl ?_
    refine lp_G2 (P := PX12_lab_169 X B _ _ T x0) (E := EX12_lab_169 X B _ _ T x0) (tbX12_lab_169 C hd) h1 ?_
    show G X B 3 _ _ 194 [(0, .ref (x0))] [] T M51
    refine g_aload_n (pc := 194) C dX12_lab_194 rfl 0 rfl ?_
    refine g_get (pc := 195) (v := va_rf (gR M51 x0 1)) C dX12_lab_195 kX12 hk39 1 (by decide) q_1228 rfl ?_
    replace h := bnd h; obtain ⟨a52, ea52, h⟩ := h
    refine g_refq ea52 ?_
    refine g_iconst (pc := 198) (v := 0) C dX12_lab_198 (by decide) ?_
    replace h := gd_some h; obtain ⟨hk53, h⟩ := h
    replace h := gv_some h; obtain ⟨hi54, h⟩ := h
    refine g_iald (pc := 199) C dX12_lab_199 hk53 hi54 ?_
    obtain ⟨rfl, rfl⟩ := Prod.mk.inj (Option.some.inj h)
    exact g_iret C hR dX12_lab_200
  · replace h := ifn c40 h
    refine g_bipush (pc := 159) (v := (-30)) C dX12_lab_159 (by decide) ?_
    refine g_aload_n (pc := 161) C dX12_lab_161 rfl 0 rfl ?_
    refine g_get (pc := 162) (v := .int (gI M38 x0 11)) C dX12_lab_162 kX12 hk39 11 (by decide) q_1238 rfl ?_
    refine g_isub (pc := 165) C dX12_lab_165 ?_
    obtain ⟨rfl, rfl⟩ := Prod.mk.inj (Option.some.inj h)
    exact g_iret C hR dX12_lab_166
def jX12_lab_66 (T : Sh) (M : Me) (x0 : Nat) : Option (Int32 × Me) :=
  gd (kd T x0 = 11) <| Option.bind (gR M x0 4) fun a16 => Option.bind (fX12_named T M x0 (1 : Int32) (1 : Int32) (9 : Int32)) <| un2 fun r17 M18 => gd (kd T a16 = 13) <| gv (1 : Int32) (ln T a16) <| lt (pI M18 a16 (Int32.toNatClampNeg (1 : Int32)) r17) fun M21 => Option.bind (gR M21 x0 4) fun a22 => Option.bind (fX12_named T M21 x0 (2 : Int32) (1 : Int32) (9 : Int32)) <| un2 fun r23 M24 => gd (kd T a22 = 13) <| gv (2 : Int32) (ln T a22) <| lt (pI M24 a22 (Int32.toNatClampNeg (2 : Int32)) r23) fun M27 => Option.bind (fX12_closes T M27 x0) <| un2 fun _u M28 => (lp FU (fun s => bX12_lab_98 T x0 s) M28).bind (fun M34 => lt (pI M34 x0 13 (gI M34 x0 11)) fun M35 => if (gI M35 x0 11) = 0 then (jX12_lab_149 T M35 x0 (-1 : Int32) x0) else (jX12_lab_149 T M35 x0 (gI M35 x0 12) x0))
set_option maxHeartbeats 4000000 in
theorem tjX12_lab_66 {X : Fx} {B : Bx} {Z : Nat × Nat × Nat × Nat} {d : Nat} {T : Sh} {M : Me} {x0 : Nat} {r : Int32} {M' : Me} (C : Cx X B cX12_lab 3 RX12 d Z) (hR : Rx X (some .int)) (hd : 110 ≤ d) (h : jX12_lab_66 T M x0 = some (r, M')) : G X B 3 Z (Qf X B Z (some (.int r)) T M') 66 [(0, .ref (x0))] [] T M := by
  unfold jX12_lab_66 at h
  refine g_aload_n (pc := 66) C dX12_lab_66 rfl 0 rfl ?_
  replace h := gd_some h; obtain ⟨hk15, h⟩ := h
  refine g_get (pc := 67) (v := va_rf (gR M x0 4)) C dX12_lab_67 kX12 hk15 4 (by decide) q_1231 rfl ?_
  replace h := bnd h; obtain ⟨a16, ea16, h⟩ := h
  refine g_refq ea16 ?_
  refine g_iconst (pc := 70) (v := 1) C dX12_lab_70 (by decide) ?_
  refine g_aload_n (pc := 71) C dX12_lab_71 rfl 0 rfl ?_
  refine g_iconst (pc := 72) (v := 1) C dX12_lab_72 (by decide) ?_
  refine g_iconst (pc := 73) (v := 1) C dX12_lab_73 (by decide) ?_
  refine g_bipush (pc := 74) (v := 9) C dX12_lab_74 (by decide) ?_
  replace h := bnd2 h; obtain ⟨r17, M18, h1, h⟩ := h
  refine g_callVi (pc := 76) (As := [.int ((1 : Int32)), .int ((1 : Int32)), .int ((9 : Int32))]) (st := [.int ((1 : Int32)), .ref (a16)]) C dX12_lab_76 wX12_named hk15 rfl (by decide) q_1405 q_58 q_1403 (by omega) rfl (Nat.le_of_ble_eq_true rfl) (kX12_named (d := 7) (Nat.le_refl _) h1) ?_
  replace h := gd_some h; obtain ⟨hk19, h⟩ := h
  replace h := gv_some h; obtain ⟨hi20, h⟩ := h
  refine g_iast (pc := 79) C dX12_lab_79 hk19 hi20 ?_
  refine g_mem (fun M21 eM21 => ?_)
  replace h := lt_at eM21 h
  refine g_aload_n (pc := 80) C dX12_lab_80 rfl 0 rfl ?_
  refine g_get (pc := 81) (v := va_rf (gR M21 x0 4)) C dX12_lab_81 kX12 hk15 4 (by decide) q_1231 rfl ?_
  replace h := bnd h; obtain ⟨a22, ea22, h⟩ := h
  refine g_refq ea22 ?_
  refine g_iconst (pc := 84) (v := 2) C dX12_lab_84 (by decide) ?_
  refine g_aload_n (pc := 85) C dX12_lab_85 rfl 0 rfl ?_
  refine g_iconst (pc := 86) (v := 2) C dX12_lab_86 (by decide) ?_
  refine g_iconst (pc := 87) (v := 1) C dX12_lab_87 (by decide) ?_
  refine g_bipush (pc := 88) (v := 9) C dX12_lab_88 (by decide) ?_
  replace h := bnd2 h; obtain ⟨r23, M24, h1, h⟩ := h
  refine g_callVi (pc := 90) (As := [.int ((2 : Int32)), .int ((1 : Int32)), .int ((9 : Int32))]) (st := [.int ((2 : Int32)), .ref (a22)]) C dX12_lab_90 wX12_named hk15 rfl (by decide) q_1405 q_58 q_1403 (by omega) rfl (Nat.le_of_ble_eq_true rfl) (kX12_named (d := 7) (Nat.le_refl _) h1) ?_
  replace h := gd_some h; obtain ⟨hk25, h⟩ := h
  replace h := gv_some h; obtain ⟨hi26, h⟩ := h
  refine g_iast (pc := 93) C dX12_lab_93 hk25 hi26 ?_
  refine g_mem (fun M27 eM27 => ?_)
  replace h := lt_at eM27 h
  refine g_aload_n (pc := 94) C dX12_lab_94 rfl 0 rfl ?_
  replace h := bnd2 h; obtain ⟨_u, M28, h1, h⟩ := h
  refine g_callVv (pc := 95) (As := []) (st := []) C dX12_lab_95 wX12_closes hk15 rfl (by decide) q_1413 q_60 q_1411 (by omega) rfl (Nat.le_of_ble_eq_true rfl) (kX12_closes (d := 7) (Nat.le_refl _) h1) ?_
  replace h := bnd h; obtain ⟨M34, h1, h⟩ := h
  refine g_sub [0] rfl ?_
  refine lp_G2 (P := PX12_lab_98 X B _ _ T x0) (E := EX12_lab_98 X B _ _ T x0) (tbX12_lab_98 C hd) h1 ?_
  show G X B 3 _ _ 125 [(0, .ref (x0))] [] T M34
  refine g_aload_n (pc := 125) C dX12_lab_125 rfl 0 rfl ?_
  refine g_aload_n (pc := 126) C dX12_lab_126 rfl 0 rfl ?_
  refine g_get (pc := 127) (v := .int (gI M34 x0 11)) C dX12_lab_127 kX12 hk15 11 (by decide) q_1238 rfl ?_
  refine g_putI (pc := 130) C dX12_lab_130 kX12 hk15 13 (by decide) rfl rfl rfl q_1240 ?_
  refine g_mem (fun M35 eM35 => ?_)
  replace h := lt_at eM35 h
  refine g_aload_n (pc := 133) C dX12_lab_133 rfl 0 rfl ?_
  refine g_aload_n (pc := 134) C dX12_lab_134 rfl 0 rfl ?_
  refine g_get (pc := 135) (v := .int (gI M35 x0 11)) C dX12_lab_135 kX12 hk15 11 (by decide) q_1238 rfl ?_
  refine g_if_ne (pc := 138) (tgt := 145) C dX12_lab_138 (by decide) (fun c36 => ?_) (fun c36 => ?_)
  · replace h := ifn c36 h
    refine g_aload_n (pc := 145) C dX12_lab_145 rfl 0 rfl ?_
    refine g_get (pc := 146) (v := .int (gI M35 x0 12)) C dX12_lab_146 kX12 hk15 12 (by decide) q_1239 rfl ?_
    exact g_sub [0] rfl (tjX12_lab_149 C hR hd h)
  · replace h := ifp c36 h
    refine g_iconst (pc := 141) (v := (-1)) C dX12_lab_141 (by decide) ?_
    refine g_goto (pc := 142) (tgt := 149) C dX12_lab_142 (by decide) ?_
    exact g_sub [0] rfl (tjX12_lab_149 C hR hd h)
/-- EyeTrainerModel.lab(I)I -/
def fX12_lab (T : Sh) (M : Me) (x0 : Nat) (x1 : Int32) : Option (Int32 × Me) :=
  gd (kd T x0 = 11) <| lt (pI M x0 0 (0 : Int32)) fun M2 => Option.bind (fX12_within (Int32.toInt64 x1) (0 : Int64) (Int32.toInt64 (gI M2 x0 5))) fun r3 => if r3 = 0 then (some ((-3 : Int32), M2)) else (lt (pI M2 x0 8 x1) fun M5 => lt (pI M5 x0 5 (0 : Int32)) fun M6 => lt (pI M6 x0 7 (0 : Int32)) fun M7 => lt (pI M7 x0 11 (0 : Int32)) fun M8 => Option.bind (gR M8 x0 4) fun a9 => Option.bind (fX12_plain T M8 a9) <| un2 fun _u M10 => Option.bind (fX12_next T M10 x0) <| un2 fun _u M11 => Option.bind (fX12_eats T M11 x0 (0 : Int32)) <| un2 fun r12 M13 => if r12 = 0 then (Option.bind (fX12_fails T M13 x0 (2 : Int32)) <| un2 fun _u M55 => jX12_lab_66 T M55 x0) else (jX12_lab_66 T M13 x0))
set_option maxHeartbeats 4000000 in
theorem kX12_lab {l : Launch} {B : Bx} {d : Nat} (hd : 110 ≤ d) {T : Sh} {M : Me} {x0 : Nat} {x1 : Int32} {r : Int32} {M' : Me} (h : fX12_lab T M x0 x1 = some (r, M')) : Kt l B yX12_lab cX12_lab 3 (some .int) d [.ref (x0), .int (x1)] T M (some (.int r)) T M' := by
  refine kt_of wX12_lab (Nat.le_refl _) (Nat.le_refl _) (Nat.le_of_ble_eq_true rfl) (fun X C hR hlx hin => ?_)
  subst hlx
  replace C : Cx X B cX12_lab 3 RX12 d (tp T, sl T, tp T, sl T) := C
  unfold fX12_lab at h
  show G X B 3 _ _ 0 [(0, .ref (x0)), (1, .int (x1))] [] T M
  refine g_aload_n (pc := 0) C dX12_lab_0 rfl 0 rfl ?_
  refine g_iconst (pc := 1) (v := 0) C dX12_lab_1 (by decide) ?_
  replace h := gd_some h; obtain ⟨hk1, h⟩ := h
  refine g_putI (pc := 2) C dX12_lab_2 kX12 hk1 0 (by decide) rfl rfl rfl q_1227 ?_
  refine g_mem (fun M2 eM2 => ?_)
  replace h := lt_at eM2 h
  refine g_iload_n (pc := 5) C dX12_lab_5 rfl 1 rfl ?_
  refine g_i2l (pc := 6) C dX12_lab_6 ?_
  refine g_lconst (pc := 7) (v := 0) C dX12_lab_7 rfl ?_
  refine g_aload_n (pc := 8) C dX12_lab_8 rfl 0 rfl ?_
  refine g_get (pc := 9) (v := .int (gI M2 x0 5)) C dX12_lab_9 kX12 hk1 5 (by decide) q_1232 rfl ?_
  refine g_i2l (pc := 12) C dX12_lab_12 ?_
  replace h := bnd h; obtain ⟨r3, h1, h⟩ := h
  refine g_callSi (pc := 13) (As := [.long (Int32.toInt64 x1), .long ((0 : Int64)), .long (Int32.toInt64 (gI M2 x0 5))]) (st := []) C dX12_lab_13 wX12_within q_1367 q_1366 (by omega) rfl (Nat.le_of_ble_eq_true rfl) (kX12_within (d := 0) (Nat.le_refl _) h1) ?_
  refine g_if_ne (pc := 16) (tgt := 22) C dX12_lab_16 (by decide) (fun c4 => ?_) (fun c4 => ?_)
  · replace h := ifn c4 h
    refine g_aload_n (pc := 22) C dX12_lab_22 rfl 0 rfl ?_
    refine g_iload_n (pc := 23) C dX12_lab_23 rfl 1 rfl ?_
    refine g_putI (pc := 24) C dX12_lab_24 kX12 hk1 8 (by decide) rfl rfl rfl q_1235 ?_
    refine g_mem (fun M5 eM5 => ?_)
    replace h := lt_at eM5 h
    refine g_aload_n (pc := 27) C dX12_lab_27 rfl 0 rfl ?_
    refine g_iconst (pc := 28) (v := 0) C dX12_lab_28 (by decide) ?_
    refine g_putI (pc := 29) C dX12_lab_29 kX12 hk1 5 (by decide) rfl rfl rfl q_1232 ?_
    refine g_mem (fun M6 eM6 => ?_)
    replace h := lt_at eM6 h
    refine g_aload_n (pc := 32) C dX12_lab_32 rfl 0 rfl ?_
    refine g_iconst (pc := 33) (v := 0) C dX12_lab_33 (by decide) ?_
    refine g_putI (pc := 34) C dX12_lab_34 kX12 hk1 7 (by decide) rfl rfl rfl q_1234 ?_
    refine g_mem (fun M7 eM7 => ?_)
    replace h := lt_at eM7 h
    refine g_aload_n (pc := 37) C dX12_lab_37 rfl 0 rfl ?_
    refine g_iconst (pc := 38) (v := 0) C dX12_lab_38 (by decide) ?_
    refine g_putI (pc := 39) C dX12_lab_39 kX12 hk1 11 (by decide) rfl rfl rfl q_1238 ?_
    refine g_mem (fun M8 eM8 => ?_)
    replace h := lt_at eM8 h
    refine g_aload_n (pc := 42) C dX12_lab_42 rfl 0 rfl ?_
    refine g_get (pc := 43) (v := va_rf (gR M8 x0 4)) C dX12_lab_43 kX12 hk1 4 (by decide) q_1231 rfl ?_
    replace h := bnd h; obtain ⟨a9, ea9, h⟩ := h
    refine g_refq ea9 ?_
    replace h := bnd2 h; obtain ⟨_u, M10, h1, h⟩ := h
    refine g_callSv (pc := 46) (As := [.ref (a9)]) (st := []) C dX12_lab_46 wX12_plain q_1225 q_1224 (by omega) rfl (Nat.le_of_ble_eq_true rfl) (kX12_plain (d := 0) (Nat.le_refl _) h1) ?_
    refine g_aload_n (pc := 49) C dX12_lab_49 rfl 0 rfl ?_
    replace h := bnd2 h; obtain ⟨_u, M11, h1, h⟩ := h
    refine g_callVv (pc := 50) (As := []) (st := []) C dX12_lab_50 wX12_next hk1 rfl (by decide) q_1371 q_52 q_1369 (by omega) rfl (Nat.le_of_ble_eq_true rfl) (kX12_next (d := 5) (Nat.le_refl _) h1) ?_
    refine g_aload_n (pc := 53) C dX12_lab_53 rfl 0 rfl ?_
    refine g_iconst (pc := 54) (v := 0) C dX12_lab_54 (by decide) ?_
    replace h := bnd2 h; obtain ⟨r12, M13, h1, h⟩ := h
    refine g_callVi (pc := 55) (As := [.int ((0 : Int32))]) (st := []) C dX12_lab_55 wX12_eats hk1 rfl (by decide) q_1393 q_55 q_1391 (by omega) rfl (Nat.le_of_ble_eq_true rfl) (kX12_eats (d := 6) (Nat.le_refl _) h1) ?_
    refine g_if_ne (pc := 58) (tgt := 66) C dX12_lab_58 (by decide) (fun c14 => ?_) (fun c14 => ?_)
    · replace h := ifn c14 h
      exact g_sub [0] rfl (tjX12_lab_66 C hR hd h)
    · replace h := ifp c14 h
      refine g_aload_n (pc := 61) C dX12_lab_61 rfl 0 rfl ?_
      refine g_iconst (pc := 62) (v := 2) C dX12_lab_62 (by decide) ?_
      replace h := bnd2 h; obtain ⟨_u, M55, h1, h⟩ := h
      refine g_callVv (pc := 63) (As := [.int ((2 : Int32))]) (st := []) C dX12_lab_63 wX12_fails hk1 rfl (by decide) q_1401 q_57 q_1399 (by omega) rfl (Nat.le_of_ble_eq_true rfl) (kX12_fails (d := 0) (Nat.le_refl _) h1) ?_
      exact g_sub [0] rfl (tjX12_lab_66 C hR hd h)
  · replace h := ifp c4 h
    refine g_bipush (pc := 19) (v := (-3)) C dX12_lab_19 (by decide) ?_
    obtain ⟨rfl, rfl⟩ := Prod.mk.inj (Option.some.inj h)
    exact g_iret C hR dX12_lab_21
theorem dX12_init_0 : decode cX12_init 0 = .ok (.aload_n 0, 1) := by decide +kernel
theorem dX12_init_1 : decode cX12_init 1 = .ok (.invokespecial 7, 3) := by decide +kernel
theorem dX12_init_4 : decode cX12_init 4 = .ok (.aload_n 0, 1) := by decide +kernel
theorem dX12_init_5 : decode cX12_init 5 = .ok (.sipush 3096, 3) := by decide +kernel
theorem dX12_init_8 : decode cX12_init 8 = .ok (.newarray .int, 2) := by decide +kernel
theorem dX12_init_10 : decode cX12_init 10 = .ok (.putfield 13, 3) := by decide +kernel
theorem dX12_init_13 : decode cX12_init 13 = .ok (.aload_n 0, 1) := by decide +kernel
theorem dX12_init_14 : decode cX12_init 14 = .ok (.iconst 2, 1) := by decide +kernel
theorem dX12_init_15 : decode cX12_init 15 = .ok (.newarray .boolean, 2) := by decide +kernel
theorem dX12_init_17 : decode cX12_init 17 = .ok (.putfield 17, 3) := by decide +kernel
theorem dX12_init_20 : decode cX12_init 20 = .ok (.aload_n 0, 1) := by decide +kernel
theorem dX12_init_21 : decode cX12_init 21 = .ok (.sipush 900, 3) := by decide +kernel
theorem dX12_init_24 : decode cX12_init 24 = .ok (.newarray .int, 2) := by decide +kernel
theorem dX12_init_26 : decode cX12_init 26 = .ok (.putfield 21, 3) := by decide +kernel
theorem dX12_init_29 : decode cX12_init 29 = .ok (.aload_n 0, 1) := by decide +kernel
theorem dX12_init_30 : decode cX12_init 30 = .ok (.sipush 1032, 3) := by decide +kernel
theorem dX12_init_33 : decode cX12_init 33 = .ok (.newarray .int, 2) := by decide +kernel
theorem dX12_init_35 : decode cX12_init 35 = .ok (.putfield 24, 3) := by decide +kernel
theorem dX12_init_38 : decode cX12_init 38 = .ok (.aload_n 0, 1) := by decide +kernel
theorem dX12_init_39 : decode cX12_init 39 = .ok (.iconst (-1), 1) := by decide +kernel
theorem dX12_init_40 : decode cX12_init 40 = .ok (.putfield 27, 3) := by decide +kernel
theorem dX12_init_43 : decode cX12_init 43 = .ok (.aload_n 0, 1) := by decide +kernel
theorem dX12_init_44 : decode cX12_init 44 = .ok (.sipush 900, 3) := by decide +kernel
theorem dX12_init_47 : decode cX12_init 47 = .ok (.newarray .int, 2) := by decide +kernel
theorem dX12_init_49 : decode cX12_init 49 = .ok (.putfield 30, 3) := by decide +kernel
theorem dX12_init_52 : decode cX12_init 52 = .ok (.aload_n 0, 1) := by decide +kernel
theorem dX12_init_53 : decode cX12_init 53 = .ok (.bipush 6, 2) := by decide +kernel
theorem dX12_init_55 : decode cX12_init 55 = .ok (.newarray .int, 2) := by decide +kernel
theorem dX12_init_57 : decode cX12_init 57 = .ok (.putfield 33, 3) := by decide +kernel
theorem dX12_init_60 : decode cX12_init 60 = .ok (.aload_n 0, 1) := by decide +kernel
theorem dX12_init_61 : decode cX12_init 61 = .ok (.bipush 16, 2) := by decide +kernel
theorem dX12_init_63 : decode cX12_init 63 = .ok (.newarray .int, 2) := by decide +kernel
theorem dX12_init_65 : decode cX12_init 65 = .ok (.putfield 36, 3) := by decide +kernel
theorem dX12_init_68 : decode cX12_init 68 = .ok (.aload_n 0, 1) := by decide +kernel
theorem dX12_init_69 : decode cX12_init 69 = .ok (.bipush 8, 2) := by decide +kernel
theorem dX12_init_71 : decode cX12_init 71 = .ok (.newarray .int, 2) := by decide +kernel
theorem dX12_init_73 : decode cX12_init 73 = .ok (.putfield 39, 3) := by decide +kernel
theorem dX12_init_76 : decode cX12_init 76 = .ok (.aload_n 0, 1) := by decide +kernel
theorem dX12_init_77 : decode cX12_init 77 = .ok (.sipush 384, 3) := by decide +kernel
theorem dX12_init_80 : decode cX12_init 80 = .ok (.newarray .boolean, 2) := by decide +kernel
theorem dX12_init_82 : decode cX12_init 82 = .ok (.putfield 42, 3) := by decide +kernel
theorem dX12_init_85 : decode cX12_init 85 = .ok (.aload_n 0, 1) := by decide +kernel
theorem dX12_init_86 : decode cX12_init 86 = .ok (.bipush 64, 2) := by decide +kernel
theorem dX12_init_88 : decode cX12_init 88 = .ok (.newarray .int, 2) := by decide +kernel
theorem dX12_init_90 : decode cX12_init 90 = .ok (.putfield 45, 3) := by decide +kernel
theorem dX12_init_93 : decode cX12_init 93 = .ok (.aload_n 0, 1) := by decide +kernel
theorem dX12_init_94 : decode cX12_init 94 = .ok (.sipush 384, 3) := by decide +kernel
theorem dX12_init_97 : decode cX12_init 97 = .ok (.newarray .int, 2) := by decide +kernel
theorem dX12_init_99 : decode cX12_init 99 = .ok (.putfield 48, 3) := by decide +kernel
theorem dX12_init_102 : decode cX12_init 102 = .ok (.aload_n 0, 1) := by decide +kernel
theorem dX12_init_103 : decode cX12_init 103 = .ok (.sipush 384, 3) := by decide +kernel
theorem dX12_init_106 : decode cX12_init 106 = .ok (.newarray .long, 2) := by decide +kernel
theorem dX12_init_108 : decode cX12_init 108 = .ok (.putfield 51, 3) := by decide +kernel
theorem dX12_init_111 : decode cX12_init 111 = .ok (.aload_n 0, 1) := by decide +kernel
theorem dX12_init_112 : decode cX12_init 112 = .ok (.sipush 384, 3) := by decide +kernel
theorem dX12_init_115 : decode cX12_init 115 = .ok (.newarray .long, 2) := by decide +kernel
theorem dX12_init_117 : decode cX12_init 117 = .ok (.putfield 55, 3) := by decide +kernel
theorem dX12_init_120 : decode cX12_init 120 = .ok (.aload_n 0, 1) := by decide +kernel
theorem dX12_init_121 : decode cX12_init 121 = .ok (.bipush 24, 2) := by decide +kernel
theorem dX12_init_123 : decode cX12_init 123 = .ok (.newarray .long, 2) := by decide +kernel
theorem dX12_init_125 : decode cX12_init 125 = .ok (.putfield 58, 3) := by decide +kernel
theorem dX12_init_128 : decode cX12_init 128 = .ok (.aload_n 0, 1) := by decide +kernel
theorem dX12_init_129 : decode cX12_init 129 = .ok (.bipush 24, 2) := by decide +kernel
theorem dX12_init_131 : decode cX12_init 131 = .ok (.newarray .long, 2) := by decide +kernel
theorem dX12_init_133 : decode cX12_init 133 = .ok (.putfield 61, 3) := by decide +kernel
theorem dX12_init_136 : decode cX12_init 136 = .ok (.aload_n 0, 1) := by decide +kernel
theorem dX12_init_137 : decode cX12_init 137 = .ok (.iconst 4, 1) := by decide +kernel
theorem dX12_init_138 : decode cX12_init 138 = .ok (.newarray .int, 2) := by decide +kernel
theorem dX12_init_140 : decode cX12_init 140 = .ok (.dup, 1) := by decide +kernel
theorem dX12_init_141 : decode cX12_init 141 = .ok (.iconst 0, 1) := by decide +kernel
theorem dX12_init_142 : decode cX12_init 142 = .ok (.iconst (-1), 1) := by decide +kernel
theorem dX12_init_143 : decode cX12_init 143 = .ok (.iastore, 1) := by decide +kernel
theorem dX12_init_144 : decode cX12_init 144 = .ok (.dup, 1) := by decide +kernel
theorem dX12_init_145 : decode cX12_init 145 = .ok (.iconst 1, 1) := by decide +kernel
theorem dX12_init_146 : decode cX12_init 146 = .ok (.iconst (-1), 1) := by decide +kernel
theorem dX12_init_147 : decode cX12_init 147 = .ok (.iastore, 1) := by decide +kernel
theorem dX12_init_148 : decode cX12_init 148 = .ok (.dup, 1) := by decide +kernel
theorem dX12_init_149 : decode cX12_init 149 = .ok (.iconst 2, 1) := by decide +kernel
theorem dX12_init_150 : decode cX12_init 150 = .ok (.iconst (-1), 1) := by decide +kernel
theorem dX12_init_151 : decode cX12_init 151 = .ok (.iastore, 1) := by decide +kernel
theorem dX12_init_152 : decode cX12_init 152 = .ok (.dup, 1) := by decide +kernel
theorem dX12_init_153 : decode cX12_init 153 = .ok (.iconst 3, 1) := by decide +kernel
theorem dX12_init_154 : decode cX12_init 154 = .ok (.iconst (-1), 1) := by decide +kernel
theorem dX12_init_155 : decode cX12_init 155 = .ok (.iastore, 1) := by decide +kernel
theorem dX12_init_156 : decode cX12_init 156 = .ok (.putfield 64, 3) := by decide +kernel
theorem dX12_init_159 : decode cX12_init 159 = .ok (.aload_n 0, 1) := by decide +kernel
theorem dX12_init_160 : decode cX12_init 160 = .ok (.iconst 4, 1) := by decide +kernel
theorem dX12_init_161 : decode cX12_init 161 = .ok (.newarray .int, 2) := by decide +kernel
theorem dX12_init_163 : decode cX12_init 163 = .ok (.putfield 67, 3) := by decide +kernel
theorem dX12_init_166 : decode cX12_init 166 = .ok (.aload_n 0, 1) := by decide +kernel
theorem dX12_init_167 : decode cX12_init 167 = .ok (.sipush 160, 3) := by decide +kernel
theorem dX12_init_170 : decode cX12_init 170 = .ok (.newarray .long, 2) := by decide +kernel
theorem dX12_init_172 : decode cX12_init 172 = .ok (.putfield 70, 3) := by decide +kernel
theorem dX12_init_175 : decode cX12_init 175 = .ok (.aload_n 0, 1) := by decide +kernel
theorem dX12_init_176 : decode cX12_init 176 = .ok (.getfield 13, 3) := by decide +kernel
theorem dX12_init_179 : decode cX12_init 179 = .ok (.invokestatic 73, 3) := by decide +kernel
theorem dX12_init_182 : decode cX12_init 182 = .ok (.return_, 1) := by decide +kernel
theorem wX12_init : Mw yX12_init cX12_init 1 none 0 := ⟨q_1222, q_130, by decide, ⟨by decide +kernel, by decide +kernel⟩, by decide +kernel, by decide +kernel⟩
def jX12_init_172 (T : Sh) (M : Me) (x0 : Nat) (s0 : Nat) (s1 : Nat) : Option (Unit × Sh × Me) :=
  gd (kd T s1 = 11) <| lt (pR M s1 42 (some s0)) fun M47 => gd (kd T x0 = 11) <| Option.bind (gR M47 x0 1) fun a49 => Option.bind (fX12_plain T M47 a49) <| un2 fun _u M50 => some ((), T, M50)
theorem mjX12_init_172 {T : Sh} {M : Me} {x0 : Nat} {s0 : Nat} {s1 : Nat} {T' : Sh} {M' : Me} (h : jX12_init_172 T M x0 s0 s1 = some ((), T', M')) : leT T T' := by
  unfold jX12_init_172 at h
  replace h := gd_some h; obtain ⟨hk46, h⟩ := h
  obtain ⟨M47, eM47⟩ : ∃ y : Me, y = pR M s1 42 (some s0) := ⟨_, rfl⟩
  replace h := lt_at eM47 h
  replace h := gd_some h; obtain ⟨hk48, h⟩ := h
  replace h := bnd h; obtain ⟨a49, ea49, h⟩ := h
  replace h := bnd2 h; obtain ⟨_u, M50, h1, h⟩ := h
  replace h := Prod.mk.inj (Option.some.inj h); obtain ⟨-, h⟩ := h; replace h := Prod.mk.inj h; obtain ⟨rfl, rfl⟩ := h
  exact leT.rfl
set_option maxHeartbeats 4000000 in
theorem tjX12_init_172 {X : Fx} {B : Bx} {Z : Nat × Nat × Nat × Nat} {d : Nat} {T : Sh} {M : Me} {x0 : Nat} {s0 : Nat} {s1 : Nat} {T' : Sh} {M' : Me} (C : Cx X B cX12_init 1 RX12 d Z) (hR : Rx X none) (hd : 1 ≤ d) (hin : X.2.2.2.2.2.2.2.2.1.name = "<init>") (hZ : leZ T' Z) (h : jX12_init_172 T M x0 s0 s1 = some ((), T', M')) : G X B 1 Z (Qf X B Z none T' M') 172 [(0, .ref (x0))] [.ref (s0), .ref (s1)] T M := by
  unfold jX12_init_172 at h
  replace h := gd_some h; obtain ⟨hk46, h⟩ := h
  refine g_putRF (pc := 172) (x := (some s0)) (ft := .array (.long)) C hin dX12_init_172 kX12 hk46 42 (by decide) rfl rfl (Or.inr ⟨_, rfl⟩) ⟨rfl, rfl⟩ q_1269 ?_
  refine g_mem (fun M47 eM47 => ?_)
  replace h := lt_at eM47 h
  refine g_aload_n (pc := 175) C dX12_init_175 rfl 0 rfl ?_
  replace h := gd_some h; obtain ⟨hk48, h⟩ := h
  refine g_get (pc := 176) (v := va_rf (gR M47 x0 1)) C dX12_init_176 kX12 hk48 1 (by decide) q_1228 rfl ?_
  replace h := bnd h; obtain ⟨a49, ea49, h⟩ := h
  refine g_refq ea49 ?_
  replace h := bnd2 h; obtain ⟨_u, M50, h1, h⟩ := h
  refine g_callSv (pc := 179) (As := [.ref (a49)]) (st := []) C dX12_init_179 wX12_plain q_1225 q_1224 (by omega) rfl (Nat.le_of_ble_eq_true rfl) (kX12_plain (d := 0) (Nat.le_refl _) h1) ?_
  replace h := Prod.mk.inj (Option.some.inj h); obtain ⟨-, h⟩ := h; replace h := Prod.mk.inj h; obtain ⟨rfl, rfl⟩ := h
  exact g_vret C hR dX12_init_182
def jX12_init_163 (T : Sh) (M : Me) (x0 : Nat) (s0 : Nat) (s1 : Nat) : Option (Unit × Sh × Me) :=
  gd (kd T s1 = 11) <| lt (pR M s1 41 (some s0)) fun M45 => jX12_init_172 (nT T 14 160 160) (nM T M45) x0 (tp T) x0
theorem mjX12_init_163 {T : Sh} {M : Me} {x0 : Nat} {s0 : Nat} {s1 : Nat} {T' : Sh} {M' : Me} (h : jX12_init_163 T M x0 s0 s1 = some ((), T', M')) : leT T T' := by
  unfold jX12_init_163 at h
  replace h := gd_some h; obtain ⟨hk44, h⟩ := h
  obtain ⟨M45, eM45⟩ : ∃ y : Me, y = pR M s1 41 (some s0) := ⟨_, rfl⟩
  replace h := lt_at eM45 h
  exact (leT.rfl.trans (leT.new _ _ _ _)).trans (mjX12_init_172 h)
set_option maxHeartbeats 4000000 in
theorem tjX12_init_163 {X : Fx} {B : Bx} {Z : Nat × Nat × Nat × Nat} {d : Nat} {T : Sh} {M : Me} {x0 : Nat} {s0 : Nat} {s1 : Nat} {T' : Sh} {M' : Me} (C : Cx X B cX12_init 1 RX12 d Z) (hR : Rx X none) (hd : 1 ≤ d) (hin : X.2.2.2.2.2.2.2.2.1.name = "<init>") (hZ : leZ T' Z) (h : jX12_init_163 T M x0 s0 s1 = some ((), T', M')) : G X B 1 Z (Qf X B Z none T' M') 163 [(0, .ref (x0))] [.ref (s0), .ref (s1)] T M := by
  unfold jX12_init_163 at h
  replace h := gd_some h; obtain ⟨hk44, h⟩ := h
  refine g_putRF (pc := 163) (x := (some s0)) (ft := .array (.int)) C hin dX12_init_163 kX12 hk44 41 (by decide) rfl rfl (Or.inr ⟨_, rfl⟩) ⟨rfl, rfl⟩ q_1268 ?_
  refine g_mem (fun M45 eM45 => ?_)
  replace h := lt_at eM45 h
  refine g_aload_n (pc := 166) C dX12_init_166 rfl 0 rfl ?_
  refine g_sipush (pc := 167) (v := 160) C dX12_init_167 (by decide) ?_
  have hz := leZ_new ((mjX12_init_172 h).Z hZ)
  refine g_newaJ (pc := 170) (N := 160) C dX12_init_170 q_307 (by decide) (by decide +kernel) (Nat.le_of_ble_eq_true rfl) hz.1 hz.2 ?_
  exact g_sub [0] rfl (tjX12_init_172 C hR hd hin hZ h)
def jX12_init_140 (T : Sh) (M : Me) (x0 : Nat) (s0 : Nat) (s1 : Nat) : Option (Unit × Sh × Me) :=
  gd (kd T s0 = 13) <| gv (0 : Int32) (ln T s0) <| lt (pI M s0 (Int32.toNatClampNeg (0 : Int32)) (-1 : Int32)) fun M35 => gv (1 : Int32) (ln T s0) <| lt (pI M35 s0 (Int32.toNatClampNeg (1 : Int32)) (-1 : Int32)) fun M37 => gv (2 : Int32) (ln T s0) <| lt (pI M37 s0 (Int32.toNatClampNeg (2 : Int32)) (-1 : Int32)) fun M39 => gv (3 : Int32) (ln T s0) <| lt (pI M39 s0 (Int32.toNatClampNeg (3 : Int32)) (-1 : Int32)) fun M41 => gd (kd T s1 = 11) <| lt (pR M41 s1 40 (some s0)) fun M43 => jX12_init_163 (nT T 13 4 4) (nM T M43) x0 (tp T) x0
theorem mjX12_init_140 {T : Sh} {M : Me} {x0 : Nat} {s0 : Nat} {s1 : Nat} {T' : Sh} {M' : Me} (h : jX12_init_140 T M x0 s0 s1 = some ((), T', M')) : leT T T' := by
  unfold jX12_init_140 at h
  replace h := gd_some h; obtain ⟨hk33, h⟩ := h
  replace h := gv_some h; obtain ⟨hi34, h⟩ := h
  obtain ⟨M35, eM35⟩ : ∃ y : Me, y = pI M s0 (Int32.toNatClampNeg (0 : Int32)) (-1 : Int32) := ⟨_, rfl⟩
  replace h := lt_at eM35 h
  replace h := gv_some h; obtain ⟨hi36, h⟩ := h
  obtain ⟨M37, eM37⟩ : ∃ y : Me, y = pI M35 s0 (Int32.toNatClampNeg (1 : Int32)) (-1 : Int32) := ⟨_, rfl⟩
  replace h := lt_at eM37 h
  replace h := gv_some h; obtain ⟨hi38, h⟩ := h
  obtain ⟨M39, eM39⟩ : ∃ y : Me, y = pI M37 s0 (Int32.toNatClampNeg (2 : Int32)) (-1 : Int32) := ⟨_, rfl⟩
  replace h := lt_at eM39 h
  replace h := gv_some h; obtain ⟨hi40, h⟩ := h
  obtain ⟨M41, eM41⟩ : ∃ y : Me, y = pI M39 s0 (Int32.toNatClampNeg (3 : Int32)) (-1 : Int32) := ⟨_, rfl⟩
  replace h := lt_at eM41 h
  replace h := gd_some h; obtain ⟨hk42, h⟩ := h
  obtain ⟨M43, eM43⟩ : ∃ y : Me, y = pR M41 s1 40 (some s0) := ⟨_, rfl⟩
  replace h := lt_at eM43 h
  exact (leT.rfl.trans (leT.new _ _ _ _)).trans (mjX12_init_163 h)
set_option maxHeartbeats 4000000 in
theorem tjX12_init_140 {X : Fx} {B : Bx} {Z : Nat × Nat × Nat × Nat} {d : Nat} {T : Sh} {M : Me} {x0 : Nat} {s0 : Nat} {s1 : Nat} {T' : Sh} {M' : Me} (C : Cx X B cX12_init 1 RX12 d Z) (hR : Rx X none) (hd : 1 ≤ d) (hin : X.2.2.2.2.2.2.2.2.1.name = "<init>") (hZ : leZ T' Z) (h : jX12_init_140 T M x0 s0 s1 = some ((), T', M')) : G X B 1 Z (Qf X B Z none T' M') 140 [(0, .ref (x0))] [.ref (s0), .ref (s1)] T M := by
  unfold jX12_init_140 at h
  refine g_dup (pc := 140) C dX12_init_140 rfl ?_
  refine g_iconst (pc := 141) (v := 0) C dX12_init_141 (by decide) ?_
  refine g_iconst (pc := 142) (v := (-1)) C dX12_init_142 (by decide) ?_
  replace h := gd_some h; obtain ⟨hk33, h⟩ := h
  replace h := gv_some h; obtain ⟨hi34, h⟩ := h
  refine g_iast (pc := 143) C dX12_init_143 hk33 hi34 ?_
  refine g_mem (fun M35 eM35 => ?_)
  replace h := lt_at eM35 h
  refine g_dup (pc := 144) C dX12_init_144 rfl ?_
  refine g_iconst (pc := 145) (v := 1) C dX12_init_145 (by decide) ?_
  refine g_iconst (pc := 146) (v := (-1)) C dX12_init_146 (by decide) ?_
  replace h := gv_some h; obtain ⟨hi36, h⟩ := h
  refine g_iast (pc := 147) C dX12_init_147 hk33 hi36 ?_
  refine g_mem (fun M37 eM37 => ?_)
  replace h := lt_at eM37 h
  refine g_dup (pc := 148) C dX12_init_148 rfl ?_
  refine g_iconst (pc := 149) (v := 2) C dX12_init_149 (by decide) ?_
  refine g_iconst (pc := 150) (v := (-1)) C dX12_init_150 (by decide) ?_
  replace h := gv_some h; obtain ⟨hi38, h⟩ := h
  refine g_iast (pc := 151) C dX12_init_151 hk33 hi38 ?_
  refine g_mem (fun M39 eM39 => ?_)
  replace h := lt_at eM39 h
  refine g_dup (pc := 152) C dX12_init_152 rfl ?_
  refine g_iconst (pc := 153) (v := 3) C dX12_init_153 (by decide) ?_
  refine g_iconst (pc := 154) (v := (-1)) C dX12_init_154 (by decide) ?_
  replace h := gv_some h; obtain ⟨hi40, h⟩ := h
  refine g_iast (pc := 155) C dX12_init_155 hk33 hi40 ?_
  refine g_mem (fun M41 eM41 => ?_)
  replace h := lt_at eM41 h
  replace h := gd_some h; obtain ⟨hk42, h⟩ := h
  refine g_putRF (pc := 156) (x := (some s0)) (ft := .array (.int)) C hin dX12_init_156 kX12 hk42 40 (by decide) rfl rfl (Or.inr ⟨_, rfl⟩) ⟨rfl, rfl⟩ q_1267 ?_
  refine g_mem (fun M43 eM43 => ?_)
  replace h := lt_at eM43 h
  refine g_aload_n (pc := 159) C dX12_init_159 rfl 0 rfl ?_
  refine g_iconst (pc := 160) (v := 4) C dX12_init_160 (by decide) ?_
  have hz := leZ_new ((mjX12_init_163 h).Z hZ)
  refine g_newaI (pc := 161) (N := 4) C dX12_init_161 q_179 (by decide) (by decide +kernel) (Nat.le_of_ble_eq_true rfl) hz.1 hz.2 ?_
  exact g_sub [0] rfl (tjX12_init_163 C hR hd hin hZ h)
def jX12_init_133 (T : Sh) (M : Me) (x0 : Nat) (s0 : Nat) (s1 : Nat) : Option (Unit × Sh × Me) :=
  gd (kd T s1 = 11) <| lt (pR M s1 39 (some s0)) fun M32 => jX12_init_140 (nT T 13 4 4) (nM T M32) x0 (tp T) x0
theorem mjX12_init_133 {T : Sh} {M : Me} {x0 : Nat} {s0 : Nat} {s1 : Nat} {T' : Sh} {M' : Me} (h : jX12_init_133 T M x0 s0 s1 = some ((), T', M')) : leT T T' := by
  unfold jX12_init_133 at h
  replace h := gd_some h; obtain ⟨hk31, h⟩ := h
  obtain ⟨M32, eM32⟩ : ∃ y : Me, y = pR M s1 39 (some s0) := ⟨_, rfl⟩
  replace h := lt_at eM32 h
  exact (leT.rfl.trans (leT.new _ _ _ _)).trans (mjX12_init_140 h)
set_option maxHeartbeats 4000000 in
theorem tjX12_init_133 {X : Fx} {B : Bx} {Z : Nat × Nat × Nat × Nat} {d : Nat} {T : Sh} {M : Me} {x0 : Nat} {s0 : Nat} {s1 : Nat} {T' : Sh} {M' : Me} (C : Cx X B cX12_init 1 RX12 d Z) (hR : Rx X none) (hd : 1 ≤ d) (hin : X.2.2.2.2.2.2.2.2.1.name = "<init>") (hZ : leZ T' Z) (h : jX12_init_133 T M x0 s0 s1 = some ((), T', M')) : G X B 1 Z (Qf X B Z none T' M') 133 [(0, .ref (x0))] [.ref (s0), .ref (s1)] T M := by
  unfold jX12_init_133 at h
  replace h := gd_some h; obtain ⟨hk31, h⟩ := h
  refine g_putRF (pc := 133) (x := (some s0)) (ft := .array (.long)) C hin dX12_init_133 kX12 hk31 39 (by decide) rfl rfl (Or.inr ⟨_, rfl⟩) ⟨rfl, rfl⟩ q_1266 ?_
  refine g_mem (fun M32 eM32 => ?_)
  replace h := lt_at eM32 h
  refine g_aload_n (pc := 136) C dX12_init_136 rfl 0 rfl ?_
  refine g_iconst (pc := 137) (v := 4) C dX12_init_137 (by decide) ?_
  have hz := leZ_new ((mjX12_init_140 h).Z hZ)
  refine g_newaI (pc := 138) (N := 4) C dX12_init_138 q_179 (by decide) (by decide +kernel) (Nat.le_of_ble_eq_true rfl) hz.1 hz.2 ?_
  exact g_sub [0] rfl (tjX12_init_140 C hR hd hin hZ h)
def jX12_init_125 (T : Sh) (M : Me) (x0 : Nat) (s0 : Nat) (s1 : Nat) : Option (Unit × Sh × Me) :=
  gd (kd T s1 = 11) <| lt (pR M s1 38 (some s0)) fun M30 => jX12_init_133 (nT T 14 24 24) (nM T M30) x0 (tp T) x0
theorem mjX12_init_125 {T : Sh} {M : Me} {x0 : Nat} {s0 : Nat} {s1 : Nat} {T' : Sh} {M' : Me} (h : jX12_init_125 T M x0 s0 s1 = some ((), T', M')) : leT T T' := by
  unfold jX12_init_125 at h
  replace h := gd_some h; obtain ⟨hk29, h⟩ := h
  obtain ⟨M30, eM30⟩ : ∃ y : Me, y = pR M s1 38 (some s0) := ⟨_, rfl⟩
  replace h := lt_at eM30 h
  exact (leT.rfl.trans (leT.new _ _ _ _)).trans (mjX12_init_133 h)
set_option maxHeartbeats 4000000 in
theorem tjX12_init_125 {X : Fx} {B : Bx} {Z : Nat × Nat × Nat × Nat} {d : Nat} {T : Sh} {M : Me} {x0 : Nat} {s0 : Nat} {s1 : Nat} {T' : Sh} {M' : Me} (C : Cx X B cX12_init 1 RX12 d Z) (hR : Rx X none) (hd : 1 ≤ d) (hin : X.2.2.2.2.2.2.2.2.1.name = "<init>") (hZ : leZ T' Z) (h : jX12_init_125 T M x0 s0 s1 = some ((), T', M')) : G X B 1 Z (Qf X B Z none T' M') 125 [(0, .ref (x0))] [.ref (s0), .ref (s1)] T M := by
  unfold jX12_init_125 at h
  replace h := gd_some h; obtain ⟨hk29, h⟩ := h
  refine g_putRF (pc := 125) (x := (some s0)) (ft := .array (.long)) C hin dX12_init_125 kX12 hk29 38 (by decide) rfl rfl (Or.inr ⟨_, rfl⟩) ⟨rfl, rfl⟩ q_1265 ?_
  refine g_mem (fun M30 eM30 => ?_)
  replace h := lt_at eM30 h
  refine g_aload_n (pc := 128) C dX12_init_128 rfl 0 rfl ?_
  refine g_bipush (pc := 129) (v := 24) C dX12_init_129 (by decide) ?_
  have hz := leZ_new ((mjX12_init_133 h).Z hZ)
  refine g_newaJ (pc := 131) (N := 24) C dX12_init_131 q_307 (by decide) (by decide +kernel) (Nat.le_of_ble_eq_true rfl) hz.1 hz.2 ?_
  exact g_sub [0] rfl (tjX12_init_133 C hR hd hin hZ h)
def jX12_init_117 (T : Sh) (M : Me) (x0 : Nat) (s0 : Nat) (s1 : Nat) : Option (Unit × Sh × Me) :=
  gd (kd T s1 = 11) <| lt (pR M s1 37 (some s0)) fun M28 => jX12_init_125 (nT T 14 24 24) (nM T M28) x0 (tp T) x0
theorem mjX12_init_117 {T : Sh} {M : Me} {x0 : Nat} {s0 : Nat} {s1 : Nat} {T' : Sh} {M' : Me} (h : jX12_init_117 T M x0 s0 s1 = some ((), T', M')) : leT T T' := by
  unfold jX12_init_117 at h
  replace h := gd_some h; obtain ⟨hk27, h⟩ := h
  obtain ⟨M28, eM28⟩ : ∃ y : Me, y = pR M s1 37 (some s0) := ⟨_, rfl⟩
  replace h := lt_at eM28 h
  exact (leT.rfl.trans (leT.new _ _ _ _)).trans (mjX12_init_125 h)
set_option maxHeartbeats 4000000 in
theorem tjX12_init_117 {X : Fx} {B : Bx} {Z : Nat × Nat × Nat × Nat} {d : Nat} {T : Sh} {M : Me} {x0 : Nat} {s0 : Nat} {s1 : Nat} {T' : Sh} {M' : Me} (C : Cx X B cX12_init 1 RX12 d Z) (hR : Rx X none) (hd : 1 ≤ d) (hin : X.2.2.2.2.2.2.2.2.1.name = "<init>") (hZ : leZ T' Z) (h : jX12_init_117 T M x0 s0 s1 = some ((), T', M')) : G X B 1 Z (Qf X B Z none T' M') 117 [(0, .ref (x0))] [.ref (s0), .ref (s1)] T M := by
  unfold jX12_init_117 at h
  replace h := gd_some h; obtain ⟨hk27, h⟩ := h
  refine g_putRF (pc := 117) (x := (some s0)) (ft := .array (.long)) C hin dX12_init_117 kX12 hk27 37 (by decide) rfl rfl (Or.inr ⟨_, rfl⟩) ⟨rfl, rfl⟩ q_1264 ?_
  refine g_mem (fun M28 eM28 => ?_)
  replace h := lt_at eM28 h
  refine g_aload_n (pc := 120) C dX12_init_120 rfl 0 rfl ?_
  refine g_bipush (pc := 121) (v := 24) C dX12_init_121 (by decide) ?_
  have hz := leZ_new ((mjX12_init_125 h).Z hZ)
  refine g_newaJ (pc := 123) (N := 24) C dX12_init_123 q_307 (by decide) (by decide +kernel) (Nat.le_of_ble_eq_true rfl) hz.1 hz.2 ?_
  exact g_sub [0] rfl (tjX12_init_125 C hR hd hin hZ h)
def jX12_init_108 (T : Sh) (M : Me) (x0 : Nat) (s0 : Nat) (s1 : Nat) : Option (Unit × Sh × Me) :=
  gd (kd T s1 = 11) <| lt (pR M s1 36 (some s0)) fun M26 => jX12_init_117 (nT T 14 384 384) (nM T M26) x0 (tp T) x0
theorem mjX12_init_108 {T : Sh} {M : Me} {x0 : Nat} {s0 : Nat} {s1 : Nat} {T' : Sh} {M' : Me} (h : jX12_init_108 T M x0 s0 s1 = some ((), T', M')) : leT T T' := by
  unfold jX12_init_108 at h
  replace h := gd_some h; obtain ⟨hk25, h⟩ := h
  obtain ⟨M26, eM26⟩ : ∃ y : Me, y = pR M s1 36 (some s0) := ⟨_, rfl⟩
  replace h := lt_at eM26 h
  exact (leT.rfl.trans (leT.new _ _ _ _)).trans (mjX12_init_117 h)
set_option maxHeartbeats 4000000 in
theorem tjX12_init_108 {X : Fx} {B : Bx} {Z : Nat × Nat × Nat × Nat} {d : Nat} {T : Sh} {M : Me} {x0 : Nat} {s0 : Nat} {s1 : Nat} {T' : Sh} {M' : Me} (C : Cx X B cX12_init 1 RX12 d Z) (hR : Rx X none) (hd : 1 ≤ d) (hin : X.2.2.2.2.2.2.2.2.1.name = "<init>") (hZ : leZ T' Z) (h : jX12_init_108 T M x0 s0 s1 = some ((), T', M')) : G X B 1 Z (Qf X B Z none T' M') 108 [(0, .ref (x0))] [.ref (s0), .ref (s1)] T M := by
  unfold jX12_init_108 at h
  replace h := gd_some h; obtain ⟨hk25, h⟩ := h
  refine g_putRF (pc := 108) (x := (some s0)) (ft := .array (.long)) C hin dX12_init_108 kX12 hk25 36 (by decide) rfl rfl (Or.inr ⟨_, rfl⟩) ⟨rfl, rfl⟩ q_1263 ?_
  refine g_mem (fun M26 eM26 => ?_)
  replace h := lt_at eM26 h
  refine g_aload_n (pc := 111) C dX12_init_111 rfl 0 rfl ?_
  refine g_sipush (pc := 112) (v := 384) C dX12_init_112 (by decide) ?_
  have hz := leZ_new ((mjX12_init_117 h).Z hZ)
  refine g_newaJ (pc := 115) (N := 384) C dX12_init_115 q_307 (by decide) (by decide +kernel) (Nat.le_of_ble_eq_true rfl) hz.1 hz.2 ?_
  exact g_sub [0] rfl (tjX12_init_117 C hR hd hin hZ h)
def jX12_init_99 (T : Sh) (M : Me) (x0 : Nat) (s0 : Nat) (s1 : Nat) : Option (Unit × Sh × Me) :=
  gd (kd T s1 = 11) <| lt (pR M s1 35 (some s0)) fun M24 => jX12_init_108 (nT T 14 384 384) (nM T M24) x0 (tp T) x0
theorem mjX12_init_99 {T : Sh} {M : Me} {x0 : Nat} {s0 : Nat} {s1 : Nat} {T' : Sh} {M' : Me} (h : jX12_init_99 T M x0 s0 s1 = some ((), T', M')) : leT T T' := by
  unfold jX12_init_99 at h
  replace h := gd_some h; obtain ⟨hk23, h⟩ := h
  obtain ⟨M24, eM24⟩ : ∃ y : Me, y = pR M s1 35 (some s0) := ⟨_, rfl⟩
  replace h := lt_at eM24 h
  exact (leT.rfl.trans (leT.new _ _ _ _)).trans (mjX12_init_108 h)
set_option maxHeartbeats 4000000 in
theorem tjX12_init_99 {X : Fx} {B : Bx} {Z : Nat × Nat × Nat × Nat} {d : Nat} {T : Sh} {M : Me} {x0 : Nat} {s0 : Nat} {s1 : Nat} {T' : Sh} {M' : Me} (C : Cx X B cX12_init 1 RX12 d Z) (hR : Rx X none) (hd : 1 ≤ d) (hin : X.2.2.2.2.2.2.2.2.1.name = "<init>") (hZ : leZ T' Z) (h : jX12_init_99 T M x0 s0 s1 = some ((), T', M')) : G X B 1 Z (Qf X B Z none T' M') 99 [(0, .ref (x0))] [.ref (s0), .ref (s1)] T M := by
  unfold jX12_init_99 at h
  replace h := gd_some h; obtain ⟨hk23, h⟩ := h
  refine g_putRF (pc := 99) (x := (some s0)) (ft := .array (.int)) C hin dX12_init_99 kX12 hk23 35 (by decide) rfl rfl (Or.inr ⟨_, rfl⟩) ⟨rfl, rfl⟩ q_1262 ?_
  refine g_mem (fun M24 eM24 => ?_)
  replace h := lt_at eM24 h
  refine g_aload_n (pc := 102) C dX12_init_102 rfl 0 rfl ?_
  refine g_sipush (pc := 103) (v := 384) C dX12_init_103 (by decide) ?_
  have hz := leZ_new ((mjX12_init_108 h).Z hZ)
  refine g_newaJ (pc := 106) (N := 384) C dX12_init_106 q_307 (by decide) (by decide +kernel) (Nat.le_of_ble_eq_true rfl) hz.1 hz.2 ?_
  exact g_sub [0] rfl (tjX12_init_108 C hR hd hin hZ h)
def jX12_init_90 (T : Sh) (M : Me) (x0 : Nat) (s0 : Nat) (s1 : Nat) : Option (Unit × Sh × Me) :=
  gd (kd T s1 = 11) <| lt (pR M s1 34 (some s0)) fun M22 => jX12_init_99 (nT T 13 384 384) (nM T M22) x0 (tp T) x0
theorem mjX12_init_90 {T : Sh} {M : Me} {x0 : Nat} {s0 : Nat} {s1 : Nat} {T' : Sh} {M' : Me} (h : jX12_init_90 T M x0 s0 s1 = some ((), T', M')) : leT T T' := by
  unfold jX12_init_90 at h
  replace h := gd_some h; obtain ⟨hk21, h⟩ := h
  obtain ⟨M22, eM22⟩ : ∃ y : Me, y = pR M s1 34 (some s0) := ⟨_, rfl⟩
  replace h := lt_at eM22 h
  exact (leT.rfl.trans (leT.new _ _ _ _)).trans (mjX12_init_99 h)
set_option maxHeartbeats 4000000 in
theorem tjX12_init_90 {X : Fx} {B : Bx} {Z : Nat × Nat × Nat × Nat} {d : Nat} {T : Sh} {M : Me} {x0 : Nat} {s0 : Nat} {s1 : Nat} {T' : Sh} {M' : Me} (C : Cx X B cX12_init 1 RX12 d Z) (hR : Rx X none) (hd : 1 ≤ d) (hin : X.2.2.2.2.2.2.2.2.1.name = "<init>") (hZ : leZ T' Z) (h : jX12_init_90 T M x0 s0 s1 = some ((), T', M')) : G X B 1 Z (Qf X B Z none T' M') 90 [(0, .ref (x0))] [.ref (s0), .ref (s1)] T M := by
  unfold jX12_init_90 at h
  replace h := gd_some h; obtain ⟨hk21, h⟩ := h
  refine g_putRF (pc := 90) (x := (some s0)) (ft := .array (.int)) C hin dX12_init_90 kX12 hk21 34 (by decide) rfl rfl (Or.inr ⟨_, rfl⟩) ⟨rfl, rfl⟩ q_1261 ?_
  refine g_mem (fun M22 eM22 => ?_)
  replace h := lt_at eM22 h
  refine g_aload_n (pc := 93) C dX12_init_93 rfl 0 rfl ?_
  refine g_sipush (pc := 94) (v := 384) C dX12_init_94 (by decide) ?_
  have hz := leZ_new ((mjX12_init_99 h).Z hZ)
  refine g_newaI (pc := 97) (N := 384) C dX12_init_97 q_179 (by decide) (by decide +kernel) (Nat.le_of_ble_eq_true rfl) hz.1 hz.2 ?_
  exact g_sub [0] rfl (tjX12_init_99 C hR hd hin hZ h)
def jX12_init_82 (T : Sh) (M : Me) (x0 : Nat) (s0 : Nat) (s1 : Nat) : Option (Unit × Sh × Me) :=
  gd (kd T s1 = 11) <| lt (pR M s1 33 (some s0)) fun M20 => jX12_init_90 (nT T 13 64 64) (nM T M20) x0 (tp T) x0
theorem mjX12_init_82 {T : Sh} {M : Me} {x0 : Nat} {s0 : Nat} {s1 : Nat} {T' : Sh} {M' : Me} (h : jX12_init_82 T M x0 s0 s1 = some ((), T', M')) : leT T T' := by
  unfold jX12_init_82 at h
  replace h := gd_some h; obtain ⟨hk19, h⟩ := h
  obtain ⟨M20, eM20⟩ : ∃ y : Me, y = pR M s1 33 (some s0) := ⟨_, rfl⟩
  replace h := lt_at eM20 h
  exact (leT.rfl.trans (leT.new _ _ _ _)).trans (mjX12_init_90 h)
set_option maxHeartbeats 4000000 in
theorem tjX12_init_82 {X : Fx} {B : Bx} {Z : Nat × Nat × Nat × Nat} {d : Nat} {T : Sh} {M : Me} {x0 : Nat} {s0 : Nat} {s1 : Nat} {T' : Sh} {M' : Me} (C : Cx X B cX12_init 1 RX12 d Z) (hR : Rx X none) (hd : 1 ≤ d) (hin : X.2.2.2.2.2.2.2.2.1.name = "<init>") (hZ : leZ T' Z) (h : jX12_init_82 T M x0 s0 s1 = some ((), T', M')) : G X B 1 Z (Qf X B Z none T' M') 82 [(0, .ref (x0))] [.ref (s0), .ref (s1)] T M := by
  unfold jX12_init_82 at h
  replace h := gd_some h; obtain ⟨hk19, h⟩ := h
  refine g_putRF (pc := 82) (x := (some s0)) (ft := .array (.boolean)) C hin dX12_init_82 kX12 hk19 33 (by decide) rfl rfl (Or.inr ⟨_, rfl⟩) ⟨rfl, rfl⟩ q_1260 ?_
  refine g_mem (fun M20 eM20 => ?_)
  replace h := lt_at eM20 h
  refine g_aload_n (pc := 85) C dX12_init_85 rfl 0 rfl ?_
  refine g_bipush (pc := 86) (v := 64) C dX12_init_86 (by decide) ?_
  have hz := leZ_new ((mjX12_init_90 h).Z hZ)
  refine g_newaI (pc := 88) (N := 64) C dX12_init_88 q_179 (by decide) (by decide +kernel) (Nat.le_of_ble_eq_true rfl) hz.1 hz.2 ?_
  exact g_sub [0] rfl (tjX12_init_90 C hR hd hin hZ h)
def jX12_init_73 (T : Sh) (M : Me) (x0 : Nat) (s0 : Nat) (s1 : Nat) : Option (Unit × Sh × Me) :=
  gd (kd T s1 = 11) <| lt (pR M s1 29 (some s0)) fun M18 => jX12_init_82 (nT T 15 384 384) (nM T M18) x0 (tp T) x0
theorem mjX12_init_73 {T : Sh} {M : Me} {x0 : Nat} {s0 : Nat} {s1 : Nat} {T' : Sh} {M' : Me} (h : jX12_init_73 T M x0 s0 s1 = some ((), T', M')) : leT T T' := by
  unfold jX12_init_73 at h
  replace h := gd_some h; obtain ⟨hk17, h⟩ := h
  obtain ⟨M18, eM18⟩ : ∃ y : Me, y = pR M s1 29 (some s0) := ⟨_, rfl⟩
  replace h := lt_at eM18 h
  exact (leT.rfl.trans (leT.new _ _ _ _)).trans (mjX12_init_82 h)
set_option maxHeartbeats 4000000 in
theorem tjX12_init_73 {X : Fx} {B : Bx} {Z : Nat × Nat × Nat × Nat} {d : Nat} {T : Sh} {M : Me} {x0 : Nat} {s0 : Nat} {s1 : Nat} {T' : Sh} {M' : Me} (C : Cx X B cX12_init 1 RX12 d Z) (hR : Rx X none) (hd : 1 ≤ d) (hin : X.2.2.2.2.2.2.2.2.1.name = "<init>") (hZ : leZ T' Z) (h : jX12_init_73 T M x0 s0 s1 = some ((), T', M')) : G X B 1 Z (Qf X B Z none T' M') 73 [(0, .ref (x0))] [.ref (s0), .ref (s1)] T M := by
  unfold jX12_init_73 at h
  replace h := gd_some h; obtain ⟨hk17, h⟩ := h
  refine g_putRF (pc := 73) (x := (some s0)) (ft := .array (.int)) C hin dX12_init_73 kX12 hk17 29 (by decide) rfl rfl (Or.inr ⟨_, rfl⟩) ⟨rfl, rfl⟩ q_1256 ?_
  refine g_mem (fun M18 eM18 => ?_)
  replace h := lt_at eM18 h
  refine g_aload_n (pc := 76) C dX12_init_76 rfl 0 rfl ?_
  refine g_sipush (pc := 77) (v := 384) C dX12_init_77 (by decide) ?_
  have hz := leZ_new ((mjX12_init_82 h).Z hZ)
  refine g_newaZ (pc := 80) (N := 384) C dX12_init_80 q_1357 (by decide) (by decide +kernel) (Nat.le_of_ble_eq_true rfl) hz.1 hz.2 ?_
  exact g_sub [0] rfl (tjX12_init_82 C hR hd hin hZ h)
def jX12_init_65 (T : Sh) (M : Me) (x0 : Nat) (s0 : Nat) (s1 : Nat) : Option (Unit × Sh × Me) :=
  gd (kd T s1 = 11) <| lt (pR M s1 20 (some s0)) fun M16 => jX12_init_73 (nT T 13 8 8) (nM T M16) x0 (tp T) x0
theorem mjX12_init_65 {T : Sh} {M : Me} {x0 : Nat} {s0 : Nat} {s1 : Nat} {T' : Sh} {M' : Me} (h : jX12_init_65 T M x0 s0 s1 = some ((), T', M')) : leT T T' := by
  unfold jX12_init_65 at h
  replace h := gd_some h; obtain ⟨hk15, h⟩ := h
  obtain ⟨M16, eM16⟩ : ∃ y : Me, y = pR M s1 20 (some s0) := ⟨_, rfl⟩
  replace h := lt_at eM16 h
  exact (leT.rfl.trans (leT.new _ _ _ _)).trans (mjX12_init_73 h)
set_option maxHeartbeats 4000000 in
theorem tjX12_init_65 {X : Fx} {B : Bx} {Z : Nat × Nat × Nat × Nat} {d : Nat} {T : Sh} {M : Me} {x0 : Nat} {s0 : Nat} {s1 : Nat} {T' : Sh} {M' : Me} (C : Cx X B cX12_init 1 RX12 d Z) (hR : Rx X none) (hd : 1 ≤ d) (hin : X.2.2.2.2.2.2.2.2.1.name = "<init>") (hZ : leZ T' Z) (h : jX12_init_65 T M x0 s0 s1 = some ((), T', M')) : G X B 1 Z (Qf X B Z none T' M') 65 [(0, .ref (x0))] [.ref (s0), .ref (s1)] T M := by
  unfold jX12_init_65 at h
  replace h := gd_some h; obtain ⟨hk15, h⟩ := h
  refine g_putRF (pc := 65) (x := (some s0)) (ft := .array (.int)) C hin dX12_init_65 kX12 hk15 20 (by decide) rfl rfl (Or.inr ⟨_, rfl⟩) ⟨rfl, rfl⟩ q_1247 ?_
  refine g_mem (fun M16 eM16 => ?_)
  replace h := lt_at eM16 h
  refine g_aload_n (pc := 68) C dX12_init_68 rfl 0 rfl ?_
  refine g_bipush (pc := 69) (v := 8) C dX12_init_69 (by decide) ?_
  have hz := leZ_new ((mjX12_init_73 h).Z hZ)
  refine g_newaI (pc := 71) (N := 8) C dX12_init_71 q_179 (by decide) (by decide +kernel) (Nat.le_of_ble_eq_true rfl) hz.1 hz.2 ?_
  exact g_sub [0] rfl (tjX12_init_73 C hR hd hin hZ h)
def jX12_init_57 (T : Sh) (M : Me) (x0 : Nat) (s0 : Nat) (s1 : Nat) : Option (Unit × Sh × Me) :=
  gd (kd T s1 = 11) <| lt (pR M s1 17 (some s0)) fun M14 => jX12_init_65 (nT T 13 16 16) (nM T M14) x0 (tp T) x0
theorem mjX12_init_57 {T : Sh} {M : Me} {x0 : Nat} {s0 : Nat} {s1 : Nat} {T' : Sh} {M' : Me} (h : jX12_init_57 T M x0 s0 s1 = some ((), T', M')) : leT T T' := by
  unfold jX12_init_57 at h
  replace h := gd_some h; obtain ⟨hk13, h⟩ := h
  obtain ⟨M14, eM14⟩ : ∃ y : Me, y = pR M s1 17 (some s0) := ⟨_, rfl⟩
  replace h := lt_at eM14 h
  exact (leT.rfl.trans (leT.new _ _ _ _)).trans (mjX12_init_65 h)
set_option maxHeartbeats 4000000 in
theorem tjX12_init_57 {X : Fx} {B : Bx} {Z : Nat × Nat × Nat × Nat} {d : Nat} {T : Sh} {M : Me} {x0 : Nat} {s0 : Nat} {s1 : Nat} {T' : Sh} {M' : Me} (C : Cx X B cX12_init 1 RX12 d Z) (hR : Rx X none) (hd : 1 ≤ d) (hin : X.2.2.2.2.2.2.2.2.1.name = "<init>") (hZ : leZ T' Z) (h : jX12_init_57 T M x0 s0 s1 = some ((), T', M')) : G X B 1 Z (Qf X B Z none T' M') 57 [(0, .ref (x0))] [.ref (s0), .ref (s1)] T M := by
  unfold jX12_init_57 at h
  replace h := gd_some h; obtain ⟨hk13, h⟩ := h
  refine g_putRF (pc := 57) (x := (some s0)) (ft := .array (.int)) C hin dX12_init_57 kX12 hk13 17 (by decide) rfl rfl (Or.inr ⟨_, rfl⟩) ⟨rfl, rfl⟩ q_1244 ?_
  refine g_mem (fun M14 eM14 => ?_)
  replace h := lt_at eM14 h
  refine g_aload_n (pc := 60) C dX12_init_60 rfl 0 rfl ?_
  refine g_bipush (pc := 61) (v := 16) C dX12_init_61 (by decide) ?_
  have hz := leZ_new ((mjX12_init_65 h).Z hZ)
  refine g_newaI (pc := 63) (N := 16) C dX12_init_63 q_179 (by decide) (by decide +kernel) (Nat.le_of_ble_eq_true rfl) hz.1 hz.2 ?_
  exact g_sub [0] rfl (tjX12_init_65 C hR hd hin hZ h)
def jX12_init_49 (T : Sh) (M : Me) (x0 : Nat) (s0 : Nat) (s1 : Nat) : Option (Unit × Sh × Me) :=
  gd (kd T s1 = 11) <| lt (pR M s1 16 (some s0)) fun M12 => jX12_init_57 (nT T 13 6 6) (nM T M12) x0 (tp T) x0
theorem mjX12_init_49 {T : Sh} {M : Me} {x0 : Nat} {s0 : Nat} {s1 : Nat} {T' : Sh} {M' : Me} (h : jX12_init_49 T M x0 s0 s1 = some ((), T', M')) : leT T T' := by
  unfold jX12_init_49 at h
  replace h := gd_some h; obtain ⟨hk11, h⟩ := h
  obtain ⟨M12, eM12⟩ : ∃ y : Me, y = pR M s1 16 (some s0) := ⟨_, rfl⟩
  replace h := lt_at eM12 h
  exact (leT.rfl.trans (leT.new _ _ _ _)).trans (mjX12_init_57 h)
set_option maxHeartbeats 4000000 in
theorem tjX12_init_49 {X : Fx} {B : Bx} {Z : Nat × Nat × Nat × Nat} {d : Nat} {T : Sh} {M : Me} {x0 : Nat} {s0 : Nat} {s1 : Nat} {T' : Sh} {M' : Me} (C : Cx X B cX12_init 1 RX12 d Z) (hR : Rx X none) (hd : 1 ≤ d) (hin : X.2.2.2.2.2.2.2.2.1.name = "<init>") (hZ : leZ T' Z) (h : jX12_init_49 T M x0 s0 s1 = some ((), T', M')) : G X B 1 Z (Qf X B Z none T' M') 49 [(0, .ref (x0))] [.ref (s0), .ref (s1)] T M := by
  unfold jX12_init_49 at h
  replace h := gd_some h; obtain ⟨hk11, h⟩ := h
  refine g_putRF (pc := 49) (x := (some s0)) (ft := .array (.int)) C hin dX12_init_49 kX12 hk11 16 (by decide) rfl rfl (Or.inr ⟨_, rfl⟩) ⟨rfl, rfl⟩ q_1243 ?_
  refine g_mem (fun M12 eM12 => ?_)
  replace h := lt_at eM12 h
  refine g_aload_n (pc := 52) C dX12_init_52 rfl 0 rfl ?_
  refine g_bipush (pc := 53) (v := 6) C dX12_init_53 (by decide) ?_
  have hz := leZ_new ((mjX12_init_57 h).Z hZ)
  refine g_newaI (pc := 55) (N := 6) C dX12_init_55 q_179 (by decide) (by decide +kernel) (Nat.le_of_ble_eq_true rfl) hz.1 hz.2 ?_
  exact g_sub [0] rfl (tjX12_init_57 C hR hd hin hZ h)
def jX12_init_35 (T : Sh) (M : Me) (x0 : Nat) (s0 : Nat) (s1 : Nat) : Option (Unit × Sh × Me) :=
  gd (kd T s1 = 11) <| lt (pR M s1 4 (some s0)) fun M8 => gd (kd T x0 = 11) <| lt (pI M8 x0 14 (-1 : Int32)) fun M10 => jX12_init_49 (nT T 13 900 900) (nM T M10) x0 (tp T) x0
theorem mjX12_init_35 {T : Sh} {M : Me} {x0 : Nat} {s0 : Nat} {s1 : Nat} {T' : Sh} {M' : Me} (h : jX12_init_35 T M x0 s0 s1 = some ((), T', M')) : leT T T' := by
  unfold jX12_init_35 at h
  replace h := gd_some h; obtain ⟨hk7, h⟩ := h
  obtain ⟨M8, eM8⟩ : ∃ y : Me, y = pR M s1 4 (some s0) := ⟨_, rfl⟩
  replace h := lt_at eM8 h
  replace h := gd_some h; obtain ⟨hk9, h⟩ := h
  obtain ⟨M10, eM10⟩ : ∃ y : Me, y = pI M8 x0 14 (-1 : Int32) := ⟨_, rfl⟩
  replace h := lt_at eM10 h
  exact (leT.rfl.trans (leT.new _ _ _ _)).trans (mjX12_init_49 h)
set_option maxHeartbeats 4000000 in
theorem tjX12_init_35 {X : Fx} {B : Bx} {Z : Nat × Nat × Nat × Nat} {d : Nat} {T : Sh} {M : Me} {x0 : Nat} {s0 : Nat} {s1 : Nat} {T' : Sh} {M' : Me} (C : Cx X B cX12_init 1 RX12 d Z) (hR : Rx X none) (hd : 1 ≤ d) (hin : X.2.2.2.2.2.2.2.2.1.name = "<init>") (hZ : leZ T' Z) (h : jX12_init_35 T M x0 s0 s1 = some ((), T', M')) : G X B 1 Z (Qf X B Z none T' M') 35 [(0, .ref (x0))] [.ref (s0), .ref (s1)] T M := by
  unfold jX12_init_35 at h
  replace h := gd_some h; obtain ⟨hk7, h⟩ := h
  refine g_putRF (pc := 35) (x := (some s0)) (ft := .array (.int)) C hin dX12_init_35 kX12 hk7 4 (by decide) rfl rfl (Or.inr ⟨_, rfl⟩) ⟨rfl, rfl⟩ q_1231 ?_
  refine g_mem (fun M8 eM8 => ?_)
  replace h := lt_at eM8 h
  refine g_aload_n (pc := 38) C dX12_init_38 rfl 0 rfl ?_
  refine g_iconst (pc := 39) (v := (-1)) C dX12_init_39 (by decide) ?_
  replace h := gd_some h; obtain ⟨hk9, h⟩ := h
  refine g_putI (pc := 40) C dX12_init_40 kX12 hk9 14 (by decide) rfl rfl rfl q_1241 ?_
  refine g_mem (fun M10 eM10 => ?_)
  replace h := lt_at eM10 h
  refine g_aload_n (pc := 43) C dX12_init_43 rfl 0 rfl ?_
  refine g_sipush (pc := 44) (v := 900) C dX12_init_44 (by decide) ?_
  have hz := leZ_new ((mjX12_init_49 h).Z hZ)
  refine g_newaI (pc := 47) (N := 900) C dX12_init_47 q_179 (by decide) (by decide +kernel) (Nat.le_of_ble_eq_true rfl) hz.1 hz.2 ?_
  exact g_sub [0] rfl (tjX12_init_49 C hR hd hin hZ h)
def jX12_init_26 (T : Sh) (M : Me) (x0 : Nat) (s0 : Nat) (s1 : Nat) : Option (Unit × Sh × Me) :=
  gd (kd T s1 = 11) <| lt (pR M s1 3 (some s0)) fun M6 => jX12_init_35 (nT T 13 1032 1032) (nM T M6) x0 (tp T) x0
theorem mjX12_init_26 {T : Sh} {M : Me} {x0 : Nat} {s0 : Nat} {s1 : Nat} {T' : Sh} {M' : Me} (h : jX12_init_26 T M x0 s0 s1 = some ((), T', M')) : leT T T' := by
  unfold jX12_init_26 at h
  replace h := gd_some h; obtain ⟨hk5, h⟩ := h
  obtain ⟨M6, eM6⟩ : ∃ y : Me, y = pR M s1 3 (some s0) := ⟨_, rfl⟩
  replace h := lt_at eM6 h
  exact (leT.rfl.trans (leT.new _ _ _ _)).trans (mjX12_init_35 h)
set_option maxHeartbeats 4000000 in
theorem tjX12_init_26 {X : Fx} {B : Bx} {Z : Nat × Nat × Nat × Nat} {d : Nat} {T : Sh} {M : Me} {x0 : Nat} {s0 : Nat} {s1 : Nat} {T' : Sh} {M' : Me} (C : Cx X B cX12_init 1 RX12 d Z) (hR : Rx X none) (hd : 1 ≤ d) (hin : X.2.2.2.2.2.2.2.2.1.name = "<init>") (hZ : leZ T' Z) (h : jX12_init_26 T M x0 s0 s1 = some ((), T', M')) : G X B 1 Z (Qf X B Z none T' M') 26 [(0, .ref (x0))] [.ref (s0), .ref (s1)] T M := by
  unfold jX12_init_26 at h
  replace h := gd_some h; obtain ⟨hk5, h⟩ := h
  refine g_putRF (pc := 26) (x := (some s0)) (ft := .array (.int)) C hin dX12_init_26 kX12 hk5 3 (by decide) rfl rfl (Or.inr ⟨_, rfl⟩) ⟨rfl, rfl⟩ q_1230 ?_
  refine g_mem (fun M6 eM6 => ?_)
  replace h := lt_at eM6 h
  refine g_aload_n (pc := 29) C dX12_init_29 rfl 0 rfl ?_
  refine g_sipush (pc := 30) (v := 1032) C dX12_init_30 (by decide) ?_
  have hz := leZ_new ((mjX12_init_35 h).Z hZ)
  refine g_newaI (pc := 33) (N := 1032) C dX12_init_33 q_179 (by decide) (by decide +kernel) (Nat.le_of_ble_eq_true rfl) hz.1 hz.2 ?_
  exact g_sub [0] rfl (tjX12_init_35 C hR hd hin hZ h)
def jX12_init_17 (T : Sh) (M : Me) (x0 : Nat) (s0 : Nat) (s1 : Nat) : Option (Unit × Sh × Me) :=
  gd (kd T s1 = 11) <| lt (pR M s1 2 (some s0)) fun M4 => jX12_init_26 (nT T 13 900 900) (nM T M4) x0 (tp T) x0
theorem mjX12_init_17 {T : Sh} {M : Me} {x0 : Nat} {s0 : Nat} {s1 : Nat} {T' : Sh} {M' : Me} (h : jX12_init_17 T M x0 s0 s1 = some ((), T', M')) : leT T T' := by
  unfold jX12_init_17 at h
  replace h := gd_some h; obtain ⟨hk3, h⟩ := h
  obtain ⟨M4, eM4⟩ : ∃ y : Me, y = pR M s1 2 (some s0) := ⟨_, rfl⟩
  replace h := lt_at eM4 h
  exact (leT.rfl.trans (leT.new _ _ _ _)).trans (mjX12_init_26 h)
set_option maxHeartbeats 4000000 in
theorem tjX12_init_17 {X : Fx} {B : Bx} {Z : Nat × Nat × Nat × Nat} {d : Nat} {T : Sh} {M : Me} {x0 : Nat} {s0 : Nat} {s1 : Nat} {T' : Sh} {M' : Me} (C : Cx X B cX12_init 1 RX12 d Z) (hR : Rx X none) (hd : 1 ≤ d) (hin : X.2.2.2.2.2.2.2.2.1.name = "<init>") (hZ : leZ T' Z) (h : jX12_init_17 T M x0 s0 s1 = some ((), T', M')) : G X B 1 Z (Qf X B Z none T' M') 17 [(0, .ref (x0))] [.ref (s0), .ref (s1)] T M := by
  unfold jX12_init_17 at h
  replace h := gd_some h; obtain ⟨hk3, h⟩ := h
  refine g_putRF (pc := 17) (x := (some s0)) (ft := .array (.boolean)) C hin dX12_init_17 kX12 hk3 2 (by decide) rfl rfl (Or.inr ⟨_, rfl⟩) ⟨rfl, rfl⟩ q_1229 ?_
  refine g_mem (fun M4 eM4 => ?_)
  replace h := lt_at eM4 h
  refine g_aload_n (pc := 20) C dX12_init_20 rfl 0 rfl ?_
  refine g_sipush (pc := 21) (v := 900) C dX12_init_21 (by decide) ?_
  have hz := leZ_new ((mjX12_init_26 h).Z hZ)
  refine g_newaI (pc := 24) (N := 900) C dX12_init_24 q_179 (by decide) (by decide +kernel) (Nat.le_of_ble_eq_true rfl) hz.1 hz.2 ?_
  exact g_sub [0] rfl (tjX12_init_26 C hR hd hin hZ h)
def jX12_init_10 (T : Sh) (M : Me) (x0 : Nat) (s0 : Nat) (s1 : Nat) : Option (Unit × Sh × Me) :=
  gd (kd T s1 = 11) <| lt (pR M s1 1 (some s0)) fun M2 => jX12_init_17 (nT T 15 2 2) (nM T M2) x0 (tp T) x0
theorem mjX12_init_10 {T : Sh} {M : Me} {x0 : Nat} {s0 : Nat} {s1 : Nat} {T' : Sh} {M' : Me} (h : jX12_init_10 T M x0 s0 s1 = some ((), T', M')) : leT T T' := by
  unfold jX12_init_10 at h
  replace h := gd_some h; obtain ⟨hk1, h⟩ := h
  obtain ⟨M2, eM2⟩ : ∃ y : Me, y = pR M s1 1 (some s0) := ⟨_, rfl⟩
  replace h := lt_at eM2 h
  exact (leT.rfl.trans (leT.new _ _ _ _)).trans (mjX12_init_17 h)
set_option maxHeartbeats 4000000 in
theorem tjX12_init_10 {X : Fx} {B : Bx} {Z : Nat × Nat × Nat × Nat} {d : Nat} {T : Sh} {M : Me} {x0 : Nat} {s0 : Nat} {s1 : Nat} {T' : Sh} {M' : Me} (C : Cx X B cX12_init 1 RX12 d Z) (hR : Rx X none) (hd : 1 ≤ d) (hin : X.2.2.2.2.2.2.2.2.1.name = "<init>") (hZ : leZ T' Z) (h : jX12_init_10 T M x0 s0 s1 = some ((), T', M')) : G X B 1 Z (Qf X B Z none T' M') 10 [(0, .ref (x0))] [.ref (s0), .ref (s1)] T M := by
  unfold jX12_init_10 at h
  replace h := gd_some h; obtain ⟨hk1, h⟩ := h
  refine g_putRF (pc := 10) (x := (some s0)) (ft := .array (.int)) C hin dX12_init_10 kX12 hk1 1 (by decide) rfl rfl (Or.inr ⟨_, rfl⟩) ⟨rfl, rfl⟩ q_1228 ?_
  refine g_mem (fun M2 eM2 => ?_)
  replace h := lt_at eM2 h
  refine g_aload_n (pc := 13) C dX12_init_13 rfl 0 rfl ?_
  refine g_iconst (pc := 14) (v := 2) C dX12_init_14 (by decide) ?_
  have hz := leZ_new ((mjX12_init_17 h).Z hZ)
  refine g_newaZ (pc := 15) (N := 2) C dX12_init_15 q_1357 (by decide) (by decide +kernel) (Nat.le_of_ble_eq_true rfl) hz.1 hz.2 ?_
  exact g_sub [0] rfl (tjX12_init_17 C hR hd hin hZ h)
/-- EyeTrainerModel.<init>()V -/
def fX12_init (T : Sh) (M : Me) (x0 : Nat) : Option (Unit × Sh × Me) :=
  jX12_init_10 (nT T 13 3096 3096) (nM T M) x0 (tp T) x0
theorem mX12_init {T : Sh} {M : Me} {x0 : Nat} {T' : Sh} {M' : Me} (h : fX12_init T M x0 = some ((), T', M')) : leT T T' := by
  unfold fX12_init at h
  exact (leT.rfl.trans (leT.new _ _ _ _)).trans (mjX12_init_10 h)
set_option maxHeartbeats 4000000 in
theorem kX12_init {l : Launch} {B : Bx} {d : Nat} (hd : 1 ≤ d) {T : Sh} {M : Me} {x0 : Nat} {T' : Sh} {M' : Me} (h : fX12_init T M x0 = some ((), T', M')) : Kt l B yX12_init cX12_init 1 none d [.ref (x0)] T M none T' M' := by
  have hmm := mX12_init h
  refine kt_of wX12_init hmm.1 hmm.2 (Nat.le_of_ble_eq_true rfl) (fun X C hR hlx hin => ?_)
  subst hlx
  replace C : Cx X B cX12_init 1 RX12 d (tp T, sl T, tp T', sl T') := C
  have hZ : leZ T' (tp T, sl T, tp T', sl T') := ⟨Nat.le_refl _, Nat.le_refl _⟩
  unfold fX12_init at h
  show G X B 1 _ _ 0 [(0, .ref (x0))] [] T M
  refine g_aload_n (pc := 0) C dX12_init_0 rfl 0 rfl ?_
  refine g_objInit (pc := 1) C dX12_init_1 (by omega) q_1223 q_148 q_149 (Nat.le_of_ble_eq_true rfl) ?_
  refine g_aload_n (pc := 4) C dX12_init_4 rfl 0 rfl ?_
  refine g_sipush (pc := 5) (v := 3096) C dX12_init_5 (by decide) ?_
  have hz := leZ_new ((mjX12_init_10 h).Z hZ)
  refine g_newaI (pc := 8) (N := 3096) C dX12_init_8 q_179 (by decide) (by decide +kernel) (Nat.le_of_ble_eq_true rfl) hz.1 hz.2 ?_
  exact g_sub [0] rfl (tjX12_init_10 C hR hd hin hZ h)
