set_option maxRecDepth 20000 in
theorem q_10 : Cond.selects RX6 yX6_readSum yX6_readSum ∈ lw_gd := mem_gd (List.mem_of_getElem? (i := 10) (by decide +kernel)) rfl
set_option maxRecDepth 20000 in
theorem q_11 : Cond.selects RX6 yX6_readTerm yX6_readTerm ∈ lw_gd := mem_gd (List.mem_of_getElem? (i := 11) (by decide +kernel)) rfl
set_option maxRecDepth 20000 in
theorem q_12 : Cond.selects RX6 yX6_readAtom yX6_readAtom ∈ lw_gd := mem_gd (List.mem_of_getElem? (i := 12) (by decide +kernel)) rfl
set_option maxRecDepth 20000 in
theorem q_13 : Cond.selects RX6 yX6_put yX6_put ∈ lw_gd := mem_gd (List.mem_of_getElem? (i := 13) (by decide +kernel)) rfl
set_option maxRecDepth 20000 in
theorem q_14 : Cond.selects RX6 yX6_goDeeper yX6_goDeeper ∈ lw_gd := mem_gd (List.mem_of_getElem? (i := 14) (by decide +kernel)) rfl
set_option maxRecDepth 20000 in
theorem q_15 : Cond.selects RX6 yX6_readChoice yX6_readChoice ∈ lw_gd := mem_gd (List.mem_of_getElem? (i := 15) (by decide +kernel)) rfl
set_option maxRecDepth 20000 in
theorem q_16 : Cond.selects RX6 yX6_readTruth yX6_readTruth ∈ lw_gd := mem_gd (List.mem_of_getElem? (i := 16) (by decide +kernel)) rfl
set_option maxRecDepth 20000 in
theorem q_17 : Cond.selects RX6 yX6_readBoth yX6_readBoth ∈ lw_gd := mem_gd (List.mem_of_getElem? (i := 17) (by decide +kernel)) rfl
set_option maxRecDepth 20000 in
theorem q_18 : Cond.selects RX6 yX6_readUnit yX6_readUnit ∈ lw_gd := mem_gd (List.mem_of_getElem? (i := 18) (by decide +kernel)) rfl
set_option maxRecDepth 20000 in
theorem q_19 : Cond.selects RX6 yX6_land yX6_land ∈ lw_gd := mem_gd (List.mem_of_getElem? (i := 19) (by decide +kernel)) rfl
set_option maxRecDepth 20000 in
theorem q_188 : Cond.fieldLink RX6 108 "EyeTrainer$Reader" "speaksOf" "I" ∈ lw_gd := mem_gd (List.mem_of_getElem? (i := 188) (by decide +kernel)) rfl
set_option maxRecDepth 20000 in
theorem q_189 : Cond.fieldLink RX6 111 "EyeTrainer$Reader" "used" "I" ∈ lw_gd := mem_gd (List.mem_of_getElem? (i := 189) (by decide +kernel)) rfl
set_option maxRecDepth 20000 in
theorem q_681 : Cond.code yX6_readLaw cX6_readLaw 2 (some (.object "EyeTrainer$Law")) ∈ lw_gd := mem_gd (List.mem_of_getElem? (i := 681) (by decide +kernel)) rfl
set_option maxRecDepth 20000 in
theorem q_682 : Cond.methodLink RX6 117 yX6_readSum ∈ lw_gd := mem_gd (List.mem_of_getElem? (i := 682) (by decide +kernel)) rfl
set_option maxRecDepth 20000 in
theorem q_684 : Cond.instanceMethod yX6_readSum ∈ lw_gd := mem_gd (List.mem_of_getElem? (i := 684) (by decide +kernel)) rfl
set_option maxRecDepth 20000 in
theorem q_685 : Cond.code yX6_readSum cX6_readSum 4 none ∈ lw_gd := mem_gd (List.mem_of_getElem? (i := 685) (by decide +kernel)) rfl
set_option maxRecDepth 20000 in
theorem q_686 : Cond.methodLink RX6 151 yX6_readTerm ∈ lw_gd := mem_gd (List.mem_of_getElem? (i := 686) (by decide +kernel)) rfl
set_option maxRecDepth 20000 in
theorem q_688 : Cond.instanceMethod yX6_readTerm ∈ lw_gd := mem_gd (List.mem_of_getElem? (i := 688) (by decide +kernel)) rfl
set_option maxRecDepth 20000 in
theorem q_689 : Cond.code yX6_readTerm cX6_readTerm 3 none ∈ lw_gd := mem_gd (List.mem_of_getElem? (i := 689) (by decide +kernel)) rfl
set_option maxRecDepth 20000 in
theorem q_690 : Cond.methodLink RX6 154 yX6_readAtom ∈ lw_gd := mem_gd (List.mem_of_getElem? (i := 690) (by decide +kernel)) rfl
set_option maxRecDepth 20000 in
theorem q_692 : Cond.instanceMethod yX6_readAtom ∈ lw_gd := mem_gd (List.mem_of_getElem? (i := 692) (by decide +kernel)) rfl
set_option maxRecDepth 20000 in
theorem q_693 : Cond.code yX6_readAtom cX6_readAtom 3 none ∈ lw_gd := mem_gd (List.mem_of_getElem? (i := 693) (by decide +kernel)) rfl
set_option maxRecDepth 20000 in
theorem q_694 : Cond.methodLink RX6 137 yX6_put ∈ lw_gd := mem_gd (List.mem_of_getElem? (i := 694) (by decide +kernel)) rfl
set_option maxRecDepth 20000 in
theorem q_696 : Cond.instanceMethod yX6_put ∈ lw_gd := mem_gd (List.mem_of_getElem? (i := 696) (by decide +kernel)) rfl
set_option maxRecDepth 20000 in
theorem q_698 : Cond.methodLink RX6 147 yX6_goDeeper ∈ lw_gd := mem_gd (List.mem_of_getElem? (i := 698) (by decide +kernel)) rfl
set_option maxRecDepth 20000 in
theorem q_700 : Cond.instanceMethod yX6_goDeeper ∈ lw_gd := mem_gd (List.mem_of_getElem? (i := 700) (by decide +kernel)) rfl
set_option maxRecDepth 20000 in
theorem q_702 : Cond.methodLink RX6 160 yX6_readChoice ∈ lw_gd := mem_gd (List.mem_of_getElem? (i := 702) (by decide +kernel)) rfl
set_option maxRecDepth 20000 in
theorem q_704 : Cond.instanceMethod yX6_readChoice ∈ lw_gd := mem_gd (List.mem_of_getElem? (i := 704) (by decide +kernel)) rfl
set_option maxRecDepth 20000 in
theorem q_705 : Cond.code yX6_readChoice cX6_readChoice 4 none ∈ lw_gd := mem_gd (List.mem_of_getElem? (i := 705) (by decide +kernel)) rfl
set_option maxRecDepth 20000 in
theorem q_706 : Cond.methodLink RX6 120 yX6_readTruth ∈ lw_gd := mem_gd (List.mem_of_getElem? (i := 706) (by decide +kernel)) rfl
set_option maxRecDepth 20000 in
theorem q_708 : Cond.instanceMethod yX6_readTruth ∈ lw_gd := mem_gd (List.mem_of_getElem? (i := 708) (by decide +kernel)) rfl
set_option maxRecDepth 20000 in
theorem q_709 : Cond.code yX6_readTruth cX6_readTruth 4 none ∈ lw_gd := mem_gd (List.mem_of_getElem? (i := 709) (by decide +kernel)) rfl
set_option maxRecDepth 20000 in
theorem q_710 : Cond.methodLink RX6 134 yX6_readBoth ∈ lw_gd := mem_gd (List.mem_of_getElem? (i := 710) (by decide +kernel)) rfl
set_option maxRecDepth 20000 in
theorem q_712 : Cond.instanceMethod yX6_readBoth ∈ lw_gd := mem_gd (List.mem_of_getElem? (i := 712) (by decide +kernel)) rfl
set_option maxRecDepth 20000 in
theorem q_713 : Cond.code yX6_readBoth cX6_readBoth 4 none ∈ lw_gd := mem_gd (List.mem_of_getElem? (i := 713) (by decide +kernel)) rfl
set_option maxRecDepth 20000 in
theorem q_714 : Cond.methodLink RX6 144 yX6_readUnit ∈ lw_gd := mem_gd (List.mem_of_getElem? (i := 714) (by decide +kernel)) rfl
set_option maxRecDepth 20000 in
theorem q_716 : Cond.instanceMethod yX6_readUnit ∈ lw_gd := mem_gd (List.mem_of_getElem? (i := 716) (by decide +kernel)) rfl
set_option maxRecDepth 20000 in
theorem q_717 : Cond.code yX6_readUnit cX6_readUnit 3 none ∈ lw_gd := mem_gd (List.mem_of_getElem? (i := 717) (by decide +kernel)) rfl
set_option maxRecDepth 20000 in
theorem q_718 : Cond.methodLink RX6 141 yX6_land ∈ lw_gd := mem_gd (List.mem_of_getElem? (i := 718) (by decide +kernel)) rfl
set_option maxRecDepth 20000 in
theorem q_720 : Cond.instanceMethod yX6_land ∈ lw_gd := mem_gd (List.mem_of_getElem? (i := 720) (by decide +kernel)) rfl
set_option maxRecDepth 20000 in
theorem q_722 : Cond.classLink RX6 123 RX4 ∈ lw_gd := mem_gd (List.mem_of_getElem? (i := 722) (by decide +kernel)) rfl
set_option maxRecDepth 20000 in
theorem q_723 : Cond.instantiable RX4 2 ∈ lw_gd := mem_gd (List.mem_of_getElem? (i := 723) (by decide +kernel)) rfl
set_option maxRecDepth 20000 in
theorem q_724 : Cond.methodLink RX6 125 yJ7_copyOf_59c91 ∈ lw_gd := mem_gd (List.mem_of_getElem? (i := 724) (by decide +kernel)) rfl
set_option maxRecDepth 20000 in
theorem q_725 : Cond.static yJ7_copyOf_59c91 ∈ lw_gd := mem_gd (List.mem_of_getElem? (i := 725) (by decide +kernel)) rfl
set_option maxRecDepth 20000 in
theorem q_738 : Cond.methodLink RX6 131 yX4_init ∈ lw_gd := mem_gd (List.mem_of_getElem? (i := 738) (by decide +kernel)) rfl
set_option maxRecDepth 20000 in
theorem q_739 : Cond.instanceMethod yX4_init ∈ lw_gd := mem_gd (List.mem_of_getElem? (i := 739) (by decide +kernel)) rfl
theorem dX6_readTruth_0 : decode cX6_readTruth 0 = .ok (.aload_n 0, 1) := by decide +kernel
theorem dX6_readTruth_1 : decode cX6_readTruth 1 = .ok (.iload_n 1, 1) := by decide +kernel
theorem dX6_readTruth_2 : decode cX6_readTruth 2 = .ok (.invokevirtual 134, 3) := by decide +kernel
theorem dX6_readTruth_5 : decode cX6_readTruth 5 = .ok (.iconst 0, 1) := by decide +kernel
theorem dX6_readTruth_6 : decode cX6_readTruth 6 = .ok (.istore_n 2, 1) := by decide +kernel
theorem dX6_readTruth_7 : decode cX6_readTruth 7 = .ok (.iload_n 2, 1) := by decide +kernel
theorem dX6_readTruth_8 : decode cX6_readTruth 8 = .ok (.sipush 900, 3) := by decide +kernel
theorem dX6_readTruth_11 : decode cX6_readTruth 11 = .ok (.if_icmp .ge 47, 3) := by decide +kernel
theorem dX6_readTruth_14 : decode cX6_readTruth 14 = .ok (.aload_n 0, 1) := by decide +kernel
theorem dX6_readTruth_15 : decode cX6_readTruth 15 = .ok (.invokevirtual 56, 3) := by decide +kernel
theorem dX6_readTruth_18 : decode cX6_readTruth 18 = .ok (.sipush 220, 3) := by decide +kernel
theorem dX6_readTruth_21 : decode cX6_readTruth 21 = .ok (.if_icmp .ne 37, 3) := by decide +kernel
theorem dX6_readTruth_24 : decode cX6_readTruth 24 = .ok (.aload_n 0, 1) := by decide +kernel
theorem dX6_readTruth_25 : decode cX6_readTruth 25 = .ok (.dup, 1) := by decide +kernel
theorem dX6_readTruth_26 : decode cX6_readTruth 26 = .ok (.getfield 30, 3) := by decide +kernel
theorem dX6_readTruth_29 : decode cX6_readTruth 29 = .ok (.iconst 1, 1) := by decide +kernel
theorem dX6_readTruth_30 : decode cX6_readTruth 30 = .ok (.iadd, 1) := by decide +kernel
theorem dX6_readTruth_31 : decode cX6_readTruth 31 = .ok (.putfield 30, 3) := by decide +kernel
theorem dX6_readTruth_34 : decode cX6_readTruth 34 = .ok (.aload_n 0, 1) := by decide +kernel
theorem dX6_readTruth_35 : decode cX6_readTruth 35 = .ok (.bipush 10, 2) := by decide +kernel
theorem dX6_readTruth_37 : decode cX6_readTruth 37 = .ok (.iconst 0, 1) := by decide +kernel
theorem dX6_readTruth_38 : decode cX6_readTruth 38 = .ok (.invokevirtual 137, 3) := by decide +kernel
theorem dX6_readTruth_41 : decode cX6_readTruth 41 = .ok (.istore_n 3, 1) := by decide +kernel
theorem dX6_readTruth_42 : decode cX6_readTruth 42 = .ok (.aload_n 0, 1) := by decide +kernel
theorem dX6_readTruth_43 : decode cX6_readTruth 43 = .ok (.iload_n 1, 1) := by decide +kernel
theorem dX6_readTruth_44 : decode cX6_readTruth 44 = .ok (.invokevirtual 134, 3) := by decide +kernel
theorem dX6_readTruth_47 : decode cX6_readTruth 47 = .ok (.aload_n 0, 1) := by decide +kernel
theorem dX6_readTruth_48 : decode cX6_readTruth 48 = .ok (.iload_n 3, 1) := by decide +kernel
theorem dX6_readTruth_49 : decode cX6_readTruth 49 = .ok (.invokevirtual 141, 3) := by decide +kernel
theorem dX6_readTruth_52 : decode cX6_readTruth 52 = .ok (.iinc 2 1, 3) := by decide +kernel
theorem dX6_readTruth_55 : decode cX6_readTruth 55 = .ok (.goto (-48), 3) := by decide +kernel
theorem dX6_readTruth_58 : decode cX6_readTruth 58 = .ok (.return_, 1) := by decide +kernel
theorem dX6_readBoth_0 : decode cX6_readBoth 0 = .ok (.aload_n 0, 1) := by decide +kernel
theorem dX6_readBoth_1 : decode cX6_readBoth 1 = .ok (.iload_n 1, 1) := by decide +kernel
theorem dX6_readBoth_2 : decode cX6_readBoth 2 = .ok (.invokevirtual 144, 3) := by decide +kernel
theorem dX6_readBoth_5 : decode cX6_readBoth 5 = .ok (.iconst 0, 1) := by decide +kernel
theorem dX6_readBoth_6 : decode cX6_readBoth 6 = .ok (.istore_n 2, 1) := by decide +kernel
theorem dX6_readBoth_7 : decode cX6_readBoth 7 = .ok (.iload_n 2, 1) := by decide +kernel
theorem dX6_readBoth_8 : decode cX6_readBoth 8 = .ok (.sipush 900, 3) := by decide +kernel
theorem dX6_readBoth_11 : decode cX6_readBoth 11 = .ok (.if_icmp .ge 47, 3) := by decide +kernel
theorem dX6_readBoth_14 : decode cX6_readBoth 14 = .ok (.aload_n 0, 1) := by decide +kernel
theorem dX6_readBoth_15 : decode cX6_readBoth 15 = .ok (.invokevirtual 56, 3) := by decide +kernel
theorem dX6_readBoth_18 : decode cX6_readBoth 18 = .ok (.sipush 221, 3) := by decide +kernel
theorem dX6_readBoth_21 : decode cX6_readBoth 21 = .ok (.if_icmp .ne 37, 3) := by decide +kernel
theorem dX6_readBoth_24 : decode cX6_readBoth 24 = .ok (.aload_n 0, 1) := by decide +kernel
theorem dX6_readBoth_25 : decode cX6_readBoth 25 = .ok (.dup, 1) := by decide +kernel
theorem dX6_readBoth_26 : decode cX6_readBoth 26 = .ok (.getfield 30, 3) := by decide +kernel
theorem dX6_readBoth_29 : decode cX6_readBoth 29 = .ok (.iconst 1, 1) := by decide +kernel
theorem dX6_readBoth_30 : decode cX6_readBoth 30 = .ok (.iadd, 1) := by decide +kernel
theorem dX6_readBoth_31 : decode cX6_readBoth 31 = .ok (.putfield 30, 3) := by decide +kernel
theorem dX6_readBoth_34 : decode cX6_readBoth 34 = .ok (.aload_n 0, 1) := by decide +kernel
theorem dX6_readBoth_35 : decode cX6_readBoth 35 = .ok (.bipush 9, 2) := by decide +kernel
theorem dX6_readBoth_37 : decode cX6_readBoth 37 = .ok (.iconst 0, 1) := by decide +kernel
theorem dX6_readBoth_38 : decode cX6_readBoth 38 = .ok (.invokevirtual 137, 3) := by decide +kernel
theorem dX6_readBoth_41 : decode cX6_readBoth 41 = .ok (.istore_n 3, 1) := by decide +kernel
theorem dX6_readBoth_42 : decode cX6_readBoth 42 = .ok (.aload_n 0, 1) := by decide +kernel
theorem dX6_readBoth_43 : decode cX6_readBoth 43 = .ok (.iload_n 1, 1) := by decide +kernel
theorem dX6_readBoth_44 : decode cX6_readBoth 44 = .ok (.invokevirtual 144, 3) := by decide +kernel
theorem dX6_readBoth_47 : decode cX6_readBoth 47 = .ok (.aload_n 0, 1) := by decide +kernel
theorem dX6_readBoth_48 : decode cX6_readBoth 48 = .ok (.iload_n 3, 1) := by decide +kernel
theorem dX6_readBoth_49 : decode cX6_readBoth 49 = .ok (.invokevirtual 141, 3) := by decide +kernel
theorem dX6_readBoth_52 : decode cX6_readBoth 52 = .ok (.iinc 2 1, 3) := by decide +kernel
theorem dX6_readBoth_55 : decode cX6_readBoth 55 = .ok (.goto (-48), 3) := by decide +kernel
theorem dX6_readBoth_58 : decode cX6_readBoth 58 = .ok (.return_, 1) := by decide +kernel
theorem dX6_readUnit_0 : decode cX6_readUnit 0 = .ok (.aload_n 0, 1) := by decide +kernel
theorem dX6_readUnit_1 : decode cX6_readUnit 1 = .ok (.invokevirtual 56, 3) := by decide +kernel
theorem dX6_readUnit_4 : decode cX6_readUnit 4 = .ok (.sipush 222, 3) := by decide +kernel
theorem dX6_readUnit_7 : decode cX6_readUnit 7 = .ok (.if_icmp .ne 29, 3) := by decide +kernel
theorem dX6_readUnit_10 : decode cX6_readUnit 10 = .ok (.aload_n 0, 1) := by decide +kernel
theorem dX6_readUnit_11 : decode cX6_readUnit 11 = .ok (.iload_n 1, 1) := by decide +kernel
theorem dX6_readUnit_12 : decode cX6_readUnit 12 = .ok (.invokevirtual 147, 3) := by decide +kernel
theorem dX6_readUnit_15 : decode cX6_readUnit 15 = .ok (.ifCond .eq 134, 3) := by decide +kernel
theorem dX6_readUnit_18 : decode cX6_readUnit 18 = .ok (.aload_n 0, 1) := by decide +kernel
theorem dX6_readUnit_19 : decode cX6_readUnit 19 = .ok (.iload_n 1, 1) := by decide +kernel
theorem dX6_readUnit_20 : decode cX6_readUnit 20 = .ok (.iconst 1, 1) := by decide +kernel
theorem dX6_readUnit_21 : decode cX6_readUnit 21 = .ok (.iadd, 1) := by decide +kernel
theorem dX6_readUnit_22 : decode cX6_readUnit 22 = .ok (.invokevirtual 144, 3) := by decide +kernel
theorem dX6_readUnit_25 : decode cX6_readUnit 25 = .ok (.aload_n 0, 1) := by decide +kernel
theorem dX6_readUnit_26 : decode cX6_readUnit 26 = .ok (.bipush 8, 2) := by decide +kernel
theorem dX6_readUnit_28 : decode cX6_readUnit 28 = .ok (.iconst 0, 1) := by decide +kernel
theorem dX6_readUnit_29 : decode cX6_readUnit 29 = .ok (.invokevirtual 137, 3) := by decide +kernel
theorem dX6_readUnit_32 : decode cX6_readUnit 32 = .ok (.pop, 1) := by decide +kernel
theorem dX6_readUnit_33 : decode cX6_readUnit 33 = .ok (.goto 116, 3) := by decide +kernel
theorem dX6_readUnit_36 : decode cX6_readUnit 36 = .ok (.aload_n 0, 1) := by decide +kernel
theorem dX6_readUnit_37 : decode cX6_readUnit 37 = .ok (.invokevirtual 56, 3) := by decide +kernel
theorem dX6_readUnit_40 : decode cX6_readUnit 40 = .ok (.bipush 91, 2) := by decide +kernel
theorem dX6_readUnit_42 : decode cX6_readUnit 42 = .ok (.if_icmp .ne 27, 3) := by decide +kernel
theorem dX6_readUnit_45 : decode cX6_readUnit 45 = .ok (.aload_n 0, 1) := by decide +kernel
theorem dX6_readUnit_46 : decode cX6_readUnit 46 = .ok (.iload_n 1, 1) := by decide +kernel
theorem dX6_readUnit_47 : decode cX6_readUnit 47 = .ok (.invokevirtual 147, 3) := by decide +kernel
theorem dX6_readUnit_50 : decode cX6_readUnit 50 = .ok (.ifCond .eq 99, 3) := by decide +kernel
theorem dX6_readUnit_53 : decode cX6_readUnit 53 = .ok (.aload_n 0, 1) := by decide +kernel
theorem dX6_readUnit_54 : decode cX6_readUnit 54 = .ok (.iload_n 1, 1) := by decide +kernel
theorem dX6_readUnit_55 : decode cX6_readUnit 55 = .ok (.iconst 1, 1) := by decide +kernel
theorem dX6_readUnit_56 : decode cX6_readUnit 56 = .ok (.iadd, 1) := by decide +kernel
theorem dX6_readUnit_57 : decode cX6_readUnit 57 = .ok (.invokevirtual 120, 3) := by decide +kernel
theorem dX6_readUnit_60 : decode cX6_readUnit 60 = .ok (.aload_n 0, 1) := by decide +kernel
theorem dX6_readUnit_61 : decode cX6_readUnit 61 = .ok (.bipush 93, 2) := by decide +kernel
theorem dX6_readUnit_63 : decode cX6_readUnit 63 = .ok (.invokevirtual 39, 3) := by decide +kernel
theorem dX6_readUnit_66 : decode cX6_readUnit 66 = .ok (.goto 83, 3) := by decide +kernel
theorem dX6_readUnit_69 : decode cX6_readUnit 69 = .ok (.aload_n 0, 1) := by decide +kernel
theorem dX6_readUnit_70 : decode cX6_readUnit 70 = .ok (.iload_n 1, 1) := by decide +kernel
theorem dX6_readUnit_71 : decode cX6_readUnit 71 = .ok (.invokevirtual 117, 3) := by decide +kernel
theorem dX6_readUnit_74 : decode cX6_readUnit 74 = .ok (.aload_n 0, 1) := by decide +kernel
theorem dX6_readUnit_75 : decode cX6_readUnit 75 = .ok (.invokevirtual 56, 3) := by decide +kernel
theorem dX6_readUnit_78 : decode cX6_readUnit 78 = .ok (.istore_n 2, 1) := by decide +kernel
theorem dX6_readUnit_79 : decode cX6_readUnit 79 = .ok (.iload_n 2, 1) := by decide +kernel
theorem dX6_readUnit_80 : decode cX6_readUnit 80 = .ok (.bipush 61, 2) := by decide +kernel
theorem dX6_readUnit_82 : decode cX6_readUnit 82 = .ok (.if_icmp .eq 15, 3) := by decide +kernel
theorem dX6_readUnit_85 : decode cX6_readUnit 85 = .ok (.iload_n 2, 1) := by decide +kernel
theorem dX6_readUnit_86 : decode cX6_readUnit 86 = .ok (.bipush 60, 2) := by decide +kernel
theorem dX6_readUnit_88 : decode cX6_readUnit 88 = .ok (.if_icmp .eq 9, 3) := by decide +kernel
theorem dX6_readUnit_91 : decode cX6_readUnit 91 = .ok (.iload_n 2, 1) := by decide +kernel
theorem dX6_readUnit_92 : decode cX6_readUnit 92 = .ok (.bipush 62, 2) := by decide +kernel
theorem dX6_readUnit_94 : decode cX6_readUnit 94 = .ok (.if_icmp .ne 50, 3) := by decide +kernel
theorem dX6_readUnit_97 : decode cX6_readUnit 97 = .ok (.aload_n 0, 1) := by decide +kernel
theorem dX6_readUnit_98 : decode cX6_readUnit 98 = .ok (.dup, 1) := by decide +kernel
theorem dX6_readUnit_99 : decode cX6_readUnit 99 = .ok (.getfield 30, 3) := by decide +kernel
theorem dX6_readUnit_102 : decode cX6_readUnit 102 = .ok (.iconst 1, 1) := by decide +kernel
theorem dX6_readUnit_103 : decode cX6_readUnit 103 = .ok (.iadd, 1) := by decide +kernel
theorem dX6_readUnit_104 : decode cX6_readUnit 104 = .ok (.putfield 30, 3) := by decide +kernel
theorem dX6_readUnit_107 : decode cX6_readUnit 107 = .ok (.aload_n 0, 1) := by decide +kernel
theorem dX6_readUnit_108 : decode cX6_readUnit 108 = .ok (.iload_n 1, 1) := by decide +kernel
theorem dX6_readUnit_109 : decode cX6_readUnit 109 = .ok (.invokevirtual 117, 3) := by decide +kernel
theorem dX6_readUnit_112 : decode cX6_readUnit 112 = .ok (.aload_n 0, 1) := by decide +kernel
theorem dX6_readUnit_113 : decode cX6_readUnit 113 = .ok (.iload_n 2, 1) := by decide +kernel
theorem dX6_readUnit_114 : decode cX6_readUnit 114 = .ok (.bipush 61, 2) := by decide +kernel
theorem dX6_readUnit_116 : decode cX6_readUnit 116 = .ok (.if_icmp .ne 7, 3) := by decide +kernel
theorem dX6_readUnit_119 : decode cX6_readUnit 119 = .ok (.iconst 5, 1) := by decide +kernel
theorem dX6_readUnit_120 : decode cX6_readUnit 120 = .ok (.goto 16, 3) := by decide +kernel
theorem dX6_readUnit_123 : decode cX6_readUnit 123 = .ok (.iload_n 2, 1) := by decide +kernel
theorem dX6_readUnit_124 : decode cX6_readUnit 124 = .ok (.bipush 60, 2) := by decide +kernel
theorem dX6_readUnit_126 : decode cX6_readUnit 126 = .ok (.if_icmp .ne 8, 3) := by decide +kernel
theorem dX6_readUnit_129 : decode cX6_readUnit 129 = .ok (.bipush 6, 2) := by decide +kernel
theorem dX6_readUnit_131 : decode cX6_readUnit 131 = .ok (.goto 5, 3) := by decide +kernel
theorem dX6_readUnit_134 : decode cX6_readUnit 134 = .ok (.bipush 7, 2) := by decide +kernel
theorem dX6_readUnit_136 : decode cX6_readUnit 136 = .ok (.iconst 0, 1) := by decide +kernel
theorem dX6_readUnit_137 : decode cX6_readUnit 137 = .ok (.invokevirtual 137, 3) := by decide +kernel
theorem dX6_readUnit_140 : decode cX6_readUnit 140 = .ok (.pop, 1) := by decide +kernel
theorem dX6_readUnit_141 : decode cX6_readUnit 141 = .ok (.goto 8, 3) := by decide +kernel
theorem dX6_readUnit_144 : decode cX6_readUnit 144 = .ok (.aload_n 0, 1) := by decide +kernel
theorem dX6_readUnit_145 : decode cX6_readUnit 145 = .ok (.iconst 2, 1) := by decide +kernel
theorem dX6_readUnit_146 : decode cX6_readUnit 146 = .ok (.invokevirtual 84, 3) := by decide +kernel
theorem dX6_readUnit_149 : decode cX6_readUnit 149 = .ok (.return_, 1) := by decide +kernel
theorem dX6_readSum_0 : decode cX6_readSum 0 = .ok (.aload_n 0, 1) := by decide +kernel
theorem dX6_readSum_1 : decode cX6_readSum 1 = .ok (.iload_n 1, 1) := by decide +kernel
theorem dX6_readSum_2 : decode cX6_readSum 2 = .ok (.invokevirtual 151, 3) := by decide +kernel
theorem dX6_readSum_5 : decode cX6_readSum 5 = .ok (.iconst 0, 1) := by decide +kernel
theorem dX6_readSum_6 : decode cX6_readSum 6 = .ok (.istore_n 2, 1) := by decide +kernel
theorem dX6_readSum_7 : decode cX6_readSum 7 = .ok (.iload_n 2, 1) := by decide +kernel
theorem dX6_readSum_8 : decode cX6_readSum 8 = .ok (.sipush 900, 3) := by decide +kernel
theorem dX6_readSum_11 : decode cX6_readSum 11 = .ok (.if_icmp .ge 64, 3) := by decide +kernel
theorem dX6_readSum_14 : decode cX6_readSum 14 = .ok (.aload_n 0, 1) := by decide +kernel
theorem dX6_readSum_15 : decode cX6_readSum 15 = .ok (.invokevirtual 56, 3) := by decide +kernel
theorem dX6_readSum_18 : decode cX6_readSum 18 = .ok (.bipush 43, 2) := by decide +kernel
theorem dX6_readSum_20 : decode cX6_readSum 20 = .ok (.if_icmp .eq 12, 3) := by decide +kernel
theorem dX6_readSum_23 : decode cX6_readSum 23 = .ok (.aload_n 0, 1) := by decide +kernel
theorem dX6_readSum_24 : decode cX6_readSum 24 = .ok (.invokevirtual 56, 3) := by decide +kernel
theorem dX6_readSum_27 : decode cX6_readSum 27 = .ok (.bipush 45, 2) := by decide +kernel
theorem dX6_readSum_29 : decode cX6_readSum 29 = .ok (.if_icmp .ne 46, 3) := by decide +kernel
theorem dX6_readSum_32 : decode cX6_readSum 32 = .ok (.aload_n 0, 1) := by decide +kernel
theorem dX6_readSum_33 : decode cX6_readSum 33 = .ok (.invokevirtual 56, 3) := by decide +kernel
theorem dX6_readSum_36 : decode cX6_readSum 36 = .ok (.bipush 43, 2) := by decide +kernel
theorem dX6_readSum_38 : decode cX6_readSum 38 = .ok (.if_icmp .ne 7, 3) := by decide +kernel
theorem dX6_readSum_41 : decode cX6_readSum 41 = .ok (.iconst 2, 1) := by decide +kernel
theorem dX6_readSum_42 : decode cX6_readSum 42 = .ok (.goto 4, 3) := by decide +kernel
theorem dX6_readSum_45 : decode cX6_readSum 45 = .ok (.iconst 3, 1) := by decide +kernel
theorem dX6_readSum_46 : decode cX6_readSum 46 = .ok (.istore_n 3, 1) := by decide +kernel
theorem dX6_readSum_47 : decode cX6_readSum 47 = .ok (.aload_n 0, 1) := by decide +kernel
theorem dX6_readSum_48 : decode cX6_readSum 48 = .ok (.dup, 1) := by decide +kernel
theorem dX6_readSum_49 : decode cX6_readSum 49 = .ok (.getfield 30, 3) := by decide +kernel
theorem dX6_readSum_52 : decode cX6_readSum 52 = .ok (.iconst 1, 1) := by decide +kernel
theorem dX6_readSum_53 : decode cX6_readSum 53 = .ok (.iadd, 1) := by decide +kernel
theorem dX6_readSum_54 : decode cX6_readSum 54 = .ok (.putfield 30, 3) := by decide +kernel
theorem dX6_readSum_57 : decode cX6_readSum 57 = .ok (.aload_n 0, 1) := by decide +kernel
theorem dX6_readSum_58 : decode cX6_readSum 58 = .ok (.iload_n 1, 1) := by decide +kernel
theorem dX6_readSum_59 : decode cX6_readSum 59 = .ok (.invokevirtual 151, 3) := by decide +kernel
theorem dX6_readSum_62 : decode cX6_readSum 62 = .ok (.aload_n 0, 1) := by decide +kernel
theorem dX6_readSum_63 : decode cX6_readSum 63 = .ok (.iload_n 3, 1) := by decide +kernel
theorem dX6_readSum_64 : decode cX6_readSum 64 = .ok (.iconst 0, 1) := by decide +kernel
theorem dX6_readSum_65 : decode cX6_readSum 65 = .ok (.invokevirtual 137, 3) := by decide +kernel
theorem dX6_readSum_68 : decode cX6_readSum 68 = .ok (.pop, 1) := by decide +kernel
theorem dX6_readSum_69 : decode cX6_readSum 69 = .ok (.iinc 2 1, 3) := by decide +kernel
theorem dX6_readSum_72 : decode cX6_readSum 72 = .ok (.goto (-65), 3) := by decide +kernel
theorem dX6_readSum_75 : decode cX6_readSum 75 = .ok (.return_, 1) := by decide +kernel
theorem dX6_readTerm_0 : decode cX6_readTerm 0 = .ok (.aload_n 0, 1) := by decide +kernel
theorem dX6_readTerm_1 : decode cX6_readTerm 1 = .ok (.iload_n 1, 1) := by decide +kernel
theorem dX6_readTerm_2 : decode cX6_readTerm 2 = .ok (.invokevirtual 154, 3) := by decide +kernel
theorem dX6_readTerm_5 : decode cX6_readTerm 5 = .ok (.iconst 0, 1) := by decide +kernel
theorem dX6_readTerm_6 : decode cX6_readTerm 6 = .ok (.istore_n 2, 1) := by decide +kernel
theorem dX6_readTerm_7 : decode cX6_readTerm 7 = .ok (.iload_n 2, 1) := by decide +kernel
theorem dX6_readTerm_8 : decode cX6_readTerm 8 = .ok (.sipush 900, 3) := by decide +kernel
theorem dX6_readTerm_11 : decode cX6_readTerm 11 = .ok (.if_icmp .ge 40, 3) := by decide +kernel
theorem dX6_readTerm_14 : decode cX6_readTerm 14 = .ok (.aload_n 0, 1) := by decide +kernel
theorem dX6_readTerm_15 : decode cX6_readTerm 15 = .ok (.invokevirtual 56, 3) := by decide +kernel
theorem dX6_readTerm_18 : decode cX6_readTerm 18 = .ok (.bipush 42, 2) := by decide +kernel
theorem dX6_readTerm_20 : decode cX6_readTerm 20 = .ok (.if_icmp .ne 31, 3) := by decide +kernel
theorem dX6_readTerm_23 : decode cX6_readTerm 23 = .ok (.aload_n 0, 1) := by decide +kernel
theorem dX6_readTerm_24 : decode cX6_readTerm 24 = .ok (.dup, 1) := by decide +kernel
theorem dX6_readTerm_25 : decode cX6_readTerm 25 = .ok (.getfield 30, 3) := by decide +kernel
theorem dX6_readTerm_28 : decode cX6_readTerm 28 = .ok (.iconst 1, 1) := by decide +kernel
theorem dX6_readTerm_29 : decode cX6_readTerm 29 = .ok (.iadd, 1) := by decide +kernel
theorem dX6_readTerm_30 : decode cX6_readTerm 30 = .ok (.putfield 30, 3) := by decide +kernel
theorem dX6_readTerm_33 : decode cX6_readTerm 33 = .ok (.aload_n 0, 1) := by decide +kernel
theorem dX6_readTerm_34 : decode cX6_readTerm 34 = .ok (.iload_n 1, 1) := by decide +kernel
theorem dX6_readTerm_35 : decode cX6_readTerm 35 = .ok (.invokevirtual 154, 3) := by decide +kernel
theorem dX6_readTerm_38 : decode cX6_readTerm 38 = .ok (.aload_n 0, 1) := by decide +kernel
theorem dX6_readTerm_39 : decode cX6_readTerm 39 = .ok (.iconst 4, 1) := by decide +kernel
theorem dX6_readTerm_40 : decode cX6_readTerm 40 = .ok (.iconst 0, 1) := by decide +kernel
theorem dX6_readTerm_41 : decode cX6_readTerm 41 = .ok (.invokevirtual 137, 3) := by decide +kernel
theorem dX6_readTerm_44 : decode cX6_readTerm 44 = .ok (.pop, 1) := by decide +kernel
theorem dX6_readTerm_45 : decode cX6_readTerm 45 = .ok (.iinc 2 1, 3) := by decide +kernel
theorem dX6_readTerm_48 : decode cX6_readTerm 48 = .ok (.goto (-41), 3) := by decide +kernel
theorem dX6_readTerm_51 : decode cX6_readTerm 51 = .ok (.return_, 1) := by decide +kernel
theorem dX6_readAtom_0 : decode cX6_readAtom 0 = .ok (.aload_n 0, 1) := by decide +kernel
theorem dX6_readAtom_1 : decode cX6_readAtom 1 = .ok (.invokevirtual 56, 3) := by decide +kernel
theorem dX6_readAtom_4 : decode cX6_readAtom 4 = .ok (.istore_n 2, 1) := by decide +kernel
theorem dX6_readAtom_5 : decode cX6_readAtom 5 = .ok (.iload_n 2, 1) := by decide +kernel
theorem dX6_readAtom_6 : decode cX6_readAtom 6 = .ok (.iconst 1, 1) := by decide +kernel
theorem dX6_readAtom_7 : decode cX6_readAtom 7 = .ok (.if_icmp .ne 34, 3) := by decide +kernel
theorem dX6_readAtom_10 : decode cX6_readAtom 10 = .ok (.aload_n 0, 1) := by decide +kernel
theorem dX6_readAtom_11 : decode cX6_readAtom 11 = .ok (.iconst 0, 1) := by decide +kernel
theorem dX6_readAtom_12 : decode cX6_readAtom 12 = .ok (.aload_n 0, 1) := by decide +kernel
theorem dX6_readAtom_13 : decode cX6_readAtom 13 = .ok (.getfield 12, 3) := by decide +kernel
theorem dX6_readAtom_16 : decode cX6_readAtom 16 = .ok (.getfield 157, 3) := by decide +kernel
theorem dX6_readAtom_19 : decode cX6_readAtom 19 = .ok (.aload_n 0, 1) := by decide +kernel
theorem dX6_readAtom_20 : decode cX6_readAtom 20 = .ok (.getfield 30, 3) := by decide +kernel
theorem dX6_readAtom_23 : decode cX6_readAtom 23 = .ok (.iaload, 1) := by decide +kernel
theorem dX6_readAtom_24 : decode cX6_readAtom 24 = .ok (.invokevirtual 137, 3) := by decide +kernel
theorem dX6_readAtom_27 : decode cX6_readAtom 27 = .ok (.pop, 1) := by decide +kernel
theorem dX6_readAtom_28 : decode cX6_readAtom 28 = .ok (.aload_n 0, 1) := by decide +kernel
theorem dX6_readAtom_29 : decode cX6_readAtom 29 = .ok (.dup, 1) := by decide +kernel
theorem dX6_readAtom_30 : decode cX6_readAtom 30 = .ok (.getfield 30, 3) := by decide +kernel
theorem dX6_readAtom_33 : decode cX6_readAtom 33 = .ok (.iconst 1, 1) := by decide +kernel
theorem dX6_readAtom_34 : decode cX6_readAtom 34 = .ok (.iadd, 1) := by decide +kernel
theorem dX6_readAtom_35 : decode cX6_readAtom 35 = .ok (.putfield 30, 3) := by decide +kernel
theorem dX6_readAtom_38 : decode cX6_readAtom 38 = .ok (.goto 132, 3) := by decide +kernel
theorem dX6_readAtom_41 : decode cX6_readAtom 41 = .ok (.iload_n 2, 1) := by decide +kernel
theorem dX6_readAtom_42 : decode cX6_readAtom 42 = .ok (.bipush 40, 2) := by decide +kernel
theorem dX6_readAtom_44 : decode cX6_readAtom 44 = .ok (.if_icmp .ne 27, 3) := by decide +kernel
theorem dX6_readAtom_47 : decode cX6_readAtom 47 = .ok (.aload_n 0, 1) := by decide +kernel
theorem dX6_readAtom_48 : decode cX6_readAtom 48 = .ok (.iload_n 1, 1) := by decide +kernel
theorem dX6_readAtom_49 : decode cX6_readAtom 49 = .ok (.invokevirtual 147, 3) := by decide +kernel
theorem dX6_readAtom_52 : decode cX6_readAtom 52 = .ok (.ifCond .eq 118, 3) := by decide +kernel
theorem dX6_readAtom_55 : decode cX6_readAtom 55 = .ok (.aload_n 0, 1) := by decide +kernel
theorem dX6_readAtom_56 : decode cX6_readAtom 56 = .ok (.iload_n 1, 1) := by decide +kernel
theorem dX6_readAtom_57 : decode cX6_readAtom 57 = .ok (.iconst 1, 1) := by decide +kernel
theorem dX6_readAtom_58 : decode cX6_readAtom 58 = .ok (.iadd, 1) := by decide +kernel
theorem dX6_readAtom_59 : decode cX6_readAtom 59 = .ok (.invokevirtual 117, 3) := by decide +kernel
theorem dX6_readAtom_62 : decode cX6_readAtom 62 = .ok (.aload_n 0, 1) := by decide +kernel
theorem dX6_readAtom_63 : decode cX6_readAtom 63 = .ok (.bipush 41, 2) := by decide +kernel
theorem dX6_readAtom_65 : decode cX6_readAtom 65 = .ok (.invokevirtual 39, 3) := by decide +kernel
theorem dX6_readAtom_68 : decode cX6_readAtom 68 = .ok (.goto 102, 3) := by decide +kernel
theorem dX6_readAtom_71 : decode cX6_readAtom 71 = .ok (.iload_n 2, 1) := by decide +kernel
theorem dX6_readAtom_72 : decode cX6_readAtom 72 = .ok (.sipush 216, 3) := by decide +kernel
theorem dX6_readAtom_75 : decode cX6_readAtom 75 = .ok (.if_icmp .ne 21, 3) := by decide +kernel
theorem dX6_readAtom_78 : decode cX6_readAtom 78 = .ok (.aload_n 0, 1) := by decide +kernel
theorem dX6_readAtom_79 : decode cX6_readAtom 79 = .ok (.iload_n 1, 1) := by decide +kernel
theorem dX6_readAtom_80 : decode cX6_readAtom 80 = .ok (.invokevirtual 147, 3) := by decide +kernel
theorem dX6_readAtom_83 : decode cX6_readAtom 83 = .ok (.ifCond .eq 87, 3) := by decide +kernel
theorem dX6_readAtom_86 : decode cX6_readAtom 86 = .ok (.aload_n 0, 1) := by decide +kernel
theorem dX6_readAtom_87 : decode cX6_readAtom 87 = .ok (.iload_n 1, 1) := by decide +kernel
theorem dX6_readAtom_88 : decode cX6_readAtom 88 = .ok (.iconst 1, 1) := by decide +kernel
theorem dX6_readAtom_89 : decode cX6_readAtom 89 = .ok (.iadd, 1) := by decide +kernel
theorem dX6_readAtom_90 : decode cX6_readAtom 90 = .ok (.invokevirtual 160, 3) := by decide +kernel
theorem dX6_readAtom_93 : decode cX6_readAtom 93 = .ok (.goto 77, 3) := by decide +kernel
theorem dX6_readAtom_96 : decode cX6_readAtom 96 = .ok (.iload_n 2, 1) := by decide +kernel
theorem dX6_readAtom_97 : decode cX6_readAtom 97 = .ok (.sipush 200, 3) := by decide +kernel
theorem dX6_readAtom_100 : decode cX6_readAtom 100 = .ok (.if_icmp .lt 65, 3) := by decide +kernel
theorem dX6_readAtom_103 : decode cX6_readAtom 103 = .ok (.iload_n 2, 1) := by decide +kernel
theorem dX6_readAtom_104 : decode cX6_readAtom 104 = .ok (.sipush 205, 3) := by decide +kernel
theorem dX6_readAtom_107 : decode cX6_readAtom 107 = .ok (.if_icmp .gt 58, 3) := by decide +kernel
theorem dX6_readAtom_110 : decode cX6_readAtom 110 = .ok (.aload_n 0, 1) := by decide +kernel
theorem dX6_readAtom_111 : decode cX6_readAtom 111 = .ok (.getfield 108, 3) := by decide +kernel
theorem dX6_readAtom_114 : decode cX6_readAtom 114 = .ok (.iload_n 2, 1) := by decide +kernel
theorem dX6_readAtom_115 : decode cX6_readAtom 115 = .ok (.sipush 200, 3) := by decide +kernel
theorem dX6_readAtom_118 : decode cX6_readAtom 118 = .ok (.isub, 1) := by decide +kernel
theorem dX6_readAtom_119 : decode cX6_readAtom 119 = .ok (.ishr, 1) := by decide +kernel
theorem dX6_readAtom_120 : decode cX6_readAtom 120 = .ok (.iconst 1, 1) := by decide +kernel
theorem dX6_readAtom_121 : decode cX6_readAtom 121 = .ok (.iand, 1) := by decide +kernel
theorem dX6_readAtom_122 : decode cX6_readAtom 122 = .ok (.ifCond .eq 43, 3) := by decide +kernel
theorem dX6_readAtom_125 : decode cX6_readAtom 125 = .ok (.aload_n 0, 1) := by decide +kernel
theorem dX6_readAtom_126 : decode cX6_readAtom 126 = .ok (.iconst 1, 1) := by decide +kernel
theorem dX6_readAtom_127 : decode cX6_readAtom 127 = .ok (.iload_n 2, 1) := by decide +kernel
theorem dX6_readAtom_128 : decode cX6_readAtom 128 = .ok (.sipush 200, 3) := by decide +kernel
theorem dX6_readAtom_131 : decode cX6_readAtom 131 = .ok (.isub, 1) := by decide +kernel
theorem dX6_readAtom_132 : decode cX6_readAtom 132 = .ok (.invokevirtual 137, 3) := by decide +kernel
theorem dX6_readAtom_135 : decode cX6_readAtom 135 = .ok (.pop, 1) := by decide +kernel
theorem dX6_readAtom_136 : decode cX6_readAtom 136 = .ok (.aload_n 0, 1) := by decide +kernel
theorem dX6_readAtom_137 : decode cX6_readAtom 137 = .ok (.dup, 1) := by decide +kernel
theorem dX6_readAtom_138 : decode cX6_readAtom 138 = .ok (.getfield 111, 3) := by decide +kernel
theorem dX6_readAtom_141 : decode cX6_readAtom 141 = .ok (.iconst 1, 1) := by decide +kernel
theorem dX6_readAtom_142 : decode cX6_readAtom 142 = .ok (.iload_n 2, 1) := by decide +kernel
theorem dX6_readAtom_143 : decode cX6_readAtom 143 = .ok (.sipush 200, 3) := by decide +kernel
theorem dX6_readAtom_146 : decode cX6_readAtom 146 = .ok (.isub, 1) := by decide +kernel
theorem dX6_readAtom_147 : decode cX6_readAtom 147 = .ok (.ishl, 1) := by decide +kernel
theorem dX6_readAtom_148 : decode cX6_readAtom 148 = .ok (.ior, 1) := by decide +kernel
theorem dX6_readAtom_149 : decode cX6_readAtom 149 = .ok (.putfield 111, 3) := by decide +kernel
theorem dX6_readAtom_152 : decode cX6_readAtom 152 = .ok (.aload_n 0, 1) := by decide +kernel
theorem dX6_readAtom_153 : decode cX6_readAtom 153 = .ok (.dup, 1) := by decide +kernel
theorem dX6_readAtom_154 : decode cX6_readAtom 154 = .ok (.getfield 30, 3) := by decide +kernel
theorem dX6_readAtom_157 : decode cX6_readAtom 157 = .ok (.iconst 1, 1) := by decide +kernel
theorem dX6_readAtom_158 : decode cX6_readAtom 158 = .ok (.iadd, 1) := by decide +kernel
theorem dX6_readAtom_159 : decode cX6_readAtom 159 = .ok (.putfield 30, 3) := by decide +kernel
theorem dX6_readAtom_162 : decode cX6_readAtom 162 = .ok (.goto 8, 3) := by decide +kernel
theorem dX6_readAtom_165 : decode cX6_readAtom 165 = .ok (.aload_n 0, 1) := by decide +kernel
theorem dX6_readAtom_166 : decode cX6_readAtom 166 = .ok (.iconst 2, 1) := by decide +kernel
theorem dX6_readAtom_167 : decode cX6_readAtom 167 = .ok (.invokevirtual 84, 3) := by decide +kernel
theorem dX6_readAtom_170 : decode cX6_readAtom 170 = .ok (.return_, 1) := by decide +kernel
theorem dX6_readChoice_0 : decode cX6_readChoice 0 = .ok (.aload_n 0, 1) := by decide +kernel
theorem dX6_readChoice_1 : decode cX6_readChoice 1 = .ok (.iload_n 1, 1) := by decide +kernel
theorem dX6_readChoice_2 : decode cX6_readChoice 2 = .ok (.invokevirtual 120, 3) := by decide +kernel
theorem dX6_readChoice_5 : decode cX6_readChoice 5 = .ok (.aload_n 0, 1) := by decide +kernel
theorem dX6_readChoice_6 : decode cX6_readChoice 6 = .ok (.sipush 217, 3) := by decide +kernel
theorem dX6_readChoice_9 : decode cX6_readChoice 9 = .ok (.invokevirtual 39, 3) := by decide +kernel
theorem dX6_readChoice_12 : decode cX6_readChoice 12 = .ok (.aload_n 0, 1) := by decide +kernel
theorem dX6_readChoice_13 : decode cX6_readChoice 13 = .ok (.bipush 11, 2) := by decide +kernel
theorem dX6_readChoice_15 : decode cX6_readChoice 15 = .ok (.iconst 0, 1) := by decide +kernel
theorem dX6_readChoice_16 : decode cX6_readChoice 16 = .ok (.invokevirtual 137, 3) := by decide +kernel
theorem dX6_readChoice_19 : decode cX6_readChoice 19 = .ok (.istore_n 2, 1) := by decide +kernel
theorem dX6_readChoice_20 : decode cX6_readChoice 20 = .ok (.aload_n 0, 1) := by decide +kernel
theorem dX6_readChoice_21 : decode cX6_readChoice 21 = .ok (.iload_n 1, 1) := by decide +kernel
theorem dX6_readChoice_22 : decode cX6_readChoice 22 = .ok (.invokevirtual 117, 3) := by decide +kernel
theorem dX6_readChoice_25 : decode cX6_readChoice 25 = .ok (.aload_n 0, 1) := by decide +kernel
theorem dX6_readChoice_26 : decode cX6_readChoice 26 = .ok (.sipush 218, 3) := by decide +kernel
theorem dX6_readChoice_29 : decode cX6_readChoice 29 = .ok (.invokevirtual 39, 3) := by decide +kernel
theorem dX6_readChoice_32 : decode cX6_readChoice 32 = .ok (.aload_n 0, 1) := by decide +kernel
theorem dX6_readChoice_33 : decode cX6_readChoice 33 = .ok (.bipush 12, 2) := by decide +kernel
theorem dX6_readChoice_35 : decode cX6_readChoice 35 = .ok (.iconst 0, 1) := by decide +kernel
theorem dX6_readChoice_36 : decode cX6_readChoice 36 = .ok (.invokevirtual 137, 3) := by decide +kernel
theorem dX6_readChoice_39 : decode cX6_readChoice 39 = .ok (.istore_n 3, 1) := by decide +kernel
theorem dX6_readChoice_40 : decode cX6_readChoice 40 = .ok (.aload_n 0, 1) := by decide +kernel
theorem dX6_readChoice_41 : decode cX6_readChoice 41 = .ok (.iload_n 2, 1) := by decide +kernel
theorem dX6_readChoice_42 : decode cX6_readChoice 42 = .ok (.invokevirtual 141, 3) := by decide +kernel
theorem dX6_readChoice_45 : decode cX6_readChoice 45 = .ok (.aload_n 0, 1) := by decide +kernel
theorem dX6_readChoice_46 : decode cX6_readChoice 46 = .ok (.iload_n 1, 1) := by decide +kernel
theorem dX6_readChoice_47 : decode cX6_readChoice 47 = .ok (.invokevirtual 117, 3) := by decide +kernel
theorem dX6_readChoice_50 : decode cX6_readChoice 50 = .ok (.aload_n 0, 1) := by decide +kernel
theorem dX6_readChoice_51 : decode cX6_readChoice 51 = .ok (.sipush 219, 3) := by decide +kernel
theorem dX6_readChoice_54 : decode cX6_readChoice 54 = .ok (.invokevirtual 39, 3) := by decide +kernel
theorem dX6_readChoice_57 : decode cX6_readChoice 57 = .ok (.aload_n 0, 1) := by decide +kernel
theorem dX6_readChoice_58 : decode cX6_readChoice 58 = .ok (.iload_n 3, 1) := by decide +kernel
theorem dX6_readChoice_59 : decode cX6_readChoice 59 = .ok (.invokevirtual 141, 3) := by decide +kernel
theorem dX6_readChoice_62 : decode cX6_readChoice 62 = .ok (.return_, 1) := by decide +kernel
theorem wX6_readTruth : Mw yX6_readTruth cX6_readTruth 4 none 1 := ⟨q_709, q_121, by decide, ⟨by decide +kernel, by decide +kernel⟩, by decide +kernel, by decide +kernel⟩
theorem wX6_readBoth : Mw yX6_readBoth cX6_readBoth 4 none 1 := ⟨q_713, q_121, by decide, ⟨by decide +kernel, by decide +kernel⟩, by decide +kernel, by decide +kernel⟩
theorem wX6_readUnit : Mw yX6_readUnit cX6_readUnit 3 none 1 := ⟨q_717, q_121, by decide, ⟨by decide +kernel, by decide +kernel⟩, by decide +kernel, by decide +kernel⟩
theorem wX6_readSum : Mw yX6_readSum cX6_readSum 4 none 1 := ⟨q_685, q_121, by decide, ⟨by decide +kernel, by decide +kernel⟩, by decide +kernel, by decide +kernel⟩
theorem wX6_readTerm : Mw yX6_readTerm cX6_readTerm 3 none 1 := ⟨q_689, q_121, by decide, ⟨by decide +kernel, by decide +kernel⟩, by decide +kernel, by decide +kernel⟩
theorem wX6_readAtom : Mw yX6_readAtom cX6_readAtom 3 none 1 := ⟨q_693, q_121, by decide, ⟨by decide +kernel, by decide +kernel⟩, by decide +kernel, by decide +kernel⟩
theorem wX6_readChoice : Mw yX6_readChoice cX6_readChoice 4 none 1 := ⟨q_705, q_121, by decide, ⟨by decide +kernel, by decide +kernel⟩, by decide +kernel, by decide +kernel⟩
abbrev yG6 : Nat → MethodName := fun w => match w with
  | 0 => yX6_readTruth
  | 1 => yX6_readBoth
  | 2 => yX6_readUnit
  | 3 => yX6_readSum
  | 4 => yX6_readTerm
  | 5 => yX6_readAtom
  | _ => yX6_readChoice
abbrev cG6 : Nat → ByteArray := fun w => match w with
  | 0 => cX6_readTruth
  | 1 => cX6_readBoth
  | 2 => cX6_readUnit
  | 3 => cX6_readSum
  | 4 => cX6_readTerm
  | 5 => cX6_readAtom
  | _ => cX6_readChoice
abbrev nG6 : Nat → Nat := fun w => match w with
  | 0 => 4
  | 1 => 4
  | 2 => 3
  | 3 => 4
  | 4 => 3
  | 5 => 3
  | _ => 4
/-- what a call of the group is taken to do -/
def RKG6 (l : Launch) (B : Bx) (d : Nat) (rec : Nat → Sh → Me → Nat → Int32 → Option (Unit × Me)) : Prop := ∀ (w : Nat) (T : Sh) (M : Me) (a : Nat) (p0 : Int32) (M' : Me), rec w T M a p0 = some ((), M') → Kt l B (yG6 w) (cG6 w) (nG6 w) none d [.ref a, .int p0] T M none T M'
-- a loop of EyeTrainer$Reader.readTruth at 7
def bX6_readTruth_7 (rec : Nat → Sh → Me → Nat → Int32 → Option (Unit × Me)) (T : Sh) (x0 : Nat) (x1 : Int32) (x2 : Int32) (M : Me) : Option ((Int32 × Me) ⊕ (Me)) :=
  if (900 : Int32) ≤ x2 then (some (.inr M)) else (gd (kd T x0 = 5) <| Option.bind (fX6_kind T M x0) fun r5 => if r5 = (220 : Int32) then (lt (pI M x0 1 ((gI M x0 1) + (1 : Int32))) fun M7 => Option.bind (fX6_put T M7 x0 (10 : Int32) (0 : Int32)) <| un2 fun r8 M9 => Option.bind (rec 1 T M9 x0 x1) <| un2 fun _u M10 => Option.bind (fX6_land T M10 x0 r8) <| un2 fun _u M11 => lt (x2 + (1 : Int32)) fun v12 => some (.inl (v12, M11))) else (some (.inr M)))
def PX6_readTruth_7 (X : Fx) (B : Bx) (Z : Nat × Nat × Nat × Nat) (Q : State → Prop) (T : Sh) (x0 : Nat) (x1 : Int32) (s : Int32 × Me) : Prop := G X B 4 Z Q 7 [(0, .ref (x0)), (1, .int (x1)), (2, .int (s.1))] [] T s.2
def EX6_readTruth_7 (X : Fx) (B : Bx) (Z : Nat × Nat × Nat × Nat) (Q : State → Prop) (T : Sh) (x0 : Nat) (x1 : Int32) (r : Me) : Prop := G X B 4 Z Q 58 [] [] T r
set_option maxHeartbeats 4000000 in
theorem tbX6_readTruth_7 {X : Fx} {B : Bx} {Z : Nat × Nat × Nat × Nat} {Q : State → Prop} {d : Nat} {T : Sh} (C : Cx X B cX6_readTruth 4 RX6 (d + 1) Z) (hd : 3 ≤ d) {rec : Nat → Sh → Me → Nat → Int32 → Option (Unit × Me)} (hrec : RKG6 X.2.1 B d rec) {x0 : Nat} {x1 : Int32} : ∀ (s : Int32 × Me) (o : (Int32 × Me) ⊕ (Me)), bX6_readTruth_7 rec T x0 x1 s.1 s.2 = some o → lpE (PX6_readTruth_7 X B Z Q T x0 x1) (EX6_readTruth_7 X B Z Q T x0 x1) o → PX6_readTruth_7 X B Z Q T x0 x1 s := by
  rintro ⟨x2, M⟩ o h hE
  replace h : bX6_readTruth_7 rec T x0 x1 x2 M = some o := h
  unfold bX6_readTruth_7 at h
  show G X B 4 Z Q 7 [(0, .ref (x0)), (1, .int (x1)), (2, .int (x2))] [] T M
  refine g_iload_n (pc := 7) C dX6_readTruth_7 rfl 2 rfl ?_
  refine g_sipush (pc := 8) (v := 900) C dX6_readTruth_8 (by decide) ?_
  refine g_icmp_ge (pc := 11) (tgt := 58) C dX6_readTruth_11 (by decide) (fun c3 => ?_) (fun c3 => ?_)
  · replace h := ifp c3 h
    obtain rfl := Option.some.inj h
    exact g_sub [] rfl (show G X B 4 Z Q 58 [] [] T M from hE)
  · replace h := ifn c3 h
    refine g_aload_n (pc := 14) C dX6_readTruth_14 rfl 0 rfl ?_
    replace h := gd_some h; obtain ⟨hk4, h⟩ := h
    replace h := bnd h; obtain ⟨r5, h1, h⟩ := h
    refine g_callVi (pc := 15) (As := []) (st := []) C dX6_readTruth_15 wX6_kind hk4 rfl (by decide) q_656 q_3 q_654 (by omega) rfl (Nat.le_of_ble_eq_true rfl) (kX6_kind (d := 0) (Nat.le_refl _) h1) ?_
    refine g_sipush (pc := 18) (v := 220) C dX6_readTruth_18 (by decide) ?_
    refine g_icmp_ne (pc := 21) (tgt := 58) C dX6_readTruth_21 (by decide) (fun c6 => ?_) (fun c6 => ?_)
    · replace h := ifn c6 h
      obtain rfl := Option.some.inj h
      exact g_sub [] rfl (show G X B 4 Z Q 58 [] [] T M from hE)
    · replace h := ifp c6 h
      refine g_aload_n (pc := 24) C dX6_readTruth_24 rfl 0 rfl ?_
      refine g_dup (pc := 25) C dX6_readTruth_25 rfl ?_
      refine g_get (pc := 26) (v := .int (gI M x0 1)) C dX6_readTruth_26 kX6 hk4 1 (by decide) q_181 rfl ?_
      refine g_iconst (pc := 29) (v := 1) C dX6_readTruth_29 (by decide) ?_
      refine g_iadd (pc := 30) C dX6_readTruth_30 ?_
      refine g_putI (pc := 31) C dX6_readTruth_31 kX6 hk4 1 (by decide) rfl rfl rfl q_181 ?_
      refine g_mem (fun M7 eM7 => ?_)
      replace h := lt_at eM7 h
      refine g_aload_n (pc := 34) C dX6_readTruth_34 rfl 0 rfl ?_
      refine g_bipush (pc := 35) (v := 10) C dX6_readTruth_35 (by decide) ?_
      refine g_iconst (pc := 37) (v := 0) C dX6_readTruth_37 (by decide) ?_
      replace h := bnd2 h; obtain ⟨r8, M9, h1, h⟩ := h
      refine g_callVi (pc := 38) (As := [.int ((10 : Int32)), .int ((0 : Int32))]) (st := []) C dX6_readTruth_38 wX6_put hk4 rfl (by decide) q_696 q_13 q_694 (by omega) rfl (Nat.le_of_ble_eq_true rfl) (kX6_put (d := 0) (Nat.le_refl _) h1) ?_
      refine g_istore_n (pc := 41) (lo2 := [(3, .int (r8)), (0, .ref (x0)), (1, .int (x1)), (2, .int (x2))]) C dX6_readTruth_41 rfl (by decide) rfl ?_
      refine g_aload_n (pc := 42) C dX6_readTruth_42 rfl 1 rfl ?_
      refine g_iload_n (pc := 43) C dX6_readTruth_43 rfl 2 rfl ?_
      replace h := bnd2 h; obtain ⟨_u, M10, h1, h⟩ := h
      refine g_callVv (pc := 44) (As := [.int (x1)]) (st := []) C dX6_readTruth_44 wX6_readBoth hk4 rfl (by decide) q_712 q_17 q_710 (by omega) rfl (Nat.le_of_ble_eq_true rfl) (hrec 1 _ _ _ _ _ h1) ?_
      refine g_aload_n (pc := 47) C dX6_readTruth_47 rfl 1 rfl ?_
      refine g_iload_n (pc := 48) C dX6_readTruth_48 rfl 0 rfl ?_
      replace h := bnd2 h; obtain ⟨_u, M11, h1, h⟩ := h
      refine g_callVv (pc := 49) (As := [.int (r8)]) (st := []) C dX6_readTruth_49 wX6_land hk4 rfl (by decide) q_720 q_19 q_718 (by omega) rfl (Nat.le_of_ble_eq_true rfl) (kX6_land (d := 0) (Nat.le_refl _) h1) ?_
      obtain ⟨v12, ev12⟩ : ∃ y : Int32, y = x2 + (1 : Int32) := ⟨_, rfl⟩
      replace h := lt_at ev12 h
      refine g_iinc (pc := 52) (v := v12) (k := 3) (lo2 := [(2, .int (v12)), (3, .int (r8)), (0, .ref (x0)), (1, .int (x1))]) C dX6_readTruth_52 rfl (by rw [ev12]; rfl) (by decide) rfl ?_
      refine g_goto (pc := 55) (tgt := 7) C dX6_readTruth_55 (by decide) ?_
      obtain rfl := Option.some.inj h
      exact g_sub [2, 3, 0] rfl (show G X B 4 Z Q 7 [(0, .ref (x0)), (1, .int (x1)), (2, .int (v12))] [] T M11 from hE)
/-- EyeTrainer$Reader.readTruth(I)V -/
def hX6_readTruth (rec : Nat → Sh → Me → Nat → Int32 → Option (Unit × Me)) (T : Sh) (M : Me) (x0 : Nat) (x1 : Int32) : Option (Unit × Me) :=
  gd (kd T x0 = 5) <| Option.bind (rec 1 T M x0 x1) <| un2 fun _u M2 => (lp FU (fun s => bX6_readTruth_7 rec T x0 x1 s.1 s.2) ((0 : Int32), M2)).bind (fun M13 => some ((), M13))
set_option maxHeartbeats 4000000 in
theorem khX6_readTruth {l : Launch} {B : Bx} {d : Nat} (hd : 3 ≤ d) {rec : Nat → Sh → Me → Nat → Int32 → Option (Unit × Me)} (hrec : RKG6 l B d rec) {T : Sh} {M : Me} {x0 : Nat} {x1 : Int32} {M' : Me} (h : hX6_readTruth rec T M x0 x1 = some ((), M')) : Kt l B yX6_readTruth cX6_readTruth 4 none (d + 1) [.ref (x0), .int (x1)] T M none T M' := by
  refine kt_of wX6_readTruth (Nat.le_refl _) (Nat.le_refl _) (Nat.le_of_ble_eq_true rfl) (fun X C hR hlx hin => ?_)
  subst hlx
  replace C : Cx X B cX6_readTruth 4 RX6 (d + 1) (tp T, sl T, tp T, sl T) := C
  unfold hX6_readTruth at h
  show G X B 4 _ _ 0 [(0, .ref (x0)), (1, .int (x1))] [] T M
  refine g_aload_n (pc := 0) C dX6_readTruth_0 rfl 0 rfl ?_
  refine g_iload_n (pc := 1) C dX6_readTruth_1 rfl 1 rfl ?_
  replace h := gd_some h; obtain ⟨hk1, h⟩ := h
  replace h := bnd2 h; obtain ⟨_u, M2, h1, h⟩ := h
  refine g_callVv (pc := 2) (As := [.int (x1)]) (st := []) C dX6_readTruth_2 wX6_readBoth hk1 rfl (by decide) q_712 q_17 q_710 (by omega) rfl (Nat.le_of_ble_eq_true rfl) (hrec 1 _ _ _ _ _ h1) ?_
  refine g_iconst (pc := 5) (v := 0) C dX6_readTruth_5 (by decide) ?_
  refine g_istore_n (pc := 6) (lo2 := [(2, .int ((0 : Int32))), (0, .ref (x0)), (1, .int (x1))]) C dX6_readTruth_6 rfl (by decide) rfl ?_
  replace h := bnd h; obtain ⟨M13, h1, h⟩ := h
  refine g_sub [1, 2, 0] rfl ?_
  refine lp_G2 (P := PX6_readTruth_7 X B _ _ T x0 x1) (E := EX6_readTruth_7 X B _ _ T x0 x1) (tbX6_readTruth_7 C hd hrec) h1 ?_
  show G X B 4 _ _ 58 [] [] T M13
  obtain ⟨-, rfl⟩ := Prod.mk.inj (Option.some.inj h)
  exact g_vret C hR dX6_readTruth_58
-- a loop of EyeTrainer$Reader.readBoth at 7
def bX6_readBoth_7 (rec : Nat → Sh → Me → Nat → Int32 → Option (Unit × Me)) (T : Sh) (x0 : Nat) (x1 : Int32) (x2 : Int32) (M : Me) : Option ((Int32 × Me) ⊕ (Me)) :=
  if (900 : Int32) ≤ x2 then (some (.inr M)) else (gd (kd T x0 = 5) <| Option.bind (fX6_kind T M x0) fun r5 => if r5 = (221 : Int32) then (lt (pI M x0 1 ((gI M x0 1) + (1 : Int32))) fun M7 => Option.bind (fX6_put T M7 x0 (9 : Int32) (0 : Int32)) <| un2 fun r8 M9 => Option.bind (rec 2 T M9 x0 x1) <| un2 fun _u M10 => Option.bind (fX6_land T M10 x0 r8) <| un2 fun _u M11 => lt (x2 + (1 : Int32)) fun v12 => some (.inl (v12, M11))) else (some (.inr M)))
def PX6_readBoth_7 (X : Fx) (B : Bx) (Z : Nat × Nat × Nat × Nat) (Q : State → Prop) (T : Sh) (x0 : Nat) (x1 : Int32) (s : Int32 × Me) : Prop := G X B 4 Z Q 7 [(0, .ref (x0)), (1, .int (x1)), (2, .int (s.1))] [] T s.2
def EX6_readBoth_7 (X : Fx) (B : Bx) (Z : Nat × Nat × Nat × Nat) (Q : State → Prop) (T : Sh) (x0 : Nat) (x1 : Int32) (r : Me) : Prop := G X B 4 Z Q 58 [] [] T r
set_option maxHeartbeats 4000000 in
theorem tbX6_readBoth_7 {X : Fx} {B : Bx} {Z : Nat × Nat × Nat × Nat} {Q : State → Prop} {d : Nat} {T : Sh} (C : Cx X B cX6_readBoth 4 RX6 (d + 1) Z) (hd : 3 ≤ d) {rec : Nat → Sh → Me → Nat → Int32 → Option (Unit × Me)} (hrec : RKG6 X.2.1 B d rec) {x0 : Nat} {x1 : Int32} : ∀ (s : Int32 × Me) (o : (Int32 × Me) ⊕ (Me)), bX6_readBoth_7 rec T x0 x1 s.1 s.2 = some o → lpE (PX6_readBoth_7 X B Z Q T x0 x1) (EX6_readBoth_7 X B Z Q T x0 x1) o → PX6_readBoth_7 X B Z Q T x0 x1 s := by
  rintro ⟨x2, M⟩ o h hE
  replace h : bX6_readBoth_7 rec T x0 x1 x2 M = some o := h
  unfold bX6_readBoth_7 at h
  show G X B 4 Z Q 7 [(0, .ref (x0)), (1, .int (x1)), (2, .int (x2))] [] T M
  refine g_iload_n (pc := 7) C dX6_readBoth_7 rfl 2 rfl ?_
  refine g_sipush (pc := 8) (v := 900) C dX6_readBoth_8 (by decide) ?_
  refine g_icmp_ge (pc := 11) (tgt := 58) C dX6_readBoth_11 (by decide) (fun c3 => ?_) (fun c3 => ?_)
  · replace h := ifp c3 h
    obtain rfl := Option.some.inj h
    exact g_sub [] rfl (show G X B 4 Z Q 58 [] [] T M from hE)
  · replace h := ifn c3 h
    refine g_aload_n (pc := 14) C dX6_readBoth_14 rfl 0 rfl ?_
    replace h := gd_some h; obtain ⟨hk4, h⟩ := h
    replace h := bnd h; obtain ⟨r5, h1, h⟩ := h
    refine g_callVi (pc := 15) (As := []) (st := []) C dX6_readBoth_15 wX6_kind hk4 rfl (by decide) q_656 q_3 q_654 (by omega) rfl (Nat.le_of_ble_eq_true rfl) (kX6_kind (d := 0) (Nat.le_refl _) h1) ?_
    refine g_sipush (pc := 18) (v := 221) C dX6_readBoth_18 (by decide) ?_
    refine g_icmp_ne (pc := 21) (tgt := 58) C dX6_readBoth_21 (by decide) (fun c6 => ?_) (fun c6 => ?_)
    · replace h := ifn c6 h
      obtain rfl := Option.some.inj h
      exact g_sub [] rfl (show G X B 4 Z Q 58 [] [] T M from hE)
    · replace h := ifp c6 h
      refine g_aload_n (pc := 24) C dX6_readBoth_24 rfl 0 rfl ?_
      refine g_dup (pc := 25) C dX6_readBoth_25 rfl ?_
      refine g_get (pc := 26) (v := .int (gI M x0 1)) C dX6_readBoth_26 kX6 hk4 1 (by decide) q_181 rfl ?_
      refine g_iconst (pc := 29) (v := 1) C dX6_readBoth_29 (by decide) ?_
      refine g_iadd (pc := 30) C dX6_readBoth_30 ?_
      refine g_putI (pc := 31) C dX6_readBoth_31 kX6 hk4 1 (by decide) rfl rfl rfl q_181 ?_
      refine g_mem (fun M7 eM7 => ?_)
      replace h := lt_at eM7 h
      refine g_aload_n (pc := 34) C dX6_readBoth_34 rfl 0 rfl ?_
      refine g_bipush (pc := 35) (v := 9) C dX6_readBoth_35 (by decide) ?_
      refine g_iconst (pc := 37) (v := 0) C dX6_readBoth_37 (by decide) ?_
      replace h := bnd2 h; obtain ⟨r8, M9, h1, h⟩ := h
      refine g_callVi (pc := 38) (As := [.int ((9 : Int32)), .int ((0 : Int32))]) (st := []) C dX6_readBoth_38 wX6_put hk4 rfl (by decide) q_696 q_13 q_694 (by omega) rfl (Nat.le_of_ble_eq_true rfl) (kX6_put (d := 0) (Nat.le_refl _) h1) ?_
      refine g_istore_n (pc := 41) (lo2 := [(3, .int (r8)), (0, .ref (x0)), (1, .int (x1)), (2, .int (x2))]) C dX6_readBoth_41 rfl (by decide) rfl ?_
      refine g_aload_n (pc := 42) C dX6_readBoth_42 rfl 1 rfl ?_
      refine g_iload_n (pc := 43) C dX6_readBoth_43 rfl 2 rfl ?_
      replace h := bnd2 h; obtain ⟨_u, M10, h1, h⟩ := h
      refine g_callVv (pc := 44) (As := [.int (x1)]) (st := []) C dX6_readBoth_44 wX6_readUnit hk4 rfl (by decide) q_716 q_18 q_714 (by omega) rfl (Nat.le_of_ble_eq_true rfl) (hrec 2 _ _ _ _ _ h1) ?_
      refine g_aload_n (pc := 47) C dX6_readBoth_47 rfl 1 rfl ?_
      refine g_iload_n (pc := 48) C dX6_readBoth_48 rfl 0 rfl ?_
      replace h := bnd2 h; obtain ⟨_u, M11, h1, h⟩ := h
      refine g_callVv (pc := 49) (As := [.int (r8)]) (st := []) C dX6_readBoth_49 wX6_land hk4 rfl (by decide) q_720 q_19 q_718 (by omega) rfl (Nat.le_of_ble_eq_true rfl) (kX6_land (d := 0) (Nat.le_refl _) h1) ?_
      obtain ⟨v12, ev12⟩ : ∃ y : Int32, y = x2 + (1 : Int32) := ⟨_, rfl⟩
      replace h := lt_at ev12 h
      refine g_iinc (pc := 52) (v := v12) (k := 3) (lo2 := [(2, .int (v12)), (3, .int (r8)), (0, .ref (x0)), (1, .int (x1))]) C dX6_readBoth_52 rfl (by rw [ev12]; rfl) (by decide) rfl ?_
      refine g_goto (pc := 55) (tgt := 7) C dX6_readBoth_55 (by decide) ?_
      obtain rfl := Option.some.inj h
      exact g_sub [2, 3, 0] rfl (show G X B 4 Z Q 7 [(0, .ref (x0)), (1, .int (x1)), (2, .int (v12))] [] T M11 from hE)
/-- EyeTrainer$Reader.readBoth(I)V -/
def hX6_readBoth (rec : Nat → Sh → Me → Nat → Int32 → Option (Unit × Me)) (T : Sh) (M : Me) (x0 : Nat) (x1 : Int32) : Option (Unit × Me) :=
  gd (kd T x0 = 5) <| Option.bind (rec 2 T M x0 x1) <| un2 fun _u M2 => (lp FU (fun s => bX6_readBoth_7 rec T x0 x1 s.1 s.2) ((0 : Int32), M2)).bind (fun M13 => some ((), M13))
set_option maxHeartbeats 4000000 in
theorem khX6_readBoth {l : Launch} {B : Bx} {d : Nat} (hd : 3 ≤ d) {rec : Nat → Sh → Me → Nat → Int32 → Option (Unit × Me)} (hrec : RKG6 l B d rec) {T : Sh} {M : Me} {x0 : Nat} {x1 : Int32} {M' : Me} (h : hX6_readBoth rec T M x0 x1 = some ((), M')) : Kt l B yX6_readBoth cX6_readBoth 4 none (d + 1) [.ref (x0), .int (x1)] T M none T M' := by
  refine kt_of wX6_readBoth (Nat.le_refl _) (Nat.le_refl _) (Nat.le_of_ble_eq_true rfl) (fun X C hR hlx hin => ?_)
  subst hlx
  replace C : Cx X B cX6_readBoth 4 RX6 (d + 1) (tp T, sl T, tp T, sl T) := C
  unfold hX6_readBoth at h
  show G X B 4 _ _ 0 [(0, .ref (x0)), (1, .int (x1))] [] T M
  refine g_aload_n (pc := 0) C dX6_readBoth_0 rfl 0 rfl ?_
  refine g_iload_n (pc := 1) C dX6_readBoth_1 rfl 1 rfl ?_
  replace h := gd_some h; obtain ⟨hk1, h⟩ := h
  replace h := bnd2 h; obtain ⟨_u, M2, h1, h⟩ := h
  refine g_callVv (pc := 2) (As := [.int (x1)]) (st := []) C dX6_readBoth_2 wX6_readUnit hk1 rfl (by decide) q_716 q_18 q_714 (by omega) rfl (Nat.le_of_ble_eq_true rfl) (hrec 2 _ _ _ _ _ h1) ?_
  refine g_iconst (pc := 5) (v := 0) C dX6_readBoth_5 (by decide) ?_
  refine g_istore_n (pc := 6) (lo2 := [(2, .int ((0 : Int32))), (0, .ref (x0)), (1, .int (x1))]) C dX6_readBoth_6 rfl (by decide) rfl ?_
  replace h := bnd h; obtain ⟨M13, h1, h⟩ := h
  refine g_sub [1, 2, 0] rfl ?_
  refine lp_G2 (P := PX6_readBoth_7 X B _ _ T x0 x1) (E := EX6_readBoth_7 X B _ _ T x0 x1) (tbX6_readBoth_7 C hd hrec) h1 ?_
  show G X B 4 _ _ 58 [] [] T M13
  obtain ⟨-, rfl⟩ := Prod.mk.inj (Option.some.inj h)
  exact g_vret C hR dX6_readBoth_58
def jX6_readUnit_97 (rec : Nat → Sh → Me → Nat → Int32 → Option (Unit × Me)) (T : Sh) (M : Me) (x0 : Nat) (x1 : Int32) (x2 : Int32) : Option (Unit × Me) :=
  gd (kd T x0 = 5) <| lt (pI M x0 1 ((gI M x0 1) + (1 : Int32))) fun M10 => Option.bind (rec 3 T M10 x0 x1) <| un2 fun _u M11 => if x2 = (61 : Int32) then (Option.bind (fX6_put T M11 x0 (5 : Int32) (0 : Int32)) <| un2 fun r18 M19 => some ((), M19)) else (if x2 = (60 : Int32) then (Option.bind (fX6_put T M11 x0 (6 : Int32) (0 : Int32)) <| un2 fun r16 M17 => some ((), M17)) else (Option.bind (fX6_put T M11 x0 (7 : Int32) (0 : Int32)) <| un2 fun r14 M15 => some ((), M15)))
set_option maxHeartbeats 4000000 in
theorem tjX6_readUnit_97 {X : Fx} {B : Bx} {Z : Nat × Nat × Nat × Nat} {d : Nat} {T : Sh} {M : Me} {x0 : Nat} {x1 : Int32} {x2 : Int32} {M' : Me} (C : Cx X B cX6_readUnit 3 RX6 (d + 1) Z) (hR : Rx X none) (hd : 3 ≤ d) {rec : Nat → Sh → Me → Nat → Int32 → Option (Unit × Me)} (hrec : RKG6 X.2.1 B d rec) (h : jX6_readUnit_97 rec T M x0 x1 x2 = some ((), M')) : G X B 3 Z (Qf X B Z none T M') 97 [(0, .ref (x0)), (1, .int (x1)), (2, .int (x2))] [] T M := by
  unfold jX6_readUnit_97 at h
  refine g_aload_n (pc := 97) C dX6_readUnit_97 rfl 0 rfl ?_
  refine g_dup (pc := 98) C dX6_readUnit_98 rfl ?_
  replace h := gd_some h; obtain ⟨hk9, h⟩ := h
  refine g_get (pc := 99) (v := .int (gI M x0 1)) C dX6_readUnit_99 kX6 hk9 1 (by decide) q_181 rfl ?_
  refine g_iconst (pc := 102) (v := 1) C dX6_readUnit_102 (by decide) ?_
  refine g_iadd (pc := 103) C dX6_readUnit_103 ?_
  refine g_putI (pc := 104) C dX6_readUnit_104 kX6 hk9 1 (by decide) rfl rfl rfl q_181 ?_
  refine g_mem (fun M10 eM10 => ?_)
  replace h := lt_at eM10 h
  refine g_aload_n (pc := 107) C dX6_readUnit_107 rfl 0 rfl ?_
  refine g_iload_n (pc := 108) C dX6_readUnit_108 rfl 1 rfl ?_
  replace h := bnd2 h; obtain ⟨_u, M11, h1, h⟩ := h
  refine g_callVv (pc := 109) (As := [.int (x1)]) (st := []) C dX6_readUnit_109 wX6_readSum hk9 rfl (by decide) q_684 q_10 q_682 (by omega) rfl (Nat.le_of_ble_eq_true rfl) (hrec 3 _ _ _ _ _ h1) ?_
  refine g_aload_n (pc := 112) C dX6_readUnit_112 rfl 0 rfl ?_
  refine g_iload_n (pc := 113) C dX6_readUnit_113 rfl 2 rfl ?_
  refine g_bipush (pc := 114) (v := 61) C dX6_readUnit_114 (by decide) ?_
  refine g_icmp_ne (pc := 116) (tgt := 123) C dX6_readUnit_116 (by decide) (fun c12 => ?_) (fun c12 => ?_)
  · replace h := ifn c12 h
    refine g_iload_n (pc := 123) C dX6_readUnit_123 rfl 2 rfl ?_
    refine g_bipush (pc := 124) (v := 60) C dX6_readUnit_124 (by decide) ?_
    refine g_icmp_ne (pc := 126) (tgt := 134) C dX6_readUnit_126 (by decide) (fun c13 => ?_) (fun c13 => ?_)
    · replace h := ifn c13 h
      refine g_bipush (pc := 134) (v := 7) C dX6_readUnit_134 (by decide) ?_
      refine g_iconst (pc := 136) (v := 0) C dX6_readUnit_136 (by decide) ?_
      replace h := bnd2 h; obtain ⟨r14, M15, h1, h⟩ := h
      refine g_callVi (pc := 137) (As := [.int ((7 : Int32)), .int ((0 : Int32))]) (st := []) C dX6_readUnit_137 wX6_put hk9 rfl (by decide) q_696 q_13 q_694 (by omega) rfl (Nat.le_of_ble_eq_true rfl) (kX6_put (d := 0) (Nat.le_refl _) h1) ?_
      refine g_pop (pc := 140) C dX6_readUnit_140 rfl ?_
      refine g_goto (pc := 141) (tgt := 149) C dX6_readUnit_141 (by decide) ?_
      obtain ⟨-, rfl⟩ := Prod.mk.inj (Option.some.inj h)
      exact g_vret C hR dX6_readUnit_149
    · replace h := ifp c13 h
      refine g_bipush (pc := 129) (v := 6) C dX6_readUnit_129 (by decide) ?_
      refine g_goto (pc := 131) (tgt := 136) C dX6_readUnit_131 (by decide) ?_
      refine g_iconst (pc := 136) (v := 0) C dX6_readUnit_136 (by decide) ?_
      replace h := bnd2 h; obtain ⟨r16, M17, h1, h⟩ := h
      refine g_callVi (pc := 137) (As := [.int ((6 : Int32)), .int ((0 : Int32))]) (st := []) C dX6_readUnit_137 wX6_put hk9 rfl (by decide) q_696 q_13 q_694 (by omega) rfl (Nat.le_of_ble_eq_true rfl) (kX6_put (d := 0) (Nat.le_refl _) h1) ?_
      refine g_pop (pc := 140) C dX6_readUnit_140 rfl ?_
      refine g_goto (pc := 141) (tgt := 149) C dX6_readUnit_141 (by decide) ?_
      obtain ⟨-, rfl⟩ := Prod.mk.inj (Option.some.inj h)
      exact g_vret C hR dX6_readUnit_149
  · replace h := ifp c12 h
    refine g_iconst (pc := 119) (v := 5) C dX6_readUnit_119 (by decide) ?_
    refine g_goto (pc := 120) (tgt := 136) C dX6_readUnit_120 (by decide) ?_
    refine g_iconst (pc := 136) (v := 0) C dX6_readUnit_136 (by decide) ?_
    replace h := bnd2 h; obtain ⟨r18, M19, h1, h⟩ := h
    refine g_callVi (pc := 137) (As := [.int ((5 : Int32)), .int ((0 : Int32))]) (st := []) C dX6_readUnit_137 wX6_put hk9 rfl (by decide) q_696 q_13 q_694 (by omega) rfl (Nat.le_of_ble_eq_true rfl) (kX6_put (d := 0) (Nat.le_refl _) h1) ?_
    refine g_pop (pc := 140) C dX6_readUnit_140 rfl ?_
    refine g_goto (pc := 141) (tgt := 149) C dX6_readUnit_141 (by decide) ?_
    obtain ⟨-, rfl⟩ := Prod.mk.inj (Option.some.inj h)
    exact g_vret C hR dX6_readUnit_149
/-- EyeTrainer$Reader.readUnit(I)V -/
def hX6_readUnit (rec : Nat → Sh → Me → Nat → Int32 → Option (Unit × Me)) (T : Sh) (M : Me) (x0 : Nat) (x1 : Int32) : Option (Unit × Me) :=
  gd (kd T x0 = 5) <| Option.bind (fX6_kind T M x0) fun r2 => if r2 = (222 : Int32) then (Option.bind (fX6_goDeeper T M x0 x1) <| un2 fun r28 M29 => if r28 = 0 then (some ((), M29)) else (Option.bind (rec 2 T M29 x0 (x1 + (1 : Int32))) <| un2 fun _u M31 => Option.bind (fX6_put T M31 x0 (8 : Int32) (0 : Int32)) <| un2 fun r32 M33 => some ((), M33))) else (Option.bind (fX6_kind T M x0) fun r4 => if r4 = (91 : Int32) then (Option.bind (fX6_goDeeper T M x0 x1) <| un2 fun r23 M24 => if r23 = 0 then (some ((), M24)) else (Option.bind (rec 0 T M24 x0 (x1 + (1 : Int32))) <| un2 fun _u M26 => Option.bind (fX6_expect T M26 x0 (93 : Int32)) <| un2 fun _u M27 => some ((), M27))) else (Option.bind (rec 3 T M x0 x1) <| un2 fun _u M6 => Option.bind (fX6_kind T M6 x0) fun r7 => if r7 = (61 : Int32) then (jX6_readUnit_97 rec T M6 x0 x1 r7) else (if r7 = (60 : Int32) then (jX6_readUnit_97 rec T M6 x0 x1 r7) else (if r7 = (62 : Int32) then (jX6_readUnit_97 rec T M6 x0 x1 r7) else (Option.bind (fX6_fail T M6 x0 (2 : Int32)) <| un2 fun _u M22 => some ((), M22))))))
set_option maxHeartbeats 4000000 in
theorem khX6_readUnit {l : Launch} {B : Bx} {d : Nat} (hd : 3 ≤ d) {rec : Nat → Sh → Me → Nat → Int32 → Option (Unit × Me)} (hrec : RKG6 l B d rec) {T : Sh} {M : Me} {x0 : Nat} {x1 : Int32} {M' : Me} (h : hX6_readUnit rec T M x0 x1 = some ((), M')) : Kt l B yX6_readUnit cX6_readUnit 3 none (d + 1) [.ref (x0), .int (x1)] T M none T M' := by
  refine kt_of wX6_readUnit (Nat.le_refl _) (Nat.le_refl _) (Nat.le_of_ble_eq_true rfl) (fun X C hR hlx hin => ?_)
  subst hlx
  replace C : Cx X B cX6_readUnit 3 RX6 (d + 1) (tp T, sl T, tp T, sl T) := C
  unfold hX6_readUnit at h
  show G X B 3 _ _ 0 [(0, .ref (x0)), (1, .int (x1))] [] T M
  refine g_aload_n (pc := 0) C dX6_readUnit_0 rfl 0 rfl ?_
  replace h := gd_some h; obtain ⟨hk1, h⟩ := h
  replace h := bnd h; obtain ⟨r2, h1, h⟩ := h
  refine g_callVi (pc := 1) (As := []) (st := []) C dX6_readUnit_1 wX6_kind hk1 rfl (by decide) q_656 q_3 q_654 (by omega) rfl (Nat.le_of_ble_eq_true rfl) (kX6_kind (d := 0) (Nat.le_refl _) h1) ?_
  refine g_sipush (pc := 4) (v := 222) C dX6_readUnit_4 (by decide) ?_
  refine g_icmp_ne (pc := 7) (tgt := 36) C dX6_readUnit_7 (by decide) (fun c3 => ?_) (fun c3 => ?_)
  · replace h := ifn c3 h
    refine g_aload_n (pc := 36) C dX6_readUnit_36 rfl 0 rfl ?_
    replace h := bnd h; obtain ⟨r4, h1, h⟩ := h
    refine g_callVi (pc := 37) (As := []) (st := []) C dX6_readUnit_37 wX6_kind hk1 rfl (by decide) q_656 q_3 q_654 (by omega) rfl (Nat.le_of_ble_eq_true rfl) (kX6_kind (d := 0) (Nat.le_refl _) h1) ?_
    refine g_bipush (pc := 40) (v := 91) C dX6_readUnit_40 (by decide) ?_
    refine g_icmp_ne (pc := 42) (tgt := 69) C dX6_readUnit_42 (by decide) (fun c5 => ?_) (fun c5 => ?_)
    · replace h := ifn c5 h
      refine g_aload_n (pc := 69) C dX6_readUnit_69 rfl 0 rfl ?_
      refine g_iload_n (pc := 70) C dX6_readUnit_70 rfl 1 rfl ?_
      replace h := bnd2 h; obtain ⟨_u, M6, h1, h⟩ := h
      refine g_callVv (pc := 71) (As := [.int (x1)]) (st := []) C dX6_readUnit_71 wX6_readSum hk1 rfl (by decide) q_684 q_10 q_682 (by omega) rfl (Nat.le_of_ble_eq_true rfl) (hrec 3 _ _ _ _ _ h1) ?_
      refine g_aload_n (pc := 74) C dX6_readUnit_74 rfl 0 rfl ?_
      replace h := bnd h; obtain ⟨r7, h1, h⟩ := h
      refine g_callVi (pc := 75) (As := []) (st := []) C dX6_readUnit_75 wX6_kind hk1 rfl (by decide) q_656 q_3 q_654 (by omega) rfl (Nat.le_of_ble_eq_true rfl) (kX6_kind (d := 0) (Nat.le_refl _) h1) ?_
      refine g_istore_n (pc := 78) (lo2 := [(2, .int (r7)), (0, .ref (x0)), (1, .int (x1))]) C dX6_readUnit_78 rfl (by decide) rfl ?_
      refine g_iload_n (pc := 79) C dX6_readUnit_79 rfl 0 rfl ?_
      refine g_bipush (pc := 80) (v := 61) C dX6_readUnit_80 (by decide) ?_
      refine g_icmp_eq (pc := 82) (tgt := 97) C dX6_readUnit_82 (by decide) (fun c8 => ?_) (fun c8 => ?_)
      · replace h := ifp c8 h
        exact g_sub [1, 2, 0] rfl (tjX6_readUnit_97 C hR hd hrec h)
      · replace h := ifn c8 h
        refine g_iload_n (pc := 85) C dX6_readUnit_85 rfl 0 rfl ?_
        refine g_bipush (pc := 86) (v := 60) C dX6_readUnit_86 (by decide) ?_
        refine g_icmp_eq (pc := 88) (tgt := 97) C dX6_readUnit_88 (by decide) (fun c20 => ?_) (fun c20 => ?_)
        · replace h := ifp c20 h
          exact g_sub [1, 2, 0] rfl (tjX6_readUnit_97 C hR hd hrec h)
        · replace h := ifn c20 h
          refine g_iload_n (pc := 91) C dX6_readUnit_91 rfl 0 rfl ?_
          refine g_bipush (pc := 92) (v := 62) C dX6_readUnit_92 (by decide) ?_
          refine g_icmp_ne (pc := 94) (tgt := 144) C dX6_readUnit_94 (by decide) (fun c21 => ?_) (fun c21 => ?_)
          · replace h := ifn c21 h
            refine g_aload_n (pc := 144) C dX6_readUnit_144 rfl 1 rfl ?_
            refine g_iconst (pc := 145) (v := 2) C dX6_readUnit_145 (by decide) ?_
            replace h := bnd2 h; obtain ⟨_u, M22, h1, h⟩ := h
            refine g_callVv (pc := 146) (As := [.int ((2 : Int32))]) (st := []) C dX6_readUnit_146 wX6_fail hk1 rfl (by decide) q_660 q_4 q_658 (by omega) rfl (Nat.le_of_ble_eq_true rfl) (kX6_fail (d := 1) (Nat.le_refl _) h1) ?_
            obtain ⟨-, rfl⟩ := Prod.mk.inj (Option.some.inj h)
            exact g_vret C hR dX6_readUnit_149
          · replace h := ifp c21 h
            exact g_sub [1, 2, 0] rfl (tjX6_readUnit_97 C hR hd hrec h)
    · replace h := ifp c5 h
      refine g_aload_n (pc := 45) C dX6_readUnit_45 rfl 0 rfl ?_
      refine g_iload_n (pc := 46) C dX6_readUnit_46 rfl 1 rfl ?_
      replace h := bnd2 h; obtain ⟨r23, M24, h1, h⟩ := h
      refine g_callVi (pc := 47) (As := [.int (x1)]) (st := []) C dX6_readUnit_47 wX6_goDeeper hk1 rfl (by decide) q_700 q_14 q_698 (by omega) rfl (Nat.le_of_ble_eq_true rfl) (kX6_goDeeper (d := 2) (Nat.le_refl _) h1) ?_
      refine g_if_eq (pc := 50) (tgt := 149) C dX6_readUnit_50 (by decide) (fun c25 => ?_) (fun c25 => ?_)
      · replace h := ifp c25 h
        obtain ⟨-, rfl⟩ := Prod.mk.inj (Option.some.inj h)
        exact g_vret C hR dX6_readUnit_149
      · replace h := ifn c25 h
        refine g_aload_n (pc := 53) C dX6_readUnit_53 rfl 0 rfl ?_
        refine g_iload_n (pc := 54) C dX6_readUnit_54 rfl 1 rfl ?_
        refine g_iconst (pc := 55) (v := 1) C dX6_readUnit_55 (by decide) ?_
        refine g_iadd (pc := 56) C dX6_readUnit_56 ?_
        replace h := bnd2 h; obtain ⟨_u, M26, h1, h⟩ := h
        refine g_callVv (pc := 57) (As := [.int (x1 + (1 : Int32))]) (st := []) C dX6_readUnit_57 wX6_readTruth hk1 rfl (by decide) q_708 q_16 q_706 (by omega) rfl (Nat.le_of_ble_eq_true rfl) (hrec 0 _ _ _ _ _ h1) ?_
        refine g_aload_n (pc := 60) C dX6_readUnit_60 rfl 0 rfl ?_
        refine g_bipush (pc := 61) (v := 93) C dX6_readUnit_61 (by decide) ?_
        replace h := bnd2 h; obtain ⟨_u, M27, h1, h⟩ := h
        refine g_callVv (pc := 63) (As := [.int ((93 : Int32))]) (st := []) C dX6_readUnit_63 wX6_expect hk1 rfl (by decide) q_652 q_2 q_650 (by omega) rfl (Nat.le_of_ble_eq_true rfl) (kX6_expect (d := 2) (Nat.le_refl _) h1) ?_
        refine g_goto (pc := 66) (tgt := 149) C dX6_readUnit_66 (by decide) ?_
        obtain ⟨-, rfl⟩ := Prod.mk.inj (Option.some.inj h)
        exact g_vret C hR dX6_readUnit_149
  · replace h := ifp c3 h
    refine g_aload_n (pc := 10) C dX6_readUnit_10 rfl 0 rfl ?_
    refine g_iload_n (pc := 11) C dX6_readUnit_11 rfl 1 rfl ?_
    replace h := bnd2 h; obtain ⟨r28, M29, h1, h⟩ := h
    refine g_callVi (pc := 12) (As := [.int (x1)]) (st := []) C dX6_readUnit_12 wX6_goDeeper hk1 rfl (by decide) q_700 q_14 q_698 (by omega) rfl (Nat.le_of_ble_eq_true rfl) (kX6_goDeeper (d := 2) (Nat.le_refl _) h1) ?_
    refine g_if_eq (pc := 15) (tgt := 149) C dX6_readUnit_15 (by decide) (fun c30 => ?_) (fun c30 => ?_)
    · replace h := ifp c30 h
      obtain ⟨-, rfl⟩ := Prod.mk.inj (Option.some.inj h)
      exact g_vret C hR dX6_readUnit_149
    · replace h := ifn c30 h
      refine g_aload_n (pc := 18) C dX6_readUnit_18 rfl 0 rfl ?_
      refine g_iload_n (pc := 19) C dX6_readUnit_19 rfl 1 rfl ?_
      refine g_iconst (pc := 20) (v := 1) C dX6_readUnit_20 (by decide) ?_
      refine g_iadd (pc := 21) C dX6_readUnit_21 ?_
      replace h := bnd2 h; obtain ⟨_u, M31, h1, h⟩ := h
      refine g_callVv (pc := 22) (As := [.int (x1 + (1 : Int32))]) (st := []) C dX6_readUnit_22 wX6_readUnit hk1 rfl (by decide) q_716 q_18 q_714 (by omega) rfl (Nat.le_of_ble_eq_true rfl) (hrec 2 _ _ _ _ _ h1) ?_
      refine g_aload_n (pc := 25) C dX6_readUnit_25 rfl 0 rfl ?_
      refine g_bipush (pc := 26) (v := 8) C dX6_readUnit_26 (by decide) ?_
      refine g_iconst (pc := 28) (v := 0) C dX6_readUnit_28 (by decide) ?_
      replace h := bnd2 h; obtain ⟨r32, M33, h1, h⟩ := h
      refine g_callVi (pc := 29) (As := [.int ((8 : Int32)), .int ((0 : Int32))]) (st := []) C dX6_readUnit_29 wX6_put hk1 rfl (by decide) q_696 q_13 q_694 (by omega) rfl (Nat.le_of_ble_eq_true rfl) (kX6_put (d := 0) (Nat.le_refl _) h1) ?_
      refine g_pop (pc := 32) C dX6_readUnit_32 rfl ?_
      refine g_goto (pc := 33) (tgt := 149) C dX6_readUnit_33 (by decide) ?_
      obtain ⟨-, rfl⟩ := Prod.mk.inj (Option.some.inj h)
      exact g_vret C hR dX6_readUnit_149
-- a loop of EyeTrainer$Reader.readSum at 7
def jX6_readSum_46 (rec : Nat → Sh → Me → Nat → Int32 → Option (Unit × Me)) (T : Sh) (M : Me) (x0 : Nat) (x1 : Int32) (x2 : Int32) (s0 : Int32) : Option ((Int32 × Me) ⊕ (Me)) :=
  gd (kd T x0 = 5) <| lt (pI M x0 1 ((gI M x0 1) + (1 : Int32))) fun M11 => Option.bind (rec 4 T M11 x0 x1) <| un2 fun _u M12 => Option.bind (fX6_put T M12 x0 s0 (0 : Int32)) <| un2 fun r13 M14 => lt (x2 + (1 : Int32)) fun v15 => some (.inl (v15, M14))
def jX6_readSum_32 (rec : Nat → Sh → Me → Nat → Int32 → Option (Unit × Me)) (T : Sh) (M : Me) (x0 : Nat) (x1 : Int32) (x2 : Int32) : Option ((Int32 × Me) ⊕ (Me)) :=
  gd (kd T x0 = 5) <| Option.bind (fX6_kind T M x0) fun r8 => if r8 = (43 : Int32) then (jX6_readSum_46 rec T M x0 x1 x2 (2 : Int32)) else (jX6_readSum_46 rec T M x0 x1 x2 (3 : Int32))
def bX6_readSum_7 (rec : Nat → Sh → Me → Nat → Int32 → Option (Unit × Me)) (T : Sh) (x0 : Nat) (x1 : Int32) (x2 : Int32) (M : Me) : Option ((Int32 × Me) ⊕ (Me)) :=
  if (900 : Int32) ≤ x2 then (some (.inr M)) else (gd (kd T x0 = 5) <| Option.bind (fX6_kind T M x0) fun r5 => if r5 = (43 : Int32) then (jX6_readSum_32 rec T M x0 x1 x2) else (Option.bind (fX6_kind T M x0) fun r16 => if r16 = (45 : Int32) then (jX6_readSum_32 rec T M x0 x1 x2) else (some (.inr M))))
def PX6_readSum_7 (X : Fx) (B : Bx) (Z : Nat × Nat × Nat × Nat) (Q : State → Prop) (T : Sh) (x0 : Nat) (x1 : Int32) (s : Int32 × Me) : Prop := G X B 4 Z Q 7 [(0, .ref (x0)), (1, .int (x1)), (2, .int (s.1))] [] T s.2
def EX6_readSum_7 (X : Fx) (B : Bx) (Z : Nat × Nat × Nat × Nat) (Q : State → Prop) (T : Sh) (x0 : Nat) (x1 : Int32) (r : Me) : Prop := G X B 4 Z Q 75 [] [] T r
set_option maxHeartbeats 4000000 in
theorem tjX6_readSum_46 {X : Fx} {B : Bx} {Z : Nat × Nat × Nat × Nat} {Q : State → Prop} {d : Nat} {T : Sh} {M : Me} {x0 : Nat} {x1 : Int32} {x2 : Int32} {s0 : Int32} {o : (Int32 × Me) ⊕ (Me)} (C : Cx X B cX6_readSum 4 RX6 (d + 1) Z) (hd : 3 ≤ d) {rec : Nat → Sh → Me → Nat → Int32 → Option (Unit × Me)} (hrec : RKG6 X.2.1 B d rec) (h : jX6_readSum_46 rec T M x0 x1 x2 s0 = some o) (hE : lpE (PX6_readSum_7 X B Z Q T x0 x1) (EX6_readSum_7 X B Z Q T x0 x1) o) : G X B 4 Z Q 46 [(0, .ref (x0)), (1, .int (x1)), (2, .int (x2))] [.int (s0)] T M := by
  unfold jX6_readSum_46 at h
  refine g_istore_n (pc := 46) (lo2 := [(3, .int (s0)), (0, .ref (x0)), (1, .int (x1)), (2, .int (x2))]) C dX6_readSum_46 rfl (by decide) rfl ?_
  refine g_aload_n (pc := 47) C dX6_readSum_47 rfl 1 rfl ?_
  refine g_dup (pc := 48) C dX6_readSum_48 rfl ?_
  replace h := gd_some h; obtain ⟨hk10, h⟩ := h
  refine g_get (pc := 49) (v := .int (gI M x0 1)) C dX6_readSum_49 kX6 hk10 1 (by decide) q_181 rfl ?_
  refine g_iconst (pc := 52) (v := 1) C dX6_readSum_52 (by decide) ?_
  refine g_iadd (pc := 53) C dX6_readSum_53 ?_
  refine g_putI (pc := 54) C dX6_readSum_54 kX6 hk10 1 (by decide) rfl rfl rfl q_181 ?_
  refine g_mem (fun M11 eM11 => ?_)
  replace h := lt_at eM11 h
  refine g_aload_n (pc := 57) C dX6_readSum_57 rfl 1 rfl ?_
  refine g_iload_n (pc := 58) C dX6_readSum_58 rfl 2 rfl ?_
  replace h := bnd2 h; obtain ⟨_u, M12, h1, h⟩ := h
  refine g_callVv (pc := 59) (As := [.int (x1)]) (st := []) C dX6_readSum_59 wX6_readTerm hk10 rfl (by decide) q_688 q_11 q_686 (by omega) rfl (Nat.le_of_ble_eq_true rfl) (hrec 4 _ _ _ _ _ h1) ?_
  refine g_aload_n (pc := 62) C dX6_readSum_62 rfl 1 rfl ?_
  refine g_iload_n (pc := 63) C dX6_readSum_63 rfl 0 rfl ?_
  refine g_iconst (pc := 64) (v := 0) C dX6_readSum_64 (by decide) ?_
  replace h := bnd2 h; obtain ⟨r13, M14, h1, h⟩ := h
  refine g_callVi (pc := 65) (As := [.int (s0), .int ((0 : Int32))]) (st := []) C dX6_readSum_65 wX6_put hk10 rfl (by decide) q_696 q_13 q_694 (by omega) rfl (Nat.le_of_ble_eq_true rfl) (kX6_put (d := 0) (Nat.le_refl _) h1) ?_
  refine g_pop (pc := 68) C dX6_readSum_68 rfl ?_
  obtain ⟨v15, ev15⟩ : ∃ y : Int32, y = x2 + (1 : Int32) := ⟨_, rfl⟩
  replace h := lt_at ev15 h
  refine g_iinc (pc := 69) (v := v15) (k := 3) (lo2 := [(2, .int (v15)), (3, .int (s0)), (0, .ref (x0)), (1, .int (x1))]) C dX6_readSum_69 rfl (by rw [ev15]; rfl) (by decide) rfl ?_
  refine g_goto (pc := 72) (tgt := 7) C dX6_readSum_72 (by decide) ?_
  obtain rfl := Option.some.inj h
  exact g_sub [2, 3, 0] rfl (show G X B 4 Z Q 7 [(0, .ref (x0)), (1, .int (x1)), (2, .int (v15))] [] T M14 from hE)
set_option maxHeartbeats 4000000 in
theorem tjX6_readSum_32 {X : Fx} {B : Bx} {Z : Nat × Nat × Nat × Nat} {Q : State → Prop} {d : Nat} {T : Sh} {M : Me} {x0 : Nat} {x1 : Int32} {x2 : Int32} {o : (Int32 × Me) ⊕ (Me)} (C : Cx X B cX6_readSum 4 RX6 (d + 1) Z) (hd : 3 ≤ d) {rec : Nat → Sh → Me → Nat → Int32 → Option (Unit × Me)} (hrec : RKG6 X.2.1 B d rec) (h : jX6_readSum_32 rec T M x0 x1 x2 = some o) (hE : lpE (PX6_readSum_7 X B Z Q T x0 x1) (EX6_readSum_7 X B Z Q T x0 x1) o) : G X B 4 Z Q 32 [(0, .ref (x0)), (1, .int (x1)), (2, .int (x2))] [] T M := by
  unfold jX6_readSum_32 at h
  refine g_aload_n (pc := 32) C dX6_readSum_32 rfl 0 rfl ?_
  replace h := gd_some h; obtain ⟨hk7, h⟩ := h
  replace h := bnd h; obtain ⟨r8, h1, h⟩ := h
  refine g_callVi (pc := 33) (As := []) (st := []) C dX6_readSum_33 wX6_kind hk7 rfl (by decide) q_656 q_3 q_654 (by omega) rfl (Nat.le_of_ble_eq_true rfl) (kX6_kind (d := 0) (Nat.le_refl _) h1) ?_
  refine g_bipush (pc := 36) (v := 43) C dX6_readSum_36 (by decide) ?_
  refine g_icmp_ne (pc := 38) (tgt := 45) C dX6_readSum_38 (by decide) (fun c9 => ?_) (fun c9 => ?_)
  · replace h := ifn c9 h
    refine g_iconst (pc := 45) (v := 3) C dX6_readSum_45 (by decide) ?_
    exact g_sub [0, 1, 2] rfl (tjX6_readSum_46 C hd hrec h hE)
  · replace h := ifp c9 h
    refine g_iconst (pc := 41) (v := 2) C dX6_readSum_41 (by decide) ?_
    refine g_goto (pc := 42) (tgt := 46) C dX6_readSum_42 (by decide) ?_
    exact g_sub [0, 1, 2] rfl (tjX6_readSum_46 C hd hrec h hE)
set_option maxHeartbeats 4000000 in
theorem tbX6_readSum_7 {X : Fx} {B : Bx} {Z : Nat × Nat × Nat × Nat} {Q : State → Prop} {d : Nat} {T : Sh} (C : Cx X B cX6_readSum 4 RX6 (d + 1) Z) (hd : 3 ≤ d) {rec : Nat → Sh → Me → Nat → Int32 → Option (Unit × Me)} (hrec : RKG6 X.2.1 B d rec) {x0 : Nat} {x1 : Int32} : ∀ (s : Int32 × Me) (o : (Int32 × Me) ⊕ (Me)), bX6_readSum_7 rec T x0 x1 s.1 s.2 = some o → lpE (PX6_readSum_7 X B Z Q T x0 x1) (EX6_readSum_7 X B Z Q T x0 x1) o → PX6_readSum_7 X B Z Q T x0 x1 s := by
  rintro ⟨x2, M⟩ o h hE
  replace h : bX6_readSum_7 rec T x0 x1 x2 M = some o := h
  unfold bX6_readSum_7 at h
  show G X B 4 Z Q 7 [(0, .ref (x0)), (1, .int (x1)), (2, .int (x2))] [] T M
  refine g_iload_n (pc := 7) C dX6_readSum_7 rfl 2 rfl ?_
  refine g_sipush (pc := 8) (v := 900) C dX6_readSum_8 (by decide) ?_
  refine g_icmp_ge (pc := 11) (tgt := 75) C dX6_readSum_11 (by decide) (fun c3 => ?_) (fun c3 => ?_)
  · replace h := ifp c3 h
    obtain rfl := Option.some.inj h
    exact g_sub [] rfl (show G X B 4 Z Q 75 [] [] T M from hE)
  · replace h := ifn c3 h
    refine g_aload_n (pc := 14) C dX6_readSum_14 rfl 0 rfl ?_
    replace h := gd_some h; obtain ⟨hk4, h⟩ := h
    replace h := bnd h; obtain ⟨r5, h1, h⟩ := h
    refine g_callVi (pc := 15) (As := []) (st := []) C dX6_readSum_15 wX6_kind hk4 rfl (by decide) q_656 q_3 q_654 (by omega) rfl (Nat.le_of_ble_eq_true rfl) (kX6_kind (d := 0) (Nat.le_refl _) h1) ?_
    refine g_bipush (pc := 18) (v := 43) C dX6_readSum_18 (by decide) ?_
    refine g_icmp_eq (pc := 20) (tgt := 32) C dX6_readSum_20 (by decide) (fun c6 => ?_) (fun c6 => ?_)
    · replace h := ifp c6 h
      exact g_sub [0, 1, 2] rfl (tjX6_readSum_32 C hd hrec h hE)
    · replace h := ifn c6 h
      refine g_aload_n (pc := 23) C dX6_readSum_23 rfl 0 rfl ?_
      replace h := bnd h; obtain ⟨r16, h1, h⟩ := h
      refine g_callVi (pc := 24) (As := []) (st := []) C dX6_readSum_24 wX6_kind hk4 rfl (by decide) q_656 q_3 q_654 (by omega) rfl (Nat.le_of_ble_eq_true rfl) (kX6_kind (d := 0) (Nat.le_refl _) h1) ?_
      refine g_bipush (pc := 27) (v := 45) C dX6_readSum_27 (by decide) ?_
      refine g_icmp_ne (pc := 29) (tgt := 75) C dX6_readSum_29 (by decide) (fun c17 => ?_) (fun c17 => ?_)
      · replace h := ifn c17 h
        obtain rfl := Option.some.inj h
        exact g_sub [] rfl (show G X B 4 Z Q 75 [] [] T M from hE)
      · replace h := ifp c17 h
        exact g_sub [0, 1, 2] rfl (tjX6_readSum_32 C hd hrec h hE)
/-- EyeTrainer$Reader.readSum(I)V -/
def hX6_readSum (rec : Nat → Sh → Me → Nat → Int32 → Option (Unit × Me)) (T : Sh) (M : Me) (x0 : Nat) (x1 : Int32) : Option (Unit × Me) :=
  gd (kd T x0 = 5) <| Option.bind (rec 4 T M x0 x1) <| un2 fun _u M2 => (lp FU (fun s => bX6_readSum_7 rec T x0 x1 s.1 s.2) ((0 : Int32), M2)).bind (fun M18 => some ((), M18))
set_option maxHeartbeats 4000000 in
theorem khX6_readSum {l : Launch} {B : Bx} {d : Nat} (hd : 3 ≤ d) {rec : Nat → Sh → Me → Nat → Int32 → Option (Unit × Me)} (hrec : RKG6 l B d rec) {T : Sh} {M : Me} {x0 : Nat} {x1 : Int32} {M' : Me} (h : hX6_readSum rec T M x0 x1 = some ((), M')) : Kt l B yX6_readSum cX6_readSum 4 none (d + 1) [.ref (x0), .int (x1)] T M none T M' := by
  refine kt_of wX6_readSum (Nat.le_refl _) (Nat.le_refl _) (Nat.le_of_ble_eq_true rfl) (fun X C hR hlx hin => ?_)
  subst hlx
  replace C : Cx X B cX6_readSum 4 RX6 (d + 1) (tp T, sl T, tp T, sl T) := C
  unfold hX6_readSum at h
  show G X B 4 _ _ 0 [(0, .ref (x0)), (1, .int (x1))] [] T M
  refine g_aload_n (pc := 0) C dX6_readSum_0 rfl 0 rfl ?_
  refine g_iload_n (pc := 1) C dX6_readSum_1 rfl 1 rfl ?_
  replace h := gd_some h; obtain ⟨hk1, h⟩ := h
  replace h := bnd2 h; obtain ⟨_u, M2, h1, h⟩ := h
  refine g_callVv (pc := 2) (As := [.int (x1)]) (st := []) C dX6_readSum_2 wX6_readTerm hk1 rfl (by decide) q_688 q_11 q_686 (by omega) rfl (Nat.le_of_ble_eq_true rfl) (hrec 4 _ _ _ _ _ h1) ?_
  refine g_iconst (pc := 5) (v := 0) C dX6_readSum_5 (by decide) ?_
  refine g_istore_n (pc := 6) (lo2 := [(2, .int ((0 : Int32))), (0, .ref (x0)), (1, .int (x1))]) C dX6_readSum_6 rfl (by decide) rfl ?_
  replace h := bnd h; obtain ⟨M18, h1, h⟩ := h
  refine g_sub [1, 2, 0] rfl ?_
  refine lp_G2 (P := PX6_readSum_7 X B _ _ T x0 x1) (E := EX6_readSum_7 X B _ _ T x0 x1) (tbX6_readSum_7 C hd hrec) h1 ?_
  show G X B 4 _ _ 75 [] [] T M18
  obtain ⟨-, rfl⟩ := Prod.mk.inj (Option.some.inj h)
  exact g_vret C hR dX6_readSum_75
-- a loop of EyeTrainer$Reader.readTerm at 7
def bX6_readTerm_7 (rec : Nat → Sh → Me → Nat → Int32 → Option (Unit × Me)) (T : Sh) (x0 : Nat) (x1 : Int32) (x2 : Int32) (M : Me) : Option ((Int32 × Me) ⊕ (Me)) :=
  if (900 : Int32) ≤ x2 then (some (.inr M)) else (gd (kd T x0 = 5) <| Option.bind (fX6_kind T M x0) fun r5 => if r5 = (42 : Int32) then (lt (pI M x0 1 ((gI M x0 1) + (1 : Int32))) fun M7 => Option.bind (rec 5 T M7 x0 x1) <| un2 fun _u M8 => Option.bind (fX6_put T M8 x0 (4 : Int32) (0 : Int32)) <| un2 fun r9 M10 => lt (x2 + (1 : Int32)) fun v11 => some (.inl (v11, M10))) else (some (.inr M)))
def PX6_readTerm_7 (X : Fx) (B : Bx) (Z : Nat × Nat × Nat × Nat) (Q : State → Prop) (T : Sh) (x0 : Nat) (x1 : Int32) (s : Int32 × Me) : Prop := G X B 3 Z Q 7 [(0, .ref (x0)), (1, .int (x1)), (2, .int (s.1))] [] T s.2
def EX6_readTerm_7 (X : Fx) (B : Bx) (Z : Nat × Nat × Nat × Nat) (Q : State → Prop) (T : Sh) (x0 : Nat) (x1 : Int32) (r : Me) : Prop := G X B 3 Z Q 51 [] [] T r
set_option maxHeartbeats 4000000 in
theorem tbX6_readTerm_7 {X : Fx} {B : Bx} {Z : Nat × Nat × Nat × Nat} {Q : State → Prop} {d : Nat} {T : Sh} (C : Cx X B cX6_readTerm 3 RX6 (d + 1) Z) (hd : 3 ≤ d) {rec : Nat → Sh → Me → Nat → Int32 → Option (Unit × Me)} (hrec : RKG6 X.2.1 B d rec) {x0 : Nat} {x1 : Int32} : ∀ (s : Int32 × Me) (o : (Int32 × Me) ⊕ (Me)), bX6_readTerm_7 rec T x0 x1 s.1 s.2 = some o → lpE (PX6_readTerm_7 X B Z Q T x0 x1) (EX6_readTerm_7 X B Z Q T x0 x1) o → PX6_readTerm_7 X B Z Q T x0 x1 s := by
  rintro ⟨x2, M⟩ o h hE
  replace h : bX6_readTerm_7 rec T x0 x1 x2 M = some o := h
  unfold bX6_readTerm_7 at h
  show G X B 3 Z Q 7 [(0, .ref (x0)), (1, .int (x1)), (2, .int (x2))] [] T M
  refine g_iload_n (pc := 7) C dX6_readTerm_7 rfl 2 rfl ?_
  refine g_sipush (pc := 8) (v := 900) C dX6_readTerm_8 (by decide) ?_
  refine g_icmp_ge (pc := 11) (tgt := 51) C dX6_readTerm_11 (by decide) (fun c3 => ?_) (fun c3 => ?_)
  · replace h := ifp c3 h
    obtain rfl := Option.some.inj h
    exact g_sub [] rfl (show G X B 3 Z Q 51 [] [] T M from hE)
  · replace h := ifn c3 h
    refine g_aload_n (pc := 14) C dX6_readTerm_14 rfl 0 rfl ?_
    replace h := gd_some h; obtain ⟨hk4, h⟩ := h
    replace h := bnd h; obtain ⟨r5, h1, h⟩ := h
    refine g_callVi (pc := 15) (As := []) (st := []) C dX6_readTerm_15 wX6_kind hk4 rfl (by decide) q_656 q_3 q_654 (by omega) rfl (Nat.le_of_ble_eq_true rfl) (kX6_kind (d := 0) (Nat.le_refl _) h1) ?_
    refine g_bipush (pc := 18) (v := 42) C dX6_readTerm_18 (by decide) ?_
    refine g_icmp_ne (pc := 20) (tgt := 51) C dX6_readTerm_20 (by decide) (fun c6 => ?_) (fun c6 => ?_)
    · replace h := ifn c6 h
      obtain rfl := Option.some.inj h
      exact g_sub [] rfl (show G X B 3 Z Q 51 [] [] T M from hE)
    · replace h := ifp c6 h
      refine g_aload_n (pc := 23) C dX6_readTerm_23 rfl 0 rfl ?_
      refine g_dup (pc := 24) C dX6_readTerm_24 rfl ?_
      refine g_get (pc := 25) (v := .int (gI M x0 1)) C dX6_readTerm_25 kX6 hk4 1 (by decide) q_181 rfl ?_
      refine g_iconst (pc := 28) (v := 1) C dX6_readTerm_28 (by decide) ?_
      refine g_iadd (pc := 29) C dX6_readTerm_29 ?_
      refine g_putI (pc := 30) C dX6_readTerm_30 kX6 hk4 1 (by decide) rfl rfl rfl q_181 ?_
      refine g_mem (fun M7 eM7 => ?_)
      replace h := lt_at eM7 h
      refine g_aload_n (pc := 33) C dX6_readTerm_33 rfl 0 rfl ?_
      refine g_iload_n (pc := 34) C dX6_readTerm_34 rfl 1 rfl ?_
      replace h := bnd2 h; obtain ⟨_u, M8, h1, h⟩ := h
      refine g_callVv (pc := 35) (As := [.int (x1)]) (st := []) C dX6_readTerm_35 wX6_readAtom hk4 rfl (by decide) q_692 q_12 q_690 (by omega) rfl (Nat.le_of_ble_eq_true rfl) (hrec 5 _ _ _ _ _ h1) ?_
      refine g_aload_n (pc := 38) C dX6_readTerm_38 rfl 0 rfl ?_
      refine g_iconst (pc := 39) (v := 4) C dX6_readTerm_39 (by decide) ?_
      refine g_iconst (pc := 40) (v := 0) C dX6_readTerm_40 (by decide) ?_
      replace h := bnd2 h; obtain ⟨r9, M10, h1, h⟩ := h
      refine g_callVi (pc := 41) (As := [.int ((4 : Int32)), .int ((0 : Int32))]) (st := []) C dX6_readTerm_41 wX6_put hk4 rfl (by decide) q_696 q_13 q_694 (by omega) rfl (Nat.le_of_ble_eq_true rfl) (kX6_put (d := 0) (Nat.le_refl _) h1) ?_
      refine g_pop (pc := 44) C dX6_readTerm_44 rfl ?_
      obtain ⟨v11, ev11⟩ : ∃ y : Int32, y = x2 + (1 : Int32) := ⟨_, rfl⟩
      replace h := lt_at ev11 h
      refine g_iinc (pc := 45) (v := v11) (k := 2) (lo2 := [(2, .int (v11)), (0, .ref (x0)), (1, .int (x1))]) C dX6_readTerm_45 rfl (by rw [ev11]; rfl) (by decide) rfl ?_
      refine g_goto (pc := 48) (tgt := 7) C dX6_readTerm_48 (by decide) ?_
      obtain rfl := Option.some.inj h
      exact g_sub [1, 2, 0] rfl (show G X B 3 Z Q 7 [(0, .ref (x0)), (1, .int (x1)), (2, .int (v11))] [] T M10 from hE)
/-- EyeTrainer$Reader.readTerm(I)V -/
def hX6_readTerm (rec : Nat → Sh → Me → Nat → Int32 → Option (Unit × Me)) (T : Sh) (M : Me) (x0 : Nat) (x1 : Int32) : Option (Unit × Me) :=
  gd (kd T x0 = 5) <| Option.bind (rec 5 T M x0 x1) <| un2 fun _u M2 => (lp FU (fun s => bX6_readTerm_7 rec T x0 x1 s.1 s.2) ((0 : Int32), M2)).bind (fun M12 => some ((), M12))
set_option maxHeartbeats 4000000 in
theorem khX6_readTerm {l : Launch} {B : Bx} {d : Nat} (hd : 3 ≤ d) {rec : Nat → Sh → Me → Nat → Int32 → Option (Unit × Me)} (hrec : RKG6 l B d rec) {T : Sh} {M : Me} {x0 : Nat} {x1 : Int32} {M' : Me} (h : hX6_readTerm rec T M x0 x1 = some ((), M')) : Kt l B yX6_readTerm cX6_readTerm 3 none (d + 1) [.ref (x0), .int (x1)] T M none T M' := by
  refine kt_of wX6_readTerm (Nat.le_refl _) (Nat.le_refl _) (Nat.le_of_ble_eq_true rfl) (fun X C hR hlx hin => ?_)
  subst hlx
  replace C : Cx X B cX6_readTerm 3 RX6 (d + 1) (tp T, sl T, tp T, sl T) := C
  unfold hX6_readTerm at h
  show G X B 3 _ _ 0 [(0, .ref (x0)), (1, .int (x1))] [] T M
  refine g_aload_n (pc := 0) C dX6_readTerm_0 rfl 0 rfl ?_
  refine g_iload_n (pc := 1) C dX6_readTerm_1 rfl 1 rfl ?_
  replace h := gd_some h; obtain ⟨hk1, h⟩ := h
  replace h := bnd2 h; obtain ⟨_u, M2, h1, h⟩ := h
  refine g_callVv (pc := 2) (As := [.int (x1)]) (st := []) C dX6_readTerm_2 wX6_readAtom hk1 rfl (by decide) q_692 q_12 q_690 (by omega) rfl (Nat.le_of_ble_eq_true rfl) (hrec 5 _ _ _ _ _ h1) ?_
  refine g_iconst (pc := 5) (v := 0) C dX6_readTerm_5 (by decide) ?_
  refine g_istore_n (pc := 6) (lo2 := [(2, .int ((0 : Int32))), (0, .ref (x0)), (1, .int (x1))]) C dX6_readTerm_6 rfl (by decide) rfl ?_
  replace h := bnd h; obtain ⟨M12, h1, h⟩ := h
  refine g_sub [1, 2, 0] rfl ?_
  refine lp_G2 (P := PX6_readTerm_7 X B _ _ T x0 x1) (E := EX6_readTerm_7 X B _ _ T x0 x1) (tbX6_readTerm_7 C hd hrec) h1 ?_
  show G X B 3 _ _ 51 [] [] T M12
  obtain ⟨-, rfl⟩ := Prod.mk.inj (Option.some.inj h)
  exact g_vret C hR dX6_readTerm_51
/-- EyeTrainer$Reader.readAtom(I)V -/
def hX6_readAtom (rec : Nat → Sh → Me → Nat → Int32 → Option (Unit × Me)) (T : Sh) (M : Me) (x0 : Nat) (x1 : Int32) : Option (Unit × Me) :=
  gd (kd T x0 = 5) <| Option.bind (fX6_kind T M x0) fun r2 => if r2 = (1 : Int32) then (Option.bind (gR M x0 0) fun a25 => gd (kd T a25 = 8) <| Option.bind (gR M a25 2) fun a27 => gd (kd T a27 = 13) <| gv (gI M x0 1) (ln T a27) <| Option.bind (fX6_put T M x0 (0 : Int32) (gI M a27 (Int32.toNatClampNeg (gI M x0 1)))) <| un2 fun r30 M31 => lt (pI M31 x0 1 ((gI M31 x0 1) + (1 : Int32))) fun M32 => some ((), M32)) else (if r2 = (40 : Int32) then (Option.bind (fX6_goDeeper T M x0 x1) <| un2 fun r20 M21 => if r20 = 0 then (some ((), M21)) else (Option.bind (rec 3 T M21 x0 (x1 + (1 : Int32))) <| un2 fun _u M23 => Option.bind (fX6_expect T M23 x0 (41 : Int32)) <| un2 fun _u M24 => some ((), M24))) else (if r2 = (216 : Int32) then (Option.bind (fX6_goDeeper T M x0 x1) <| un2 fun r16 M17 => if r16 = 0 then (some ((), M17)) else (Option.bind (rec 6 T M17 x0 (x1 + (1 : Int32))) <| un2 fun _u M19 => some ((), M19))) else (if r2 < (200 : Int32) then (Option.bind (fX6_fail T M x0 (2 : Int32)) <| un2 fun _u M7 => some ((), M7)) else (if (205 : Int32) < r2 then (Option.bind (fX6_fail T M x0 (2 : Int32)) <| un2 fun _u M9 => some ((), M9)) else (if (((gI M x0 6) >>> ((r2 - (200 : Int32)) &&& 31)) &&& (1 : Int32)) = 0 then (Option.bind (fX6_fail T M x0 (2 : Int32)) <| un2 fun _u M11 => some ((), M11)) else (Option.bind (fX6_put T M x0 (1 : Int32) (r2 - (200 : Int32))) <| un2 fun r12 M13 => lt (pI M13 x0 7 ((gI M13 x0 7) ||| ((1 : Int32) <<< ((r2 - (200 : Int32)) &&& 31)))) fun M14 => lt (pI M14 x0 1 ((gI M14 x0 1) + (1 : Int32))) fun M15 => some ((), M15)))))))
set_option maxHeartbeats 4000000 in
theorem khX6_readAtom {l : Launch} {B : Bx} {d : Nat} (hd : 3 ≤ d) {rec : Nat → Sh → Me → Nat → Int32 → Option (Unit × Me)} (hrec : RKG6 l B d rec) {T : Sh} {M : Me} {x0 : Nat} {x1 : Int32} {M' : Me} (h : hX6_readAtom rec T M x0 x1 = some ((), M')) : Kt l B yX6_readAtom cX6_readAtom 3 none (d + 1) [.ref (x0), .int (x1)] T M none T M' := by
  refine kt_of wX6_readAtom (Nat.le_refl _) (Nat.le_refl _) (Nat.le_of_ble_eq_true rfl) (fun X C hR hlx hin => ?_)
  subst hlx
  replace C : Cx X B cX6_readAtom 3 RX6 (d + 1) (tp T, sl T, tp T, sl T) := C
  unfold hX6_readAtom at h
  show G X B 3 _ _ 0 [(0, .ref (x0)), (1, .int (x1))] [] T M
  refine g_aload_n (pc := 0) C dX6_readAtom_0 rfl 0 rfl ?_
  replace h := gd_some h; obtain ⟨hk1, h⟩ := h
  replace h := bnd h; obtain ⟨r2, h1, h⟩ := h
  refine g_callVi (pc := 1) (As := []) (st := []) C dX6_readAtom_1 wX6_kind hk1 rfl (by decide) q_656 q_3 q_654 (by omega) rfl (Nat.le_of_ble_eq_true rfl) (kX6_kind (d := 0) (Nat.le_refl _) h1) ?_
  refine g_istore_n (pc := 4) (lo2 := [(2, .int (r2)), (0, .ref (x0)), (1, .int (x1))]) C dX6_readAtom_4 rfl (by decide) rfl ?_
  refine g_iload_n (pc := 5) C dX6_readAtom_5 rfl 0 rfl ?_
  refine g_iconst (pc := 6) (v := 1) C dX6_readAtom_6 (by decide) ?_
  refine g_icmp_ne (pc := 7) (tgt := 41) C dX6_readAtom_7 (by decide) (fun c3 => ?_) (fun c3 => ?_)
  · replace h := ifn c3 h
    refine g_iload_n (pc := 41) C dX6_readAtom_41 rfl 0 rfl ?_
    refine g_bipush (pc := 42) (v := 40) C dX6_readAtom_42 (by decide) ?_
    refine g_icmp_ne (pc := 44) (tgt := 71) C dX6_readAtom_44 (by decide) (fun c4 => ?_) (fun c4 => ?_)
    · replace h := ifn c4 h
      refine g_iload_n (pc := 71) C dX6_readAtom_71 rfl 0 rfl ?_
      refine g_sipush (pc := 72) (v := 216) C dX6_readAtom_72 (by decide) ?_
      refine g_icmp_ne (pc := 75) (tgt := 96) C dX6_readAtom_75 (by decide) (fun c5 => ?_) (fun c5 => ?_)
      · replace h := ifn c5 h
        refine g_iload_n (pc := 96) C dX6_readAtom_96 rfl 0 rfl ?_
        refine g_sipush (pc := 97) (v := 200) C dX6_readAtom_97 (by decide) ?_
        refine g_icmp_lt (pc := 100) (tgt := 165) C dX6_readAtom_100 (by decide) (fun c6 => ?_) (fun c6 => ?_)
        · replace h := ifp c6 h
          refine g_aload_n (pc := 165) C dX6_readAtom_165 rfl 1 rfl ?_
          refine g_iconst (pc := 166) (v := 2) C dX6_readAtom_166 (by decide) ?_
          replace h := bnd2 h; obtain ⟨_u, M7, h1, h⟩ := h
          refine g_callVv (pc := 167) (As := [.int ((2 : Int32))]) (st := []) C dX6_readAtom_167 wX6_fail hk1 rfl (by decide) q_660 q_4 q_658 (by omega) rfl (Nat.le_of_ble_eq_true rfl) (kX6_fail (d := 1) (Nat.le_refl _) h1) ?_
          obtain ⟨-, rfl⟩ := Prod.mk.inj (Option.some.inj h)
          exact g_vret C hR dX6_readAtom_170
        · replace h := ifn c6 h
          refine g_iload_n (pc := 103) C dX6_readAtom_103 rfl 0 rfl ?_
          refine g_sipush (pc := 104) (v := 205) C dX6_readAtom_104 (by decide) ?_
          refine g_icmp_gt (pc := 107) (tgt := 165) C dX6_readAtom_107 (by decide) (fun c8 => ?_) (fun c8 => ?_)
          · replace h := ifp c8 h
            refine g_aload_n (pc := 165) C dX6_readAtom_165 rfl 1 rfl ?_
            refine g_iconst (pc := 166) (v := 2) C dX6_readAtom_166 (by decide) ?_
            replace h := bnd2 h; obtain ⟨_u, M9, h1, h⟩ := h
            refine g_callVv (pc := 167) (As := [.int ((2 : Int32))]) (st := []) C dX6_readAtom_167 wX6_fail hk1 rfl (by decide) q_660 q_4 q_658 (by omega) rfl (Nat.le_of_ble_eq_true rfl) (kX6_fail (d := 1) (Nat.le_refl _) h1) ?_
            obtain ⟨-, rfl⟩ := Prod.mk.inj (Option.some.inj h)
            exact g_vret C hR dX6_readAtom_170
          · replace h := ifn c8 h
            refine g_aload_n (pc := 110) C dX6_readAtom_110 rfl 1 rfl ?_
            refine g_get (pc := 111) (v := .int (gI M x0 6)) C dX6_readAtom_111 kX6 hk1 6 (by decide) q_188 rfl ?_
            refine g_iload_n (pc := 114) C dX6_readAtom_114 rfl 0 rfl ?_
            refine g_sipush (pc := 115) (v := 200) C dX6_readAtom_115 (by decide) ?_
            refine g_isub (pc := 118) C dX6_readAtom_118 ?_
            refine g_ishr (pc := 119) C dX6_readAtom_119 ?_
            refine g_iconst (pc := 120) (v := 1) C dX6_readAtom_120 (by decide) ?_
            refine g_iand (pc := 121) C dX6_readAtom_121 ?_
            refine g_if_eq (pc := 122) (tgt := 165) C dX6_readAtom_122 (by decide) (fun c10 => ?_) (fun c10 => ?_)
            · replace h := ifp c10 h
              refine g_aload_n (pc := 165) C dX6_readAtom_165 rfl 1 rfl ?_
              refine g_iconst (pc := 166) (v := 2) C dX6_readAtom_166 (by decide) ?_
              replace h := bnd2 h; obtain ⟨_u, M11, h1, h⟩ := h
              refine g_callVv (pc := 167) (As := [.int ((2 : Int32))]) (st := []) C dX6_readAtom_167 wX6_fail hk1 rfl (by decide) q_660 q_4 q_658 (by omega) rfl (Nat.le_of_ble_eq_true rfl) (kX6_fail (d := 1) (Nat.le_refl _) h1) ?_
              obtain ⟨-, rfl⟩ := Prod.mk.inj (Option.some.inj h)
              exact g_vret C hR dX6_readAtom_170
            · replace h := ifn c10 h
              refine g_aload_n (pc := 125) C dX6_readAtom_125 rfl 1 rfl ?_
              refine g_iconst (pc := 126) (v := 1) C dX6_readAtom_126 (by decide) ?_
              refine g_iload_n (pc := 127) C dX6_readAtom_127 rfl 0 rfl ?_
              refine g_sipush (pc := 128) (v := 200) C dX6_readAtom_128 (by decide) ?_
              refine g_isub (pc := 131) C dX6_readAtom_131 ?_
              replace h := bnd2 h; obtain ⟨r12, M13, h1, h⟩ := h
              refine g_callVi (pc := 132) (As := [.int ((1 : Int32)), .int (r2 - (200 : Int32))]) (st := []) C dX6_readAtom_132 wX6_put hk1 rfl (by decide) q_696 q_13 q_694 (by omega) rfl (Nat.le_of_ble_eq_true rfl) (kX6_put (d := 0) (Nat.le_refl _) h1) ?_
              refine g_pop (pc := 135) C dX6_readAtom_135 rfl ?_
              refine g_aload_n (pc := 136) C dX6_readAtom_136 rfl 1 rfl ?_
              refine g_dup (pc := 137) C dX6_readAtom_137 rfl ?_
              refine g_get (pc := 138) (v := .int (gI M13 x0 7)) C dX6_readAtom_138 kX6 hk1 7 (by decide) q_189 rfl ?_
              refine g_iconst (pc := 141) (v := 1) C dX6_readAtom_141 (by decide) ?_
              refine g_iload_n (pc := 142) C dX6_readAtom_142 rfl 0 rfl ?_
              refine g_sipush (pc := 143) (v := 200) C dX6_readAtom_143 (by decide) ?_
              refine g_isub (pc := 146) C dX6_readAtom_146 ?_
              refine g_ishl (pc := 147) C dX6_readAtom_147 ?_
              refine g_ior (pc := 148) C dX6_readAtom_148 ?_
              refine g_putI (pc := 149) C dX6_readAtom_149 kX6 hk1 7 (by decide) rfl rfl rfl q_189 ?_
              refine g_mem (fun M14 eM14 => ?_)
              replace h := lt_at eM14 h
              refine g_aload_n (pc := 152) C dX6_readAtom_152 rfl 1 rfl ?_
              refine g_dup (pc := 153) C dX6_readAtom_153 rfl ?_
              refine g_get (pc := 154) (v := .int (gI M14 x0 1)) C dX6_readAtom_154 kX6 hk1 1 (by decide) q_181 rfl ?_
              refine g_iconst (pc := 157) (v := 1) C dX6_readAtom_157 (by decide) ?_
              refine g_iadd (pc := 158) C dX6_readAtom_158 ?_
              refine g_putI (pc := 159) C dX6_readAtom_159 kX6 hk1 1 (by decide) rfl rfl rfl q_181 ?_
              refine g_mem (fun M15 eM15 => ?_)
              replace h := lt_at eM15 h
              refine g_goto (pc := 162) (tgt := 170) C dX6_readAtom_162 (by decide) ?_
              obtain ⟨-, rfl⟩ := Prod.mk.inj (Option.some.inj h)
              exact g_vret C hR dX6_readAtom_170
      · replace h := ifp c5 h
        refine g_aload_n (pc := 78) C dX6_readAtom_78 rfl 1 rfl ?_
        refine g_iload_n (pc := 79) C dX6_readAtom_79 rfl 2 rfl ?_
        replace h := bnd2 h; obtain ⟨r16, M17, h1, h⟩ := h
        refine g_callVi (pc := 80) (As := [.int (x1)]) (st := []) C dX6_readAtom_80 wX6_goDeeper hk1 rfl (by decide) q_700 q_14 q_698 (by omega) rfl (Nat.le_of_ble_eq_true rfl) (kX6_goDeeper (d := 2) (Nat.le_refl _) h1) ?_
        refine g_if_eq (pc := 83) (tgt := 170) C dX6_readAtom_83 (by decide) (fun c18 => ?_) (fun c18 => ?_)
        · replace h := ifp c18 h
          obtain ⟨-, rfl⟩ := Prod.mk.inj (Option.some.inj h)
          exact g_vret C hR dX6_readAtom_170
        · replace h := ifn c18 h
          refine g_aload_n (pc := 86) C dX6_readAtom_86 rfl 1 rfl ?_
          refine g_iload_n (pc := 87) C dX6_readAtom_87 rfl 2 rfl ?_
          refine g_iconst (pc := 88) (v := 1) C dX6_readAtom_88 (by decide) ?_
          refine g_iadd (pc := 89) C dX6_readAtom_89 ?_
          replace h := bnd2 h; obtain ⟨_u, M19, h1, h⟩ := h
          refine g_callVv (pc := 90) (As := [.int (x1 + (1 : Int32))]) (st := []) C dX6_readAtom_90 wX6_readChoice hk1 rfl (by decide) q_704 q_15 q_702 (by omega) rfl (Nat.le_of_ble_eq_true rfl) (hrec 6 _ _ _ _ _ h1) ?_
          refine g_goto (pc := 93) (tgt := 170) C dX6_readAtom_93 (by decide) ?_
          obtain ⟨-, rfl⟩ := Prod.mk.inj (Option.some.inj h)
          exact g_vret C hR dX6_readAtom_170
    · replace h := ifp c4 h
      refine g_aload_n (pc := 47) C dX6_readAtom_47 rfl 1 rfl ?_
      refine g_iload_n (pc := 48) C dX6_readAtom_48 rfl 2 rfl ?_
      replace h := bnd2 h; obtain ⟨r20, M21, h1, h⟩ := h
      refine g_callVi (pc := 49) (As := [.int (x1)]) (st := []) C dX6_readAtom_49 wX6_goDeeper hk1 rfl (by decide) q_700 q_14 q_698 (by omega) rfl (Nat.le_of_ble_eq_true rfl) (kX6_goDeeper (d := 2) (Nat.le_refl _) h1) ?_
      refine g_if_eq (pc := 52) (tgt := 170) C dX6_readAtom_52 (by decide) (fun c22 => ?_) (fun c22 => ?_)
      · replace h := ifp c22 h
        obtain ⟨-, rfl⟩ := Prod.mk.inj (Option.some.inj h)
        exact g_vret C hR dX6_readAtom_170
      · replace h := ifn c22 h
        refine g_aload_n (pc := 55) C dX6_readAtom_55 rfl 1 rfl ?_
        refine g_iload_n (pc := 56) C dX6_readAtom_56 rfl 2 rfl ?_
        refine g_iconst (pc := 57) (v := 1) C dX6_readAtom_57 (by decide) ?_
        refine g_iadd (pc := 58) C dX6_readAtom_58 ?_
        replace h := bnd2 h; obtain ⟨_u, M23, h1, h⟩ := h
        refine g_callVv (pc := 59) (As := [.int (x1 + (1 : Int32))]) (st := []) C dX6_readAtom_59 wX6_readSum hk1 rfl (by decide) q_684 q_10 q_682 (by omega) rfl (Nat.le_of_ble_eq_true rfl) (hrec 3 _ _ _ _ _ h1) ?_
        refine g_aload_n (pc := 62) C dX6_readAtom_62 rfl 1 rfl ?_
        refine g_bipush (pc := 63) (v := 41) C dX6_readAtom_63 (by decide) ?_
        replace h := bnd2 h; obtain ⟨_u, M24, h1, h⟩ := h
        refine g_callVv (pc := 65) (As := [.int ((41 : Int32))]) (st := []) C dX6_readAtom_65 wX6_expect hk1 rfl (by decide) q_652 q_2 q_650 (by omega) rfl (Nat.le_of_ble_eq_true rfl) (kX6_expect (d := 2) (Nat.le_refl _) h1) ?_
        refine g_goto (pc := 68) (tgt := 170) C dX6_readAtom_68 (by decide) ?_
        obtain ⟨-, rfl⟩ := Prod.mk.inj (Option.some.inj h)
        exact g_vret C hR dX6_readAtom_170
  · replace h := ifp c3 h
    refine g_aload_n (pc := 10) C dX6_readAtom_10 rfl 1 rfl ?_
    refine g_iconst (pc := 11) (v := 0) C dX6_readAtom_11 (by decide) ?_
    refine g_aload_n (pc := 12) C dX6_readAtom_12 rfl 1 rfl ?_
    refine g_get (pc := 13) (v := va_rf (gR M x0 0)) C dX6_readAtom_13 kX6 hk1 0 (by decide) q_180 rfl ?_
    replace h := bnd h; obtain ⟨a25, ea25, h⟩ := h
    refine g_refq ea25 ?_
    replace h := gd_some h; obtain ⟨hk26, h⟩ := h
    refine g_get (pc := 16) (v := va_rf (gR M a25 2)) C dX6_readAtom_16 kX9 hk26 2 (by decide) q_167 rfl ?_
    replace h := bnd h; obtain ⟨a27, ea27, h⟩ := h
    refine g_refq ea27 ?_
    refine g_aload_n (pc := 19) C dX6_readAtom_19 rfl 1 rfl ?_
    refine g_get (pc := 20) (v := .int (gI M x0 1)) C dX6_readAtom_20 kX6 hk1 1 (by decide) q_181 rfl ?_
    replace h := gd_some h; obtain ⟨hk28, h⟩ := h
    replace h := gv_some h; obtain ⟨hi29, h⟩ := h
    refine g_iald (pc := 23) C dX6_readAtom_23 hk28 hi29 ?_
    replace h := bnd2 h; obtain ⟨r30, M31, h1, h⟩ := h
    refine g_callVi (pc := 24) (As := [.int ((0 : Int32)), .int (gI M a27 (Int32.toNatClampNeg (gI M x0 1)))]) (st := []) C dX6_readAtom_24 wX6_put hk1 rfl (by decide) q_696 q_13 q_694 (by omega) rfl (Nat.le_of_ble_eq_true rfl) (kX6_put (d := 0) (Nat.le_refl _) h1) ?_
    refine g_pop (pc := 27) C dX6_readAtom_27 rfl ?_
    refine g_aload_n (pc := 28) C dX6_readAtom_28 rfl 1 rfl ?_
    refine g_dup (pc := 29) C dX6_readAtom_29 rfl ?_
    refine g_get (pc := 30) (v := .int (gI M31 x0 1)) C dX6_readAtom_30 kX6 hk1 1 (by decide) q_181 rfl ?_
    refine g_iconst (pc := 33) (v := 1) C dX6_readAtom_33 (by decide) ?_
    refine g_iadd (pc := 34) C dX6_readAtom_34 ?_
    refine g_putI (pc := 35) C dX6_readAtom_35 kX6 hk1 1 (by decide) rfl rfl rfl q_181 ?_
    refine g_mem (fun M32 eM32 => ?_)
    replace h := lt_at eM32 h
    refine g_goto (pc := 38) (tgt := 170) C dX6_readAtom_38 (by decide) ?_
    obtain ⟨-, rfl⟩ := Prod.mk.inj (Option.some.inj h)
    exact g_vret C hR dX6_readAtom_170
/-- EyeTrainer$Reader.readChoice(I)V -/
def hX6_readChoice (rec : Nat → Sh → Me → Nat → Int32 → Option (Unit × Me)) (T : Sh) (M : Me) (x0 : Nat) (x1 : Int32) : Option (Unit × Me) :=
  gd (kd T x0 = 5) <| Option.bind (rec 0 T M x0 x1) <| un2 fun _u M2 => Option.bind (fX6_expect T M2 x0 (217 : Int32)) <| un2 fun _u M3 => Option.bind (fX6_put T M3 x0 (11 : Int32) (0 : Int32)) <| un2 fun r4 M5 => Option.bind (rec 3 T M5 x0 x1) <| un2 fun _u M6 => Option.bind (fX6_expect T M6 x0 (218 : Int32)) <| un2 fun _u M7 => Option.bind (fX6_put T M7 x0 (12 : Int32) (0 : Int32)) <| un2 fun r8 M9 => Option.bind (fX6_land T M9 x0 r4) <| un2 fun _u M10 => Option.bind (rec 3 T M10 x0 x1) <| un2 fun _u M11 => Option.bind (fX6_expect T M11 x0 (219 : Int32)) <| un2 fun _u M12 => Option.bind (fX6_land T M12 x0 r8) <| un2 fun _u M13 => some ((), M13)
set_option maxHeartbeats 4000000 in
theorem khX6_readChoice {l : Launch} {B : Bx} {d : Nat} (hd : 3 ≤ d) {rec : Nat → Sh → Me → Nat → Int32 → Option (Unit × Me)} (hrec : RKG6 l B d rec) {T : Sh} {M : Me} {x0 : Nat} {x1 : Int32} {M' : Me} (h : hX6_readChoice rec T M x0 x1 = some ((), M')) : Kt l B yX6_readChoice cX6_readChoice 4 none (d + 1) [.ref (x0), .int (x1)] T M none T M' := by
  refine kt_of wX6_readChoice (Nat.le_refl _) (Nat.le_refl _) (Nat.le_of_ble_eq_true rfl) (fun X C hR hlx hin => ?_)
  subst hlx
  replace C : Cx X B cX6_readChoice 4 RX6 (d + 1) (tp T, sl T, tp T, sl T) := C
  unfold hX6_readChoice at h
  show G X B 4 _ _ 0 [(0, .ref (x0)), (1, .int (x1))] [] T M
  refine g_aload_n (pc := 0) C dX6_readChoice_0 rfl 0 rfl ?_
  refine g_iload_n (pc := 1) C dX6_readChoice_1 rfl 1 rfl ?_
  replace h := gd_some h; obtain ⟨hk1, h⟩ := h
  replace h := bnd2 h; obtain ⟨_u, M2, h1, h⟩ := h
  refine g_callVv (pc := 2) (As := [.int (x1)]) (st := []) C dX6_readChoice_2 wX6_readTruth hk1 rfl (by decide) q_708 q_16 q_706 (by omega) rfl (Nat.le_of_ble_eq_true rfl) (hrec 0 _ _ _ _ _ h1) ?_
  refine g_aload_n (pc := 5) C dX6_readChoice_5 rfl 0 rfl ?_
  refine g_sipush (pc := 6) (v := 217) C dX6_readChoice_6 (by decide) ?_
  replace h := bnd2 h; obtain ⟨_u, M3, h1, h⟩ := h
  refine g_callVv (pc := 9) (As := [.int ((217 : Int32))]) (st := []) C dX6_readChoice_9 wX6_expect hk1 rfl (by decide) q_652 q_2 q_650 (by omega) rfl (Nat.le_of_ble_eq_true rfl) (kX6_expect (d := 2) (Nat.le_refl _) h1) ?_
  refine g_aload_n (pc := 12) C dX6_readChoice_12 rfl 0 rfl ?_
  refine g_bipush (pc := 13) (v := 11) C dX6_readChoice_13 (by decide) ?_
  refine g_iconst (pc := 15) (v := 0) C dX6_readChoice_15 (by decide) ?_
  replace h := bnd2 h; obtain ⟨r4, M5, h1, h⟩ := h
  refine g_callVi (pc := 16) (As := [.int ((11 : Int32)), .int ((0 : Int32))]) (st := []) C dX6_readChoice_16 wX6_put hk1 rfl (by decide) q_696 q_13 q_694 (by omega) rfl (Nat.le_of_ble_eq_true rfl) (kX6_put (d := 0) (Nat.le_refl _) h1) ?_
  refine g_istore_n (pc := 19) (lo2 := [(2, .int (r4)), (0, .ref (x0)), (1, .int (x1))]) C dX6_readChoice_19 rfl (by decide) rfl ?_
  refine g_aload_n (pc := 20) C dX6_readChoice_20 rfl 1 rfl ?_
  refine g_iload_n (pc := 21) C dX6_readChoice_21 rfl 2 rfl ?_
  replace h := bnd2 h; obtain ⟨_u, M6, h1, h⟩ := h
  refine g_callVv (pc := 22) (As := [.int (x1)]) (st := []) C dX6_readChoice_22 wX6_readSum hk1 rfl (by decide) q_684 q_10 q_682 (by omega) rfl (Nat.le_of_ble_eq_true rfl) (hrec 3 _ _ _ _ _ h1) ?_
  refine g_aload_n (pc := 25) C dX6_readChoice_25 rfl 1 rfl ?_
  refine g_sipush (pc := 26) (v := 218) C dX6_readChoice_26 (by decide) ?_
  replace h := bnd2 h; obtain ⟨_u, M7, h1, h⟩ := h
  refine g_callVv (pc := 29) (As := [.int ((218 : Int32))]) (st := []) C dX6_readChoice_29 wX6_expect hk1 rfl (by decide) q_652 q_2 q_650 (by omega) rfl (Nat.le_of_ble_eq_true rfl) (kX6_expect (d := 2) (Nat.le_refl _) h1) ?_
  refine g_aload_n (pc := 32) C dX6_readChoice_32 rfl 1 rfl ?_
  refine g_bipush (pc := 33) (v := 12) C dX6_readChoice_33 (by decide) ?_
  refine g_iconst (pc := 35) (v := 0) C dX6_readChoice_35 (by decide) ?_
  replace h := bnd2 h; obtain ⟨r8, M9, h1, h⟩ := h
  refine g_callVi (pc := 36) (As := [.int ((12 : Int32)), .int ((0 : Int32))]) (st := []) C dX6_readChoice_36 wX6_put hk1 rfl (by decide) q_696 q_13 q_694 (by omega) rfl (Nat.le_of_ble_eq_true rfl) (kX6_put (d := 0) (Nat.le_refl _) h1) ?_
  refine g_istore_n (pc := 39) (lo2 := [(3, .int (r8)), (2, .int (r4)), (0, .ref (x0)), (1, .int (x1))]) C dX6_readChoice_39 rfl (by decide) rfl ?_
  refine g_aload_n (pc := 40) C dX6_readChoice_40 rfl 2 rfl ?_
  refine g_iload_n (pc := 41) C dX6_readChoice_41 rfl 1 rfl ?_
  replace h := bnd2 h; obtain ⟨_u, M10, h1, h⟩ := h
  refine g_callVv (pc := 42) (As := [.int (r4)]) (st := []) C dX6_readChoice_42 wX6_land hk1 rfl (by decide) q_720 q_19 q_718 (by omega) rfl (Nat.le_of_ble_eq_true rfl) (kX6_land (d := 0) (Nat.le_refl _) h1) ?_
  refine g_aload_n (pc := 45) C dX6_readChoice_45 rfl 2 rfl ?_
  refine g_iload_n (pc := 46) C dX6_readChoice_46 rfl 3 rfl ?_
  replace h := bnd2 h; obtain ⟨_u, M11, h1, h⟩ := h
  refine g_callVv (pc := 47) (As := [.int (x1)]) (st := []) C dX6_readChoice_47 wX6_readSum hk1 rfl (by decide) q_684 q_10 q_682 (by omega) rfl (Nat.le_of_ble_eq_true rfl) (hrec 3 _ _ _ _ _ h1) ?_
  refine g_aload_n (pc := 50) C dX6_readChoice_50 rfl 2 rfl ?_
  refine g_sipush (pc := 51) (v := 219) C dX6_readChoice_51 (by decide) ?_
  replace h := bnd2 h; obtain ⟨_u, M12, h1, h⟩ := h
  refine g_callVv (pc := 54) (As := [.int ((219 : Int32))]) (st := []) C dX6_readChoice_54 wX6_expect hk1 rfl (by decide) q_652 q_2 q_650 (by omega) rfl (Nat.le_of_ble_eq_true rfl) (kX6_expect (d := 2) (Nat.le_refl _) h1) ?_
  refine g_aload_n (pc := 57) C dX6_readChoice_57 rfl 2 rfl ?_
  refine g_iload_n (pc := 58) C dX6_readChoice_58 rfl 0 rfl ?_
  replace h := bnd2 h; obtain ⟨_u, M13, h1, h⟩ := h
  refine g_callVv (pc := 59) (As := [.int (r8)]) (st := []) C dX6_readChoice_59 wX6_land hk1 rfl (by decide) q_720 q_19 q_718 (by omega) rfl (Nat.le_of_ble_eq_true rfl) (kX6_land (d := 0) (Nat.le_refl _) h1) ?_
  obtain ⟨-, rfl⟩ := Prod.mk.inj (Option.some.inj h)
  exact g_vret C hR dX6_readChoice_62
def fG6 : Nat → Nat → Sh → Me → Nat → Int32 → Option (Unit × Me)
  | 0, _, _, _, _, _ => none
  | n + 1, w, T, M, a, p0 => match w with
    | 0 => hX6_readTruth (fG6 n) T M a p0
    | 1 => hX6_readBoth (fG6 n) T M a p0
    | 2 => hX6_readUnit (fG6 n) T M a p0
    | 3 => hX6_readSum (fG6 n) T M a p0
    | 4 => hX6_readTerm (fG6 n) T M a p0
    | 5 => hX6_readAtom (fG6 n) T M a p0
    | _ => hX6_readChoice (fG6 n) T M a p0
theorem kG6 {l : Launch} {B : Bx} : ∀ (n : Nat), RKG6 l B (3 + n) (fG6 n) := by
  intro n
  induction n with
  | zero => intro w T M a p0 M' h; cases h
  | succ n ih =>
    intro w T M a p0 M' h
    match w, h with
    | 0, h => exact khX6_readTruth (hd := by omega) (hrec := ih) h
    | 1, h => exact khX6_readBoth (hd := by omega) (hrec := ih) h
    | 2, h => exact khX6_readUnit (hd := by omega) (hrec := ih) h
    | 3, h => exact khX6_readSum (hd := by omega) (hrec := ih) h
    | 4, h => exact khX6_readTerm (hd := by omega) (hrec := ih) h
    | 5, h => exact khX6_readAtom (hd := by omega) (hrec := ih) h
    | w + 6, h => exact khX6_readChoice (hd := by omega) (hrec := ih) h
theorem dX6_readLaw_0 : decode cX6_readLaw 0 = .ok (.aload_n 0, 1) := by decide +kernel
theorem dX6_readLaw_1 : decode cX6_readLaw 1 = .ok (.dup, 1) := by decide +kernel
theorem dX6_readLaw_2 : decode cX6_readLaw 2 = .ok (.getfield 30, 3) := by decide +kernel
theorem dX6_readLaw_5 : decode cX6_readLaw 5 = .ok (.iconst 1, 1) := by decide +kernel
theorem dX6_readLaw_6 : decode cX6_readLaw 6 = .ok (.iadd, 1) := by decide +kernel
theorem dX6_readLaw_7 : decode cX6_readLaw 7 = .ok (.putfield 30, 3) := by decide +kernel
theorem dX6_readLaw_10 : decode cX6_readLaw 10 = .ok (.aload_n 0, 1) := by decide +kernel
theorem dX6_readLaw_11 : decode cX6_readLaw 11 = .ok (.bipush 58, 2) := by decide +kernel
theorem dX6_readLaw_13 : decode cX6_readLaw 13 = .ok (.invokevirtual 39, 3) := by decide +kernel
theorem dX6_readLaw_16 : decode cX6_readLaw 16 = .ok (.aload_n 0, 1) := by decide +kernel
theorem dX6_readLaw_17 : decode cX6_readLaw 17 = .ok (.iload_n 1, 1) := by decide +kernel
theorem dX6_readLaw_18 : decode cX6_readLaw 18 = .ok (.putfield 108, 3) := by decide +kernel
theorem dX6_readLaw_21 : decode cX6_readLaw 21 = .ok (.aload_n 0, 1) := by decide +kernel
theorem dX6_readLaw_22 : decode cX6_readLaw 22 = .ok (.iconst 0, 1) := by decide +kernel
theorem dX6_readLaw_23 : decode cX6_readLaw 23 = .ok (.putfield 111, 3) := by decide +kernel
theorem dX6_readLaw_26 : decode cX6_readLaw 26 = .ok (.aload_n 0, 1) := by decide +kernel
theorem dX6_readLaw_27 : decode cX6_readLaw 27 = .ok (.iconst 0, 1) := by decide +kernel
theorem dX6_readLaw_28 : decode cX6_readLaw 28 = .ok (.putfield 114, 3) := by decide +kernel
theorem dX6_readLaw_31 : decode cX6_readLaw 31 = .ok (.iload_n 1, 1) := by decide +kernel
theorem dX6_readLaw_32 : decode cX6_readLaw 32 = .ok (.bipush 32, 2) := by decide +kernel
theorem dX6_readLaw_34 : decode cX6_readLaw 34 = .ok (.if_icmp .ne 11, 3) := by decide +kernel
theorem dX6_readLaw_37 : decode cX6_readLaw 37 = .ok (.aload_n 0, 1) := by decide +kernel
theorem dX6_readLaw_38 : decode cX6_readLaw 38 = .ok (.iconst 0, 1) := by decide +kernel
theorem dX6_readLaw_39 : decode cX6_readLaw 39 = .ok (.invokevirtual 117, 3) := by decide +kernel
theorem dX6_readLaw_42 : decode cX6_readLaw 42 = .ok (.goto 8, 3) := by decide +kernel
theorem dX6_readLaw_45 : decode cX6_readLaw 45 = .ok (.aload_n 0, 1) := by decide +kernel
theorem dX6_readLaw_46 : decode cX6_readLaw 46 = .ok (.iconst 0, 1) := by decide +kernel
theorem dX6_readLaw_47 : decode cX6_readLaw 47 = .ok (.invokevirtual 120, 3) := by decide +kernel
theorem dX6_readLaw_50 : decode cX6_readLaw 50 = .ok (.new 123, 3) := by decide +kernel
theorem dX6_readLaw_53 : decode cX6_readLaw 53 = .ok (.dup, 1) := by decide +kernel
theorem dX6_readLaw_54 : decode cX6_readLaw 54 = .ok (.aload_n 0, 1) := by decide +kernel
theorem dX6_readLaw_55 : decode cX6_readLaw 55 = .ok (.getfield 22, 3) := by decide +kernel
theorem dX6_readLaw_58 : decode cX6_readLaw 58 = .ok (.aload_n 0, 1) := by decide +kernel
theorem dX6_readLaw_59 : decode cX6_readLaw 59 = .ok (.getfield 114, 3) := by decide +kernel
theorem dX6_readLaw_62 : decode cX6_readLaw 62 = .ok (.invokestatic 125, 3) := by decide +kernel
theorem dX6_readLaw_65 : decode cX6_readLaw 65 = .ok (.aload_n 0, 1) := by decide +kernel
theorem dX6_readLaw_66 : decode cX6_readLaw 66 = .ok (.getfield 111, 3) := by decide +kernel
theorem dX6_readLaw_69 : decode cX6_readLaw 69 = .ok (.invokespecial 131, 3) := by decide +kernel
theorem dX6_readLaw_72 : decode cX6_readLaw 72 = .ok (.areturn, 1) := by decide +kernel
theorem wX6_readLaw : Mw yX6_readLaw cX6_readLaw 2 (some (.object "EyeTrainer$Law")) 1 := ⟨q_681, q_121, by decide, ⟨by decide +kernel, by decide +kernel⟩, by decide +kernel, by decide +kernel⟩
def jX6_readLaw_65 (T : Sh) (M : Me) (x0 : Nat) (s0 : Nat) (s1 : Nat) (s2 : Nat) : Option (Nat × Sh × Me) :=
  gd (kd T x0 = 5) <| Option.bind (fX4_init T M s1 s0 (gI M x0 7)) <| un2 fun _u M15 => some (s2, T, M15)
theorem mjX6_readLaw_65 {T : Sh} {M : Me} {x0 : Nat} {s0 : Nat} {s1 : Nat} {s2 : Nat} {r : Nat} {T' : Sh} {M' : Me} (h : jX6_readLaw_65 T M x0 s0 s1 s2 = some (r, T', M')) : leT T T' := by
  unfold jX6_readLaw_65 at h
  replace h := gd_some h; obtain ⟨hk14, h⟩ := h
  replace h := bnd2 h; obtain ⟨_u, M15, h1, h⟩ := h
  replace h := Prod.mk.inj (Option.some.inj h); obtain ⟨rfl, h⟩ := h; replace h := Prod.mk.inj h; obtain ⟨rfl, rfl⟩ := h
  exact leT.rfl
set_option maxHeartbeats 4000000 in
theorem tjX6_readLaw_65 {X : Fx} {B : Bx} {Z : Nat × Nat × Nat × Nat} {d : Nat} {T : Sh} {M : Me} {x0 : Nat} {s0 : Nat} {s1 : Nat} {s2 : Nat} {r : Nat} {T' : Sh} {M' : Me} (C : Cx X B cX6_readLaw 2 RX6 d Z) (hR : Rx X (some (.object "EyeTrainer$Law"))) (hd : 104 ≤ d) (hZ : leZ T' Z) (h : jX6_readLaw_65 T M x0 s0 s1 s2 = some (r, T', M')) : G X B 2 Z (Qf X B Z (some (.ref r)) T' M') 65 [(0, .ref (x0))] [.ref (s0), .ref (s1), .ref (s2)] T M := by
  unfold jX6_readLaw_65 at h
  refine g_aload_n (pc := 65) C dX6_readLaw_65 rfl 0 rfl ?_
  replace h := gd_some h; obtain ⟨hk14, h⟩ := h
  refine g_get (pc := 66) (v := .int (gI M x0 7)) C dX6_readLaw_66 kX6 hk14 7 (by decide) q_189 rfl ?_
  replace h := bnd2 h; obtain ⟨_u, M15, h1, h⟩ := h
  refine g_callIv (pc := 69) (As := [.ref (s0), .int (gI M x0 7)]) (st := [.ref (s2)]) C dX6_readLaw_69 wX4_init q_739 rfl rfl q_738 (by omega) rfl (Nat.le_of_ble_eq_true rfl) (kX4_init (d := 1) (Nat.le_refl _) h1) ?_
  replace h := Prod.mk.inj (Option.some.inj h); obtain ⟨rfl, h⟩ := h; replace h := Prod.mk.inj h; obtain ⟨rfl, rfl⟩ := h
  exact g_aret (x := some s2) C hR (Or.inl ⟨_, rfl⟩) dX6_readLaw_72
def jX6_readLaw_53 (T : Sh) (M : Me) (x0 : Nat) (s0 : Nat) : Option (Nat × Sh × Me) :=
  gd (kd T x0 = 5) <| Option.bind (gR M x0 4) fun a10 => Option.bind (fJ7_copyOf_59c91 T M a10 (gI M x0 5)) <| un3 fun r11 T13 M12 => jX6_readLaw_65 T13 M12 x0 r11 s0 s0
theorem mjX6_readLaw_53 {T : Sh} {M : Me} {x0 : Nat} {s0 : Nat} {r : Nat} {T' : Sh} {M' : Me} (h : jX6_readLaw_53 T M x0 s0 = some (r, T', M')) : leT T T' := by
  unfold jX6_readLaw_53 at h
  replace h := gd_some h; obtain ⟨hk9, h⟩ := h
  replace h := bnd h; obtain ⟨a10, ea10, h⟩ := h
  replace h := bnd3 h; obtain ⟨r11, T13, M12, h1, h⟩ := h
  have hmT13 := mJ7_copyOf_59c91 h1
  exact (leT.rfl.trans hmT13).trans (mjX6_readLaw_65 h)
set_option maxHeartbeats 4000000 in
theorem tjX6_readLaw_53 {X : Fx} {B : Bx} {Z : Nat × Nat × Nat × Nat} {d : Nat} {T : Sh} {M : Me} {x0 : Nat} {s0 : Nat} {r : Nat} {T' : Sh} {M' : Me} (C : Cx X B cX6_readLaw 2 RX6 d Z) (hR : Rx X (some (.object "EyeTrainer$Law"))) (hd : 104 ≤ d) (hZ : leZ T' Z) (h : jX6_readLaw_53 T M x0 s0 = some (r, T', M')) : G X B 2 Z (Qf X B Z (some (.ref r)) T' M') 53 [(0, .ref (x0))] [.ref (s0)] T M := by
  unfold jX6_readLaw_53 at h
  refine g_dup (pc := 53) C dX6_readLaw_53 rfl ?_
  refine g_aload_n (pc := 54) C dX6_readLaw_54 rfl 0 rfl ?_
  replace h := gd_some h; obtain ⟨hk9, h⟩ := h
  refine g_get (pc := 55) (v := va_rf (gR M x0 4)) C dX6_readLaw_55 kX6 hk9 4 (by decide) q_186 rfl ?_
  replace h := bnd h; obtain ⟨a10, ea10, h⟩ := h
  refine g_refq ea10 ?_
  refine g_aload_n (pc := 58) C dX6_readLaw_58 rfl 0 rfl ?_
  refine g_get (pc := 59) (v := .int (gI M x0 5)) C dX6_readLaw_59 kX6 hk9 5 (by decide) q_187 rfl ?_
  replace h := bnd3 h; obtain ⟨r11, T13, M12, h1, h⟩ := h
  have hzT13 := (mjX6_readLaw_65 h).Z hZ
  refine g_callSrA (pc := 62) (As := [.ref (a10), .int (gI M x0 5)]) (st := [.ref (s0), .ref (s0)]) C dX6_readLaw_62 wJ7_copyOf_59c91 q_725 q_724 (by omega) rfl (Nat.le_of_ble_eq_true rfl) (kJ7_copyOf_59c91 (d := 2) (Nat.le_refl _) h1) hzT13 ?_
  exact g_sub [0] rfl (tjX6_readLaw_65 C hR hd hZ h)
/-- EyeTrainer$Reader.readLaw(I)LEyeTrainer$Law; -/
def fX6_readLaw (T : Sh) (M : Me) (x0 : Nat) (x1 : Int32) : Option (Nat × Sh × Me) :=
  gd (kd T x0 = 5) <| lt (pI M x0 1 ((gI M x0 1) + (1 : Int32))) fun M2 => Option.bind (fX6_expect T M2 x0 (58 : Int32)) <| un2 fun _u M3 => lt (pI M3 x0 6 x1) fun M4 => lt (pI M4 x0 7 (0 : Int32)) fun M5 => lt (pI M5 x0 5 (0 : Int32)) fun M6 => if x1 = (32 : Int32) then (Option.bind (fG6 100 3 T M6 x0 (0 : Int32)) <| un2 fun _u M16 => jX6_readLaw_53 (nT T 3 0 2) (nM T M16) x0 (tp T)) else (Option.bind (fG6 100 0 T M6 x0 (0 : Int32)) <| un2 fun _u M8 => jX6_readLaw_53 (nT T 3 0 2) (nM T M8) x0 (tp T))
theorem mX6_readLaw {T : Sh} {M : Me} {x0 : Nat} {x1 : Int32} {r : Nat} {T' : Sh} {M' : Me} (h : fX6_readLaw T M x0 x1 = some (r, T', M')) : leT T T' := by
  unfold fX6_readLaw at h
  replace h := gd_some h; obtain ⟨hk1, h⟩ := h
  obtain ⟨M2, eM2⟩ : ∃ y : Me, y = pI M x0 1 ((gI M x0 1) + (1 : Int32)) := ⟨_, rfl⟩
  replace h := lt_at eM2 h
  replace h := bnd2 h; obtain ⟨_u, M3, h1, h⟩ := h
  obtain ⟨M4, eM4⟩ : ∃ y : Me, y = pI M3 x0 6 x1 := ⟨_, rfl⟩
  replace h := lt_at eM4 h
  obtain ⟨M5, eM5⟩ : ∃ y : Me, y = pI M4 x0 7 (0 : Int32) := ⟨_, rfl⟩
  replace h := lt_at eM5 h
  obtain ⟨M6, eM6⟩ : ∃ y : Me, y = pI M5 x0 5 (0 : Int32) := ⟨_, rfl⟩
  replace h := lt_at eM6 h
  by_cases c7 : x1 = (32 : Int32)
  · replace h := ifp c7 h
    replace h := bnd2 h; obtain ⟨_u, M16, h1, h⟩ := h
    exact (leT.rfl.trans (leT.new _ _ _ _)).trans (mjX6_readLaw_53 h)
  · replace h := ifn c7 h
    replace h := bnd2 h; obtain ⟨_u, M8, h1, h⟩ := h
    exact (leT.rfl.trans (leT.new _ _ _ _)).trans (mjX6_readLaw_53 h)
set_option maxHeartbeats 4000000 in
theorem kX6_readLaw {l : Launch} {B : Bx} {d : Nat} (hd : 104 ≤ d) {T : Sh} {M : Me} {x0 : Nat} {x1 : Int32} {r : Nat} {T' : Sh} {M' : Me} (h : fX6_readLaw T M x0 x1 = some (r, T', M')) : Kt l B yX6_readLaw cX6_readLaw 2 (some (.object "EyeTrainer$Law")) d [.ref (x0), .int (x1)] T M (some (.ref r)) T' M' := by
  have hmm := mX6_readLaw h
  refine kt_of wX6_readLaw hmm.1 hmm.2 (Nat.le_of_ble_eq_true rfl) (fun X C hR hlx hin => ?_)
  subst hlx
  replace C : Cx X B cX6_readLaw 2 RX6 d (tp T, sl T, tp T', sl T') := C
  have hZ : leZ T' (tp T, sl T, tp T', sl T') := ⟨Nat.le_refl _, Nat.le_refl _⟩
  unfold fX6_readLaw at h
  show G X B 2 _ _ 0 [(0, .ref (x0)), (1, .int (x1))] [] T M
  refine g_aload_n (pc := 0) C dX6_readLaw_0 rfl 0 rfl ?_
  refine g_dup (pc := 1) C dX6_readLaw_1 rfl ?_
  replace h := gd_some h; obtain ⟨hk1, h⟩ := h
  refine g_get (pc := 2) (v := .int (gI M x0 1)) C dX6_readLaw_2 kX6 hk1 1 (by decide) q_181 rfl ?_
  refine g_iconst (pc := 5) (v := 1) C dX6_readLaw_5 (by decide) ?_
  refine g_iadd (pc := 6) C dX6_readLaw_6 ?_
  refine g_putI (pc := 7) C dX6_readLaw_7 kX6 hk1 1 (by decide) rfl rfl rfl q_181 ?_
  refine g_mem (fun M2 eM2 => ?_)
  replace h := lt_at eM2 h
  refine g_aload_n (pc := 10) C dX6_readLaw_10 rfl 0 rfl ?_
  refine g_bipush (pc := 11) (v := 58) C dX6_readLaw_11 (by decide) ?_
  replace h := bnd2 h; obtain ⟨_u, M3, h1, h⟩ := h
  refine g_callVv (pc := 13) (As := [.int ((58 : Int32))]) (st := []) C dX6_readLaw_13 wX6_expect hk1 rfl (by decide) q_652 q_2 q_650 (by omega) rfl (Nat.le_of_ble_eq_true rfl) (kX6_expect (d := 2) (Nat.le_refl _) h1) ?_
  refine g_aload_n (pc := 16) C dX6_readLaw_16 rfl 0 rfl ?_
  refine g_iload_n (pc := 17) C dX6_readLaw_17 rfl 1 rfl ?_
  refine g_putI (pc := 18) C dX6_readLaw_18 kX6 hk1 6 (by decide) rfl rfl rfl q_188 ?_
  refine g_mem (fun M4 eM4 => ?_)
  replace h := lt_at eM4 h
  refine g_aload_n (pc := 21) C dX6_readLaw_21 rfl 0 rfl ?_
  refine g_iconst (pc := 22) (v := 0) C dX6_readLaw_22 (by decide) ?_
  refine g_putI (pc := 23) C dX6_readLaw_23 kX6 hk1 7 (by decide) rfl rfl rfl q_189 ?_
  refine g_mem (fun M5 eM5 => ?_)
  replace h := lt_at eM5 h
  refine g_aload_n (pc := 26) C dX6_readLaw_26 rfl 0 rfl ?_
  refine g_iconst (pc := 27) (v := 0) C dX6_readLaw_27 (by decide) ?_
  refine g_putI (pc := 28) C dX6_readLaw_28 kX6 hk1 5 (by decide) rfl rfl rfl q_187 ?_
  refine g_mem (fun M6 eM6 => ?_)
  replace h := lt_at eM6 h
  refine g_iload_n (pc := 31) C dX6_readLaw_31 rfl 1 rfl ?_
  refine g_bipush (pc := 32) (v := 32) C dX6_readLaw_32 (by decide) ?_
  refine g_icmp_ne (pc := 34) (tgt := 45) C dX6_readLaw_34 (by decide) (fun c7 => ?_) (fun c7 => ?_)
  · replace h := ifn c7 h
    refine g_aload_n (pc := 45) C dX6_readLaw_45 rfl 0 rfl ?_
    refine g_iconst (pc := 46) (v := 0) C dX6_readLaw_46 (by decide) ?_
    replace h := bnd2 h; obtain ⟨_u, M8, h1, h⟩ := h
    refine g_callVv (pc := 47) (As := [.int ((0 : Int32))]) (st := []) C dX6_readLaw_47 wX6_readTruth hk1 rfl (by decide) q_708 q_16 q_706 (by omega) rfl (Nat.le_of_ble_eq_true rfl) (kG6 100 0 _ _ _ _ _ h1) ?_
    have hz := leZ_new ((mjX6_readLaw_53 h).Z hZ)
    refine g_new (pc := 50) C dX6_readLaw_50 kX4 hdvX4 q_722 q_723 q_137 hz.1 hz.2 ?_
    exact g_sub [0] rfl (tjX6_readLaw_53 C hR hd hZ h)
  · replace h := ifp c7 h
    refine g_aload_n (pc := 37) C dX6_readLaw_37 rfl 0 rfl ?_
    refine g_iconst (pc := 38) (v := 0) C dX6_readLaw_38 (by decide) ?_
    replace h := bnd2 h; obtain ⟨_u, M16, h1, h⟩ := h
    refine g_callVv (pc := 39) (As := [.int ((0 : Int32))]) (st := []) C dX6_readLaw_39 wX6_readSum hk1 rfl (by decide) q_684 q_10 q_682 (by omega) rfl (Nat.le_of_ble_eq_true rfl) (kG6 100 3 _ _ _ _ _ h1) ?_
    refine g_goto (pc := 42) (tgt := 50) C dX6_readLaw_42 (by decide) ?_
    have hz := leZ_new ((mjX6_readLaw_53 h).Z hZ)
    refine g_new (pc := 50) C dX6_readLaw_50 kX4 hdvX4 q_722 q_723 q_137 hz.1 hz.2 ?_
    exact g_sub [0] rfl (tjX6_readLaw_53 C hR hd hZ h)
