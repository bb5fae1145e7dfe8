set_option maxRecDepth 20000 in
theorem q_26 : Cond.selects RX11 yX11_trainedPoint yX11_trainedPoint ∈ lw_gd := mem_gd (List.mem_of_getElem? (i := 26) (by decide +kernel)) rfl
set_option maxRecDepth 20000 in
theorem q_33 : Cond.selects RX11 yX11_passingLanes yX11_passingLanes ∈ lw_gd := mem_gd (List.mem_of_getElem? (i := 33) (by decide +kernel)) rfl
set_option maxRecDepth 20000 in
theorem q_34 : Cond.selects RX11 yX11_followAll yX11_followAll ∈ lw_gd := mem_gd (List.mem_of_getElem? (i := 34) (by decide +kernel)) rfl
set_option maxRecDepth 20000 in
theorem q_35 : Cond.selects RX11 yX11_noPatternToUse yX11_noPatternToUse ∈ lw_gd := mem_gd (List.mem_of_getElem? (i := 35) (by decide +kernel)) rfl
set_option maxRecDepth 20000 in
theorem q_37 : Cond.selects RX11 yX11_doDeed yX11_doDeed ∈ lw_gd := mem_gd (List.mem_of_getElem? (i := 37) (by decide +kernel)) rfl
set_option maxRecDepth 20000 in
theorem q_48 : Cond.selects RX11 yX11_agrees yX11_agrees ∈ lw_gd := mem_gd (List.mem_of_getElem? (i := 48) (by decide +kernel)) rfl
set_option maxRecDepth 20000 in
theorem q_51 : Cond.selects RX11 yX11_drawLot yX11_drawLot ∈ lw_gd := mem_gd (List.mem_of_getElem? (i := 51) (by decide +kernel)) rfl
set_option maxRecDepth 20000 in
theorem q_396 : Cond.fieldLink RX11 199 "EyeTrainer$Tray" "numbers" "[J" ∈ lw_gd := mem_gd (List.mem_of_getElem? (i := 396) (by decide +kernel)) rfl
set_option maxRecDepth 20000 in
theorem q_399 : Cond.fieldLink RX11 196 "EyeTrainer$Tray" "size" "I" ∈ lw_gd := mem_gd (List.mem_of_getElem? (i := 399) (by decide +kernel)) rfl
set_option maxRecDepth 20000 in
theorem q_433 : Cond.fieldLink RX11 55 "EyeTrainer" "trays" "[LEyeTrainer$Tray;" ∈ lw_gd := mem_gd (List.mem_of_getElem? (i := 433) (by decide +kernel)) rfl
set_option maxRecDepth 20000 in
theorem q_435 : Cond.fieldLink RX11 67 "EyeTrainer" "byDelay" "[I" ∈ lw_gd := mem_gd (List.mem_of_getElem? (i := 435) (by decide +kernel)) rfl
set_option maxRecDepth 20000 in
theorem q_436 : Cond.fieldLink RX11 71 "EyeTrainer" "nextByDelay" "[I" ∈ lw_gd := mem_gd (List.mem_of_getElem? (i := 436) (by decide +kernel)) rfl
set_option maxRecDepth 20000 in
theorem q_437 : Cond.fieldLink RX11 74 "EyeTrainer" "patternRows" "[I" ∈ lw_gd := mem_gd (List.mem_of_getElem? (i := 437) (by decide +kernel)) rfl
set_option maxRecDepth 20000 in
theorem q_822 : Cond.methodLink RX11 144 yX11_noCell ∈ lw_gd := mem_gd (List.mem_of_getElem? (i := 822) (by decide +kernel)) rfl
set_option maxRecDepth 20000 in
theorem q_823 : Cond.static yX11_noCell ∈ lw_gd := mem_gd (List.mem_of_getElem? (i := 823) (by decide +kernel)) rfl
set_option maxRecDepth 20000 in
theorem q_857 : Cond.methodLink RX11 161 yX11_trainedPoint ∈ lw_gd := mem_gd (List.mem_of_getElem? (i := 857) (by decide +kernel)) rfl
set_option maxRecDepth 20000 in
theorem q_859 : Cond.instanceMethod yX11_trainedPoint ∈ lw_gd := mem_gd (List.mem_of_getElem? (i := 859) (by decide +kernel)) rfl
set_option maxRecDepth 20000 in
theorem q_919 : Cond.methodLink RX11 164 yX11_passingLanes ∈ lw_gd := mem_gd (List.mem_of_getElem? (i := 919) (by decide +kernel)) rfl
set_option maxRecDepth 20000 in
theorem q_921 : Cond.instanceMethod yX11_passingLanes ∈ lw_gd := mem_gd (List.mem_of_getElem? (i := 921) (by decide +kernel)) rfl
set_option maxRecDepth 20000 in
theorem q_928 : Cond.methodLink RX11 173 yX11_followAll ∈ lw_gd := mem_gd (List.mem_of_getElem? (i := 928) (by decide +kernel)) rfl
set_option maxRecDepth 20000 in
theorem q_930 : Cond.instanceMethod yX11_followAll ∈ lw_gd := mem_gd (List.mem_of_getElem? (i := 930) (by decide +kernel)) rfl
set_option maxRecDepth 20000 in
theorem q_939 : Cond.methodLink RX11 176 yX11_noPatternToUse ∈ lw_gd := mem_gd (List.mem_of_getElem? (i := 939) (by decide +kernel)) rfl
set_option maxRecDepth 20000 in
theorem q_941 : Cond.instanceMethod yX11_noPatternToUse ∈ lw_gd := mem_gd (List.mem_of_getElem? (i := 941) (by decide +kernel)) rfl
set_option maxRecDepth 20000 in
theorem q_951 : Cond.methodLink RX11 185 yX11_noTray ∈ lw_gd := mem_gd (List.mem_of_getElem? (i := 951) (by decide +kernel)) rfl
set_option maxRecDepth 20000 in
theorem q_952 : Cond.static yX11_noTray ∈ lw_gd := mem_gd (List.mem_of_getElem? (i := 952) (by decide +kernel)) rfl
set_option maxRecDepth 20000 in
theorem q_954 : Cond.methodLink RX11 188 yX10_isMissing ∈ lw_gd := mem_gd (List.mem_of_getElem? (i := 954) (by decide +kernel)) rfl
set_option maxRecDepth 20000 in
theorem q_955 : Cond.instanceMethod yX10_isMissing ∈ lw_gd := mem_gd (List.mem_of_getElem? (i := 955) (by decide +kernel)) rfl
set_option maxRecDepth 20000 in
theorem q_956 : Cond.selects RX10 yX10_isMissing yX10_isMissing ∈ lw_gd := mem_gd (List.mem_of_getElem? (i := 956) (by decide +kernel)) rfl
set_option maxRecDepth 20000 in
theorem q_961 : Cond.code yX11_doDeeds cX11_doDeeds 3 (some .int) ∈ lw_gd := mem_gd (List.mem_of_getElem? (i := 961) (by decide +kernel)) rfl
set_option maxRecDepth 20000 in
theorem q_962 : Cond.methodLink RX11 203 yX11_doDeed ∈ lw_gd := mem_gd (List.mem_of_getElem? (i := 962) (by decide +kernel)) rfl
set_option maxRecDepth 20000 in
theorem q_964 : Cond.instanceMethod yX11_doDeed ∈ lw_gd := mem_gd (List.mem_of_getElem? (i := 964) (by decide +kernel)) rfl
set_option maxRecDepth 20000 in
theorem q_965 : Cond.code yX11_doDeed cX11_doDeed 5 (some .int) ∈ lw_gd := mem_gd (List.mem_of_getElem? (i := 965) (by decide +kernel)) rfl
set_option maxRecDepth 20000 in
theorem q_966 : Cond.constantLong RX11 362 (10) ∈ lw_gd := mem_gd (List.mem_of_getElem? (i := 966) (by decide +kernel)) rfl
set_option maxRecDepth 20000 in
theorem q_967 : Cond.constantLong RX11 364 (14) ∈ lw_gd := mem_gd (List.mem_of_getElem? (i := 967) (by decide +kernel)) rfl
set_option maxRecDepth 20000 in
theorem q_968 : Cond.constantLong RX11 366 (100) ∈ lw_gd := mem_gd (List.mem_of_getElem? (i := 968) (by decide +kernel)) rfl
set_option maxRecDepth 20000 in
theorem q_969 : Cond.constantLong RX11 368 (199) ∈ lw_gd := mem_gd (List.mem_of_getElem? (i := 969) (by decide +kernel)) rfl
set_option maxRecDepth 20000 in
theorem q_970 : Cond.constantLong RX11 370 (10000) ∈ lw_gd := mem_gd (List.mem_of_getElem? (i := 970) (by decide +kernel)) rfl
set_option maxRecDepth 20000 in
theorem q_971 : Cond.constantLong RX11 372 (15999) ∈ lw_gd := mem_gd (List.mem_of_getElem? (i := 971) (by decide +kernel)) rfl
set_option maxRecDepth 20000 in
theorem q_975 : Cond.code yX11_judged cX11_judged 6 (some .int) ∈ lw_gd := mem_gd (List.mem_of_getElem? (i := 975) (by decide +kernel)) rfl
set_option maxRecDepth 20000 in
theorem q_1055 : Cond.methodLink RX11 275 yJ9_max_7cf53 ∈ lw_gd := mem_gd (List.mem_of_getElem? (i := 1055) (by decide +kernel)) rfl
set_option maxRecDepth 20000 in
theorem q_1060 : Cond.constant RX11 280 (16777215) ∈ lw_gd := mem_gd (List.mem_of_getElem? (i := 1060) (by decide +kernel)) rfl
set_option maxRecDepth 20000 in
theorem q_1074 : Cond.code yX11_tellingSets cX11_tellingSets 10 (some .int) ∈ lw_gd := mem_gd (List.mem_of_getElem? (i := 1074) (by decide +kernel)) rfl
set_option maxRecDepth 20000 in
theorem q_1142 : Cond.code yX11_unseen cX11_unseen 5 (some .int) ∈ lw_gd := mem_gd (List.mem_of_getElem? (i := 1142) (by decide +kernel)) rfl
set_option maxRecDepth 20000 in
theorem q_1143 : Cond.constantLong RX11 374 (767) ∈ lw_gd := mem_gd (List.mem_of_getElem? (i := 1143) (by decide +kernel)) rfl
set_option maxRecDepth 20000 in
theorem q_1147 : Cond.code yX11_seenDrifts cX11_seenDrifts 5 (some .int) ∈ lw_gd := mem_gd (List.mem_of_getElem? (i := 1147) (by decide +kernel)) rfl
set_option maxRecDepth 20000 in
theorem q_1148 : Cond.methodLink RX11 376 yX11_agrees ∈ lw_gd := mem_gd (List.mem_of_getElem? (i := 1148) (by decide +kernel)) rfl
set_option maxRecDepth 20000 in
theorem q_1150 : Cond.instanceMethod yX11_agrees ∈ lw_gd := mem_gd (List.mem_of_getElem? (i := 1150) (by decide +kernel)) rfl
set_option maxRecDepth 20000 in
theorem q_1151 : Cond.code yX11_agrees cX11_agrees 8 (some .boolean) ∈ lw_gd := mem_gd (List.mem_of_getElem? (i := 1151) (by decide +kernel)) rfl
set_option maxRecDepth 20000 in
theorem q_1159 : Cond.code yX11_countPassing cX11_countPassing 7 none ∈ lw_gd := mem_gd (List.mem_of_getElem? (i := 1159) (by decide +kernel)) rfl
set_option maxRecDepth 20000 in
theorem q_1160 : Cond.methodLink RX11 380 yJ7_fill_53178 ∈ lw_gd := mem_gd (List.mem_of_getElem? (i := 1160) (by decide +kernel)) rfl
set_option maxRecDepth 20000 in
theorem q_1168 : Cond.code yX11_passingLots cX11_passingLots 6 (some .int) ∈ lw_gd := mem_gd (List.mem_of_getElem? (i := 1168) (by decide +kernel)) rfl
set_option maxRecDepth 20000 in
theorem q_1169 : Cond.methodLink RX11 386 yX11_drawLot ∈ lw_gd := mem_gd (List.mem_of_getElem? (i := 1169) (by decide +kernel)) rfl
set_option maxRecDepth 20000 in
theorem q_1171 : Cond.instanceMethod yX11_drawLot ∈ lw_gd := mem_gd (List.mem_of_getElem? (i := 1171) (by decide +kernel)) rfl
set_option maxRecDepth 20000 in
theorem q_1172 : Cond.code yX11_drawLot cX11_drawLot 2 none ∈ lw_gd := mem_gd (List.mem_of_getElem? (i := 1172) (by decide +kernel)) rfl
set_option maxRecDepth 20000 in
theorem q_1173 : Cond.methodLink RX11 389 yJ9_min_7cf53 ∈ lw_gd := mem_gd (List.mem_of_getElem? (i := 1173) (by decide +kernel)) rfl
set_option maxRecDepth 20000 in
theorem q_1176 : Cond.code yX11_lowestTerms cX11_lowestTerms 8 (some .int) ∈ lw_gd := mem_gd (List.mem_of_getElem? (i := 1176) (by decide +kernel)) rfl
theorem dX11_doDeed_0 : decode cX11_doDeed 0 = .ok (.lload_n 1, 1) := by decide +kernel
theorem dX11_doDeed_1 : decode cX11_doDeed 1 = .ok (.lconst 0, 1) := by decide +kernel
theorem dX11_doDeed_2 : decode cX11_doDeed 2 = .ok (.lcmp, 1) := by decide +kernel
theorem dX11_doDeed_3 : decode cX11_doDeed 3 = .ok (.ifCond .eq 9, 3) := by decide +kernel
theorem dX11_doDeed_6 : decode cX11_doDeed 6 = .ok (.lload_n 1, 1) := by decide +kernel
theorem dX11_doDeed_7 : decode cX11_doDeed 7 = .ok (.lconst 1, 1) := by decide +kernel
theorem dX11_doDeed_8 : decode cX11_doDeed 8 = .ok (.lcmp, 1) := by decide +kernel
theorem dX11_doDeed_9 : decode cX11_doDeed 9 = .ok (.ifCond .ne 28, 3) := by decide +kernel
theorem dX11_doDeed_12 : decode cX11_doDeed 12 = .ok (.aload_n 0, 1) := by decide +kernel
theorem dX11_doDeed_13 : decode cX11_doDeed 13 = .ok (.getfield 42, 3) := by decide +kernel
theorem dX11_doDeed_16 : decode cX11_doDeed 16 = .ok (.dup, 1) := by decide +kernel
theorem dX11_doDeed_17 : decode cX11_doDeed 17 = .ok (.getfield 151, 3) := by decide +kernel
theorem dX11_doDeed_20 : decode cX11_doDeed 20 = .ok (.iconst 1, 1) := by decide +kernel
theorem dX11_doDeed_21 : decode cX11_doDeed 21 = .ok (.iadd, 1) := by decide +kernel
theorem dX11_doDeed_22 : decode cX11_doDeed 22 = .ok (.putfield 151, 3) := by decide +kernel
theorem dX11_doDeed_25 : decode cX11_doDeed 25 = .ok (.lload_n 1, 1) := by decide +kernel
theorem dX11_doDeed_26 : decode cX11_doDeed 26 = .ok (.lconst 1, 1) := by decide +kernel
theorem dX11_doDeed_27 : decode cX11_doDeed 27 = .ok (.lcmp, 1) := by decide +kernel
theorem dX11_doDeed_28 : decode cX11_doDeed 28 = .ok (.ifCond .ne 7, 3) := by decide +kernel
theorem dX11_doDeed_31 : decode cX11_doDeed 31 = .ok (.aload_n 0, 1) := by decide +kernel
theorem dX11_doDeed_32 : decode cX11_doDeed 32 = .ok (.invokevirtual 173, 3) := by decide +kernel
theorem dX11_doDeed_35 : decode cX11_doDeed 35 = .ok (.iconst 0, 1) := by decide +kernel
theorem dX11_doDeed_36 : decode cX11_doDeed 36 = .ok (.ireturn, 1) := by decide +kernel
theorem dX11_doDeed_37 : decode cX11_doDeed 37 = .ok (.lload_n 1, 1) := by decide +kernel
theorem dX11_doDeed_38 : decode cX11_doDeed 38 = .ok (.ldc2_w 362, 3) := by decide +kernel
theorem dX11_doDeed_41 : decode cX11_doDeed 41 = .ok (.lcmp, 1) := by decide +kernel
theorem dX11_doDeed_42 : decode cX11_doDeed 42 = .ok (.ifCond .lt 37, 3) := by decide +kernel
theorem dX11_doDeed_45 : decode cX11_doDeed 45 = .ok (.lload_n 1, 1) := by decide +kernel
theorem dX11_doDeed_46 : decode cX11_doDeed 46 = .ok (.ldc2_w 364, 3) := by decide +kernel
theorem dX11_doDeed_49 : decode cX11_doDeed 49 = .ok (.lcmp, 1) := by decide +kernel
theorem dX11_doDeed_50 : decode cX11_doDeed 50 = .ok (.ifCond .gt 29, 3) := by decide +kernel
theorem dX11_doDeed_53 : decode cX11_doDeed 53 = .ok (.lload_n 1, 1) := by decide +kernel
theorem dX11_doDeed_54 : decode cX11_doDeed 54 = .ok (.l2i, 1) := by decide +kernel
theorem dX11_doDeed_55 : decode cX11_doDeed 55 = .ok (.bipush 11, 2) := by decide +kernel
theorem dX11_doDeed_57 : decode cX11_doDeed 57 = .ok (.isub, 1) := by decide +kernel
theorem dX11_doDeed_58 : decode cX11_doDeed 58 = .ok (.istore_n 3, 1) := by decide +kernel
theorem dX11_doDeed_59 : decode cX11_doDeed 59 = .ok (.aload_n 0, 1) := by decide +kernel
theorem dX11_doDeed_60 : decode cX11_doDeed 60 = .ok (.iload_n 3, 1) := by decide +kernel
theorem dX11_doDeed_61 : decode cX11_doDeed 61 = .ok (.invokevirtual 176, 3) := by decide +kernel
theorem dX11_doDeed_64 : decode cX11_doDeed 64 = .ok (.ifCond .eq 5, 3) := by decide +kernel
theorem dX11_doDeed_67 : decode cX11_doDeed 67 = .ok (.iconst 1, 1) := by decide +kernel
theorem dX11_doDeed_68 : decode cX11_doDeed 68 = .ok (.ireturn, 1) := by decide +kernel
theorem dX11_doDeed_69 : decode cX11_doDeed 69 = .ok (.aload_n 0, 1) := by decide +kernel
theorem dX11_doDeed_70 : decode cX11_doDeed 70 = .ok (.getfield 42, 3) := by decide +kernel
theorem dX11_doDeed_73 : decode cX11_doDeed 73 = .ok (.iload_n 3, 1) := by decide +kernel
theorem dX11_doDeed_74 : decode cX11_doDeed 74 = .ok (.putfield 179, 3) := by decide +kernel
theorem dX11_doDeed_77 : decode cX11_doDeed 77 = .ok (.iconst 0, 1) := by decide +kernel
theorem dX11_doDeed_78 : decode cX11_doDeed 78 = .ok (.ireturn, 1) := by decide +kernel
theorem dX11_doDeed_79 : decode cX11_doDeed 79 = .ok (.lload_n 1, 1) := by decide +kernel
theorem dX11_doDeed_80 : decode cX11_doDeed 80 = .ok (.ldc2_w 366, 3) := by decide +kernel
theorem dX11_doDeed_83 : decode cX11_doDeed 83 = .ok (.lcmp, 1) := by decide +kernel
theorem dX11_doDeed_84 : decode cX11_doDeed 84 = .ok (.ifCond .lt 54, 3) := by decide +kernel
theorem dX11_doDeed_87 : decode cX11_doDeed 87 = .ok (.lload_n 1, 1) := by decide +kernel
theorem dX11_doDeed_88 : decode cX11_doDeed 88 = .ok (.ldc2_w 368, 3) := by decide +kernel
theorem dX11_doDeed_91 : decode cX11_doDeed 91 = .ok (.lcmp, 1) := by decide +kernel
theorem dX11_doDeed_92 : decode cX11_doDeed 92 = .ok (.ifCond .gt 46, 3) := by decide +kernel
theorem dX11_doDeed_95 : decode cX11_doDeed 95 = .ok (.lload_n 1, 1) := by decide +kernel
theorem dX11_doDeed_96 : decode cX11_doDeed 96 = .ok (.l2i, 1) := by decide +kernel
theorem dX11_doDeed_97 : decode cX11_doDeed 97 = .ok (.bipush 100, 2) := by decide +kernel
theorem dX11_doDeed_99 : decode cX11_doDeed 99 = .ok (.isub, 1) := by decide +kernel
theorem dX11_doDeed_100 : decode cX11_doDeed 100 = .ok (.bipush 10, 2) := by decide +kernel
theorem dX11_doDeed_102 : decode cX11_doDeed 102 = .ok (.idiv, 1) := by decide +kernel
theorem dX11_doDeed_103 : decode cX11_doDeed 103 = .ok (.istore_n 3, 1) := by decide +kernel
theorem dX11_doDeed_104 : decode cX11_doDeed 104 = .ok (.aload_n 0, 1) := by decide +kernel
theorem dX11_doDeed_105 : decode cX11_doDeed 105 = .ok (.iload_n 3, 1) := by decide +kernel
theorem dX11_doDeed_106 : decode cX11_doDeed 106 = .ok (.lload_n 1, 1) := by decide +kernel
theorem dX11_doDeed_107 : decode cX11_doDeed 107 = .ok (.l2i, 1) := by decide +kernel
theorem dX11_doDeed_108 : decode cX11_doDeed 108 = .ok (.bipush 10, 2) := by decide +kernel
theorem dX11_doDeed_110 : decode cX11_doDeed 110 = .ok (.irem, 1) := by decide +kernel
theorem dX11_doDeed_111 : decode cX11_doDeed 111 = .ok (.invokevirtual 161, 3) := by decide +kernel
theorem dX11_doDeed_114 : decode cX11_doDeed 114 = .ok (.istore 4, 2) := by decide +kernel
theorem dX11_doDeed_116 : decode cX11_doDeed 116 = .ok (.iload 4, 2) := by decide +kernel
theorem dX11_doDeed_118 : decode cX11_doDeed 118 = .ok (.ifCond .ge 7, 3) := by decide +kernel
theorem dX11_doDeed_121 : decode cX11_doDeed 121 = .ok (.iload 4, 2) := by decide +kernel
theorem dX11_doDeed_123 : decode cX11_doDeed 123 = .ok (.ineg, 1) := by decide +kernel
theorem dX11_doDeed_124 : decode cX11_doDeed 124 = .ok (.ireturn, 1) := by decide +kernel
theorem dX11_doDeed_125 : decode cX11_doDeed 125 = .ok (.aload_n 0, 1) := by decide +kernel
theorem dX11_doDeed_126 : decode cX11_doDeed 126 = .ok (.getfield 42, 3) := by decide +kernel
theorem dX11_doDeed_129 : decode cX11_doDeed 129 = .ok (.getfield 127, 3) := by decide +kernel
theorem dX11_doDeed_132 : decode cX11_doDeed 132 = .ok (.iload_n 3, 1) := by decide +kernel
theorem dX11_doDeed_133 : decode cX11_doDeed 133 = .ok (.iload 4, 2) := by decide +kernel
theorem dX11_doDeed_135 : decode cX11_doDeed 135 = .ok (.iastore, 1) := by decide +kernel
theorem dX11_doDeed_136 : decode cX11_doDeed 136 = .ok (.iconst 0, 1) := by decide +kernel
theorem dX11_doDeed_137 : decode cX11_doDeed 137 = .ok (.ireturn, 1) := by decide +kernel
theorem dX11_doDeed_138 : decode cX11_doDeed 138 = .ok (.lload_n 1, 1) := by decide +kernel
theorem dX11_doDeed_139 : decode cX11_doDeed 139 = .ok (.ldc2_w 370, 3) := by decide +kernel
theorem dX11_doDeed_142 : decode cX11_doDeed 142 = .ok (.lcmp, 1) := by decide +kernel
theorem dX11_doDeed_143 : decode cX11_doDeed 143 = .ok (.ifCond .lt 61, 3) := by decide +kernel
theorem dX11_doDeed_146 : decode cX11_doDeed 146 = .ok (.lload_n 1, 1) := by decide +kernel
theorem dX11_doDeed_147 : decode cX11_doDeed 147 = .ok (.ldc2_w 372, 3) := by decide +kernel
theorem dX11_doDeed_150 : decode cX11_doDeed 150 = .ok (.lcmp, 1) := by decide +kernel
theorem dX11_doDeed_151 : decode cX11_doDeed 151 = .ok (.ifCond .gt 53, 3) := by decide +kernel
theorem dX11_doDeed_154 : decode cX11_doDeed 154 = .ok (.lload_n 1, 1) := by decide +kernel
theorem dX11_doDeed_155 : decode cX11_doDeed 155 = .ok (.l2i, 1) := by decide +kernel
theorem dX11_doDeed_156 : decode cX11_doDeed 156 = .ok (.sipush 10000, 3) := by decide +kernel
theorem dX11_doDeed_159 : decode cX11_doDeed 159 = .ok (.isub, 1) := by decide +kernel
theorem dX11_doDeed_160 : decode cX11_doDeed 160 = .ok (.sipush 1000, 3) := by decide +kernel
theorem dX11_doDeed_163 : decode cX11_doDeed 163 = .ok (.idiv, 1) := by decide +kernel
theorem dX11_doDeed_164 : decode cX11_doDeed 164 = .ok (.istore_n 3, 1) := by decide +kernel
theorem dX11_doDeed_165 : decode cX11_doDeed 165 = .ok (.lload_n 1, 1) := by decide +kernel
theorem dX11_doDeed_166 : decode cX11_doDeed 166 = .ok (.l2i, 1) := by decide +kernel
theorem dX11_doDeed_167 : decode cX11_doDeed 167 = .ok (.sipush 1000, 3) := by decide +kernel
theorem dX11_doDeed_170 : decode cX11_doDeed 170 = .ok (.irem, 1) := by decide +kernel
theorem dX11_doDeed_171 : decode cX11_doDeed 171 = .ok (.istore 4, 2) := by decide +kernel
theorem dX11_doDeed_173 : decode cX11_doDeed 173 = .ok (.aload_n 0, 1) := by decide +kernel
theorem dX11_doDeed_174 : decode cX11_doDeed 174 = .ok (.iload_n 3, 1) := by decide +kernel
theorem dX11_doDeed_175 : decode cX11_doDeed 175 = .ok (.invokevirtual 107, 3) := by decide +kernel
theorem dX11_doDeed_178 : decode cX11_doDeed 178 = .ok (.ifCond .ne 11, 3) := by decide +kernel
theorem dX11_doDeed_181 : decode cX11_doDeed 181 = .ok (.iload 4, 2) := by decide +kernel
theorem dX11_doDeed_183 : decode cX11_doDeed 183 = .ok (.invokestatic 144, 3) := by decide +kernel
theorem dX11_doDeed_186 : decode cX11_doDeed 186 = .ok (.ifCond .eq 5, 3) := by decide +kernel
theorem dX11_doDeed_189 : decode cX11_doDeed 189 = .ok (.iconst 1, 1) := by decide +kernel
theorem dX11_doDeed_190 : decode cX11_doDeed 190 = .ok (.ireturn, 1) := by decide +kernel
theorem dX11_doDeed_191 : decode cX11_doDeed 191 = .ok (.aload_n 0, 1) := by decide +kernel
theorem dX11_doDeed_192 : decode cX11_doDeed 192 = .ok (.getfield 42, 3) := by decide +kernel
theorem dX11_doDeed_195 : decode cX11_doDeed 195 = .ok (.getfield 127, 3) := by decide +kernel
theorem dX11_doDeed_198 : decode cX11_doDeed 198 = .ok (.iload_n 3, 1) := by decide +kernel
theorem dX11_doDeed_199 : decode cX11_doDeed 199 = .ok (.iload 4, 2) := by decide +kernel
theorem dX11_doDeed_201 : decode cX11_doDeed 201 = .ok (.iastore, 1) := by decide +kernel
theorem dX11_doDeed_202 : decode cX11_doDeed 202 = .ok (.iconst 0, 1) := by decide +kernel
theorem dX11_doDeed_203 : decode cX11_doDeed 203 = .ok (.ireturn, 1) := by decide +kernel
theorem dX11_doDeed_204 : decode cX11_doDeed 204 = .ok (.iconst 1, 1) := by decide +kernel
theorem dX11_doDeed_205 : decode cX11_doDeed 205 = .ok (.ireturn, 1) := by decide +kernel
theorem wX11_doDeed : Mw yX11_doDeed cX11_doDeed 5 (some .int) 1 := ⟨q_965, q_120, by decide, ⟨by decide +kernel, by decide +kernel⟩, by decide +kernel, by decide +kernel⟩
def jX11_doDeed_12 (T : Sh) (M : Me) (x0 : Nat) (x1 : Int64) : Option (Int32 × Me) :=
  gd (kd T x0 = 10) <| Option.bind (gR M x0 5) fun a3 => gd (kd T a3 = 7) <| lt (pI M a3 1 ((gI M a3 1) + (1 : Int32))) fun M5 => if (lg_cmp x1 (1 : Int64)) = 0 then (Option.bind (fX11_followAll T M5 x0) <| un2 fun _u M7 => some ((0 : Int32), M7)) else (some ((0 : Int32), M5))
set_option maxHeartbeats 4000000 in
theorem tjX11_doDeed_12 {X : Fx} {B : Bx} {Z : Nat × Nat × Nat × Nat} {d : Nat} {T : Sh} {M : Me} {x0 : Nat} {x1 : Int64} {r : Int32} {M' : Me} (C : Cx X B cX11_doDeed 5 RX11 d Z) (hR : Rx X (some .int)) (hd : 5 ≤ d) (h : jX11_doDeed_12 T M x0 x1 = some (r, M')) : G X B 5 Z (Qf X B Z (some (.int r)) T M') 12 [(0, .ref (x0)), (1, .long (x1))] [] T M := by
  unfold jX11_doDeed_12 at h
  refine g_aload_n (pc := 12) C dX11_doDeed_12 rfl 0 rfl ?_
  replace h := gd_some h; obtain ⟨hk2, h⟩ := h
  refine g_get (pc := 13) (v := va_rf (gR M x0 5)) C dX11_doDeed_13 kX11 hk2 5 (by decide) q_429 rfl ?_
  replace h := bnd h; obtain ⟨a3, ea3, h⟩ := h
  refine g_refq ea3 ?_
  refine g_dup (pc := 16) C dX11_doDeed_16 rfl ?_
  replace h := gd_some h; obtain ⟨hk4, h⟩ := h
  refine g_get (pc := 17) (v := .int (gI M a3 1)) C dX11_doDeed_17 kX8 hk4 1 (by decide) q_377 rfl ?_
  refine g_iconst (pc := 20) (v := 1) C dX11_doDeed_20 (by decide) ?_
  refine g_iadd (pc := 21) C dX11_doDeed_21 ?_
  refine g_putI (pc := 22) C dX11_doDeed_22 kX8 hk4 1 (by decide) rfl rfl rfl q_377 ?_
  refine g_mem (fun M5 eM5 => ?_)
  replace h := lt_at eM5 h
  refine g_lload_n (pc := 25) C dX11_doDeed_25 rfl 1 rfl ?_
  refine g_lconst (pc := 26) (v := 1) C dX11_doDeed_26 rfl ?_
  refine g_lcmp (pc := 27) C dX11_doDeed_27 ?_
  refine g_if_ne (pc := 28) (tgt := 35) C dX11_doDeed_28 (by decide) (fun c6 => ?_) (fun c6 => ?_)
  · replace h := ifn c6 h
    refine g_iconst (pc := 35) (v := 0) C dX11_doDeed_35 (by decide) ?_
    obtain ⟨rfl, rfl⟩ := Prod.mk.inj (Option.some.inj h)
    exact g_iret C hR dX11_doDeed_36
  · replace h := ifp c6 h
    refine g_aload_n (pc := 31) C dX11_doDeed_31 rfl 0 rfl ?_
    replace h := bnd2 h; obtain ⟨_u, M7, h1, h⟩ := h
    refine g_callVv (pc := 32) (As := []) (st := []) C dX11_doDeed_32 wX11_followAll hk2 rfl (by decide) q_930 q_34 q_928 (by omega) rfl (Nat.le_of_ble_eq_true rfl) (kX11_followAll (d := 4) (Nat.le_refl _) h1) ?_
    refine g_iconst (pc := 35) (v := 0) C dX11_doDeed_35 (by decide) ?_
    obtain ⟨rfl, rfl⟩ := Prod.mk.inj (Option.some.inj h)
    exact g_iret C hR dX11_doDeed_36
def jX11_doDeed_138 (T : Sh) (M : Me) (x0 : Nat) (x1 : Int64) : Option (Int32 × Me) :=
  if (lg_cmp x1 (10000 : Int64)) < 0 then (some ((1 : Int32), M)) else (if 0 < (lg_cmp x1 (15999 : Int64)) then (some ((1 : Int32), M)) else (lt (((Int64.toInt32 x1) - (10000 : Int32)) / (1000 : Int32)) fun v13 => lt ((Int64.toInt32 x1) - (Int64.toInt32 x1) / (1000 : Int32) * (1000 : Int32)) fun v14 => gd (kd T x0 = 10) <| Option.bind (fX11_noLane T M x0 v13) fun r16 => if r16 = 0 then (Option.bind (fX11_noCell v14) fun r18 => if r18 = 0 then (Option.bind (gR M x0 5) fun a20 => gd (kd T a20 = 7) <| Option.bind (gR M a20 0) fun a22 => gd (kd T a22 = 13) <| gv v13 (ln T a22) <| lt (pI M a22 (Int32.toNatClampNeg v13) v14) fun M25 => some ((0 : Int32), M25)) else (some ((1 : Int32), M))) else (some ((1 : Int32), M))))
set_option maxHeartbeats 4000000 in
theorem tjX11_doDeed_138 {X : Fx} {B : Bx} {Z : Nat × Nat × Nat × Nat} {d : Nat} {T : Sh} {M : Me} {x0 : Nat} {x1 : Int64} {r : Int32} {M' : Me} (C : Cx X B cX11_doDeed 5 RX11 d Z) (hR : Rx X (some .int)) (hd : 5 ≤ d) (h : jX11_doDeed_138 T M x0 x1 = some (r, M')) : G X B 5 Z (Qf X B Z (some (.int r)) T M') 138 [(0, .ref (x0)), (1, .long (x1))] [] T M := by
  unfold jX11_doDeed_138 at h
  refine g_lload_n (pc := 138) C dX11_doDeed_138 rfl 1 rfl ?_
  refine g_ldc2 (pc := 139) C dX11_doDeed_139 q_970 ?_
  refine g_lcmp (pc := 142) C dX11_doDeed_142 ?_
  refine g_if_lt (pc := 143) (tgt := 204) C dX11_doDeed_143 (by decide) (fun c11 => ?_) (fun c11 => ?_)
  · replace h := ifp c11 h
    refine g_iconst (pc := 204) (v := 1) C dX11_doDeed_204 (by decide) ?_
    obtain ⟨rfl, rfl⟩ := Prod.mk.inj (Option.some.inj h)
    exact g_iret C hR dX11_doDeed_205
  · replace h := ifn c11 h
    refine g_lload_n (pc := 146) C dX11_doDeed_146 rfl 1 rfl ?_
    refine g_ldc2 (pc := 147) C dX11_doDeed_147 q_971 ?_
    refine g_lcmp (pc := 150) C dX11_doDeed_150 ?_
    refine g_if_gt (pc := 151) (tgt := 204) C dX11_doDeed_151 (by decide) (fun c12 => ?_) (fun c12 => ?_)
    · replace h := ifp c12 h
      refine g_iconst (pc := 204) (v := 1) C dX11_doDeed_204 (by decide) ?_
      obtain ⟨rfl, rfl⟩ := Prod.mk.inj (Option.some.inj h)
      exact g_iret C hR dX11_doDeed_205
    · replace h := ifn c12 h
      refine g_lload_n (pc := 154) C dX11_doDeed_154 rfl 1 rfl ?_
      refine g_l2i (pc := 155) C dX11_doDeed_155 ?_
      refine g_sipush (pc := 156) (v := 10000) C dX11_doDeed_156 (by decide) ?_
      refine g_isub (pc := 159) C dX11_doDeed_159 ?_
      refine g_sipush (pc := 160) (v := 1000) C dX11_doDeed_160 (by decide) ?_
      refine g_idiv (pc := 163) C dX11_doDeed_163 (by decide) ?_
      refine g_topi (fun v13 ev13 => ?_)
      replace h := lt_at ev13 h
      refine g_istore_n (pc := 164) (lo2 := [(3, .int (v13)), (0, .ref (x0)), (1, .long (x1))]) C dX11_doDeed_164 rfl (by decide) rfl ?_
      refine g_lload_n (pc := 165) C dX11_doDeed_165 rfl 2 rfl ?_
      refine g_l2i (pc := 166) C dX11_doDeed_166 ?_
      refine g_sipush (pc := 167) (v := 1000) C dX11_doDeed_167 (by decide) ?_
      refine g_irem (pc := 170) C dX11_doDeed_170 (by decide) ?_
      refine g_topi (fun v14 ev14 => ?_)
      replace h := lt_at ev14 h
      refine g_istore (pc := 171) (lo2 := [(4, .int (v14)), (3, .int (v13)), (0, .ref (x0)), (1, .long (x1))]) C dX11_doDeed_171 (by decide) rfl ?_
      refine g_aload_n (pc := 173) C dX11_doDeed_173 rfl 2 rfl ?_
      refine g_iload_n (pc := 174) C dX11_doDeed_174 rfl 1 rfl ?_
      replace h := gd_some h; obtain ⟨hk15, h⟩ := h
      replace h := bnd h; obtain ⟨r16, h1, h⟩ := h
      refine g_callVi (pc := 175) (As := [.int (v13)]) (st := []) C dX11_doDeed_175 wX11_noLane hk15 rfl (by decide) q_769 q_20 q_767 (by omega) rfl (Nat.le_of_ble_eq_true rfl) (kX11_noLane (d := 0) (Nat.le_refl _) h1) ?_
      refine g_if_ne (pc := 178) (tgt := 189) C dX11_doDeed_178 (by decide) (fun c17 => ?_) (fun c17 => ?_)
      · replace h := ifn c17 h
        refine g_iconst (pc := 189) (v := 1) C dX11_doDeed_189 (by decide) ?_
        obtain ⟨rfl, rfl⟩ := Prod.mk.inj (Option.some.inj h)
        exact g_iret C hR dX11_doDeed_190
      · replace h := ifp c17 h
        refine g_iload (pc := 181) C dX11_doDeed_181 0 rfl ?_
        replace h := bnd h; obtain ⟨r18, h1, h⟩ := h
        refine g_callSi (pc := 183) (As := [.int (v14)]) (st := []) C dX11_doDeed_183 wX11_noCell q_823 q_822 (by omega) rfl (Nat.le_of_ble_eq_true rfl) (kX11_noCell (d := 0) (Nat.le_refl _) h1) ?_
        refine g_if_eq (pc := 186) (tgt := 191) C dX11_doDeed_186 (by decide) (fun c19 => ?_) (fun c19 => ?_)
        · replace h := ifp c19 h
          refine g_aload_n (pc := 191) C dX11_doDeed_191 rfl 2 rfl ?_
          refine g_get (pc := 192) (v := va_rf (gR M x0 5)) C dX11_doDeed_192 kX11 hk15 5 (by decide) q_429 rfl ?_
          replace h := bnd h; obtain ⟨a20, ea20, h⟩ := h
          refine g_refq ea20 ?_
          replace h := gd_some h; obtain ⟨hk21, h⟩ := h
          refine g_get (pc := 195) (v := va_rf (gR M a20 0)) C dX11_doDeed_195 kX8 hk21 0 (by decide) q_375 rfl ?_
          replace h := bnd h; obtain ⟨a22, ea22, h⟩ := h
          refine g_refq ea22 ?_
          refine g_iload_n (pc := 198) C dX11_doDeed_198 rfl 1 rfl ?_
          refine g_iload (pc := 199) C dX11_doDeed_199 0 rfl ?_
          replace h := gd_some h; obtain ⟨hk23, h⟩ := h
          replace h := gv_some h; obtain ⟨hi24, h⟩ := h
          refine g_iast (pc := 201) C dX11_doDeed_201 hk23 hi24 ?_
          refine g_mem (fun M25 eM25 => ?_)
          replace h := lt_at eM25 h
          refine g_iconst (pc := 202) (v := 0) C dX11_doDeed_202 (by decide) ?_
          obtain ⟨rfl, rfl⟩ := Prod.mk.inj (Option.some.inj h)
          exact g_iret C hR dX11_doDeed_203
        · replace h := ifn c19 h
          refine g_iconst (pc := 189) (v := 1) C dX11_doDeed_189 (by decide) ?_
          obtain ⟨rfl, rfl⟩ := Prod.mk.inj (Option.some.inj h)
          exact g_iret C hR dX11_doDeed_190
def jX11_doDeed_79 (T : Sh) (M : Me) (x0 : Nat) (x1 : Int64) : Option (Int32 × Me) :=
  if (lg_cmp x1 (100 : Int64)) < 0 then (jX11_doDeed_138 T M x0 x1) else (if 0 < (lg_cmp x1 (199 : Int64)) then (jX11_doDeed_138 T M x0 x1) else (lt (((Int64.toInt32 x1) - (100 : Int32)) / (10 : Int32)) fun v27 => gd (kd T x0 = 10) <| Option.bind (fX11_trainedPoint T M x0 v27 ((Int64.toInt32 x1) - (Int64.toInt32 x1) / (10 : Int32) * (10 : Int32))) <| un2 fun r29 M30 => if 0 ≤ r29 then (Option.bind (gR M30 x0 5) fun a32 => gd (kd T a32 = 7) <| Option.bind (gR M30 a32 0) fun a34 => gd (kd T a34 = 13) <| gv v27 (ln T a34) <| lt (pI M30 a34 (Int32.toNatClampNeg v27) r29) fun M37 => some ((0 : Int32), M37)) else (some ((-r29), M30))))
set_option maxHeartbeats 4000000 in
theorem tjX11_doDeed_79 {X : Fx} {B : Bx} {Z : Nat × Nat × Nat × Nat} {d : Nat} {T : Sh} {M : Me} {x0 : Nat} {x1 : Int64} {r : Int32} {M' : Me} (C : Cx X B cX11_doDeed 5 RX11 d Z) (hR : Rx X (some .int)) (hd : 5 ≤ d) (h : jX11_doDeed_79 T M x0 x1 = some (r, M')) : G X B 5 Z (Qf X B Z (some (.int r)) T M') 79 [(0, .ref (x0)), (1, .long (x1))] [] T M := by
  unfold jX11_doDeed_79 at h
  refine g_lload_n (pc := 79) C dX11_doDeed_79 rfl 1 rfl ?_
  refine g_ldc2 (pc := 80) C dX11_doDeed_80 q_968 ?_
  refine g_lcmp (pc := 83) C dX11_doDeed_83 ?_
  refine g_if_lt (pc := 84) (tgt := 138) C dX11_doDeed_84 (by decide) (fun c10 => ?_) (fun c10 => ?_)
  · replace h := ifp c10 h
    exact g_sub [0, 1] rfl (tjX11_doDeed_138 C hR hd h)
  · replace h := ifn c10 h
    refine g_lload_n (pc := 87) C dX11_doDeed_87 rfl 1 rfl ?_
    refine g_ldc2 (pc := 88) C dX11_doDeed_88 q_969 ?_
    refine g_lcmp (pc := 91) C dX11_doDeed_91 ?_
    refine g_if_gt (pc := 92) (tgt := 138) C dX11_doDeed_92 (by decide) (fun c26 => ?_) (fun c26 => ?_)
    · replace h := ifp c26 h
      exact g_sub [0, 1] rfl (tjX11_doDeed_138 C hR hd h)
    · replace h := ifn c26 h
      refine g_lload_n (pc := 95) C dX11_doDeed_95 rfl 1 rfl ?_
      refine g_l2i (pc := 96) C dX11_doDeed_96 ?_
      refine g_bipush (pc := 97) (v := 100) C dX11_doDeed_97 (by decide) ?_
      refine g_isub (pc := 99) C dX11_doDeed_99 ?_
      refine g_bipush (pc := 100) (v := 10) C dX11_doDeed_100 (by decide) ?_
      refine g_idiv (pc := 102) C dX11_doDeed_102 (by decide) ?_
      refine g_topi (fun v27 ev27 => ?_)
      replace h := lt_at ev27 h
      refine g_istore_n (pc := 103) (lo2 := [(3, .int (v27)), (0, .ref (x0)), (1, .long (x1))]) C dX11_doDeed_103 rfl (by decide) rfl ?_
      refine g_aload_n (pc := 104) C dX11_doDeed_104 rfl 1 rfl ?_
      refine g_iload_n (pc := 105) C dX11_doDeed_105 rfl 0 rfl ?_
      refine g_lload_n (pc := 106) C dX11_doDeed_106 rfl 2 rfl ?_
      refine g_l2i (pc := 107) C dX11_doDeed_107 ?_
      refine g_bipush (pc := 108) (v := 10) C dX11_doDeed_108 (by decide) ?_
      refine g_irem (pc := 110) C dX11_doDeed_110 (by decide) ?_
      replace h := gd_some h; obtain ⟨hk28, h⟩ := h
      replace h := bnd2 h; obtain ⟨r29, M30, h1, h⟩ := h
      refine g_callVi (pc := 111) (As := [.int (v27), .int ((Int64.toInt32 x1) - (Int64.toInt32 x1) / (10 : Int32) * (10 : Int32))]) (st := []) C dX11_doDeed_111 wX11_trainedPoint hk28 rfl (by decide) q_859 q_26 q_857 (by omega) rfl (Nat.le_of_ble_eq_true rfl) (kX11_trainedPoint (d := 4) (Nat.le_refl _) h1) ?_
      refine g_istore (pc := 114) (lo2 := [(4, .int (r29)), (3, .int (v27)), (0, .ref (x0)), (1, .long (x1))]) C dX11_doDeed_114 (by decide) rfl ?_
      refine g_iload (pc := 116) C dX11_doDeed_116 0 rfl ?_
      refine g_if_ge (pc := 118) (tgt := 125) C dX11_doDeed_118 (by decide) (fun c31 => ?_) (fun c31 => ?_)
      · replace h := ifp c31 h
        refine g_aload_n (pc := 125) C dX11_doDeed_125 rfl 2 rfl ?_
        refine g_get (pc := 126) (v := va_rf (gR M30 x0 5)) C dX11_doDeed_126 kX11 hk28 5 (by decide) q_429 rfl ?_
        replace h := bnd h; obtain ⟨a32, ea32, h⟩ := h
        refine g_refq ea32 ?_
        replace h := gd_some h; obtain ⟨hk33, h⟩ := h
        refine g_get (pc := 129) (v := va_rf (gR M30 a32 0)) C dX11_doDeed_129 kX8 hk33 0 (by decide) q_375 rfl ?_
        replace h := bnd h; obtain ⟨a34, ea34, h⟩ := h
        refine g_refq ea34 ?_
        refine g_iload_n (pc := 132) C dX11_doDeed_132 rfl 1 rfl ?_
        refine g_iload (pc := 133) C dX11_doDeed_133 0 rfl ?_
        replace h := gd_some h; obtain ⟨hk35, h⟩ := h
        replace h := gv_some h; obtain ⟨hi36, h⟩ := h
        refine g_iast (pc := 135) C dX11_doDeed_135 hk35 hi36 ?_
        refine g_mem (fun M37 eM37 => ?_)
        replace h := lt_at eM37 h
        refine g_iconst (pc := 136) (v := 0) C dX11_doDeed_136 (by decide) ?_
        obtain ⟨rfl, rfl⟩ := Prod.mk.inj (Option.some.inj h)
        exact g_iret C hR dX11_doDeed_137
      · replace h := ifn c31 h
        refine g_iload (pc := 121) C dX11_doDeed_121 0 rfl ?_
        refine g_ineg (pc := 123) C dX11_doDeed_123 ?_
        obtain ⟨rfl, rfl⟩ := Prod.mk.inj (Option.some.inj h)
        exact g_iret C hR dX11_doDeed_124
/-- EyeTrainer.doDeed(J)I -/
def fX11_doDeed (T : Sh) (M : Me) (x0 : Nat) (x1 : Int64) : Option (Int32 × Me) :=
  if (lg_cmp x1 (0 : Int64)) = 0 then (jX11_doDeed_12 T M x0 x1) else (if (lg_cmp x1 (1 : Int64)) = 0 then (jX11_doDeed_12 T M x0 x1) else (if (lg_cmp x1 (10 : Int64)) < 0 then (jX11_doDeed_79 T M x0 x1) else (if 0 < (lg_cmp x1 (14 : Int64)) then (jX11_doDeed_79 T M x0 x1) else (lt ((Int64.toInt32 x1) - (11 : Int32)) fun v39 => gd (kd T x0 = 10) <| Option.bind (fX11_noPatternToUse T M x0 v39) fun r41 => if r41 = 0 then (Option.bind (gR M x0 5) fun a43 => gd (kd T a43 = 7) <| lt (pI M a43 2 v39) fun M45 => some ((0 : Int32), M45)) else (some ((1 : Int32), M))))))
set_option maxHeartbeats 4000000 in
theorem kX11_doDeed {l : Launch} {B : Bx} {d : Nat} (hd : 5 ≤ d) {T : Sh} {M : Me} {x0 : Nat} {x1 : Int64} {r : Int32} {M' : Me} (h : fX11_doDeed T M x0 x1 = some (r, M')) : Kt l B yX11_doDeed cX11_doDeed 5 (some .int) d [.ref (x0), .long (x1)] T M (some (.int r)) T M' := by
  refine kt_of wX11_doDeed (Nat.le_refl _) (Nat.le_refl _) (Nat.le_of_ble_eq_true rfl) (fun X C hR hlx hin => ?_)
  subst hlx
  replace C : Cx X B cX11_doDeed 5 RX11 d (tp T, sl T, tp T, sl T) := C
  unfold fX11_doDeed at h
  show G X B 5 _ _ 0 [(0, .ref (x0)), (1, .long (x1))] [] T M
  refine g_lload_n (pc := 0) C dX11_doDeed_0 rfl 1 rfl ?_
  refine g_lconst (pc := 1) (v := 0) C dX11_doDeed_1 rfl ?_
  refine g_lcmp (pc := 2) C dX11_doDeed_2 ?_
  refine g_if_eq (pc := 3) (tgt := 12) C dX11_doDeed_3 (by decide) (fun c1 => ?_) (fun c1 => ?_)
  · replace h := ifp c1 h
    exact g_sub [0, 1] rfl (tjX11_doDeed_12 C hR hd h)
  · replace h := ifn c1 h
    refine g_lload_n (pc := 6) C dX11_doDeed_6 rfl 1 rfl ?_
    refine g_lconst (pc := 7) (v := 1) C dX11_doDeed_7 rfl ?_
    refine g_lcmp (pc := 8) C dX11_doDeed_8 ?_
    refine g_if_ne (pc := 9) (tgt := 37) C dX11_doDeed_9 (by decide) (fun c8 => ?_) (fun c8 => ?_)
    · replace h := ifn c8 h
      refine g_lload_n (pc := 37) C dX11_doDeed_37 rfl 1 rfl ?_
      refine g_ldc2 (pc := 38) C dX11_doDeed_38 q_966 ?_
      refine g_lcmp (pc := 41) C dX11_doDeed_41 ?_
      refine g_if_lt (pc := 42) (tgt := 79) C dX11_doDeed_42 (by decide) (fun c9 => ?_) (fun c9 => ?_)
      · replace h := ifp c9 h
        exact g_sub [0, 1] rfl (tjX11_doDeed_79 C hR hd h)
      · replace h := ifn c9 h
        refine g_lload_n (pc := 45) C dX11_doDeed_45 rfl 1 rfl ?_
        refine g_ldc2 (pc := 46) C dX11_doDeed_46 q_967 ?_
        refine g_lcmp (pc := 49) C dX11_doDeed_49 ?_
        refine g_if_gt (pc := 50) (tgt := 79) C dX11_doDeed_50 (by decide) (fun c38 => ?_) (fun c38 => ?_)
        · replace h := ifp c38 h
          exact g_sub [0, 1] rfl (tjX11_doDeed_79 C hR hd h)
        · replace h := ifn c38 h
          refine g_lload_n (pc := 53) C dX11_doDeed_53 rfl 1 rfl ?_
          refine g_l2i (pc := 54) C dX11_doDeed_54 ?_
          refine g_bipush (pc := 55) (v := 11) C dX11_doDeed_55 (by decide) ?_
          refine g_isub (pc := 57) C dX11_doDeed_57 ?_
          refine g_topi (fun v39 ev39 => ?_)
          replace h := lt_at ev39 h
          refine g_istore_n (pc := 58) (lo2 := [(3, .int (v39)), (0, .ref (x0)), (1, .long (x1))]) C dX11_doDeed_58 rfl (by decide) rfl ?_
          refine g_aload_n (pc := 59) C dX11_doDeed_59 rfl 1 rfl ?_
          refine g_iload_n (pc := 60) C dX11_doDeed_60 rfl 0 rfl ?_
          replace h := gd_some h; obtain ⟨hk40, h⟩ := h
          replace h := bnd h; obtain ⟨r41, h1, h⟩ := h
          refine g_callVi (pc := 61) (As := [.int (v39)]) (st := []) C dX11_doDeed_61 wX11_noPatternToUse hk40 rfl (by decide) q_941 q_35 q_939 (by omega) rfl (Nat.le_of_ble_eq_true rfl) (kX11_noPatternToUse (d := 0) (Nat.le_refl _) h1) ?_
          refine g_if_eq (pc := 64) (tgt := 69) C dX11_doDeed_64 (by decide) (fun c42 => ?_) (fun c42 => ?_)
          · replace h := ifp c42 h
            refine g_aload_n (pc := 69) C dX11_doDeed_69 rfl 1 rfl ?_
            refine g_get (pc := 70) (v := va_rf (gR M x0 5)) C dX11_doDeed_70 kX11 hk40 5 (by decide) q_429 rfl ?_
            replace h := bnd h; obtain ⟨a43, ea43, h⟩ := h
            refine g_refq ea43 ?_
            refine g_iload_n (pc := 73) C dX11_doDeed_73 rfl 0 rfl ?_
            replace h := gd_some h; obtain ⟨hk44, h⟩ := h
            refine g_putI (pc := 74) C dX11_doDeed_74 kX8 hk44 2 (by decide) rfl rfl rfl q_379 ?_
            refine g_mem (fun M45 eM45 => ?_)
            replace h := lt_at eM45 h
            refine g_iconst (pc := 77) (v := 0) C dX11_doDeed_77 (by decide) ?_
            obtain ⟨rfl, rfl⟩ := Prod.mk.inj (Option.some.inj h)
            exact g_iret C hR dX11_doDeed_78
          · replace h := ifn c42 h
            refine g_iconst (pc := 67) (v := 1) C dX11_doDeed_67 (by decide) ?_
            obtain ⟨rfl, rfl⟩ := Prod.mk.inj (Option.some.inj h)
            exact g_iret C hR dX11_doDeed_68
    · replace h := ifp c8 h
      exact g_sub [0, 1] rfl (tjX11_doDeed_12 C hR hd h)
theorem dX11_doDeeds_0 : decode cX11_doDeeds 0 = .ok (.iconst 0, 1) := by decide +kernel
theorem dX11_doDeeds_1 : decode cX11_doDeeds 1 = .ok (.istore_n 2, 1) := by decide +kernel
theorem dX11_doDeeds_2 : decode cX11_doDeeds 2 = .ok (.iload_n 2, 1) := by decide +kernel
theorem dX11_doDeeds_3 : decode cX11_doDeeds 3 = .ok (.aload_n 1, 1) := by decide +kernel
theorem dX11_doDeeds_4 : decode cX11_doDeeds 4 = .ok (.getfield 196, 3) := by decide +kernel
theorem dX11_doDeeds_7 : decode cX11_doDeeds 7 = .ok (.if_icmp .ge 24, 3) := by decide +kernel
theorem dX11_doDeeds_10 : decode cX11_doDeeds 10 = .ok (.aload_n 0, 1) := by decide +kernel
theorem dX11_doDeeds_11 : decode cX11_doDeeds 11 = .ok (.aload_n 1, 1) := by decide +kernel
theorem dX11_doDeeds_12 : decode cX11_doDeeds 12 = .ok (.getfield 199, 3) := by decide +kernel
theorem dX11_doDeeds_15 : decode cX11_doDeeds 15 = .ok (.iload_n 2, 1) := by decide +kernel
theorem dX11_doDeeds_16 : decode cX11_doDeeds 16 = .ok (.laload, 1) := by decide +kernel
theorem dX11_doDeeds_17 : decode cX11_doDeeds 17 = .ok (.invokevirtual 203, 3) := by decide +kernel
theorem dX11_doDeeds_20 : decode cX11_doDeeds 20 = .ok (.ifCond .eq 5, 3) := by decide +kernel
theorem dX11_doDeeds_23 : decode cX11_doDeeds 23 = .ok (.iload_n 2, 1) := by decide +kernel
theorem dX11_doDeeds_24 : decode cX11_doDeeds 24 = .ok (.ireturn, 1) := by decide +kernel
theorem dX11_doDeeds_25 : decode cX11_doDeeds 25 = .ok (.iinc 2 1, 3) := by decide +kernel
theorem dX11_doDeeds_28 : decode cX11_doDeeds 28 = .ok (.goto (-26), 3) := by decide +kernel
theorem dX11_doDeeds_31 : decode cX11_doDeeds 31 = .ok (.aload_n 1, 1) := by decide +kernel
theorem dX11_doDeeds_32 : decode cX11_doDeeds 32 = .ok (.getfield 196, 3) := by decide +kernel
theorem dX11_doDeeds_35 : decode cX11_doDeeds 35 = .ok (.ireturn, 1) := by decide +kernel
theorem wX11_doDeeds : Mw yX11_doDeeds cX11_doDeeds 3 (some .int) 1 := ⟨q_961, q_120, by decide, ⟨by decide +kernel, by decide +kernel⟩, by decide +kernel, by decide +kernel⟩
-- a loop of EyeTrainer.doDeeds at 2
def bX11_doDeeds_2 (T : Sh) (x0 : Nat) (x1 : Nat) (x2 : Int32) (M : Me) : Option ((Int32 × Me) ⊕ ((Int32 × Me) ⊕ Me)) :=
  gd (kd T x1 = 9) <| if (gI M x1 2) ≤ x2 then (some (.inr (.inr M))) else (Option.bind (gR M x1 0) fun a3 => gd (kd T a3 = 14) <| gv x2 (ln T a3) <| gd (kd T x0 = 10) <| Option.bind (fX11_doDeed T M x0 (gJ M a3 (Int32.toNatClampNeg x2))) <| un2 fun r7 M8 => if r7 = 0 then (lt (x2 + (1 : Int32)) fun v10 => some (.inl (v10, M8))) else (some (.inr (.inl (x2, M8)))))
def PX11_doDeeds_2 (X : Fx) (B : Bx) (Z : Nat × Nat × Nat × Nat) (Q : State → Prop) (T : Sh) (x0 : Nat) (x1 : Nat) (s : Int32 × Me) : Prop := G X B 3 Z Q 2 [(0, .ref (x0)), (1, .ref (x1)), (2, .int (s.1))] [] T s.2
def EX11_doDeeds_2 (X : Fx) (B : Bx) (Z : Nat × Nat × Nat × Nat) (Q : State → Prop) (T : Sh) (x0 : Nat) (x1 : Nat) (r : (Int32 × Me) ⊕ Me) : Prop := Sum.elim (fun r => G X B 3 Z Q 23 [(2, .int (r.1))] [] T r.2) (fun r => G X B 3 Z Q 31 [(1, .ref (x1))] [] T r) r
set_option maxHeartbeats 4000000 in
theorem tbX11_doDeeds_2 {X : Fx} {B : Bx} {Z : Nat × Nat × Nat × Nat} {Q : State → Prop} {d : Nat} {T : Sh} (C : Cx X B cX11_doDeeds 3 RX11 d Z) (hd : 6 ≤ d) {x0 : Nat} {x1 : Nat} : ∀ (s : Int32 × Me) (o : (Int32 × Me) ⊕ ((Int32 × Me) ⊕ Me)), bX11_doDeeds_2 T x0 x1 s.1 s.2 = some o → lpE (PX11_doDeeds_2 X B Z Q T x0 x1) (EX11_doDeeds_2 X B Z Q T x0 x1) o → PX11_doDeeds_2 X B Z Q T x0 x1 s := by
  rintro ⟨x2, M⟩ o h hE
  replace h : bX11_doDeeds_2 T x0 x1 x2 M = some o := h
  unfold bX11_doDeeds_2 at h
  show G X B 3 Z Q 2 [(0, .ref (x0)), (1, .ref (x1)), (2, .int (x2))] [] T M
  refine g_iload_n (pc := 2) C dX11_doDeeds_2 rfl 2 rfl ?_
  refine g_aload_n (pc := 3) C dX11_doDeeds_3 rfl 1 rfl ?_
  replace h := gd_some h; obtain ⟨hk1, h⟩ := h
  refine g_get (pc := 4) (v := .int (gI M x1 2)) C dX11_doDeeds_4 kX10 hk1 2 (by decide) q_399 rfl ?_
  refine g_icmp_ge (pc := 7) (tgt := 31) C dX11_doDeeds_7 (by decide) (fun c2 => ?_) (fun c2 => ?_)
  · replace h := ifp c2 h
    obtain rfl := Option.some.inj h
    exact g_sub [1] rfl (show G X B 3 Z Q 31 [(1, .ref (x1))] [] T M from hE)
  · replace h := ifn c2 h
    refine g_aload_n (pc := 10) C dX11_doDeeds_10 rfl 0 rfl ?_
    refine g_aload_n (pc := 11) C dX11_doDeeds_11 rfl 1 rfl ?_
    refine g_get (pc := 12) (v := va_rf (gR M x1 0)) C dX11_doDeeds_12 kX10 hk1 0 (by decide) q_396 rfl ?_
    replace h := bnd h; obtain ⟨a3, ea3, h⟩ := h
    refine g_refq ea3 ?_
    refine g_iload_n (pc := 15) C dX11_doDeeds_15 rfl 2 rfl ?_
    replace h := gd_some h; obtain ⟨hk4, h⟩ := h
    replace h := gv_some h; obtain ⟨hi5, h⟩ := h
    refine g_lald (pc := 16) C dX11_doDeeds_16 hk4 hi5 ?_
    replace h := gd_some h; obtain ⟨hk6, h⟩ := h
    replace h := bnd2 h; obtain ⟨r7, M8, h1, h⟩ := h
    refine g_callVi (pc := 17) (As := [.long (gJ M a3 (Int32.toNatClampNeg x2))]) (st := []) C dX11_doDeeds_17 wX11_doDeed hk6 rfl (by decide) q_964 q_37 q_962 (by omega) rfl (Nat.le_of_ble_eq_true rfl) (kX11_doDeed (d := 5) (Nat.le_refl _) h1) ?_
    refine g_if_eq (pc := 20) (tgt := 25) C dX11_doDeeds_20 (by decide) (fun c9 => ?_) (fun c9 => ?_)
    · replace h := ifp c9 h
      obtain ⟨v10, ev10⟩ : ∃ y : Int32, y = x2 + (1 : Int32) := ⟨_, rfl⟩
      replace h := lt_at ev10 h
      refine g_iinc (pc := 25) (v := v10) (k := 2) (lo2 := [(2, .int (v10)), (0, .ref (x0)), (1, .ref (x1))]) C dX11_doDeeds_25 rfl (by rw [ev10]; rfl) (by decide) rfl ?_
      refine g_goto (pc := 28) (tgt := 2) C dX11_doDeeds_28 (by decide) ?_
      obtain rfl := Option.some.inj h
      exact g_sub [1, 2, 0] rfl (show G X B 3 Z Q 2 [(0, .ref (x0)), (1, .ref (x1)), (2, .int (v10))] [] T M8 from hE)
    · replace h := ifn c9 h
      obtain rfl := Option.some.inj h
      exact g_sub [2] rfl (show G X B 3 Z Q 23 [(2, .int (x2))] [] T M8 from hE)
/-- EyeTrainer.doDeeds(LEyeTrainer$Tray;)I -/
def fX11_doDeeds (T : Sh) (M : Me) (x0 : Nat) (x1 : Nat) : Option (Int32 × Me) :=
  (lp FU (fun s => bX11_doDeeds_2 T x0 x1 s.1 s.2) ((0 : Int32), M)).bind (Sum.elim (un2 fun x2_11 M12 => some (x2_11, M12)) (fun M13 => gd (kd T x1 = 9) <| some ((gI M13 x1 2), M13)))
set_option maxHeartbeats 4000000 in
theorem kX11_doDeeds {l : Launch} {B : Bx} {d : Nat} (hd : 6 ≤ d) {T : Sh} {M : Me} {x0 : Nat} {x1 : Nat} {r : Int32} {M' : Me} (h : fX11_doDeeds T M x0 x1 = some (r, M')) : Kt l B yX11_doDeeds cX11_doDeeds 3 (some .int) d [.ref (x0), .ref (x1)] T M (some (.int r)) T M' := by
  refine kt_of wX11_doDeeds (Nat.le_refl _) (Nat.le_refl _) (Nat.le_of_ble_eq_true rfl) (fun X C hR hlx hin => ?_)
  subst hlx
  replace C : Cx X B cX11_doDeeds 3 RX11 d (tp T, sl T, tp T, sl T) := C
  unfold fX11_doDeeds at h
  show G X B 3 _ _ 0 [(0, .ref (x0)), (1, .ref (x1))] [] T M
  refine g_iconst (pc := 0) (v := 0) C dX11_doDeeds_0 (by decide) ?_
  refine g_istore_n (pc := 1) (lo2 := [(2, .int ((0 : Int32))), (0, .ref (x0)), (1, .ref (x1))]) C dX11_doDeeds_1 rfl (by decide) rfl ?_
  replace h := bndE h; rcases h with ⟨a1, h1, h⟩ | ⟨M13, h1, h⟩
  · obtain ⟨x2_11, M12⟩ := a1
    replace h := un2_d h
    refine g_sub [1, 2, 0] rfl ?_
    refine lp_G2 (P := PX11_doDeeds_2 X B _ _ T x0 x1) (E := EX11_doDeeds_2 X B _ _ T x0 x1) (tbX11_doDeeds_2 C hd) h1 ?_
    show G X B 3 _ _ 23 [(2, .int (x2_11))] [] T M12
    refine g_iload_n (pc := 23) C dX11_doDeeds_23 rfl 0 rfl ?_
    obtain ⟨rfl, rfl⟩ := Prod.mk.inj (Option.some.inj h)
    exact g_iret C hR dX11_doDeeds_24
  · refine g_sub [1, 2, 0] rfl ?_
    refine lp_G2 (P := PX11_doDeeds_2 X B _ _ T x0 x1) (E := EX11_doDeeds_2 X B _ _ T x0 x1) (tbX11_doDeeds_2 C hd) h1 ?_
    show G X B 3 _ _ 31 [(1, .ref (x1))] [] T M13
    refine g_aload_n (pc := 31) C dX11_doDeeds_31 rfl 0 rfl ?_
    replace h := gd_some h; obtain ⟨hk14, h⟩ := h
    refine g_get (pc := 32) (v := .int (gI M13 x1 2)) C dX11_doDeeds_32 kX10 hk14 2 (by decide) q_399 rfl ?_
    obtain ⟨rfl, rfl⟩ := Prod.mk.inj (Option.some.inj h)
    exact g_iret C hR dX11_doDeeds_35
theorem dX11_judged_0 : decode cX11_judged 0 = .ok (.iload_n 1, 1) := by decide +kernel
theorem dX11_judged_1 : decode cX11_judged 1 = .ok (.tableswitch 76 0 2 #[27, 29, 31], 27) := by decide +kernel
theorem dX11_judged_28 : decode cX11_judged 28 = .ok (.iload_n 2, 1) := by decide +kernel
theorem dX11_judged_29 : decode cX11_judged 29 = .ok (.ireturn, 1) := by decide +kernel
theorem dX11_judged_30 : decode cX11_judged 30 = .ok (.iload_n 3, 1) := by decide +kernel
theorem dX11_judged_31 : decode cX11_judged 31 = .ok (.ireturn, 1) := by decide +kernel
theorem dX11_judged_32 : decode cX11_judged 32 = .ok (.iconst 0, 1) := by decide +kernel
theorem dX11_judged_33 : decode cX11_judged 33 = .ok (.istore 4, 2) := by decide +kernel
theorem dX11_judged_35 : decode cX11_judged 35 = .ok (.iconst 0, 1) := by decide +kernel
theorem dX11_judged_36 : decode cX11_judged 36 = .ok (.istore 5, 2) := by decide +kernel
theorem dX11_judged_38 : decode cX11_judged 38 = .ok (.iload 5, 2) := by decide +kernel
theorem dX11_judged_40 : decode cX11_judged 40 = .ok (.aload_n 0, 1) := by decide +kernel
theorem dX11_judged_41 : decode cX11_judged 41 = .ok (.getfield 28, 3) := by decide +kernel
theorem dX11_judged_44 : decode cX11_judged 44 = .ok (.getfield 111, 3) := by decide +kernel
theorem dX11_judged_47 : decode cX11_judged 47 = .ok (.getfield 272, 3) := by decide +kernel
theorem dX11_judged_50 : decode cX11_judged 50 = .ok (.if_icmp .ge 24, 3) := by decide +kernel
theorem dX11_judged_53 : decode cX11_judged 53 = .ok (.iload 4, 2) := by decide +kernel
theorem dX11_judged_55 : decode cX11_judged 55 = .ok (.aload_n 0, 1) := by decide +kernel
theorem dX11_judged_56 : decode cX11_judged 56 = .ok (.getfield 42, 3) := by decide +kernel
theorem dX11_judged_59 : decode cX11_judged 59 = .ok (.getfield 127, 3) := by decide +kernel
theorem dX11_judged_62 : decode cX11_judged 62 = .ok (.iload 5, 2) := by decide +kernel
theorem dX11_judged_64 : decode cX11_judged 64 = .ok (.iaload, 1) := by decide +kernel
theorem dX11_judged_65 : decode cX11_judged 65 = .ok (.iadd, 1) := by decide +kernel
theorem dX11_judged_66 : decode cX11_judged 66 = .ok (.istore 4, 2) := by decide +kernel
theorem dX11_judged_68 : decode cX11_judged 68 = .ok (.iinc 5 1, 3) := by decide +kernel
theorem dX11_judged_71 : decode cX11_judged 71 = .ok (.goto (-33), 3) := by decide +kernel
theorem dX11_judged_74 : decode cX11_judged 74 = .ok (.iload 4, 2) := by decide +kernel
theorem dX11_judged_76 : decode cX11_judged 76 = .ok (.ireturn, 1) := by decide +kernel
theorem dX11_judged_77 : decode cX11_judged 77 = .ok (.aload_n 0, 1) := by decide +kernel
theorem dX11_judged_78 : decode cX11_judged 78 = .ok (.invokevirtual 164, 3) := by decide +kernel
theorem dX11_judged_81 : decode cX11_judged 81 = .ok (.ireturn, 1) := by decide +kernel
theorem wX11_judged : Mw yX11_judged cX11_judged 6 (some .int) 3 := ⟨q_975, q_120, by decide, ⟨by decide +kernel, by decide +kernel⟩, by decide +kernel, by decide +kernel⟩
-- a loop of EyeTrainer.judged at 38
def bX11_judged_38 (T : Sh) (M : Me) (x0 : Nat) (x4 : Int32) (x5 : Int32) : Option ((Int32 × Int32) ⊕ (Int32)) :=
  gd (kd T x0 = 10) <| Option.bind (gR M x0 3) fun a2 => gd (kd T a2 = 4) <| Option.bind (gR M a2 0) fun a4 => gd (kd T a4 = 2) <| if (gI M a4 7) ≤ x5 then (some (.inr x4)) else (Option.bind (gR M x0 5) fun a7 => gd (kd T a7 = 7) <| Option.bind (gR M a7 0) fun a9 => gd (kd T a9 = 13) <| gv x5 (ln T a9) <| lt (x4 + (gI M a9 (Int32.toNatClampNeg x5))) fun v12 => lt (x5 + (1 : Int32)) fun v13 => some (.inl (v12, v13)))
def PX11_judged_38 (X : Fx) (B : Bx) (Z : Nat × Nat × Nat × Nat) (Q : State → Prop) (T : Sh) (M : Me) (x0 : Nat) (s : Int32 × Int32) : Prop := G X B 6 Z Q 38 [(0, .ref (x0)), (4, .int (s.1)), (5, .int (s.2))] [] T M
def EX11_judged_38 (X : Fx) (B : Bx) (Z : Nat × Nat × Nat × Nat) (Q : State → Prop) (T : Sh) (M : Me) (x0 : Nat) (r : Int32) : Prop := G X B 6 Z Q 74 [(4, .int (r))] [] T M
set_option maxHeartbeats 4000000 in
theorem tbX11_judged_38 {X : Fx} {B : Bx} {Z : Nat × Nat × Nat × Nat} {Q : State → Prop} {d : Nat} {T : Sh} {M : Me} (C : Cx X B cX11_judged 6 RX11 d Z) (hd : 6 ≤ d) {x0 : Nat} : ∀ (s : Int32 × Int32) (o : (Int32 × Int32) ⊕ (Int32)), bX11_judged_38 T M x0 s.1 s.2 = some o → lpE (PX11_judged_38 X B Z Q T M x0) (EX11_judged_38 X B Z Q T M x0) o → PX11_judged_38 X B Z Q T M x0 s := by
  rintro ⟨x4, x5⟩ o h hE
  replace h : bX11_judged_38 T M x0 x4 x5 = some o := h
  unfold bX11_judged_38 at h
  show G X B 6 Z Q 38 [(0, .ref (x0)), (4, .int (x4)), (5, .int (x5))] [] T M
  refine g_iload (pc := 38) C dX11_judged_38 2 rfl ?_
  refine g_aload_n (pc := 40) C dX11_judged_40 rfl 0 rfl ?_
  replace h := gd_some h; obtain ⟨hk1, h⟩ := h
  refine g_get (pc := 41) (v := va_rf (gR M x0 3)) C dX11_judged_41 kX11 hk1 3 (by decide) q_427 rfl ?_
  replace h := bnd h; obtain ⟨a2, ea2, h⟩ := h
  refine g_refq ea2 ?_
  replace h := gd_some h; obtain ⟨hk3, h⟩ := h
  refine g_get (pc := 44) (v := va_rf (gR M a2 0)) C dX11_judged_44 kX5 hk3 0 (by decide) q_288 rfl ?_
  replace h := bnd h; obtain ⟨a4, ea4, h⟩ := h
  refine g_refq ea4 ?_
  replace h := gd_some h; obtain ⟨hk5, h⟩ := h
  refine g_get (pc := 47) (v := .int (gI M a4 7)) C dX11_judged_47 kX3 hk5 7 (by decide) q_242 rfl ?_
  refine g_icmp_ge (pc := 50) (tgt := 74) C dX11_judged_50 (by decide) (fun c6 => ?_) (fun c6 => ?_)
  · replace h := ifp c6 h
    obtain rfl := Option.some.inj h
    exact g_sub [1] rfl (show G X B 6 Z Q 74 [(4, .int (x4))] [] T M from hE)
  · replace h := ifn c6 h
    refine g_iload (pc := 53) C dX11_judged_53 1 rfl ?_
    refine g_aload_n (pc := 55) C dX11_judged_55 rfl 0 rfl ?_
    refine g_get (pc := 56) (v := va_rf (gR M x0 5)) C dX11_judged_56 kX11 hk1 5 (by decide) q_429 rfl ?_
    replace h := bnd h; obtain ⟨a7, ea7, h⟩ := h
    refine g_refq ea7 ?_
    replace h := gd_some h; obtain ⟨hk8, h⟩ := h
    refine g_get (pc := 59) (v := va_rf (gR M a7 0)) C dX11_judged_59 kX8 hk8 0 (by decide) q_375 rfl ?_
    replace h := bnd h; obtain ⟨a9, ea9, h⟩ := h
    refine g_refq ea9 ?_
    refine g_iload (pc := 62) C dX11_judged_62 2 rfl ?_
    replace h := gd_some h; obtain ⟨hk10, h⟩ := h
    replace h := gv_some h; obtain ⟨hi11, h⟩ := h
    refine g_iald (pc := 64) C dX11_judged_64 hk10 hi11 ?_
    refine g_iadd (pc := 65) C dX11_judged_65 ?_
    refine g_topi (fun v12 ev12 => ?_)
    replace h := lt_at ev12 h
    refine g_istore (pc := 66) (lo2 := [(4, .int (v12)), (0, .ref (x0)), (5, .int (x5))]) C dX11_judged_66 (by decide) rfl ?_
    obtain ⟨v13, ev13⟩ : ∃ y : Int32, y = x5 + (1 : Int32) := ⟨_, rfl⟩
    replace h := lt_at ev13 h
    refine g_iinc (pc := 68) (v := v13) (k := 2) (lo2 := [(5, .int (v13)), (4, .int (v12)), (0, .ref (x0))]) C dX11_judged_68 rfl (by rw [ev13]; rfl) (by decide) rfl ?_
    refine g_goto (pc := 71) (tgt := 38) C dX11_judged_71 (by decide) ?_
    obtain rfl := Option.some.inj h
    exact g_sub [2, 1, 0] rfl (show G X B 6 Z Q 38 [(0, .ref (x0)), (4, .int (v12)), (5, .int (v13))] [] T M from hE)
/-- EyeTrainer.judged(III)I -/
def fX11_judged (T : Sh) (M : Me) (x0 : Nat) (x1 : Int32) (x2 : Int32) (x3 : Int32) : Option (Int32 × Me) :=
  if x1 = (0 : Int32) then (some (x2, M)) else (if x1 = (1 : Int32) then (some (x3, M)) else (if x1 = (2 : Int32) then ((lp FU (fun s => bX11_judged_38 T M x0 s.1 s.2) ((0 : Int32), (0 : Int32))).bind (fun x4_14 => some (x4_14, M))) else (gd (kd T x0 = 10) <| Option.bind (fX11_passingLanes T M x0) <| un2 fun r16 M17 => some (r16, M17))))
set_option maxHeartbeats 4000000 in
theorem kX11_judged {l : Launch} {B : Bx} {d : Nat} (hd : 6 ≤ d) {T : Sh} {M : Me} {x0 : Nat} {x1 : Int32} {x2 : Int32} {x3 : Int32} {r : Int32} {M' : Me} (h : fX11_judged T M x0 x1 x2 x3 = some (r, M')) : Kt l B yX11_judged cX11_judged 6 (some .int) d [.ref (x0), .int (x1), .int (x2), .int (x3)] T M (some (.int r)) T M' := by
  refine kt_of wX11_judged (Nat.le_refl _) (Nat.le_refl _) (Nat.le_of_ble_eq_true rfl) (fun X C hR hlx hin => ?_)
  subst hlx
  replace C : Cx X B cX11_judged 6 RX11 d (tp T, sl T, tp T, sl T) := C
  unfold fX11_judged at h
  show G X B 6 _ _ 0 [(0, .ref (x0)), (1, .int (x1)), (2, .int (x2)), (3, .int (x3))] [] T M
  refine g_iload_n (pc := 0) C dX11_judged_0 rfl 1 rfl ?_
  by_cases cw18_0 : x1 = (0 : Int32)
  · replace h := ifp cw18_0 h
    have hq : x1.toInt = 0 := by rw [cw18_0]; rfl
    refine g_tswIn (off := 27) (tgt := 28) C dX11_judged_1 (by rw [hq]; decide) (by rw [hq]; decide) (by rw [hq]; rfl) (by decide) ?_
    refine g_iload_n (pc := 28) C dX11_judged_28 rfl 2 rfl ?_
    obtain ⟨rfl, rfl⟩ := Prod.mk.inj (Option.some.inj h)
    exact g_iret C hR dX11_judged_29
  · replace h := ifn cw18_0 h
    by_cases cw18_1 : x1 = (1 : Int32)
    · replace h := ifp cw18_1 h
      have hq : x1.toInt = 1 := by rw [cw18_1]; rfl
      refine g_tswIn (off := 29) (tgt := 30) C dX11_judged_1 (by rw [hq]; decide) (by rw [hq]; decide) (by rw [hq]; rfl) (by decide) ?_
      refine g_iload_n (pc := 30) C dX11_judged_30 rfl 3 rfl ?_
      obtain ⟨rfl, rfl⟩ := Prod.mk.inj (Option.some.inj h)
      exact g_iret C hR dX11_judged_31
    · replace h := ifn cw18_1 h
      by_cases cw18_2 : x1 = (2 : Int32)
      · replace h := ifp cw18_2 h
        have hq : x1.toInt = 2 := by rw [cw18_2]; rfl
        refine g_tswIn (off := 31) (tgt := 32) C dX11_judged_1 (by rw [hq]; decide) (by rw [hq]; decide) (by rw [hq]; rfl) (by decide) ?_
        refine g_iconst (pc := 32) (v := 0) C dX11_judged_32 (by decide) ?_
        refine g_istore (pc := 33) (lo2 := [(4, .int ((0 : Int32))), (0, .ref (x0)), (1, .int (x1)), (2, .int (x2)), (3, .int (x3))]) C dX11_judged_33 (by decide) rfl ?_
        refine g_iconst (pc := 35) (v := 0) C dX11_judged_35 (by decide) ?_
        refine g_istore (pc := 36) (lo2 := [(5, .int ((0 : Int32))), (4, .int ((0 : Int32))), (0, .ref (x0)), (1, .int (x1)), (2, .int (x2)), (3, .int (x3))]) C dX11_judged_36 (by decide) rfl ?_
        replace h := bnd h; obtain ⟨x4_14, h1, h⟩ := h
        refine g_sub [2, 1, 0] rfl ?_
        refine lp_G2 (P := PX11_judged_38 X B _ _ T M x0) (E := EX11_judged_38 X B _ _ T M x0) (tbX11_judged_38 C hd) h1 ?_
        show G X B 6 _ _ 74 [(4, .int (x4_14))] [] T M
        refine g_iload (pc := 74) C dX11_judged_74 0 rfl ?_
        obtain ⟨rfl, rfl⟩ := Prod.mk.inj (Option.some.inj h)
        exact g_iret C hR dX11_judged_76
      · replace h := ifn cw18_2 h
        refine g_tswOut (tgt := 77) C dX11_judged_1 (by
            have := sw_ne cw18_0 (i := 0) rfl
            have := sw_ne cw18_1 (i := 1) rfl
            have := sw_ne cw18_2 (i := 2) rfl
            omega) (by decide) ?_
        refine g_aload_n (pc := 77) C dX11_judged_77 rfl 0 rfl ?_
        replace h := gd_some h; obtain ⟨hk15, h⟩ := h
        replace h := bnd2 h; obtain ⟨r16, M17, h1, h⟩ := h
        refine g_callVi (pc := 78) (As := []) (st := []) C dX11_judged_78 wX11_passingLanes hk15 rfl (by decide) q_921 q_33 q_919 (by omega) rfl (Nat.le_of_ble_eq_true rfl) (kX11_passingLanes (d := 5) (Nat.le_refl _) h1) ?_
        obtain ⟨rfl, rfl⟩ := Prod.mk.inj (Option.some.inj h)
        exact g_iret C hR dX11_judged_81
theorem dX11_tellingSets_0 : decode cX11_tellingSets 0 = .ok (.aload_n 0, 1) := by decide +kernel
theorem dX11_tellingSets_1 : decode cX11_tellingSets 1 = .ok (.getfield 28, 3) := by decide +kernel
theorem dX11_tellingSets_4 : decode cX11_tellingSets 4 = .ok (.getfield 111, 3) := by decide +kernel
theorem dX11_tellingSets_7 : decode cX11_tellingSets 7 = .ok (.getfield 133, 3) := by decide +kernel
theorem dX11_tellingSets_10 : decode cX11_tellingSets 10 = .ok (.istore 4, 2) := by decide +kernel
theorem dX11_tellingSets_12 : decode cX11_tellingSets 12 = .ok (.ldc_w 280, 3) := by decide +kernel
theorem dX11_tellingSets_15 : decode cX11_tellingSets 15 = .ok (.istore 5, 2) := by decide +kernel
theorem dX11_tellingSets_17 : decode cX11_tellingSets 17 = .ok (.iconst 0, 1) := by decide +kernel
theorem dX11_tellingSets_18 : decode cX11_tellingSets 18 = .ok (.istore 6, 2) := by decide +kernel
theorem dX11_tellingSets_20 : decode cX11_tellingSets 20 = .ok (.iload 6, 2) := by decide +kernel
theorem dX11_tellingSets_22 : decode cX11_tellingSets 22 = .ok (.iload 4, 2) := by decide +kernel
theorem dX11_tellingSets_24 : decode cX11_tellingSets 24 = .ok (.if_icmp .ge 40, 3) := by decide +kernel
theorem dX11_tellingSets_27 : decode cX11_tellingSets 27 = .ok (.aload_n 0, 1) := by decide +kernel
theorem dX11_tellingSets_28 : decode cX11_tellingSets 28 = .ok (.getfield 74, 3) := by decide +kernel
theorem dX11_tellingSets_31 : decode cX11_tellingSets 31 = .ok (.iload 6, 2) := by decide +kernel
theorem dX11_tellingSets_33 : decode cX11_tellingSets 33 = .ok (.aload_n 0, 1) := by decide +kernel
theorem dX11_tellingSets_34 : decode cX11_tellingSets 34 = .ok (.getfield 28, 3) := by decide +kernel
theorem dX11_tellingSets_37 : decode cX11_tellingSets 37 = .ok (.iload_n 1, 1) := by decide +kernel
theorem dX11_tellingSets_38 : decode cX11_tellingSets 38 = .ok (.iload 6, 2) := by decide +kernel
theorem dX11_tellingSets_40 : decode cX11_tellingSets 40 = .ok (.iload_n 2, 1) := by decide +kernel
theorem dX11_tellingSets_41 : decode cX11_tellingSets 41 = .ok (.iload_n 3, 1) := by decide +kernel
theorem dX11_tellingSets_42 : decode cX11_tellingSets 42 = .ok (.invokevirtual 289, 3) := by decide +kernel
theorem dX11_tellingSets_45 : decode cX11_tellingSets 45 = .ok (.iastore, 1) := by decide +kernel
theorem dX11_tellingSets_46 : decode cX11_tellingSets 46 = .ok (.iload 5, 2) := by decide +kernel
theorem dX11_tellingSets_48 : decode cX11_tellingSets 48 = .ok (.aload_n 0, 1) := by decide +kernel
theorem dX11_tellingSets_49 : decode cX11_tellingSets 49 = .ok (.getfield 74, 3) := by decide +kernel
theorem dX11_tellingSets_52 : decode cX11_tellingSets 52 = .ok (.iload 6, 2) := by decide +kernel
theorem dX11_tellingSets_54 : decode cX11_tellingSets 54 = .ok (.iaload, 1) := by decide +kernel
theorem dX11_tellingSets_55 : decode cX11_tellingSets 55 = .ok (.iand, 1) := by decide +kernel
theorem dX11_tellingSets_56 : decode cX11_tellingSets 56 = .ok (.istore 5, 2) := by decide +kernel
theorem dX11_tellingSets_58 : decode cX11_tellingSets 58 = .ok (.iinc 6 1, 3) := by decide +kernel
theorem dX11_tellingSets_61 : decode cX11_tellingSets 61 = .ok (.goto (-41), 3) := by decide +kernel
theorem dX11_tellingSets_64 : decode cX11_tellingSets 64 = .ok (.iconst 0, 1) := by decide +kernel
theorem dX11_tellingSets_65 : decode cX11_tellingSets 65 = .ok (.istore 6, 2) := by decide +kernel
theorem dX11_tellingSets_67 : decode cX11_tellingSets 67 = .ok (.iconst 0, 1) := by decide +kernel
theorem dX11_tellingSets_68 : decode cX11_tellingSets 68 = .ok (.istore 7, 2) := by decide +kernel
theorem dX11_tellingSets_70 : decode cX11_tellingSets 70 = .ok (.iload 7, 2) := by decide +kernel
theorem dX11_tellingSets_72 : decode cX11_tellingSets 72 = .ok (.iconst 1, 1) := by decide +kernel
theorem dX11_tellingSets_73 : decode cX11_tellingSets 73 = .ok (.iload 4, 2) := by decide +kernel
theorem dX11_tellingSets_75 : decode cX11_tellingSets 75 = .ok (.ishl, 1) := by decide +kernel
theorem dX11_tellingSets_76 : decode cX11_tellingSets 76 = .ok (.if_icmp .ge 78, 3) := by decide +kernel
theorem dX11_tellingSets_79 : decode cX11_tellingSets 79 = .ok (.ldc_w 280, 3) := by decide +kernel
theorem dX11_tellingSets_82 : decode cX11_tellingSets 82 = .ok (.istore 8, 2) := by decide +kernel
theorem dX11_tellingSets_84 : decode cX11_tellingSets 84 = .ok (.iconst 0, 1) := by decide +kernel
theorem dX11_tellingSets_85 : decode cX11_tellingSets 85 = .ok (.istore 9, 2) := by decide +kernel
theorem dX11_tellingSets_87 : decode cX11_tellingSets 87 = .ok (.iload 9, 2) := by decide +kernel
theorem dX11_tellingSets_89 : decode cX11_tellingSets 89 = .ok (.iload 4, 2) := by decide +kernel
theorem dX11_tellingSets_91 : decode cX11_tellingSets 91 = .ok (.if_icmp .ge 37, 3) := by decide +kernel
theorem dX11_tellingSets_94 : decode cX11_tellingSets 94 = .ok (.iload 8, 2) := by decide +kernel
theorem dX11_tellingSets_96 : decode cX11_tellingSets 96 = .ok (.iload 7, 2) := by decide +kernel
theorem dX11_tellingSets_98 : decode cX11_tellingSets 98 = .ok (.iload 9, 2) := by decide +kernel
theorem dX11_tellingSets_100 : decode cX11_tellingSets 100 = .ok (.ishr, 1) := by decide +kernel
theorem dX11_tellingSets_101 : decode cX11_tellingSets 101 = .ok (.iconst 1, 1) := by decide +kernel
theorem dX11_tellingSets_102 : decode cX11_tellingSets 102 = .ok (.iand, 1) := by decide +kernel
theorem dX11_tellingSets_103 : decode cX11_tellingSets 103 = .ok (.ifCond .eq 13, 3) := by decide +kernel
theorem dX11_tellingSets_106 : decode cX11_tellingSets 106 = .ok (.aload_n 0, 1) := by decide +kernel
theorem dX11_tellingSets_107 : decode cX11_tellingSets 107 = .ok (.getfield 74, 3) := by decide +kernel
theorem dX11_tellingSets_110 : decode cX11_tellingSets 110 = .ok (.iload 9, 2) := by decide +kernel
theorem dX11_tellingSets_112 : decode cX11_tellingSets 112 = .ok (.iaload, 1) := by decide +kernel
theorem dX11_tellingSets_113 : decode cX11_tellingSets 113 = .ok (.goto 6, 3) := by decide +kernel
theorem dX11_tellingSets_116 : decode cX11_tellingSets 116 = .ok (.ldc_w 280, 3) := by decide +kernel
theorem dX11_tellingSets_119 : decode cX11_tellingSets 119 = .ok (.iand, 1) := by decide +kernel
theorem dX11_tellingSets_120 : decode cX11_tellingSets 120 = .ok (.istore 8, 2) := by decide +kernel
theorem dX11_tellingSets_122 : decode cX11_tellingSets 122 = .ok (.iinc 9 1, 3) := by decide +kernel
theorem dX11_tellingSets_125 : decode cX11_tellingSets 125 = .ok (.goto (-38), 3) := by decide +kernel
theorem dX11_tellingSets_128 : decode cX11_tellingSets 128 = .ok (.iload 6, 2) := by decide +kernel
theorem dX11_tellingSets_130 : decode cX11_tellingSets 130 = .ok (.iload 8, 2) := by decide +kernel
theorem dX11_tellingSets_132 : decode cX11_tellingSets 132 = .ok (.iload 5, 2) := by decide +kernel
theorem dX11_tellingSets_134 : decode cX11_tellingSets 134 = .ok (.if_icmp .ne 10, 3) := by decide +kernel
theorem dX11_tellingSets_137 : decode cX11_tellingSets 137 = .ok (.iconst 1, 1) := by decide +kernel
theorem dX11_tellingSets_138 : decode cX11_tellingSets 138 = .ok (.iload 7, 2) := by decide +kernel
theorem dX11_tellingSets_140 : decode cX11_tellingSets 140 = .ok (.ishl, 1) := by decide +kernel
theorem dX11_tellingSets_141 : decode cX11_tellingSets 141 = .ok (.goto 4, 3) := by decide +kernel
theorem dX11_tellingSets_144 : decode cX11_tellingSets 144 = .ok (.iconst 0, 1) := by decide +kernel
theorem dX11_tellingSets_145 : decode cX11_tellingSets 145 = .ok (.ior, 1) := by decide +kernel
theorem dX11_tellingSets_146 : decode cX11_tellingSets 146 = .ok (.istore 6, 2) := by decide +kernel
theorem dX11_tellingSets_148 : decode cX11_tellingSets 148 = .ok (.iinc 7 1, 3) := by decide +kernel
theorem dX11_tellingSets_151 : decode cX11_tellingSets 151 = .ok (.goto (-81), 3) := by decide +kernel
theorem dX11_tellingSets_154 : decode cX11_tellingSets 154 = .ok (.iload 6, 2) := by decide +kernel
theorem dX11_tellingSets_156 : decode cX11_tellingSets 156 = .ok (.ireturn, 1) := by decide +kernel
theorem wX11_tellingSets : Mw yX11_tellingSets cX11_tellingSets 10 (some .int) 3 := ⟨q_1074, q_120, by decide, ⟨by decide +kernel, by decide +kernel⟩, by decide +kernel, by decide +kernel⟩
-- a loop of EyeTrainer.tellingSets at 20
def bX11_tellingSets_20 (T : Sh) (x0 : Nat) (x1 : Int32) (x2 : Int32) (x3 : Int32) (x4 : Int32) (x5 : Int32) (x6 : Int32) (M : Me) : Option ((Int32 × Int32 × Me) ⊕ ((Int32 × Me))) :=
  if x4 ≤ x6 then (some (.inr (x5, M))) else (gd (kd T x0 = 10) <| Option.bind (gR M x0 13) fun a9 => Option.bind (gR M x0 3) fun a10 => gd (kd T a10 = 4) <| Option.bind (fX5_passing T M a10 x1 x6 x2 x3) <| un2 fun r12 M13 => gd (kd T a9 = 13) <| gv x6 (ln T a9) <| lt (pI M13 a9 (Int32.toNatClampNeg x6) r12) fun M16 => Option.bind (gR M16 x0 13) fun a17 => gd (kd T a17 = 13) <| gv x6 (ln T a17) <| lt (x5 &&& (gI M16 a17 (Int32.toNatClampNeg x6))) fun v20 => lt (x6 + (1 : Int32)) fun v21 => some (.inl (v20, v21, M16)))
def PX11_tellingSets_20 (X : Fx) (B : Bx) (Z : Nat × Nat × Nat × Nat) (Q : State → Prop) (T : Sh) (x0 : Nat) (x1 : Int32) (x2 : Int32) (x3 : Int32) (x4 : Int32) (s : Int32 × Int32 × Me) : Prop := G X B 10 Z Q 20 [(0, .ref (x0)), (1, .int (x1)), (2, .int (x2)), (3, .int (x3)), (4, .int (x4)), (5, .int (s.1)), (6, .int (s.2.1))] [] T s.2.2
def EX11_tellingSets_20 (X : Fx) (B : Bx) (Z : Nat × Nat × Nat × Nat) (Q : State → Prop) (T : Sh) (x0 : Nat) (x1 : Int32) (x2 : Int32) (x3 : Int32) (x4 : Int32) (r : (Int32 × Me)) : Prop := G X B 10 Z Q 64 [(0, .ref (x0)), (4, .int (x4)), (5, .int (r.1))] [] T r.2
set_option maxHeartbeats 4000000 in
theorem tbX11_tellingSets_20 {X : Fx} {B : Bx} {Z : Nat × Nat × Nat × Nat} {Q : State → Prop} {d : Nat} {T : Sh} (C : Cx X B cX11_tellingSets 10 RX11 d Z) (hd : 3 ≤ d) {x0 : Nat} {x1 : Int32} {x2 : Int32} {x3 : Int32} {x4 : Int32} : ∀ (s : Int32 × Int32 × Me) (o : (Int32 × Int32 × Me) ⊕ ((Int32 × Me))), bX11_tellingSets_20 T x0 x1 x2 x3 x4 s.1 s.2.1 s.2.2 = some o → lpE (PX11_tellingSets_20 X B Z Q T x0 x1 x2 x3 x4) (EX11_tellingSets_20 X B Z Q T x0 x1 x2 x3 x4) o → PX11_tellingSets_20 X B Z Q T x0 x1 x2 x3 x4 s := by
  rintro ⟨x5, x6, M⟩ o h hE
  replace h : bX11_tellingSets_20 T x0 x1 x2 x3 x4 x5 x6 M = some o := h
  unfold bX11_tellingSets_20 at h
  show G X B 10 Z Q 20 [(0, .ref (x0)), (1, .int (x1)), (2, .int (x2)), (3, .int (x3)), (4, .int (x4)), (5, .int (x5)), (6, .int (x6))] [] T M
  refine g_iload (pc := 20) C dX11_tellingSets_20 6 rfl ?_
  refine g_iload (pc := 22) C dX11_tellingSets_22 4 rfl ?_
  refine g_icmp_ge (pc := 24) (tgt := 64) C dX11_tellingSets_24 (by decide) (fun c7 => ?_) (fun c7 => ?_)
  · replace h := ifp c7 h
    obtain rfl := Option.some.inj h
    exact g_sub [0, 4, 5] rfl (show G X B 10 Z Q 64 [(0, .ref (x0)), (4, .int (x4)), (5, .int (x5))] [] T M from hE)
  · replace h := ifn c7 h
    refine g_aload_n (pc := 27) C dX11_tellingSets_27 rfl 0 rfl ?_
    replace h := gd_some h; obtain ⟨hk8, h⟩ := h
    refine g_get (pc := 28) (v := va_rf (gR M x0 13)) C dX11_tellingSets_28 kX11 hk8 13 (by decide) q_437 rfl ?_
    replace h := bnd h; obtain ⟨a9, ea9, h⟩ := h
    refine g_refq ea9 ?_
    refine g_iload (pc := 31) C dX11_tellingSets_31 6 rfl ?_
    refine g_aload_n (pc := 33) C dX11_tellingSets_33 rfl 0 rfl ?_
    refine g_get (pc := 34) (v := va_rf (gR M x0 3)) C dX11_tellingSets_34 kX11 hk8 3 (by decide) q_427 rfl ?_
    replace h := bnd h; obtain ⟨a10, ea10, h⟩ := h
    refine g_refq ea10 ?_
    refine g_iload_n (pc := 37) C dX11_tellingSets_37 rfl 1 rfl ?_
    refine g_iload (pc := 38) C dX11_tellingSets_38 6 rfl ?_
    refine g_iload_n (pc := 40) C dX11_tellingSets_40 rfl 2 rfl ?_
    refine g_iload_n (pc := 41) C dX11_tellingSets_41 rfl 3 rfl ?_
    replace h := gd_some h; obtain ⟨hk11, h⟩ := h
    replace h := bnd2 h; obtain ⟨r12, M13, h1, h⟩ := h
    refine g_callVi (pc := 42) (As := [.int (x1), .int (x6), .int (x2), .int (x3)]) (st := [.int (x6), .ref (a9)]) C dX11_tellingSets_42 wX5_passing hk11 rfl (by decide) q_797 q_798 q_796 (by omega) rfl (Nat.le_of_ble_eq_true rfl) (kX5_passing (d := 2) (Nat.le_refl _) h1) ?_
    replace h := gd_some h; obtain ⟨hk14, h⟩ := h
    replace h := gv_some h; obtain ⟨hi15, h⟩ := h
    refine g_iast (pc := 45) C dX11_tellingSets_45 hk14 hi15 ?_
    refine g_mem (fun M16 eM16 => ?_)
    replace h := lt_at eM16 h
    refine g_iload (pc := 46) C dX11_tellingSets_46 5 rfl ?_
    refine g_aload_n (pc := 48) C dX11_tellingSets_48 rfl 0 rfl ?_
    refine g_get (pc := 49) (v := va_rf (gR M16 x0 13)) C dX11_tellingSets_49 kX11 hk8 13 (by decide) q_437 rfl ?_
    replace h := bnd h; obtain ⟨a17, ea17, h⟩ := h
    refine g_refq ea17 ?_
    refine g_iload (pc := 52) C dX11_tellingSets_52 6 rfl ?_
    replace h := gd_some h; obtain ⟨hk18, h⟩ := h
    replace h := gv_some h; obtain ⟨hi19, h⟩ := h
    refine g_iald (pc := 54) C dX11_tellingSets_54 hk18 hi19 ?_
    refine g_iand (pc := 55) C dX11_tellingSets_55 ?_
    refine g_topi (fun v20 ev20 => ?_)
    replace h := lt_at ev20 h
    refine g_istore (pc := 56) (lo2 := [(5, .int (v20)), (0, .ref (x0)), (1, .int (x1)), (2, .int (x2)), (3, .int (x3)), (4, .int (x4)), (6, .int (x6))]) C dX11_tellingSets_56 (by decide) rfl ?_
    obtain ⟨v21, ev21⟩ : ∃ y : Int32, y = x6 + (1 : Int32) := ⟨_, rfl⟩
    replace h := lt_at ev21 h
    refine g_iinc (pc := 58) (v := v21) (k := 6) (lo2 := [(6, .int (v21)), (5, .int (v20)), (0, .ref (x0)), (1, .int (x1)), (2, .int (x2)), (3, .int (x3)), (4, .int (x4))]) C dX11_tellingSets_58 rfl (by rw [ev21]; rfl) (by decide) rfl ?_
    refine g_goto (pc := 61) (tgt := 20) C dX11_tellingSets_61 (by decide) ?_
    obtain rfl := Option.some.inj h
    exact g_sub [2, 3, 4, 5, 6, 1, 0] rfl (show G X B 10 Z Q 20 [(0, .ref (x0)), (1, .int (x1)), (2, .int (x2)), (3, .int (x3)), (4, .int (x4)), (5, .int (v20)), (6, .int (v21))] [] T M16 from hE)
-- a loop of EyeTrainer.tellingSets at 70
-- a loop of EyeTrainer.tellingSets at 87
def bX11_tellingSets_87 (T : Sh) (M : Me) (x0 : Nat) (x4 : Int32) (x5 : Int32) (x6 : Int32) (x7 : Int32) (x8 : Int32) (x9 : Int32) : Option ((Int32 × Int32) ⊕ (Int32)) :=
  if x4 ≤ x9 then (some (.inr x8)) else (if ((x7 >>> (x9 &&& 31)) &&& (1 : Int32)) = 0 then (lt (x8 &&& (16777215 : Int32)) fun v27 => lt (x9 + (1 : Int32)) fun v28 => some (.inl (v27, v28))) else (gd (kd T x0 = 10) <| Option.bind (gR M x0 13) fun a30 => gd (kd T a30 = 13) <| gv x9 (ln T a30) <| lt (x8 &&& (gI M a30 (Int32.toNatClampNeg x9))) fun v33 => lt (x9 + (1 : Int32)) fun v34 => some (.inl (v33, v34))))
def PX11_tellingSets_87 (X : Fx) (B : Bx) (Z : Nat × Nat × Nat × Nat) (Q : State → Prop) (T : Sh) (M : Me) (x0 : Nat) (x4 : Int32) (x5 : Int32) (x6 : Int32) (x7 : Int32) (s : Int32 × Int32) : Prop := G X B 10 Z Q 87 [(0, .ref (x0)), (4, .int (x4)), (5, .int (x5)), (6, .int (x6)), (7, .int (x7)), (8, .int (s.1)), (9, .int (s.2))] [] T M
def EX11_tellingSets_87 (X : Fx) (B : Bx) (Z : Nat × Nat × Nat × Nat) (Q : State → Prop) (T : Sh) (M : Me) (x0 : Nat) (x4 : Int32) (x5 : Int32) (x6 : Int32) (x7 : Int32) (r : Int32) : Prop := G X B 10 Z Q 128 [(0, .ref (x0)), (4, .int (x4)), (5, .int (x5)), (6, .int (x6)), (7, .int (x7)), (8, .int (r))] [] T M
set_option maxHeartbeats 4000000 in
theorem tbX11_tellingSets_87 {X : Fx} {B : Bx} {Z : Nat × Nat × Nat × Nat} {Q : State → Prop} {d : Nat} {T : Sh} {M : Me} (C : Cx X B cX11_tellingSets 10 RX11 d Z) (hd : 3 ≤ d) {x0 : Nat} {x4 : Int32} {x5 : Int32} {x6 : Int32} {x7 : Int32} : ∀ (s : Int32 × Int32) (o : (Int32 × Int32) ⊕ (Int32)), bX11_tellingSets_87 T M x0 x4 x5 x6 x7 s.1 s.2 = some o → lpE (PX11_tellingSets_87 X B Z Q T M x0 x4 x5 x6 x7) (EX11_tellingSets_87 X B Z Q T M x0 x4 x5 x6 x7) o → PX11_tellingSets_87 X B Z Q T M x0 x4 x5 x6 x7 s := by
  rintro ⟨x8, x9⟩ o h hE
  replace h : bX11_tellingSets_87 T M x0 x4 x5 x6 x7 x8 x9 = some o := h
  unfold bX11_tellingSets_87 at h
  show G X B 10 Z Q 87 [(0, .ref (x0)), (4, .int (x4)), (5, .int (x5)), (6, .int (x6)), (7, .int (x7)), (8, .int (x8)), (9, .int (x9))] [] T M
  refine g_iload (pc := 87) C dX11_tellingSets_87 6 rfl ?_
  refine g_iload (pc := 89) C dX11_tellingSets_89 1 rfl ?_
  refine g_icmp_ge (pc := 91) (tgt := 128) C dX11_tellingSets_91 (by decide) (fun c25 => ?_) (fun c25 => ?_)
  · replace h := ifp c25 h
    obtain rfl := Option.some.inj h
    exact g_sub [0, 1, 2, 3, 4, 5] rfl (show G X B 10 Z Q 128 [(0, .ref (x0)), (4, .int (x4)), (5, .int (x5)), (6, .int (x6)), (7, .int (x7)), (8, .int (x8))] [] T M from hE)
  · replace h := ifn c25 h
    refine g_iload (pc := 94) C dX11_tellingSets_94 5 rfl ?_
    refine g_iload (pc := 96) C dX11_tellingSets_96 4 rfl ?_
    refine g_iload (pc := 98) C dX11_tellingSets_98 6 rfl ?_
    refine g_ishr (pc := 100) C dX11_tellingSets_100 ?_
    refine g_iconst (pc := 101) (v := 1) C dX11_tellingSets_101 (by decide) ?_
    refine g_iand (pc := 102) C dX11_tellingSets_102 ?_
    refine g_if_eq (pc := 103) (tgt := 116) C dX11_tellingSets_103 (by decide) (fun c26 => ?_) (fun c26 => ?_)
    · replace h := ifp c26 h
      refine g_ldcw (pc := 116) C dX11_tellingSets_116 q_1060 ?_
      refine g_iand (pc := 119) C dX11_tellingSets_119 ?_
      refine g_topi (fun v27 ev27 => ?_)
      replace h := lt_at ev27 h
      refine g_istore (pc := 120) (lo2 := [(8, .int (v27)), (0, .ref (x0)), (4, .int (x4)), (5, .int (x5)), (6, .int (x6)), (7, .int (x7)), (9, .int (x9))]) C dX11_tellingSets_120 (by decide) rfl ?_
      obtain ⟨v28, ev28⟩ : ∃ y : Int32, y = x9 + (1 : Int32) := ⟨_, rfl⟩
      replace h := lt_at ev28 h
      refine g_iinc (pc := 122) (v := v28) (k := 6) (lo2 := [(9, .int (v28)), (8, .int (v27)), (0, .ref (x0)), (4, .int (x4)), (5, .int (x5)), (6, .int (x6)), (7, .int (x7))]) C dX11_tellingSets_122 rfl (by rw [ev28]; rfl) (by decide) rfl ?_
      refine g_goto (pc := 125) (tgt := 87) C dX11_tellingSets_125 (by decide) ?_
      obtain rfl := Option.some.inj h
      exact g_sub [2, 3, 4, 5, 6, 1, 0] rfl (show G X B 10 Z Q 87 [(0, .ref (x0)), (4, .int (x4)), (5, .int (x5)), (6, .int (x6)), (7, .int (x7)), (8, .int (v27)), (9, .int (v28))] [] T M from hE)
    · replace h := ifn c26 h
      refine g_aload_n (pc := 106) C dX11_tellingSets_106 rfl 0 rfl ?_
      replace h := gd_some h; obtain ⟨hk29, h⟩ := h
      refine g_get (pc := 107) (v := va_rf (gR M x0 13)) C dX11_tellingSets_107 kX11 hk29 13 (by decide) q_437 rfl ?_
      replace h := bnd h; obtain ⟨a30, ea30, h⟩ := h
      refine g_refq ea30 ?_
      refine g_iload (pc := 110) C dX11_tellingSets_110 6 rfl ?_
      replace h := gd_some h; obtain ⟨hk31, h⟩ := h
      replace h := gv_some h; obtain ⟨hi32, h⟩ := h
      refine g_iald (pc := 112) C dX11_tellingSets_112 hk31 hi32 ?_
      refine g_goto (pc := 113) (tgt := 119) C dX11_tellingSets_113 (by decide) ?_
      refine g_iand (pc := 119) C dX11_tellingSets_119 ?_
      refine g_topi (fun v33 ev33 => ?_)
      replace h := lt_at ev33 h
      refine g_istore (pc := 120) (lo2 := [(8, .int (v33)), (0, .ref (x0)), (4, .int (x4)), (5, .int (x5)), (6, .int (x6)), (7, .int (x7)), (9, .int (x9))]) C dX11_tellingSets_120 (by decide) rfl ?_
      obtain ⟨v34, ev34⟩ : ∃ y : Int32, y = x9 + (1 : Int32) := ⟨_, rfl⟩
      replace h := lt_at ev34 h
      refine g_iinc (pc := 122) (v := v34) (k := 6) (lo2 := [(9, .int (v34)), (8, .int (v33)), (0, .ref (x0)), (4, .int (x4)), (5, .int (x5)), (6, .int (x6)), (7, .int (x7))]) C dX11_tellingSets_122 rfl (by rw [ev34]; rfl) (by decide) rfl ?_
      refine g_goto (pc := 125) (tgt := 87) C dX11_tellingSets_125 (by decide) ?_
      obtain rfl := Option.some.inj h
      exact g_sub [2, 3, 4, 5, 6, 1, 0] rfl (show G X B 10 Z Q 87 [(0, .ref (x0)), (4, .int (x4)), (5, .int (x5)), (6, .int (x6)), (7, .int (x7)), (8, .int (v33)), (9, .int (v34))] [] T M from hE)
def bX11_tellingSets_70 (T : Sh) (M : Me) (x0 : Nat) (x4 : Int32) (x5 : Int32) (x6 : Int32) (x7 : Int32) : Option ((Int32 × Int32) ⊕ (Int32)) :=
  if ((1 : Int32) <<< (x4 &&& 31)) ≤ x7 then (some (.inr x6)) else ((lp FU (fun s => bX11_tellingSets_87 T M x0 x4 x5 x6 x7 s.1 s.2) ((16777215 : Int32), (0 : Int32))).bind (fun x8_35 => if x8_35 = x5 then (lt (x6 ||| ((1 : Int32) <<< (x7 &&& 31))) fun v39 => lt (x7 + (1 : Int32)) fun v40 => some (.inl (v39, v40))) else (lt (x6 ||| (0 : Int32)) fun v37 => lt (x7 + (1 : Int32)) fun v38 => some (.inl (v37, v38)))))
def PX11_tellingSets_70 (X : Fx) (B : Bx) (Z : Nat × Nat × Nat × Nat) (Q : State → Prop) (T : Sh) (M : Me) (x0 : Nat) (x4 : Int32) (x5 : Int32) (s : Int32 × Int32) : Prop := G X B 10 Z Q 70 [(0, .ref (x0)), (4, .int (x4)), (5, .int (x5)), (6, .int (s.1)), (7, .int (s.2))] [] T M
def EX11_tellingSets_70 (X : Fx) (B : Bx) (Z : Nat × Nat × Nat × Nat) (Q : State → Prop) (T : Sh) (M : Me) (x0 : Nat) (x4 : Int32) (x5 : Int32) (r : Int32) : Prop := G X B 10 Z Q 154 [(6, .int (r))] [] T M
set_option maxHeartbeats 4000000 in
theorem tbX11_tellingSets_70 {X : Fx} {B : Bx} {Z : Nat × Nat × Nat × Nat} {Q : State → Prop} {d : Nat} {T : Sh} {M : Me} (C : Cx X B cX11_tellingSets 10 RX11 d Z) (hd : 3 ≤ d) {x0 : Nat} {x4 : Int32} {x5 : Int32} : ∀ (s : Int32 × Int32) (o : (Int32 × Int32) ⊕ (Int32)), bX11_tellingSets_70 T M x0 x4 x5 s.1 s.2 = some o → lpE (PX11_tellingSets_70 X B Z Q T M x0 x4 x5) (EX11_tellingSets_70 X B Z Q T M x0 x4 x5) o → PX11_tellingSets_70 X B Z Q T M x0 x4 x5 s := by
  rintro ⟨x6, x7⟩ o h hE
  replace h : bX11_tellingSets_70 T M x0 x4 x5 x6 x7 = some o := h
  unfold bX11_tellingSets_70 at h
  show G X B 10 Z Q 70 [(0, .ref (x0)), (4, .int (x4)), (5, .int (x5)), (6, .int (x6)), (7, .int (x7))] [] T M
  refine g_iload (pc := 70) C dX11_tellingSets_70 4 rfl ?_
  refine g_iconst (pc := 72) (v := 1) C dX11_tellingSets_72 (by decide) ?_
  refine g_iload (pc := 73) C dX11_tellingSets_73 1 rfl ?_
  refine g_ishl (pc := 75) C dX11_tellingSets_75 ?_
  refine g_icmp_ge (pc := 76) (tgt := 154) C dX11_tellingSets_76 (by decide) (fun c24 => ?_) (fun c24 => ?_)
  · replace h := ifp c24 h
    obtain rfl := Option.some.inj h
    exact g_sub [3] rfl (show G X B 10 Z Q 154 [(6, .int (x6))] [] T M from hE)
  · replace h := ifn c24 h
    refine g_ldcw (pc := 79) C dX11_tellingSets_79 q_1060 ?_
    refine g_istore (pc := 82) (lo2 := [(8, .int ((16777215 : Int32))), (0, .ref (x0)), (4, .int (x4)), (5, .int (x5)), (6, .int (x6)), (7, .int (x7))]) C dX11_tellingSets_82 (by decide) rfl ?_
    refine g_iconst (pc := 84) (v := 0) C dX11_tellingSets_84 (by decide) ?_
    refine g_istore (pc := 85) (lo2 := [(9, .int ((0 : Int32))), (8, .int ((16777215 : Int32))), (0, .ref (x0)), (4, .int (x4)), (5, .int (x5)), (6, .int (x6)), (7, .int (x7))]) C dX11_tellingSets_85 (by decide) rfl ?_
    replace h := bnd h; obtain ⟨x8_35, h1, h⟩ := h
    refine g_sub [2, 3, 4, 5, 6, 1, 0] rfl ?_
    refine lp_G2 (P := PX11_tellingSets_87 X B _ _ T M x0 x4 x5 x6 x7) (E := EX11_tellingSets_87 X B _ _ T M x0 x4 x5 x6 x7) (tbX11_tellingSets_87 C hd) h1 ?_
    show G X B 10 _ _ 128 [(0, .ref (x0)), (4, .int (x4)), (5, .int (x5)), (6, .int (x6)), (7, .int (x7)), (8, .int (x8_35))] [] T M
    refine g_iload (pc := 128) C dX11_tellingSets_128 3 rfl ?_
    refine g_iload (pc := 130) C dX11_tellingSets_130 5 rfl ?_
    refine g_iload (pc := 132) C dX11_tellingSets_132 2 rfl ?_
    refine g_icmp_ne (pc := 134) (tgt := 144) C dX11_tellingSets_134 (by decide) (fun c36 => ?_) (fun c36 => ?_)
    · replace h := ifn c36 h
      refine g_iconst (pc := 144) (v := 0) C dX11_tellingSets_144 (by decide) ?_
      refine g_ior (pc := 145) C dX11_tellingSets_145 ?_
      refine g_topi (fun v37 ev37 => ?_)
      replace h := lt_at ev37 h
      refine g_istore (pc := 146) (lo2 := [(6, .int (v37)), (0, .ref (x0)), (4, .int (x4)), (5, .int (x5)), (7, .int (x7)), (8, .int (x8_35))]) C dX11_tellingSets_146 (by decide) rfl ?_
      obtain ⟨v38, ev38⟩ : ∃ y : Int32, y = x7 + (1 : Int32) := ⟨_, rfl⟩
      replace h := lt_at ev38 h
      refine g_iinc (pc := 148) (v := v38) (k := 4) (lo2 := [(7, .int (v38)), (6, .int (v37)), (0, .ref (x0)), (4, .int (x4)), (5, .int (x5)), (8, .int (x8_35))]) C dX11_tellingSets_148 rfl (by rw [ev38]; rfl) (by decide) rfl ?_
      refine g_goto (pc := 151) (tgt := 70) C dX11_tellingSets_151 (by decide) ?_
      obtain rfl := Option.some.inj h
      exact g_sub [2, 3, 4, 1, 0] rfl (show G X B 10 Z Q 70 [(0, .ref (x0)), (4, .int (x4)), (5, .int (x5)), (6, .int (v37)), (7, .int (v38))] [] T M from hE)
    · replace h := ifp c36 h
      refine g_iconst (pc := 137) (v := 1) C dX11_tellingSets_137 (by decide) ?_
      refine g_iload (pc := 138) C dX11_tellingSets_138 4 rfl ?_
      refine g_ishl (pc := 140) C dX11_tellingSets_140 ?_
      refine g_goto (pc := 141) (tgt := 145) C dX11_tellingSets_141 (by decide) ?_
      refine g_ior (pc := 145) C dX11_tellingSets_145 ?_
      refine g_topi (fun v39 ev39 => ?_)
      replace h := lt_at ev39 h
      refine g_istore (pc := 146) (lo2 := [(6, .int (v39)), (0, .ref (x0)), (4, .int (x4)), (5, .int (x5)), (7, .int (x7)), (8, .int (x8_35))]) C dX11_tellingSets_146 (by decide) rfl ?_
      obtain ⟨v40, ev40⟩ : ∃ y : Int32, y = x7 + (1 : Int32) := ⟨_, rfl⟩
      replace h := lt_at ev40 h
      refine g_iinc (pc := 148) (v := v40) (k := 4) (lo2 := [(7, .int (v40)), (6, .int (v39)), (0, .ref (x0)), (4, .int (x4)), (5, .int (x5)), (8, .int (x8_35))]) C dX11_tellingSets_148 rfl (by rw [ev40]; rfl) (by decide) rfl ?_
      refine g_goto (pc := 151) (tgt := 70) C dX11_tellingSets_151 (by decide) ?_
      obtain rfl := Option.some.inj h
      exact g_sub [2, 3, 4, 1, 0] rfl (show G X B 10 Z Q 70 [(0, .ref (x0)), (4, .int (x4)), (5, .int (x5)), (6, .int (v39)), (7, .int (v40))] [] T M from hE)
/-- EyeTrainer.tellingSets(III)I -/
def fX11_tellingSets (T : Sh) (M : Me) (x0 : Nat) (x1 : Int32) (x2 : Int32) (x3 : Int32) : Option (Int32 × Me) :=
  gd (kd T x0 = 10) <| Option.bind (gR M x0 3) fun a2 => gd (kd T a2 = 4) <| Option.bind (gR M a2 0) fun a4 => gd (kd T a4 = 2) <| lt (gI M a4 8) fun v6 => (lp FU (fun s => bX11_tellingSets_20 T x0 x1 x2 x3 v6 s.1 s.2.1 s.2.2) ((16777215 : Int32), (0 : Int32), M)).bind (un2 fun x5_22 M23 => (lp FU (fun s => bX11_tellingSets_70 T M23 x0 v6 x5_22 s.1 s.2) ((0 : Int32), (0 : Int32))).bind (fun x6_41 => some (x6_41, M23)))
set_option maxHeartbeats 4000000 in
theorem kX11_tellingSets {l : Launch} {B : Bx} {d : Nat} (hd : 3 ≤ d) {T : Sh} {M : Me} {x0 : Nat} {x1 : Int32} {x2 : Int32} {x3 : Int32} {r : Int32} {M' : Me} (h : fX11_tellingSets T M x0 x1 x2 x3 = some (r, M')) : Kt l B yX11_tellingSets cX11_tellingSets 10 (some .int) d [.ref (x0), .int (x1), .int (x2), .int (x3)] T M (some (.int r)) T M' := by
  refine kt_of wX11_tellingSets (Nat.le_refl _) (Nat.le_refl _) (Nat.le_of_ble_eq_true rfl) (fun X C hR hlx hin => ?_)
  subst hlx
  replace C : Cx X B cX11_tellingSets 10 RX11 d (tp T, sl T, tp T, sl T) := C
  unfold fX11_tellingSets at h
  show G X B 10 _ _ 0 [(0, .ref (x0)), (1, .int (x1)), (2, .int (x2)), (3, .int (x3))] [] T M
  refine g_aload_n (pc := 0) C dX11_tellingSets_0 rfl 0 rfl ?_
  replace h := gd_some h; obtain ⟨hk1, h⟩ := h
  refine g_get (pc := 1) (v := va_rf (gR M x0 3)) C dX11_tellingSets_1 kX11 hk1 3 (by decide) q_427 rfl ?_
  replace h := bnd h; obtain ⟨a2, ea2, h⟩ := h
  refine g_refq ea2 ?_
  replace h := gd_some h; obtain ⟨hk3, h⟩ := h
  refine g_get (pc := 4) (v := va_rf (gR M a2 0)) C dX11_tellingSets_4 kX5 hk3 0 (by decide) q_288 rfl ?_
  replace h := bnd h; obtain ⟨a4, ea4, h⟩ := h
  refine g_refq ea4 ?_
  replace h := gd_some h; obtain ⟨hk5, h⟩ := h
  refine g_get (pc := 7) (v := .int (gI M a4 8)) C dX11_tellingSets_7 kX3 hk5 8 (by decide) q_244 rfl ?_
  refine g_topi (fun v6 ev6 => ?_)
  replace h := lt_at ev6 h
  refine g_istore (pc := 10) (lo2 := [(4, .int (v6)), (0, .ref (x0)), (1, .int (x1)), (2, .int (x2)), (3, .int (x3))]) C dX11_tellingSets_10 (by decide) rfl ?_
  refine g_ldcw (pc := 12) C dX11_tellingSets_12 q_1060 ?_
  refine g_istore (pc := 15) (lo2 := [(5, .int ((16777215 : Int32))), (4, .int (v6)), (0, .ref (x0)), (1, .int (x1)), (2, .int (x2)), (3, .int (x3))]) C dX11_tellingSets_15 (by decide) rfl ?_
  refine g_iconst (pc := 17) (v := 0) C dX11_tellingSets_17 (by decide) ?_
  refine g_istore (pc := 18) (lo2 := [(6, .int ((0 : Int32))), (5, .int ((16777215 : Int32))), (4, .int (v6)), (0, .ref (x0)), (1, .int (x1)), (2, .int (x2)), (3, .int (x3))]) C dX11_tellingSets_18 (by decide) rfl ?_
  replace h := bnd2 h; obtain ⟨x5_22, M23, h1, h⟩ := h
  refine g_sub [3, 4, 5, 6, 2, 1, 0] rfl ?_
  refine lp_G2 (P := PX11_tellingSets_20 X B _ _ T x0 x1 x2 x3 v6) (E := EX11_tellingSets_20 X B _ _ T x0 x1 x2 x3 v6) (tbX11_tellingSets_20 C hd) h1 ?_
  show G X B 10 _ _ 64 [(0, .ref (x0)), (4, .int (v6)), (5, .int (x5_22))] [] T M23
  refine g_iconst (pc := 64) (v := 0) C dX11_tellingSets_64 (by decide) ?_
  refine g_istore (pc := 65) (lo2 := [(6, .int ((0 : Int32))), (0, .ref (x0)), (4, .int (v6)), (5, .int (x5_22))]) C dX11_tellingSets_65 (by decide) rfl ?_
  refine g_iconst (pc := 67) (v := 0) C dX11_tellingSets_67 (by decide) ?_
  refine g_istore (pc := 68) (lo2 := [(7, .int ((0 : Int32))), (6, .int ((0 : Int32))), (0, .ref (x0)), (4, .int (v6)), (5, .int (x5_22))]) C dX11_tellingSets_68 (by decide) rfl ?_
  replace h := bnd h; obtain ⟨x6_41, h1, h⟩ := h
  refine g_sub [2, 3, 4, 1, 0] rfl ?_
  refine lp_G2 (P := PX11_tellingSets_70 X B _ _ T M23 x0 v6 x5_22) (E := EX11_tellingSets_70 X B _ _ T M23 x0 v6 x5_22) (tbX11_tellingSets_70 C hd) h1 ?_
  show G X B 10 _ _ 154 [(6, .int (x6_41))] [] T M23
  refine g_iload (pc := 154) C dX11_tellingSets_154 0 rfl ?_
  obtain ⟨rfl, rfl⟩ := Prod.mk.inj (Option.some.inj h)
  exact g_iret C hR dX11_tellingSets_156
theorem dX11_unseen_0 : decode cX11_unseen 0 = .ok (.iload_n 1, 1) := by decide +kernel
theorem dX11_unseen_1 : decode cX11_unseen 1 = .ok (.invokestatic 185, 3) := by decide +kernel
theorem dX11_unseen_4 : decode cX11_unseen 4 = .ok (.ifCond .ne 11, 3) := by decide +kernel
theorem dX11_unseen_7 : decode cX11_unseen 7 = .ok (.aload_n 0, 1) := by decide +kernel
theorem dX11_unseen_8 : decode cX11_unseen 8 = .ok (.iload_n 2, 1) := by decide +kernel
theorem dX11_unseen_9 : decode cX11_unseen 9 = .ok (.invokevirtual 107, 3) := by decide +kernel
theorem dX11_unseen_12 : decode cX11_unseen 12 = .ok (.ifCond .eq 6, 3) := by decide +kernel
theorem dX11_unseen_15 : decode cX11_unseen 15 = .ok (.bipush (-2), 2) := by decide +kernel
theorem dX11_unseen_17 : decode cX11_unseen 17 = .ok (.ireturn, 1) := by decide +kernel
theorem dX11_unseen_18 : decode cX11_unseen 18 = .ok (.aload_n 0, 1) := by decide +kernel
theorem dX11_unseen_19 : decode cX11_unseen 19 = .ok (.getfield 55, 3) := by decide +kernel
theorem dX11_unseen_22 : decode cX11_unseen 22 = .ok (.iload_n 1, 1) := by decide +kernel
theorem dX11_unseen_23 : decode cX11_unseen 23 = .ok (.aaload, 1) := by decide +kernel
theorem dX11_unseen_24 : decode cX11_unseen 24 = .ok (.astore_n 3, 1) := by decide +kernel
theorem dX11_unseen_25 : decode cX11_unseen 25 = .ok (.aload_n 3, 1) := by decide +kernel
theorem dX11_unseen_26 : decode cX11_unseen 26 = .ok (.invokevirtual 188, 3) := by decide +kernel
theorem dX11_unseen_29 : decode cX11_unseen 29 = .ok (.ifCond .eq 6, 3) := by decide +kernel
theorem dX11_unseen_32 : decode cX11_unseen 32 = .ok (.bipush (-6), 2) := by decide +kernel
theorem dX11_unseen_34 : decode cX11_unseen 34 = .ok (.ireturn, 1) := by decide +kernel
theorem dX11_unseen_35 : decode cX11_unseen 35 = .ok (.aload_n 3, 1) := by decide +kernel
theorem dX11_unseen_36 : decode cX11_unseen 36 = .ok (.getfield 196, 3) := by decide +kernel
theorem dX11_unseen_39 : decode cX11_unseen 39 = .ok (.iconst 1, 1) := by decide +kernel
theorem dX11_unseen_40 : decode cX11_unseen 40 = .ok (.if_icmp .lt 12, 3) := by decide +kernel
theorem dX11_unseen_43 : decode cX11_unseen 43 = .ok (.aload_n 3, 1) := by decide +kernel
theorem dX11_unseen_44 : decode cX11_unseen 44 = .ok (.getfield 196, 3) := by decide +kernel
theorem dX11_unseen_47 : decode cX11_unseen 47 = .ok (.bipush 8, 2) := by decide +kernel
theorem dX11_unseen_49 : decode cX11_unseen 49 = .ok (.if_icmp .le 6, 3) := by decide +kernel
theorem dX11_unseen_52 : decode cX11_unseen 52 = .ok (.bipush (-4), 2) := by decide +kernel
theorem dX11_unseen_54 : decode cX11_unseen 54 = .ok (.ireturn, 1) := by decide +kernel
theorem dX11_unseen_55 : decode cX11_unseen 55 = .ok (.iconst 0, 1) := by decide +kernel
theorem dX11_unseen_56 : decode cX11_unseen 56 = .ok (.istore 4, 2) := by decide +kernel
theorem dX11_unseen_58 : decode cX11_unseen 58 = .ok (.iload 4, 2) := by decide +kernel
theorem dX11_unseen_60 : decode cX11_unseen 60 = .ok (.aload_n 3, 1) := by decide +kernel
theorem dX11_unseen_61 : decode cX11_unseen 61 = .ok (.getfield 196, 3) := by decide +kernel
theorem dX11_unseen_64 : decode cX11_unseen 64 = .ok (.if_icmp .ge 38, 3) := by decide +kernel
theorem dX11_unseen_67 : decode cX11_unseen 67 = .ok (.aload_n 3, 1) := by decide +kernel
theorem dX11_unseen_68 : decode cX11_unseen 68 = .ok (.getfield 199, 3) := by decide +kernel
theorem dX11_unseen_71 : decode cX11_unseen 71 = .ok (.iload 4, 2) := by decide +kernel
theorem dX11_unseen_73 : decode cX11_unseen 73 = .ok (.laload, 1) := by decide +kernel
theorem dX11_unseen_74 : decode cX11_unseen 74 = .ok (.lconst 0, 1) := by decide +kernel
theorem dX11_unseen_75 : decode cX11_unseen 75 = .ok (.lcmp, 1) := by decide +kernel
theorem dX11_unseen_76 : decode cX11_unseen 76 = .ok (.ifCond .lt 17, 3) := by decide +kernel
theorem dX11_unseen_79 : decode cX11_unseen 79 = .ok (.aload_n 3, 1) := by decide +kernel
theorem dX11_unseen_80 : decode cX11_unseen 80 = .ok (.getfield 199, 3) := by decide +kernel
theorem dX11_unseen_83 : decode cX11_unseen 83 = .ok (.iload 4, 2) := by decide +kernel
theorem dX11_unseen_85 : decode cX11_unseen 85 = .ok (.laload, 1) := by decide +kernel
theorem dX11_unseen_86 : decode cX11_unseen 86 = .ok (.ldc2_w 374, 3) := by decide +kernel
theorem dX11_unseen_89 : decode cX11_unseen 89 = .ok (.lcmp, 1) := by decide +kernel
theorem dX11_unseen_90 : decode cX11_unseen 90 = .ok (.ifCond .le 6, 3) := by decide +kernel
theorem dX11_unseen_93 : decode cX11_unseen 93 = .ok (.bipush (-3), 2) := by decide +kernel
theorem dX11_unseen_95 : decode cX11_unseen 95 = .ok (.ireturn, 1) := by decide +kernel
theorem dX11_unseen_96 : decode cX11_unseen 96 = .ok (.iinc 4 1, 3) := by decide +kernel
theorem dX11_unseen_99 : decode cX11_unseen 99 = .ok (.goto (-41), 3) := by decide +kernel
theorem dX11_unseen_102 : decode cX11_unseen 102 = .ok (.iconst 0, 1) := by decide +kernel
theorem dX11_unseen_103 : decode cX11_unseen 103 = .ok (.ireturn, 1) := by decide +kernel
theorem wX11_unseen : Mw yX11_unseen cX11_unseen 5 (some .int) 2 := ⟨q_1142, q_120, by decide, ⟨by decide +kernel, by decide +kernel⟩, by decide +kernel, by decide +kernel⟩
-- a loop of EyeTrainer.unseen at 58
def bX11_unseen_58 (T : Sh) (M : Me) (x3 : Nat) (x4 : Int32) : Option ((Int32) ⊕ (Unit ⊕ Unit)) :=
  gd (kd T x3 = 9) <| if (gI M x3 2) ≤ x4 then (some (.inr (.inr ()))) else (Option.bind (gR M x3 0) fun a17 => gd (kd T a17 = 14) <| gv x4 (ln T a17) <| if (lg_cmp (gJ M a17 (Int32.toNatClampNeg x4)) (0 : Int64)) < 0 then (some (.inr (.inl ()))) else (Option.bind (gR M x3 0) fun a21 => gd (kd T a21 = 14) <| gv x4 (ln T a21) <| if (lg_cmp (gJ M a21 (Int32.toNatClampNeg x4)) (767 : Int64)) ≤ 0 then (lt (x4 + (1 : Int32)) fun v25 => some (.inl v25)) else (some (.inr (.inl ())))))
def PX11_unseen_58 (X : Fx) (B : Bx) (Z : Nat × Nat × Nat × Nat) (Q : State → Prop) (T : Sh) (M : Me) (x3 : Nat) (s : Int32) : Prop := G X B 5 Z Q 58 [(3, .ref (x3)), (4, .int (s))] [] T M
def EX11_unseen_58 (X : Fx) (B : Bx) (Z : Nat × Nat × Nat × Nat) (Q : State → Prop) (T : Sh) (M : Me) (x3 : Nat) (r : Unit ⊕ Unit) : Prop := Sum.elim (fun r => G X B 5 Z Q 93 [] [] T M) (fun r => G X B 5 Z Q 102 [] [] T M) r
set_option maxHeartbeats 4000000 in
theorem tbX11_unseen_58 {X : Fx} {B : Bx} {Z : Nat × Nat × Nat × Nat} {Q : State → Prop} {d : Nat} {T : Sh} {M : Me} (C : Cx X B cX11_unseen 5 RX11 d Z) (hd : 1 ≤ d) {x3 : Nat} : ∀ (s : Int32) (o : (Int32) ⊕ (Unit ⊕ Unit)), bX11_unseen_58 T M x3 s = some o → lpE (PX11_unseen_58 X B Z Q T M x3) (EX11_unseen_58 X B Z Q T M x3) o → PX11_unseen_58 X B Z Q T M x3 s := by
  rintro x4 o h hE
  replace h : bX11_unseen_58 T M x3 x4 = some o := h
  unfold bX11_unseen_58 at h
  show G X B 5 Z Q 58 [(3, .ref (x3)), (4, .int (x4))] [] T M
  refine g_iload (pc := 58) C dX11_unseen_58 1 rfl ?_
  refine g_aload_n (pc := 60) C dX11_unseen_60 rfl 0 rfl ?_
  replace h := gd_some h; obtain ⟨hk15, h⟩ := h
  refine g_get (pc := 61) (v := .int (gI M x3 2)) C dX11_unseen_61 kX10 hk15 2 (by decide) q_399 rfl ?_
  refine g_icmp_ge (pc := 64) (tgt := 102) C dX11_unseen_64 (by decide) (fun c16 => ?_) (fun c16 => ?_)
  · replace h := ifp c16 h
    obtain rfl := Option.some.inj h
    exact g_sub [] rfl (show G X B 5 Z Q 102 [] [] T M from hE)
  · replace h := ifn c16 h
    refine g_aload_n (pc := 67) C dX11_unseen_67 rfl 0 rfl ?_
    refine g_get (pc := 68) (v := va_rf (gR M x3 0)) C dX11_unseen_68 kX10 hk15 0 (by decide) q_396 rfl ?_
    replace h := bnd h; obtain ⟨a17, ea17, h⟩ := h
    refine g_refq ea17 ?_
    refine g_iload (pc := 71) C dX11_unseen_71 1 rfl ?_
    replace h := gd_some h; obtain ⟨hk18, h⟩ := h
    replace h := gv_some h; obtain ⟨hi19, h⟩ := h
    refine g_lald (pc := 73) C dX11_unseen_73 hk18 hi19 ?_
    refine g_lconst (pc := 74) (v := 0) C dX11_unseen_74 rfl ?_
    refine g_lcmp (pc := 75) C dX11_unseen_75 ?_
    refine g_if_lt (pc := 76) (tgt := 93) C dX11_unseen_76 (by decide) (fun c20 => ?_) (fun c20 => ?_)
    · replace h := ifp c20 h
      obtain rfl := Option.some.inj h
      exact g_sub [] rfl (show G X B 5 Z Q 93 [] [] T M from hE)
    · replace h := ifn c20 h
      refine g_aload_n (pc := 79) C dX11_unseen_79 rfl 0 rfl ?_
      refine g_get (pc := 80) (v := va_rf (gR M x3 0)) C dX11_unseen_80 kX10 hk15 0 (by decide) q_396 rfl ?_
      replace h := bnd h; obtain ⟨a21, ea21, h⟩ := h
      refine g_refq ea21 ?_
      refine g_iload (pc := 83) C dX11_unseen_83 1 rfl ?_
      replace h := gd_some h; obtain ⟨hk22, h⟩ := h
      replace h := gv_some h; obtain ⟨hi23, h⟩ := h
      refine g_lald (pc := 85) C dX11_unseen_85 hk22 hi23 ?_
      refine g_ldc2 (pc := 86) C dX11_unseen_86 q_1143 ?_
      refine g_lcmp (pc := 89) C dX11_unseen_89 ?_
      refine g_if_le (pc := 90) (tgt := 96) C dX11_unseen_90 (by decide) (fun c24 => ?_) (fun c24 => ?_)
      · replace h := ifp c24 h
        obtain ⟨v25, ev25⟩ : ∃ y : Int32, y = x4 + (1 : Int32) := ⟨_, rfl⟩
        replace h := lt_at ev25 h
        refine g_iinc (pc := 96) (v := v25) (k := 1) (lo2 := [(4, .int (v25)), (3, .ref (x3))]) C dX11_unseen_96 rfl (by rw [ev25]; rfl) (by decide) rfl ?_
        refine g_goto (pc := 99) (tgt := 58) C dX11_unseen_99 (by decide) ?_
        obtain rfl := Option.some.inj h
        exact g_sub [1, 0] rfl (show G X B 5 Z Q 58 [(3, .ref (x3)), (4, .int (v25))] [] T M from hE)
      · replace h := ifn c24 h
        obtain rfl := Option.some.inj h
        exact g_sub [] rfl (show G X B 5 Z Q 93 [] [] T M from hE)
/-- EyeTrainer.unseen(II)I -/
def fX11_unseen (T : Sh) (M : Me) (x0 : Nat) (x1 : Int32) (x2 : Int32) : Option (Int32) :=
  Option.bind (fX11_noTray x1) fun r1 => if r1 = 0 then (gd (kd T x0 = 10) <| Option.bind (fX11_noLane T M x0 x2) fun r4 => if r4 = 0 then (Option.bind (gR M x0 9) fun a6 => gd (kd T a6 = 18) <| gv x1 (ln T a6) <| Option.bind (gR M a6 (Int32.toNatClampNeg x1)) fun a9 => gd (kd T a9 = 9) <| Option.bind (fX10_isMissing T M a9) fun r11 => if r11 = 0 then (if (gI M a9 2) < (1 : Int32) then (some (-4 : Int32)) else (if (gI M a9 2) ≤ (8 : Int32) then ((lp FU (fun s => bX11_unseen_58 T M a9 s) (0 : Int32)).bind (Sum.elim (fun _ => some (-3 : Int32)) (fun _ => some (0 : Int32)))) else (some (-4 : Int32)))) else (some (-6 : Int32))) else (some (-2 : Int32))) else (some (-2 : Int32))
set_option maxHeartbeats 4000000 in
theorem kX11_unseen {l : Launch} {B : Bx} {d : Nat} (hd : 1 ≤ d) {T : Sh} {M : Me} {x0 : Nat} {x1 : Int32} {x2 : Int32} {r : Int32} (h : fX11_unseen T M x0 x1 x2 = some r) : Kt l B yX11_unseen cX11_unseen 5 (some .int) d [.ref (x0), .int (x1), .int (x2)] T M (some (.int r)) T M := by
  refine kt_of wX11_unseen (Nat.le_refl _) (Nat.le_refl _) (Nat.le_of_ble_eq_true rfl) (fun X C hR hlx hin => ?_)
  subst hlx
  replace C : Cx X B cX11_unseen 5 RX11 d (tp T, sl T, tp T, sl T) := C
  unfold fX11_unseen at h
  show G X B 5 _ _ 0 [(0, .ref (x0)), (1, .int (x1)), (2, .int (x2))] [] T M
  refine g_iload_n (pc := 0) C dX11_unseen_0 rfl 1 rfl ?_
  replace h := bnd h; obtain ⟨r1, h1, h⟩ := h
  refine g_callSi (pc := 1) (As := [.int (x1)]) (st := []) C dX11_unseen_1 wX11_noTray q_952 q_951 (by omega) rfl (Nat.le_of_ble_eq_true rfl) (kX11_noTray (d := 0) (Nat.le_refl _) h1) ?_
  refine g_if_ne (pc := 4) (tgt := 15) C dX11_unseen_4 (by decide) (fun c2 => ?_) (fun c2 => ?_)
  · replace h := ifn c2 h
    refine g_bipush (pc := 15) (v := (-2)) C dX11_unseen_15 (by decide) ?_
    obtain rfl := Option.some.inj h
    exact g_iret C hR dX11_unseen_17
  · replace h := ifp c2 h
    refine g_aload_n (pc := 7) C dX11_unseen_7 rfl 0 rfl ?_
    refine g_iload_n (pc := 8) C dX11_unseen_8 rfl 2 rfl ?_
    replace h := gd_some h; obtain ⟨hk3, h⟩ := h
    replace h := bnd h; obtain ⟨r4, h1, h⟩ := h
    refine g_callVi (pc := 9) (As := [.int (x2)]) (st := []) C dX11_unseen_9 wX11_noLane hk3 rfl (by decide) q_769 q_20 q_767 (by omega) rfl (Nat.le_of_ble_eq_true rfl) (kX11_noLane (d := 0) (Nat.le_refl _) h1) ?_
    refine g_if_eq (pc := 12) (tgt := 18) C dX11_unseen_12 (by decide) (fun c5 => ?_) (fun c5 => ?_)
    · replace h := ifp c5 h
      refine g_aload_n (pc := 18) C dX11_unseen_18 rfl 0 rfl ?_
      refine g_get (pc := 19) (v := va_rf (gR M x0 9)) C dX11_unseen_19 kX11 hk3 9 (by decide) q_433 rfl ?_
      replace h := bnd h; obtain ⟨a6, ea6, h⟩ := h
      refine g_refq ea6 ?_
      refine g_iload_n (pc := 22) C dX11_unseen_22 rfl 1 rfl ?_
      replace h := gd_some h; obtain ⟨hk7, h⟩ := h
      replace h := gv_some h; obtain ⟨hi8, h⟩ := h
      refine g_aald18 (pc := 23) C dX11_unseen_23 hk7 hi8 ?_
      replace h := bnd h; obtain ⟨a9, ea9, h⟩ := h
      refine g_refq ea9 ?_
      refine g_astore_n (pc := 24) (lo2 := [(3, .ref (a9)), (0, .ref (x0)), (1, .int (x1)), (2, .int (x2))]) C dX11_unseen_24 rfl (by decide) rfl ?_
      refine g_aload_n (pc := 25) C dX11_unseen_25 rfl 0 rfl ?_
      replace h := gd_some h; obtain ⟨hk10, h⟩ := h
      replace h := bnd h; obtain ⟨r11, h1, h⟩ := h
      refine g_callVi (pc := 26) (As := []) (st := []) C dX11_unseen_26 wX10_isMissing hk10 rfl (by decide) q_955 q_956 q_954 (by omega) rfl (Nat.le_of_ble_eq_true rfl) (kX10_isMissing (d := 0) (Nat.le_refl _) h1) ?_
      refine g_if_eq (pc := 29) (tgt := 35) C dX11_unseen_29 (by decide) (fun c12 => ?_) (fun c12 => ?_)
      · replace h := ifp c12 h
        refine g_aload_n (pc := 35) C dX11_unseen_35 rfl 0 rfl ?_
        refine g_get (pc := 36) (v := .int (gI M a9 2)) C dX11_unseen_36 kX10 hk10 2 (by decide) q_399 rfl ?_
        refine g_iconst (pc := 39) (v := 1) C dX11_unseen_39 (by decide) ?_
        refine g_icmp_lt (pc := 40) (tgt := 52) C dX11_unseen_40 (by decide) (fun c13 => ?_) (fun c13 => ?_)
        · replace h := ifp c13 h
          refine g_bipush (pc := 52) (v := (-4)) C dX11_unseen_52 (by decide) ?_
          obtain rfl := Option.some.inj h
          exact g_iret C hR dX11_unseen_54
        · replace h := ifn c13 h
          refine g_aload_n (pc := 43) C dX11_unseen_43 rfl 0 rfl ?_
          refine g_get (pc := 44) (v := .int (gI M a9 2)) C dX11_unseen_44 kX10 hk10 2 (by decide) q_399 rfl ?_
          refine g_bipush (pc := 47) (v := 8) C dX11_unseen_47 (by decide) ?_
          refine g_icmp_le (pc := 49) (tgt := 55) C dX11_unseen_49 (by decide) (fun c14 => ?_) (fun c14 => ?_)
          · replace h := ifp c14 h
            refine g_iconst (pc := 55) (v := 0) C dX11_unseen_55 (by decide) ?_
            refine g_istore (pc := 56) (lo2 := [(4, .int ((0 : Int32))), (3, .ref (a9)), (0, .ref (x0)), (1, .int (x1)), (2, .int (x2))]) C dX11_unseen_56 (by decide) rfl ?_
            replace h := bndE h; rcases h with ⟨a1, h1, h⟩ | ⟨a1, h1, h⟩
            · refine g_sub [1, 0] rfl ?_
              refine lp_G2 (P := PX11_unseen_58 X B _ _ T M a9) (E := EX11_unseen_58 X B _ _ T M a9) (tbX11_unseen_58 C hd) h1 ?_
              show G X B 5 _ _ 93 [] [] T M
              refine g_bipush (pc := 93) (v := (-3)) C dX11_unseen_93 (by decide) ?_
              obtain rfl := Option.some.inj h
              exact g_iret C hR dX11_unseen_95
            · refine g_sub [1, 0] rfl ?_
              refine lp_G2 (P := PX11_unseen_58 X B _ _ T M a9) (E := EX11_unseen_58 X B _ _ T M a9) (tbX11_unseen_58 C hd) h1 ?_
              show G X B 5 _ _ 102 [] [] T M
              refine g_iconst (pc := 102) (v := 0) C dX11_unseen_102 (by decide) ?_
              obtain rfl := Option.some.inj h
              exact g_iret C hR dX11_unseen_103
          · replace h := ifn c14 h
            refine g_bipush (pc := 52) (v := (-4)) C dX11_unseen_52 (by decide) ?_
            obtain rfl := Option.some.inj h
            exact g_iret C hR dX11_unseen_54
      · replace h := ifn c12 h
        refine g_bipush (pc := 32) (v := (-6)) C dX11_unseen_32 (by decide) ?_
        obtain rfl := Option.some.inj h
        exact g_iret C hR dX11_unseen_34
    · replace h := ifn c5 h
      refine g_bipush (pc := 15) (v := (-2)) C dX11_unseen_15 (by decide) ?_
      obtain rfl := Option.some.inj h
      exact g_iret C hR dX11_unseen_17
theorem dX11_agrees_0 : decode cX11_agrees 0 = .ok (.iconst 0, 1) := by decide +kernel
theorem dX11_agrees_1 : decode cX11_agrees 1 = .ok (.istore 4, 2) := by decide +kernel
theorem dX11_agrees_3 : decode cX11_agrees 3 = .ok (.iload 4, 2) := by decide +kernel
theorem dX11_agrees_5 : decode cX11_agrees 5 = .ok (.aload_n 1, 1) := by decide +kernel
theorem dX11_agrees_6 : decode cX11_agrees 6 = .ok (.getfield 196, 3) := by decide +kernel
theorem dX11_agrees_9 : decode cX11_agrees 9 = .ok (.if_icmp .ge 67, 3) := by decide +kernel
theorem dX11_agrees_12 : decode cX11_agrees 12 = .ok (.aload_n 1, 1) := by decide +kernel
theorem dX11_agrees_13 : decode cX11_agrees 13 = .ok (.getfield 199, 3) := by decide +kernel
theorem dX11_agrees_16 : decode cX11_agrees 16 = .ok (.iload 4, 2) := by decide +kernel
theorem dX11_agrees_18 : decode cX11_agrees 18 = .ok (.laload, 1) := by decide +kernel
theorem dX11_agrees_19 : decode cX11_agrees 19 = .ok (.l2i, 1) := by decide +kernel
theorem dX11_agrees_20 : decode cX11_agrees 20 = .ok (.istore 5, 2) := by decide +kernel
theorem dX11_agrees_22 : decode cX11_agrees 22 = .ok (.iload 5, 2) := by decide +kernel
theorem dX11_agrees_24 : decode cX11_agrees 24 = .ok (.iconst 2, 1) := by decide +kernel
theorem dX11_agrees_25 : decode cX11_agrees 25 = .ok (.idiv, 1) := by decide +kernel
theorem dX11_agrees_26 : decode cX11_agrees 26 = .ok (.istore 6, 2) := by decide +kernel
theorem dX11_agrees_28 : decode cX11_agrees 28 = .ok (.aload_n 0, 1) := by decide +kernel
theorem dX11_agrees_29 : decode cX11_agrees 29 = .ok (.getfield 28, 3) := by decide +kernel
theorem dX11_agrees_32 : decode cX11_agrees 32 = .ok (.iload_n 2, 1) := by decide +kernel
theorem dX11_agrees_33 : decode cX11_agrees 33 = .ok (.aload_n 0, 1) := by decide +kernel
theorem dX11_agrees_34 : decode cX11_agrees 34 = .ok (.getfield 42, 3) := by decide +kernel
theorem dX11_agrees_37 : decode cX11_agrees 37 = .ok (.getfield 179, 3) := by decide +kernel
theorem dX11_agrees_40 : decode cX11_agrees 40 = .ok (.iload_n 3, 1) := by decide +kernel
theorem dX11_agrees_41 : decode cX11_agrees 41 = .ok (.iload 6, 2) := by decide +kernel
theorem dX11_agrees_43 : decode cX11_agrees 43 = .ok (.bipush 24, 2) := by decide +kernel
theorem dX11_agrees_45 : decode cX11_agrees 45 = .ok (.idiv, 1) := by decide +kernel
theorem dX11_agrees_46 : decode cX11_agrees 46 = .ok (.invokevirtual 289, 3) := by decide +kernel
theorem dX11_agrees_49 : decode cX11_agrees 49 = .ok (.istore 7, 2) := by decide +kernel
theorem dX11_agrees_51 : decode cX11_agrees 51 = .ok (.iload 7, 2) := by decide +kernel
theorem dX11_agrees_53 : decode cX11_agrees 53 = .ok (.iload 6, 2) := by decide +kernel
theorem dX11_agrees_55 : decode cX11_agrees 55 = .ok (.bipush 24, 2) := by decide +kernel
theorem dX11_agrees_57 : decode cX11_agrees 57 = .ok (.irem, 1) := by decide +kernel
theorem dX11_agrees_58 : decode cX11_agrees 58 = .ok (.ishr, 1) := by decide +kernel
theorem dX11_agrees_59 : decode cX11_agrees 59 = .ok (.iconst 1, 1) := by decide +kernel
theorem dX11_agrees_60 : decode cX11_agrees 60 = .ok (.iand, 1) := by decide +kernel
theorem dX11_agrees_61 : decode cX11_agrees 61 = .ok (.iload 5, 2) := by decide +kernel
theorem dX11_agrees_63 : decode cX11_agrees 63 = .ok (.iconst 1, 1) := by decide +kernel
theorem dX11_agrees_64 : decode cX11_agrees 64 = .ok (.iand, 1) := by decide +kernel
theorem dX11_agrees_65 : decode cX11_agrees 65 = .ok (.if_icmp .eq 5, 3) := by decide +kernel
theorem dX11_agrees_68 : decode cX11_agrees 68 = .ok (.iconst 0, 1) := by decide +kernel
theorem dX11_agrees_69 : decode cX11_agrees 69 = .ok (.ireturn, 1) := by decide +kernel
theorem dX11_agrees_70 : decode cX11_agrees 70 = .ok (.iinc 4 1, 3) := by decide +kernel
theorem dX11_agrees_73 : decode cX11_agrees 73 = .ok (.goto (-70), 3) := by decide +kernel
theorem dX11_agrees_76 : decode cX11_agrees 76 = .ok (.iconst 1, 1) := by decide +kernel
theorem dX11_agrees_77 : decode cX11_agrees 77 = .ok (.ireturn, 1) := by decide +kernel
theorem wX11_agrees : Mw yX11_agrees cX11_agrees 8 (some .boolean) 3 := ⟨q_1151, q_120, by decide, ⟨by decide +kernel, by decide +kernel⟩, by decide +kernel, by decide +kernel⟩
-- a loop of EyeTrainer.agrees at 3
def bX11_agrees_3 (T : Sh) (x0 : Nat) (x1 : Nat) (x2 : Int32) (x3 : Int32) (x4 : Int32) (M : Me) : Option ((Int32 × Me) ⊕ (Me ⊕ Me)) :=
  gd (kd T x1 = 9) <| if (gI M x1 2) ≤ x4 then (some (.inr (.inr M))) else (Option.bind (gR M x1 0) fun a3 => gd (kd T a3 = 14) <| gv x4 (ln T a3) <| lt (Int64.toInt32 (gJ M a3 (Int32.toNatClampNeg x4))) fun v6 => lt (v6 / (2 : Int32)) fun v7 => gd (kd T x0 = 10) <| Option.bind (gR M x0 3) fun a9 => Option.bind (gR M x0 5) fun a10 => gd (kd T a10 = 7) <| gd (kd T a9 = 4) <| Option.bind (fX5_passing T M a9 x2 (gI M a10 2) x3 (v7 / (24 : Int32))) <| un2 fun r13 M14 => if ((r13 >>> ((v7 - v7 / (24 : Int32) * (24 : Int32)) &&& 31)) &&& (1 : Int32)) = (v6 &&& (1 : Int32)) then (lt (x4 + (1 : Int32)) fun v16 => some (.inl (v16, M14))) else (some (.inr (.inl M14))))
def PX11_agrees_3 (X : Fx) (B : Bx) (Z : Nat × Nat × Nat × Nat) (Q : State → Prop) (T : Sh) (x0 : Nat) (x1 : Nat) (x2 : Int32) (x3 : Int32) (s : Int32 × Me) : Prop := G X B 8 Z Q 3 [(0, .ref (x0)), (1, .ref (x1)), (2, .int (x2)), (3, .int (x3)), (4, .int (s.1))] [] T s.2
def EX11_agrees_3 (X : Fx) (B : Bx) (Z : Nat × Nat × Nat × Nat) (Q : State → Prop) (T : Sh) (x0 : Nat) (x1 : Nat) (x2 : Int32) (x3 : Int32) (r : Me ⊕ Me) : Prop := Sum.elim (fun r => G X B 8 Z Q 68 [] [] T r) (fun r => G X B 8 Z Q 76 [] [] T r) r
set_option maxHeartbeats 4000000 in
theorem tbX11_agrees_3 {X : Fx} {B : Bx} {Z : Nat × Nat × Nat × Nat} {Q : State → Prop} {d : Nat} {T : Sh} (C : Cx X B cX11_agrees 8 RX11 d Z) (hd : 3 ≤ d) {x0 : Nat} {x1 : Nat} {x2 : Int32} {x3 : Int32} : ∀ (s : Int32 × Me) (o : (Int32 × Me) ⊕ (Me ⊕ Me)), bX11_agrees_3 T x0 x1 x2 x3 s.1 s.2 = some o → lpE (PX11_agrees_3 X B Z Q T x0 x1 x2 x3) (EX11_agrees_3 X B Z Q T x0 x1 x2 x3) o → PX11_agrees_3 X B Z Q T x0 x1 x2 x3 s := by
  rintro ⟨x4, M⟩ o h hE
  replace h : bX11_agrees_3 T x0 x1 x2 x3 x4 M = some o := h
  unfold bX11_agrees_3 at h
  show G X B 8 Z Q 3 [(0, .ref (x0)), (1, .ref (x1)), (2, .int (x2)), (3, .int (x3)), (4, .int (x4))] [] T M
  refine g_iload (pc := 3) C dX11_agrees_3 4 rfl ?_
  refine g_aload_n (pc := 5) C dX11_agrees_5 rfl 1 rfl ?_
  replace h := gd_some h; obtain ⟨hk1, h⟩ := h
  refine g_get (pc := 6) (v := .int (gI M x1 2)) C dX11_agrees_6 kX10 hk1 2 (by decide) q_399 rfl ?_
  refine g_icmp_ge (pc := 9) (tgt := 76) C dX11_agrees_9 (by decide) (fun c2 => ?_) (fun c2 => ?_)
  · replace h := ifp c2 h
    obtain rfl := Option.some.inj h
    exact g_sub [] rfl (show G X B 8 Z Q 76 [] [] T M from hE)
  · replace h := ifn c2 h
    refine g_aload_n (pc := 12) C dX11_agrees_12 rfl 1 rfl ?_
    refine g_get (pc := 13) (v := va_rf (gR M x1 0)) C dX11_agrees_13 kX10 hk1 0 (by decide) q_396 rfl ?_
    replace h := bnd h; obtain ⟨a3, ea3, h⟩ := h
    refine g_refq ea3 ?_
    refine g_iload (pc := 16) C dX11_agrees_16 4 rfl ?_
    replace h := gd_some h; obtain ⟨hk4, h⟩ := h
    replace h := gv_some h; obtain ⟨hi5, h⟩ := h
    refine g_lald (pc := 18) C dX11_agrees_18 hk4 hi5 ?_
    refine g_l2i (pc := 19) C dX11_agrees_19 ?_
    refine g_topi (fun v6 ev6 => ?_)
    replace h := lt_at ev6 h
    refine g_istore (pc := 20) (lo2 := [(5, .int (v6)), (0, .ref (x0)), (1, .ref (x1)), (2, .int (x2)), (3, .int (x3)), (4, .int (x4))]) C dX11_agrees_20 (by decide) rfl ?_
    refine g_iload (pc := 22) C dX11_agrees_22 0 rfl ?_
    refine g_iconst (pc := 24) (v := 2) C dX11_agrees_24 (by decide) ?_
    refine g_idiv (pc := 25) C dX11_agrees_25 (by decide) ?_
    refine g_topi (fun v7 ev7 => ?_)
    replace h := lt_at ev7 h
    refine g_istore (pc := 26) (lo2 := [(6, .int (v7)), (5, .int (v6)), (0, .ref (x0)), (1, .ref (x1)), (2, .int (x2)), (3, .int (x3)), (4, .int (x4))]) C dX11_agrees_26 (by decide) rfl ?_
    refine g_aload_n (pc := 28) C dX11_agrees_28 rfl 2 rfl ?_
    replace h := gd_some h; obtain ⟨hk8, h⟩ := h
    refine g_get (pc := 29) (v := va_rf (gR M x0 3)) C dX11_agrees_29 kX11 hk8 3 (by decide) q_427 rfl ?_
    replace h := bnd h; obtain ⟨a9, ea9, h⟩ := h
    refine g_refq ea9 ?_
    refine g_iload_n (pc := 32) C dX11_agrees_32 rfl 4 rfl ?_
    refine g_aload_n (pc := 33) C dX11_agrees_33 rfl 2 rfl ?_
    refine g_get (pc := 34) (v := va_rf (gR M x0 5)) C dX11_agrees_34 kX11 hk8 5 (by decide) q_429 rfl ?_
    replace h := bnd h; obtain ⟨a10, ea10, h⟩ := h
    refine g_refq ea10 ?_
    replace h := gd_some h; obtain ⟨hk11, h⟩ := h
    refine g_get (pc := 37) (v := .int (gI M a10 2)) C dX11_agrees_37 kX8 hk11 2 (by decide) q_379 rfl ?_
    refine g_iload_n (pc := 40) C dX11_agrees_40 rfl 5 rfl ?_
    refine g_iload (pc := 41) C dX11_agrees_41 0 rfl ?_
    refine g_bipush (pc := 43) (v := 24) C dX11_agrees_43 (by decide) ?_
    refine g_idiv (pc := 45) C dX11_agrees_45 (by decide) ?_
    replace h := gd_some h; obtain ⟨hk12, h⟩ := h
    replace h := bnd2 h; obtain ⟨r13, M14, h1, h⟩ := h
    refine g_callVi (pc := 46) (As := [.int (x2), .int (gI M a10 2), .int (x3), .int (v7 / (24 : Int32))]) (st := []) C dX11_agrees_46 wX5_passing hk12 rfl (by decide) q_797 q_798 q_796 (by omega) rfl (Nat.le_of_ble_eq_true rfl) (kX5_passing (d := 2) (Nat.le_refl _) h1) ?_
    refine g_istore (pc := 49) (lo2 := [(7, .int (r13)), (6, .int (v7)), (5, .int (v6)), (0, .ref (x0)), (1, .ref (x1)), (2, .int (x2)), (3, .int (x3)), (4, .int (x4))]) C dX11_agrees_49 (by decide) rfl ?_
    refine g_iload (pc := 51) C dX11_agrees_51 0 rfl ?_
    refine g_iload (pc := 53) C dX11_agrees_53 1 rfl ?_
    refine g_bipush (pc := 55) (v := 24) C dX11_agrees_55 (by decide) ?_
    refine g_irem (pc := 57) C dX11_agrees_57 (by decide) ?_
    refine g_ishr (pc := 58) C dX11_agrees_58 ?_
    refine g_iconst (pc := 59) (v := 1) C dX11_agrees_59 (by decide) ?_
    refine g_iand (pc := 60) C dX11_agrees_60 ?_
    refine g_iload (pc := 61) C dX11_agrees_61 2 rfl ?_
    refine g_iconst (pc := 63) (v := 1) C dX11_agrees_63 (by decide) ?_
    refine g_iand (pc := 64) C dX11_agrees_64 ?_
    refine g_icmp_eq (pc := 65) (tgt := 70) C dX11_agrees_65 (by decide) (fun c15 => ?_) (fun c15 => ?_)
    · replace h := ifp c15 h
      obtain ⟨v16, ev16⟩ : ∃ y : Int32, y = x4 + (1 : Int32) := ⟨_, rfl⟩
      replace h := lt_at ev16 h
      refine g_iinc (pc := 70) (v := v16) (k := 7) (lo2 := [(4, .int (v16)), (7, .int (r13)), (6, .int (v7)), (5, .int (v6)), (0, .ref (x0)), (1, .ref (x1)), (2, .int (x2)), (3, .int (x3))]) C dX11_agrees_70 rfl (by rw [ev16]; rfl) (by decide) rfl ?_
      refine g_goto (pc := 73) (tgt := 3) C dX11_agrees_73 (by decide) ?_
      obtain rfl := Option.some.inj h
      exact g_sub [4, 5, 6, 7, 0] rfl (show G X B 8 Z Q 3 [(0, .ref (x0)), (1, .ref (x1)), (2, .int (x2)), (3, .int (x3)), (4, .int (v16))] [] T M14 from hE)
    · replace h := ifn c15 h
      obtain rfl := Option.some.inj h
      exact g_sub [] rfl (show G X B 8 Z Q 68 [] [] T M14 from hE)
/-- EyeTrainer.agrees(LEyeTrainer$Tray;II)Z -/
def fX11_agrees (T : Sh) (M : Me) (x0 : Nat) (x1 : Nat) (x2 : Int32) (x3 : Int32) : Option (Int32 × Me) :=
  (lp FU (fun s => bX11_agrees_3 T x0 x1 x2 x3 s.1 s.2) ((0 : Int32), M)).bind (Sum.elim (fun M17 => some ((0 : Int32), M17)) (fun M18 => some ((1 : Int32), M18)))
set_option maxHeartbeats 4000000 in
theorem kX11_agrees {l : Launch} {B : Bx} {d : Nat} (hd : 3 ≤ d) {T : Sh} {M : Me} {x0 : Nat} {x1 : Nat} {x2 : Int32} {x3 : Int32} {r : Int32} {M' : Me} (h : fX11_agrees T M x0 x1 x2 x3 = some (r, M')) : Kt l B yX11_agrees cX11_agrees 8 (some .boolean) d [.ref (x0), .ref (x1), .int (x2), .int (x3)] T M (some (.int r)) T M' := by
  refine kt_of wX11_agrees (Nat.le_refl _) (Nat.le_refl _) (Nat.le_of_ble_eq_true rfl) (fun X C hR hlx hin => ?_)
  subst hlx
  replace C : Cx X B cX11_agrees 8 RX11 d (tp T, sl T, tp T, sl T) := C
  unfold fX11_agrees at h
  show G X B 8 _ _ 0 [(0, .ref (x0)), (1, .ref (x1)), (2, .int (x2)), (3, .int (x3))] [] T M
  refine g_iconst (pc := 0) (v := 0) C dX11_agrees_0 (by decide) ?_
  refine g_istore (pc := 1) (lo2 := [(4, .int ((0 : Int32))), (0, .ref (x0)), (1, .ref (x1)), (2, .int (x2)), (3, .int (x3))]) C dX11_agrees_1 (by decide) rfl ?_
  replace h := bndE h; rcases h with ⟨M17, h1, h⟩ | ⟨M18, h1, h⟩
  · refine g_sub [1, 2, 3, 4, 0] rfl ?_
    refine lp_G2 (P := PX11_agrees_3 X B _ _ T x0 x1 x2 x3) (E := EX11_agrees_3 X B _ _ T x0 x1 x2 x3) (tbX11_agrees_3 C hd) h1 ?_
    show G X B 8 _ _ 68 [] [] T M17
    refine g_iconst (pc := 68) (v := 0) C dX11_agrees_68 (by decide) ?_
    obtain ⟨rfl, rfl⟩ := Prod.mk.inj (Option.some.inj h)
    exact g_zret C hR dX11_agrees_69 rfl
  · refine g_sub [1, 2, 3, 4, 0] rfl ?_
    refine lp_G2 (P := PX11_agrees_3 X B _ _ T x0 x1 x2 x3) (E := EX11_agrees_3 X B _ _ T x0 x1 x2 x3) (tbX11_agrees_3 C hd) h1 ?_
    show G X B 8 _ _ 76 [] [] T M18
    refine g_iconst (pc := 76) (v := 1) C dX11_agrees_76 (by decide) ?_
    obtain ⟨rfl, rfl⟩ := Prod.mk.inj (Option.some.inj h)
    exact g_zret C hR dX11_agrees_77 rfl
theorem dX11_seenDrifts_0 : decode cX11_seenDrifts 0 = .ok (.iconst 0, 1) := by decide +kernel
theorem dX11_seenDrifts_1 : decode cX11_seenDrifts 1 = .ok (.istore_n 3, 1) := by decide +kernel
theorem dX11_seenDrifts_2 : decode cX11_seenDrifts 2 = .ok (.iconst 0, 1) := by decide +kernel
theorem dX11_seenDrifts_3 : decode cX11_seenDrifts 3 = .ok (.istore 4, 2) := by decide +kernel
theorem dX11_seenDrifts_5 : decode cX11_seenDrifts 5 = .ok (.iload 4, 2) := by decide +kernel
theorem dX11_seenDrifts_7 : decode cX11_seenDrifts 7 = .ok (.bipush 31, 2) := by decide +kernel
theorem dX11_seenDrifts_9 : decode cX11_seenDrifts 9 = .ok (.if_icmp .ge 34, 3) := by decide +kernel
theorem dX11_seenDrifts_12 : decode cX11_seenDrifts 12 = .ok (.iload_n 3, 1) := by decide +kernel
theorem dX11_seenDrifts_13 : decode cX11_seenDrifts 13 = .ok (.aload_n 0, 1) := by decide +kernel
theorem dX11_seenDrifts_14 : decode cX11_seenDrifts 14 = .ok (.aload_n 1, 1) := by decide +kernel
theorem dX11_seenDrifts_15 : decode cX11_seenDrifts 15 = .ok (.iload_n 2, 1) := by decide +kernel
theorem dX11_seenDrifts_16 : decode cX11_seenDrifts 16 = .ok (.iload 4, 2) := by decide +kernel
theorem dX11_seenDrifts_18 : decode cX11_seenDrifts 18 = .ok (.bipush 15, 2) := by decide +kernel
theorem dX11_seenDrifts_20 : decode cX11_seenDrifts 20 = .ok (.isub, 1) := by decide +kernel
theorem dX11_seenDrifts_21 : decode cX11_seenDrifts 21 = .ok (.invokevirtual 376, 3) := by decide +kernel
theorem dX11_seenDrifts_24 : decode cX11_seenDrifts 24 = .ok (.ifCond .eq 10, 3) := by decide +kernel
theorem dX11_seenDrifts_27 : decode cX11_seenDrifts 27 = .ok (.iconst 1, 1) := by decide +kernel
theorem dX11_seenDrifts_28 : decode cX11_seenDrifts 28 = .ok (.iload 4, 2) := by decide +kernel
theorem dX11_seenDrifts_30 : decode cX11_seenDrifts 30 = .ok (.ishl, 1) := by decide +kernel
theorem dX11_seenDrifts_31 : decode cX11_seenDrifts 31 = .ok (.goto 4, 3) := by decide +kernel
theorem dX11_seenDrifts_34 : decode cX11_seenDrifts 34 = .ok (.iconst 0, 1) := by decide +kernel
theorem dX11_seenDrifts_35 : decode cX11_seenDrifts 35 = .ok (.ior, 1) := by decide +kernel
theorem dX11_seenDrifts_36 : decode cX11_seenDrifts 36 = .ok (.istore_n 3, 1) := by decide +kernel
theorem dX11_seenDrifts_37 : decode cX11_seenDrifts 37 = .ok (.iinc 4 1, 3) := by decide +kernel
theorem dX11_seenDrifts_40 : decode cX11_seenDrifts 40 = .ok (.goto (-35), 3) := by decide +kernel
theorem dX11_seenDrifts_43 : decode cX11_seenDrifts 43 = .ok (.iload_n 3, 1) := by decide +kernel
theorem dX11_seenDrifts_44 : decode cX11_seenDrifts 44 = .ok (.ireturn, 1) := by decide +kernel
theorem wX11_seenDrifts : Mw yX11_seenDrifts cX11_seenDrifts 5 (some .int) 2 := ⟨q_1147, q_120, by decide, ⟨by decide +kernel, by decide +kernel⟩, by decide +kernel, by decide +kernel⟩
-- a loop of EyeTrainer.seenDrifts at 5
def bX11_seenDrifts_5 (T : Sh) (x0 : Nat) (x1 : Nat) (x2 : Int32) (x3 : Int32) (x4 : Int32) (M : Me) : Option ((Int32 × Int32 × Me) ⊕ ((Int32 × Me))) :=
  if (31 : Int32) ≤ x4 then (some (.inr (x3, M))) else (gd (kd T x0 = 10) <| Option.bind (fX11_agrees T M x0 x1 x2 (x4 - (15 : Int32))) <| un2 fun r3 M4 => if r3 = 0 then (lt (x3 ||| (0 : Int32)) fun v6 => lt (x4 + (1 : Int32)) fun v7 => some (.inl (v6, v7, M4))) else (lt (x3 ||| ((1 : Int32) <<< (x4 &&& 31))) fun v8 => lt (x4 + (1 : Int32)) fun v9 => some (.inl (v8, v9, M4))))
def PX11_seenDrifts_5 (X : Fx) (B : Bx) (Z : Nat × Nat × Nat × Nat) (Q : State → Prop) (T : Sh) (x0 : Nat) (x1 : Nat) (x2 : Int32) (s : Int32 × Int32 × Me) : Prop := G X B 5 Z Q 5 [(0, .ref (x0)), (1, .ref (x1)), (2, .int (x2)), (3, .int (s.1)), (4, .int (s.2.1))] [] T s.2.2
def EX11_seenDrifts_5 (X : Fx) (B : Bx) (Z : Nat × Nat × Nat × Nat) (Q : State → Prop) (T : Sh) (x0 : Nat) (x1 : Nat) (x2 : Int32) (r : (Int32 × Me)) : Prop := G X B 5 Z Q 43 [(3, .int (r.1))] [] T r.2
set_option maxHeartbeats 4000000 in
theorem tbX11_seenDrifts_5 {X : Fx} {B : Bx} {Z : Nat × Nat × Nat × Nat} {Q : State → Prop} {d : Nat} {T : Sh} (C : Cx X B cX11_seenDrifts 5 RX11 d Z) (hd : 4 ≤ d) {x0 : Nat} {x1 : Nat} {x2 : Int32} : ∀ (s : Int32 × Int32 × Me) (o : (Int32 × Int32 × Me) ⊕ ((Int32 × Me))), bX11_seenDrifts_5 T x0 x1 x2 s.1 s.2.1 s.2.2 = some o → lpE (PX11_seenDrifts_5 X B Z Q T x0 x1 x2) (EX11_seenDrifts_5 X B Z Q T x0 x1 x2) o → PX11_seenDrifts_5 X B Z Q T x0 x1 x2 s := by
  rintro ⟨x3, x4, M⟩ o h hE
  replace h : bX11_seenDrifts_5 T x0 x1 x2 x3 x4 M = some o := h
  unfold bX11_seenDrifts_5 at h
  show G X B 5 Z Q 5 [(0, .ref (x0)), (1, .ref (x1)), (2, .int (x2)), (3, .int (x3)), (4, .int (x4))] [] T M
  refine g_iload (pc := 5) C dX11_seenDrifts_5 4 rfl ?_
  refine g_bipush (pc := 7) (v := 31) C dX11_seenDrifts_7 (by decide) ?_
  refine g_icmp_ge (pc := 9) (tgt := 43) C dX11_seenDrifts_9 (by decide) (fun c1 => ?_) (fun c1 => ?_)
  · replace h := ifp c1 h
    obtain rfl := Option.some.inj h
    exact g_sub [3] rfl (show G X B 5 Z Q 43 [(3, .int (x3))] [] T M from hE)
  · replace h := ifn c1 h
    refine g_iload_n (pc := 12) C dX11_seenDrifts_12 rfl 3 rfl ?_
    refine g_aload_n (pc := 13) C dX11_seenDrifts_13 rfl 0 rfl ?_
    refine g_aload_n (pc := 14) C dX11_seenDrifts_14 rfl 1 rfl ?_
    refine g_iload_n (pc := 15) C dX11_seenDrifts_15 rfl 2 rfl ?_
    refine g_iload (pc := 16) C dX11_seenDrifts_16 4 rfl ?_
    refine g_bipush (pc := 18) (v := 15) C dX11_seenDrifts_18 (by decide) ?_
    refine g_isub (pc := 20) C dX11_seenDrifts_20 ?_
    replace h := gd_some h; obtain ⟨hk2, h⟩ := h
    replace h := bnd2 h; obtain ⟨r3, M4, h1, h⟩ := h
    refine g_callVi (pc := 21) (As := [.ref (x1), .int (x2), .int (x4 - (15 : Int32))]) (st := [.int (x3)]) C dX11_seenDrifts_21 wX11_agrees hk2 rfl (by decide) q_1150 q_48 q_1148 (by omega) rfl (Nat.le_of_ble_eq_true rfl) (kX11_agrees (d := 3) (Nat.le_refl _) h1) ?_
    refine g_if_eq (pc := 24) (tgt := 34) C dX11_seenDrifts_24 (by decide) (fun c5 => ?_) (fun c5 => ?_)
    · replace h := ifp c5 h
      refine g_iconst (pc := 34) (v := 0) C dX11_seenDrifts_34 (by decide) ?_
      refine g_ior (pc := 35) C dX11_seenDrifts_35 ?_
      refine g_topi (fun v6 ev6 => ?_)
      replace h := lt_at ev6 h
      refine g_istore_n (pc := 36) (lo2 := [(3, .int (v6)), (0, .ref (x0)), (1, .ref (x1)), (2, .int (x2)), (4, .int (x4))]) C dX11_seenDrifts_36 rfl (by decide) rfl ?_
      obtain ⟨v7, ev7⟩ : ∃ y : Int32, y = x4 + (1 : Int32) := ⟨_, rfl⟩
      replace h := lt_at ev7 h
      refine g_iinc (pc := 37) (v := v7) (k := 4) (lo2 := [(4, .int (v7)), (3, .int (v6)), (0, .ref (x0)), (1, .ref (x1)), (2, .int (x2))]) C dX11_seenDrifts_37 rfl (by rw [ev7]; rfl) (by decide) rfl ?_
      refine g_goto (pc := 40) (tgt := 5) C dX11_seenDrifts_40 (by decide) ?_
      obtain rfl := Option.some.inj h
      exact g_sub [2, 3, 4, 1, 0] rfl (show G X B 5 Z Q 5 [(0, .ref (x0)), (1, .ref (x1)), (2, .int (x2)), (3, .int (v6)), (4, .int (v7))] [] T M4 from hE)
    · replace h := ifn c5 h
      refine g_iconst (pc := 27) (v := 1) C dX11_seenDrifts_27 (by decide) ?_
      refine g_iload (pc := 28) C dX11_seenDrifts_28 4 rfl ?_
      refine g_ishl (pc := 30) C dX11_seenDrifts_30 ?_
      refine g_goto (pc := 31) (tgt := 35) C dX11_seenDrifts_31 (by decide) ?_
      refine g_ior (pc := 35) C dX11_seenDrifts_35 ?_
      refine g_topi (fun v8 ev8 => ?_)
      replace h := lt_at ev8 h
      refine g_istore_n (pc := 36) (lo2 := [(3, .int (v8)), (0, .ref (x0)), (1, .ref (x1)), (2, .int (x2)), (4, .int (x4))]) C dX11_seenDrifts_36 rfl (by decide) rfl ?_
      obtain ⟨v9, ev9⟩ : ∃ y : Int32, y = x4 + (1 : Int32) := ⟨_, rfl⟩
      replace h := lt_at ev9 h
      refine g_iinc (pc := 37) (v := v9) (k := 4) (lo2 := [(4, .int (v9)), (3, .int (v8)), (0, .ref (x0)), (1, .ref (x1)), (2, .int (x2))]) C dX11_seenDrifts_37 rfl (by rw [ev9]; rfl) (by decide) rfl ?_
      refine g_goto (pc := 40) (tgt := 5) C dX11_seenDrifts_40 (by decide) ?_
      obtain rfl := Option.some.inj h
      exact g_sub [2, 3, 4, 1, 0] rfl (show G X B 5 Z Q 5 [(0, .ref (x0)), (1, .ref (x1)), (2, .int (x2)), (3, .int (v8)), (4, .int (v9))] [] T M4 from hE)
/-- EyeTrainer.seenDrifts(LEyeTrainer$Tray;I)I -/
def fX11_seenDrifts (T : Sh) (M : Me) (x0 : Nat) (x1 : Nat) (x2 : Int32) : Option (Int32 × Me) :=
  (lp FU (fun s => bX11_seenDrifts_5 T x0 x1 x2 s.1 s.2.1 s.2.2) ((0 : Int32), (0 : Int32), M)).bind (un2 fun x3_10 M11 => some (x3_10, M11))
set_option maxHeartbeats 4000000 in
theorem kX11_seenDrifts {l : Launch} {B : Bx} {d : Nat} (hd : 4 ≤ d) {T : Sh} {M : Me} {x0 : Nat} {x1 : Nat} {x2 : Int32} {r : Int32} {M' : Me} (h : fX11_seenDrifts T M x0 x1 x2 = some (r, M')) : Kt l B yX11_seenDrifts cX11_seenDrifts 5 (some .int) d [.ref (x0), .ref (x1), .int (x2)] T M (some (.int r)) T M' := by
  refine kt_of wX11_seenDrifts (Nat.le_refl _) (Nat.le_refl _) (Nat.le_of_ble_eq_true rfl) (fun X C hR hlx hin => ?_)
  subst hlx
  replace C : Cx X B cX11_seenDrifts 5 RX11 d (tp T, sl T, tp T, sl T) := C
  unfold fX11_seenDrifts at h
  show G X B 5 _ _ 0 [(0, .ref (x0)), (1, .ref (x1)), (2, .int (x2))] [] T M
  refine g_iconst (pc := 0) (v := 0) C dX11_seenDrifts_0 (by decide) ?_
  refine g_istore_n (pc := 1) (lo2 := [(3, .int ((0 : Int32))), (0, .ref (x0)), (1, .ref (x1)), (2, .int (x2))]) C dX11_seenDrifts_1 rfl (by decide) rfl ?_
  refine g_iconst (pc := 2) (v := 0) C dX11_seenDrifts_2 (by decide) ?_
  refine g_istore (pc := 3) (lo2 := [(4, .int ((0 : Int32))), (3, .int ((0 : Int32))), (0, .ref (x0)), (1, .ref (x1)), (2, .int (x2))]) C dX11_seenDrifts_3 (by decide) rfl ?_
  replace h := bnd2 h; obtain ⟨x3_10, M11, h1, h⟩ := h
  refine g_sub [2, 3, 4, 1, 0] rfl ?_
  refine lp_G2 (P := PX11_seenDrifts_5 X B _ _ T x0 x1 x2) (E := EX11_seenDrifts_5 X B _ _ T x0 x1 x2) (tbX11_seenDrifts_5 C hd) h1 ?_
  show G X B 5 _ _ 43 [(3, .int (x3_10))] [] T M11
  refine g_iload_n (pc := 43) C dX11_seenDrifts_43 rfl 0 rfl ?_
  obtain ⟨rfl, rfl⟩ := Prod.mk.inj (Option.some.inj h)
  exact g_iret C hR dX11_seenDrifts_44
theorem dX11_countPassing_0 : decode cX11_countPassing 0 = .ok (.aload_n 0, 1) := by decide +kernel
theorem dX11_countPassing_1 : decode cX11_countPassing 1 = .ok (.getfield 67, 3) := by decide +kernel
theorem dX11_countPassing_4 : decode cX11_countPassing 4 = .ok (.iconst 0, 1) := by decide +kernel
theorem dX11_countPassing_5 : decode cX11_countPassing 5 = .ok (.invokestatic 380, 3) := by decide +kernel
theorem dX11_countPassing_8 : decode cX11_countPassing 8 = .ok (.iconst 0, 1) := by decide +kernel
theorem dX11_countPassing_9 : decode cX11_countPassing 9 = .ok (.istore 4, 2) := by decide +kernel
theorem dX11_countPassing_11 : decode cX11_countPassing 11 = .ok (.iload 4, 2) := by decide +kernel
theorem dX11_countPassing_13 : decode cX11_countPassing 13 = .ok (.bipush 31, 2) := by decide +kernel
theorem dX11_countPassing_15 : decode cX11_countPassing 15 = .ok (.if_icmp .ge 74, 3) := by decide +kernel
theorem dX11_countPassing_18 : decode cX11_countPassing 18 = .ok (.iload_n 3, 1) := by decide +kernel
theorem dX11_countPassing_19 : decode cX11_countPassing 19 = .ok (.iload 4, 2) := by decide +kernel
theorem dX11_countPassing_21 : decode cX11_countPassing 21 = .ok (.ishr, 1) := by decide +kernel
theorem dX11_countPassing_22 : decode cX11_countPassing 22 = .ok (.iconst 1, 1) := by decide +kernel
theorem dX11_countPassing_23 : decode cX11_countPassing 23 = .ok (.iand, 1) := by decide +kernel
theorem dX11_countPassing_24 : decode cX11_countPassing 24 = .ok (.ifCond .eq 59, 3) := by decide +kernel
theorem dX11_countPassing_27 : decode cX11_countPassing 27 = .ok (.aload_n 0, 1) := by decide +kernel
theorem dX11_countPassing_28 : decode cX11_countPassing 28 = .ok (.getfield 28, 3) := by decide +kernel
theorem dX11_countPassing_31 : decode cX11_countPassing 31 = .ok (.iload_n 1, 1) := by decide +kernel
theorem dX11_countPassing_32 : decode cX11_countPassing 32 = .ok (.aload_n 0, 1) := by decide +kernel
theorem dX11_countPassing_33 : decode cX11_countPassing 33 = .ok (.getfield 42, 3) := by decide +kernel
theorem dX11_countPassing_36 : decode cX11_countPassing 36 = .ok (.getfield 179, 3) := by decide +kernel
theorem dX11_countPassing_39 : decode cX11_countPassing 39 = .ok (.iload 4, 2) := by decide +kernel
theorem dX11_countPassing_41 : decode cX11_countPassing 41 = .ok (.bipush 15, 2) := by decide +kernel
theorem dX11_countPassing_43 : decode cX11_countPassing 43 = .ok (.isub, 1) := by decide +kernel
theorem dX11_countPassing_44 : decode cX11_countPassing 44 = .ok (.iload_n 2, 1) := by decide +kernel
theorem dX11_countPassing_45 : decode cX11_countPassing 45 = .ok (.invokevirtual 289, 3) := by decide +kernel
theorem dX11_countPassing_48 : decode cX11_countPassing 48 = .ok (.istore 5, 2) := by decide +kernel
theorem dX11_countPassing_50 : decode cX11_countPassing 50 = .ok (.iconst 0, 1) := by decide +kernel
theorem dX11_countPassing_51 : decode cX11_countPassing 51 = .ok (.istore 6, 2) := by decide +kernel
theorem dX11_countPassing_53 : decode cX11_countPassing 53 = .ok (.iload 6, 2) := by decide +kernel
theorem dX11_countPassing_55 : decode cX11_countPassing 55 = .ok (.bipush 24, 2) := by decide +kernel
theorem dX11_countPassing_57 : decode cX11_countPassing 57 = .ok (.if_icmp .ge 26, 3) := by decide +kernel
theorem dX11_countPassing_60 : decode cX11_countPassing 60 = .ok (.aload_n 0, 1) := by decide +kernel
theorem dX11_countPassing_61 : decode cX11_countPassing 61 = .ok (.getfield 67, 3) := by decide +kernel
theorem dX11_countPassing_64 : decode cX11_countPassing 64 = .ok (.iload 6, 2) := by decide +kernel
theorem dX11_countPassing_66 : decode cX11_countPassing 66 = .ok (.dup2, 1) := by decide +kernel
theorem dX11_countPassing_67 : decode cX11_countPassing 67 = .ok (.iaload, 1) := by decide +kernel
theorem dX11_countPassing_68 : decode cX11_countPassing 68 = .ok (.iload 5, 2) := by decide +kernel
theorem dX11_countPassing_70 : decode cX11_countPassing 70 = .ok (.iload 6, 2) := by decide +kernel
theorem dX11_countPassing_72 : decode cX11_countPassing 72 = .ok (.ishr, 1) := by decide +kernel
theorem dX11_countPassing_73 : decode cX11_countPassing 73 = .ok (.iconst 1, 1) := by decide +kernel
theorem dX11_countPassing_74 : decode cX11_countPassing 74 = .ok (.iand, 1) := by decide +kernel
theorem dX11_countPassing_75 : decode cX11_countPassing 75 = .ok (.iadd, 1) := by decide +kernel
theorem dX11_countPassing_76 : decode cX11_countPassing 76 = .ok (.iastore, 1) := by decide +kernel
theorem dX11_countPassing_77 : decode cX11_countPassing 77 = .ok (.iinc 6 1, 3) := by decide +kernel
theorem dX11_countPassing_80 : decode cX11_countPassing 80 = .ok (.goto (-27), 3) := by decide +kernel
theorem dX11_countPassing_83 : decode cX11_countPassing 83 = .ok (.iinc 4 1, 3) := by decide +kernel
theorem dX11_countPassing_86 : decode cX11_countPassing 86 = .ok (.goto (-75), 3) := by decide +kernel
theorem dX11_countPassing_89 : decode cX11_countPassing 89 = .ok (.return_, 1) := by decide +kernel
theorem wX11_countPassing : Mw yX11_countPassing cX11_countPassing 7 none 3 := ⟨q_1159, q_120, by decide, ⟨by decide +kernel, by decide +kernel⟩, by decide +kernel, by decide +kernel⟩
-- a loop of EyeTrainer.countPassing at 11
-- a loop of EyeTrainer.countPassing at 53
def bX11_countPassing_53 (T : Sh) (x0 : Nat) (x1 : Int32) (x2 : Int32) (x3 : Int32) (x4 : Int32) (x5 : Int32) (x6 : Int32) (M : Me) : Option ((Int32 × Me) ⊕ (Me)) :=
  if (24 : Int32) ≤ x6 then (some (.inr M)) else (gd (kd T x0 = 10) <| Option.bind (gR M x0 11) fun a16 => gd (kd T a16 = 13) <| gv x6 (ln T a16) <| gv x6 (ln T a16) <| lt (pI M a16 (Int32.toNatClampNeg x6) ((gI M a16 (Int32.toNatClampNeg x6)) + ((x5 >>> (x6 &&& 31)) &&& (1 : Int32)))) fun M20 => lt (x6 + (1 : Int32)) fun v21 => some (.inl (v21, M20)))
def PX11_countPassing_53 (X : Fx) (B : Bx) (Z : Nat × Nat × Nat × Nat) (Q : State → Prop) (T : Sh) (x0 : Nat) (x1 : Int32) (x2 : Int32) (x3 : Int32) (x4 : Int32) (x5 : Int32) (s : Int32 × Me) : Prop := G X B 7 Z Q 53 [(0, .ref (x0)), (1, .int (x1)), (2, .int (x2)), (3, .int (x3)), (4, .int (x4)), (5, .int (x5)), (6, .int (s.1))] [] T s.2
def EX11_countPassing_53 (X : Fx) (B : Bx) (Z : Nat × Nat × Nat × Nat) (Q : State → Prop) (T : Sh) (x0 : Nat) (x1 : Int32) (x2 : Int32) (x3 : Int32) (x4 : Int32) (x5 : Int32) (r : Me) : Prop := G X B 7 Z Q 83 [(0, .ref (x0)), (1, .int (x1)), (2, .int (x2)), (3, .int (x3)), (4, .int (x4))] [] T r
set_option maxHeartbeats 4000000 in
theorem tbX11_countPassing_53 {X : Fx} {B : Bx} {Z : Nat × Nat × Nat × Nat} {Q : State → Prop} {d : Nat} {T : Sh} (C : Cx X B cX11_countPassing 7 RX11 d Z) (hd : 3 ≤ d) {x0 : Nat} {x1 : Int32} {x2 : Int32} {x3 : Int32} {x4 : Int32} {x5 : Int32} : ∀ (s : Int32 × Me) (o : (Int32 × Me) ⊕ (Me)), bX11_countPassing_53 T x0 x1 x2 x3 x4 x5 s.1 s.2 = some o → lpE (PX11_countPassing_53 X B Z Q T x0 x1 x2 x3 x4 x5) (EX11_countPassing_53 X B Z Q T x0 x1 x2 x3 x4 x5) o → PX11_countPassing_53 X B Z Q T x0 x1 x2 x3 x4 x5 s := by
  rintro ⟨x6, M⟩ o h hE
  replace h : bX11_countPassing_53 T x0 x1 x2 x3 x4 x5 x6 M = some o := h
  unfold bX11_countPassing_53 at h
  show G X B 7 Z Q 53 [(0, .ref (x0)), (1, .int (x1)), (2, .int (x2)), (3, .int (x3)), (4, .int (x4)), (5, .int (x5)), (6, .int (x6))] [] T M
  refine g_iload (pc := 53) C dX11_countPassing_53 6 rfl ?_
  refine g_bipush (pc := 55) (v := 24) C dX11_countPassing_55 (by decide) ?_
  refine g_icmp_ge (pc := 57) (tgt := 83) C dX11_countPassing_57 (by decide) (fun c14 => ?_) (fun c14 => ?_)
  · replace h := ifp c14 h
    obtain rfl := Option.some.inj h
    exact g_sub [0, 1, 2, 3, 4] rfl (show G X B 7 Z Q 83 [(0, .ref (x0)), (1, .int (x1)), (2, .int (x2)), (3, .int (x3)), (4, .int (x4))] [] T M from hE)
  · replace h := ifn c14 h
    refine g_aload_n (pc := 60) C dX11_countPassing_60 rfl 0 rfl ?_
    replace h := gd_some h; obtain ⟨hk15, h⟩ := h
    refine g_get (pc := 61) (v := va_rf (gR M x0 11)) C dX11_countPassing_61 kX11 hk15 11 (by decide) q_435 rfl ?_
    replace h := bnd h; obtain ⟨a16, ea16, h⟩ := h
    refine g_refq ea16 ?_
    refine g_iload (pc := 64) C dX11_countPassing_64 6 rfl ?_
    refine g_dup2 (pc := 66) C dX11_countPassing_66 rfl rfl ?_
    replace h := gd_some h; obtain ⟨hk17, h⟩ := h
    replace h := gv_some h; obtain ⟨hi18, h⟩ := h
    refine g_iald (pc := 67) C dX11_countPassing_67 hk17 hi18 ?_
    refine g_iload (pc := 68) C dX11_countPassing_68 5 rfl ?_
    refine g_iload (pc := 70) C dX11_countPassing_70 6 rfl ?_
    refine g_ishr (pc := 72) C dX11_countPassing_72 ?_
    refine g_iconst (pc := 73) (v := 1) C dX11_countPassing_73 (by decide) ?_
    refine g_iand (pc := 74) C dX11_countPassing_74 ?_
    refine g_iadd (pc := 75) C dX11_countPassing_75 ?_
    replace h := gv_some h; obtain ⟨hi19, h⟩ := h
    refine g_iast (pc := 76) C dX11_countPassing_76 hk17 hi19 ?_
    refine g_mem (fun M20 eM20 => ?_)
    replace h := lt_at eM20 h
    obtain ⟨v21, ev21⟩ : ∃ y : Int32, y = x6 + (1 : Int32) := ⟨_, rfl⟩
    replace h := lt_at ev21 h
    refine g_iinc (pc := 77) (v := v21) (k := 6) (lo2 := [(6, .int (v21)), (0, .ref (x0)), (1, .int (x1)), (2, .int (x2)), (3, .int (x3)), (4, .int (x4)), (5, .int (x5))]) C dX11_countPassing_77 rfl (by rw [ev21]; rfl) (by decide) rfl ?_
    refine g_goto (pc := 80) (tgt := 53) C dX11_countPassing_80 (by decide) ?_
    obtain rfl := Option.some.inj h
    exact g_sub [1, 2, 3, 4, 5, 6, 0] rfl (show G X B 7 Z Q 53 [(0, .ref (x0)), (1, .int (x1)), (2, .int (x2)), (3, .int (x3)), (4, .int (x4)), (5, .int (x5)), (6, .int (v21))] [] T M20 from hE)
def bX11_countPassing_11 (T : Sh) (x0 : Nat) (x1 : Int32) (x2 : Int32) (x3 : Int32) (x4 : Int32) (M : Me) : Option ((Int32 × Me) ⊕ (Me)) :=
  if (31 : Int32) ≤ x4 then (some (.inr M)) else (if ((x3 >>> (x4 &&& 31)) &&& (1 : Int32)) = 0 then (lt (x4 + (1 : Int32)) fun v6 => some (.inl (v6, M))) else (gd (kd T x0 = 10) <| Option.bind (gR M x0 3) fun a8 => Option.bind (gR M x0 5) fun a9 => gd (kd T a9 = 7) <| gd (kd T a8 = 4) <| Option.bind (fX5_passing T M a8 x1 (gI M a9 2) (x4 - (15 : Int32)) x2) <| un2 fun r12 M13 => (lp FU (fun s => bX11_countPassing_53 T x0 x1 x2 x3 x4 r12 s.1 s.2) ((0 : Int32), M13)).bind (fun M22 => lt (x4 + (1 : Int32)) fun v23 => some (.inl (v23, M22)))))
def PX11_countPassing_11 (X : Fx) (B : Bx) (Z : Nat × Nat × Nat × Nat) (Q : State → Prop) (T : Sh) (x0 : Nat) (x1 : Int32) (x2 : Int32) (x3 : Int32) (s : Int32 × Me) : Prop := G X B 7 Z Q 11 [(0, .ref (x0)), (1, .int (x1)), (2, .int (x2)), (3, .int (x3)), (4, .int (s.1))] [] T s.2
def EX11_countPassing_11 (X : Fx) (B : Bx) (Z : Nat × Nat × Nat × Nat) (Q : State → Prop) (T : Sh) (x0 : Nat) (x1 : Int32) (x2 : Int32) (x3 : Int32) (r : Me) : Prop := G X B 7 Z Q 89 [] [] T r
set_option maxHeartbeats 4000000 in
theorem tbX11_countPassing_11 {X : Fx} {B : Bx} {Z : Nat × Nat × Nat × Nat} {Q : State → Prop} {d : Nat} {T : Sh} (C : Cx X B cX11_countPassing 7 RX11 d Z) (hd : 3 ≤ d) {x0 : Nat} {x1 : Int32} {x2 : Int32} {x3 : Int32} : ∀ (s : Int32 × Me) (o : (Int32 × Me) ⊕ (Me)), bX11_countPassing_11 T x0 x1 x2 x3 s.1 s.2 = some o → lpE (PX11_countPassing_11 X B Z Q T x0 x1 x2 x3) (EX11_countPassing_11 X B Z Q T x0 x1 x2 x3) o → PX11_countPassing_11 X B Z Q T x0 x1 x2 x3 s := by
  rintro ⟨x4, M⟩ o h hE
  replace h : bX11_countPassing_11 T x0 x1 x2 x3 x4 M = some o := h
  unfold bX11_countPassing_11 at h
  show G X B 7 Z Q 11 [(0, .ref (x0)), (1, .int (x1)), (2, .int (x2)), (3, .int (x3)), (4, .int (x4))] [] T M
  refine g_iload (pc := 11) C dX11_countPassing_11 4 rfl ?_
  refine g_bipush (pc := 13) (v := 31) C dX11_countPassing_13 (by decide) ?_
  refine g_icmp_ge (pc := 15) (tgt := 89) C dX11_countPassing_15 (by decide) (fun c4 => ?_) (fun c4 => ?_)
  · replace h := ifp c4 h
    obtain rfl := Option.some.inj h
    exact g_sub [] rfl (show G X B 7 Z Q 89 [] [] T M from hE)
  · replace h := ifn c4 h
    refine g_iload_n (pc := 18) C dX11_countPassing_18 rfl 3 rfl ?_
    refine g_iload (pc := 19) C dX11_countPassing_19 4 rfl ?_
    refine g_ishr (pc := 21) C dX11_countPassing_21 ?_
    refine g_iconst (pc := 22) (v := 1) C dX11_countPassing_22 (by decide) ?_
    refine g_iand (pc := 23) C dX11_countPassing_23 ?_
    refine g_if_eq (pc := 24) (tgt := 83) C dX11_countPassing_24 (by decide) (fun c5 => ?_) (fun c5 => ?_)
    · replace h := ifp c5 h
      obtain ⟨v6, ev6⟩ : ∃ y : Int32, y = x4 + (1 : Int32) := ⟨_, rfl⟩
      replace h := lt_at ev6 h
      refine g_iinc (pc := 83) (v := v6) (k := 4) (lo2 := [(4, .int (v6)), (0, .ref (x0)), (1, .int (x1)), (2, .int (x2)), (3, .int (x3))]) C dX11_countPassing_83 rfl (by rw [ev6]; rfl) (by decide) rfl ?_
      refine g_goto (pc := 86) (tgt := 11) C dX11_countPassing_86 (by decide) ?_
      obtain rfl := Option.some.inj h
      exact g_sub [1, 2, 3, 4, 0] rfl (show G X B 7 Z Q 11 [(0, .ref (x0)), (1, .int (x1)), (2, .int (x2)), (3, .int (x3)), (4, .int (v6))] [] T M from hE)
    · replace h := ifn c5 h
      refine g_aload_n (pc := 27) C dX11_countPassing_27 rfl 0 rfl ?_
      replace h := gd_some h; obtain ⟨hk7, h⟩ := h
      refine g_get (pc := 28) (v := va_rf (gR M x0 3)) C dX11_countPassing_28 kX11 hk7 3 (by decide) q_427 rfl ?_
      replace h := bnd h; obtain ⟨a8, ea8, h⟩ := h
      refine g_refq ea8 ?_
      refine g_iload_n (pc := 31) C dX11_countPassing_31 rfl 1 rfl ?_
      refine g_aload_n (pc := 32) C dX11_countPassing_32 rfl 0 rfl ?_
      refine g_get (pc := 33) (v := va_rf (gR M x0 5)) C dX11_countPassing_33 kX11 hk7 5 (by decide) q_429 rfl ?_
      replace h := bnd h; obtain ⟨a9, ea9, h⟩ := h
      refine g_refq ea9 ?_
      replace h := gd_some h; obtain ⟨hk10, h⟩ := h
      refine g_get (pc := 36) (v := .int (gI M a9 2)) C dX11_countPassing_36 kX8 hk10 2 (by decide) q_379 rfl ?_
      refine g_iload (pc := 39) C dX11_countPassing_39 4 rfl ?_
      refine g_bipush (pc := 41) (v := 15) C dX11_countPassing_41 (by decide) ?_
      refine g_isub (pc := 43) C dX11_countPassing_43 ?_
      refine g_iload_n (pc := 44) C dX11_countPassing_44 rfl 2 rfl ?_
      replace h := gd_some h; obtain ⟨hk11, h⟩ := h
      replace h := bnd2 h; obtain ⟨r12, M13, h1, h⟩ := h
      refine g_callVi (pc := 45) (As := [.int (x1), .int (gI M a9 2), .int (x4 - (15 : Int32)), .int (x2)]) (st := []) C dX11_countPassing_45 wX5_passing hk11 rfl (by decide) q_797 q_798 q_796 (by omega) rfl (Nat.le_of_ble_eq_true rfl) (kX5_passing (d := 2) (Nat.le_refl _) h1) ?_
      refine g_istore (pc := 48) (lo2 := [(5, .int (r12)), (0, .ref (x0)), (1, .int (x1)), (2, .int (x2)), (3, .int (x3)), (4, .int (x4))]) C dX11_countPassing_48 (by decide) rfl ?_
      refine g_iconst (pc := 50) (v := 0) C dX11_countPassing_50 (by decide) ?_
      refine g_istore (pc := 51) (lo2 := [(6, .int ((0 : Int32))), (5, .int (r12)), (0, .ref (x0)), (1, .int (x1)), (2, .int (x2)), (3, .int (x3)), (4, .int (x4))]) C dX11_countPassing_51 (by decide) rfl ?_
      replace h := bnd h; obtain ⟨M22, h1, h⟩ := h
      refine g_sub [2, 3, 4, 5, 6, 1, 0] rfl ?_
      refine lp_G2 (P := PX11_countPassing_53 X B _ _ T x0 x1 x2 x3 x4 r12) (E := EX11_countPassing_53 X B _ _ T x0 x1 x2 x3 x4 r12) (tbX11_countPassing_53 C hd) h1 ?_
      show G X B 7 _ _ 83 [(0, .ref (x0)), (1, .int (x1)), (2, .int (x2)), (3, .int (x3)), (4, .int (x4))] [] T M22
      obtain ⟨v23, ev23⟩ : ∃ y : Int32, y = x4 + (1 : Int32) := ⟨_, rfl⟩
      replace h := lt_at ev23 h
      refine g_iinc (pc := 83) (v := v23) (k := 4) (lo2 := [(4, .int (v23)), (0, .ref (x0)), (1, .int (x1)), (2, .int (x2)), (3, .int (x3))]) C dX11_countPassing_83 rfl (by rw [ev23]; rfl) (by decide) rfl ?_
      refine g_goto (pc := 86) (tgt := 11) C dX11_countPassing_86 (by decide) ?_
      obtain rfl := Option.some.inj h
      exact g_sub [1, 2, 3, 4, 0] rfl (show G X B 7 Z Q 11 [(0, .ref (x0)), (1, .int (x1)), (2, .int (x2)), (3, .int (x3)), (4, .int (v23))] [] T M22 from hE)
/-- EyeTrainer.countPassing(III)V -/
def fX11_countPassing (T : Sh) (M : Me) (x0 : Nat) (x1 : Int32) (x2 : Int32) (x3 : Int32) : Option (Unit × Me) :=
  gd (kd T x0 = 10) <| Option.bind (gR M x0 11) fun a2 => Option.bind (fJ7_fill_53178 T M a2 (0 : Int32)) <| un2 fun _u M3 => (lp FU (fun s => bX11_countPassing_11 T x0 x1 x2 x3 s.1 s.2) ((0 : Int32), M3)).bind (fun M24 => some ((), M24))
set_option maxHeartbeats 4000000 in
theorem kX11_countPassing {l : Launch} {B : Bx} {d : Nat} (hd : 3 ≤ d) {T : Sh} {M : Me} {x0 : Nat} {x1 : Int32} {x2 : Int32} {x3 : Int32} {M' : Me} (h : fX11_countPassing T M x0 x1 x2 x3 = some ((), M')) : Kt l B yX11_countPassing cX11_countPassing 7 none d [.ref (x0), .int (x1), .int (x2), .int (x3)] T M none T M' := by
  refine kt_of wX11_countPassing (Nat.le_refl _) (Nat.le_refl _) (Nat.le_of_ble_eq_true rfl) (fun X C hR hlx hin => ?_)
  subst hlx
  replace C : Cx X B cX11_countPassing 7 RX11 d (tp T, sl T, tp T, sl T) := C
  unfold fX11_countPassing at h
  show G X B 7 _ _ 0 [(0, .ref (x0)), (1, .int (x1)), (2, .int (x2)), (3, .int (x3))] [] T M
  refine g_aload_n (pc := 0) C dX11_countPassing_0 rfl 0 rfl ?_
  replace h := gd_some h; obtain ⟨hk1, h⟩ := h
  refine g_get (pc := 1) (v := va_rf (gR M x0 11)) C dX11_countPassing_1 kX11 hk1 11 (by decide) q_435 rfl ?_
  replace h := bnd h; obtain ⟨a2, ea2, h⟩ := h
  refine g_refq ea2 ?_
  refine g_iconst (pc := 4) (v := 0) C dX11_countPassing_4 (by decide) ?_
  replace h := bnd2 h; obtain ⟨_u, M3, h1, h⟩ := h
  refine g_callSv (pc := 5) (As := [.ref (a2), .int ((0 : Int32))]) (st := []) C dX11_countPassing_5 wJ7_fill_53178 q_285 q_1160 (by omega) rfl (Nat.le_of_ble_eq_true rfl) (kJ7_fill_53178 (d := 0) (Nat.le_refl _) h1) ?_
  refine g_iconst (pc := 8) (v := 0) C dX11_countPassing_8 (by decide) ?_
  refine g_istore (pc := 9) (lo2 := [(4, .int ((0 : Int32))), (0, .ref (x0)), (1, .int (x1)), (2, .int (x2)), (3, .int (x3))]) C dX11_countPassing_9 (by decide) rfl ?_
  replace h := bnd h; obtain ⟨M24, h1, h⟩ := h
  refine g_sub [1, 2, 3, 4, 0] rfl ?_
  refine lp_G2 (P := PX11_countPassing_11 X B _ _ T x0 x1 x2 x3) (E := EX11_countPassing_11 X B _ _ T x0 x1 x2 x3) (tbX11_countPassing_11 C hd) h1 ?_
  show G X B 7 _ _ 89 [] [] T M24
  obtain ⟨-, rfl⟩ := Prod.mk.inj (Option.some.inj h)
  exact g_vret C hR dX11_countPassing_89
theorem dX11_drawLot_0 : decode cX11_drawLot 0 = .ok (.aload_n 0, 1) := by decide +kernel
theorem dX11_drawLot_1 : decode cX11_drawLot 1 = .ok (.getfield 71, 3) := by decide +kernel
theorem dX11_drawLot_4 : decode cX11_drawLot 4 = .ok (.iconst 0, 1) := by decide +kernel
theorem dX11_drawLot_5 : decode cX11_drawLot 5 = .ok (.invokestatic 380, 3) := by decide +kernel
theorem dX11_drawLot_8 : decode cX11_drawLot 8 = .ok (.iconst 0, 1) := by decide +kernel
theorem dX11_drawLot_9 : decode cX11_drawLot 9 = .ok (.istore_n 1, 1) := by decide +kernel
theorem dX11_drawLot_10 : decode cX11_drawLot 10 = .ok (.iload_n 1, 1) := by decide +kernel
theorem dX11_drawLot_11 : decode cX11_drawLot 11 = .ok (.bipush 24, 2) := by decide +kernel
theorem dX11_drawLot_13 : decode cX11_drawLot 13 = .ok (.if_icmp .ge 70, 3) := by decide +kernel
theorem dX11_drawLot_16 : decode cX11_drawLot 16 = .ok (.aload_n 0, 1) := by decide +kernel
theorem dX11_drawLot_17 : decode cX11_drawLot 17 = .ok (.getfield 71, 3) := by decide +kernel
theorem dX11_drawLot_20 : decode cX11_drawLot 20 = .ok (.iload_n 1, 1) := by decide +kernel
theorem dX11_drawLot_21 : decode cX11_drawLot 21 = .ok (.iconst 1, 1) := by decide +kernel
theorem dX11_drawLot_22 : decode cX11_drawLot 22 = .ok (.isub, 1) := by decide +kernel
theorem dX11_drawLot_23 : decode cX11_drawLot 23 = .ok (.iconst 0, 1) := by decide +kernel
theorem dX11_drawLot_24 : decode cX11_drawLot 24 = .ok (.invokestatic 275, 3) := by decide +kernel
theorem dX11_drawLot_27 : decode cX11_drawLot 27 = .ok (.dup2, 1) := by decide +kernel
theorem dX11_drawLot_28 : decode cX11_drawLot 28 = .ok (.iaload, 1) := by decide +kernel
theorem dX11_drawLot_29 : decode cX11_drawLot 29 = .ok (.aload_n 0, 1) := by decide +kernel
theorem dX11_drawLot_30 : decode cX11_drawLot 30 = .ok (.getfield 67, 3) := by decide +kernel
theorem dX11_drawLot_33 : decode cX11_drawLot 33 = .ok (.iload_n 1, 1) := by decide +kernel
theorem dX11_drawLot_34 : decode cX11_drawLot 34 = .ok (.iaload, 1) := by decide +kernel
theorem dX11_drawLot_35 : decode cX11_drawLot 35 = .ok (.iadd, 1) := by decide +kernel
theorem dX11_drawLot_36 : decode cX11_drawLot 36 = .ok (.iastore, 1) := by decide +kernel
theorem dX11_drawLot_37 : decode cX11_drawLot 37 = .ok (.aload_n 0, 1) := by decide +kernel
theorem dX11_drawLot_38 : decode cX11_drawLot 38 = .ok (.getfield 71, 3) := by decide +kernel
theorem dX11_drawLot_41 : decode cX11_drawLot 41 = .ok (.iload_n 1, 1) := by decide +kernel
theorem dX11_drawLot_42 : decode cX11_drawLot 42 = .ok (.iconst 1, 1) := by decide +kernel
theorem dX11_drawLot_43 : decode cX11_drawLot 43 = .ok (.iadd, 1) := by decide +kernel
theorem dX11_drawLot_44 : decode cX11_drawLot 44 = .ok (.bipush 23, 2) := by decide +kernel
theorem dX11_drawLot_46 : decode cX11_drawLot 46 = .ok (.invokestatic 389, 3) := by decide +kernel
theorem dX11_drawLot_49 : decode cX11_drawLot 49 = .ok (.dup2, 1) := by decide +kernel
theorem dX11_drawLot_50 : decode cX11_drawLot 50 = .ok (.iaload, 1) := by decide +kernel
theorem dX11_drawLot_51 : decode cX11_drawLot 51 = .ok (.aload_n 0, 1) := by decide +kernel
theorem dX11_drawLot_52 : decode cX11_drawLot 52 = .ok (.getfield 67, 3) := by decide +kernel
theorem dX11_drawLot_55 : decode cX11_drawLot 55 = .ok (.iload_n 1, 1) := by decide +kernel
theorem dX11_drawLot_56 : decode cX11_drawLot 56 = .ok (.iaload, 1) := by decide +kernel
theorem dX11_drawLot_57 : decode cX11_drawLot 57 = .ok (.iadd, 1) := by decide +kernel
theorem dX11_drawLot_58 : decode cX11_drawLot 58 = .ok (.iastore, 1) := by decide +kernel
theorem dX11_drawLot_59 : decode cX11_drawLot 59 = .ok (.aload_n 0, 1) := by decide +kernel
theorem dX11_drawLot_60 : decode cX11_drawLot 60 = .ok (.getfield 71, 3) := by decide +kernel
theorem dX11_drawLot_63 : decode cX11_drawLot 63 = .ok (.iload_n 1, 1) := by decide +kernel
theorem dX11_drawLot_64 : decode cX11_drawLot 64 = .ok (.dup2, 1) := by decide +kernel
theorem dX11_drawLot_65 : decode cX11_drawLot 65 = .ok (.iaload, 1) := by decide +kernel
theorem dX11_drawLot_66 : decode cX11_drawLot 66 = .ok (.bipush 8, 2) := by decide +kernel
theorem dX11_drawLot_68 : decode cX11_drawLot 68 = .ok (.aload_n 0, 1) := by decide +kernel
theorem dX11_drawLot_69 : decode cX11_drawLot 69 = .ok (.getfield 67, 3) := by decide +kernel
theorem dX11_drawLot_72 : decode cX11_drawLot 72 = .ok (.iload_n 1, 1) := by decide +kernel
theorem dX11_drawLot_73 : decode cX11_drawLot 73 = .ok (.iaload, 1) := by decide +kernel
theorem dX11_drawLot_74 : decode cX11_drawLot 74 = .ok (.imul, 1) := by decide +kernel
theorem dX11_drawLot_75 : decode cX11_drawLot 75 = .ok (.iadd, 1) := by decide +kernel
theorem dX11_drawLot_76 : decode cX11_drawLot 76 = .ok (.iastore, 1) := by decide +kernel
theorem dX11_drawLot_77 : decode cX11_drawLot 77 = .ok (.iinc 1 1, 3) := by decide +kernel
theorem dX11_drawLot_80 : decode cX11_drawLot 80 = .ok (.goto (-70), 3) := by decide +kernel
theorem dX11_drawLot_83 : decode cX11_drawLot 83 = .ok (.aload_n 0, 1) := by decide +kernel
theorem dX11_drawLot_84 : decode cX11_drawLot 84 = .ok (.getfield 67, 3) := by decide +kernel
theorem dX11_drawLot_87 : decode cX11_drawLot 87 = .ok (.astore_n 1, 1) := by decide +kernel
theorem dX11_drawLot_88 : decode cX11_drawLot 88 = .ok (.aload_n 0, 1) := by decide +kernel
theorem dX11_drawLot_89 : decode cX11_drawLot 89 = .ok (.aload_n 0, 1) := by decide +kernel
theorem dX11_drawLot_90 : decode cX11_drawLot 90 = .ok (.getfield 71, 3) := by decide +kernel
theorem dX11_drawLot_93 : decode cX11_drawLot 93 = .ok (.putfield 67, 3) := by decide +kernel
theorem dX11_drawLot_96 : decode cX11_drawLot 96 = .ok (.aload_n 0, 1) := by decide +kernel
theorem dX11_drawLot_97 : decode cX11_drawLot 97 = .ok (.aload_n 1, 1) := by decide +kernel
theorem dX11_drawLot_98 : decode cX11_drawLot 98 = .ok (.putfield 71, 3) := by decide +kernel
theorem dX11_drawLot_101 : decode cX11_drawLot 101 = .ok (.return_, 1) := by decide +kernel
theorem wX11_drawLot : Mw yX11_drawLot cX11_drawLot 2 none 0 := ⟨q_1172, q_120, by decide, ⟨by decide +kernel, by decide +kernel⟩, by decide +kernel, by decide +kernel⟩
-- a loop of EyeTrainer.drawLot at 10
def bX11_drawLot_10 (T : Sh) (x0 : Nat) (x1 : Int32) (M : Me) : Option ((Int32 × Me) ⊕ (Me)) :=
  if (24 : Int32) ≤ x1 then (some (.inr M)) else (gd (kd T x0 = 10) <| Option.bind (gR M x0 12) fun a6 => Option.bind (fJ9_max_7cf53 (x1 - (1 : Int32)) (0 : Int32)) fun r7 => gd (kd T a6 = 13) <| gv r7 (ln T a6) <| Option.bind (gR M x0 11) fun a10 => gd (kd T a10 = 13) <| gv x1 (ln T a10) <| gv r7 (ln T a6) <| lt (pI M a6 (Int32.toNatClampNeg r7) ((gI M a6 (Int32.toNatClampNeg r7)) + (gI M a10 (Int32.toNatClampNeg x1)))) fun M14 => Option.bind (gR M14 x0 12) fun a15 => Option.bind (fJ9_min_7cf53 (x1 + (1 : Int32)) (23 : Int32)) fun r16 => gd (kd T a15 = 13) <| gv r16 (ln T a15) <| Option.bind (gR M14 x0 11) fun a19 => gd (kd T a19 = 13) <| gv x1 (ln T a19) <| gv r16 (ln T a15) <| lt (pI M14 a15 (Int32.toNatClampNeg r16) ((gI M14 a15 (Int32.toNatClampNeg r16)) + (gI M14 a19 (Int32.toNatClampNeg x1)))) fun M23 => Option.bind (gR M23 x0 12) fun a24 => gd (kd T a24 = 13) <| gv x1 (ln T a24) <| Option.bind (gR M23 x0 11) fun a27 => gd (kd T a27 = 13) <| gv x1 (ln T a27) <| gv x1 (ln T a24) <| lt (pI M23 a24 (Int32.toNatClampNeg x1) ((gI M23 a24 (Int32.toNatClampNeg x1)) + ((8 : Int32) * (gI M23 a27 (Int32.toNatClampNeg x1))))) fun M31 => lt (x1 + (1 : Int32)) fun v32 => some (.inl (v32, M31)))
def PX11_drawLot_10 (X : Fx) (B : Bx) (Z : Nat × Nat × Nat × Nat) (Q : State → Prop) (T : Sh) (x0 : Nat) (s : Int32 × Me) : Prop := G X B 2 Z Q 10 [(0, .ref (x0)), (1, .int (s.1))] [] T s.2
def EX11_drawLot_10 (X : Fx) (B : Bx) (Z : Nat × Nat × Nat × Nat) (Q : State → Prop) (T : Sh) (x0 : Nat) (r : Me) : Prop := G X B 2 Z Q 83 [(0, .ref (x0))] [] T r
set_option maxHeartbeats 4000000 in
theorem tbX11_drawLot_10 {X : Fx} {B : Bx} {Z : Nat × Nat × Nat × Nat} {Q : State → Prop} {d : Nat} {T : Sh} (C : Cx X B cX11_drawLot 2 RX11 d Z) (hd : 1 ≤ d) {x0 : Nat} : ∀ (s : Int32 × Me) (o : (Int32 × Me) ⊕ (Me)), bX11_drawLot_10 T x0 s.1 s.2 = some o → lpE (PX11_drawLot_10 X B Z Q T x0) (EX11_drawLot_10 X B Z Q T x0) o → PX11_drawLot_10 X B Z Q T x0 s := by
  rintro ⟨x1, M⟩ o h hE
  replace h : bX11_drawLot_10 T x0 x1 M = some o := h
  unfold bX11_drawLot_10 at h
  show G X B 2 Z Q 10 [(0, .ref (x0)), (1, .int (x1))] [] T M
  refine g_iload_n (pc := 10) C dX11_drawLot_10 rfl 1 rfl ?_
  refine g_bipush (pc := 11) (v := 24) C dX11_drawLot_11 (by decide) ?_
  refine g_icmp_ge (pc := 13) (tgt := 83) C dX11_drawLot_13 (by decide) (fun c4 => ?_) (fun c4 => ?_)
  · replace h := ifp c4 h
    obtain rfl := Option.some.inj h
    exact g_sub [0] rfl (show G X B 2 Z Q 83 [(0, .ref (x0))] [] T M from hE)
  · replace h := ifn c4 h
    refine g_aload_n (pc := 16) C dX11_drawLot_16 rfl 0 rfl ?_
    replace h := gd_some h; obtain ⟨hk5, h⟩ := h
    refine g_get (pc := 17) (v := va_rf (gR M x0 12)) C dX11_drawLot_17 kX11 hk5 12 (by decide) q_436 rfl ?_
    replace h := bnd h; obtain ⟨a6, ea6, h⟩ := h
    refine g_refq ea6 ?_
    refine g_iload_n (pc := 20) C dX11_drawLot_20 rfl 1 rfl ?_
    refine g_iconst (pc := 21) (v := 1) C dX11_drawLot_21 (by decide) ?_
    refine g_isub (pc := 22) C dX11_drawLot_22 ?_
    refine g_iconst (pc := 23) (v := 0) C dX11_drawLot_23 (by decide) ?_
    replace h := bnd h; obtain ⟨r7, h1, h⟩ := h
    refine g_callSi (pc := 24) (As := [.int (x1 - (1 : Int32)), .int ((0 : Int32))]) (st := [.ref (a6)]) C dX11_drawLot_24 wJ9_max_7cf53 q_606 q_1055 (by omega) rfl (Nat.le_of_ble_eq_true rfl) (kJ9_max_7cf53 (d := 0) (Nat.le_refl _) h1) ?_
    refine g_dup2 (pc := 27) C dX11_drawLot_27 rfl rfl ?_
    replace h := gd_some h; obtain ⟨hk8, h⟩ := h
    replace h := gv_some h; obtain ⟨hi9, h⟩ := h
    refine g_iald (pc := 28) C dX11_drawLot_28 hk8 hi9 ?_
    refine g_aload_n (pc := 29) C dX11_drawLot_29 rfl 0 rfl ?_
    refine g_get (pc := 30) (v := va_rf (gR M x0 11)) C dX11_drawLot_30 kX11 hk5 11 (by decide) q_435 rfl ?_
    replace h := bnd h; obtain ⟨a10, ea10, h⟩ := h
    refine g_refq ea10 ?_
    refine g_iload_n (pc := 33) C dX11_drawLot_33 rfl 1 rfl ?_
    replace h := gd_some h; obtain ⟨hk11, h⟩ := h
    replace h := gv_some h; obtain ⟨hi12, h⟩ := h
    refine g_iald (pc := 34) C dX11_drawLot_34 hk11 hi12 ?_
    refine g_iadd (pc := 35) C dX11_drawLot_35 ?_
    replace h := gv_some h; obtain ⟨hi13, h⟩ := h
    refine g_iast (pc := 36) C dX11_drawLot_36 hk8 hi13 ?_
    refine g_mem (fun M14 eM14 => ?_)
    replace h := lt_at eM14 h
    refine g_aload_n (pc := 37) C dX11_drawLot_37 rfl 0 rfl ?_
    refine g_get (pc := 38) (v := va_rf (gR M14 x0 12)) C dX11_drawLot_38 kX11 hk5 12 (by decide) q_436 rfl ?_
    replace h := bnd h; obtain ⟨a15, ea15, h⟩ := h
    refine g_refq ea15 ?_
    refine g_iload_n (pc := 41) C dX11_drawLot_41 rfl 1 rfl ?_
    refine g_iconst (pc := 42) (v := 1) C dX11_drawLot_42 (by decide) ?_
    refine g_iadd (pc := 43) C dX11_drawLot_43 ?_
    refine g_bipush (pc := 44) (v := 23) C dX11_drawLot_44 (by decide) ?_
    replace h := bnd h; obtain ⟨r16, h1, h⟩ := h
    refine g_callSi (pc := 46) (As := [.int (x1 + (1 : Int32)), .int ((23 : Int32))]) (st := [.ref (a15)]) C dX11_drawLot_46 wJ9_min_7cf53 q_584 q_1173 (by omega) rfl (Nat.le_of_ble_eq_true rfl) (kJ9_min_7cf53 (d := 0) (Nat.le_refl _) h1) ?_
    refine g_dup2 (pc := 49) C dX11_drawLot_49 rfl rfl ?_
    replace h := gd_some h; obtain ⟨hk17, h⟩ := h
    replace h := gv_some h; obtain ⟨hi18, h⟩ := h
    refine g_iald (pc := 50) C dX11_drawLot_50 hk17 hi18 ?_
    refine g_aload_n (pc := 51) C dX11_drawLot_51 rfl 0 rfl ?_
    refine g_get (pc := 52) (v := va_rf (gR M14 x0 11)) C dX11_drawLot_52 kX11 hk5 11 (by decide) q_435 rfl ?_
    replace h := bnd h; obtain ⟨a19, ea19, h⟩ := h
    refine g_refq ea19 ?_
    refine g_iload_n (pc := 55) C dX11_drawLot_55 rfl 1 rfl ?_
    replace h := gd_some h; obtain ⟨hk20, h⟩ := h
    replace h := gv_some h; obtain ⟨hi21, h⟩ := h
    refine g_iald (pc := 56) C dX11_drawLot_56 hk20 hi21 ?_
    refine g_iadd (pc := 57) C dX11_drawLot_57 ?_
    replace h := gv_some h; obtain ⟨hi22, h⟩ := h
    refine g_iast (pc := 58) C dX11_drawLot_58 hk17 hi22 ?_
    refine g_mem (fun M23 eM23 => ?_)
    replace h := lt_at eM23 h
    refine g_aload_n (pc := 59) C dX11_drawLot_59 rfl 0 rfl ?_
    refine g_get (pc := 60) (v := va_rf (gR M23 x0 12)) C dX11_drawLot_60 kX11 hk5 12 (by decide) q_436 rfl ?_
    replace h := bnd h; obtain ⟨a24, ea24, h⟩ := h
    refine g_refq ea24 ?_
    refine g_iload_n (pc := 63) C dX11_drawLot_63 rfl 1 rfl ?_
    refine g_dup2 (pc := 64) C dX11_drawLot_64 rfl rfl ?_
    replace h := gd_some h; obtain ⟨hk25, h⟩ := h
    replace h := gv_some h; obtain ⟨hi26, h⟩ := h
    refine g_iald (pc := 65) C dX11_drawLot_65 hk25 hi26 ?_
    refine g_bipush (pc := 66) (v := 8) C dX11_drawLot_66 (by decide) ?_
    refine g_aload_n (pc := 68) C dX11_drawLot_68 rfl 0 rfl ?_
    refine g_get (pc := 69) (v := va_rf (gR M23 x0 11)) C dX11_drawLot_69 kX11 hk5 11 (by decide) q_435 rfl ?_
    replace h := bnd h; obtain ⟨a27, ea27, h⟩ := h
    refine g_refq ea27 ?_
    refine g_iload_n (pc := 72) C dX11_drawLot_72 rfl 1 rfl ?_
    replace h := gd_some h; obtain ⟨hk28, h⟩ := h
    replace h := gv_some h; obtain ⟨hi29, h⟩ := h
    refine g_iald (pc := 73) C dX11_drawLot_73 hk28 hi29 ?_
    refine g_imul (pc := 74) C dX11_drawLot_74 ?_
    refine g_iadd (pc := 75) C dX11_drawLot_75 ?_
    replace h := gv_some h; obtain ⟨hi30, h⟩ := h
    refine g_iast (pc := 76) C dX11_drawLot_76 hk25 hi30 ?_
    refine g_mem (fun M31 eM31 => ?_)
    replace h := lt_at eM31 h
    obtain ⟨v32, ev32⟩ : ∃ y : Int32, y = x1 + (1 : Int32) := ⟨_, rfl⟩
    replace h := lt_at ev32 h
    refine g_iinc (pc := 77) (v := v32) (k := 1) (lo2 := [(1, .int (v32)), (0, .ref (x0))]) C dX11_drawLot_77 rfl (by rw [ev32]; rfl) (by decide) rfl ?_
    refine g_goto (pc := 80) (tgt := 10) C dX11_drawLot_80 (by decide) ?_
    obtain rfl := Option.some.inj h
    exact g_sub [1, 0] rfl (show G X B 2 Z Q 10 [(0, .ref (x0)), (1, .int (v32))] [] T M31 from hE)
/-- EyeTrainer.drawLot()V -/
def fX11_drawLot (T : Sh) (M : Me) (x0 : Nat) : Option (Unit × Me) :=
  gd (kd T x0 = 10) <| Option.bind (gR M x0 12) fun a2 => Option.bind (fJ7_fill_53178 T M a2 (0 : Int32)) <| un2 fun _u M3 => (lp FU (fun s => bX11_drawLot_10 T x0 s.1 s.2) ((0 : Int32), M3)).bind (fun M33 => Option.bind (gR M33 x0 11) fun a34 => Option.bind (gR M33 x0 12) fun a35 => lt (pR M33 x0 11 (some a35)) fun M36 => lt (pR M36 x0 12 (some a34)) fun M37 => some ((), M37))
set_option maxHeartbeats 4000000 in
theorem kX11_drawLot {l : Launch} {B : Bx} {d : Nat} (hd : 1 ≤ d) {T : Sh} {M : Me} {x0 : Nat} {M' : Me} (h : fX11_drawLot T M x0 = some ((), M')) : Kt l B yX11_drawLot cX11_drawLot 2 none d [.ref (x0)] T M none T M' := by
  refine kt_of wX11_drawLot (Nat.le_refl _) (Nat.le_refl _) (Nat.le_of_ble_eq_true rfl) (fun X C hR hlx hin => ?_)
  subst hlx
  replace C : Cx X B cX11_drawLot 2 RX11 d (tp T, sl T, tp T, sl T) := C
  unfold fX11_drawLot at h
  show G X B 2 _ _ 0 [(0, .ref (x0))] [] T M
  refine g_aload_n (pc := 0) C dX11_drawLot_0 rfl 0 rfl ?_
  replace h := gd_some h; obtain ⟨hk1, h⟩ := h
  refine g_get (pc := 1) (v := va_rf (gR M x0 12)) C dX11_drawLot_1 kX11 hk1 12 (by decide) q_436 rfl ?_
  replace h := bnd h; obtain ⟨a2, ea2, h⟩ := h
  refine g_refq ea2 ?_
  refine g_iconst (pc := 4) (v := 0) C dX11_drawLot_4 (by decide) ?_
  replace h := bnd2 h; obtain ⟨_u, M3, h1, h⟩ := h
  refine g_callSv (pc := 5) (As := [.ref (a2), .int ((0 : Int32))]) (st := []) C dX11_drawLot_5 wJ7_fill_53178 q_285 q_1160 (by omega) rfl (Nat.le_of_ble_eq_true rfl) (kJ7_fill_53178 (d := 0) (Nat.le_refl _) h1) ?_
  refine g_iconst (pc := 8) (v := 0) C dX11_drawLot_8 (by decide) ?_
  refine g_istore_n (pc := 9) (lo2 := [(1, .int ((0 : Int32))), (0, .ref (x0))]) C dX11_drawLot_9 rfl (by decide) rfl ?_
  replace h := bnd h; obtain ⟨M33, h1, h⟩ := h
  refine g_sub [1, 0] rfl ?_
  refine lp_G2 (P := PX11_drawLot_10 X B _ _ T x0) (E := EX11_drawLot_10 X B _ _ T x0) (tbX11_drawLot_10 C hd) h1 ?_
  show G X B 2 _ _ 83 [(0, .ref (x0))] [] T M33
  refine g_aload_n (pc := 83) C dX11_drawLot_83 rfl 0 rfl ?_
  refine g_get (pc := 84) (v := va_rf (gR M33 x0 11)) C dX11_drawLot_84 kX11 hk1 11 (by decide) q_435 rfl ?_
  replace h := bnd h; obtain ⟨a34, ea34, h⟩ := h
  refine g_refq ea34 ?_
  refine g_astore_n (pc := 87) (lo2 := [(1, .ref (a34)), (0, .ref (x0))]) C dX11_drawLot_87 rfl (by decide) rfl ?_
  refine g_aload_n (pc := 88) C dX11_drawLot_88 rfl 1 rfl ?_
  refine g_aload_n (pc := 89) C dX11_drawLot_89 rfl 1 rfl ?_
  refine g_get (pc := 90) (v := va_rf (gR M33 x0 12)) C dX11_drawLot_90 kX11 hk1 12 (by decide) q_436 rfl ?_
  replace h := bnd h; obtain ⟨a35, ea35, h⟩ := h
  refine g_refq ea35 ?_
  refine g_putR (pc := 93) (x := (some a35)) (ft := .array (.int)) C dX11_drawLot_93 kX11 hk1 11 (by decide) rfl rfl rfl (Or.inr ⟨_, rfl⟩) q_435 ?_
  refine g_mem (fun M36 eM36 => ?_)
  replace h := lt_at eM36 h
  refine g_aload_n (pc := 96) C dX11_drawLot_96 rfl 1 rfl ?_
  refine g_aload_n (pc := 97) C dX11_drawLot_97 rfl 0 rfl ?_
  refine g_putR (pc := 98) (x := (some a34)) (ft := .array (.int)) C dX11_drawLot_98 kX11 hk1 12 (by decide) rfl rfl rfl (Or.inr ⟨_, rfl⟩) q_436 ?_
  refine g_mem (fun M37 eM37 => ?_)
  replace h := lt_at eM37 h
  obtain ⟨-, rfl⟩ := Prod.mk.inj (Option.some.inj h)
  exact g_vret C hR dX11_drawLot_101
theorem dX11_passingLots_0 : decode cX11_passingLots 0 = .ok (.aload_n 0, 1) := by decide +kernel
theorem dX11_passingLots_1 : decode cX11_passingLots 1 = .ok (.getfield 67, 3) := by decide +kernel
theorem dX11_passingLots_4 : decode cX11_passingLots 4 = .ok (.iconst 0, 1) := by decide +kernel
theorem dX11_passingLots_5 : decode cX11_passingLots 5 = .ok (.invokestatic 380, 3) := by decide +kernel
theorem dX11_passingLots_8 : decode cX11_passingLots 8 = .ok (.aload_n 0, 1) := by decide +kernel
theorem dX11_passingLots_9 : decode cX11_passingLots 9 = .ok (.getfield 67, 3) := by decide +kernel
theorem dX11_passingLots_12 : decode cX11_passingLots 12 = .ok (.aload_n 0, 1) := by decide +kernel
theorem dX11_passingLots_13 : decode cX11_passingLots 13 = .ok (.getfield 42, 3) := by decide +kernel
theorem dX11_passingLots_16 : decode cX11_passingLots 16 = .ok (.getfield 127, 3) := by decide +kernel
theorem dX11_passingLots_19 : decode cX11_passingLots 19 = .ok (.iload_n 1, 1) := by decide +kernel
theorem dX11_passingLots_20 : decode cX11_passingLots 20 = .ok (.iaload, 1) := by decide +kernel
theorem dX11_passingLots_21 : decode cX11_passingLots 21 = .ok (.bipush 24, 2) := by decide +kernel
theorem dX11_passingLots_23 : decode cX11_passingLots 23 = .ok (.irem, 1) := by decide +kernel
theorem dX11_passingLots_24 : decode cX11_passingLots 24 = .ok (.iconst 1, 1) := by decide +kernel
theorem dX11_passingLots_25 : decode cX11_passingLots 25 = .ok (.iastore, 1) := by decide +kernel
theorem dX11_passingLots_26 : decode cX11_passingLots 26 = .ok (.iconst 0, 1) := by decide +kernel
theorem dX11_passingLots_27 : decode cX11_passingLots 27 = .ok (.istore_n 3, 1) := by decide +kernel
theorem dX11_passingLots_28 : decode cX11_passingLots 28 = .ok (.iload_n 3, 1) := by decide +kernel
theorem dX11_passingLots_29 : decode cX11_passingLots 29 = .ok (.iload_n 2, 1) := by decide +kernel
theorem dX11_passingLots_30 : decode cX11_passingLots 30 = .ok (.if_icmp .ge 13, 3) := by decide +kernel
theorem dX11_passingLots_33 : decode cX11_passingLots 33 = .ok (.aload_n 0, 1) := by decide +kernel
theorem dX11_passingLots_34 : decode cX11_passingLots 34 = .ok (.invokevirtual 386, 3) := by decide +kernel
theorem dX11_passingLots_37 : decode cX11_passingLots 37 = .ok (.iinc 3 1, 3) := by decide +kernel
theorem dX11_passingLots_40 : decode cX11_passingLots 40 = .ok (.goto (-12), 3) := by decide +kernel
theorem dX11_passingLots_43 : decode cX11_passingLots 43 = .ok (.aload_n 0, 1) := by decide +kernel
theorem dX11_passingLots_44 : decode cX11_passingLots 44 = .ok (.iload_n 1, 1) := by decide +kernel
theorem dX11_passingLots_45 : decode cX11_passingLots 45 = .ok (.aload_n 0, 1) := by decide +kernel
theorem dX11_passingLots_46 : decode cX11_passingLots 46 = .ok (.getfield 42, 3) := by decide +kernel
theorem dX11_passingLots_49 : decode cX11_passingLots 49 = .ok (.getfield 127, 3) := by decide +kernel
theorem dX11_passingLots_52 : decode cX11_passingLots 52 = .ok (.iload_n 1, 1) := by decide +kernel
theorem dX11_passingLots_53 : decode cX11_passingLots 53 = .ok (.iaload, 1) := by decide +kernel
theorem dX11_passingLots_54 : decode cX11_passingLots 54 = .ok (.bipush 24, 2) := by decide +kernel
theorem dX11_passingLots_56 : decode cX11_passingLots 56 = .ok (.idiv, 1) := by decide +kernel
theorem dX11_passingLots_57 : decode cX11_passingLots 57 = .ok (.invokevirtual 147, 3) := by decide +kernel
theorem dX11_passingLots_60 : decode cX11_passingLots 60 = .ok (.istore_n 3, 1) := by decide +kernel
theorem dX11_passingLots_61 : decode cX11_passingLots 61 = .ok (.iconst 0, 1) := by decide +kernel
theorem dX11_passingLots_62 : decode cX11_passingLots 62 = .ok (.istore 4, 2) := by decide +kernel
theorem dX11_passingLots_64 : decode cX11_passingLots 64 = .ok (.iconst 0, 1) := by decide +kernel
theorem dX11_passingLots_65 : decode cX11_passingLots 65 = .ok (.istore 5, 2) := by decide +kernel
theorem dX11_passingLots_67 : decode cX11_passingLots 67 = .ok (.iload 5, 2) := by decide +kernel
theorem dX11_passingLots_69 : decode cX11_passingLots 69 = .ok (.bipush 24, 2) := by decide +kernel
theorem dX11_passingLots_71 : decode cX11_passingLots 71 = .ok (.if_icmp .ge 28, 3) := by decide +kernel
theorem dX11_passingLots_74 : decode cX11_passingLots 74 = .ok (.iload 4, 2) := by decide +kernel
theorem dX11_passingLots_76 : decode cX11_passingLots 76 = .ok (.iload_n 3, 1) := by decide +kernel
theorem dX11_passingLots_77 : decode cX11_passingLots 77 = .ok (.iload 5, 2) := by decide +kernel
theorem dX11_passingLots_79 : decode cX11_passingLots 79 = .ok (.ishr, 1) := by decide +kernel
theorem dX11_passingLots_80 : decode cX11_passingLots 80 = .ok (.iconst 1, 1) := by decide +kernel
theorem dX11_passingLots_81 : decode cX11_passingLots 81 = .ok (.iand, 1) := by decide +kernel
theorem dX11_passingLots_82 : decode cX11_passingLots 82 = .ok (.aload_n 0, 1) := by decide +kernel
theorem dX11_passingLots_83 : decode cX11_passingLots 83 = .ok (.getfield 67, 3) := by decide +kernel
theorem dX11_passingLots_86 : decode cX11_passingLots 86 = .ok (.iload 5, 2) := by decide +kernel
theorem dX11_passingLots_88 : decode cX11_passingLots 88 = .ok (.iaload, 1) := by decide +kernel
theorem dX11_passingLots_89 : decode cX11_passingLots 89 = .ok (.imul, 1) := by decide +kernel
theorem dX11_passingLots_90 : decode cX11_passingLots 90 = .ok (.iadd, 1) := by decide +kernel
theorem dX11_passingLots_91 : decode cX11_passingLots 91 = .ok (.istore 4, 2) := by decide +kernel
theorem dX11_passingLots_93 : decode cX11_passingLots 93 = .ok (.iinc 5 1, 3) := by decide +kernel
theorem dX11_passingLots_96 : decode cX11_passingLots 96 = .ok (.goto (-29), 3) := by decide +kernel
theorem dX11_passingLots_99 : decode cX11_passingLots 99 = .ok (.iload 4, 2) := by decide +kernel
theorem dX11_passingLots_101 : decode cX11_passingLots 101 = .ok (.ireturn, 1) := by decide +kernel
theorem wX11_passingLots : Mw yX11_passingLots cX11_passingLots 6 (some .int) 2 := ⟨q_1168, q_120, by decide, ⟨by decide +kernel, by decide +kernel⟩, by decide +kernel, by decide +kernel⟩
-- a loop of EyeTrainer.passingLots at 28
def bX11_passingLots_28 (T : Sh) (x0 : Nat) (x1 : Int32) (x2 : Int32) (x3 : Int32) (M : Me) : Option ((Int32 × Me) ⊕ (Me)) :=
  if x2 ≤ x3 then (some (.inr M)) else (gd (kd T x0 = 10) <| Option.bind (fX11_drawLot T M x0) <| un2 fun _u M15 => lt (x3 + (1 : Int32)) fun v16 => some (.inl (v16, M15)))
def PX11_passingLots_28 (X : Fx) (B : Bx) (Z : Nat × Nat × Nat × Nat) (Q : State → Prop) (T : Sh) (x0 : Nat) (x1 : Int32) (x2 : Int32) (s : Int32 × Me) : Prop := G X B 6 Z Q 28 [(0, .ref (x0)), (1, .int (x1)), (2, .int (x2)), (3, .int (s.1))] [] T s.2
def EX11_passingLots_28 (X : Fx) (B : Bx) (Z : Nat × Nat × Nat × Nat) (Q : State → Prop) (T : Sh) (x0 : Nat) (x1 : Int32) (x2 : Int32) (r : Me) : Prop := G X B 6 Z Q 43 [(0, .ref (x0)), (1, .int (x1))] [] T r
set_option maxHeartbeats 4000000 in
theorem tbX11_passingLots_28 {X : Fx} {B : Bx} {Z : Nat × Nat × Nat × Nat} {Q : State → Prop} {d : Nat} {T : Sh} (C : Cx X B cX11_passingLots 6 RX11 d Z) (hd : 4 ≤ d) {x0 : Nat} {x1 : Int32} {x2 : Int32} : ∀ (s : Int32 × Me) (o : (Int32 × Me) ⊕ (Me)), bX11_passingLots_28 T x0 x1 x2 s.1 s.2 = some o → lpE (PX11_passingLots_28 X B Z Q T x0 x1 x2) (EX11_passingLots_28 X B Z Q T x0 x1 x2) o → PX11_passingLots_28 X B Z Q T x0 x1 x2 s := by
  rintro ⟨x3, M⟩ o h hE
  replace h : bX11_passingLots_28 T x0 x1 x2 x3 M = some o := h
  unfold bX11_passingLots_28 at h
  show G X B 6 Z Q 28 [(0, .ref (x0)), (1, .int (x1)), (2, .int (x2)), (3, .int (x3))] [] T M
  refine g_iload_n (pc := 28) C dX11_passingLots_28 rfl 3 rfl ?_
  refine g_iload_n (pc := 29) C dX11_passingLots_29 rfl 2 rfl ?_
  refine g_icmp_ge (pc := 30) (tgt := 43) C dX11_passingLots_30 (by decide) (fun c13 => ?_) (fun c13 => ?_)
  · replace h := ifp c13 h
    obtain rfl := Option.some.inj h
    exact g_sub [0, 1] rfl (show G X B 6 Z Q 43 [(0, .ref (x0)), (1, .int (x1))] [] T M from hE)
  · replace h := ifn c13 h
    refine g_aload_n (pc := 33) C dX11_passingLots_33 rfl 0 rfl ?_
    replace h := gd_some h; obtain ⟨hk14, h⟩ := h
    replace h := bnd2 h; obtain ⟨_u, M15, h1, h⟩ := h
    refine g_callVv (pc := 34) (As := []) (st := []) C dX11_passingLots_34 wX11_drawLot hk14 rfl (by decide) q_1171 q_51 q_1169 (by omega) rfl (Nat.le_of_ble_eq_true rfl) (kX11_drawLot (d := 1) (Nat.le_refl _) h1) ?_
    obtain ⟨v16, ev16⟩ : ∃ y : Int32, y = x3 + (1 : Int32) := ⟨_, rfl⟩
    replace h := lt_at ev16 h
    refine g_iinc (pc := 37) (v := v16) (k := 3) (lo2 := [(3, .int (v16)), (0, .ref (x0)), (1, .int (x1)), (2, .int (x2))]) C dX11_passingLots_37 rfl (by rw [ev16]; rfl) (by decide) rfl ?_
    refine g_goto (pc := 40) (tgt := 28) C dX11_passingLots_40 (by decide) ?_
    obtain rfl := Option.some.inj h
    exact g_sub [1, 2, 3, 0] rfl (show G X B 6 Z Q 28 [(0, .ref (x0)), (1, .int (x1)), (2, .int (x2)), (3, .int (v16))] [] T M15 from hE)
-- a loop of EyeTrainer.passingLots at 67
def bX11_passingLots_67 (T : Sh) (M : Me) (x0 : Nat) (x3 : Int32) (x4 : Int32) (x5 : Int32) : Option ((Int32 × Int32) ⊕ (Int32)) :=
  if (24 : Int32) ≤ x5 then (some (.inr x4)) else (gd (kd T x0 = 10) <| Option.bind (gR M x0 11) fun a27 => gd (kd T a27 = 13) <| gv x5 (ln T a27) <| lt (x4 + (((x3 >>> (x5 &&& 31)) &&& (1 : Int32)) * (gI M a27 (Int32.toNatClampNeg x5)))) fun v30 => lt (x5 + (1 : Int32)) fun v31 => some (.inl (v30, v31)))
def PX11_passingLots_67 (X : Fx) (B : Bx) (Z : Nat × Nat × Nat × Nat) (Q : State → Prop) (T : Sh) (M : Me) (x0 : Nat) (x3 : Int32) (s : Int32 × Int32) : Prop := G X B 6 Z Q 67 [(0, .ref (x0)), (3, .int (x3)), (4, .int (s.1)), (5, .int (s.2))] [] T M
def EX11_passingLots_67 (X : Fx) (B : Bx) (Z : Nat × Nat × Nat × Nat) (Q : State → Prop) (T : Sh) (M : Me) (x0 : Nat) (x3 : Int32) (r : Int32) : Prop := G X B 6 Z Q 99 [(4, .int (r))] [] T M
set_option maxHeartbeats 4000000 in
theorem tbX11_passingLots_67 {X : Fx} {B : Bx} {Z : Nat × Nat × Nat × Nat} {Q : State → Prop} {d : Nat} {T : Sh} {M : Me} (C : Cx X B cX11_passingLots 6 RX11 d Z) (hd : 4 ≤ d) {x0 : Nat} {x3 : Int32} : ∀ (s : Int32 × Int32) (o : (Int32 × Int32) ⊕ (Int32)), bX11_passingLots_67 T M x0 x3 s.1 s.2 = some o → lpE (PX11_passingLots_67 X B Z Q T M x0 x3) (EX11_passingLots_67 X B Z Q T M x0 x3) o → PX11_passingLots_67 X B Z Q T M x0 x3 s := by
  rintro ⟨x4, x5⟩ o h hE
  replace h : bX11_passingLots_67 T M x0 x3 x4 x5 = some o := h
  unfold bX11_passingLots_67 at h
  show G X B 6 Z Q 67 [(0, .ref (x0)), (3, .int (x3)), (4, .int (x4)), (5, .int (x5))] [] T M
  refine g_iload (pc := 67) C dX11_passingLots_67 3 rfl ?_
  refine g_bipush (pc := 69) (v := 24) C dX11_passingLots_69 (by decide) ?_
  refine g_icmp_ge (pc := 71) (tgt := 99) C dX11_passingLots_71 (by decide) (fun c25 => ?_) (fun c25 => ?_)
  · replace h := ifp c25 h
    obtain rfl := Option.some.inj h
    exact g_sub [2] rfl (show G X B 6 Z Q 99 [(4, .int (x4))] [] T M from hE)
  · replace h := ifn c25 h
    refine g_iload (pc := 74) C dX11_passingLots_74 2 rfl ?_
    refine g_iload_n (pc := 76) C dX11_passingLots_76 rfl 1 rfl ?_
    refine g_iload (pc := 77) C dX11_passingLots_77 3 rfl ?_
    refine g_ishr (pc := 79) C dX11_passingLots_79 ?_
    refine g_iconst (pc := 80) (v := 1) C dX11_passingLots_80 (by decide) ?_
    refine g_iand (pc := 81) C dX11_passingLots_81 ?_
    refine g_aload_n (pc := 82) C dX11_passingLots_82 rfl 0 rfl ?_
    replace h := gd_some h; obtain ⟨hk26, h⟩ := h
    refine g_get (pc := 83) (v := va_rf (gR M x0 11)) C dX11_passingLots_83 kX11 hk26 11 (by decide) q_435 rfl ?_
    replace h := bnd h; obtain ⟨a27, ea27, h⟩ := h
    refine g_refq ea27 ?_
    refine g_iload (pc := 86) C dX11_passingLots_86 3 rfl ?_
    replace h := gd_some h; obtain ⟨hk28, h⟩ := h
    replace h := gv_some h; obtain ⟨hi29, h⟩ := h
    refine g_iald (pc := 88) C dX11_passingLots_88 hk28 hi29 ?_
    refine g_imul (pc := 89) C dX11_passingLots_89 ?_
    refine g_iadd (pc := 90) C dX11_passingLots_90 ?_
    refine g_topi (fun v30 ev30 => ?_)
    replace h := lt_at ev30 h
    refine g_istore (pc := 91) (lo2 := [(4, .int (v30)), (0, .ref (x0)), (3, .int (x3)), (5, .int (x5))]) C dX11_passingLots_91 (by decide) rfl ?_
    obtain ⟨v31, ev31⟩ : ∃ y : Int32, y = x5 + (1 : Int32) := ⟨_, rfl⟩
    replace h := lt_at ev31 h
    refine g_iinc (pc := 93) (v := v31) (k := 3) (lo2 := [(5, .int (v31)), (4, .int (v30)), (0, .ref (x0)), (3, .int (x3))]) C dX11_passingLots_93 rfl (by rw [ev31]; rfl) (by decide) rfl ?_
    refine g_goto (pc := 96) (tgt := 67) C dX11_passingLots_96 (by decide) ?_
    obtain rfl := Option.some.inj h
    exact g_sub [2, 3, 1, 0] rfl (show G X B 6 Z Q 67 [(0, .ref (x0)), (3, .int (x3)), (4, .int (v30)), (5, .int (v31))] [] T M from hE)
/-- EyeTrainer.passingLots(II)I -/
def fX11_passingLots (T : Sh) (M : Me) (x0 : Nat) (x1 : Int32) (x2 : Int32) : Option (Int32 × Me) :=
  gd (kd T x0 = 10) <| Option.bind (gR M x0 11) fun a2 => Option.bind (fJ7_fill_53178 T M a2 (0 : Int32)) <| un2 fun _u M3 => Option.bind (gR M3 x0 11) fun a4 => Option.bind (gR M3 x0 5) fun a5 => gd (kd T a5 = 7) <| Option.bind (gR M3 a5 0) fun a7 => gd (kd T a7 = 13) <| gv x1 (ln T a7) <| gd (kd T a4 = 13) <| gv ((gI M3 a7 (Int32.toNatClampNeg x1)) - (gI M3 a7 (Int32.toNatClampNeg x1)) / (24 : Int32) * (24 : Int32)) (ln T a4) <| lt (pI M3 a4 (Int32.toNatClampNeg ((gI M3 a7 (Int32.toNatClampNeg x1)) - (gI M3 a7 (Int32.toNatClampNeg x1)) / (24 : Int32) * (24 : Int32))) (1 : Int32)) fun M12 => (lp FU (fun s => bX11_passingLots_28 T x0 x1 x2 s.1 s.2) ((0 : Int32), M12)).bind (fun M17 => Option.bind (gR M17 x0 5) fun a18 => gd (kd T a18 = 7) <| Option.bind (gR M17 a18 0) fun a20 => gd (kd T a20 = 13) <| gv x1 (ln T a20) <| Option.bind (fX11_rowNow T M17 x0 x1 ((gI M17 a20 (Int32.toNatClampNeg x1)) / (24 : Int32))) <| un2 fun r23 M24 => (lp FU (fun s => bX11_passingLots_67 T M24 x0 r23 s.1 s.2) ((0 : Int32), (0 : Int32))).bind (fun x4_32 => some (x4_32, M24)))
set_option maxHeartbeats 4000000 in
theorem kX11_passingLots {l : Launch} {B : Bx} {d : Nat} (hd : 4 ≤ d) {T : Sh} {M : Me} {x0 : Nat} {x1 : Int32} {x2 : Int32} {r : Int32} {M' : Me} (h : fX11_passingLots T M x0 x1 x2 = some (r, M')) : Kt l B yX11_passingLots cX11_passingLots 6 (some .int) d [.ref (x0), .int (x1), .int (x2)] T M (some (.int r)) T M' := by
  refine kt_of wX11_passingLots (Nat.le_refl _) (Nat.le_refl _) (Nat.le_of_ble_eq_true rfl) (fun X C hR hlx hin => ?_)
  subst hlx
  replace C : Cx X B cX11_passingLots 6 RX11 d (tp T, sl T, tp T, sl T) := C
  unfold fX11_passingLots at h
  show G X B 6 _ _ 0 [(0, .ref (x0)), (1, .int (x1)), (2, .int (x2))] [] T M
  refine g_aload_n (pc := 0) C dX11_passingLots_0 rfl 0 rfl ?_
  replace h := gd_some h; obtain ⟨hk1, h⟩ := h
  refine g_get (pc := 1) (v := va_rf (gR M x0 11)) C dX11_passingLots_1 kX11 hk1 11 (by decide) q_435 rfl ?_
  replace h := bnd h; obtain ⟨a2, ea2, h⟩ := h
  refine g_refq ea2 ?_
  refine g_iconst (pc := 4) (v := 0) C dX11_passingLots_4 (by decide) ?_
  replace h := bnd2 h; obtain ⟨_u, M3, h1, h⟩ := h
  refine g_callSv (pc := 5) (As := [.ref (a2), .int ((0 : Int32))]) (st := []) C dX11_passingLots_5 wJ7_fill_53178 q_285 q_1160 (by omega) rfl (Nat.le_of_ble_eq_true rfl) (kJ7_fill_53178 (d := 0) (Nat.le_refl _) h1) ?_
  refine g_aload_n (pc := 8) C dX11_passingLots_8 rfl 0 rfl ?_
  refine g_get (pc := 9) (v := va_rf (gR M3 x0 11)) C dX11_passingLots_9 kX11 hk1 11 (by decide) q_435 rfl ?_
  replace h := bnd h; obtain ⟨a4, ea4, h⟩ := h
  refine g_refq ea4 ?_
  refine g_aload_n (pc := 12) C dX11_passingLots_12 rfl 0 rfl ?_
  refine g_get (pc := 13) (v := va_rf (gR M3 x0 5)) C dX11_passingLots_13 kX11 hk1 5 (by decide) q_429 rfl ?_
  replace h := bnd h; obtain ⟨a5, ea5, h⟩ := h
  refine g_refq ea5 ?_
  replace h := gd_some h; obtain ⟨hk6, h⟩ := h
  refine g_get (pc := 16) (v := va_rf (gR M3 a5 0)) C dX11_passingLots_16 kX8 hk6 0 (by decide) q_375 rfl ?_
  replace h := bnd h; obtain ⟨a7, ea7, h⟩ := h
  refine g_refq ea7 ?_
  refine g_iload_n (pc := 19) C dX11_passingLots_19 rfl 1 rfl ?_
  replace h := gd_some h; obtain ⟨hk8, h⟩ := h
  replace h := gv_some h; obtain ⟨hi9, h⟩ := h
  refine g_iald (pc := 20) C dX11_passingLots_20 hk8 hi9 ?_
  refine g_bipush (pc := 21) (v := 24) C dX11_passingLots_21 (by decide) ?_
  refine g_irem (pc := 23) C dX11_passingLots_23 (by decide) ?_
  refine g_iconst (pc := 24) (v := 1) C dX11_passingLots_24 (by decide) ?_
  replace h := gd_some h; obtain ⟨hk10, h⟩ := h
  replace h := gv_some h; obtain ⟨hi11, h⟩ := h
  refine g_iast (pc := 25) C dX11_passingLots_25 hk10 hi11 ?_
  refine g_mem (fun M12 eM12 => ?_)
  replace h := lt_at eM12 h
  refine g_iconst (pc := 26) (v := 0) C dX11_passingLots_26 (by decide) ?_
  refine g_istore_n (pc := 27) (lo2 := [(3, .int ((0 : Int32))), (0, .ref (x0)), (1, .int (x1)), (2, .int (x2))]) C dX11_passingLots_27 rfl (by decide) rfl ?_
  replace h := bnd h; obtain ⟨M17, h1, h⟩ := h
  refine g_sub [1, 2, 3, 0] rfl ?_
  refine lp_G2 (P := PX11_passingLots_28 X B _ _ T x0 x1 x2) (E := EX11_passingLots_28 X B _ _ T x0 x1 x2) (tbX11_passingLots_28 C hd) h1 ?_
  show G X B 6 _ _ 43 [(0, .ref (x0)), (1, .int (x1))] [] T M17
  refine g_aload_n (pc := 43) C dX11_passingLots_43 rfl 0 rfl ?_
  refine g_iload_n (pc := 44) C dX11_passingLots_44 rfl 1 rfl ?_
  refine g_aload_n (pc := 45) C dX11_passingLots_45 rfl 0 rfl ?_
  refine g_get (pc := 46) (v := va_rf (gR M17 x0 5)) C dX11_passingLots_46 kX11 hk1 5 (by decide) q_429 rfl ?_
  replace h := bnd h; obtain ⟨a18, ea18, h⟩ := h
  refine g_refq ea18 ?_
  replace h := gd_some h; obtain ⟨hk19, h⟩ := h
  refine g_get (pc := 49) (v := va_rf (gR M17 a18 0)) C dX11_passingLots_49 kX8 hk19 0 (by decide) q_375 rfl ?_
  replace h := bnd h; obtain ⟨a20, ea20, h⟩ := h
  refine g_refq ea20 ?_
  refine g_iload_n (pc := 52) C dX11_passingLots_52 rfl 1 rfl ?_
  replace h := gd_some h; obtain ⟨hk21, h⟩ := h
  replace h := gv_some h; obtain ⟨hi22, h⟩ := h
  refine g_iald (pc := 53) C dX11_passingLots_53 hk21 hi22 ?_
  refine g_bipush (pc := 54) (v := 24) C dX11_passingLots_54 (by decide) ?_
  refine g_idiv (pc := 56) C dX11_passingLots_56 (by decide) ?_
  replace h := bnd2 h; obtain ⟨r23, M24, h1, h⟩ := h
  refine g_callVi (pc := 57) (As := [.int (x1), .int ((gI M17 a20 (Int32.toNatClampNeg x1)) / (24 : Int32))]) (st := []) C dX11_passingLots_57 wX11_rowNow hk1 rfl (by decide) q_827 q_24 q_825 (by omega) rfl (Nat.le_of_ble_eq_true rfl) (kX11_rowNow (d := 3) (Nat.le_refl _) h1) ?_
  refine g_istore_n (pc := 60) (lo2 := [(3, .int (r23)), (0, .ref (x0)), (1, .int (x1))]) C dX11_passingLots_60 rfl (by decide) rfl ?_
  refine g_iconst (pc := 61) (v := 0) C dX11_passingLots_61 (by decide) ?_
  refine g_istore (pc := 62) (lo2 := [(4, .int ((0 : Int32))), (3, .int (r23)), (0, .ref (x0)), (1, .int (x1))]) C dX11_passingLots_62 (by decide) rfl ?_
  refine g_iconst (pc := 64) (v := 0) C dX11_passingLots_64 (by decide) ?_
  refine g_istore (pc := 65) (lo2 := [(5, .int ((0 : Int32))), (4, .int ((0 : Int32))), (3, .int (r23)), (0, .ref (x0)), (1, .int (x1))]) C dX11_passingLots_65 (by decide) rfl ?_
  replace h := bnd h; obtain ⟨x4_32, h1, h⟩ := h
  refine g_sub [3, 2, 1, 0] rfl ?_
  refine lp_G2 (P := PX11_passingLots_67 X B _ _ T M24 x0 r23) (E := EX11_passingLots_67 X B _ _ T M24 x0 r23) (tbX11_passingLots_67 C hd) h1 ?_
  show G X B 6 _ _ 99 [(4, .int (x4_32))] [] T M24
  refine g_iload (pc := 99) C dX11_passingLots_99 0 rfl ?_
  obtain ⟨rfl, rfl⟩ := Prod.mk.inj (Option.some.inj h)
  exact g_iret C hR dX11_passingLots_101
theorem dX11_lowestTerms_0 : decode cX11_lowestTerms 0 = .ok (.iconst 1, 1) := by decide +kernel
theorem dX11_lowestTerms_1 : decode cX11_lowestTerms 1 = .ok (.istore_n 3, 1) := by decide +kernel
theorem dX11_lowestTerms_2 : decode cX11_lowestTerms 2 = .ok (.iconst 0, 1) := by decide +kernel
theorem dX11_lowestTerms_3 : decode cX11_lowestTerms 3 = .ok (.istore 4, 2) := by decide +kernel
theorem dX11_lowestTerms_5 : decode cX11_lowestTerms 5 = .ok (.iload 4, 2) := by decide +kernel
theorem dX11_lowestTerms_7 : decode cX11_lowestTerms 7 = .ok (.iload_n 1, 1) := by decide +kernel
theorem dX11_lowestTerms_8 : decode cX11_lowestTerms 8 = .ok (.if_icmp .ge 14, 3) := by decide +kernel
theorem dX11_lowestTerms_11 : decode cX11_lowestTerms 11 = .ok (.iload_n 3, 1) := by decide +kernel
theorem dX11_lowestTerms_12 : decode cX11_lowestTerms 12 = .ok (.bipush 10, 2) := by decide +kernel
theorem dX11_lowestTerms_14 : decode cX11_lowestTerms 14 = .ok (.imul, 1) := by decide +kernel
theorem dX11_lowestTerms_15 : decode cX11_lowestTerms 15 = .ok (.istore_n 3, 1) := by decide +kernel
theorem dX11_lowestTerms_16 : decode cX11_lowestTerms 16 = .ok (.iinc 4 1, 3) := by decide +kernel
theorem dX11_lowestTerms_19 : decode cX11_lowestTerms 19 = .ok (.goto (-14), 3) := by decide +kernel
theorem dX11_lowestTerms_22 : decode cX11_lowestTerms 22 = .ok (.iload_n 3, 1) := by decide +kernel
theorem dX11_lowestTerms_23 : decode cX11_lowestTerms 23 = .ok (.istore 4, 2) := by decide +kernel
theorem dX11_lowestTerms_25 : decode cX11_lowestTerms 25 = .ok (.iload_n 0, 1) := by decide +kernel
theorem dX11_lowestTerms_26 : decode cX11_lowestTerms 26 = .ok (.istore 5, 2) := by decide +kernel
theorem dX11_lowestTerms_28 : decode cX11_lowestTerms 28 = .ok (.iconst 0, 1) := by decide +kernel
theorem dX11_lowestTerms_29 : decode cX11_lowestTerms 29 = .ok (.istore 6, 2) := by decide +kernel
theorem dX11_lowestTerms_31 : decode cX11_lowestTerms 31 = .ok (.iload 6, 2) := by decide +kernel
theorem dX11_lowestTerms_33 : decode cX11_lowestTerms 33 = .ok (.bipush 64, 2) := by decide +kernel
theorem dX11_lowestTerms_35 : decode cX11_lowestTerms 35 = .ok (.if_icmp .ge 29, 3) := by decide +kernel
theorem dX11_lowestTerms_38 : decode cX11_lowestTerms 38 = .ok (.iload 5, 2) := by decide +kernel
theorem dX11_lowestTerms_40 : decode cX11_lowestTerms 40 = .ok (.ifCond .eq 24, 3) := by decide +kernel
theorem dX11_lowestTerms_43 : decode cX11_lowestTerms 43 = .ok (.iload 4, 2) := by decide +kernel
theorem dX11_lowestTerms_45 : decode cX11_lowestTerms 45 = .ok (.iload 5, 2) := by decide +kernel
theorem dX11_lowestTerms_47 : decode cX11_lowestTerms 47 = .ok (.irem, 1) := by decide +kernel
theorem dX11_lowestTerms_48 : decode cX11_lowestTerms 48 = .ok (.istore 7, 2) := by decide +kernel
theorem dX11_lowestTerms_50 : decode cX11_lowestTerms 50 = .ok (.iload 5, 2) := by decide +kernel
theorem dX11_lowestTerms_52 : decode cX11_lowestTerms 52 = .ok (.istore 4, 2) := by decide +kernel
theorem dX11_lowestTerms_54 : decode cX11_lowestTerms 54 = .ok (.iload 7, 2) := by decide +kernel
theorem dX11_lowestTerms_56 : decode cX11_lowestTerms 56 = .ok (.istore 5, 2) := by decide +kernel
theorem dX11_lowestTerms_58 : decode cX11_lowestTerms 58 = .ok (.iinc 6 1, 3) := by decide +kernel
theorem dX11_lowestTerms_61 : decode cX11_lowestTerms 61 = .ok (.goto (-30), 3) := by decide +kernel
theorem dX11_lowestTerms_64 : decode cX11_lowestTerms 64 = .ok (.iload 4, 2) := by decide +kernel
theorem dX11_lowestTerms_66 : decode cX11_lowestTerms 66 = .ok (.ifCond .ne 5, 3) := by decide +kernel
theorem dX11_lowestTerms_69 : decode cX11_lowestTerms 69 = .ok (.iconst (-1), 1) := by decide +kernel
theorem dX11_lowestTerms_70 : decode cX11_lowestTerms 70 = .ok (.ireturn, 1) := by decide +kernel
theorem dX11_lowestTerms_71 : decode cX11_lowestTerms 71 = .ok (.iload_n 2, 1) := by decide +kernel
theorem dX11_lowestTerms_72 : decode cX11_lowestTerms 72 = .ok (.ifCond .ne 10, 3) := by decide +kernel
theorem dX11_lowestTerms_75 : decode cX11_lowestTerms 75 = .ok (.iload_n 0, 1) := by decide +kernel
theorem dX11_lowestTerms_76 : decode cX11_lowestTerms 76 = .ok (.iload 4, 2) := by decide +kernel
theorem dX11_lowestTerms_78 : decode cX11_lowestTerms 78 = .ok (.idiv, 1) := by decide +kernel
theorem dX11_lowestTerms_79 : decode cX11_lowestTerms 79 = .ok (.goto 7, 3) := by decide +kernel
theorem dX11_lowestTerms_82 : decode cX11_lowestTerms 82 = .ok (.iload_n 3, 1) := by decide +kernel
theorem dX11_lowestTerms_83 : decode cX11_lowestTerms 83 = .ok (.iload 4, 2) := by decide +kernel
theorem dX11_lowestTerms_85 : decode cX11_lowestTerms 85 = .ok (.idiv, 1) := by decide +kernel
theorem dX11_lowestTerms_86 : decode cX11_lowestTerms 86 = .ok (.ireturn, 1) := by decide +kernel
theorem wX11_lowestTerms : Mw yX11_lowestTerms cX11_lowestTerms 8 (some .int) 3 := ⟨q_1176, q_120, by decide, ⟨by decide +kernel, by decide +kernel⟩, by decide +kernel, by decide +kernel⟩
-- a loop of EyeTrainer.lowestTerms at 5
def bX11_lowestTerms_5 (x0 : Int32) (x1 : Int32) (x2 : Int32) (x3 : Int32) (x4 : Int32) : Option ((Int32 × Int32) ⊕ (Int32)) :=
  if x1 ≤ x4 then (some (.inr x3)) else (lt (x3 * (10 : Int32)) fun v2 => lt (x4 + (1 : Int32)) fun v3 => some (.inl (v2, v3)))
def PX11_lowestTerms_5 (X : Fx) (B : Bx) (Z : Nat × Nat × Nat × Nat) (Q : State → Prop) (T : Sh) (M : Me) (x0 : Int32) (x1 : Int32) (x2 : Int32) (s : Int32 × Int32) : Prop := G X B 8 Z Q 5 [(0, .int (x0)), (1, .int (x1)), (2, .int (x2)), (3, .int (s.1)), (4, .int (s.2))] [] T M
def EX11_lowestTerms_5 (X : Fx) (B : Bx) (Z : Nat × Nat × Nat × Nat) (Q : State → Prop) (T : Sh) (M : Me) (x0 : Int32) (x1 : Int32) (x2 : Int32) (r : Int32) : Prop := G X B 8 Z Q 22 [(0, .int (x0)), (2, .int (x2)), (3, .int (r))] [] T M
set_option maxHeartbeats 4000000 in
theorem tbX11_lowestTerms_5 {X : Fx} {B : Bx} {Z : Nat × Nat × Nat × Nat} {Q : State → Prop} {d : Nat} {T : Sh} {M : Me} (C : Cx X B cX11_lowestTerms 8 RX11 d Z) (hd : 0 ≤ d) {x0 : Int32} {x1 : Int32} {x2 : Int32} : ∀ (s : Int32 × Int32) (o : (Int32 × Int32) ⊕ (Int32)), bX11_lowestTerms_5 x0 x1 x2 s.1 s.2 = some o → lpE (PX11_lowestTerms_5 X B Z Q T M x0 x1 x2) (EX11_lowestTerms_5 X B Z Q T M x0 x1 x2) o → PX11_lowestTerms_5 X B Z Q T M x0 x1 x2 s := by
  rintro ⟨x3, x4⟩ o h hE
  replace h : bX11_lowestTerms_5 x0 x1 x2 x3 x4 = some o := h
  unfold bX11_lowestTerms_5 at h
  show G X B 8 Z Q 5 [(0, .int (x0)), (1, .int (x1)), (2, .int (x2)), (3, .int (x3)), (4, .int (x4))] [] T M
  refine g_iload (pc := 5) C dX11_lowestTerms_5 4 rfl ?_
  refine g_iload_n (pc := 7) C dX11_lowestTerms_7 rfl 1 rfl ?_
  refine g_icmp_ge (pc := 8) (tgt := 22) C dX11_lowestTerms_8 (by decide) (fun c1 => ?_) (fun c1 => ?_)
  · replace h := ifp c1 h
    obtain rfl := Option.some.inj h
    exact g_sub [0, 2, 3] rfl (show G X B 8 Z Q 22 [(0, .int (x0)), (2, .int (x2)), (3, .int (x3))] [] T M from hE)
  · replace h := ifn c1 h
    refine g_iload_n (pc := 11) C dX11_lowestTerms_11 rfl 3 rfl ?_
    refine g_bipush (pc := 12) (v := 10) C dX11_lowestTerms_12 (by decide) ?_
    refine g_imul (pc := 14) C dX11_lowestTerms_14 ?_
    refine g_topi (fun v2 ev2 => ?_)
    replace h := lt_at ev2 h
    refine g_istore_n (pc := 15) (lo2 := [(3, .int (v2)), (0, .int (x0)), (1, .int (x1)), (2, .int (x2)), (4, .int (x4))]) C dX11_lowestTerms_15 rfl (by decide) rfl ?_
    obtain ⟨v3, ev3⟩ : ∃ y : Int32, y = x4 + (1 : Int32) := ⟨_, rfl⟩
    replace h := lt_at ev3 h
    refine g_iinc (pc := 16) (v := v3) (k := 4) (lo2 := [(4, .int (v3)), (3, .int (v2)), (0, .int (x0)), (1, .int (x1)), (2, .int (x2))]) C dX11_lowestTerms_16 rfl (by rw [ev3]; rfl) (by decide) rfl ?_
    refine g_goto (pc := 19) (tgt := 5) C dX11_lowestTerms_19 (by decide) ?_
    obtain rfl := Option.some.inj h
    exact g_sub [2, 3, 4, 1, 0] rfl (show G X B 8 Z Q 5 [(0, .int (x0)), (1, .int (x1)), (2, .int (x2)), (3, .int (v2)), (4, .int (v3))] [] T M from hE)
-- a loop of EyeTrainer.lowestTerms at 31
def bX11_lowestTerms_31 (x0 : Int32) (x2 : Int32) (x3 : Int32) (x4 : Int32) (x5 : Int32) (x6 : Int32) : Option ((Int32 × Int32 × Int32) ⊕ (Int32)) :=
  if (64 : Int32) ≤ x6 then (some (.inr x4)) else (if x5 = 0 then (some (.inr x4)) else (gd (¬ x5 = 0) <| lt (x4 - x4 / x5 * x5) fun v8 => lt (x6 + (1 : Int32)) fun v9 => some (.inl (x5, v8, v9))))
def PX11_lowestTerms_31 (X : Fx) (B : Bx) (Z : Nat × Nat × Nat × Nat) (Q : State → Prop) (T : Sh) (M : Me) (x0 : Int32) (x2 : Int32) (x3 : Int32) (s : Int32 × Int32 × Int32) : Prop := G X B 8 Z Q 31 [(0, .int (x0)), (2, .int (x2)), (3, .int (x3)), (4, .int (s.1)), (5, .int (s.2.1)), (6, .int (s.2.2))] [] T M
def EX11_lowestTerms_31 (X : Fx) (B : Bx) (Z : Nat × Nat × Nat × Nat) (Q : State → Prop) (T : Sh) (M : Me) (x0 : Int32) (x2 : Int32) (x3 : Int32) (r : Int32) : Prop := G X B 8 Z Q 64 [(0, .int (x0)), (2, .int (x2)), (3, .int (x3)), (4, .int (r))] [] T M
set_option maxHeartbeats 4000000 in
theorem tbX11_lowestTerms_31 {X : Fx} {B : Bx} {Z : Nat × Nat × Nat × Nat} {Q : State → Prop} {d : Nat} {T : Sh} {M : Me} (C : Cx X B cX11_lowestTerms 8 RX11 d Z) (hd : 0 ≤ d) {x0 : Int32} {x2 : Int32} {x3 : Int32} : ∀ (s : Int32 × Int32 × Int32) (o : (Int32 × Int32 × Int32) ⊕ (Int32)), bX11_lowestTerms_31 x0 x2 x3 s.1 s.2.1 s.2.2 = some o → lpE (PX11_lowestTerms_31 X B Z Q T M x0 x2 x3) (EX11_lowestTerms_31 X B Z Q T M x0 x2 x3) o → PX11_lowestTerms_31 X B Z Q T M x0 x2 x3 s := by
  rintro ⟨x4, x5, x6⟩ o h hE
  replace h : bX11_lowestTerms_31 x0 x2 x3 x4 x5 x6 = some o := h
  unfold bX11_lowestTerms_31 at h
  show G X B 8 Z Q 31 [(0, .int (x0)), (2, .int (x2)), (3, .int (x3)), (4, .int (x4)), (5, .int (x5)), (6, .int (x6))] [] T M
  refine g_iload (pc := 31) C dX11_lowestTerms_31 5 rfl ?_
  refine g_bipush (pc := 33) (v := 64) C dX11_lowestTerms_33 (by decide) ?_
  refine g_icmp_ge (pc := 35) (tgt := 64) C dX11_lowestTerms_35 (by decide) (fun c5 => ?_) (fun c5 => ?_)
  · replace h := ifp c5 h
    obtain rfl := Option.some.inj h
    exact g_sub [0, 1, 2, 3] rfl (show G X B 8 Z Q 64 [(0, .int (x0)), (2, .int (x2)), (3, .int (x3)), (4, .int (x4))] [] T M from hE)
  · replace h := ifn c5 h
    refine g_iload (pc := 38) C dX11_lowestTerms_38 4 rfl ?_
    refine g_if_eq (pc := 40) (tgt := 64) C dX11_lowestTerms_40 (by decide) (fun c6 => ?_) (fun c6 => ?_)
    · replace h := ifp c6 h
      obtain rfl := Option.some.inj h
      exact g_sub [0, 1, 2, 3] rfl (show G X B 8 Z Q 64 [(0, .int (x0)), (2, .int (x2)), (3, .int (x3)), (4, .int (x4))] [] T M from hE)
    · replace h := ifn c6 h
      refine g_iload (pc := 43) C dX11_lowestTerms_43 3 rfl ?_
      refine g_iload (pc := 45) C dX11_lowestTerms_45 4 rfl ?_
      replace h := gd_some h; obtain ⟨hz7, h⟩ := h
      refine g_irem (pc := 47) C dX11_lowestTerms_47 hz7 ?_
      refine g_topi (fun v8 ev8 => ?_)
      replace h := lt_at ev8 h
      refine g_istore (pc := 48) (lo2 := [(7, .int (v8)), (0, .int (x0)), (2, .int (x2)), (3, .int (x3)), (4, .int (x4)), (5, .int (x5)), (6, .int (x6))]) C dX11_lowestTerms_48 (by decide) rfl ?_
      refine g_iload (pc := 50) C dX11_lowestTerms_50 5 rfl ?_
      refine g_istore (pc := 52) (lo2 := [(4, .int (x5)), (7, .int (v8)), (0, .int (x0)), (2, .int (x2)), (3, .int (x3)), (5, .int (x5)), (6, .int (x6))]) C dX11_lowestTerms_52 (by decide) rfl ?_
      refine g_iload (pc := 54) C dX11_lowestTerms_54 1 rfl ?_
      refine g_istore (pc := 56) (lo2 := [(5, .int (v8)), (4, .int (x5)), (7, .int (v8)), (0, .int (x0)), (2, .int (x2)), (3, .int (x3)), (6, .int (x6))]) C dX11_lowestTerms_56 (by decide) rfl ?_
      obtain ⟨v9, ev9⟩ : ∃ y : Int32, y = x6 + (1 : Int32) := ⟨_, rfl⟩
      replace h := lt_at ev9 h
      refine g_iinc (pc := 58) (v := v9) (k := 6) (lo2 := [(6, .int (v9)), (5, .int (v8)), (4, .int (x5)), (7, .int (v8)), (0, .int (x0)), (2, .int (x2)), (3, .int (x3))]) C dX11_lowestTerms_58 rfl (by rw [ev9]; rfl) (by decide) rfl ?_
      refine g_goto (pc := 61) (tgt := 31) C dX11_lowestTerms_61 (by decide) ?_
      obtain rfl := Option.some.inj h
      exact g_sub [4, 5, 6, 2, 1, 0] rfl (show G X B 8 Z Q 31 [(0, .int (x0)), (2, .int (x2)), (3, .int (x3)), (4, .int (x5)), (5, .int (v8)), (6, .int (v9))] [] T M from hE)
/-- EyeTrainer.lowestTerms(III)I -/
def fX11_lowestTerms (x0 : Int32) (x1 : Int32) (x2 : Int32) : Option (Int32) :=
  (lp FU (fun s => bX11_lowestTerms_5 x0 x1 x2 s.1 s.2) ((1 : Int32), (0 : Int32))).bind (fun x3_4 => (lp FU (fun s => bX11_lowestTerms_31 x0 x2 x3_4 s.1 s.2.1 s.2.2) (x3_4, x0, (0 : Int32))).bind (fun x4_10 => if x4_10 = 0 then (some (-1 : Int32)) else (if x2 = 0 then (gd (¬ x4_10 = 0) <| some (x0 / x4_10)) else (gd (¬ x4_10 = 0) <| some (x3_4 / x4_10)))))
set_option maxHeartbeats 4000000 in
theorem kX11_lowestTerms {l : Launch} {B : Bx} {d : Nat} (hd : 0 ≤ d) {T : Sh} {M : Me} {x0 : Int32} {x1 : Int32} {x2 : Int32} {r : Int32} (h : fX11_lowestTerms  x0 x1 x2 = some r) : Kt l B yX11_lowestTerms cX11_lowestTerms 8 (some .int) d [.int (x0), .int (x1), .int (x2)] T M (some (.int r)) T M := by
  refine kt_of wX11_lowestTerms (Nat.le_refl _) (Nat.le_refl _) (Nat.le_of_ble_eq_true rfl) (fun X C hR hlx hin => ?_)
  subst hlx
  replace C : Cx X B cX11_lowestTerms 8 RX11 d (tp T, sl T, tp T, sl T) := C
  unfold fX11_lowestTerms at h
  show G X B 8 _ _ 0 [(0, .int (x0)), (1, .int (x1)), (2, .int (x2))] [] T M
  refine g_iconst (pc := 0) (v := 1) C dX11_lowestTerms_0 (by decide) ?_
  refine g_istore_n (pc := 1) (lo2 := [(3, .int ((1 : Int32))), (0, .int (x0)), (1, .int (x1)), (2, .int (x2))]) C dX11_lowestTerms_1 rfl (by decide) rfl ?_
  refine g_iconst (pc := 2) (v := 0) C dX11_lowestTerms_2 (by decide) ?_
  refine g_istore (pc := 3) (lo2 := [(4, .int ((0 : Int32))), (3, .int ((1 : Int32))), (0, .int (x0)), (1, .int (x1)), (2, .int (x2))]) C dX11_lowestTerms_3 (by decide) rfl ?_
  replace h := bnd h; obtain ⟨x3_4, h1, h⟩ := h
  refine g_sub [2, 3, 4, 1, 0] rfl ?_
  refine lp_G2 (P := PX11_lowestTerms_5 X B _ _ T M x0 x1 x2) (E := EX11_lowestTerms_5 X B _ _ T M x0 x1 x2) (tbX11_lowestTerms_5 C hd) h1 ?_
  show G X B 8 _ _ 22 [(0, .int (x0)), (2, .int (x2)), (3, .int (x3_4))] [] T M
  refine g_iload_n (pc := 22) C dX11_lowestTerms_22 rfl 2 rfl ?_
  refine g_istore (pc := 23) (lo2 := [(4, .int (x3_4)), (0, .int (x0)), (2, .int (x2)), (3, .int (x3_4))]) C dX11_lowestTerms_23 (by decide) rfl ?_
  refine g_iload_n (pc := 25) C dX11_lowestTerms_25 rfl 1 rfl ?_
  refine g_istore (pc := 26) (lo2 := [(5, .int (x0)), (4, .int (x3_4)), (0, .int (x0)), (2, .int (x2)), (3, .int (x3_4))]) C dX11_lowestTerms_26 (by decide) rfl ?_
  refine g_iconst (pc := 28) (v := 0) C dX11_lowestTerms_28 (by decide) ?_
  refine g_istore (pc := 29) (lo2 := [(6, .int ((0 : Int32))), (5, .int (x0)), (4, .int (x3_4)), (0, .int (x0)), (2, .int (x2)), (3, .int (x3_4))]) C dX11_lowestTerms_29 (by decide) rfl ?_
  replace h := bnd h; obtain ⟨x4_10, h1, h⟩ := h
  refine g_sub [3, 4, 5, 2, 1, 0] rfl ?_
  refine lp_G2 (P := PX11_lowestTerms_31 X B _ _ T M x0 x2 x3_4) (E := EX11_lowestTerms_31 X B _ _ T M x0 x2 x3_4) (tbX11_lowestTerms_31 C hd) h1 ?_
  show G X B 8 _ _ 64 [(0, .int (x0)), (2, .int (x2)), (3, .int (x3_4)), (4, .int (x4_10))] [] T M
  refine g_iload (pc := 64) C dX11_lowestTerms_64 3 rfl ?_
  refine g_if_ne (pc := 66) (tgt := 71) C dX11_lowestTerms_66 (by decide) (fun c11 => ?_) (fun c11 => ?_)
  · replace h := ifn c11 h
    refine g_iload_n (pc := 71) C dX11_lowestTerms_71 rfl 1 rfl ?_
    refine g_if_ne (pc := 72) (tgt := 82) C dX11_lowestTerms_72 (by decide) (fun c12 => ?_) (fun c12 => ?_)
    · replace h := ifn c12 h
      refine g_iload_n (pc := 82) C dX11_lowestTerms_82 rfl 2 rfl ?_
      refine g_iload (pc := 83) C dX11_lowestTerms_83 3 rfl ?_
      replace h := gd_some h; obtain ⟨hz13, h⟩ := h
      refine g_idiv (pc := 85) C dX11_lowestTerms_85 hz13 ?_
      obtain rfl := Option.some.inj h
      exact g_iret C hR dX11_lowestTerms_86
    · replace h := ifp c12 h
      refine g_iload_n (pc := 75) C dX11_lowestTerms_75 rfl 0 rfl ?_
      refine g_iload (pc := 76) C dX11_lowestTerms_76 3 rfl ?_
      replace h := gd_some h; obtain ⟨hz14, h⟩ := h
      refine g_idiv (pc := 78) C dX11_lowestTerms_78 hz14 ?_
      refine g_goto (pc := 79) (tgt := 86) C dX11_lowestTerms_79 (by decide) ?_
      obtain rfl := Option.some.inj h
      exact g_iret C hR dX11_lowestTerms_86
  · replace h := ifp c11 h
    refine g_iconst (pc := 69) (v := (-1)) C dX11_lowestTerms_69 (by decide) ?_
    obtain rfl := Option.some.inj h
    exact g_iret C hR dX11_lowestTerms_70
