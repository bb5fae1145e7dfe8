set_option maxRecDepth 20000 in
theorem q_142 : Cond.classLink RL 7 RX11 ∈ lw_gd := mem_gd (List.mem_of_getElem? (i := 142) (by decide +kernel)) rfl
set_option maxRecDepth 20000 in
theorem q_143 : Cond.instantiable RX11 14 ∈ lw_gd := mem_gd (List.mem_of_getElem? (i := 143) (by decide +kernel)) rfl
set_option maxRecDepth 20000 in
theorem q_144 : Cond.methodLink RL 9 yX11_init ∈ lw_gd := mem_gd (List.mem_of_getElem? (i := 144) (by decide +kernel)) rfl
set_option maxRecDepth 20000 in
theorem q_145 : Cond.instanceMethod yX11_init ∈ lw_gd := mem_gd (List.mem_of_getElem? (i := 145) (by decide +kernel)) rfl
set_option maxRecDepth 20000 in
theorem q_467 : Cond.methodLink RL 13 yX11_feed ∈ lw_gd := mem_gd (List.mem_of_getElem? (i := 467) (by decide +kernel)) rfl
set_option maxRecDepth 20000 in
theorem q_468 : Cond.instanceMethod yX11_feed ∈ lw_gd := mem_gd (List.mem_of_getElem? (i := 468) (by decide +kernel)) rfl
set_option maxRecDepth 20000 in
theorem q_469 : Cond.selects RX11 yX11_feed yX11_feed ∈ lw_gd := mem_gd (List.mem_of_getElem? (i := 469) (by decide +kernel)) rfl
set_option maxRecDepth 20000 in
theorem q_475 : Cond.methodLink RL 18 yX11_lab ∈ lw_gd := mem_gd (List.mem_of_getElem? (i := 475) (by decide +kernel)) rfl
set_option maxRecDepth 20000 in
theorem q_476 : Cond.instanceMethod yX11_lab ∈ lw_gd := mem_gd (List.mem_of_getElem? (i := 476) (by decide +kernel)) rfl
set_option maxRecDepth 20000 in
theorem q_477 : Cond.selects RX11 yX11_lab yX11_lab ∈ lw_gd := mem_gd (List.mem_of_getElem? (i := 477) (by decide +kernel)) rfl
set_option maxRecDepth 20000 in
theorem q_759 : Cond.methodLink RL 23 yX11_fault ∈ lw_gd := mem_gd (List.mem_of_getElem? (i := 759) (by decide +kernel)) rfl
set_option maxRecDepth 20000 in
theorem q_760 : Cond.instanceMethod yX11_fault ∈ lw_gd := mem_gd (List.mem_of_getElem? (i := 760) (by decide +kernel)) rfl
set_option maxRecDepth 20000 in
theorem q_761 : Cond.selects RX11 yX11_fault yX11_fault ∈ lw_gd := mem_gd (List.mem_of_getElem? (i := 761) (by decide +kernel)) rfl
set_option maxRecDepth 20000 in
theorem q_763 : Cond.methodLink RL 27 yX11_lane ∈ lw_gd := mem_gd (List.mem_of_getElem? (i := 763) (by decide +kernel)) rfl
set_option maxRecDepth 20000 in
theorem q_764 : Cond.instanceMethod yX11_lane ∈ lw_gd := mem_gd (List.mem_of_getElem? (i := 764) (by decide +kernel)) rfl
set_option maxRecDepth 20000 in
theorem q_765 : Cond.selects RX11 yX11_lane yX11_lane ∈ lw_gd := mem_gd (List.mem_of_getElem? (i := 765) (by decide +kernel)) rfl
set_option maxRecDepth 20000 in
theorem q_809 : Cond.methodLink RL 32 yX11_stress ∈ lw_gd := mem_gd (List.mem_of_getElem? (i := 809) (by decide +kernel)) rfl
set_option maxRecDepth 20000 in
theorem q_810 : Cond.instanceMethod yX11_stress ∈ lw_gd := mem_gd (List.mem_of_getElem? (i := 810) (by decide +kernel)) rfl
set_option maxRecDepth 20000 in
theorem q_811 : Cond.selects RX11 yX11_stress yX11_stress ∈ lw_gd := mem_gd (List.mem_of_getElem? (i := 811) (by decide +kernel)) rfl
set_option maxRecDepth 20000 in
theorem q_813 : Cond.methodLink RL 36 yX11_drift ∈ lw_gd := mem_gd (List.mem_of_getElem? (i := 813) (by decide +kernel)) rfl
set_option maxRecDepth 20000 in
theorem q_814 : Cond.instanceMethod yX11_drift ∈ lw_gd := mem_gd (List.mem_of_getElem? (i := 814) (by decide +kernel)) rfl
set_option maxRecDepth 20000 in
theorem q_815 : Cond.selects RX11 yX11_drift yX11_drift ∈ lw_gd := mem_gd (List.mem_of_getElem? (i := 815) (by decide +kernel)) rfl
set_option maxRecDepth 20000 in
theorem q_818 : Cond.methodLink RL 40 yX11_passes ∈ lw_gd := mem_gd (List.mem_of_getElem? (i := 818) (by decide +kernel)) rfl
set_option maxRecDepth 20000 in
theorem q_819 : Cond.instanceMethod yX11_passes ∈ lw_gd := mem_gd (List.mem_of_getElem? (i := 819) (by decide +kernel)) rfl
set_option maxRecDepth 20000 in
theorem q_820 : Cond.selects RX11 yX11_passes yX11_passes ∈ lw_gd := mem_gd (List.mem_of_getElem? (i := 820) (by decide +kernel)) rfl
set_option maxRecDepth 20000 in
theorem q_829 : Cond.methodLink RL 44 yX11_row ∈ lw_gd := mem_gd (List.mem_of_getElem? (i := 829) (by decide +kernel)) rfl
set_option maxRecDepth 20000 in
theorem q_830 : Cond.instanceMethod yX11_row ∈ lw_gd := mem_gd (List.mem_of_getElem? (i := 830) (by decide +kernel)) rfl
set_option maxRecDepth 20000 in
theorem q_831 : Cond.selects RX11 yX11_row yX11_row ∈ lw_gd := mem_gd (List.mem_of_getElem? (i := 831) (by decide +kernel)) rfl
set_option maxRecDepth 20000 in
theorem q_833 : Cond.methodLink RL 48 yX11_risen ∈ lw_gd := mem_gd (List.mem_of_getElem? (i := 833) (by decide +kernel)) rfl
set_option maxRecDepth 20000 in
theorem q_834 : Cond.instanceMethod yX11_risen ∈ lw_gd := mem_gd (List.mem_of_getElem? (i := 834) (by decide +kernel)) rfl
set_option maxRecDepth 20000 in
theorem q_835 : Cond.selects RX11 yX11_risen yX11_risen ∈ lw_gd := mem_gd (List.mem_of_getElem? (i := 835) (by decide +kernel)) rfl
set_option maxRecDepth 20000 in
theorem q_841 : Cond.methodLink RL 52 yX11_place ∈ lw_gd := mem_gd (List.mem_of_getElem? (i := 841) (by decide +kernel)) rfl
set_option maxRecDepth 20000 in
theorem q_842 : Cond.instanceMethod yX11_place ∈ lw_gd := mem_gd (List.mem_of_getElem? (i := 842) (by decide +kernel)) rfl
set_option maxRecDepth 20000 in
theorem q_843 : Cond.selects RX11 yX11_place yX11_place ∈ lw_gd := mem_gd (List.mem_of_getElem? (i := 843) (by decide +kernel)) rfl
set_option maxRecDepth 20000 in
theorem q_853 : Cond.methodLink RL 56 yX11_train ∈ lw_gd := mem_gd (List.mem_of_getElem? (i := 853) (by decide +kernel)) rfl
set_option maxRecDepth 20000 in
theorem q_854 : Cond.instanceMethod yX11_train ∈ lw_gd := mem_gd (List.mem_of_getElem? (i := 854) (by decide +kernel)) rfl
set_option maxRecDepth 20000 in
theorem q_855 : Cond.selects RX11 yX11_train yX11_train ∈ lw_gd := mem_gd (List.mem_of_getElem? (i := 855) (by decide +kernel)) rfl
set_option maxRecDepth 20000 in
theorem q_915 : Cond.methodLink RL 60 yX11_ticks ∈ lw_gd := mem_gd (List.mem_of_getElem? (i := 915) (by decide +kernel)) rfl
set_option maxRecDepth 20000 in
theorem q_916 : Cond.instanceMethod yX11_ticks ∈ lw_gd := mem_gd (List.mem_of_getElem? (i := 916) (by decide +kernel)) rfl
set_option maxRecDepth 20000 in
theorem q_917 : Cond.selects RX11 yX11_ticks yX11_ticks ∈ lw_gd := mem_gd (List.mem_of_getElem? (i := 917) (by decide +kernel)) rfl
set_option maxRecDepth 20000 in
theorem q_924 : Cond.methodLink RL 64 yX11_follow ∈ lw_gd := mem_gd (List.mem_of_getElem? (i := 924) (by decide +kernel)) rfl
set_option maxRecDepth 20000 in
theorem q_925 : Cond.instanceMethod yX11_follow ∈ lw_gd := mem_gd (List.mem_of_getElem? (i := 925) (by decide +kernel)) rfl
set_option maxRecDepth 20000 in
theorem q_926 : Cond.selects RX11 yX11_follow yX11_follow ∈ lw_gd := mem_gd (List.mem_of_getElem? (i := 926) (by decide +kernel)) rfl
set_option maxRecDepth 20000 in
theorem q_935 : Cond.methodLink RL 68 yX11_pattern ∈ lw_gd := mem_gd (List.mem_of_getElem? (i := 935) (by decide +kernel)) rfl
set_option maxRecDepth 20000 in
theorem q_936 : Cond.instanceMethod yX11_pattern ∈ lw_gd := mem_gd (List.mem_of_getElem? (i := 936) (by decide +kernel)) rfl
set_option maxRecDepth 20000 in
theorem q_937 : Cond.selects RX11 yX11_pattern yX11_pattern ∈ lw_gd := mem_gd (List.mem_of_getElem? (i := 937) (by decide +kernel)) rfl
set_option maxRecDepth 20000 in
theorem q_943 : Cond.methodLink RL 72 yX11_undo ∈ lw_gd := mem_gd (List.mem_of_getElem? (i := 943) (by decide +kernel)) rfl
set_option maxRecDepth 20000 in
theorem q_944 : Cond.instanceMethod yX11_undo ∈ lw_gd := mem_gd (List.mem_of_getElem? (i := 944) (by decide +kernel)) rfl
set_option maxRecDepth 20000 in
theorem q_945 : Cond.selects RX11 yX11_undo yX11_undo ∈ lw_gd := mem_gd (List.mem_of_getElem? (i := 945) (by decide +kernel)) rfl
set_option maxRecDepth 20000 in
theorem q_947 : Cond.methodLink RL 76 yX11_judge ∈ lw_gd := mem_gd (List.mem_of_getElem? (i := 947) (by decide +kernel)) rfl
set_option maxRecDepth 20000 in
theorem q_948 : Cond.instanceMethod yX11_judge ∈ lw_gd := mem_gd (List.mem_of_getElem? (i := 948) (by decide +kernel)) rfl
set_option maxRecDepth 20000 in
theorem q_949 : Cond.selects RX11 yX11_judge yX11_judge ∈ lw_gd := mem_gd (List.mem_of_getElem? (i := 949) (by decide +kernel)) rfl
set_option maxRecDepth 20000 in
theorem q_976 : Cond.methodLink RL 80 yX11_perform ∈ lw_gd := mem_gd (List.mem_of_getElem? (i := 976) (by decide +kernel)) rfl
set_option maxRecDepth 20000 in
theorem q_977 : Cond.instanceMethod yX11_perform ∈ lw_gd := mem_gd (List.mem_of_getElem? (i := 977) (by decide +kernel)) rfl
set_option maxRecDepth 20000 in
theorem q_978 : Cond.selects RX11 yX11_perform yX11_perform ∈ lw_gd := mem_gd (List.mem_of_getElem? (i := 978) (by decide +kernel)) rfl
set_option maxRecDepth 20000 in
theorem q_980 : Cond.methodLink RL 84 yX11_day ∈ lw_gd := mem_gd (List.mem_of_getElem? (i := 980) (by decide +kernel)) rfl
set_option maxRecDepth 20000 in
theorem q_981 : Cond.instanceMethod yX11_day ∈ lw_gd := mem_gd (List.mem_of_getElem? (i := 981) (by decide +kernel)) rfl
set_option maxRecDepth 20000 in
theorem q_982 : Cond.selects RX11 yX11_day yX11_day ∈ lw_gd := mem_gd (List.mem_of_getElem? (i := 982) (by decide +kernel)) rfl
set_option maxRecDepth 20000 in
theorem q_1003 : Cond.methodLink RL 88 yX11_area ∈ lw_gd := mem_gd (List.mem_of_getElem? (i := 1003) (by decide +kernel)) rfl
set_option maxRecDepth 20000 in
theorem q_1004 : Cond.instanceMethod yX11_area ∈ lw_gd := mem_gd (List.mem_of_getElem? (i := 1004) (by decide +kernel)) rfl
set_option maxRecDepth 20000 in
theorem q_1005 : Cond.selects RX11 yX11_area yX11_area ∈ lw_gd := mem_gd (List.mem_of_getElem? (i := 1005) (by decide +kernel)) rfl
set_option maxRecDepth 20000 in
theorem q_1007 : Cond.methodLink RL 92 yX11_eyes ∈ lw_gd := mem_gd (List.mem_of_getElem? (i := 1007) (by decide +kernel)) rfl
set_option maxRecDepth 20000 in
theorem q_1008 : Cond.instanceMethod yX11_eyes ∈ lw_gd := mem_gd (List.mem_of_getElem? (i := 1008) (by decide +kernel)) rfl
set_option maxRecDepth 20000 in
theorem q_1009 : Cond.selects RX11 yX11_eyes yX11_eyes ∈ lw_gd := mem_gd (List.mem_of_getElem? (i := 1009) (by decide +kernel)) rfl
set_option maxRecDepth 20000 in
theorem q_1027 : Cond.methodLink RL 96 yX11_greatest ∈ lw_gd := mem_gd (List.mem_of_getElem? (i := 1027) (by decide +kernel)) rfl
set_option maxRecDepth 20000 in
theorem q_1028 : Cond.instanceMethod yX11_greatest ∈ lw_gd := mem_gd (List.mem_of_getElem? (i := 1028) (by decide +kernel)) rfl
set_option maxRecDepth 20000 in
theorem q_1029 : Cond.selects RX11 yX11_greatest yX11_greatest ∈ lw_gd := mem_gd (List.mem_of_getElem? (i := 1029) (by decide +kernel)) rfl
set_option maxRecDepth 20000 in
theorem q_1031 : Cond.methodLink RL 100 yX11_rectangle ∈ lw_gd := mem_gd (List.mem_of_getElem? (i := 1031) (by decide +kernel)) rfl
set_option maxRecDepth 20000 in
theorem q_1032 : Cond.instanceMethod yX11_rectangle ∈ lw_gd := mem_gd (List.mem_of_getElem? (i := 1032) (by decide +kernel)) rfl
set_option maxRecDepth 20000 in
theorem q_1033 : Cond.selects RX11 yX11_rectangle yX11_rectangle ∈ lw_gd := mem_gd (List.mem_of_getElem? (i := 1033) (by decide +kernel)) rfl
set_option maxRecDepth 20000 in
theorem q_1035 : Cond.methodLink RL 104 yX11_ellipse ∈ lw_gd := mem_gd (List.mem_of_getElem? (i := 1035) (by decide +kernel)) rfl
set_option maxRecDepth 20000 in
theorem q_1036 : Cond.instanceMethod yX11_ellipse ∈ lw_gd := mem_gd (List.mem_of_getElem? (i := 1036) (by decide +kernel)) rfl
set_option maxRecDepth 20000 in
theorem q_1037 : Cond.selects RX11 yX11_ellipse yX11_ellipse ∈ lw_gd := mem_gd (List.mem_of_getElem? (i := 1037) (by decide +kernel)) rfl
set_option maxRecDepth 20000 in
theorem q_1039 : Cond.methodLink RL 108 yX11_margin ∈ lw_gd := mem_gd (List.mem_of_getElem? (i := 1039) (by decide +kernel)) rfl
set_option maxRecDepth 20000 in
theorem q_1040 : Cond.instanceMethod yX11_margin ∈ lw_gd := mem_gd (List.mem_of_getElem? (i := 1040) (by decide +kernel)) rfl
set_option maxRecDepth 20000 in
theorem q_1041 : Cond.selects RX11 yX11_margin yX11_margin ∈ lw_gd := mem_gd (List.mem_of_getElem? (i := 1041) (by decide +kernel)) rfl
set_option maxRecDepth 20000 in
theorem q_1047 : Cond.methodLink RL 112 yX11_edge ∈ lw_gd := mem_gd (List.mem_of_getElem? (i := 1047) (by decide +kernel)) rfl
set_option maxRecDepth 20000 in
theorem q_1048 : Cond.instanceMethod yX11_edge ∈ lw_gd := mem_gd (List.mem_of_getElem? (i := 1048) (by decide +kernel)) rfl
set_option maxRecDepth 20000 in
theorem q_1049 : Cond.selects RX11 yX11_edge yX11_edge ∈ lw_gd := mem_gd (List.mem_of_getElem? (i := 1049) (by decide +kernel)) rfl
set_option maxRecDepth 20000 in
theorem q_1051 : Cond.methodLink RL 116 yX11_lag ∈ lw_gd := mem_gd (List.mem_of_getElem? (i := 1051) (by decide +kernel)) rfl
set_option maxRecDepth 20000 in
theorem q_1052 : Cond.instanceMethod yX11_lag ∈ lw_gd := mem_gd (List.mem_of_getElem? (i := 1052) (by decide +kernel)) rfl
set_option maxRecDepth 20000 in
theorem q_1053 : Cond.selects RX11 yX11_lag yX11_lag ∈ lw_gd := mem_gd (List.mem_of_getElem? (i := 1053) (by decide +kernel)) rfl
set_option maxRecDepth 20000 in
theorem q_1056 : Cond.methodLink RL 120 yX11_bus ∈ lw_gd := mem_gd (List.mem_of_getElem? (i := 1056) (by decide +kernel)) rfl
set_option maxRecDepth 20000 in
theorem q_1057 : Cond.instanceMethod yX11_bus ∈ lw_gd := mem_gd (List.mem_of_getElem? (i := 1057) (by decide +kernel)) rfl
set_option maxRecDepth 20000 in
theorem q_1058 : Cond.selects RX11 yX11_bus yX11_bus ∈ lw_gd := mem_gd (List.mem_of_getElem? (i := 1058) (by decide +kernel)) rfl
set_option maxRecDepth 20000 in
theorem q_1063 : Cond.methodLink RL 124 yX11_harshest ∈ lw_gd := mem_gd (List.mem_of_getElem? (i := 1063) (by decide +kernel)) rfl
set_option maxRecDepth 20000 in
theorem q_1064 : Cond.instanceMethod yX11_harshest ∈ lw_gd := mem_gd (List.mem_of_getElem? (i := 1064) (by decide +kernel)) rfl
set_option maxRecDepth 20000 in
theorem q_1065 : Cond.selects RX11 yX11_harshest yX11_harshest ∈ lw_gd := mem_gd (List.mem_of_getElem? (i := 1065) (by decide +kernel)) rfl
set_option maxRecDepth 20000 in
theorem q_1067 : Cond.methodLink RL 128 yX11_tell ∈ lw_gd := mem_gd (List.mem_of_getElem? (i := 1067) (by decide +kernel)) rfl
set_option maxRecDepth 20000 in
theorem q_1068 : Cond.instanceMethod yX11_tell ∈ lw_gd := mem_gd (List.mem_of_getElem? (i := 1068) (by decide +kernel)) rfl
set_option maxRecDepth 20000 in
theorem q_1069 : Cond.selects RX11 yX11_tell yX11_tell ∈ lw_gd := mem_gd (List.mem_of_getElem? (i := 1069) (by decide +kernel)) rfl
set_option maxRecDepth 20000 in
theorem q_1075 : Cond.methodLink RL 132 yX11_later ∈ lw_gd := mem_gd (List.mem_of_getElem? (i := 1075) (by decide +kernel)) rfl
set_option maxRecDepth 20000 in
theorem q_1076 : Cond.instanceMethod yX11_later ∈ lw_gd := mem_gd (List.mem_of_getElem? (i := 1076) (by decide +kernel)) rfl
set_option maxRecDepth 20000 in
theorem q_1077 : Cond.selects RX11 yX11_later yX11_later ∈ lw_gd := mem_gd (List.mem_of_getElem? (i := 1077) (by decide +kernel)) rfl
set_option maxRecDepth 20000 in
theorem q_1079 : Cond.methodLink RL 136 yX11_holds ∈ lw_gd := mem_gd (List.mem_of_getElem? (i := 1079) (by decide +kernel)) rfl
set_option maxRecDepth 20000 in
theorem q_1080 : Cond.instanceMethod yX11_holds ∈ lw_gd := mem_gd (List.mem_of_getElem? (i := 1080) (by decide +kernel)) rfl
set_option maxRecDepth 20000 in
theorem q_1081 : Cond.selects RX11 yX11_holds yX11_holds ∈ lw_gd := mem_gd (List.mem_of_getElem? (i := 1081) (by decide +kernel)) rfl
set_option maxRecDepth 20000 in
theorem q_1083 : Cond.methodLink RL 140 yX11_follows ∈ lw_gd := mem_gd (List.mem_of_getElem? (i := 1083) (by decide +kernel)) rfl
set_option maxRecDepth 20000 in
theorem q_1084 : Cond.instanceMethod yX11_follows ∈ lw_gd := mem_gd (List.mem_of_getElem? (i := 1084) (by decide +kernel)) rfl
set_option maxRecDepth 20000 in
theorem q_1085 : Cond.selects RX11 yX11_follows yX11_follows ∈ lw_gd := mem_gd (List.mem_of_getElem? (i := 1085) (by decide +kernel)) rfl
set_option maxRecDepth 20000 in
theorem q_1087 : Cond.methodLink RL 144 yX11_at ∈ lw_gd := mem_gd (List.mem_of_getElem? (i := 1087) (by decide +kernel)) rfl
set_option maxRecDepth 20000 in
theorem q_1088 : Cond.instanceMethod yX11_at ∈ lw_gd := mem_gd (List.mem_of_getElem? (i := 1088) (by decide +kernel)) rfl
set_option maxRecDepth 20000 in
theorem q_1089 : Cond.selects RX11 yX11_at yX11_at ∈ lw_gd := mem_gd (List.mem_of_getElem? (i := 1089) (by decide +kernel)) rfl
set_option maxRecDepth 20000 in
theorem q_1091 : Cond.methodLink RL 148 yX11_steps ∈ lw_gd := mem_gd (List.mem_of_getElem? (i := 1091) (by decide +kernel)) rfl
set_option maxRecDepth 20000 in
theorem q_1092 : Cond.instanceMethod yX11_steps ∈ lw_gd := mem_gd (List.mem_of_getElem? (i := 1092) (by decide +kernel)) rfl
set_option maxRecDepth 20000 in
theorem q_1093 : Cond.selects RX11 yX11_steps yX11_steps ∈ lw_gd := mem_gd (List.mem_of_getElem? (i := 1093) (by decide +kernel)) rfl
set_option maxRecDepth 20000 in
theorem q_1103 : Cond.methodLink RL 152 yX11_way ∈ lw_gd := mem_gd (List.mem_of_getElem? (i := 1103) (by decide +kernel)) rfl
set_option maxRecDepth 20000 in
theorem q_1104 : Cond.instanceMethod yX11_way ∈ lw_gd := mem_gd (List.mem_of_getElem? (i := 1104) (by decide +kernel)) rfl
set_option maxRecDepth 20000 in
theorem q_1105 : Cond.selects RX11 yX11_way yX11_way ∈ lw_gd := mem_gd (List.mem_of_getElem? (i := 1105) (by decide +kernel)) rfl
set_option maxRecDepth 20000 in
theorem q_1115 : Cond.methodLink RL 156 yX11_ways ∈ lw_gd := mem_gd (List.mem_of_getElem? (i := 1115) (by decide +kernel)) rfl
set_option maxRecDepth 20000 in
theorem q_1116 : Cond.instanceMethod yX11_ways ∈ lw_gd := mem_gd (List.mem_of_getElem? (i := 1116) (by decide +kernel)) rfl
set_option maxRecDepth 20000 in
theorem q_1117 : Cond.selects RX11 yX11_ways yX11_ways ∈ lw_gd := mem_gd (List.mem_of_getElem? (i := 1117) (by decide +kernel)) rfl
set_option maxRecDepth 20000 in
theorem q_1135 : Cond.methodLink RL 161 yX11_drifts ∈ lw_gd := mem_gd (List.mem_of_getElem? (i := 1135) (by decide +kernel)) rfl
set_option maxRecDepth 20000 in
theorem q_1136 : Cond.instanceMethod yX11_drifts ∈ lw_gd := mem_gd (List.mem_of_getElem? (i := 1136) (by decide +kernel)) rfl
set_option maxRecDepth 20000 in
theorem q_1137 : Cond.selects RX11 yX11_drifts yX11_drifts ∈ lw_gd := mem_gd (List.mem_of_getElem? (i := 1137) (by decide +kernel)) rfl
set_option maxRecDepth 20000 in
theorem q_1152 : Cond.methodLink RL 165 yX11_attempt ∈ lw_gd := mem_gd (List.mem_of_getElem? (i := 1152) (by decide +kernel)) rfl
set_option maxRecDepth 20000 in
theorem q_1153 : Cond.instanceMethod yX11_attempt ∈ lw_gd := mem_gd (List.mem_of_getElem? (i := 1153) (by decide +kernel)) rfl
set_option maxRecDepth 20000 in
theorem q_1154 : Cond.selects RX11 yX11_attempt yX11_attempt ∈ lw_gd := mem_gd (List.mem_of_getElem? (i := 1154) (by decide +kernel)) rfl
set_option maxRecDepth 20000 in
theorem q_1161 : Cond.methodLink RL 169 yX11_chance ∈ lw_gd := mem_gd (List.mem_of_getElem? (i := 1161) (by decide +kernel)) rfl
set_option maxRecDepth 20000 in
theorem q_1162 : Cond.instanceMethod yX11_chance ∈ lw_gd := mem_gd (List.mem_of_getElem? (i := 1162) (by decide +kernel)) rfl
set_option maxRecDepth 20000 in
theorem q_1163 : Cond.selects RX11 yX11_chance yX11_chance ∈ lw_gd := mem_gd (List.mem_of_getElem? (i := 1163) (by decide +kernel)) rfl
set_option maxRecDepth 20000 in
theorem q_1177 : Cond.methodLink RL 174 yX11_mean ∈ lw_gd := mem_gd (List.mem_of_getElem? (i := 1177) (by decide +kernel)) rfl
set_option maxRecDepth 20000 in
theorem q_1178 : Cond.instanceMethod yX11_mean ∈ lw_gd := mem_gd (List.mem_of_getElem? (i := 1178) (by decide +kernel)) rfl
set_option maxRecDepth 20000 in
theorem q_1179 : Cond.selects RX11 yX11_mean yX11_mean ∈ lw_gd := mem_gd (List.mem_of_getElem? (i := 1179) (by decide +kernel)) rfl
set_option maxRecDepth 20000 in
theorem q_1181 : Cond.methodLink RL 178 yX11_numbers ∈ lw_gd := mem_gd (List.mem_of_getElem? (i := 1181) (by decide +kernel)) rfl
set_option maxRecDepth 20000 in
theorem q_1182 : Cond.instanceMethod yX11_numbers ∈ lw_gd := mem_gd (List.mem_of_getElem? (i := 1182) (by decide +kernel)) rfl
set_option maxRecDepth 20000 in
theorem q_1183 : Cond.selects RX11 yX11_numbers yX11_numbers ∈ lw_gd := mem_gd (List.mem_of_getElem? (i := 1183) (by decide +kernel)) rfl
set_option maxRecDepth 20000 in
theorem q_1190 : Cond.methodLink RL 184 yX11_write ∈ lw_gd := mem_gd (List.mem_of_getElem? (i := 1190) (by decide +kernel)) rfl
set_option maxRecDepth 20000 in
theorem q_1191 : Cond.instanceMethod yX11_write ∈ lw_gd := mem_gd (List.mem_of_getElem? (i := 1191) (by decide +kernel)) rfl
set_option maxRecDepth 20000 in
theorem q_1192 : Cond.selects RX11 yX11_write yX11_write ∈ lw_gd := mem_gd (List.mem_of_getElem? (i := 1192) (by decide +kernel)) rfl
set_option maxRecDepth 20000 in
theorem q_1200 : Cond.methodLink RL 189 yX11_lists ∈ lw_gd := mem_gd (List.mem_of_getElem? (i := 1200) (by decide +kernel)) rfl
set_option maxRecDepth 20000 in
theorem q_1201 : Cond.instanceMethod yX11_lists ∈ lw_gd := mem_gd (List.mem_of_getElem? (i := 1201) (by decide +kernel)) rfl
set_option maxRecDepth 20000 in
theorem q_1202 : Cond.selects RX11 yX11_lists yX11_lists ∈ lw_gd := mem_gd (List.mem_of_getElem? (i := 1202) (by decide +kernel)) rfl
set_option maxRecDepth 20000 in
theorem q_1206 : Cond.methodLink RL 193 yX11_image ∈ lw_gd := mem_gd (List.mem_of_getElem? (i := 1206) (by decide +kernel)) rfl
set_option maxRecDepth 20000 in
theorem q_1207 : Cond.instanceMethod yX11_image ∈ lw_gd := mem_gd (List.mem_of_getElem? (i := 1207) (by decide +kernel)) rfl
set_option maxRecDepth 20000 in
theorem q_1208 : Cond.selects RX11 yX11_image yX11_image ∈ lw_gd := mem_gd (List.mem_of_getElem? (i := 1208) (by decide +kernel)) rfl
set_option maxRecDepth 20000 in
theorem q_1210 : Cond.methodLink RL 197 yX11_restore ∈ lw_gd := mem_gd (List.mem_of_getElem? (i := 1210) (by decide +kernel)) rfl
set_option maxRecDepth 20000 in
theorem q_1211 : Cond.instanceMethod yX11_restore ∈ lw_gd := mem_gd (List.mem_of_getElem? (i := 1211) (by decide +kernel)) rfl
set_option maxRecDepth 20000 in
theorem q_1212 : Cond.selects RX11 yX11_restore yX11_restore ∈ lw_gd := mem_gd (List.mem_of_getElem? (i := 1212) (by decide +kernel)) rfl
set_option maxRecDepth 20000 in
theorem q_1214 : Cond.methodLink RL 201 yX11_count ∈ lw_gd := mem_gd (List.mem_of_getElem? (i := 1214) (by decide +kernel)) rfl
set_option maxRecDepth 20000 in
theorem q_1215 : Cond.instanceMethod yX11_count ∈ lw_gd := mem_gd (List.mem_of_getElem? (i := 1215) (by decide +kernel)) rfl
set_option maxRecDepth 20000 in
theorem q_1216 : Cond.selects RX11 yX11_count yX11_count ∈ lw_gd := mem_gd (List.mem_of_getElem? (i := 1216) (by decide +kernel)) rfl
set_option maxRecDepth 20000 in
theorem q_1218 : Cond.classLink RL 10 RX12 ∈ lw_gd := mem_gd (List.mem_of_getElem? (i := 1218) (by decide +kernel)) rfl
set_option maxRecDepth 20000 in
theorem q_1219 : Cond.instantiable RX12 43 ∈ lw_gd := mem_gd (List.mem_of_getElem? (i := 1219) (by decide +kernel)) rfl
set_option maxRecDepth 20000 in
theorem q_1220 : Cond.methodLink RL 12 yX12_init ∈ lw_gd := mem_gd (List.mem_of_getElem? (i := 1220) (by decide +kernel)) rfl
set_option maxRecDepth 20000 in
theorem q_1221 : Cond.instanceMethod yX12_init ∈ lw_gd := mem_gd (List.mem_of_getElem? (i := 1221) (by decide +kernel)) rfl
set_option maxRecDepth 20000 in
theorem q_1358 : Cond.methodLink RL 17 yX12_feed ∈ lw_gd := mem_gd (List.mem_of_getElem? (i := 1358) (by decide +kernel)) rfl
set_option maxRecDepth 20000 in
theorem q_1359 : Cond.instanceMethod yX12_feed ∈ lw_gd := mem_gd (List.mem_of_getElem? (i := 1359) (by decide +kernel)) rfl
set_option maxRecDepth 20000 in
theorem q_1360 : Cond.selects RX12 yX12_feed yX12_feed ∈ lw_gd := mem_gd (List.mem_of_getElem? (i := 1360) (by decide +kernel)) rfl
set_option maxRecDepth 20000 in
theorem q_1362 : Cond.methodLink RL 22 yX12_lab ∈ lw_gd := mem_gd (List.mem_of_getElem? (i := 1362) (by decide +kernel)) rfl
set_option maxRecDepth 20000 in
theorem q_1363 : Cond.instanceMethod yX12_lab ∈ lw_gd := mem_gd (List.mem_of_getElem? (i := 1363) (by decide +kernel)) rfl
set_option maxRecDepth 20000 in
theorem q_1364 : Cond.selects RX12 yX12_lab yX12_lab ∈ lw_gd := mem_gd (List.mem_of_getElem? (i := 1364) (by decide +kernel)) rfl
set_option maxRecDepth 20000 in
theorem q_1471 : Cond.methodLink RL 26 yX12_fault ∈ lw_gd := mem_gd (List.mem_of_getElem? (i := 1471) (by decide +kernel)) rfl
set_option maxRecDepth 20000 in
theorem q_1472 : Cond.instanceMethod yX12_fault ∈ lw_gd := mem_gd (List.mem_of_getElem? (i := 1472) (by decide +kernel)) rfl
set_option maxRecDepth 20000 in
theorem q_1473 : Cond.selects RX12 yX12_fault yX12_fault ∈ lw_gd := mem_gd (List.mem_of_getElem? (i := 1473) (by decide +kernel)) rfl
set_option maxRecDepth 20000 in
theorem q_1475 : Cond.methodLink RL 31 yX12_lane ∈ lw_gd := mem_gd (List.mem_of_getElem? (i := 1475) (by decide +kernel)) rfl
set_option maxRecDepth 20000 in
theorem q_1476 : Cond.instanceMethod yX12_lane ∈ lw_gd := mem_gd (List.mem_of_getElem? (i := 1476) (by decide +kernel)) rfl
set_option maxRecDepth 20000 in
theorem q_1477 : Cond.selects RX12 yX12_lane yX12_lane ∈ lw_gd := mem_gd (List.mem_of_getElem? (i := 1477) (by decide +kernel)) rfl
set_option maxRecDepth 20000 in
theorem q_1511 : Cond.methodLink RL 35 yX12_stress ∈ lw_gd := mem_gd (List.mem_of_getElem? (i := 1511) (by decide +kernel)) rfl
set_option maxRecDepth 20000 in
theorem q_1512 : Cond.instanceMethod yX12_stress ∈ lw_gd := mem_gd (List.mem_of_getElem? (i := 1512) (by decide +kernel)) rfl
set_option maxRecDepth 20000 in
theorem q_1513 : Cond.selects RX12 yX12_stress yX12_stress ∈ lw_gd := mem_gd (List.mem_of_getElem? (i := 1513) (by decide +kernel)) rfl
set_option maxRecDepth 20000 in
theorem q_1519 : Cond.methodLink RL 39 yX12_drift ∈ lw_gd := mem_gd (List.mem_of_getElem? (i := 1519) (by decide +kernel)) rfl
set_option maxRecDepth 20000 in
theorem q_1520 : Cond.instanceMethod yX12_drift ∈ lw_gd := mem_gd (List.mem_of_getElem? (i := 1520) (by decide +kernel)) rfl
set_option maxRecDepth 20000 in
theorem q_1521 : Cond.selects RX12 yX12_drift yX12_drift ∈ lw_gd := mem_gd (List.mem_of_getElem? (i := 1521) (by decide +kernel)) rfl
set_option maxRecDepth 20000 in
theorem q_1525 : Cond.methodLink RL 43 yX12_passes ∈ lw_gd := mem_gd (List.mem_of_getElem? (i := 1525) (by decide +kernel)) rfl
set_option maxRecDepth 20000 in
theorem q_1526 : Cond.instanceMethod yX12_passes ∈ lw_gd := mem_gd (List.mem_of_getElem? (i := 1526) (by decide +kernel)) rfl
set_option maxRecDepth 20000 in
theorem q_1527 : Cond.selects RX12 yX12_passes yX12_passes ∈ lw_gd := mem_gd (List.mem_of_getElem? (i := 1527) (by decide +kernel)) rfl
set_option maxRecDepth 20000 in
theorem q_1533 : Cond.methodLink RL 47 yX12_row ∈ lw_gd := mem_gd (List.mem_of_getElem? (i := 1533) (by decide +kernel)) rfl
set_option maxRecDepth 20000 in
theorem q_1534 : Cond.instanceMethod yX12_row ∈ lw_gd := mem_gd (List.mem_of_getElem? (i := 1534) (by decide +kernel)) rfl
set_option maxRecDepth 20000 in
theorem q_1535 : Cond.selects RX12 yX12_row yX12_row ∈ lw_gd := mem_gd (List.mem_of_getElem? (i := 1535) (by decide +kernel)) rfl
set_option maxRecDepth 20000 in
theorem q_1542 : Cond.methodLink RL 51 yX12_risen ∈ lw_gd := mem_gd (List.mem_of_getElem? (i := 1542) (by decide +kernel)) rfl
set_option maxRecDepth 20000 in
theorem q_1543 : Cond.instanceMethod yX12_risen ∈ lw_gd := mem_gd (List.mem_of_getElem? (i := 1543) (by decide +kernel)) rfl
set_option maxRecDepth 20000 in
theorem q_1544 : Cond.selects RX12 yX12_risen yX12_risen ∈ lw_gd := mem_gd (List.mem_of_getElem? (i := 1544) (by decide +kernel)) rfl
set_option maxRecDepth 20000 in
theorem q_1554 : Cond.methodLink RL 55 yX12_place ∈ lw_gd := mem_gd (List.mem_of_getElem? (i := 1554) (by decide +kernel)) rfl
set_option maxRecDepth 20000 in
theorem q_1555 : Cond.instanceMethod yX12_place ∈ lw_gd := mem_gd (List.mem_of_getElem? (i := 1555) (by decide +kernel)) rfl
set_option maxRecDepth 20000 in
theorem q_1556 : Cond.selects RX12 yX12_place yX12_place ∈ lw_gd := mem_gd (List.mem_of_getElem? (i := 1556) (by decide +kernel)) rfl
set_option maxRecDepth 20000 in
theorem q_1566 : Cond.methodLink RL 59 yX12_train ∈ lw_gd := mem_gd (List.mem_of_getElem? (i := 1566) (by decide +kernel)) rfl
set_option maxRecDepth 20000 in
theorem q_1567 : Cond.instanceMethod yX12_train ∈ lw_gd := mem_gd (List.mem_of_getElem? (i := 1567) (by decide +kernel)) rfl
set_option maxRecDepth 20000 in
theorem q_1568 : Cond.selects RX12 yX12_train yX12_train ∈ lw_gd := mem_gd (List.mem_of_getElem? (i := 1568) (by decide +kernel)) rfl
set_option maxRecDepth 20000 in
theorem q_1620 : Cond.methodLink RL 63 yX12_ticks ∈ lw_gd := mem_gd (List.mem_of_getElem? (i := 1620) (by decide +kernel)) rfl
set_option maxRecDepth 20000 in
theorem q_1621 : Cond.instanceMethod yX12_ticks ∈ lw_gd := mem_gd (List.mem_of_getElem? (i := 1621) (by decide +kernel)) rfl
set_option maxRecDepth 20000 in
theorem q_1622 : Cond.selects RX12 yX12_ticks yX12_ticks ∈ lw_gd := mem_gd (List.mem_of_getElem? (i := 1622) (by decide +kernel)) rfl
set_option maxRecDepth 20000 in
theorem q_1641 : Cond.methodLink RL 67 yX12_follow ∈ lw_gd := mem_gd (List.mem_of_getElem? (i := 1641) (by decide +kernel)) rfl
set_option maxRecDepth 20000 in
theorem q_1642 : Cond.instanceMethod yX12_follow ∈ lw_gd := mem_gd (List.mem_of_getElem? (i := 1642) (by decide +kernel)) rfl
set_option maxRecDepth 20000 in
theorem q_1643 : Cond.selects RX12 yX12_follow yX12_follow ∈ lw_gd := mem_gd (List.mem_of_getElem? (i := 1643) (by decide +kernel)) rfl
set_option maxRecDepth 20000 in
theorem q_1645 : Cond.methodLink RL 71 yX12_pattern ∈ lw_gd := mem_gd (List.mem_of_getElem? (i := 1645) (by decide +kernel)) rfl
set_option maxRecDepth 20000 in
theorem q_1646 : Cond.instanceMethod yX12_pattern ∈ lw_gd := mem_gd (List.mem_of_getElem? (i := 1646) (by decide +kernel)) rfl
set_option maxRecDepth 20000 in
theorem q_1647 : Cond.selects RX12 yX12_pattern yX12_pattern ∈ lw_gd := mem_gd (List.mem_of_getElem? (i := 1647) (by decide +kernel)) rfl
set_option maxRecDepth 20000 in
theorem q_1650 : Cond.methodLink RL 75 yX12_undo ∈ lw_gd := mem_gd (List.mem_of_getElem? (i := 1650) (by decide +kernel)) rfl
set_option maxRecDepth 20000 in
theorem q_1651 : Cond.instanceMethod yX12_undo ∈ lw_gd := mem_gd (List.mem_of_getElem? (i := 1651) (by decide +kernel)) rfl
set_option maxRecDepth 20000 in
theorem q_1652 : Cond.selects RX12 yX12_undo yX12_undo ∈ lw_gd := mem_gd (List.mem_of_getElem? (i := 1652) (by decide +kernel)) rfl
set_option maxRecDepth 20000 in
theorem q_1655 : Cond.methodLink RL 79 yX12_judge ∈ lw_gd := mem_gd (List.mem_of_getElem? (i := 1655) (by decide +kernel)) rfl
set_option maxRecDepth 20000 in
theorem q_1656 : Cond.instanceMethod yX12_judge ∈ lw_gd := mem_gd (List.mem_of_getElem? (i := 1656) (by decide +kernel)) rfl
set_option maxRecDepth 20000 in
theorem q_1657 : Cond.selects RX12 yX12_judge yX12_judge ∈ lw_gd := mem_gd (List.mem_of_getElem? (i := 1657) (by decide +kernel)) rfl
set_option maxRecDepth 20000 in
theorem q_1687 : Cond.methodLink RL 83 yX12_perform ∈ lw_gd := mem_gd (List.mem_of_getElem? (i := 1687) (by decide +kernel)) rfl
set_option maxRecDepth 20000 in
theorem q_1688 : Cond.instanceMethod yX12_perform ∈ lw_gd := mem_gd (List.mem_of_getElem? (i := 1688) (by decide +kernel)) rfl
set_option maxRecDepth 20000 in
theorem q_1689 : Cond.selects RX12 yX12_perform yX12_perform ∈ lw_gd := mem_gd (List.mem_of_getElem? (i := 1689) (by decide +kernel)) rfl
set_option maxRecDepth 20000 in
theorem q_1691 : Cond.methodLink RL 87 yX12_day ∈ lw_gd := mem_gd (List.mem_of_getElem? (i := 1691) (by decide +kernel)) rfl
set_option maxRecDepth 20000 in
theorem q_1692 : Cond.instanceMethod yX12_day ∈ lw_gd := mem_gd (List.mem_of_getElem? (i := 1692) (by decide +kernel)) rfl
set_option maxRecDepth 20000 in
theorem q_1693 : Cond.selects RX12 yX12_day yX12_day ∈ lw_gd := mem_gd (List.mem_of_getElem? (i := 1693) (by decide +kernel)) rfl
set_option maxRecDepth 20000 in
theorem q_1705 : Cond.methodLink RL 91 yX12_area ∈ lw_gd := mem_gd (List.mem_of_getElem? (i := 1705) (by decide +kernel)) rfl
set_option maxRecDepth 20000 in
theorem q_1706 : Cond.instanceMethod yX12_area ∈ lw_gd := mem_gd (List.mem_of_getElem? (i := 1706) (by decide +kernel)) rfl
set_option maxRecDepth 20000 in
theorem q_1707 : Cond.selects RX12 yX12_area yX12_area ∈ lw_gd := mem_gd (List.mem_of_getElem? (i := 1707) (by decide +kernel)) rfl
set_option maxRecDepth 20000 in
theorem q_1713 : Cond.methodLink RL 95 yX12_eyes ∈ lw_gd := mem_gd (List.mem_of_getElem? (i := 1713) (by decide +kernel)) rfl
set_option maxRecDepth 20000 in
theorem q_1714 : Cond.instanceMethod yX12_eyes ∈ lw_gd := mem_gd (List.mem_of_getElem? (i := 1714) (by decide +kernel)) rfl
set_option maxRecDepth 20000 in
theorem q_1715 : Cond.selects RX12 yX12_eyes yX12_eyes ∈ lw_gd := mem_gd (List.mem_of_getElem? (i := 1715) (by decide +kernel)) rfl
set_option maxRecDepth 20000 in
theorem q_1725 : Cond.methodLink RL 99 yX12_greatest ∈ lw_gd := mem_gd (List.mem_of_getElem? (i := 1725) (by decide +kernel)) rfl
set_option maxRecDepth 20000 in
theorem q_1726 : Cond.instanceMethod yX12_greatest ∈ lw_gd := mem_gd (List.mem_of_getElem? (i := 1726) (by decide +kernel)) rfl
set_option maxRecDepth 20000 in
theorem q_1727 : Cond.selects RX12 yX12_greatest yX12_greatest ∈ lw_gd := mem_gd (List.mem_of_getElem? (i := 1727) (by decide +kernel)) rfl
set_option maxRecDepth 20000 in
theorem q_1729 : Cond.methodLink RL 103 yX12_rectangle ∈ lw_gd := mem_gd (List.mem_of_getElem? (i := 1729) (by decide +kernel)) rfl
set_option maxRecDepth 20000 in
theorem q_1730 : Cond.instanceMethod yX12_rectangle ∈ lw_gd := mem_gd (List.mem_of_getElem? (i := 1730) (by decide +kernel)) rfl
set_option maxRecDepth 20000 in
theorem q_1731 : Cond.selects RX12 yX12_rectangle yX12_rectangle ∈ lw_gd := mem_gd (List.mem_of_getElem? (i := 1731) (by decide +kernel)) rfl
set_option maxRecDepth 20000 in
theorem q_1734 : Cond.methodLink RL 107 yX12_ellipse ∈ lw_gd := mem_gd (List.mem_of_getElem? (i := 1734) (by decide +kernel)) rfl
set_option maxRecDepth 20000 in
theorem q_1735 : Cond.instanceMethod yX12_ellipse ∈ lw_gd := mem_gd (List.mem_of_getElem? (i := 1735) (by decide +kernel)) rfl
set_option maxRecDepth 20000 in
theorem q_1736 : Cond.selects RX12 yX12_ellipse yX12_ellipse ∈ lw_gd := mem_gd (List.mem_of_getElem? (i := 1736) (by decide +kernel)) rfl
set_option maxRecDepth 20000 in
theorem q_1738 : Cond.methodLink RL 111 yX12_margin ∈ lw_gd := mem_gd (List.mem_of_getElem? (i := 1738) (by decide +kernel)) rfl
set_option maxRecDepth 20000 in
theorem q_1739 : Cond.instanceMethod yX12_margin ∈ lw_gd := mem_gd (List.mem_of_getElem? (i := 1739) (by decide +kernel)) rfl
set_option maxRecDepth 20000 in
theorem q_1740 : Cond.selects RX12 yX12_margin yX12_margin ∈ lw_gd := mem_gd (List.mem_of_getElem? (i := 1740) (by decide +kernel)) rfl
set_option maxRecDepth 20000 in
theorem q_1742 : Cond.methodLink RL 115 yX12_edge ∈ lw_gd := mem_gd (List.mem_of_getElem? (i := 1742) (by decide +kernel)) rfl
set_option maxRecDepth 20000 in
theorem q_1743 : Cond.instanceMethod yX12_edge ∈ lw_gd := mem_gd (List.mem_of_getElem? (i := 1743) (by decide +kernel)) rfl
set_option maxRecDepth 20000 in
theorem q_1744 : Cond.selects RX12 yX12_edge yX12_edge ∈ lw_gd := mem_gd (List.mem_of_getElem? (i := 1744) (by decide +kernel)) rfl
set_option maxRecDepth 20000 in
theorem q_1746 : Cond.methodLink RL 119 yX12_lag ∈ lw_gd := mem_gd (List.mem_of_getElem? (i := 1746) (by decide +kernel)) rfl
set_option maxRecDepth 20000 in
theorem q_1747 : Cond.instanceMethod yX12_lag ∈ lw_gd := mem_gd (List.mem_of_getElem? (i := 1747) (by decide +kernel)) rfl
set_option maxRecDepth 20000 in
theorem q_1748 : Cond.selects RX12 yX12_lag yX12_lag ∈ lw_gd := mem_gd (List.mem_of_getElem? (i := 1748) (by decide +kernel)) rfl
set_option maxRecDepth 20000 in
theorem q_1750 : Cond.methodLink RL 123 yX12_bus ∈ lw_gd := mem_gd (List.mem_of_getElem? (i := 1750) (by decide +kernel)) rfl
set_option maxRecDepth 20000 in
theorem q_1751 : Cond.instanceMethod yX12_bus ∈ lw_gd := mem_gd (List.mem_of_getElem? (i := 1751) (by decide +kernel)) rfl
set_option maxRecDepth 20000 in
theorem q_1752 : Cond.selects RX12 yX12_bus yX12_bus ∈ lw_gd := mem_gd (List.mem_of_getElem? (i := 1752) (by decide +kernel)) rfl
set_option maxRecDepth 20000 in
theorem q_1754 : Cond.methodLink RL 127 yX12_harshest ∈ lw_gd := mem_gd (List.mem_of_getElem? (i := 1754) (by decide +kernel)) rfl
set_option maxRecDepth 20000 in
theorem q_1755 : Cond.instanceMethod yX12_harshest ∈ lw_gd := mem_gd (List.mem_of_getElem? (i := 1755) (by decide +kernel)) rfl
set_option maxRecDepth 20000 in
theorem q_1756 : Cond.selects RX12 yX12_harshest yX12_harshest ∈ lw_gd := mem_gd (List.mem_of_getElem? (i := 1756) (by decide +kernel)) rfl
set_option maxRecDepth 20000 in
theorem q_1762 : Cond.methodLink RL 131 yX12_tell ∈ lw_gd := mem_gd (List.mem_of_getElem? (i := 1762) (by decide +kernel)) rfl
set_option maxRecDepth 20000 in
theorem q_1763 : Cond.instanceMethod yX12_tell ∈ lw_gd := mem_gd (List.mem_of_getElem? (i := 1763) (by decide +kernel)) rfl
set_option maxRecDepth 20000 in
theorem q_1764 : Cond.selects RX12 yX12_tell yX12_tell ∈ lw_gd := mem_gd (List.mem_of_getElem? (i := 1764) (by decide +kernel)) rfl
set_option maxRecDepth 20000 in
theorem q_1774 : Cond.methodLink RL 135 yX12_later ∈ lw_gd := mem_gd (List.mem_of_getElem? (i := 1774) (by decide +kernel)) rfl
set_option maxRecDepth 20000 in
theorem q_1775 : Cond.instanceMethod yX12_later ∈ lw_gd := mem_gd (List.mem_of_getElem? (i := 1775) (by decide +kernel)) rfl
set_option maxRecDepth 20000 in
theorem q_1776 : Cond.selects RX12 yX12_later yX12_later ∈ lw_gd := mem_gd (List.mem_of_getElem? (i := 1776) (by decide +kernel)) rfl
set_option maxRecDepth 20000 in
theorem q_1783 : Cond.methodLink RL 139 yX12_holds ∈ lw_gd := mem_gd (List.mem_of_getElem? (i := 1783) (by decide +kernel)) rfl
set_option maxRecDepth 20000 in
theorem q_1784 : Cond.instanceMethod yX12_holds ∈ lw_gd := mem_gd (List.mem_of_getElem? (i := 1784) (by decide +kernel)) rfl
set_option maxRecDepth 20000 in
theorem q_1785 : Cond.selects RX12 yX12_holds yX12_holds ∈ lw_gd := mem_gd (List.mem_of_getElem? (i := 1785) (by decide +kernel)) rfl
set_option maxRecDepth 20000 in
theorem q_1787 : Cond.methodLink RL 143 yX12_follows ∈ lw_gd := mem_gd (List.mem_of_getElem? (i := 1787) (by decide +kernel)) rfl
set_option maxRecDepth 20000 in
theorem q_1788 : Cond.instanceMethod yX12_follows ∈ lw_gd := mem_gd (List.mem_of_getElem? (i := 1788) (by decide +kernel)) rfl
set_option maxRecDepth 20000 in
theorem q_1789 : Cond.selects RX12 yX12_follows yX12_follows ∈ lw_gd := mem_gd (List.mem_of_getElem? (i := 1789) (by decide +kernel)) rfl
set_option maxRecDepth 20000 in
theorem q_1791 : Cond.methodLink RL 147 yX12_at ∈ lw_gd := mem_gd (List.mem_of_getElem? (i := 1791) (by decide +kernel)) rfl
set_option maxRecDepth 20000 in
theorem q_1792 : Cond.instanceMethod yX12_at ∈ lw_gd := mem_gd (List.mem_of_getElem? (i := 1792) (by decide +kernel)) rfl
set_option maxRecDepth 20000 in
theorem q_1793 : Cond.selects RX12 yX12_at yX12_at ∈ lw_gd := mem_gd (List.mem_of_getElem? (i := 1793) (by decide +kernel)) rfl
set_option maxRecDepth 20000 in
theorem q_1795 : Cond.methodLink RL 151 yX12_steps ∈ lw_gd := mem_gd (List.mem_of_getElem? (i := 1795) (by decide +kernel)) rfl
set_option maxRecDepth 20000 in
theorem q_1796 : Cond.instanceMethod yX12_steps ∈ lw_gd := mem_gd (List.mem_of_getElem? (i := 1796) (by decide +kernel)) rfl
set_option maxRecDepth 20000 in
theorem q_1797 : Cond.selects RX12 yX12_steps yX12_steps ∈ lw_gd := mem_gd (List.mem_of_getElem? (i := 1797) (by decide +kernel)) rfl
set_option maxRecDepth 20000 in
theorem q_1806 : Cond.methodLink RL 155 yX12_way ∈ lw_gd := mem_gd (List.mem_of_getElem? (i := 1806) (by decide +kernel)) rfl
set_option maxRecDepth 20000 in
theorem q_1807 : Cond.instanceMethod yX12_way ∈ lw_gd := mem_gd (List.mem_of_getElem? (i := 1807) (by decide +kernel)) rfl
set_option maxRecDepth 20000 in
theorem q_1808 : Cond.selects RX12 yX12_way yX12_way ∈ lw_gd := mem_gd (List.mem_of_getElem? (i := 1808) (by decide +kernel)) rfl
set_option maxRecDepth 20000 in
theorem q_1810 : Cond.methodLink RL 160 yX12_ways ∈ lw_gd := mem_gd (List.mem_of_getElem? (i := 1810) (by decide +kernel)) rfl
set_option maxRecDepth 20000 in
theorem q_1811 : Cond.instanceMethod yX12_ways ∈ lw_gd := mem_gd (List.mem_of_getElem? (i := 1811) (by decide +kernel)) rfl
set_option maxRecDepth 20000 in
theorem q_1812 : Cond.selects RX12 yX12_ways yX12_ways ∈ lw_gd := mem_gd (List.mem_of_getElem? (i := 1812) (by decide +kernel)) rfl
set_option maxRecDepth 20000 in
theorem q_1817 : Cond.methodLink RL 164 yX12_drifts ∈ lw_gd := mem_gd (List.mem_of_getElem? (i := 1817) (by decide +kernel)) rfl
set_option maxRecDepth 20000 in
theorem q_1818 : Cond.instanceMethod yX12_drifts ∈ lw_gd := mem_gd (List.mem_of_getElem? (i := 1818) (by decide +kernel)) rfl
set_option maxRecDepth 20000 in
theorem q_1819 : Cond.selects RX12 yX12_drifts yX12_drifts ∈ lw_gd := mem_gd (List.mem_of_getElem? (i := 1819) (by decide +kernel)) rfl
set_option maxRecDepth 20000 in
theorem q_1831 : Cond.methodLink RL 168 yX12_attempt ∈ lw_gd := mem_gd (List.mem_of_getElem? (i := 1831) (by decide +kernel)) rfl
set_option maxRecDepth 20000 in
theorem q_1832 : Cond.instanceMethod yX12_attempt ∈ lw_gd := mem_gd (List.mem_of_getElem? (i := 1832) (by decide +kernel)) rfl
set_option maxRecDepth 20000 in
theorem q_1833 : Cond.selects RX12 yX12_attempt yX12_attempt ∈ lw_gd := mem_gd (List.mem_of_getElem? (i := 1833) (by decide +kernel)) rfl
set_option maxRecDepth 20000 in
theorem q_1835 : Cond.methodLink RL 173 yX12_chance ∈ lw_gd := mem_gd (List.mem_of_getElem? (i := 1835) (by decide +kernel)) rfl
set_option maxRecDepth 20000 in
theorem q_1836 : Cond.instanceMethod yX12_chance ∈ lw_gd := mem_gd (List.mem_of_getElem? (i := 1836) (by decide +kernel)) rfl
set_option maxRecDepth 20000 in
theorem q_1837 : Cond.selects RX12 yX12_chance yX12_chance ∈ lw_gd := mem_gd (List.mem_of_getElem? (i := 1837) (by decide +kernel)) rfl
set_option maxRecDepth 20000 in
theorem q_1853 : Cond.methodLink RL 177 yX12_mean ∈ lw_gd := mem_gd (List.mem_of_getElem? (i := 1853) (by decide +kernel)) rfl
set_option maxRecDepth 20000 in
theorem q_1854 : Cond.instanceMethod yX12_mean ∈ lw_gd := mem_gd (List.mem_of_getElem? (i := 1854) (by decide +kernel)) rfl
set_option maxRecDepth 20000 in
theorem q_1855 : Cond.selects RX12 yX12_mean yX12_mean ∈ lw_gd := mem_gd (List.mem_of_getElem? (i := 1855) (by decide +kernel)) rfl
set_option maxRecDepth 20000 in
theorem q_1857 : Cond.methodLink RL 181 yX12_numbers ∈ lw_gd := mem_gd (List.mem_of_getElem? (i := 1857) (by decide +kernel)) rfl
set_option maxRecDepth 20000 in
theorem q_1858 : Cond.instanceMethod yX12_numbers ∈ lw_gd := mem_gd (List.mem_of_getElem? (i := 1858) (by decide +kernel)) rfl
set_option maxRecDepth 20000 in
theorem q_1859 : Cond.selects RX12 yX12_numbers yX12_numbers ∈ lw_gd := mem_gd (List.mem_of_getElem? (i := 1859) (by decide +kernel)) rfl
set_option maxRecDepth 20000 in
theorem q_1861 : Cond.methodLink RL 188 yX12_write ∈ lw_gd := mem_gd (List.mem_of_getElem? (i := 1861) (by decide +kernel)) rfl
set_option maxRecDepth 20000 in
theorem q_1862 : Cond.instanceMethod yX12_write ∈ lw_gd := mem_gd (List.mem_of_getElem? (i := 1862) (by decide +kernel)) rfl
set_option maxRecDepth 20000 in
theorem q_1863 : Cond.selects RX12 yX12_write yX12_write ∈ lw_gd := mem_gd (List.mem_of_getElem? (i := 1863) (by decide +kernel)) rfl
set_option maxRecDepth 20000 in
theorem q_1869 : Cond.methodLink RL 192 yX12_lists ∈ lw_gd := mem_gd (List.mem_of_getElem? (i := 1869) (by decide +kernel)) rfl
set_option maxRecDepth 20000 in
theorem q_1870 : Cond.instanceMethod yX12_lists ∈ lw_gd := mem_gd (List.mem_of_getElem? (i := 1870) (by decide +kernel)) rfl
set_option maxRecDepth 20000 in
theorem q_1871 : Cond.selects RX12 yX12_lists yX12_lists ∈ lw_gd := mem_gd (List.mem_of_getElem? (i := 1871) (by decide +kernel)) rfl
set_option maxRecDepth 20000 in
theorem q_1873 : Cond.methodLink RL 196 yX12_image ∈ lw_gd := mem_gd (List.mem_of_getElem? (i := 1873) (by decide +kernel)) rfl
set_option maxRecDepth 20000 in
theorem q_1874 : Cond.instanceMethod yX12_image ∈ lw_gd := mem_gd (List.mem_of_getElem? (i := 1874) (by decide +kernel)) rfl
set_option maxRecDepth 20000 in
theorem q_1875 : Cond.selects RX12 yX12_image yX12_image ∈ lw_gd := mem_gd (List.mem_of_getElem? (i := 1875) (by decide +kernel)) rfl
set_option maxRecDepth 20000 in
theorem q_1877 : Cond.methodLink RL 200 yX12_restore ∈ lw_gd := mem_gd (List.mem_of_getElem? (i := 1877) (by decide +kernel)) rfl
set_option maxRecDepth 20000 in
theorem q_1878 : Cond.instanceMethod yX12_restore ∈ lw_gd := mem_gd (List.mem_of_getElem? (i := 1878) (by decide +kernel)) rfl
set_option maxRecDepth 20000 in
theorem q_1879 : Cond.selects RX12 yX12_restore yX12_restore ∈ lw_gd := mem_gd (List.mem_of_getElem? (i := 1879) (by decide +kernel)) rfl
set_option maxRecDepth 20000 in
theorem q_1881 : Cond.methodLink RL 204 yX12_count ∈ lw_gd := mem_gd (List.mem_of_getElem? (i := 1881) (by decide +kernel)) rfl
set_option maxRecDepth 20000 in
theorem q_1882 : Cond.instanceMethod yX12_count ∈ lw_gd := mem_gd (List.mem_of_getElem? (i := 1882) (by decide +kernel)) rfl
set_option maxRecDepth 20000 in
theorem q_1883 : Cond.selects RX12 yX12_count yX12_count ∈ lw_gd := mem_gd (List.mem_of_getElem? (i := 1883) (by decide +kernel)) rfl
set_option maxRecDepth 20000 in
theorem q_1885 : Cond.constantLong RL 182 (4294967295) ∈ lw_gd := mem_gd (List.mem_of_getElem? (i := 1885) (by decide +kernel)) rfl
theorem dL_law_0 : decode cL_law 0 = .ok (.new 7, 3) := by decide +kernel
theorem dL_law_3 : decode cL_law 3 = .ok (.dup, 1) := by decide +kernel
theorem dL_law_4 : decode cL_law 4 = .ok (.invokespecial 9, 3) := by decide +kernel
theorem dL_law_7 : decode cL_law 7 = .ok (.astore_n 1, 1) := by decide +kernel
theorem dL_law_8 : decode cL_law 8 = .ok (.new 10, 3) := by decide +kernel
theorem dL_law_11 : decode cL_law 11 = .ok (.dup, 1) := by decide +kernel
theorem dL_law_12 : decode cL_law 12 = .ok (.invokespecial 12, 3) := by decide +kernel
theorem dL_law_15 : decode cL_law 15 = .ok (.astore_n 2, 1) := by decide +kernel
theorem dL_law_16 : decode cL_law 16 = .ok (.iconst 0, 1) := by decide +kernel
theorem dL_law_17 : decode cL_law 17 = .ok (.istore_n 3, 1) := by decide +kernel
theorem dL_law_18 : decode cL_law 18 = .ok (.iload_n 3, 1) := by decide +kernel
theorem dL_law_19 : decode cL_law 19 = .ok (.aload_n 0, 1) := by decide +kernel
theorem dL_law_20 : decode cL_law 20 = .ok (.arraylength, 1) := by decide +kernel
theorem dL_law_21 : decode cL_law 21 = .ok (.bipush 6, 2) := by decide +kernel
theorem dL_law_23 : decode cL_law 23 = .ok (.isub, 1) := by decide +kernel
theorem dL_law_24 : decode cL_law 24 = .ok (.if_icmp .gt 1594, 3) := by decide +kernel
theorem dL_law_27 : decode cL_law 27 = .ok (.aload_n 0, 1) := by decide +kernel
theorem dL_law_28 : decode cL_law 28 = .ok (.iload_n 3, 1) := by decide +kernel
theorem dL_law_29 : decode cL_law 29 = .ok (.iaload, 1) := by decide +kernel
theorem dL_law_30 : decode cL_law 30 = .ok (.bipush 63, 2) := by decide +kernel
theorem dL_law_32 : decode cL_law 32 = .ok (.iand, 1) := by decide +kernel
theorem dL_law_33 : decode cL_law 33 = .ok (.tableswitch 1579 0 45 #[199, 262, 285, 308, 341, 364, 387, 420, 453, 476, 509, 542, 565, 588, 611, 634, 667, 690, 723, 746, 769, 792, 825, 858, 891, 914, 937, 960, 983, 1016, 1049, 1072, 1095, 1128, 1151, 1184, 1218, 1251, 1284, 1327, 1360, 1403, 1477, 1510, 1533, 1556], 199) := by decide +kernel
theorem dL_law_232 : decode cL_law 232 = .ok (.aload_n 1, 1) := by decide +kernel
theorem dL_law_233 : decode cL_law 233 = .ok (.aload_n 0, 1) := by decide +kernel
theorem dL_law_234 : decode cL_law 234 = .ok (.iload_n 3, 1) := by decide +kernel
theorem dL_law_235 : decode cL_law 235 = .ok (.iconst 1, 1) := by decide +kernel
theorem dL_law_236 : decode cL_law 236 = .ok (.iadd, 1) := by decide +kernel
theorem dL_law_237 : decode cL_law 237 = .ok (.iaload, 1) := by decide +kernel
theorem dL_law_238 : decode cL_law 238 = .ok (.aload_n 0, 1) := by decide +kernel
theorem dL_law_239 : decode cL_law 239 = .ok (.iload_n 3, 1) := by decide +kernel
theorem dL_law_240 : decode cL_law 240 = .ok (.iconst 2, 1) := by decide +kernel
theorem dL_law_241 : decode cL_law 241 = .ok (.iadd, 1) := by decide +kernel
theorem dL_law_242 : decode cL_law 242 = .ok (.iaload, 1) := by decide +kernel
theorem dL_law_243 : decode cL_law 243 = .ok (.aload_n 0, 1) := by decide +kernel
theorem dL_law_244 : decode cL_law 244 = .ok (.iload_n 3, 1) := by decide +kernel
theorem dL_law_245 : decode cL_law 245 = .ok (.iconst 3, 1) := by decide +kernel
theorem dL_law_246 : decode cL_law 246 = .ok (.iadd, 1) := by decide +kernel
theorem dL_law_247 : decode cL_law 247 = .ok (.iaload, 1) := by decide +kernel
theorem dL_law_248 : decode cL_law 248 = .ok (.aload_n 0, 1) := by decide +kernel
theorem dL_law_249 : decode cL_law 249 = .ok (.iload_n 3, 1) := by decide +kernel
theorem dL_law_250 : decode cL_law 250 = .ok (.iconst 4, 1) := by decide +kernel
theorem dL_law_251 : decode cL_law 251 = .ok (.iadd, 1) := by decide +kernel
theorem dL_law_252 : decode cL_law 252 = .ok (.iaload, 1) := by decide +kernel
theorem dL_law_253 : decode cL_law 253 = .ok (.aload_n 0, 1) := by decide +kernel
theorem dL_law_254 : decode cL_law 254 = .ok (.iload_n 3, 1) := by decide +kernel
theorem dL_law_255 : decode cL_law 255 = .ok (.iconst 5, 1) := by decide +kernel
theorem dL_law_256 : decode cL_law 256 = .ok (.iadd, 1) := by decide +kernel
theorem dL_law_257 : decode cL_law 257 = .ok (.iaload, 1) := by decide +kernel
theorem dL_law_258 : decode cL_law 258 = .ok (.invokevirtual 13, 3) := by decide +kernel
theorem dL_law_261 : decode cL_law 261 = .ok (.aload_n 2, 1) := by decide +kernel
theorem dL_law_262 : decode cL_law 262 = .ok (.aload_n 0, 1) := by decide +kernel
theorem dL_law_263 : decode cL_law 263 = .ok (.iload_n 3, 1) := by decide +kernel
theorem dL_law_264 : decode cL_law 264 = .ok (.iconst 1, 1) := by decide +kernel
theorem dL_law_265 : decode cL_law 265 = .ok (.iadd, 1) := by decide +kernel
theorem dL_law_266 : decode cL_law 266 = .ok (.iaload, 1) := by decide +kernel
theorem dL_law_267 : decode cL_law 267 = .ok (.aload_n 0, 1) := by decide +kernel
theorem dL_law_268 : decode cL_law 268 = .ok (.iload_n 3, 1) := by decide +kernel
theorem dL_law_269 : decode cL_law 269 = .ok (.iconst 2, 1) := by decide +kernel
theorem dL_law_270 : decode cL_law 270 = .ok (.iadd, 1) := by decide +kernel
theorem dL_law_271 : decode cL_law 271 = .ok (.iaload, 1) := by decide +kernel
theorem dL_law_272 : decode cL_law 272 = .ok (.aload_n 0, 1) := by decide +kernel
theorem dL_law_273 : decode cL_law 273 = .ok (.iload_n 3, 1) := by decide +kernel
theorem dL_law_274 : decode cL_law 274 = .ok (.iconst 3, 1) := by decide +kernel
theorem dL_law_275 : decode cL_law 275 = .ok (.iadd, 1) := by decide +kernel
theorem dL_law_276 : decode cL_law 276 = .ok (.iaload, 1) := by decide +kernel
theorem dL_law_277 : decode cL_law 277 = .ok (.aload_n 0, 1) := by decide +kernel
theorem dL_law_278 : decode cL_law 278 = .ok (.iload_n 3, 1) := by decide +kernel
theorem dL_law_279 : decode cL_law 279 = .ok (.iconst 4, 1) := by decide +kernel
theorem dL_law_280 : decode cL_law 280 = .ok (.iadd, 1) := by decide +kernel
theorem dL_law_281 : decode cL_law 281 = .ok (.iaload, 1) := by decide +kernel
theorem dL_law_282 : decode cL_law 282 = .ok (.aload_n 0, 1) := by decide +kernel
theorem dL_law_283 : decode cL_law 283 = .ok (.iload_n 3, 1) := by decide +kernel
theorem dL_law_284 : decode cL_law 284 = .ok (.iconst 5, 1) := by decide +kernel
theorem dL_law_285 : decode cL_law 285 = .ok (.iadd, 1) := by decide +kernel
theorem dL_law_286 : decode cL_law 286 = .ok (.iaload, 1) := by decide +kernel
theorem dL_law_287 : decode cL_law 287 = .ok (.invokevirtual 17, 3) := by decide +kernel
theorem dL_law_290 : decode cL_law 290 = .ok (.if_icmp .eq 1322, 3) := by decide +kernel
theorem dL_law_293 : decode cL_law 293 = .ok (.iconst 0, 1) := by decide +kernel
theorem dL_law_295 : decode cL_law 295 = .ok (.aload_n 1, 1) := by decide +kernel
theorem dL_law_296 : decode cL_law 296 = .ok (.aload_n 0, 1) := by decide +kernel
theorem dL_law_297 : decode cL_law 297 = .ok (.iload_n 3, 1) := by decide +kernel
theorem dL_law_298 : decode cL_law 298 = .ok (.iconst 1, 1) := by decide +kernel
theorem dL_law_299 : decode cL_law 299 = .ok (.iadd, 1) := by decide +kernel
theorem dL_law_300 : decode cL_law 300 = .ok (.iaload, 1) := by decide +kernel
theorem dL_law_301 : decode cL_law 301 = .ok (.invokevirtual 18, 3) := by decide +kernel
theorem dL_law_304 : decode cL_law 304 = .ok (.aload_n 2, 1) := by decide +kernel
theorem dL_law_305 : decode cL_law 305 = .ok (.aload_n 0, 1) := by decide +kernel
theorem dL_law_306 : decode cL_law 306 = .ok (.iload_n 3, 1) := by decide +kernel
theorem dL_law_307 : decode cL_law 307 = .ok (.iconst 1, 1) := by decide +kernel
theorem dL_law_308 : decode cL_law 308 = .ok (.iadd, 1) := by decide +kernel
theorem dL_law_309 : decode cL_law 309 = .ok (.iaload, 1) := by decide +kernel
theorem dL_law_310 : decode cL_law 310 = .ok (.invokevirtual 22, 3) := by decide +kernel
theorem dL_law_313 : decode cL_law 313 = .ok (.if_icmp .eq 1299, 3) := by decide +kernel
theorem dL_law_316 : decode cL_law 316 = .ok (.iconst 0, 1) := by decide +kernel
theorem dL_law_318 : decode cL_law 318 = .ok (.aload_n 1, 1) := by decide +kernel
theorem dL_law_319 : decode cL_law 319 = .ok (.aload_n 0, 1) := by decide +kernel
theorem dL_law_320 : decode cL_law 320 = .ok (.iload_n 3, 1) := by decide +kernel
theorem dL_law_321 : decode cL_law 321 = .ok (.iconst 1, 1) := by decide +kernel
theorem dL_law_322 : decode cL_law 322 = .ok (.iadd, 1) := by decide +kernel
theorem dL_law_323 : decode cL_law 323 = .ok (.iaload, 1) := by decide +kernel
theorem dL_law_324 : decode cL_law 324 = .ok (.invokevirtual 23, 3) := by decide +kernel
theorem dL_law_327 : decode cL_law 327 = .ok (.aload_n 2, 1) := by decide +kernel
theorem dL_law_328 : decode cL_law 328 = .ok (.aload_n 0, 1) := by decide +kernel
theorem dL_law_329 : decode cL_law 329 = .ok (.iload_n 3, 1) := by decide +kernel
theorem dL_law_330 : decode cL_law 330 = .ok (.iconst 1, 1) := by decide +kernel
theorem dL_law_331 : decode cL_law 331 = .ok (.iadd, 1) := by decide +kernel
theorem dL_law_332 : decode cL_law 332 = .ok (.iaload, 1) := by decide +kernel
theorem dL_law_333 : decode cL_law 333 = .ok (.invokevirtual 26, 3) := by decide +kernel
theorem dL_law_336 : decode cL_law 336 = .ok (.if_icmp .eq 1276, 3) := by decide +kernel
theorem dL_law_339 : decode cL_law 339 = .ok (.iconst 0, 1) := by decide +kernel
theorem dL_law_341 : decode cL_law 341 = .ok (.aload_n 1, 1) := by decide +kernel
theorem dL_law_342 : decode cL_law 342 = .ok (.aload_n 0, 1) := by decide +kernel
theorem dL_law_343 : decode cL_law 343 = .ok (.iload_n 3, 1) := by decide +kernel
theorem dL_law_344 : decode cL_law 344 = .ok (.iconst 1, 1) := by decide +kernel
theorem dL_law_345 : decode cL_law 345 = .ok (.iadd, 1) := by decide +kernel
theorem dL_law_346 : decode cL_law 346 = .ok (.iaload, 1) := by decide +kernel
theorem dL_law_347 : decode cL_law 347 = .ok (.aload_n 0, 1) := by decide +kernel
theorem dL_law_348 : decode cL_law 348 = .ok (.iload_n 3, 1) := by decide +kernel
theorem dL_law_349 : decode cL_law 349 = .ok (.iconst 2, 1) := by decide +kernel
theorem dL_law_350 : decode cL_law 350 = .ok (.iadd, 1) := by decide +kernel
theorem dL_law_351 : decode cL_law 351 = .ok (.iaload, 1) := by decide +kernel
theorem dL_law_352 : decode cL_law 352 = .ok (.invokevirtual 27, 3) := by decide +kernel
theorem dL_law_355 : decode cL_law 355 = .ok (.aload_n 2, 1) := by decide +kernel
theorem dL_law_356 : decode cL_law 356 = .ok (.aload_n 0, 1) := by decide +kernel
theorem dL_law_357 : decode cL_law 357 = .ok (.iload_n 3, 1) := by decide +kernel
theorem dL_law_358 : decode cL_law 358 = .ok (.iconst 1, 1) := by decide +kernel
theorem dL_law_359 : decode cL_law 359 = .ok (.iadd, 1) := by decide +kernel
theorem dL_law_360 : decode cL_law 360 = .ok (.iaload, 1) := by decide +kernel
theorem dL_law_361 : decode cL_law 361 = .ok (.aload_n 0, 1) := by decide +kernel
theorem dL_law_362 : decode cL_law 362 = .ok (.iload_n 3, 1) := by decide +kernel
theorem dL_law_363 : decode cL_law 363 = .ok (.iconst 2, 1) := by decide +kernel
theorem dL_law_364 : decode cL_law 364 = .ok (.iadd, 1) := by decide +kernel
theorem dL_law_365 : decode cL_law 365 = .ok (.iaload, 1) := by decide +kernel
theorem dL_law_366 : decode cL_law 366 = .ok (.invokevirtual 31, 3) := by decide +kernel
theorem dL_law_369 : decode cL_law 369 = .ok (.if_icmp .eq 1243, 3) := by decide +kernel
theorem dL_law_372 : decode cL_law 372 = .ok (.iconst 0, 1) := by decide +kernel
theorem dL_law_374 : decode cL_law 374 = .ok (.aload_n 1, 1) := by decide +kernel
theorem dL_law_375 : decode cL_law 375 = .ok (.aload_n 0, 1) := by decide +kernel
theorem dL_law_376 : decode cL_law 376 = .ok (.iload_n 3, 1) := by decide +kernel
theorem dL_law_377 : decode cL_law 377 = .ok (.iconst 1, 1) := by decide +kernel
theorem dL_law_378 : decode cL_law 378 = .ok (.iadd, 1) := by decide +kernel
theorem dL_law_379 : decode cL_law 379 = .ok (.iaload, 1) := by decide +kernel
theorem dL_law_380 : decode cL_law 380 = .ok (.invokevirtual 32, 3) := by decide +kernel
theorem dL_law_383 : decode cL_law 383 = .ok (.aload_n 2, 1) := by decide +kernel
theorem dL_law_384 : decode cL_law 384 = .ok (.aload_n 0, 1) := by decide +kernel
theorem dL_law_385 : decode cL_law 385 = .ok (.iload_n 3, 1) := by decide +kernel
theorem dL_law_386 : decode cL_law 386 = .ok (.iconst 1, 1) := by decide +kernel
theorem dL_law_387 : decode cL_law 387 = .ok (.iadd, 1) := by decide +kernel
theorem dL_law_388 : decode cL_law 388 = .ok (.iaload, 1) := by decide +kernel
theorem dL_law_389 : decode cL_law 389 = .ok (.invokevirtual 35, 3) := by decide +kernel
theorem dL_law_392 : decode cL_law 392 = .ok (.if_icmp .eq 1220, 3) := by decide +kernel
theorem dL_law_395 : decode cL_law 395 = .ok (.iconst 0, 1) := by decide +kernel
theorem dL_law_397 : decode cL_law 397 = .ok (.aload_n 1, 1) := by decide +kernel
theorem dL_law_398 : decode cL_law 398 = .ok (.aload_n 0, 1) := by decide +kernel
theorem dL_law_399 : decode cL_law 399 = .ok (.iload_n 3, 1) := by decide +kernel
theorem dL_law_400 : decode cL_law 400 = .ok (.iconst 1, 1) := by decide +kernel
theorem dL_law_401 : decode cL_law 401 = .ok (.iadd, 1) := by decide +kernel
theorem dL_law_402 : decode cL_law 402 = .ok (.iaload, 1) := by decide +kernel
theorem dL_law_403 : decode cL_law 403 = .ok (.invokevirtual 36, 3) := by decide +kernel
theorem dL_law_406 : decode cL_law 406 = .ok (.aload_n 2, 1) := by decide +kernel
theorem dL_law_407 : decode cL_law 407 = .ok (.aload_n 0, 1) := by decide +kernel
theorem dL_law_408 : decode cL_law 408 = .ok (.iload_n 3, 1) := by decide +kernel
theorem dL_law_409 : decode cL_law 409 = .ok (.iconst 1, 1) := by decide +kernel
theorem dL_law_410 : decode cL_law 410 = .ok (.iadd, 1) := by decide +kernel
theorem dL_law_411 : decode cL_law 411 = .ok (.iaload, 1) := by decide +kernel
theorem dL_law_412 : decode cL_law 412 = .ok (.invokevirtual 39, 3) := by decide +kernel
theorem dL_law_415 : decode cL_law 415 = .ok (.if_icmp .eq 1197, 3) := by decide +kernel
theorem dL_law_418 : decode cL_law 418 = .ok (.iconst 0, 1) := by decide +kernel
theorem dL_law_420 : decode cL_law 420 = .ok (.aload_n 1, 1) := by decide +kernel
theorem dL_law_421 : decode cL_law 421 = .ok (.aload_n 0, 1) := by decide +kernel
theorem dL_law_422 : decode cL_law 422 = .ok (.iload_n 3, 1) := by decide +kernel
theorem dL_law_423 : decode cL_law 423 = .ok (.iconst 1, 1) := by decide +kernel
theorem dL_law_424 : decode cL_law 424 = .ok (.iadd, 1) := by decide +kernel
theorem dL_law_425 : decode cL_law 425 = .ok (.iaload, 1) := by decide +kernel
theorem dL_law_426 : decode cL_law 426 = .ok (.aload_n 0, 1) := by decide +kernel
theorem dL_law_427 : decode cL_law 427 = .ok (.iload_n 3, 1) := by decide +kernel
theorem dL_law_428 : decode cL_law 428 = .ok (.iconst 2, 1) := by decide +kernel
theorem dL_law_429 : decode cL_law 429 = .ok (.iadd, 1) := by decide +kernel
theorem dL_law_430 : decode cL_law 430 = .ok (.iaload, 1) := by decide +kernel
theorem dL_law_431 : decode cL_law 431 = .ok (.invokevirtual 40, 3) := by decide +kernel
theorem dL_law_434 : decode cL_law 434 = .ok (.aload_n 2, 1) := by decide +kernel
theorem dL_law_435 : decode cL_law 435 = .ok (.aload_n 0, 1) := by decide +kernel
theorem dL_law_436 : decode cL_law 436 = .ok (.iload_n 3, 1) := by decide +kernel
theorem dL_law_437 : decode cL_law 437 = .ok (.iconst 1, 1) := by decide +kernel
theorem dL_law_438 : decode cL_law 438 = .ok (.iadd, 1) := by decide +kernel
theorem dL_law_439 : decode cL_law 439 = .ok (.iaload, 1) := by decide +kernel
theorem dL_law_440 : decode cL_law 440 = .ok (.aload_n 0, 1) := by decide +kernel
theorem dL_law_441 : decode cL_law 441 = .ok (.iload_n 3, 1) := by decide +kernel
theorem dL_law_442 : decode cL_law 442 = .ok (.iconst 2, 1) := by decide +kernel
theorem dL_law_443 : decode cL_law 443 = .ok (.iadd, 1) := by decide +kernel
theorem dL_law_444 : decode cL_law 444 = .ok (.iaload, 1) := by decide +kernel
theorem dL_law_445 : decode cL_law 445 = .ok (.invokevirtual 43, 3) := by decide +kernel
theorem dL_law_448 : decode cL_law 448 = .ok (.if_icmp .eq 1164, 3) := by decide +kernel
theorem dL_law_451 : decode cL_law 451 = .ok (.iconst 0, 1) := by decide +kernel
theorem dL_law_453 : decode cL_law 453 = .ok (.aload_n 1, 1) := by decide +kernel
theorem dL_law_454 : decode cL_law 454 = .ok (.aload_n 0, 1) := by decide +kernel
theorem dL_law_455 : decode cL_law 455 = .ok (.iload_n 3, 1) := by decide +kernel
theorem dL_law_456 : decode cL_law 456 = .ok (.iconst 1, 1) := by decide +kernel
theorem dL_law_457 : decode cL_law 457 = .ok (.iadd, 1) := by decide +kernel
theorem dL_law_458 : decode cL_law 458 = .ok (.iaload, 1) := by decide +kernel
theorem dL_law_459 : decode cL_law 459 = .ok (.aload_n 0, 1) := by decide +kernel
theorem dL_law_460 : decode cL_law 460 = .ok (.iload_n 3, 1) := by decide +kernel
theorem dL_law_461 : decode cL_law 461 = .ok (.iconst 2, 1) := by decide +kernel
theorem dL_law_462 : decode cL_law 462 = .ok (.iadd, 1) := by decide +kernel
theorem dL_law_463 : decode cL_law 463 = .ok (.iaload, 1) := by decide +kernel
theorem dL_law_464 : decode cL_law 464 = .ok (.invokevirtual 44, 3) := by decide +kernel
theorem dL_law_467 : decode cL_law 467 = .ok (.aload_n 2, 1) := by decide +kernel
theorem dL_law_468 : decode cL_law 468 = .ok (.aload_n 0, 1) := by decide +kernel
theorem dL_law_469 : decode cL_law 469 = .ok (.iload_n 3, 1) := by decide +kernel
theorem dL_law_470 : decode cL_law 470 = .ok (.iconst 1, 1) := by decide +kernel
theorem dL_law_471 : decode cL_law 471 = .ok (.iadd, 1) := by decide +kernel
theorem dL_law_472 : decode cL_law 472 = .ok (.iaload, 1) := by decide +kernel
theorem dL_law_473 : decode cL_law 473 = .ok (.aload_n 0, 1) := by decide +kernel
theorem dL_law_474 : decode cL_law 474 = .ok (.iload_n 3, 1) := by decide +kernel
theorem dL_law_475 : decode cL_law 475 = .ok (.iconst 2, 1) := by decide +kernel
theorem dL_law_476 : decode cL_law 476 = .ok (.iadd, 1) := by decide +kernel
theorem dL_law_477 : decode cL_law 477 = .ok (.iaload, 1) := by decide +kernel
theorem dL_law_478 : decode cL_law 478 = .ok (.invokevirtual 47, 3) := by decide +kernel
theorem dL_law_481 : decode cL_law 481 = .ok (.if_icmp .eq 1131, 3) := by decide +kernel
theorem dL_law_484 : decode cL_law 484 = .ok (.iconst 0, 1) := by decide +kernel
theorem dL_law_486 : decode cL_law 486 = .ok (.aload_n 1, 1) := by decide +kernel
theorem dL_law_487 : decode cL_law 487 = .ok (.aload_n 0, 1) := by decide +kernel
theorem dL_law_488 : decode cL_law 488 = .ok (.iload_n 3, 1) := by decide +kernel
theorem dL_law_489 : decode cL_law 489 = .ok (.iconst 1, 1) := by decide +kernel
theorem dL_law_490 : decode cL_law 490 = .ok (.iadd, 1) := by decide +kernel
theorem dL_law_491 : decode cL_law 491 = .ok (.iaload, 1) := by decide +kernel
theorem dL_law_492 : decode cL_law 492 = .ok (.invokevirtual 48, 3) := by decide +kernel
theorem dL_law_495 : decode cL_law 495 = .ok (.aload_n 2, 1) := by decide +kernel
theorem dL_law_496 : decode cL_law 496 = .ok (.aload_n 0, 1) := by decide +kernel
theorem dL_law_497 : decode cL_law 497 = .ok (.iload_n 3, 1) := by decide +kernel
theorem dL_law_498 : decode cL_law 498 = .ok (.iconst 1, 1) := by decide +kernel
theorem dL_law_499 : decode cL_law 499 = .ok (.iadd, 1) := by decide +kernel
theorem dL_law_500 : decode cL_law 500 = .ok (.iaload, 1) := by decide +kernel
theorem dL_law_501 : decode cL_law 501 = .ok (.invokevirtual 51, 3) := by decide +kernel
theorem dL_law_504 : decode cL_law 504 = .ok (.if_icmp .eq 1108, 3) := by decide +kernel
theorem dL_law_507 : decode cL_law 507 = .ok (.iconst 0, 1) := by decide +kernel
theorem dL_law_509 : decode cL_law 509 = .ok (.aload_n 1, 1) := by decide +kernel
theorem dL_law_510 : decode cL_law 510 = .ok (.aload_n 0, 1) := by decide +kernel
theorem dL_law_511 : decode cL_law 511 = .ok (.iload_n 3, 1) := by decide +kernel
theorem dL_law_512 : decode cL_law 512 = .ok (.iconst 1, 1) := by decide +kernel
theorem dL_law_513 : decode cL_law 513 = .ok (.iadd, 1) := by decide +kernel
theorem dL_law_514 : decode cL_law 514 = .ok (.iaload, 1) := by decide +kernel
theorem dL_law_515 : decode cL_law 515 = .ok (.aload_n 0, 1) := by decide +kernel
theorem dL_law_516 : decode cL_law 516 = .ok (.iload_n 3, 1) := by decide +kernel
theorem dL_law_517 : decode cL_law 517 = .ok (.iconst 2, 1) := by decide +kernel
theorem dL_law_518 : decode cL_law 518 = .ok (.iadd, 1) := by decide +kernel
theorem dL_law_519 : decode cL_law 519 = .ok (.iaload, 1) := by decide +kernel
theorem dL_law_520 : decode cL_law 520 = .ok (.invokevirtual 52, 3) := by decide +kernel
theorem dL_law_523 : decode cL_law 523 = .ok (.aload_n 2, 1) := by decide +kernel
theorem dL_law_524 : decode cL_law 524 = .ok (.aload_n 0, 1) := by decide +kernel
theorem dL_law_525 : decode cL_law 525 = .ok (.iload_n 3, 1) := by decide +kernel
theorem dL_law_526 : decode cL_law 526 = .ok (.iconst 1, 1) := by decide +kernel
theorem dL_law_527 : decode cL_law 527 = .ok (.iadd, 1) := by decide +kernel
theorem dL_law_528 : decode cL_law 528 = .ok (.iaload, 1) := by decide +kernel
theorem dL_law_529 : decode cL_law 529 = .ok (.aload_n 0, 1) := by decide +kernel
theorem dL_law_530 : decode cL_law 530 = .ok (.iload_n 3, 1) := by decide +kernel
theorem dL_law_531 : decode cL_law 531 = .ok (.iconst 2, 1) := by decide +kernel
theorem dL_law_532 : decode cL_law 532 = .ok (.iadd, 1) := by decide +kernel
theorem dL_law_533 : decode cL_law 533 = .ok (.iaload, 1) := by decide +kernel
theorem dL_law_534 : decode cL_law 534 = .ok (.invokevirtual 55, 3) := by decide +kernel
theorem dL_law_537 : decode cL_law 537 = .ok (.if_icmp .eq 1075, 3) := by decide +kernel
theorem dL_law_540 : decode cL_law 540 = .ok (.iconst 0, 1) := by decide +kernel
theorem dL_law_542 : decode cL_law 542 = .ok (.aload_n 1, 1) := by decide +kernel
theorem dL_law_543 : decode cL_law 543 = .ok (.aload_n 0, 1) := by decide +kernel
theorem dL_law_544 : decode cL_law 544 = .ok (.iload_n 3, 1) := by decide +kernel
theorem dL_law_545 : decode cL_law 545 = .ok (.iconst 1, 1) := by decide +kernel
theorem dL_law_546 : decode cL_law 546 = .ok (.iadd, 1) := by decide +kernel
theorem dL_law_547 : decode cL_law 547 = .ok (.iaload, 1) := by decide +kernel
theorem dL_law_548 : decode cL_law 548 = .ok (.aload_n 0, 1) := by decide +kernel
theorem dL_law_549 : decode cL_law 549 = .ok (.iload_n 3, 1) := by decide +kernel
theorem dL_law_550 : decode cL_law 550 = .ok (.iconst 2, 1) := by decide +kernel
theorem dL_law_551 : decode cL_law 551 = .ok (.iadd, 1) := by decide +kernel
theorem dL_law_552 : decode cL_law 552 = .ok (.iaload, 1) := by decide +kernel
theorem dL_law_553 : decode cL_law 553 = .ok (.invokevirtual 56, 3) := by decide +kernel
theorem dL_law_556 : decode cL_law 556 = .ok (.aload_n 2, 1) := by decide +kernel
theorem dL_law_557 : decode cL_law 557 = .ok (.aload_n 0, 1) := by decide +kernel
theorem dL_law_558 : decode cL_law 558 = .ok (.iload_n 3, 1) := by decide +kernel
theorem dL_law_559 : decode cL_law 559 = .ok (.iconst 1, 1) := by decide +kernel
theorem dL_law_560 : decode cL_law 560 = .ok (.iadd, 1) := by decide +kernel
theorem dL_law_561 : decode cL_law 561 = .ok (.iaload, 1) := by decide +kernel
theorem dL_law_562 : decode cL_law 562 = .ok (.aload_n 0, 1) := by decide +kernel
theorem dL_law_563 : decode cL_law 563 = .ok (.iload_n 3, 1) := by decide +kernel
theorem dL_law_564 : decode cL_law 564 = .ok (.iconst 2, 1) := by decide +kernel
theorem dL_law_565 : decode cL_law 565 = .ok (.iadd, 1) := by decide +kernel
theorem dL_law_566 : decode cL_law 566 = .ok (.iaload, 1) := by decide +kernel
theorem dL_law_567 : decode cL_law 567 = .ok (.invokevirtual 59, 3) := by decide +kernel
theorem dL_law_570 : decode cL_law 570 = .ok (.if_icmp .eq 1042, 3) := by decide +kernel
theorem dL_law_573 : decode cL_law 573 = .ok (.iconst 0, 1) := by decide +kernel
theorem dL_law_575 : decode cL_law 575 = .ok (.aload_n 1, 1) := by decide +kernel
theorem dL_law_576 : decode cL_law 576 = .ok (.aload_n 0, 1) := by decide +kernel
theorem dL_law_577 : decode cL_law 577 = .ok (.iload_n 3, 1) := by decide +kernel
theorem dL_law_578 : decode cL_law 578 = .ok (.iconst 1, 1) := by decide +kernel
theorem dL_law_579 : decode cL_law 579 = .ok (.iadd, 1) := by decide +kernel
theorem dL_law_580 : decode cL_law 580 = .ok (.iaload, 1) := by decide +kernel
theorem dL_law_581 : decode cL_law 581 = .ok (.invokevirtual 60, 3) := by decide +kernel
theorem dL_law_584 : decode cL_law 584 = .ok (.aload_n 2, 1) := by decide +kernel
theorem dL_law_585 : decode cL_law 585 = .ok (.aload_n 0, 1) := by decide +kernel
theorem dL_law_586 : decode cL_law 586 = .ok (.iload_n 3, 1) := by decide +kernel
theorem dL_law_587 : decode cL_law 587 = .ok (.iconst 1, 1) := by decide +kernel
theorem dL_law_588 : decode cL_law 588 = .ok (.iadd, 1) := by decide +kernel
theorem dL_law_589 : decode cL_law 589 = .ok (.iaload, 1) := by decide +kernel
theorem dL_law_590 : decode cL_law 590 = .ok (.invokevirtual 63, 3) := by decide +kernel
theorem dL_law_593 : decode cL_law 593 = .ok (.if_icmp .eq 1019, 3) := by decide +kernel
theorem dL_law_596 : decode cL_law 596 = .ok (.iconst 0, 1) := by decide +kernel
theorem dL_law_598 : decode cL_law 598 = .ok (.aload_n 1, 1) := by decide +kernel
theorem dL_law_599 : decode cL_law 599 = .ok (.aload_n 0, 1) := by decide +kernel
theorem dL_law_600 : decode cL_law 600 = .ok (.iload_n 3, 1) := by decide +kernel
theorem dL_law_601 : decode cL_law 601 = .ok (.iconst 1, 1) := by decide +kernel
theorem dL_law_602 : decode cL_law 602 = .ok (.iadd, 1) := by decide +kernel
theorem dL_law_603 : decode cL_law 603 = .ok (.iaload, 1) := by decide +kernel
theorem dL_law_604 : decode cL_law 604 = .ok (.invokevirtual 64, 3) := by decide +kernel
theorem dL_law_607 : decode cL_law 607 = .ok (.aload_n 2, 1) := by decide +kernel
theorem dL_law_608 : decode cL_law 608 = .ok (.aload_n 0, 1) := by decide +kernel
theorem dL_law_609 : decode cL_law 609 = .ok (.iload_n 3, 1) := by decide +kernel
theorem dL_law_610 : decode cL_law 610 = .ok (.iconst 1, 1) := by decide +kernel
theorem dL_law_611 : decode cL_law 611 = .ok (.iadd, 1) := by decide +kernel
theorem dL_law_612 : decode cL_law 612 = .ok (.iaload, 1) := by decide +kernel
theorem dL_law_613 : decode cL_law 613 = .ok (.invokevirtual 67, 3) := by decide +kernel
theorem dL_law_616 : decode cL_law 616 = .ok (.if_icmp .eq 996, 3) := by decide +kernel
theorem dL_law_619 : decode cL_law 619 = .ok (.iconst 0, 1) := by decide +kernel
theorem dL_law_621 : decode cL_law 621 = .ok (.aload_n 1, 1) := by decide +kernel
theorem dL_law_622 : decode cL_law 622 = .ok (.aload_n 0, 1) := by decide +kernel
theorem dL_law_623 : decode cL_law 623 = .ok (.iload_n 3, 1) := by decide +kernel
theorem dL_law_624 : decode cL_law 624 = .ok (.iconst 1, 1) := by decide +kernel
theorem dL_law_625 : decode cL_law 625 = .ok (.iadd, 1) := by decide +kernel
theorem dL_law_626 : decode cL_law 626 = .ok (.iaload, 1) := by decide +kernel
theorem dL_law_627 : decode cL_law 627 = .ok (.invokevirtual 68, 3) := by decide +kernel
theorem dL_law_630 : decode cL_law 630 = .ok (.aload_n 2, 1) := by decide +kernel
theorem dL_law_631 : decode cL_law 631 = .ok (.aload_n 0, 1) := by decide +kernel
theorem dL_law_632 : decode cL_law 632 = .ok (.iload_n 3, 1) := by decide +kernel
theorem dL_law_633 : decode cL_law 633 = .ok (.iconst 1, 1) := by decide +kernel
theorem dL_law_634 : decode cL_law 634 = .ok (.iadd, 1) := by decide +kernel
theorem dL_law_635 : decode cL_law 635 = .ok (.iaload, 1) := by decide +kernel
theorem dL_law_636 : decode cL_law 636 = .ok (.invokevirtual 71, 3) := by decide +kernel
theorem dL_law_639 : decode cL_law 639 = .ok (.if_icmp .eq 973, 3) := by decide +kernel
theorem dL_law_642 : decode cL_law 642 = .ok (.iconst 0, 1) := by decide +kernel
theorem dL_law_644 : decode cL_law 644 = .ok (.aload_n 1, 1) := by decide +kernel
theorem dL_law_645 : decode cL_law 645 = .ok (.aload_n 0, 1) := by decide +kernel
theorem dL_law_646 : decode cL_law 646 = .ok (.iload_n 3, 1) := by decide +kernel
theorem dL_law_647 : decode cL_law 647 = .ok (.iconst 1, 1) := by decide +kernel
theorem dL_law_648 : decode cL_law 648 = .ok (.iadd, 1) := by decide +kernel
theorem dL_law_649 : decode cL_law 649 = .ok (.iaload, 1) := by decide +kernel
theorem dL_law_650 : decode cL_law 650 = .ok (.invokevirtual 72, 3) := by decide +kernel
theorem dL_law_653 : decode cL_law 653 = .ok (.aload_n 2, 1) := by decide +kernel
theorem dL_law_654 : decode cL_law 654 = .ok (.aload_n 0, 1) := by decide +kernel
theorem dL_law_655 : decode cL_law 655 = .ok (.iload_n 3, 1) := by decide +kernel
theorem dL_law_656 : decode cL_law 656 = .ok (.iconst 1, 1) := by decide +kernel
theorem dL_law_657 : decode cL_law 657 = .ok (.iadd, 1) := by decide +kernel
theorem dL_law_658 : decode cL_law 658 = .ok (.iaload, 1) := by decide +kernel
theorem dL_law_659 : decode cL_law 659 = .ok (.invokevirtual 75, 3) := by decide +kernel
theorem dL_law_662 : decode cL_law 662 = .ok (.if_icmp .eq 950, 3) := by decide +kernel
theorem dL_law_665 : decode cL_law 665 = .ok (.iconst 0, 1) := by decide +kernel
theorem dL_law_667 : decode cL_law 667 = .ok (.aload_n 1, 1) := by decide +kernel
theorem dL_law_668 : decode cL_law 668 = .ok (.aload_n 0, 1) := by decide +kernel
theorem dL_law_669 : decode cL_law 669 = .ok (.iload_n 3, 1) := by decide +kernel
theorem dL_law_670 : decode cL_law 670 = .ok (.iconst 1, 1) := by decide +kernel
theorem dL_law_671 : decode cL_law 671 = .ok (.iadd, 1) := by decide +kernel
theorem dL_law_672 : decode cL_law 672 = .ok (.iaload, 1) := by decide +kernel
theorem dL_law_673 : decode cL_law 673 = .ok (.aload_n 0, 1) := by decide +kernel
theorem dL_law_674 : decode cL_law 674 = .ok (.iload_n 3, 1) := by decide +kernel
theorem dL_law_675 : decode cL_law 675 = .ok (.iconst 2, 1) := by decide +kernel
theorem dL_law_676 : decode cL_law 676 = .ok (.iadd, 1) := by decide +kernel
theorem dL_law_677 : decode cL_law 677 = .ok (.iaload, 1) := by decide +kernel
theorem dL_law_678 : decode cL_law 678 = .ok (.invokevirtual 76, 3) := by decide +kernel
theorem dL_law_681 : decode cL_law 681 = .ok (.aload_n 2, 1) := by decide +kernel
theorem dL_law_682 : decode cL_law 682 = .ok (.aload_n 0, 1) := by decide +kernel
theorem dL_law_683 : decode cL_law 683 = .ok (.iload_n 3, 1) := by decide +kernel
theorem dL_law_684 : decode cL_law 684 = .ok (.iconst 1, 1) := by decide +kernel
theorem dL_law_685 : decode cL_law 685 = .ok (.iadd, 1) := by decide +kernel
theorem dL_law_686 : decode cL_law 686 = .ok (.iaload, 1) := by decide +kernel
theorem dL_law_687 : decode cL_law 687 = .ok (.aload_n 0, 1) := by decide +kernel
theorem dL_law_688 : decode cL_law 688 = .ok (.iload_n 3, 1) := by decide +kernel
theorem dL_law_689 : decode cL_law 689 = .ok (.iconst 2, 1) := by decide +kernel
theorem dL_law_690 : decode cL_law 690 = .ok (.iadd, 1) := by decide +kernel
theorem dL_law_691 : decode cL_law 691 = .ok (.iaload, 1) := by decide +kernel
theorem dL_law_692 : decode cL_law 692 = .ok (.invokevirtual 79, 3) := by decide +kernel
theorem dL_law_695 : decode cL_law 695 = .ok (.if_icmp .eq 917, 3) := by decide +kernel
theorem dL_law_698 : decode cL_law 698 = .ok (.iconst 0, 1) := by decide +kernel
theorem dL_law_700 : decode cL_law 700 = .ok (.aload_n 1, 1) := by decide +kernel
theorem dL_law_701 : decode cL_law 701 = .ok (.aload_n 0, 1) := by decide +kernel
theorem dL_law_702 : decode cL_law 702 = .ok (.iload_n 3, 1) := by decide +kernel
theorem dL_law_703 : decode cL_law 703 = .ok (.iconst 1, 1) := by decide +kernel
theorem dL_law_704 : decode cL_law 704 = .ok (.iadd, 1) := by decide +kernel
theorem dL_law_705 : decode cL_law 705 = .ok (.iaload, 1) := by decide +kernel
theorem dL_law_706 : decode cL_law 706 = .ok (.invokevirtual 80, 3) := by decide +kernel
theorem dL_law_709 : decode cL_law 709 = .ok (.aload_n 2, 1) := by decide +kernel
theorem dL_law_710 : decode cL_law 710 = .ok (.aload_n 0, 1) := by decide +kernel
theorem dL_law_711 : decode cL_law 711 = .ok (.iload_n 3, 1) := by decide +kernel
theorem dL_law_712 : decode cL_law 712 = .ok (.iconst 1, 1) := by decide +kernel
theorem dL_law_713 : decode cL_law 713 = .ok (.iadd, 1) := by decide +kernel
theorem dL_law_714 : decode cL_law 714 = .ok (.iaload, 1) := by decide +kernel
theorem dL_law_715 : decode cL_law 715 = .ok (.invokevirtual 83, 3) := by decide +kernel
theorem dL_law_718 : decode cL_law 718 = .ok (.if_icmp .eq 894, 3) := by decide +kernel
theorem dL_law_721 : decode cL_law 721 = .ok (.iconst 0, 1) := by decide +kernel
theorem dL_law_723 : decode cL_law 723 = .ok (.aload_n 1, 1) := by decide +kernel
theorem dL_law_724 : decode cL_law 724 = .ok (.aload_n 0, 1) := by decide +kernel
theorem dL_law_725 : decode cL_law 725 = .ok (.iload_n 3, 1) := by decide +kernel
theorem dL_law_726 : decode cL_law 726 = .ok (.iconst 1, 1) := by decide +kernel
theorem dL_law_727 : decode cL_law 727 = .ok (.iadd, 1) := by decide +kernel
theorem dL_law_728 : decode cL_law 728 = .ok (.iaload, 1) := by decide +kernel
theorem dL_law_729 : decode cL_law 729 = .ok (.aload_n 0, 1) := by decide +kernel
theorem dL_law_730 : decode cL_law 730 = .ok (.iload_n 3, 1) := by decide +kernel
theorem dL_law_731 : decode cL_law 731 = .ok (.iconst 2, 1) := by decide +kernel
theorem dL_law_732 : decode cL_law 732 = .ok (.iadd, 1) := by decide +kernel
theorem dL_law_733 : decode cL_law 733 = .ok (.iaload, 1) := by decide +kernel
theorem dL_law_734 : decode cL_law 734 = .ok (.invokevirtual 84, 3) := by decide +kernel
theorem dL_law_737 : decode cL_law 737 = .ok (.aload_n 2, 1) := by decide +kernel
theorem dL_law_738 : decode cL_law 738 = .ok (.aload_n 0, 1) := by decide +kernel
theorem dL_law_739 : decode cL_law 739 = .ok (.iload_n 3, 1) := by decide +kernel
theorem dL_law_740 : decode cL_law 740 = .ok (.iconst 1, 1) := by decide +kernel
theorem dL_law_741 : decode cL_law 741 = .ok (.iadd, 1) := by decide +kernel
theorem dL_law_742 : decode cL_law 742 = .ok (.iaload, 1) := by decide +kernel
theorem dL_law_743 : decode cL_law 743 = .ok (.aload_n 0, 1) := by decide +kernel
theorem dL_law_744 : decode cL_law 744 = .ok (.iload_n 3, 1) := by decide +kernel
theorem dL_law_745 : decode cL_law 745 = .ok (.iconst 2, 1) := by decide +kernel
theorem dL_law_746 : decode cL_law 746 = .ok (.iadd, 1) := by decide +kernel
theorem dL_law_747 : decode cL_law 747 = .ok (.iaload, 1) := by decide +kernel
theorem dL_law_748 : decode cL_law 748 = .ok (.invokevirtual 87, 3) := by decide +kernel
theorem dL_law_751 : decode cL_law 751 = .ok (.if_icmp .eq 861, 3) := by decide +kernel
theorem dL_law_754 : decode cL_law 754 = .ok (.iconst 0, 1) := by decide +kernel
theorem dL_law_756 : decode cL_law 756 = .ok (.aload_n 1, 1) := by decide +kernel
theorem dL_law_757 : decode cL_law 757 = .ok (.aload_n 0, 1) := by decide +kernel
theorem dL_law_758 : decode cL_law 758 = .ok (.iload_n 3, 1) := by decide +kernel
theorem dL_law_759 : decode cL_law 759 = .ok (.iconst 1, 1) := by decide +kernel
theorem dL_law_760 : decode cL_law 760 = .ok (.iadd, 1) := by decide +kernel
theorem dL_law_761 : decode cL_law 761 = .ok (.iaload, 1) := by decide +kernel
theorem dL_law_762 : decode cL_law 762 = .ok (.invokevirtual 88, 3) := by decide +kernel
theorem dL_law_765 : decode cL_law 765 = .ok (.aload_n 2, 1) := by decide +kernel
theorem dL_law_766 : decode cL_law 766 = .ok (.aload_n 0, 1) := by decide +kernel
theorem dL_law_767 : decode cL_law 767 = .ok (.iload_n 3, 1) := by decide +kernel
theorem dL_law_768 : decode cL_law 768 = .ok (.iconst 1, 1) := by decide +kernel
theorem dL_law_769 : decode cL_law 769 = .ok (.iadd, 1) := by decide +kernel
theorem dL_law_770 : decode cL_law 770 = .ok (.iaload, 1) := by decide +kernel
theorem dL_law_771 : decode cL_law 771 = .ok (.invokevirtual 91, 3) := by decide +kernel
theorem dL_law_774 : decode cL_law 774 = .ok (.if_icmp .eq 838, 3) := by decide +kernel
theorem dL_law_777 : decode cL_law 777 = .ok (.iconst 0, 1) := by decide +kernel
theorem dL_law_779 : decode cL_law 779 = .ok (.aload_n 1, 1) := by decide +kernel
theorem dL_law_780 : decode cL_law 780 = .ok (.aload_n 0, 1) := by decide +kernel
theorem dL_law_781 : decode cL_law 781 = .ok (.iload_n 3, 1) := by decide +kernel
theorem dL_law_782 : decode cL_law 782 = .ok (.iconst 1, 1) := by decide +kernel
theorem dL_law_783 : decode cL_law 783 = .ok (.iadd, 1) := by decide +kernel
theorem dL_law_784 : decode cL_law 784 = .ok (.iaload, 1) := by decide +kernel
theorem dL_law_785 : decode cL_law 785 = .ok (.invokevirtual 92, 3) := by decide +kernel
theorem dL_law_788 : decode cL_law 788 = .ok (.aload_n 2, 1) := by decide +kernel
theorem dL_law_789 : decode cL_law 789 = .ok (.aload_n 0, 1) := by decide +kernel
theorem dL_law_790 : decode cL_law 790 = .ok (.iload_n 3, 1) := by decide +kernel
theorem dL_law_791 : decode cL_law 791 = .ok (.iconst 1, 1) := by decide +kernel
theorem dL_law_792 : decode cL_law 792 = .ok (.iadd, 1) := by decide +kernel
theorem dL_law_793 : decode cL_law 793 = .ok (.iaload, 1) := by decide +kernel
theorem dL_law_794 : decode cL_law 794 = .ok (.invokevirtual 95, 3) := by decide +kernel
theorem dL_law_797 : decode cL_law 797 = .ok (.if_icmp .eq 815, 3) := by decide +kernel
theorem dL_law_800 : decode cL_law 800 = .ok (.iconst 0, 1) := by decide +kernel
theorem dL_law_802 : decode cL_law 802 = .ok (.aload_n 1, 1) := by decide +kernel
theorem dL_law_803 : decode cL_law 803 = .ok (.aload_n 0, 1) := by decide +kernel
theorem dL_law_804 : decode cL_law 804 = .ok (.iload_n 3, 1) := by decide +kernel
theorem dL_law_805 : decode cL_law 805 = .ok (.iconst 1, 1) := by decide +kernel
theorem dL_law_806 : decode cL_law 806 = .ok (.iadd, 1) := by decide +kernel
theorem dL_law_807 : decode cL_law 807 = .ok (.iaload, 1) := by decide +kernel
theorem dL_law_808 : decode cL_law 808 = .ok (.invokevirtual 96, 3) := by decide +kernel
theorem dL_law_811 : decode cL_law 811 = .ok (.aload_n 2, 1) := by decide +kernel
theorem dL_law_812 : decode cL_law 812 = .ok (.aload_n 0, 1) := by decide +kernel
theorem dL_law_813 : decode cL_law 813 = .ok (.iload_n 3, 1) := by decide +kernel
theorem dL_law_814 : decode cL_law 814 = .ok (.iconst 1, 1) := by decide +kernel
theorem dL_law_815 : decode cL_law 815 = .ok (.iadd, 1) := by decide +kernel
theorem dL_law_816 : decode cL_law 816 = .ok (.iaload, 1) := by decide +kernel
theorem dL_law_817 : decode cL_law 817 = .ok (.invokevirtual 99, 3) := by decide +kernel
theorem dL_law_820 : decode cL_law 820 = .ok (.if_icmp .eq 792, 3) := by decide +kernel
theorem dL_law_823 : decode cL_law 823 = .ok (.iconst 0, 1) := by decide +kernel
theorem dL_law_825 : decode cL_law 825 = .ok (.aload_n 1, 1) := by decide +kernel
theorem dL_law_826 : decode cL_law 826 = .ok (.aload_n 0, 1) := by decide +kernel
theorem dL_law_827 : decode cL_law 827 = .ok (.iload_n 3, 1) := by decide +kernel
theorem dL_law_828 : decode cL_law 828 = .ok (.iconst 1, 1) := by decide +kernel
theorem dL_law_829 : decode cL_law 829 = .ok (.iadd, 1) := by decide +kernel
theorem dL_law_830 : decode cL_law 830 = .ok (.iaload, 1) := by decide +kernel
theorem dL_law_831 : decode cL_law 831 = .ok (.aload_n 0, 1) := by decide +kernel
theorem dL_law_832 : decode cL_law 832 = .ok (.iload_n 3, 1) := by decide +kernel
theorem dL_law_833 : decode cL_law 833 = .ok (.iconst 2, 1) := by decide +kernel
theorem dL_law_834 : decode cL_law 834 = .ok (.iadd, 1) := by decide +kernel
theorem dL_law_835 : decode cL_law 835 = .ok (.iaload, 1) := by decide +kernel
theorem dL_law_836 : decode cL_law 836 = .ok (.invokevirtual 100, 3) := by decide +kernel
theorem dL_law_839 : decode cL_law 839 = .ok (.aload_n 2, 1) := by decide +kernel
theorem dL_law_840 : decode cL_law 840 = .ok (.aload_n 0, 1) := by decide +kernel
theorem dL_law_841 : decode cL_law 841 = .ok (.iload_n 3, 1) := by decide +kernel
theorem dL_law_842 : decode cL_law 842 = .ok (.iconst 1, 1) := by decide +kernel
theorem dL_law_843 : decode cL_law 843 = .ok (.iadd, 1) := by decide +kernel
theorem dL_law_844 : decode cL_law 844 = .ok (.iaload, 1) := by decide +kernel
theorem dL_law_845 : decode cL_law 845 = .ok (.aload_n 0, 1) := by decide +kernel
theorem dL_law_846 : decode cL_law 846 = .ok (.iload_n 3, 1) := by decide +kernel
theorem dL_law_847 : decode cL_law 847 = .ok (.iconst 2, 1) := by decide +kernel
theorem dL_law_848 : decode cL_law 848 = .ok (.iadd, 1) := by decide +kernel
theorem dL_law_849 : decode cL_law 849 = .ok (.iaload, 1) := by decide +kernel
theorem dL_law_850 : decode cL_law 850 = .ok (.invokevirtual 103, 3) := by decide +kernel
theorem dL_law_853 : decode cL_law 853 = .ok (.if_icmp .eq 759, 3) := by decide +kernel
theorem dL_law_856 : decode cL_law 856 = .ok (.iconst 0, 1) := by decide +kernel
theorem dL_law_858 : decode cL_law 858 = .ok (.aload_n 1, 1) := by decide +kernel
theorem dL_law_859 : decode cL_law 859 = .ok (.aload_n 0, 1) := by decide +kernel
theorem dL_law_860 : decode cL_law 860 = .ok (.iload_n 3, 1) := by decide +kernel
theorem dL_law_861 : decode cL_law 861 = .ok (.iconst 1, 1) := by decide +kernel
theorem dL_law_862 : decode cL_law 862 = .ok (.iadd, 1) := by decide +kernel
theorem dL_law_863 : decode cL_law 863 = .ok (.iaload, 1) := by decide +kernel
theorem dL_law_864 : decode cL_law 864 = .ok (.aload_n 0, 1) := by decide +kernel
theorem dL_law_865 : decode cL_law 865 = .ok (.iload_n 3, 1) := by decide +kernel
theorem dL_law_866 : decode cL_law 866 = .ok (.iconst 2, 1) := by decide +kernel
theorem dL_law_867 : decode cL_law 867 = .ok (.iadd, 1) := by decide +kernel
theorem dL_law_868 : decode cL_law 868 = .ok (.iaload, 1) := by decide +kernel
theorem dL_law_869 : decode cL_law 869 = .ok (.invokevirtual 104, 3) := by decide +kernel
theorem dL_law_872 : decode cL_law 872 = .ok (.aload_n 2, 1) := by decide +kernel
theorem dL_law_873 : decode cL_law 873 = .ok (.aload_n 0, 1) := by decide +kernel
theorem dL_law_874 : decode cL_law 874 = .ok (.iload_n 3, 1) := by decide +kernel
theorem dL_law_875 : decode cL_law 875 = .ok (.iconst 1, 1) := by decide +kernel
theorem dL_law_876 : decode cL_law 876 = .ok (.iadd, 1) := by decide +kernel
theorem dL_law_877 : decode cL_law 877 = .ok (.iaload, 1) := by decide +kernel
theorem dL_law_878 : decode cL_law 878 = .ok (.aload_n 0, 1) := by decide +kernel
theorem dL_law_879 : decode cL_law 879 = .ok (.iload_n 3, 1) := by decide +kernel
theorem dL_law_880 : decode cL_law 880 = .ok (.iconst 2, 1) := by decide +kernel
theorem dL_law_881 : decode cL_law 881 = .ok (.iadd, 1) := by decide +kernel
theorem dL_law_882 : decode cL_law 882 = .ok (.iaload, 1) := by decide +kernel
theorem dL_law_883 : decode cL_law 883 = .ok (.invokevirtual 107, 3) := by decide +kernel
theorem dL_law_886 : decode cL_law 886 = .ok (.if_icmp .eq 726, 3) := by decide +kernel
theorem dL_law_889 : decode cL_law 889 = .ok (.iconst 0, 1) := by decide +kernel
theorem dL_law_891 : decode cL_law 891 = .ok (.aload_n 1, 1) := by decide +kernel
theorem dL_law_892 : decode cL_law 892 = .ok (.aload_n 0, 1) := by decide +kernel
theorem dL_law_893 : decode cL_law 893 = .ok (.iload_n 3, 1) := by decide +kernel
theorem dL_law_894 : decode cL_law 894 = .ok (.iconst 1, 1) := by decide +kernel
theorem dL_law_895 : decode cL_law 895 = .ok (.iadd, 1) := by decide +kernel
theorem dL_law_896 : decode cL_law 896 = .ok (.iaload, 1) := by decide +kernel
theorem dL_law_897 : decode cL_law 897 = .ok (.aload_n 0, 1) := by decide +kernel
theorem dL_law_898 : decode cL_law 898 = .ok (.iload_n 3, 1) := by decide +kernel
theorem dL_law_899 : decode cL_law 899 = .ok (.iconst 2, 1) := by decide +kernel
theorem dL_law_900 : decode cL_law 900 = .ok (.iadd, 1) := by decide +kernel
theorem dL_law_901 : decode cL_law 901 = .ok (.iaload, 1) := by decide +kernel
theorem dL_law_902 : decode cL_law 902 = .ok (.invokevirtual 108, 3) := by decide +kernel
theorem dL_law_905 : decode cL_law 905 = .ok (.aload_n 2, 1) := by decide +kernel
theorem dL_law_906 : decode cL_law 906 = .ok (.aload_n 0, 1) := by decide +kernel
theorem dL_law_907 : decode cL_law 907 = .ok (.iload_n 3, 1) := by decide +kernel
theorem dL_law_908 : decode cL_law 908 = .ok (.iconst 1, 1) := by decide +kernel
theorem dL_law_909 : decode cL_law 909 = .ok (.iadd, 1) := by decide +kernel
theorem dL_law_910 : decode cL_law 910 = .ok (.iaload, 1) := by decide +kernel
theorem dL_law_911 : decode cL_law 911 = .ok (.aload_n 0, 1) := by decide +kernel
theorem dL_law_912 : decode cL_law 912 = .ok (.iload_n 3, 1) := by decide +kernel
theorem dL_law_913 : decode cL_law 913 = .ok (.iconst 2, 1) := by decide +kernel
theorem dL_law_914 : decode cL_law 914 = .ok (.iadd, 1) := by decide +kernel
theorem dL_law_915 : decode cL_law 915 = .ok (.iaload, 1) := by decide +kernel
theorem dL_law_916 : decode cL_law 916 = .ok (.invokevirtual 111, 3) := by decide +kernel
theorem dL_law_919 : decode cL_law 919 = .ok (.if_icmp .eq 693, 3) := by decide +kernel
theorem dL_law_922 : decode cL_law 922 = .ok (.iconst 0, 1) := by decide +kernel
theorem dL_law_924 : decode cL_law 924 = .ok (.aload_n 1, 1) := by decide +kernel
theorem dL_law_925 : decode cL_law 925 = .ok (.aload_n 0, 1) := by decide +kernel
theorem dL_law_926 : decode cL_law 926 = .ok (.iload_n 3, 1) := by decide +kernel
theorem dL_law_927 : decode cL_law 927 = .ok (.iconst 1, 1) := by decide +kernel
theorem dL_law_928 : decode cL_law 928 = .ok (.iadd, 1) := by decide +kernel
theorem dL_law_929 : decode cL_law 929 = .ok (.iaload, 1) := by decide +kernel
theorem dL_law_930 : decode cL_law 930 = .ok (.invokevirtual 112, 3) := by decide +kernel
theorem dL_law_933 : decode cL_law 933 = .ok (.aload_n 2, 1) := by decide +kernel
theorem dL_law_934 : decode cL_law 934 = .ok (.aload_n 0, 1) := by decide +kernel
theorem dL_law_935 : decode cL_law 935 = .ok (.iload_n 3, 1) := by decide +kernel
theorem dL_law_936 : decode cL_law 936 = .ok (.iconst 1, 1) := by decide +kernel
theorem dL_law_937 : decode cL_law 937 = .ok (.iadd, 1) := by decide +kernel
theorem dL_law_938 : decode cL_law 938 = .ok (.iaload, 1) := by decide +kernel
theorem dL_law_939 : decode cL_law 939 = .ok (.invokevirtual 115, 3) := by decide +kernel
theorem dL_law_942 : decode cL_law 942 = .ok (.if_icmp .eq 670, 3) := by decide +kernel
theorem dL_law_945 : decode cL_law 945 = .ok (.iconst 0, 1) := by decide +kernel
theorem dL_law_947 : decode cL_law 947 = .ok (.aload_n 1, 1) := by decide +kernel
theorem dL_law_948 : decode cL_law 948 = .ok (.aload_n 0, 1) := by decide +kernel
theorem dL_law_949 : decode cL_law 949 = .ok (.iload_n 3, 1) := by decide +kernel
theorem dL_law_950 : decode cL_law 950 = .ok (.iconst 1, 1) := by decide +kernel
theorem dL_law_951 : decode cL_law 951 = .ok (.iadd, 1) := by decide +kernel
theorem dL_law_952 : decode cL_law 952 = .ok (.iaload, 1) := by decide +kernel
theorem dL_law_953 : decode cL_law 953 = .ok (.invokevirtual 116, 3) := by decide +kernel
theorem dL_law_956 : decode cL_law 956 = .ok (.aload_n 2, 1) := by decide +kernel
theorem dL_law_957 : decode cL_law 957 = .ok (.aload_n 0, 1) := by decide +kernel
theorem dL_law_958 : decode cL_law 958 = .ok (.iload_n 3, 1) := by decide +kernel
theorem dL_law_959 : decode cL_law 959 = .ok (.iconst 1, 1) := by decide +kernel
theorem dL_law_960 : decode cL_law 960 = .ok (.iadd, 1) := by decide +kernel
theorem dL_law_961 : decode cL_law 961 = .ok (.iaload, 1) := by decide +kernel
theorem dL_law_962 : decode cL_law 962 = .ok (.invokevirtual 119, 3) := by decide +kernel
theorem dL_law_965 : decode cL_law 965 = .ok (.if_icmp .eq 647, 3) := by decide +kernel
theorem dL_law_968 : decode cL_law 968 = .ok (.iconst 0, 1) := by decide +kernel
theorem dL_law_970 : decode cL_law 970 = .ok (.aload_n 1, 1) := by decide +kernel
theorem dL_law_971 : decode cL_law 971 = .ok (.aload_n 0, 1) := by decide +kernel
theorem dL_law_972 : decode cL_law 972 = .ok (.iload_n 3, 1) := by decide +kernel
theorem dL_law_973 : decode cL_law 973 = .ok (.iconst 1, 1) := by decide +kernel
theorem dL_law_974 : decode cL_law 974 = .ok (.iadd, 1) := by decide +kernel
theorem dL_law_975 : decode cL_law 975 = .ok (.iaload, 1) := by decide +kernel
theorem dL_law_976 : decode cL_law 976 = .ok (.invokevirtual 120, 3) := by decide +kernel
theorem dL_law_979 : decode cL_law 979 = .ok (.aload_n 2, 1) := by decide +kernel
theorem dL_law_980 : decode cL_law 980 = .ok (.aload_n 0, 1) := by decide +kernel
theorem dL_law_981 : decode cL_law 981 = .ok (.iload_n 3, 1) := by decide +kernel
theorem dL_law_982 : decode cL_law 982 = .ok (.iconst 1, 1) := by decide +kernel
theorem dL_law_983 : decode cL_law 983 = .ok (.iadd, 1) := by decide +kernel
theorem dL_law_984 : decode cL_law 984 = .ok (.iaload, 1) := by decide +kernel
theorem dL_law_985 : decode cL_law 985 = .ok (.invokevirtual 123, 3) := by decide +kernel
theorem dL_law_988 : decode cL_law 988 = .ok (.if_icmp .eq 624, 3) := by decide +kernel
theorem dL_law_991 : decode cL_law 991 = .ok (.iconst 0, 1) := by decide +kernel
theorem dL_law_993 : decode cL_law 993 = .ok (.aload_n 1, 1) := by decide +kernel
theorem dL_law_994 : decode cL_law 994 = .ok (.aload_n 0, 1) := by decide +kernel
theorem dL_law_995 : decode cL_law 995 = .ok (.iload_n 3, 1) := by decide +kernel
theorem dL_law_996 : decode cL_law 996 = .ok (.iconst 1, 1) := by decide +kernel
theorem dL_law_997 : decode cL_law 997 = .ok (.iadd, 1) := by decide +kernel
theorem dL_law_998 : decode cL_law 998 = .ok (.iaload, 1) := by decide +kernel
theorem dL_law_999 : decode cL_law 999 = .ok (.invokevirtual 124, 3) := by decide +kernel
theorem dL_law_1002 : decode cL_law 1002 = .ok (.aload_n 2, 1) := by decide +kernel
theorem dL_law_1003 : decode cL_law 1003 = .ok (.aload_n 0, 1) := by decide +kernel
theorem dL_law_1004 : decode cL_law 1004 = .ok (.iload_n 3, 1) := by decide +kernel
theorem dL_law_1005 : decode cL_law 1005 = .ok (.iconst 1, 1) := by decide +kernel
theorem dL_law_1006 : decode cL_law 1006 = .ok (.iadd, 1) := by decide +kernel
theorem dL_law_1007 : decode cL_law 1007 = .ok (.iaload, 1) := by decide +kernel
theorem dL_law_1008 : decode cL_law 1008 = .ok (.invokevirtual 127, 3) := by decide +kernel
theorem dL_law_1011 : decode cL_law 1011 = .ok (.if_icmp .eq 601, 3) := by decide +kernel
theorem dL_law_1014 : decode cL_law 1014 = .ok (.iconst 0, 1) := by decide +kernel
theorem dL_law_1016 : decode cL_law 1016 = .ok (.aload_n 1, 1) := by decide +kernel
theorem dL_law_1017 : decode cL_law 1017 = .ok (.aload_n 0, 1) := by decide +kernel
theorem dL_law_1018 : decode cL_law 1018 = .ok (.iload_n 3, 1) := by decide +kernel
theorem dL_law_1019 : decode cL_law 1019 = .ok (.iconst 1, 1) := by decide +kernel
theorem dL_law_1020 : decode cL_law 1020 = .ok (.iadd, 1) := by decide +kernel
theorem dL_law_1021 : decode cL_law 1021 = .ok (.iaload, 1) := by decide +kernel
theorem dL_law_1022 : decode cL_law 1022 = .ok (.aload_n 0, 1) := by decide +kernel
theorem dL_law_1023 : decode cL_law 1023 = .ok (.iload_n 3, 1) := by decide +kernel
theorem dL_law_1024 : decode cL_law 1024 = .ok (.iconst 2, 1) := by decide +kernel
theorem dL_law_1025 : decode cL_law 1025 = .ok (.iadd, 1) := by decide +kernel
theorem dL_law_1026 : decode cL_law 1026 = .ok (.iaload, 1) := by decide +kernel
theorem dL_law_1027 : decode cL_law 1027 = .ok (.invokevirtual 128, 3) := by decide +kernel
theorem dL_law_1030 : decode cL_law 1030 = .ok (.aload_n 2, 1) := by decide +kernel
theorem dL_law_1031 : decode cL_law 1031 = .ok (.aload_n 0, 1) := by decide +kernel
theorem dL_law_1032 : decode cL_law 1032 = .ok (.iload_n 3, 1) := by decide +kernel
theorem dL_law_1033 : decode cL_law 1033 = .ok (.iconst 1, 1) := by decide +kernel
theorem dL_law_1034 : decode cL_law 1034 = .ok (.iadd, 1) := by decide +kernel
theorem dL_law_1035 : decode cL_law 1035 = .ok (.iaload, 1) := by decide +kernel
theorem dL_law_1036 : decode cL_law 1036 = .ok (.aload_n 0, 1) := by decide +kernel
theorem dL_law_1037 : decode cL_law 1037 = .ok (.iload_n 3, 1) := by decide +kernel
theorem dL_law_1038 : decode cL_law 1038 = .ok (.iconst 2, 1) := by decide +kernel
theorem dL_law_1039 : decode cL_law 1039 = .ok (.iadd, 1) := by decide +kernel
theorem dL_law_1040 : decode cL_law 1040 = .ok (.iaload, 1) := by decide +kernel
theorem dL_law_1041 : decode cL_law 1041 = .ok (.invokevirtual 131, 3) := by decide +kernel
theorem dL_law_1044 : decode cL_law 1044 = .ok (.if_icmp .eq 568, 3) := by decide +kernel
theorem dL_law_1047 : decode cL_law 1047 = .ok (.iconst 0, 1) := by decide +kernel
theorem dL_law_1049 : decode cL_law 1049 = .ok (.aload_n 1, 1) := by decide +kernel
theorem dL_law_1050 : decode cL_law 1050 = .ok (.aload_n 0, 1) := by decide +kernel
theorem dL_law_1051 : decode cL_law 1051 = .ok (.iload_n 3, 1) := by decide +kernel
theorem dL_law_1052 : decode cL_law 1052 = .ok (.iconst 1, 1) := by decide +kernel
theorem dL_law_1053 : decode cL_law 1053 = .ok (.iadd, 1) := by decide +kernel
theorem dL_law_1054 : decode cL_law 1054 = .ok (.iaload, 1) := by decide +kernel
theorem dL_law_1055 : decode cL_law 1055 = .ok (.aload_n 0, 1) := by decide +kernel
theorem dL_law_1056 : decode cL_law 1056 = .ok (.iload_n 3, 1) := by decide +kernel
theorem dL_law_1057 : decode cL_law 1057 = .ok (.iconst 2, 1) := by decide +kernel
theorem dL_law_1058 : decode cL_law 1058 = .ok (.iadd, 1) := by decide +kernel
theorem dL_law_1059 : decode cL_law 1059 = .ok (.iaload, 1) := by decide +kernel
theorem dL_law_1060 : decode cL_law 1060 = .ok (.invokevirtual 132, 3) := by decide +kernel
theorem dL_law_1063 : decode cL_law 1063 = .ok (.aload_n 2, 1) := by decide +kernel
theorem dL_law_1064 : decode cL_law 1064 = .ok (.aload_n 0, 1) := by decide +kernel
theorem dL_law_1065 : decode cL_law 1065 = .ok (.iload_n 3, 1) := by decide +kernel
theorem dL_law_1066 : decode cL_law 1066 = .ok (.iconst 1, 1) := by decide +kernel
theorem dL_law_1067 : decode cL_law 1067 = .ok (.iadd, 1) := by decide +kernel
theorem dL_law_1068 : decode cL_law 1068 = .ok (.iaload, 1) := by decide +kernel
theorem dL_law_1069 : decode cL_law 1069 = .ok (.aload_n 0, 1) := by decide +kernel
theorem dL_law_1070 : decode cL_law 1070 = .ok (.iload_n 3, 1) := by decide +kernel
theorem dL_law_1071 : decode cL_law 1071 = .ok (.iconst 2, 1) := by decide +kernel
theorem dL_law_1072 : decode cL_law 1072 = .ok (.iadd, 1) := by decide +kernel
theorem dL_law_1073 : decode cL_law 1073 = .ok (.iaload, 1) := by decide +kernel
theorem dL_law_1074 : decode cL_law 1074 = .ok (.invokevirtual 135, 3) := by decide +kernel
theorem dL_law_1077 : decode cL_law 1077 = .ok (.if_icmp .eq 535, 3) := by decide +kernel
theorem dL_law_1080 : decode cL_law 1080 = .ok (.iconst 0, 1) := by decide +kernel
theorem dL_law_1082 : decode cL_law 1082 = .ok (.aload_n 1, 1) := by decide +kernel
theorem dL_law_1083 : decode cL_law 1083 = .ok (.aload_n 0, 1) := by decide +kernel
theorem dL_law_1084 : decode cL_law 1084 = .ok (.iload_n 3, 1) := by decide +kernel
theorem dL_law_1085 : decode cL_law 1085 = .ok (.iconst 1, 1) := by decide +kernel
theorem dL_law_1086 : decode cL_law 1086 = .ok (.iadd, 1) := by decide +kernel
theorem dL_law_1087 : decode cL_law 1087 = .ok (.iaload, 1) := by decide +kernel
theorem dL_law_1088 : decode cL_law 1088 = .ok (.invokevirtual 136, 3) := by decide +kernel
theorem dL_law_1091 : decode cL_law 1091 = .ok (.aload_n 2, 1) := by decide +kernel
theorem dL_law_1092 : decode cL_law 1092 = .ok (.aload_n 0, 1) := by decide +kernel
theorem dL_law_1093 : decode cL_law 1093 = .ok (.iload_n 3, 1) := by decide +kernel
theorem dL_law_1094 : decode cL_law 1094 = .ok (.iconst 1, 1) := by decide +kernel
theorem dL_law_1095 : decode cL_law 1095 = .ok (.iadd, 1) := by decide +kernel
theorem dL_law_1096 : decode cL_law 1096 = .ok (.iaload, 1) := by decide +kernel
theorem dL_law_1097 : decode cL_law 1097 = .ok (.invokevirtual 139, 3) := by decide +kernel
theorem dL_law_1100 : decode cL_law 1100 = .ok (.if_icmp .eq 512, 3) := by decide +kernel
theorem dL_law_1103 : decode cL_law 1103 = .ok (.iconst 0, 1) := by decide +kernel
theorem dL_law_1105 : decode cL_law 1105 = .ok (.aload_n 1, 1) := by decide +kernel
theorem dL_law_1106 : decode cL_law 1106 = .ok (.aload_n 0, 1) := by decide +kernel
theorem dL_law_1107 : decode cL_law 1107 = .ok (.iload_n 3, 1) := by decide +kernel
theorem dL_law_1108 : decode cL_law 1108 = .ok (.iconst 1, 1) := by decide +kernel
theorem dL_law_1109 : decode cL_law 1109 = .ok (.iadd, 1) := by decide +kernel
theorem dL_law_1110 : decode cL_law 1110 = .ok (.iaload, 1) := by decide +kernel
theorem dL_law_1111 : decode cL_law 1111 = .ok (.invokevirtual 140, 3) := by decide +kernel
theorem dL_law_1114 : decode cL_law 1114 = .ok (.aload_n 2, 1) := by decide +kernel
theorem dL_law_1115 : decode cL_law 1115 = .ok (.aload_n 0, 1) := by decide +kernel
theorem dL_law_1116 : decode cL_law 1116 = .ok (.iload_n 3, 1) := by decide +kernel
theorem dL_law_1117 : decode cL_law 1117 = .ok (.iconst 1, 1) := by decide +kernel
theorem dL_law_1118 : decode cL_law 1118 = .ok (.iadd, 1) := by decide +kernel
theorem dL_law_1119 : decode cL_law 1119 = .ok (.iaload, 1) := by decide +kernel
theorem dL_law_1120 : decode cL_law 1120 = .ok (.invokevirtual 143, 3) := by decide +kernel
theorem dL_law_1123 : decode cL_law 1123 = .ok (.if_icmp .eq 489, 3) := by decide +kernel
theorem dL_law_1126 : decode cL_law 1126 = .ok (.iconst 0, 1) := by decide +kernel
theorem dL_law_1128 : decode cL_law 1128 = .ok (.aload_n 1, 1) := by decide +kernel
theorem dL_law_1129 : decode cL_law 1129 = .ok (.aload_n 0, 1) := by decide +kernel
theorem dL_law_1130 : decode cL_law 1130 = .ok (.iload_n 3, 1) := by decide +kernel
theorem dL_law_1131 : decode cL_law 1131 = .ok (.iconst 1, 1) := by decide +kernel
theorem dL_law_1132 : decode cL_law 1132 = .ok (.iadd, 1) := by decide +kernel
theorem dL_law_1133 : decode cL_law 1133 = .ok (.iaload, 1) := by decide +kernel
theorem dL_law_1134 : decode cL_law 1134 = .ok (.aload_n 0, 1) := by decide +kernel
theorem dL_law_1135 : decode cL_law 1135 = .ok (.iload_n 3, 1) := by decide +kernel
theorem dL_law_1136 : decode cL_law 1136 = .ok (.iconst 2, 1) := by decide +kernel
theorem dL_law_1137 : decode cL_law 1137 = .ok (.iadd, 1) := by decide +kernel
theorem dL_law_1138 : decode cL_law 1138 = .ok (.iaload, 1) := by decide +kernel
theorem dL_law_1139 : decode cL_law 1139 = .ok (.invokevirtual 144, 3) := by decide +kernel
theorem dL_law_1142 : decode cL_law 1142 = .ok (.aload_n 2, 1) := by decide +kernel
theorem dL_law_1143 : decode cL_law 1143 = .ok (.aload_n 0, 1) := by decide +kernel
theorem dL_law_1144 : decode cL_law 1144 = .ok (.iload_n 3, 1) := by decide +kernel
theorem dL_law_1145 : decode cL_law 1145 = .ok (.iconst 1, 1) := by decide +kernel
theorem dL_law_1146 : decode cL_law 1146 = .ok (.iadd, 1) := by decide +kernel
theorem dL_law_1147 : decode cL_law 1147 = .ok (.iaload, 1) := by decide +kernel
theorem dL_law_1148 : decode cL_law 1148 = .ok (.aload_n 0, 1) := by decide +kernel
theorem dL_law_1149 : decode cL_law 1149 = .ok (.iload_n 3, 1) := by decide +kernel
theorem dL_law_1150 : decode cL_law 1150 = .ok (.iconst 2, 1) := by decide +kernel
theorem dL_law_1151 : decode cL_law 1151 = .ok (.iadd, 1) := by decide +kernel
theorem dL_law_1152 : decode cL_law 1152 = .ok (.iaload, 1) := by decide +kernel
theorem dL_law_1153 : decode cL_law 1153 = .ok (.invokevirtual 147, 3) := by decide +kernel
theorem dL_law_1156 : decode cL_law 1156 = .ok (.if_icmp .eq 456, 3) := by decide +kernel
theorem dL_law_1159 : decode cL_law 1159 = .ok (.iconst 0, 1) := by decide +kernel
theorem dL_law_1161 : decode cL_law 1161 = .ok (.aload_n 1, 1) := by decide +kernel
theorem dL_law_1162 : decode cL_law 1162 = .ok (.aload_n 0, 1) := by decide +kernel
theorem dL_law_1163 : decode cL_law 1163 = .ok (.iload_n 3, 1) := by decide +kernel
theorem dL_law_1164 : decode cL_law 1164 = .ok (.iconst 1, 1) := by decide +kernel
theorem dL_law_1165 : decode cL_law 1165 = .ok (.iadd, 1) := by decide +kernel
theorem dL_law_1166 : decode cL_law 1166 = .ok (.iaload, 1) := by decide +kernel
theorem dL_law_1167 : decode cL_law 1167 = .ok (.invokevirtual 148, 3) := by decide +kernel
theorem dL_law_1170 : decode cL_law 1170 = .ok (.aload_n 2, 1) := by decide +kernel
theorem dL_law_1171 : decode cL_law 1171 = .ok (.aload_n 0, 1) := by decide +kernel
theorem dL_law_1172 : decode cL_law 1172 = .ok (.iload_n 3, 1) := by decide +kernel
theorem dL_law_1173 : decode cL_law 1173 = .ok (.iconst 1, 1) := by decide +kernel
theorem dL_law_1174 : decode cL_law 1174 = .ok (.iadd, 1) := by decide +kernel
theorem dL_law_1175 : decode cL_law 1175 = .ok (.iaload, 1) := by decide +kernel
theorem dL_law_1176 : decode cL_law 1176 = .ok (.invokevirtual 151, 3) := by decide +kernel
theorem dL_law_1179 : decode cL_law 1179 = .ok (.if_icmp .eq 433, 3) := by decide +kernel
theorem dL_law_1182 : decode cL_law 1182 = .ok (.iconst 0, 1) := by decide +kernel
theorem dL_law_1184 : decode cL_law 1184 = .ok (.aload_n 1, 1) := by decide +kernel
theorem dL_law_1185 : decode cL_law 1185 = .ok (.aload_n 0, 1) := by decide +kernel
theorem dL_law_1186 : decode cL_law 1186 = .ok (.iload_n 3, 1) := by decide +kernel
theorem dL_law_1187 : decode cL_law 1187 = .ok (.iconst 1, 1) := by decide +kernel
theorem dL_law_1188 : decode cL_law 1188 = .ok (.iadd, 1) := by decide +kernel
theorem dL_law_1189 : decode cL_law 1189 = .ok (.iaload, 1) := by decide +kernel
theorem dL_law_1190 : decode cL_law 1190 = .ok (.aload_n 0, 1) := by decide +kernel
theorem dL_law_1191 : decode cL_law 1191 = .ok (.iload_n 3, 1) := by decide +kernel
theorem dL_law_1192 : decode cL_law 1192 = .ok (.iconst 2, 1) := by decide +kernel
theorem dL_law_1193 : decode cL_law 1193 = .ok (.iadd, 1) := by decide +kernel
theorem dL_law_1194 : decode cL_law 1194 = .ok (.iaload, 1) := by decide +kernel
theorem dL_law_1195 : decode cL_law 1195 = .ok (.invokevirtual 152, 3) := by decide +kernel
theorem dL_law_1198 : decode cL_law 1198 = .ok (.aload_n 2, 1) := by decide +kernel
theorem dL_law_1199 : decode cL_law 1199 = .ok (.aload_n 0, 1) := by decide +kernel
theorem dL_law_1200 : decode cL_law 1200 = .ok (.iload_n 3, 1) := by decide +kernel
theorem dL_law_1201 : decode cL_law 1201 = .ok (.iconst 1, 1) := by decide +kernel
theorem dL_law_1202 : decode cL_law 1202 = .ok (.iadd, 1) := by decide +kernel
theorem dL_law_1203 : decode cL_law 1203 = .ok (.iaload, 1) := by decide +kernel
theorem dL_law_1204 : decode cL_law 1204 = .ok (.aload_n 0, 1) := by decide +kernel
theorem dL_law_1205 : decode cL_law 1205 = .ok (.iload_n 3, 1) := by decide +kernel
theorem dL_law_1206 : decode cL_law 1206 = .ok (.iconst 2, 1) := by decide +kernel
theorem dL_law_1207 : decode cL_law 1207 = .ok (.iadd, 1) := by decide +kernel
theorem dL_law_1208 : decode cL_law 1208 = .ok (.iaload, 1) := by decide +kernel
theorem dL_law_1209 : decode cL_law 1209 = .ok (.invokevirtual 155, 3) := by decide +kernel
theorem dL_law_1212 : decode cL_law 1212 = .ok (.if_icmp .eq 400, 3) := by decide +kernel
theorem dL_law_1215 : decode cL_law 1215 = .ok (.iconst 0, 1) := by decide +kernel
theorem dL_law_1217 : decode cL_law 1217 = .ok (.aload_n 1, 1) := by decide +kernel
theorem dL_law_1218 : decode cL_law 1218 = .ok (.aload_n 0, 1) := by decide +kernel
theorem dL_law_1219 : decode cL_law 1219 = .ok (.iload_n 3, 1) := by decide +kernel
theorem dL_law_1220 : decode cL_law 1220 = .ok (.iconst 1, 1) := by decide +kernel
theorem dL_law_1221 : decode cL_law 1221 = .ok (.iadd, 1) := by decide +kernel
theorem dL_law_1222 : decode cL_law 1222 = .ok (.iaload, 1) := by decide +kernel
theorem dL_law_1223 : decode cL_law 1223 = .ok (.aload_n 0, 1) := by decide +kernel
theorem dL_law_1224 : decode cL_law 1224 = .ok (.iload_n 3, 1) := by decide +kernel
theorem dL_law_1225 : decode cL_law 1225 = .ok (.iconst 2, 1) := by decide +kernel
theorem dL_law_1226 : decode cL_law 1226 = .ok (.iadd, 1) := by decide +kernel
theorem dL_law_1227 : decode cL_law 1227 = .ok (.iaload, 1) := by decide +kernel
theorem dL_law_1228 : decode cL_law 1228 = .ok (.invokevirtual 156, 3) := by decide +kernel
theorem dL_law_1231 : decode cL_law 1231 = .ok (.aload_n 2, 1) := by decide +kernel
theorem dL_law_1232 : decode cL_law 1232 = .ok (.aload_n 0, 1) := by decide +kernel
theorem dL_law_1233 : decode cL_law 1233 = .ok (.iload_n 3, 1) := by decide +kernel
theorem dL_law_1234 : decode cL_law 1234 = .ok (.iconst 1, 1) := by decide +kernel
theorem dL_law_1235 : decode cL_law 1235 = .ok (.iadd, 1) := by decide +kernel
theorem dL_law_1236 : decode cL_law 1236 = .ok (.iaload, 1) := by decide +kernel
theorem dL_law_1237 : decode cL_law 1237 = .ok (.aload_n 0, 1) := by decide +kernel
theorem dL_law_1238 : decode cL_law 1238 = .ok (.iload_n 3, 1) := by decide +kernel
theorem dL_law_1239 : decode cL_law 1239 = .ok (.iconst 2, 1) := by decide +kernel
theorem dL_law_1240 : decode cL_law 1240 = .ok (.iadd, 1) := by decide +kernel
theorem dL_law_1241 : decode cL_law 1241 = .ok (.iaload, 1) := by decide +kernel
theorem dL_law_1242 : decode cL_law 1242 = .ok (.invokevirtual 160, 3) := by decide +kernel
theorem dL_law_1245 : decode cL_law 1245 = .ok (.lcmp, 1) := by decide +kernel
theorem dL_law_1246 : decode cL_law 1246 = .ok (.ifCond .eq 366, 3) := by decide +kernel
theorem dL_law_1249 : decode cL_law 1249 = .ok (.iconst 0, 1) := by decide +kernel
theorem dL_law_1251 : decode cL_law 1251 = .ok (.aload_n 1, 1) := by decide +kernel
theorem dL_law_1252 : decode cL_law 1252 = .ok (.aload_n 0, 1) := by decide +kernel
theorem dL_law_1253 : decode cL_law 1253 = .ok (.iload_n 3, 1) := by decide +kernel
theorem dL_law_1254 : decode cL_law 1254 = .ok (.iconst 1, 1) := by decide +kernel
theorem dL_law_1255 : decode cL_law 1255 = .ok (.iadd, 1) := by decide +kernel
theorem dL_law_1256 : decode cL_law 1256 = .ok (.iaload, 1) := by decide +kernel
theorem dL_law_1257 : decode cL_law 1257 = .ok (.aload_n 0, 1) := by decide +kernel
theorem dL_law_1258 : decode cL_law 1258 = .ok (.iload_n 3, 1) := by decide +kernel
theorem dL_law_1259 : decode cL_law 1259 = .ok (.iconst 2, 1) := by decide +kernel
theorem dL_law_1260 : decode cL_law 1260 = .ok (.iadd, 1) := by decide +kernel
theorem dL_law_1261 : decode cL_law 1261 = .ok (.iaload, 1) := by decide +kernel
theorem dL_law_1262 : decode cL_law 1262 = .ok (.invokevirtual 161, 3) := by decide +kernel
theorem dL_law_1265 : decode cL_law 1265 = .ok (.aload_n 2, 1) := by decide +kernel
theorem dL_law_1266 : decode cL_law 1266 = .ok (.aload_n 0, 1) := by decide +kernel
theorem dL_law_1267 : decode cL_law 1267 = .ok (.iload_n 3, 1) := by decide +kernel
theorem dL_law_1268 : decode cL_law 1268 = .ok (.iconst 1, 1) := by decide +kernel
theorem dL_law_1269 : decode cL_law 1269 = .ok (.iadd, 1) := by decide +kernel
theorem dL_law_1270 : decode cL_law 1270 = .ok (.iaload, 1) := by decide +kernel
theorem dL_law_1271 : decode cL_law 1271 = .ok (.aload_n 0, 1) := by decide +kernel
theorem dL_law_1272 : decode cL_law 1272 = .ok (.iload_n 3, 1) := by decide +kernel
theorem dL_law_1273 : decode cL_law 1273 = .ok (.iconst 2, 1) := by decide +kernel
theorem dL_law_1274 : decode cL_law 1274 = .ok (.iadd, 1) := by decide +kernel
theorem dL_law_1275 : decode cL_law 1275 = .ok (.iaload, 1) := by decide +kernel
theorem dL_law_1276 : decode cL_law 1276 = .ok (.invokevirtual 164, 3) := by decide +kernel
theorem dL_law_1279 : decode cL_law 1279 = .ok (.if_icmp .eq 333, 3) := by decide +kernel
theorem dL_law_1282 : decode cL_law 1282 = .ok (.iconst 0, 1) := by decide +kernel
theorem dL_law_1284 : decode cL_law 1284 = .ok (.aload_n 1, 1) := by decide +kernel
theorem dL_law_1285 : decode cL_law 1285 = .ok (.aload_n 0, 1) := by decide +kernel
theorem dL_law_1286 : decode cL_law 1286 = .ok (.iload_n 3, 1) := by decide +kernel
theorem dL_law_1287 : decode cL_law 1287 = .ok (.iconst 1, 1) := by decide +kernel
theorem dL_law_1288 : decode cL_law 1288 = .ok (.iadd, 1) := by decide +kernel
theorem dL_law_1289 : decode cL_law 1289 = .ok (.iaload, 1) := by decide +kernel
theorem dL_law_1290 : decode cL_law 1290 = .ok (.aload_n 0, 1) := by decide +kernel
theorem dL_law_1291 : decode cL_law 1291 = .ok (.iload_n 3, 1) := by decide +kernel
theorem dL_law_1292 : decode cL_law 1292 = .ok (.iconst 2, 1) := by decide +kernel
theorem dL_law_1293 : decode cL_law 1293 = .ok (.iadd, 1) := by decide +kernel
theorem dL_law_1294 : decode cL_law 1294 = .ok (.iaload, 1) := by decide +kernel
theorem dL_law_1295 : decode cL_law 1295 = .ok (.invokevirtual 165, 3) := by decide +kernel
theorem dL_law_1298 : decode cL_law 1298 = .ok (.aload_n 2, 1) := by decide +kernel
theorem dL_law_1299 : decode cL_law 1299 = .ok (.aload_n 0, 1) := by decide +kernel
theorem dL_law_1300 : decode cL_law 1300 = .ok (.iload_n 3, 1) := by decide +kernel
theorem dL_law_1301 : decode cL_law 1301 = .ok (.iconst 1, 1) := by decide +kernel
theorem dL_law_1302 : decode cL_law 1302 = .ok (.iadd, 1) := by decide +kernel
theorem dL_law_1303 : decode cL_law 1303 = .ok (.iaload, 1) := by decide +kernel
theorem dL_law_1304 : decode cL_law 1304 = .ok (.aload_n 0, 1) := by decide +kernel
theorem dL_law_1305 : decode cL_law 1305 = .ok (.iload_n 3, 1) := by decide +kernel
theorem dL_law_1306 : decode cL_law 1306 = .ok (.iconst 2, 1) := by decide +kernel
theorem dL_law_1307 : decode cL_law 1307 = .ok (.iadd, 1) := by decide +kernel
theorem dL_law_1308 : decode cL_law 1308 = .ok (.iaload, 1) := by decide +kernel
theorem dL_law_1309 : decode cL_law 1309 = .ok (.invokevirtual 168, 3) := by decide +kernel
theorem dL_law_1312 : decode cL_law 1312 = .ok (.if_icmp .eq 300, 3) := by decide +kernel
theorem dL_law_1315 : decode cL_law 1315 = .ok (.iconst 0, 1) := by decide +kernel
theorem dL_law_1317 : decode cL_law 1317 = .ok (.aload_n 1, 1) := by decide +kernel
theorem dL_law_1318 : decode cL_law 1318 = .ok (.aload_n 0, 1) := by decide +kernel
theorem dL_law_1319 : decode cL_law 1319 = .ok (.iload_n 3, 1) := by decide +kernel
theorem dL_law_1320 : decode cL_law 1320 = .ok (.iconst 1, 1) := by decide +kernel
theorem dL_law_1321 : decode cL_law 1321 = .ok (.iadd, 1) := by decide +kernel
theorem dL_law_1322 : decode cL_law 1322 = .ok (.iaload, 1) := by decide +kernel
theorem dL_law_1323 : decode cL_law 1323 = .ok (.aload_n 0, 1) := by decide +kernel
theorem dL_law_1324 : decode cL_law 1324 = .ok (.iload_n 3, 1) := by decide +kernel
theorem dL_law_1325 : decode cL_law 1325 = .ok (.iconst 2, 1) := by decide +kernel
theorem dL_law_1326 : decode cL_law 1326 = .ok (.iadd, 1) := by decide +kernel
theorem dL_law_1327 : decode cL_law 1327 = .ok (.iaload, 1) := by decide +kernel
theorem dL_law_1328 : decode cL_law 1328 = .ok (.aload_n 0, 1) := by decide +kernel
theorem dL_law_1329 : decode cL_law 1329 = .ok (.iload_n 3, 1) := by decide +kernel
theorem dL_law_1330 : decode cL_law 1330 = .ok (.iconst 3, 1) := by decide +kernel
theorem dL_law_1331 : decode cL_law 1331 = .ok (.iadd, 1) := by decide +kernel
theorem dL_law_1332 : decode cL_law 1332 = .ok (.iaload, 1) := by decide +kernel
theorem dL_law_1333 : decode cL_law 1333 = .ok (.invokevirtual 169, 3) := by decide +kernel
theorem dL_law_1336 : decode cL_law 1336 = .ok (.aload_n 2, 1) := by decide +kernel
theorem dL_law_1337 : decode cL_law 1337 = .ok (.aload_n 0, 1) := by decide +kernel
theorem dL_law_1338 : decode cL_law 1338 = .ok (.iload_n 3, 1) := by decide +kernel
theorem dL_law_1339 : decode cL_law 1339 = .ok (.iconst 1, 1) := by decide +kernel
theorem dL_law_1340 : decode cL_law 1340 = .ok (.iadd, 1) := by decide +kernel
theorem dL_law_1341 : decode cL_law 1341 = .ok (.iaload, 1) := by decide +kernel
theorem dL_law_1342 : decode cL_law 1342 = .ok (.aload_n 0, 1) := by decide +kernel
theorem dL_law_1343 : decode cL_law 1343 = .ok (.iload_n 3, 1) := by decide +kernel
theorem dL_law_1344 : decode cL_law 1344 = .ok (.iconst 2, 1) := by decide +kernel
theorem dL_law_1345 : decode cL_law 1345 = .ok (.iadd, 1) := by decide +kernel
theorem dL_law_1346 : decode cL_law 1346 = .ok (.iaload, 1) := by decide +kernel
theorem dL_law_1347 : decode cL_law 1347 = .ok (.aload_n 0, 1) := by decide +kernel
theorem dL_law_1348 : decode cL_law 1348 = .ok (.iload_n 3, 1) := by decide +kernel
theorem dL_law_1349 : decode cL_law 1349 = .ok (.iconst 3, 1) := by decide +kernel
theorem dL_law_1350 : decode cL_law 1350 = .ok (.iadd, 1) := by decide +kernel
theorem dL_law_1351 : decode cL_law 1351 = .ok (.iaload, 1) := by decide +kernel
theorem dL_law_1352 : decode cL_law 1352 = .ok (.invokevirtual 173, 3) := by decide +kernel
theorem dL_law_1355 : decode cL_law 1355 = .ok (.if_icmp .eq 257, 3) := by decide +kernel
theorem dL_law_1358 : decode cL_law 1358 = .ok (.iconst 0, 1) := by decide +kernel
theorem dL_law_1360 : decode cL_law 1360 = .ok (.aload_n 1, 1) := by decide +kernel
theorem dL_law_1361 : decode cL_law 1361 = .ok (.aload_n 0, 1) := by decide +kernel
theorem dL_law_1362 : decode cL_law 1362 = .ok (.iload_n 3, 1) := by decide +kernel
theorem dL_law_1363 : decode cL_law 1363 = .ok (.iconst 1, 1) := by decide +kernel
theorem dL_law_1364 : decode cL_law 1364 = .ok (.iadd, 1) := by decide +kernel
theorem dL_law_1365 : decode cL_law 1365 = .ok (.iaload, 1) := by decide +kernel
theorem dL_law_1366 : decode cL_law 1366 = .ok (.aload_n 0, 1) := by decide +kernel
theorem dL_law_1367 : decode cL_law 1367 = .ok (.iload_n 3, 1) := by decide +kernel
theorem dL_law_1368 : decode cL_law 1368 = .ok (.iconst 2, 1) := by decide +kernel
theorem dL_law_1369 : decode cL_law 1369 = .ok (.iadd, 1) := by decide +kernel
theorem dL_law_1370 : decode cL_law 1370 = .ok (.iaload, 1) := by decide +kernel
theorem dL_law_1371 : decode cL_law 1371 = .ok (.invokevirtual 174, 3) := by decide +kernel
theorem dL_law_1374 : decode cL_law 1374 = .ok (.aload_n 2, 1) := by decide +kernel
theorem dL_law_1375 : decode cL_law 1375 = .ok (.aload_n 0, 1) := by decide +kernel
theorem dL_law_1376 : decode cL_law 1376 = .ok (.iload_n 3, 1) := by decide +kernel
theorem dL_law_1377 : decode cL_law 1377 = .ok (.iconst 1, 1) := by decide +kernel
theorem dL_law_1378 : decode cL_law 1378 = .ok (.iadd, 1) := by decide +kernel
theorem dL_law_1379 : decode cL_law 1379 = .ok (.iaload, 1) := by decide +kernel
theorem dL_law_1380 : decode cL_law 1380 = .ok (.aload_n 0, 1) := by decide +kernel
theorem dL_law_1381 : decode cL_law 1381 = .ok (.iload_n 3, 1) := by decide +kernel
theorem dL_law_1382 : decode cL_law 1382 = .ok (.iconst 2, 1) := by decide +kernel
theorem dL_law_1383 : decode cL_law 1383 = .ok (.iadd, 1) := by decide +kernel
theorem dL_law_1384 : decode cL_law 1384 = .ok (.iaload, 1) := by decide +kernel
theorem dL_law_1385 : decode cL_law 1385 = .ok (.invokevirtual 177, 3) := by decide +kernel
theorem dL_law_1388 : decode cL_law 1388 = .ok (.if_icmp .eq 224, 3) := by decide +kernel
theorem dL_law_1391 : decode cL_law 1391 = .ok (.iconst 0, 1) := by decide +kernel
theorem dL_law_1393 : decode cL_law 1393 = .ok (.aload_n 1, 1) := by decide +kernel
theorem dL_law_1394 : decode cL_law 1394 = .ok (.aload_n 0, 1) := by decide +kernel
theorem dL_law_1395 : decode cL_law 1395 = .ok (.iload_n 3, 1) := by decide +kernel
theorem dL_law_1396 : decode cL_law 1396 = .ok (.iconst 1, 1) := by decide +kernel
theorem dL_law_1397 : decode cL_law 1397 = .ok (.iadd, 1) := by decide +kernel
theorem dL_law_1398 : decode cL_law 1398 = .ok (.iaload, 1) := by decide +kernel
theorem dL_law_1399 : decode cL_law 1399 = .ok (.aload_n 0, 1) := by decide +kernel
theorem dL_law_1400 : decode cL_law 1400 = .ok (.iload_n 3, 1) := by decide +kernel
theorem dL_law_1401 : decode cL_law 1401 = .ok (.iconst 2, 1) := by decide +kernel
theorem dL_law_1402 : decode cL_law 1402 = .ok (.iadd, 1) := by decide +kernel
theorem dL_law_1403 : decode cL_law 1403 = .ok (.iaload, 1) := by decide +kernel
theorem dL_law_1404 : decode cL_law 1404 = .ok (.aload_n 0, 1) := by decide +kernel
theorem dL_law_1405 : decode cL_law 1405 = .ok (.iload_n 3, 1) := by decide +kernel
theorem dL_law_1406 : decode cL_law 1406 = .ok (.iconst 3, 1) := by decide +kernel
theorem dL_law_1407 : decode cL_law 1407 = .ok (.iadd, 1) := by decide +kernel
theorem dL_law_1408 : decode cL_law 1408 = .ok (.iaload, 1) := by decide +kernel
theorem dL_law_1409 : decode cL_law 1409 = .ok (.invokevirtual 178, 3) := by decide +kernel
theorem dL_law_1412 : decode cL_law 1412 = .ok (.aload_n 2, 1) := by decide +kernel
theorem dL_law_1413 : decode cL_law 1413 = .ok (.aload_n 0, 1) := by decide +kernel
theorem dL_law_1414 : decode cL_law 1414 = .ok (.iload_n 3, 1) := by decide +kernel
theorem dL_law_1415 : decode cL_law 1415 = .ok (.iconst 1, 1) := by decide +kernel
theorem dL_law_1416 : decode cL_law 1416 = .ok (.iadd, 1) := by decide +kernel
theorem dL_law_1417 : decode cL_law 1417 = .ok (.iaload, 1) := by decide +kernel
theorem dL_law_1418 : decode cL_law 1418 = .ok (.aload_n 0, 1) := by decide +kernel
theorem dL_law_1419 : decode cL_law 1419 = .ok (.iload_n 3, 1) := by decide +kernel
theorem dL_law_1420 : decode cL_law 1420 = .ok (.iconst 2, 1) := by decide +kernel
theorem dL_law_1421 : decode cL_law 1421 = .ok (.iadd, 1) := by decide +kernel
theorem dL_law_1422 : decode cL_law 1422 = .ok (.iaload, 1) := by decide +kernel
theorem dL_law_1423 : decode cL_law 1423 = .ok (.aload_n 0, 1) := by decide +kernel
theorem dL_law_1424 : decode cL_law 1424 = .ok (.iload_n 3, 1) := by decide +kernel
theorem dL_law_1425 : decode cL_law 1425 = .ok (.iconst 3, 1) := by decide +kernel
theorem dL_law_1426 : decode cL_law 1426 = .ok (.iadd, 1) := by decide +kernel
theorem dL_law_1427 : decode cL_law 1427 = .ok (.iaload, 1) := by decide +kernel
theorem dL_law_1428 : decode cL_law 1428 = .ok (.invokevirtual 181, 3) := by decide +kernel
theorem dL_law_1431 : decode cL_law 1431 = .ok (.if_icmp .eq 181, 3) := by decide +kernel
theorem dL_law_1434 : decode cL_law 1434 = .ok (.iconst 0, 1) := by decide +kernel
theorem dL_law_1436 : decode cL_law 1436 = .ok (.aload_n 1, 1) := by decide +kernel
theorem dL_law_1437 : decode cL_law 1437 = .ok (.aload_n 0, 1) := by decide +kernel
theorem dL_law_1438 : decode cL_law 1438 = .ok (.iload_n 3, 1) := by decide +kernel
theorem dL_law_1439 : decode cL_law 1439 = .ok (.iconst 1, 1) := by decide +kernel
theorem dL_law_1440 : decode cL_law 1440 = .ok (.iadd, 1) := by decide +kernel
theorem dL_law_1441 : decode cL_law 1441 = .ok (.iaload, 1) := by decide +kernel
theorem dL_law_1442 : decode cL_law 1442 = .ok (.aload_n 0, 1) := by decide +kernel
theorem dL_law_1443 : decode cL_law 1443 = .ok (.iload_n 3, 1) := by decide +kernel
theorem dL_law_1444 : decode cL_law 1444 = .ok (.iconst 2, 1) := by decide +kernel
theorem dL_law_1445 : decode cL_law 1445 = .ok (.iadd, 1) := by decide +kernel
theorem dL_law_1446 : decode cL_law 1446 = .ok (.iaload, 1) := by decide +kernel
theorem dL_law_1447 : decode cL_law 1447 = .ok (.aload_n 0, 1) := by decide +kernel
theorem dL_law_1448 : decode cL_law 1448 = .ok (.iload_n 3, 1) := by decide +kernel
theorem dL_law_1449 : decode cL_law 1449 = .ok (.iconst 3, 1) := by decide +kernel
theorem dL_law_1450 : decode cL_law 1450 = .ok (.iadd, 1) := by decide +kernel
theorem dL_law_1451 : decode cL_law 1451 = .ok (.iaload, 1) := by decide +kernel
theorem dL_law_1452 : decode cL_law 1452 = .ok (.i2l, 1) := by decide +kernel
theorem dL_law_1453 : decode cL_law 1453 = .ok (.bipush 32, 2) := by decide +kernel
theorem dL_law_1455 : decode cL_law 1455 = .ok (.lshl, 1) := by decide +kernel
theorem dL_law_1456 : decode cL_law 1456 = .ok (.aload_n 0, 1) := by decide +kernel
theorem dL_law_1457 : decode cL_law 1457 = .ok (.iload_n 3, 1) := by decide +kernel
theorem dL_law_1458 : decode cL_law 1458 = .ok (.iconst 4, 1) := by decide +kernel
theorem dL_law_1459 : decode cL_law 1459 = .ok (.iadd, 1) := by decide +kernel
theorem dL_law_1460 : decode cL_law 1460 = .ok (.iaload, 1) := by decide +kernel
theorem dL_law_1461 : decode cL_law 1461 = .ok (.i2l, 1) := by decide +kernel
theorem dL_law_1462 : decode cL_law 1462 = .ok (.ldc2_w 182, 3) := by decide +kernel
theorem dL_law_1465 : decode cL_law 1465 = .ok (.land, 1) := by decide +kernel
theorem dL_law_1466 : decode cL_law 1466 = .ok (.lor, 1) := by decide +kernel
theorem dL_law_1467 : decode cL_law 1467 = .ok (.invokevirtual 184, 3) := by decide +kernel
theorem dL_law_1470 : decode cL_law 1470 = .ok (.aload_n 2, 1) := by decide +kernel
theorem dL_law_1471 : decode cL_law 1471 = .ok (.aload_n 0, 1) := by decide +kernel
theorem dL_law_1472 : decode cL_law 1472 = .ok (.iload_n 3, 1) := by decide +kernel
theorem dL_law_1473 : decode cL_law 1473 = .ok (.iconst 1, 1) := by decide +kernel
theorem dL_law_1474 : decode cL_law 1474 = .ok (.iadd, 1) := by decide +kernel
theorem dL_law_1475 : decode cL_law 1475 = .ok (.iaload, 1) := by decide +kernel
theorem dL_law_1476 : decode cL_law 1476 = .ok (.aload_n 0, 1) := by decide +kernel
theorem dL_law_1477 : decode cL_law 1477 = .ok (.iload_n 3, 1) := by decide +kernel
theorem dL_law_1478 : decode cL_law 1478 = .ok (.iconst 2, 1) := by decide +kernel
theorem dL_law_1479 : decode cL_law 1479 = .ok (.iadd, 1) := by decide +kernel
theorem dL_law_1480 : decode cL_law 1480 = .ok (.iaload, 1) := by decide +kernel
theorem dL_law_1481 : decode cL_law 1481 = .ok (.aload_n 0, 1) := by decide +kernel
theorem dL_law_1482 : decode cL_law 1482 = .ok (.iload_n 3, 1) := by decide +kernel
theorem dL_law_1483 : decode cL_law 1483 = .ok (.iconst 3, 1) := by decide +kernel
theorem dL_law_1484 : decode cL_law 1484 = .ok (.iadd, 1) := by decide +kernel
theorem dL_law_1485 : decode cL_law 1485 = .ok (.iaload, 1) := by decide +kernel
theorem dL_law_1486 : decode cL_law 1486 = .ok (.i2l, 1) := by decide +kernel
theorem dL_law_1487 : decode cL_law 1487 = .ok (.bipush 32, 2) := by decide +kernel
theorem dL_law_1489 : decode cL_law 1489 = .ok (.lshl, 1) := by decide +kernel
theorem dL_law_1490 : decode cL_law 1490 = .ok (.aload_n 0, 1) := by decide +kernel
theorem dL_law_1491 : decode cL_law 1491 = .ok (.iload_n 3, 1) := by decide +kernel
theorem dL_law_1492 : decode cL_law 1492 = .ok (.iconst 4, 1) := by decide +kernel
theorem dL_law_1493 : decode cL_law 1493 = .ok (.iadd, 1) := by decide +kernel
theorem dL_law_1494 : decode cL_law 1494 = .ok (.iaload, 1) := by decide +kernel
theorem dL_law_1495 : decode cL_law 1495 = .ok (.i2l, 1) := by decide +kernel
theorem dL_law_1496 : decode cL_law 1496 = .ok (.ldc2_w 182, 3) := by decide +kernel
theorem dL_law_1499 : decode cL_law 1499 = .ok (.land, 1) := by decide +kernel
theorem dL_law_1500 : decode cL_law 1500 = .ok (.lor, 1) := by decide +kernel
theorem dL_law_1501 : decode cL_law 1501 = .ok (.invokevirtual 188, 3) := by decide +kernel
theorem dL_law_1504 : decode cL_law 1504 = .ok (.lcmp, 1) := by decide +kernel
theorem dL_law_1505 : decode cL_law 1505 = .ok (.ifCond .eq 107, 3) := by decide +kernel
theorem dL_law_1508 : decode cL_law 1508 = .ok (.iconst 0, 1) := by decide +kernel
theorem dL_law_1510 : decode cL_law 1510 = .ok (.aload_n 1, 1) := by decide +kernel
theorem dL_law_1511 : decode cL_law 1511 = .ok (.aload_n 0, 1) := by decide +kernel
theorem dL_law_1512 : decode cL_law 1512 = .ok (.iload_n 3, 1) := by decide +kernel
theorem dL_law_1513 : decode cL_law 1513 = .ok (.iconst 1, 1) := by decide +kernel
theorem dL_law_1514 : decode cL_law 1514 = .ok (.iadd, 1) := by decide +kernel
theorem dL_law_1515 : decode cL_law 1515 = .ok (.iaload, 1) := by decide +kernel
theorem dL_law_1516 : decode cL_law 1516 = .ok (.aload_n 0, 1) := by decide +kernel
theorem dL_law_1517 : decode cL_law 1517 = .ok (.iload_n 3, 1) := by decide +kernel
theorem dL_law_1518 : decode cL_law 1518 = .ok (.iconst 2, 1) := by decide +kernel
theorem dL_law_1519 : decode cL_law 1519 = .ok (.iadd, 1) := by decide +kernel
theorem dL_law_1520 : decode cL_law 1520 = .ok (.iaload, 1) := by decide +kernel
theorem dL_law_1521 : decode cL_law 1521 = .ok (.invokevirtual 189, 3) := by decide +kernel
theorem dL_law_1524 : decode cL_law 1524 = .ok (.aload_n 2, 1) := by decide +kernel
theorem dL_law_1525 : decode cL_law 1525 = .ok (.aload_n 0, 1) := by decide +kernel
theorem dL_law_1526 : decode cL_law 1526 = .ok (.iload_n 3, 1) := by decide +kernel
theorem dL_law_1527 : decode cL_law 1527 = .ok (.iconst 1, 1) := by decide +kernel
theorem dL_law_1528 : decode cL_law 1528 = .ok (.iadd, 1) := by decide +kernel
theorem dL_law_1529 : decode cL_law 1529 = .ok (.iaload, 1) := by decide +kernel
theorem dL_law_1530 : decode cL_law 1530 = .ok (.aload_n 0, 1) := by decide +kernel
theorem dL_law_1531 : decode cL_law 1531 = .ok (.iload_n 3, 1) := by decide +kernel
theorem dL_law_1532 : decode cL_law 1532 = .ok (.iconst 2, 1) := by decide +kernel
theorem dL_law_1533 : decode cL_law 1533 = .ok (.iadd, 1) := by decide +kernel
theorem dL_law_1534 : decode cL_law 1534 = .ok (.iaload, 1) := by decide +kernel
theorem dL_law_1535 : decode cL_law 1535 = .ok (.invokevirtual 192, 3) := by decide +kernel
theorem dL_law_1538 : decode cL_law 1538 = .ok (.if_icmp .eq 74, 3) := by decide +kernel
theorem dL_law_1541 : decode cL_law 1541 = .ok (.iconst 0, 1) := by decide +kernel
theorem dL_law_1543 : decode cL_law 1543 = .ok (.aload_n 1, 1) := by decide +kernel
theorem dL_law_1544 : decode cL_law 1544 = .ok (.aload_n 0, 1) := by decide +kernel
theorem dL_law_1545 : decode cL_law 1545 = .ok (.iload_n 3, 1) := by decide +kernel
theorem dL_law_1546 : decode cL_law 1546 = .ok (.iconst 1, 1) := by decide +kernel
theorem dL_law_1547 : decode cL_law 1547 = .ok (.iadd, 1) := by decide +kernel
theorem dL_law_1548 : decode cL_law 1548 = .ok (.iaload, 1) := by decide +kernel
theorem dL_law_1549 : decode cL_law 1549 = .ok (.invokevirtual 193, 3) := by decide +kernel
theorem dL_law_1552 : decode cL_law 1552 = .ok (.aload_n 2, 1) := by decide +kernel
theorem dL_law_1553 : decode cL_law 1553 = .ok (.aload_n 0, 1) := by decide +kernel
theorem dL_law_1554 : decode cL_law 1554 = .ok (.iload_n 3, 1) := by decide +kernel
theorem dL_law_1555 : decode cL_law 1555 = .ok (.iconst 1, 1) := by decide +kernel
theorem dL_law_1556 : decode cL_law 1556 = .ok (.iadd, 1) := by decide +kernel
theorem dL_law_1557 : decode cL_law 1557 = .ok (.iaload, 1) := by decide +kernel
theorem dL_law_1558 : decode cL_law 1558 = .ok (.invokevirtual 196, 3) := by decide +kernel
theorem dL_law_1561 : decode cL_law 1561 = .ok (.if_icmp .eq 51, 3) := by decide +kernel
theorem dL_law_1564 : decode cL_law 1564 = .ok (.iconst 0, 1) := by decide +kernel
theorem dL_law_1566 : decode cL_law 1566 = .ok (.aload_n 1, 1) := by decide +kernel
theorem dL_law_1567 : decode cL_law 1567 = .ok (.aload_n 0, 1) := by decide +kernel
theorem dL_law_1568 : decode cL_law 1568 = .ok (.iload_n 3, 1) := by decide +kernel
theorem dL_law_1569 : decode cL_law 1569 = .ok (.iconst 1, 1) := by decide +kernel
theorem dL_law_1570 : decode cL_law 1570 = .ok (.iadd, 1) := by decide +kernel
theorem dL_law_1571 : decode cL_law 1571 = .ok (.iaload, 1) := by decide +kernel
theorem dL_law_1572 : decode cL_law 1572 = .ok (.invokevirtual 197, 3) := by decide +kernel
theorem dL_law_1575 : decode cL_law 1575 = .ok (.aload_n 2, 1) := by decide +kernel
theorem dL_law_1576 : decode cL_law 1576 = .ok (.aload_n 0, 1) := by decide +kernel
theorem dL_law_1577 : decode cL_law 1577 = .ok (.iload_n 3, 1) := by decide +kernel
theorem dL_law_1578 : decode cL_law 1578 = .ok (.iconst 1, 1) := by decide +kernel
theorem dL_law_1579 : decode cL_law 1579 = .ok (.iadd, 1) := by decide +kernel
theorem dL_law_1580 : decode cL_law 1580 = .ok (.iaload, 1) := by decide +kernel
theorem dL_law_1581 : decode cL_law 1581 = .ok (.invokevirtual 200, 3) := by decide +kernel
theorem dL_law_1584 : decode cL_law 1584 = .ok (.if_icmp .eq 28, 3) := by decide +kernel
theorem dL_law_1587 : decode cL_law 1587 = .ok (.iconst 0, 1) := by decide +kernel
theorem dL_law_1589 : decode cL_law 1589 = .ok (.aload_n 1, 1) := by decide +kernel
theorem dL_law_1590 : decode cL_law 1590 = .ok (.aload_n 0, 1) := by decide +kernel
theorem dL_law_1591 : decode cL_law 1591 = .ok (.iload_n 3, 1) := by decide +kernel
theorem dL_law_1592 : decode cL_law 1592 = .ok (.iconst 1, 1) := by decide +kernel
theorem dL_law_1593 : decode cL_law 1593 = .ok (.iadd, 1) := by decide +kernel
theorem dL_law_1594 : decode cL_law 1594 = .ok (.iaload, 1) := by decide +kernel
theorem dL_law_1595 : decode cL_law 1595 = .ok (.invokevirtual 201, 3) := by decide +kernel
theorem dL_law_1598 : decode cL_law 1598 = .ok (.aload_n 2, 1) := by decide +kernel
theorem dL_law_1599 : decode cL_law 1599 = .ok (.aload_n 0, 1) := by decide +kernel
theorem dL_law_1600 : decode cL_law 1600 = .ok (.iload_n 3, 1) := by decide +kernel
theorem dL_law_1601 : decode cL_law 1601 = .ok (.iconst 1, 1) := by decide +kernel
theorem dL_law_1602 : decode cL_law 1602 = .ok (.iadd, 1) := by decide +kernel
theorem dL_law_1603 : decode cL_law 1603 = .ok (.iaload, 1) := by decide +kernel
theorem dL_law_1604 : decode cL_law 1604 = .ok (.invokevirtual 204, 3) := by decide +kernel
theorem dL_law_1607 : decode cL_law 1607 = .ok (.if_icmp .eq 5, 3) := by decide +kernel
theorem dL_law_1610 : decode cL_law 1610 = .ok (.iconst 0, 1) := by decide +kernel
theorem dL_law_1612 : decode cL_law 1612 = .ok (.iinc 3 6, 3) := by decide +kernel
theorem dL_law_1615 : decode cL_law 1615 = .ok (.goto (-1597), 3) := by decide +kernel
theorem dL_law_1618 : decode cL_law 1618 = .ok (.iconst 1, 1) := by decide +kernel
theorem dL_law_1619 : decode cL_law 1619 = .ok (.ireturn, 1) := by decide +kernel
-- a loop of EyeTrainerLaw.law at 18
def jL_law_232 (L : Nat) (xs : Nat → Int32) (T : Sh) (M : Me) (x1 : Nat) (x2 : Nat) (x3 : Int32) : Option ((Int32 × Sh × Me) ⊕ ((Sh × Me))) :=
  gv (x3 + (1 : Int32)) L <| gv (x3 + (2 : Int32)) L <| gv (x3 + (3 : Int32)) L <| gv (x3 + (4 : Int32)) L <| gv (x3 + (5 : Int32)) L <| gd (kd T x1 = 10) <| Option.bind (fX11_feed T M x1 (xs (Int32.toNatClampNeg (x3 + (1 : Int32)))) (xs (Int32.toNatClampNeg (x3 + (2 : Int32)))) (xs (Int32.toNatClampNeg (x3 + (3 : Int32)))) (xs (Int32.toNatClampNeg (x3 + (4 : Int32)))) (xs (Int32.toNatClampNeg (x3 + (5 : Int32))))) <| un2 fun r14 M15 => gv (x3 + (1 : Int32)) L <| gv (x3 + (2 : Int32)) L <| gv (x3 + (3 : Int32)) L <| gv (x3 + (4 : Int32)) L <| gv (x3 + (5 : Int32)) L <| gd (kd T x2 = 11) <| Option.bind (fX12_feed T M15 x2 (xs (Int32.toNatClampNeg (x3 + (1 : Int32)))) (xs (Int32.toNatClampNeg (x3 + (2 : Int32)))) (xs (Int32.toNatClampNeg (x3 + (3 : Int32)))) (xs (Int32.toNatClampNeg (x3 + (4 : Int32)))) (xs (Int32.toNatClampNeg (x3 + (5 : Int32))))) <| un2 fun r22 M23 => if r14 = r22 then (lt (x3 + (6 : Int32)) fun v25 => some (.inl (v25, T, M23))) else (none)
def jL_law_304 (L : Nat) (xs : Nat → Int32) (T : Sh) (M : Me) (x1 : Nat) (x2 : Nat) (x3 : Int32) (s0 : Int32) : Option ((Int32 × Sh × Me) ⊕ ((Sh × Me))) :=
  gv (x3 + (1 : Int32)) L <| gd (kd T x2 = 11) <| Option.bind (fX12_lab T M x2 (xs (Int32.toNatClampNeg (x3 + (1 : Int32))))) <| un2 fun r33 M34 => if s0 = r33 then (lt (x3 + (6 : Int32)) fun v36 => some (.inl (v36, T, M34))) else (none)
def jL_law_295 (L : Nat) (xs : Nat → Int32) (T : Sh) (M : Me) (x1 : Nat) (x2 : Nat) (x3 : Int32) : Option ((Int32 × Sh × Me) ⊕ ((Sh × Me))) :=
  gv (x3 + (1 : Int32)) L <| gd (kd T x1 = 10) <| Option.bind (fX11_lab T M x1 (xs (Int32.toNatClampNeg (x3 + (1 : Int32))))) <| un3 fun r28 T30 M29 => jL_law_304 L xs T30 M29 x1 x2 x3 r28
def jL_law_318 (L : Nat) (xs : Nat → Int32) (T : Sh) (M : Me) (x1 : Nat) (x2 : Nat) (x3 : Int32) : Option ((Int32 × Sh × Me) ⊕ ((Sh × Me))) :=
  gv (x3 + (1 : Int32)) L <| gd (kd T x1 = 10) <| Option.bind (fX11_fault T M x1 (xs (Int32.toNatClampNeg (x3 + (1 : Int32))))) fun r39 => gv (x3 + (1 : Int32)) L <| gd (kd T x2 = 11) <| Option.bind (fX12_fault T M x2 (xs (Int32.toNatClampNeg (x3 + (1 : Int32))))) <| un2 fun r42 M43 => if r39 = r42 then (lt (x3 + (6 : Int32)) fun v45 => some (.inl (v45, T, M43))) else (none)
def jL_law_341 (L : Nat) (xs : Nat → Int32) (T : Sh) (M : Me) (x1 : Nat) (x2 : Nat) (x3 : Int32) : Option ((Int32 × Sh × Me) ⊕ ((Sh × Me))) :=
  gv (x3 + (1 : Int32)) L <| gv (x3 + (2 : Int32)) L <| gd (kd T x1 = 10) <| Option.bind (fX11_lane T M x1 (xs (Int32.toNatClampNeg (x3 + (1 : Int32)))) (xs (Int32.toNatClampNeg (x3 + (2 : Int32))))) <| un2 fun r49 M50 => gv (x3 + (1 : Int32)) L <| gv (x3 + (2 : Int32)) L <| gd (kd T x2 = 11) <| Option.bind (fX12_lane T M50 x2 (xs (Int32.toNatClampNeg (x3 + (1 : Int32)))) (xs (Int32.toNatClampNeg (x3 + (2 : Int32))))) <| un2 fun r54 M55 => if r49 = r54 then (lt (x3 + (6 : Int32)) fun v57 => some (.inl (v57, T, M55))) else (none)
def jL_law_374 (L : Nat) (xs : Nat → Int32) (T : Sh) (M : Me) (x1 : Nat) (x2 : Nat) (x3 : Int32) : Option ((Int32 × Sh × Me) ⊕ ((Sh × Me))) :=
  gv (x3 + (1 : Int32)) L <| gd (kd T x1 = 10) <| Option.bind (fX11_stress T M x1 (xs (Int32.toNatClampNeg (x3 + (1 : Int32))))) fun r60 => gv (x3 + (1 : Int32)) L <| gd (kd T x2 = 11) <| Option.bind (fX12_stress T M x2 (xs (Int32.toNatClampNeg (x3 + (1 : Int32))))) <| un2 fun r63 M64 => if r60 = r63 then (lt (x3 + (6 : Int32)) fun v66 => some (.inl (v66, T, M64))) else (none)
def jL_law_397 (L : Nat) (xs : Nat → Int32) (T : Sh) (M : Me) (x1 : Nat) (x2 : Nat) (x3 : Int32) : Option ((Int32 × Sh × Me) ⊕ ((Sh × Me))) :=
  gv (x3 + (1 : Int32)) L <| gd (kd T x1 = 10) <| Option.bind (fX11_drift T M x1 (xs (Int32.toNatClampNeg (x3 + (1 : Int32))))) <| un2 fun r69 M70 => gv (x3 + (1 : Int32)) L <| gd (kd T x2 = 11) <| Option.bind (fX12_drift T M70 x2 (xs (Int32.toNatClampNeg (x3 + (1 : Int32))))) <| un2 fun r73 M74 => if r69 = r73 then (lt (x3 + (6 : Int32)) fun v76 => some (.inl (v76, T, M74))) else (none)
def jL_law_420 (L : Nat) (xs : Nat → Int32) (T : Sh) (M : Me) (x1 : Nat) (x2 : Nat) (x3 : Int32) : Option ((Int32 × Sh × Me) ⊕ ((Sh × Me))) :=
  gv (x3 + (1 : Int32)) L <| gv (x3 + (2 : Int32)) L <| gd (kd T x1 = 10) <| Option.bind (fX11_passes T M x1 (xs (Int32.toNatClampNeg (x3 + (1 : Int32)))) (xs (Int32.toNatClampNeg (x3 + (2 : Int32))))) <| un2 fun r80 M81 => gv (x3 + (1 : Int32)) L <| gv (x3 + (2 : Int32)) L <| gd (kd T x2 = 11) <| Option.bind (fX12_passes T M81 x2 (xs (Int32.toNatClampNeg (x3 + (1 : Int32)))) (xs (Int32.toNatClampNeg (x3 + (2 : Int32))))) <| un2 fun r85 M86 => if r80 = r85 then (lt (x3 + (6 : Int32)) fun v88 => some (.inl (v88, T, M86))) else (none)
def jL_law_453 (L : Nat) (xs : Nat → Int32) (T : Sh) (M : Me) (x1 : Nat) (x2 : Nat) (x3 : Int32) : Option ((Int32 × Sh × Me) ⊕ ((Sh × Me))) :=
  gv (x3 + (1 : Int32)) L <| gv (x3 + (2 : Int32)) L <| gd (kd T x1 = 10) <| Option.bind (fX11_row T M x1 (xs (Int32.toNatClampNeg (x3 + (1 : Int32)))) (xs (Int32.toNatClampNeg (x3 + (2 : Int32))))) <| un2 fun r92 M93 => gv (x3 + (1 : Int32)) L <| gv (x3 + (2 : Int32)) L <| gd (kd T x2 = 11) <| Option.bind (fX12_row T M93 x2 (xs (Int32.toNatClampNeg (x3 + (1 : Int32)))) (xs (Int32.toNatClampNeg (x3 + (2 : Int32))))) <| un2 fun r97 M98 => if r92 = r97 then (lt (x3 + (6 : Int32)) fun v100 => some (.inl (v100, T, M98))) else (none)
def jL_law_486 (L : Nat) (xs : Nat → Int32) (T : Sh) (M : Me) (x1 : Nat) (x2 : Nat) (x3 : Int32) : Option ((Int32 × Sh × Me) ⊕ ((Sh × Me))) :=
  gv (x3 + (1 : Int32)) L <| gd (kd T x1 = 10) <| Option.bind (fX11_risen T M x1 (xs (Int32.toNatClampNeg (x3 + (1 : Int32))))) <| un2 fun r103 M104 => gv (x3 + (1 : Int32)) L <| gd (kd T x2 = 11) <| Option.bind (fX12_risen T M104 x2 (xs (Int32.toNatClampNeg (x3 + (1 : Int32))))) <| un2 fun r107 M108 => if r103 = r107 then (lt (x3 + (6 : Int32)) fun v110 => some (.inl (v110, T, M108))) else (none)
def jL_law_509 (L : Nat) (xs : Nat → Int32) (T : Sh) (M : Me) (x1 : Nat) (x2 : Nat) (x3 : Int32) : Option ((Int32 × Sh × Me) ⊕ ((Sh × Me))) :=
  gv (x3 + (1 : Int32)) L <| gv (x3 + (2 : Int32)) L <| gd (kd T x1 = 10) <| Option.bind (fX11_place T M x1 (xs (Int32.toNatClampNeg (x3 + (1 : Int32)))) (xs (Int32.toNatClampNeg (x3 + (2 : Int32))))) <| un2 fun r114 M115 => gv (x3 + (1 : Int32)) L <| gv (x3 + (2 : Int32)) L <| gd (kd T x2 = 11) <| Option.bind (fX12_place T M115 x2 (xs (Int32.toNatClampNeg (x3 + (1 : Int32)))) (xs (Int32.toNatClampNeg (x3 + (2 : Int32))))) <| un2 fun r119 M120 => if r114 = r119 then (lt (x3 + (6 : Int32)) fun v122 => some (.inl (v122, T, M120))) else (none)
def jL_law_542 (L : Nat) (xs : Nat → Int32) (T : Sh) (M : Me) (x1 : Nat) (x2 : Nat) (x3 : Int32) : Option ((Int32 × Sh × Me) ⊕ ((Sh × Me))) :=
  gv (x3 + (1 : Int32)) L <| gv (x3 + (2 : Int32)) L <| gd (kd T x1 = 10) <| Option.bind (fX11_train T M x1 (xs (Int32.toNatClampNeg (x3 + (1 : Int32)))) (xs (Int32.toNatClampNeg (x3 + (2 : Int32))))) <| un2 fun r126 M127 => gv (x3 + (1 : Int32)) L <| gv (x3 + (2 : Int32)) L <| gd (kd T x2 = 11) <| Option.bind (fX12_train T M127 x2 (xs (Int32.toNatClampNeg (x3 + (1 : Int32)))) (xs (Int32.toNatClampNeg (x3 + (2 : Int32))))) <| un2 fun r131 M132 => if r126 = r131 then (lt (x3 + (6 : Int32)) fun v134 => some (.inl (v134, T, M132))) else (none)
def jL_law_575 (L : Nat) (xs : Nat → Int32) (T : Sh) (M : Me) (x1 : Nat) (x2 : Nat) (x3 : Int32) : Option ((Int32 × Sh × Me) ⊕ ((Sh × Me))) :=
  gv (x3 + (1 : Int32)) L <| gd (kd T x1 = 10) <| Option.bind (fX11_ticks T M x1 (xs (Int32.toNatClampNeg (x3 + (1 : Int32))))) <| un2 fun r137 M138 => gv (x3 + (1 : Int32)) L <| gd (kd T x2 = 11) <| Option.bind (fX12_ticks T M138 x2 (xs (Int32.toNatClampNeg (x3 + (1 : Int32))))) <| un2 fun r141 M142 => if r137 = r141 then (lt (x3 + (6 : Int32)) fun v144 => some (.inl (v144, T, M142))) else (none)
def jL_law_598 (L : Nat) (xs : Nat → Int32) (T : Sh) (M : Me) (x1 : Nat) (x2 : Nat) (x3 : Int32) : Option ((Int32 × Sh × Me) ⊕ ((Sh × Me))) :=
  gv (x3 + (1 : Int32)) L <| gd (kd T x1 = 10) <| Option.bind (fX11_follow T M x1 (xs (Int32.toNatClampNeg (x3 + (1 : Int32))))) <| un2 fun r147 M148 => gv (x3 + (1 : Int32)) L <| gd (kd T x2 = 11) <| Option.bind (fX12_follow T M148 x2 (xs (Int32.toNatClampNeg (x3 + (1 : Int32))))) <| un2 fun r151 M152 => if r147 = r151 then (lt (x3 + (6 : Int32)) fun v154 => some (.inl (v154, T, M152))) else (none)
def jL_law_621 (L : Nat) (xs : Nat → Int32) (T : Sh) (M : Me) (x1 : Nat) (x2 : Nat) (x3 : Int32) : Option ((Int32 × Sh × Me) ⊕ ((Sh × Me))) :=
  gv (x3 + (1 : Int32)) L <| gd (kd T x1 = 10) <| Option.bind (fX11_pattern T M x1 (xs (Int32.toNatClampNeg (x3 + (1 : Int32))))) <| un2 fun r157 M158 => gv (x3 + (1 : Int32)) L <| gd (kd T x2 = 11) <| Option.bind (fX12_pattern T M158 x2 (xs (Int32.toNatClampNeg (x3 + (1 : Int32))))) <| un2 fun r161 M162 => if r157 = r161 then (lt (x3 + (6 : Int32)) fun v164 => some (.inl (v164, T, M162))) else (none)
def jL_law_644 (L : Nat) (xs : Nat → Int32) (T : Sh) (M : Me) (x1 : Nat) (x2 : Nat) (x3 : Int32) : Option ((Int32 × Sh × Me) ⊕ ((Sh × Me))) :=
  gv (x3 + (1 : Int32)) L <| gd (kd T x1 = 10) <| Option.bind (fX11_undo T M x1 (xs (Int32.toNatClampNeg (x3 + (1 : Int32))))) <| un2 fun r167 M168 => gv (x3 + (1 : Int32)) L <| gd (kd T x2 = 11) <| Option.bind (fX12_undo T M168 x2 (xs (Int32.toNatClampNeg (x3 + (1 : Int32))))) <| un2 fun r171 M172 => if r167 = r171 then (lt (x3 + (6 : Int32)) fun v174 => some (.inl (v174, T, M172))) else (none)
def jL_law_667 (L : Nat) (xs : Nat → Int32) (T : Sh) (M : Me) (x1 : Nat) (x2 : Nat) (x3 : Int32) : Option ((Int32 × Sh × Me) ⊕ ((Sh × Me))) :=
  gv (x3 + (1 : Int32)) L <| gv (x3 + (2 : Int32)) L <| gd (kd T x1 = 10) <| Option.bind (fX11_judge T M x1 (xs (Int32.toNatClampNeg (x3 + (1 : Int32)))) (xs (Int32.toNatClampNeg (x3 + (2 : Int32))))) <| un2 fun r178 M179 => gv (x3 + (1 : Int32)) L <| gv (x3 + (2 : Int32)) L <| gd (kd T x2 = 11) <| Option.bind (fX12_judge T M179 x2 (xs (Int32.toNatClampNeg (x3 + (1 : Int32)))) (xs (Int32.toNatClampNeg (x3 + (2 : Int32))))) <| un2 fun r183 M184 => if r178 = r183 then (lt (x3 + (6 : Int32)) fun v186 => some (.inl (v186, T, M184))) else (none)
def jL_law_700 (L : Nat) (xs : Nat → Int32) (T : Sh) (M : Me) (x1 : Nat) (x2 : Nat) (x3 : Int32) : Option ((Int32 × Sh × Me) ⊕ ((Sh × Me))) :=
  gv (x3 + (1 : Int32)) L <| gd (kd T x1 = 10) <| Option.bind (fX11_perform T M x1 (xs (Int32.toNatClampNeg (x3 + (1 : Int32))))) <| un2 fun r189 M190 => gv (x3 + (1 : Int32)) L <| gd (kd T x2 = 11) <| Option.bind (fX12_perform T M190 x2 (xs (Int32.toNatClampNeg (x3 + (1 : Int32))))) <| un2 fun r193 M194 => if r189 = r193 then (lt (x3 + (6 : Int32)) fun v196 => some (.inl (v196, T, M194))) else (none)
def jL_law_737 (L : Nat) (xs : Nat → Int32) (T : Sh) (M : Me) (x1 : Nat) (x2 : Nat) (x3 : Int32) (s0 : Int32) : Option ((Int32 × Sh × Me) ⊕ ((Sh × Me))) :=
  gv (x3 + (1 : Int32)) L <| gv (x3 + (2 : Int32)) L <| gd (kd T x2 = 11) <| Option.bind (fX12_day T M x2 (xs (Int32.toNatClampNeg (x3 + (1 : Int32)))) (xs (Int32.toNatClampNeg (x3 + (2 : Int32))))) <| un2 fun r206 M207 => if s0 = r206 then (lt (x3 + (6 : Int32)) fun v209 => some (.inl (v209, T, M207))) else (none)
def jL_law_723 (L : Nat) (xs : Nat → Int32) (T : Sh) (M : Me) (x1 : Nat) (x2 : Nat) (x3 : Int32) : Option ((Int32 × Sh × Me) ⊕ ((Sh × Me))) :=
  gv (x3 + (1 : Int32)) L <| gv (x3 + (2 : Int32)) L <| gd (kd T x1 = 10) <| Option.bind (fX11_day T M x1 (xs (Int32.toNatClampNeg (x3 + (1 : Int32)))) (xs (Int32.toNatClampNeg (x3 + (2 : Int32))))) <| un3 fun r200 T202 M201 => jL_law_737 L xs T202 M201 x1 x2 x3 r200
def jL_law_756 (L : Nat) (xs : Nat → Int32) (T : Sh) (M : Me) (x1 : Nat) (x2 : Nat) (x3 : Int32) : Option ((Int32 × Sh × Me) ⊕ ((Sh × Me))) :=
  gv (x3 + (1 : Int32)) L <| gd (kd T x1 = 10) <| Option.bind (fX11_area T M x1 (xs (Int32.toNatClampNeg (x3 + (1 : Int32))))) <| un2 fun r212 M213 => gv (x3 + (1 : Int32)) L <| gd (kd T x2 = 11) <| Option.bind (fX12_area T M213 x2 (xs (Int32.toNatClampNeg (x3 + (1 : Int32))))) <| un2 fun r216 M217 => if r212 = r216 then (lt (x3 + (6 : Int32)) fun v219 => some (.inl (v219, T, M217))) else (none)
def jL_law_779 (L : Nat) (xs : Nat → Int32) (T : Sh) (M : Me) (x1 : Nat) (x2 : Nat) (x3 : Int32) : Option ((Int32 × Sh × Me) ⊕ ((Sh × Me))) :=
  gv (x3 + (1 : Int32)) L <| gd (kd T x1 = 10) <| Option.bind (fX11_eyes T M x1 (xs (Int32.toNatClampNeg (x3 + (1 : Int32))))) <| un2 fun r222 M223 => gv (x3 + (1 : Int32)) L <| gd (kd T x2 = 11) <| Option.bind (fX12_eyes T M223 x2 (xs (Int32.toNatClampNeg (x3 + (1 : Int32))))) <| un2 fun r226 M227 => if r222 = r226 then (lt (x3 + (6 : Int32)) fun v229 => some (.inl (v229, T, M227))) else (none)
def jL_law_802 (L : Nat) (xs : Nat → Int32) (T : Sh) (M : Me) (x1 : Nat) (x2 : Nat) (x3 : Int32) : Option ((Int32 × Sh × Me) ⊕ ((Sh × Me))) :=
  gv (x3 + (1 : Int32)) L <| gd (kd T x1 = 10) <| Option.bind (fX11_greatest T M x1 (xs (Int32.toNatClampNeg (x3 + (1 : Int32))))) <| un2 fun r232 M233 => gv (x3 + (1 : Int32)) L <| gd (kd T x2 = 11) <| Option.bind (fX12_greatest T M233 x2 (xs (Int32.toNatClampNeg (x3 + (1 : Int32))))) <| un2 fun r236 M237 => if r232 = r236 then (lt (x3 + (6 : Int32)) fun v239 => some (.inl (v239, T, M237))) else (none)
def jL_law_825 (L : Nat) (xs : Nat → Int32) (T : Sh) (M : Me) (x1 : Nat) (x2 : Nat) (x3 : Int32) : Option ((Int32 × Sh × Me) ⊕ ((Sh × Me))) :=
  gv (x3 + (1 : Int32)) L <| gv (x3 + (2 : Int32)) L <| gd (kd T x1 = 10) <| Option.bind (fX11_rectangle T M x1 (xs (Int32.toNatClampNeg (x3 + (1 : Int32)))) (xs (Int32.toNatClampNeg (x3 + (2 : Int32))))) <| un2 fun r243 M244 => gv (x3 + (1 : Int32)) L <| gv (x3 + (2 : Int32)) L <| gd (kd T x2 = 11) <| Option.bind (fX12_rectangle T M244 x2 (xs (Int32.toNatClampNeg (x3 + (1 : Int32)))) (xs (Int32.toNatClampNeg (x3 + (2 : Int32))))) <| un2 fun r248 M249 => if r243 = r248 then (lt (x3 + (6 : Int32)) fun v251 => some (.inl (v251, T, M249))) else (none)
def jL_law_858 (L : Nat) (xs : Nat → Int32) (T : Sh) (M : Me) (x1 : Nat) (x2 : Nat) (x3 : Int32) : Option ((Int32 × Sh × Me) ⊕ ((Sh × Me))) :=
  gv (x3 + (1 : Int32)) L <| gv (x3 + (2 : Int32)) L <| gd (kd T x1 = 10) <| Option.bind (fX11_ellipse T M x1 (xs (Int32.toNatClampNeg (x3 + (1 : Int32)))) (xs (Int32.toNatClampNeg (x3 + (2 : Int32))))) <| un2 fun r255 M256 => gv (x3 + (1 : Int32)) L <| gv (x3 + (2 : Int32)) L <| gd (kd T x2 = 11) <| Option.bind (fX12_ellipse T M256 x2 (xs (Int32.toNatClampNeg (x3 + (1 : Int32)))) (xs (Int32.toNatClampNeg (x3 + (2 : Int32))))) <| un2 fun r260 M261 => if r255 = r260 then (lt (x3 + (6 : Int32)) fun v263 => some (.inl (v263, T, M261))) else (none)
def jL_law_891 (L : Nat) (xs : Nat → Int32) (T : Sh) (M : Me) (x1 : Nat) (x2 : Nat) (x3 : Int32) : Option ((Int32 × Sh × Me) ⊕ ((Sh × Me))) :=
  gv (x3 + (1 : Int32)) L <| gv (x3 + (2 : Int32)) L <| gd (kd T x1 = 10) <| Option.bind (fX11_margin T M x1 (xs (Int32.toNatClampNeg (x3 + (1 : Int32)))) (xs (Int32.toNatClampNeg (x3 + (2 : Int32))))) <| un2 fun r267 M268 => gv (x3 + (1 : Int32)) L <| gv (x3 + (2 : Int32)) L <| gd (kd T x2 = 11) <| Option.bind (fX12_margin T M268 x2 (xs (Int32.toNatClampNeg (x3 + (1 : Int32)))) (xs (Int32.toNatClampNeg (x3 + (2 : Int32))))) <| un2 fun r272 M273 => if r267 = r272 then (lt (x3 + (6 : Int32)) fun v275 => some (.inl (v275, T, M273))) else (none)
def jL_law_924 (L : Nat) (xs : Nat → Int32) (T : Sh) (M : Me) (x1 : Nat) (x2 : Nat) (x3 : Int32) : Option ((Int32 × Sh × Me) ⊕ ((Sh × Me))) :=
  gv (x3 + (1 : Int32)) L <| gd (kd T x1 = 10) <| Option.bind (fX11_edge T M x1 (xs (Int32.toNatClampNeg (x3 + (1 : Int32))))) <| un2 fun r278 M279 => gv (x3 + (1 : Int32)) L <| gd (kd T x2 = 11) <| Option.bind (fX12_edge T M279 x2 (xs (Int32.toNatClampNeg (x3 + (1 : Int32))))) <| un2 fun r282 M283 => if r278 = r282 then (lt (x3 + (6 : Int32)) fun v285 => some (.inl (v285, T, M283))) else (none)
def jL_law_947 (L : Nat) (xs : Nat → Int32) (T : Sh) (M : Me) (x1 : Nat) (x2 : Nat) (x3 : Int32) : Option ((Int32 × Sh × Me) ⊕ ((Sh × Me))) :=
  gv (x3 + (1 : Int32)) L <| gd (kd T x1 = 10) <| Option.bind (fX11_lag T M x1 (xs (Int32.toNatClampNeg (x3 + (1 : Int32))))) <| un2 fun r288 M289 => gv (x3 + (1 : Int32)) L <| gd (kd T x2 = 11) <| Option.bind (fX12_lag T M289 x2 (xs (Int32.toNatClampNeg (x3 + (1 : Int32))))) <| un2 fun r292 M293 => if r288 = r292 then (lt (x3 + (6 : Int32)) fun v295 => some (.inl (v295, T, M293))) else (none)
def jL_law_970 (L : Nat) (xs : Nat → Int32) (T : Sh) (M : Me) (x1 : Nat) (x2 : Nat) (x3 : Int32) : Option ((Int32 × Sh × Me) ⊕ ((Sh × Me))) :=
  gv (x3 + (1 : Int32)) L <| gd (kd T x1 = 10) <| Option.bind (fX11_bus T M x1 (xs (Int32.toNatClampNeg (x3 + (1 : Int32))))) <| un2 fun r298 M299 => gv (x3 + (1 : Int32)) L <| gd (kd T x2 = 11) <| Option.bind (fX12_bus T M299 x2 (xs (Int32.toNatClampNeg (x3 + (1 : Int32))))) <| un2 fun r302 M303 => if r298 = r302 then (lt (x3 + (6 : Int32)) fun v305 => some (.inl (v305, T, M303))) else (none)
def jL_law_993 (L : Nat) (xs : Nat → Int32) (T : Sh) (M : Me) (x1 : Nat) (x2 : Nat) (x3 : Int32) : Option ((Int32 × Sh × Me) ⊕ ((Sh × Me))) :=
  gv (x3 + (1 : Int32)) L <| gd (kd T x1 = 10) <| Option.bind (fX11_harshest T M x1 (xs (Int32.toNatClampNeg (x3 + (1 : Int32))))) <| un2 fun r308 M309 => gv (x3 + (1 : Int32)) L <| gd (kd T x2 = 11) <| Option.bind (fX12_harshest T M309 x2 (xs (Int32.toNatClampNeg (x3 + (1 : Int32))))) <| un2 fun r312 M313 => if r308 = r312 then (lt (x3 + (6 : Int32)) fun v315 => some (.inl (v315, T, M313))) else (none)
def jL_law_1016 (L : Nat) (xs : Nat → Int32) (T : Sh) (M : Me) (x1 : Nat) (x2 : Nat) (x3 : Int32) : Option ((Int32 × Sh × Me) ⊕ ((Sh × Me))) :=
  gv (x3 + (1 : Int32)) L <| gv (x3 + (2 : Int32)) L <| gd (kd T x1 = 10) <| Option.bind (fX11_tell T M x1 (xs (Int32.toNatClampNeg (x3 + (1 : Int32)))) (xs (Int32.toNatClampNeg (x3 + (2 : Int32))))) <| un2 fun r319 M320 => gv (x3 + (1 : Int32)) L <| gv (x3 + (2 : Int32)) L <| gd (kd T x2 = 11) <| Option.bind (fX12_tell T M320 x2 (xs (Int32.toNatClampNeg (x3 + (1 : Int32)))) (xs (Int32.toNatClampNeg (x3 + (2 : Int32))))) <| un2 fun r324 M325 => if r319 = r324 then (lt (x3 + (6 : Int32)) fun v327 => some (.inl (v327, T, M325))) else (none)
def jL_law_1049 (L : Nat) (xs : Nat → Int32) (T : Sh) (M : Me) (x1 : Nat) (x2 : Nat) (x3 : Int32) : Option ((Int32 × Sh × Me) ⊕ ((Sh × Me))) :=
  gv (x3 + (1 : Int32)) L <| gv (x3 + (2 : Int32)) L <| gd (kd T x1 = 10) <| Option.bind (fX11_later T M x1 (xs (Int32.toNatClampNeg (x3 + (1 : Int32)))) (xs (Int32.toNatClampNeg (x3 + (2 : Int32))))) <| un2 fun r331 M332 => gv (x3 + (1 : Int32)) L <| gv (x3 + (2 : Int32)) L <| gd (kd T x2 = 11) <| Option.bind (fX12_later T M332 x2 (xs (Int32.toNatClampNeg (x3 + (1 : Int32)))) (xs (Int32.toNatClampNeg (x3 + (2 : Int32))))) <| un2 fun r336 M337 => if r331 = r336 then (lt (x3 + (6 : Int32)) fun v339 => some (.inl (v339, T, M337))) else (none)
def jL_law_1082 (L : Nat) (xs : Nat → Int32) (T : Sh) (M : Me) (x1 : Nat) (x2 : Nat) (x3 : Int32) : Option ((Int32 × Sh × Me) ⊕ ((Sh × Me))) :=
  gv (x3 + (1 : Int32)) L <| gd (kd T x1 = 10) <| Option.bind (fX11_holds T M x1 (xs (Int32.toNatClampNeg (x3 + (1 : Int32))))) <| un2 fun r342 M343 => gv (x3 + (1 : Int32)) L <| gd (kd T x2 = 11) <| Option.bind (fX12_holds T M343 x2 (xs (Int32.toNatClampNeg (x3 + (1 : Int32))))) <| un2 fun r346 M347 => if r342 = r346 then (lt (x3 + (6 : Int32)) fun v349 => some (.inl (v349, T, M347))) else (none)
def jL_law_1105 (L : Nat) (xs : Nat → Int32) (T : Sh) (M : Me) (x1 : Nat) (x2 : Nat) (x3 : Int32) : Option ((Int32 × Sh × Me) ⊕ ((Sh × Me))) :=
  gv (x3 + (1 : Int32)) L <| gd (kd T x1 = 10) <| Option.bind (fX11_follows T M x1 (xs (Int32.toNatClampNeg (x3 + (1 : Int32))))) <| un2 fun r352 M353 => gv (x3 + (1 : Int32)) L <| gd (kd T x2 = 11) <| Option.bind (fX12_follows T M353 x2 (xs (Int32.toNatClampNeg (x3 + (1 : Int32))))) <| un2 fun r356 M357 => if r352 = r356 then (lt (x3 + (6 : Int32)) fun v359 => some (.inl (v359, T, M357))) else (none)
def jL_law_1128 (L : Nat) (xs : Nat → Int32) (T : Sh) (M : Me) (x1 : Nat) (x2 : Nat) (x3 : Int32) : Option ((Int32 × Sh × Me) ⊕ ((Sh × Me))) :=
  gv (x3 + (1 : Int32)) L <| gv (x3 + (2 : Int32)) L <| gd (kd T x1 = 10) <| Option.bind (fX11_at T M x1 (xs (Int32.toNatClampNeg (x3 + (1 : Int32)))) (xs (Int32.toNatClampNeg (x3 + (2 : Int32))))) <| un2 fun r363 M364 => gv (x3 + (1 : Int32)) L <| gv (x3 + (2 : Int32)) L <| gd (kd T x2 = 11) <| Option.bind (fX12_at T M364 x2 (xs (Int32.toNatClampNeg (x3 + (1 : Int32)))) (xs (Int32.toNatClampNeg (x3 + (2 : Int32))))) <| un2 fun r368 M369 => if r363 = r368 then (lt (x3 + (6 : Int32)) fun v371 => some (.inl (v371, T, M369))) else (none)
def jL_law_1161 (L : Nat) (xs : Nat → Int32) (T : Sh) (M : Me) (x1 : Nat) (x2 : Nat) (x3 : Int32) : Option ((Int32 × Sh × Me) ⊕ ((Sh × Me))) :=
  gv (x3 + (1 : Int32)) L <| gd (kd T x1 = 10) <| Option.bind (fX11_steps T M x1 (xs (Int32.toNatClampNeg (x3 + (1 : Int32))))) <| un2 fun r374 M375 => gv (x3 + (1 : Int32)) L <| gd (kd T x2 = 11) <| Option.bind (fX12_steps T M375 x2 (xs (Int32.toNatClampNeg (x3 + (1 : Int32))))) <| un2 fun r378 M379 => if r374 = r378 then (lt (x3 + (6 : Int32)) fun v381 => some (.inl (v381, T, M379))) else (none)
def jL_law_1184 (L : Nat) (xs : Nat → Int32) (T : Sh) (M : Me) (x1 : Nat) (x2 : Nat) (x3 : Int32) : Option ((Int32 × Sh × Me) ⊕ ((Sh × Me))) :=
  gv (x3 + (1 : Int32)) L <| gv (x3 + (2 : Int32)) L <| gd (kd T x1 = 10) <| Option.bind (fX11_way T M x1 (xs (Int32.toNatClampNeg (x3 + (1 : Int32)))) (xs (Int32.toNatClampNeg (x3 + (2 : Int32))))) <| un2 fun r385 M386 => gv (x3 + (1 : Int32)) L <| gv (x3 + (2 : Int32)) L <| gd (kd T x2 = 11) <| Option.bind (fX12_way T M386 x2 (xs (Int32.toNatClampNeg (x3 + (1 : Int32)))) (xs (Int32.toNatClampNeg (x3 + (2 : Int32))))) <| un2 fun r390 M391 => if r385 = r390 then (lt (x3 + (6 : Int32)) fun v393 => some (.inl (v393, T, M391))) else (none)
def jL_law_1217 (L : Nat) (xs : Nat → Int32) (T : Sh) (M : Me) (x1 : Nat) (x2 : Nat) (x3 : Int32) : Option ((Int32 × Sh × Me) ⊕ ((Sh × Me))) :=
  gv (x3 + (1 : Int32)) L <| gv (x3 + (2 : Int32)) L <| gd (kd T x1 = 10) <| Option.bind (fX11_ways T M x1 (xs (Int32.toNatClampNeg (x3 + (1 : Int32)))) (xs (Int32.toNatClampNeg (x3 + (2 : Int32))))) <| un2 fun r397 M398 => gv (x3 + (1 : Int32)) L <| gv (x3 + (2 : Int32)) L <| gd (kd T x2 = 11) <| Option.bind (fX12_ways T M398 x2 (xs (Int32.toNatClampNeg (x3 + (1 : Int32)))) (xs (Int32.toNatClampNeg (x3 + (2 : Int32))))) <| un2 fun r402 M403 => if (lg_cmp r397 r402) = 0 then (lt (x3 + (6 : Int32)) fun v405 => some (.inl (v405, T, M403))) else (none)
def jL_law_1251 (L : Nat) (xs : Nat → Int32) (T : Sh) (M : Me) (x1 : Nat) (x2 : Nat) (x3 : Int32) : Option ((Int32 × Sh × Me) ⊕ ((Sh × Me))) :=
  gv (x3 + (1 : Int32)) L <| gv (x3 + (2 : Int32)) L <| gd (kd T x1 = 10) <| Option.bind (fX11_drifts T M x1 (xs (Int32.toNatClampNeg (x3 + (1 : Int32)))) (xs (Int32.toNatClampNeg (x3 + (2 : Int32))))) <| un2 fun r409 M410 => gv (x3 + (1 : Int32)) L <| gv (x3 + (2 : Int32)) L <| gd (kd T x2 = 11) <| Option.bind (fX12_drifts T M410 x2 (xs (Int32.toNatClampNeg (x3 + (1 : Int32)))) (xs (Int32.toNatClampNeg (x3 + (2 : Int32))))) <| un2 fun r414 M415 => if r409 = r414 then (lt (x3 + (6 : Int32)) fun v417 => some (.inl (v417, T, M415))) else (none)
def jL_law_1284 (L : Nat) (xs : Nat → Int32) (T : Sh) (M : Me) (x1 : Nat) (x2 : Nat) (x3 : Int32) : Option ((Int32 × Sh × Me) ⊕ ((Sh × Me))) :=
  gv (x3 + (1 : Int32)) L <| gv (x3 + (2 : Int32)) L <| gd (kd T x1 = 10) <| Option.bind (fX11_attempt T M x1 (xs (Int32.toNatClampNeg (x3 + (1 : Int32)))) (xs (Int32.toNatClampNeg (x3 + (2 : Int32))))) <| un2 fun r421 M422 => gv (x3 + (1 : Int32)) L <| gv (x3 + (2 : Int32)) L <| gd (kd T x2 = 11) <| Option.bind (fX12_attempt T M422 x2 (xs (Int32.toNatClampNeg (x3 + (1 : Int32)))) (xs (Int32.toNatClampNeg (x3 + (2 : Int32))))) <| un2 fun r426 M427 => if r421 = r426 then (lt (x3 + (6 : Int32)) fun v429 => some (.inl (v429, T, M427))) else (none)
def jL_law_1317 (L : Nat) (xs : Nat → Int32) (T : Sh) (M : Me) (x1 : Nat) (x2 : Nat) (x3 : Int32) : Option ((Int32 × Sh × Me) ⊕ ((Sh × Me))) :=
  gv (x3 + (1 : Int32)) L <| gv (x3 + (2 : Int32)) L <| gv (x3 + (3 : Int32)) L <| gd (kd T x1 = 10) <| Option.bind (fX11_chance T M x1 (xs (Int32.toNatClampNeg (x3 + (1 : Int32)))) (xs (Int32.toNatClampNeg (x3 + (2 : Int32)))) (xs (Int32.toNatClampNeg (x3 + (3 : Int32))))) <| un2 fun r434 M435 => gv (x3 + (1 : Int32)) L <| gv (x3 + (2 : Int32)) L <| gv (x3 + (3 : Int32)) L <| gd (kd T x2 = 11) <| Option.bind (fX12_chance T M435 x2 (xs (Int32.toNatClampNeg (x3 + (1 : Int32)))) (xs (Int32.toNatClampNeg (x3 + (2 : Int32)))) (xs (Int32.toNatClampNeg (x3 + (3 : Int32))))) <| un2 fun r440 M441 => if r434 = r440 then (lt (x3 + (6 : Int32)) fun v443 => some (.inl (v443, T, M441))) else (none)
def jL_law_1360 (L : Nat) (xs : Nat → Int32) (T : Sh) (M : Me) (x1 : Nat) (x2 : Nat) (x3 : Int32) : Option ((Int32 × Sh × Me) ⊕ ((Sh × Me))) :=
  gv (x3 + (1 : Int32)) L <| gv (x3 + (2 : Int32)) L <| gd (kd T x1 = 10) <| Option.bind (fX11_mean T M x1 (xs (Int32.toNatClampNeg (x3 + (1 : Int32)))) (xs (Int32.toNatClampNeg (x3 + (2 : Int32))))) <| un2 fun r447 M448 => gv (x3 + (1 : Int32)) L <| gv (x3 + (2 : Int32)) L <| gd (kd T x2 = 11) <| Option.bind (fX12_mean T M448 x2 (xs (Int32.toNatClampNeg (x3 + (1 : Int32)))) (xs (Int32.toNatClampNeg (x3 + (2 : Int32))))) <| un2 fun r452 M453 => if r447 = r452 then (lt (x3 + (6 : Int32)) fun v455 => some (.inl (v455, T, M453))) else (none)
def jL_law_1393 (L : Nat) (xs : Nat → Int32) (T : Sh) (M : Me) (x1 : Nat) (x2 : Nat) (x3 : Int32) : Option ((Int32 × Sh × Me) ⊕ ((Sh × Me))) :=
  gv (x3 + (1 : Int32)) L <| gv (x3 + (2 : Int32)) L <| gv (x3 + (3 : Int32)) L <| gd (kd T x1 = 10) <| Option.bind (fX11_numbers T M x1 (xs (Int32.toNatClampNeg (x3 + (1 : Int32)))) (xs (Int32.toNatClampNeg (x3 + (2 : Int32)))) (xs (Int32.toNatClampNeg (x3 + (3 : Int32))))) <| un2 fun r460 M461 => gv (x3 + (1 : Int32)) L <| gv (x3 + (2 : Int32)) L <| gv (x3 + (3 : Int32)) L <| gd (kd T x2 = 11) <| Option.bind (fX12_numbers T M461 x2 (xs (Int32.toNatClampNeg (x3 + (1 : Int32)))) (xs (Int32.toNatClampNeg (x3 + (2 : Int32)))) (xs (Int32.toNatClampNeg (x3 + (3 : Int32))))) <| un2 fun r466 M467 => if r460 = r466 then (lt (x3 + (6 : Int32)) fun v469 => some (.inl (v469, T, M467))) else (none)
def jL_law_1436 (L : Nat) (xs : Nat → Int32) (T : Sh) (M : Me) (x1 : Nat) (x2 : Nat) (x3 : Int32) : Option ((Int32 × Sh × Me) ⊕ ((Sh × Me))) :=
  gv (x3 + (1 : Int32)) L <| gv (x3 + (2 : Int32)) L <| gv (x3 + (3 : Int32)) L <| gv (x3 + (4 : Int32)) L <| gd (kd T x1 = 10) <| Option.bind (fX11_write T M x1 (xs (Int32.toNatClampNeg (x3 + (1 : Int32)))) (xs (Int32.toNatClampNeg (x3 + (2 : Int32)))) (((Int32.toInt64 (xs (Int32.toNatClampNeg (x3 + (3 : Int32))))) <<< (Int32.toInt64 (32 : Int32) &&& 63)) ||| ((Int32.toInt64 (xs (Int32.toNatClampNeg (x3 + (4 : Int32))))) &&& (4294967295 : Int64)))) <| un2 fun r475 M476 => gv (x3 + (1 : Int32)) L <| gv (x3 + (2 : Int32)) L <| gv (x3 + (3 : Int32)) L <| gv (x3 + (4 : Int32)) L <| gd (kd T x2 = 11) <| Option.bind (fX12_write T M476 x2 (xs (Int32.toNatClampNeg (x3 + (1 : Int32)))) (xs (Int32.toNatClampNeg (x3 + (2 : Int32)))) (((Int32.toInt64 (xs (Int32.toNatClampNeg (x3 + (3 : Int32))))) <<< (Int32.toInt64 (32 : Int32) &&& 63)) ||| ((Int32.toInt64 (xs (Int32.toNatClampNeg (x3 + (4 : Int32))))) &&& (4294967295 : Int64)))) <| un2 fun r482 M483 => if (lg_cmp r475 r482) = 0 then (lt (x3 + (6 : Int32)) fun v485 => some (.inl (v485, T, M483))) else (none)
def jL_law_1510 (L : Nat) (xs : Nat → Int32) (T : Sh) (M : Me) (x1 : Nat) (x2 : Nat) (x3 : Int32) : Option ((Int32 × Sh × Me) ⊕ ((Sh × Me))) :=
  gv (x3 + (1 : Int32)) L <| gv (x3 + (2 : Int32)) L <| gd (kd T x1 = 10) <| Option.bind (fX11_lists T M x1 (xs (Int32.toNatClampNeg (x3 + (1 : Int32)))) (xs (Int32.toNatClampNeg (x3 + (2 : Int32))))) <| un2 fun r489 M490 => gv (x3 + (1 : Int32)) L <| gv (x3 + (2 : Int32)) L <| gd (kd T x2 = 11) <| Option.bind (fX12_lists T M490 x2 (xs (Int32.toNatClampNeg (x3 + (1 : Int32)))) (xs (Int32.toNatClampNeg (x3 + (2 : Int32))))) <| un2 fun r494 M495 => if r489 = r494 then (lt (x3 + (6 : Int32)) fun v497 => some (.inl (v497, T, M495))) else (none)
def jL_law_1543 (L : Nat) (xs : Nat → Int32) (T : Sh) (M : Me) (x1 : Nat) (x2 : Nat) (x3 : Int32) : Option ((Int32 × Sh × Me) ⊕ ((Sh × Me))) :=
  gv (x3 + (1 : Int32)) L <| gd (kd T x1 = 10) <| Option.bind (fX11_image T M x1 (xs (Int32.toNatClampNeg (x3 + (1 : Int32))))) <| un2 fun r500 M501 => gv (x3 + (1 : Int32)) L <| gd (kd T x2 = 11) <| Option.bind (fX12_image T M501 x2 (xs (Int32.toNatClampNeg (x3 + (1 : Int32))))) <| un2 fun r504 M505 => if r500 = r504 then (lt (x3 + (6 : Int32)) fun v507 => some (.inl (v507, T, M505))) else (none)
def jL_law_1566 (L : Nat) (xs : Nat → Int32) (T : Sh) (M : Me) (x1 : Nat) (x2 : Nat) (x3 : Int32) : Option ((Int32 × Sh × Me) ⊕ ((Sh × Me))) :=
  gv (x3 + (1 : Int32)) L <| gd (kd T x1 = 10) <| Option.bind (fX11_restore T M x1 (xs (Int32.toNatClampNeg (x3 + (1 : Int32))))) <| un2 fun r510 M511 => gv (x3 + (1 : Int32)) L <| gd (kd T x2 = 11) <| Option.bind (fX12_restore T M511 x2 (xs (Int32.toNatClampNeg (x3 + (1 : Int32))))) <| un2 fun r514 M515 => if r510 = r514 then (lt (x3 + (6 : Int32)) fun v517 => some (.inl (v517, T, M515))) else (none)
def jL_law_1589 (L : Nat) (xs : Nat → Int32) (T : Sh) (M : Me) (x1 : Nat) (x2 : Nat) (x3 : Int32) : Option ((Int32 × Sh × Me) ⊕ ((Sh × Me))) :=
  gv (x3 + (1 : Int32)) L <| gd (kd T x1 = 10) <| Option.bind (fX11_count T M x1 (xs (Int32.toNatClampNeg (x3 + (1 : Int32))))) <| un2 fun r520 M521 => gv (x3 + (1 : Int32)) L <| gd (kd T x2 = 11) <| Option.bind (fX12_count T M521 x2 (xs (Int32.toNatClampNeg (x3 + (1 : Int32))))) <| un2 fun r524 M525 => if r520 = r524 then (lt (x3 + (6 : Int32)) fun v527 => some (.inl (v527, T, M525))) else (none)
def bL_law_18 (L : Nat) (xs : Nat → Int32) (x1 : Nat) (x2 : Nat) (x3 : Int32) (T : Sh) (M : Me) : Option ((Int32 × Sh × Me) ⊕ ((Sh × Me))) :=
  if ((nI L) - (6 : Int32)) < x3 then (some (.inr (T, M))) else (gv x3 L <| lt ((xs (Int32.toNatClampNeg x3)) &&& (63 : Int32)) fun v7 => if v7 = (0 : Int32) then (jL_law_232 L xs T M x1 x2 x3) else (if v7 = (1 : Int32) then (jL_law_295 L xs T M x1 x2 x3) else (if v7 = (2 : Int32) then (jL_law_318 L xs T M x1 x2 x3) else (if v7 = (3 : Int32) then (jL_law_341 L xs T M x1 x2 x3) else (if v7 = (4 : Int32) then (jL_law_374 L xs T M x1 x2 x3) else (if v7 = (5 : Int32) then (jL_law_397 L xs T M x1 x2 x3) else (if v7 = (6 : Int32) then (jL_law_420 L xs T M x1 x2 x3) else (if v7 = (7 : Int32) then (jL_law_453 L xs T M x1 x2 x3) else (if v7 = (8 : Int32) then (jL_law_486 L xs T M x1 x2 x3) else (if v7 = (9 : Int32) then (jL_law_509 L xs T M x1 x2 x3) else (if v7 = (10 : Int32) then (jL_law_542 L xs T M x1 x2 x3) else (if v7 = (11 : Int32) then (jL_law_575 L xs T M x1 x2 x3) else (if v7 = (12 : Int32) then (jL_law_598 L xs T M x1 x2 x3) else (if v7 = (13 : Int32) then (jL_law_621 L xs T M x1 x2 x3) else (if v7 = (14 : Int32) then (jL_law_644 L xs T M x1 x2 x3) else (if v7 = (15 : Int32) then (jL_law_667 L xs T M x1 x2 x3) else (if v7 = (16 : Int32) then (jL_law_700 L xs T M x1 x2 x3) else (if v7 = (17 : Int32) then (jL_law_723 L xs T M x1 x2 x3) else (if v7 = (18 : Int32) then (jL_law_756 L xs T M x1 x2 x3) else (if v7 = (19 : Int32) then (jL_law_779 L xs T M x1 x2 x3) else (if v7 = (20 : Int32) then (jL_law_802 L xs T M x1 x2 x3) else (if v7 = (21 : Int32) then (jL_law_825 L xs T M x1 x2 x3) else (if v7 = (22 : Int32) then (jL_law_858 L xs T M x1 x2 x3) else (if v7 = (23 : Int32) then (jL_law_891 L xs T M x1 x2 x3) else (if v7 = (24 : Int32) then (jL_law_924 L xs T M x1 x2 x3) else (if v7 = (25 : Int32) then (jL_law_947 L xs T M x1 x2 x3) else (if v7 = (26 : Int32) then (jL_law_970 L xs T M x1 x2 x3) else (if v7 = (27 : Int32) then (jL_law_993 L xs T M x1 x2 x3) else (if v7 = (28 : Int32) then (jL_law_1016 L xs T M x1 x2 x3) else (if v7 = (29 : Int32) then (jL_law_1049 L xs T M x1 x2 x3) else (if v7 = (30 : Int32) then (jL_law_1082 L xs T M x1 x2 x3) else (if v7 = (31 : Int32) then (jL_law_1105 L xs T M x1 x2 x3) else (if v7 = (32 : Int32) then (jL_law_1128 L xs T M x1 x2 x3) else (if v7 = (33 : Int32) then (jL_law_1161 L xs T M x1 x2 x3) else (if v7 = (34 : Int32) then (jL_law_1184 L xs T M x1 x2 x3) else (if v7 = (35 : Int32) then (jL_law_1217 L xs T M x1 x2 x3) else (if v7 = (36 : Int32) then (jL_law_1251 L xs T M x1 x2 x3) else (if v7 = (37 : Int32) then (jL_law_1284 L xs T M x1 x2 x3) else (if v7 = (38 : Int32) then (jL_law_1317 L xs T M x1 x2 x3) else (if v7 = (39 : Int32) then (jL_law_1360 L xs T M x1 x2 x3) else (if v7 = (40 : Int32) then (jL_law_1393 L xs T M x1 x2 x3) else (if v7 = (41 : Int32) then (jL_law_1436 L xs T M x1 x2 x3) else (if v7 = (42 : Int32) then (jL_law_1510 L xs T M x1 x2 x3) else (if v7 = (43 : Int32) then (jL_law_1543 L xs T M x1 x2 x3) else (if v7 = (44 : Int32) then (jL_law_1566 L xs T M x1 x2 x3) else (if v7 = (45 : Int32) then (jL_law_1589 L xs T M x1 x2 x3) else (lt (x3 + (6 : Int32)) fun v528 => some (.inl (v528, T, M)))))))))))))))))))))))))))))))))))))))))))))))))
def PL_law_18 (X : Fx) (B : Bx) (Z : Nat × Nat × Nat × Nat) (Q : State → Prop) (b : Nat) (x1 : Nat) (x2 : Nat) (s : Int32 × Sh × Me) : Prop := G X B 4 Z Q 18 [(0, .ref (b)), (1, .ref (x1)), (2, .ref (x2)), (3, .int (s.1))] [] s.2.1 s.2.2
def EL_law_18 (X : Fx) (B : Bx) (Z : Nat × Nat × Nat × Nat) (Q : State → Prop) (b : Nat) (x1 : Nat) (x2 : Nat) (r : (Sh × Me)) : Prop := G X B 4 Z Q 1618 [] [] r.1 r.2
theorem mjL_law_232 {L : Nat} {xs : Nat → Int32} {T : Sh} {M : Me} {x1 : Nat} {x2 : Nat} {x3 : Int32} {o : (Int32 × Sh × Me) ⊕ ((Sh × Me))} (h : jL_law_232 L xs T M x1 x2 x3 = some o) : leT T ((Sum.elim (fun s : Int32 × Sh × Me => s.2.1) (fun r : Sh × Me => r.1)) o) := by
  unfold jL_law_232 at h
  replace h := gv_some h; obtain ⟨hi8, h⟩ := h
  replace h := gv_some h; obtain ⟨hi9, h⟩ := h
  replace h := gv_some h; obtain ⟨hi10, h⟩ := h
  replace h := gv_some h; obtain ⟨hi11, h⟩ := h
  replace h := gv_some h; obtain ⟨hi12, h⟩ := h
  replace h := gd_some h; obtain ⟨hk13, h⟩ := h
  replace h := bnd2 h; obtain ⟨r14, M15, h1, h⟩ := h
  replace h := gv_some h; obtain ⟨hi16, h⟩ := h
  replace h := gv_some h; obtain ⟨hi17, h⟩ := h
  replace h := gv_some h; obtain ⟨hi18, h⟩ := h
  replace h := gv_some h; obtain ⟨hi19, h⟩ := h
  replace h := gv_some h; obtain ⟨hi20, h⟩ := h
  replace h := gd_some h; obtain ⟨hk21, h⟩ := h
  replace h := bnd2 h; obtain ⟨r22, M23, h1, h⟩ := h
  by_cases c24 : r14 = r22
  · replace h := ifp c24 h
    obtain ⟨v25, ev25⟩ : ∃ y : Int32, y = x3 + (6 : Int32) := ⟨_, rfl⟩
    replace h := lt_at ev25 h
    obtain rfl := Option.some.inj h
    exact leT.rfl
  · replace h := ifn c24 h
    cases h
set_option maxHeartbeats 4000000 in
theorem tjL_law_232 {X : Fx} {B : Bx} {Z : Nat × Nat × Nat × Nat} {Q : State → Prop} {d : Nat} {T : Sh} {M : Me} {x1 : Nat} {x2 : Nat} {x3 : Int32} {o : (Int32 × Sh × Me) ⊕ ((Sh × Me))} (C : Cx X B cL_law 4 RL d Z) (hd : 405 ≤ d) {L : Nat} {xs : Nat → Int32} {b : Nat} (hX : va_X b L xs X.2.2.2.2.1 X.2.2.2.2.1.heap) (hbl : Lw X B b) (hZ : leZ ((Sum.elim (fun s : Int32 × Sh × Me => s.2.1) (fun r : Sh × Me => r.1)) o) Z) (h : jL_law_232 L xs T M x1 x2 x3 = some o) (hE : lpE (PL_law_18 X B Z Q b x1 x2) (EL_law_18 X B Z Q b x1 x2) o) : G X B 4 Z Q 232 [(0, .ref (b)), (1, .ref (x1)), (2, .ref (x2)), (3, .int (x3))] [] T M := by
  unfold jL_law_232 at h
  refine g_aload_n (pc := 232) C dL_law_232 rfl 1 rfl ?_
  refine g_aload_n (pc := 233) C dL_law_233 rfl 0 rfl ?_
  refine g_iload_n (pc := 234) C dL_law_234 rfl 3 rfl ?_
  refine g_iconst (pc := 235) (v := 1) C dL_law_235 (by decide) ?_
  refine g_iadd (pc := 236) C dL_law_236 ?_
  replace h := gv_some h; obtain ⟨hi8, h⟩ := h
  refine g_xld (pc := 237) C hX hbl dL_law_237 hi8 ?_
  refine g_aload_n (pc := 238) C dL_law_238 rfl 0 rfl ?_
  refine g_iload_n (pc := 239) C dL_law_239 rfl 3 rfl ?_
  refine g_iconst (pc := 240) (v := 2) C dL_law_240 (by decide) ?_
  refine g_iadd (pc := 241) C dL_law_241 ?_
  replace h := gv_some h; obtain ⟨hi9, h⟩ := h
  refine g_xld (pc := 242) C hX hbl dL_law_242 hi9 ?_
  refine g_aload_n (pc := 243) C dL_law_243 rfl 0 rfl ?_
  refine g_iload_n (pc := 244) C dL_law_244 rfl 3 rfl ?_
  refine g_iconst (pc := 245) (v := 3) C dL_law_245 (by decide) ?_
  refine g_iadd (pc := 246) C dL_law_246 ?_
  replace h := gv_some h; obtain ⟨hi10, h⟩ := h
  refine g_xld (pc := 247) C hX hbl dL_law_247 hi10 ?_
  refine g_aload_n (pc := 248) C dL_law_248 rfl 0 rfl ?_
  refine g_iload_n (pc := 249) C dL_law_249 rfl 3 rfl ?_
  refine g_iconst (pc := 250) (v := 4) C dL_law_250 (by decide) ?_
  refine g_iadd (pc := 251) C dL_law_251 ?_
  replace h := gv_some h; obtain ⟨hi11, h⟩ := h
  refine g_xld (pc := 252) C hX hbl dL_law_252 hi11 ?_
  refine g_aload_n (pc := 253) C dL_law_253 rfl 0 rfl ?_
  refine g_iload_n (pc := 254) C dL_law_254 rfl 3 rfl ?_
  refine g_iconst (pc := 255) (v := 5) C dL_law_255 (by decide) ?_
  refine g_iadd (pc := 256) C dL_law_256 ?_
  replace h := gv_some h; obtain ⟨hi12, h⟩ := h
  refine g_xld (pc := 257) C hX hbl dL_law_257 hi12 ?_
  replace h := gd_some h; obtain ⟨hk13, h⟩ := h
  replace h := bnd2 h; obtain ⟨r14, M15, h1, h⟩ := h
  refine g_callVi (pc := 258) (As := [.int (xs (Int32.toNatClampNeg (x3 + (1 : Int32)))), .int (xs (Int32.toNatClampNeg (x3 + (2 : Int32)))), .int (xs (Int32.toNatClampNeg (x3 + (3 : Int32)))), .int (xs (Int32.toNatClampNeg (x3 + (4 : Int32)))), .int (xs (Int32.toNatClampNeg (x3 + (5 : Int32))))]) (st := []) C dL_law_258 wX11_feed hk13 rfl (by decide) q_468 q_469 q_467 (by omega) rfl (Nat.le_of_ble_eq_true rfl) (kX11_feed (d := 1) (Nat.le_refl _) h1) ?_
  refine g_aload_n (pc := 261) C dL_law_261 rfl 2 rfl ?_
  refine g_aload_n (pc := 262) C dL_law_262 rfl 0 rfl ?_
  refine g_iload_n (pc := 263) C dL_law_263 rfl 3 rfl ?_
  refine g_iconst (pc := 264) (v := 1) C dL_law_264 (by decide) ?_
  refine g_iadd (pc := 265) C dL_law_265 ?_
  replace h := gv_some h; obtain ⟨hi16, h⟩ := h
  refine g_xld (pc := 266) C hX hbl dL_law_266 hi16 ?_
  refine g_aload_n (pc := 267) C dL_law_267 rfl 0 rfl ?_
  refine g_iload_n (pc := 268) C dL_law_268 rfl 3 rfl ?_
  refine g_iconst (pc := 269) (v := 2) C dL_law_269 (by decide) ?_
  refine g_iadd (pc := 270) C dL_law_270 ?_
  replace h := gv_some h; obtain ⟨hi17, h⟩ := h
  refine g_xld (pc := 271) C hX hbl dL_law_271 hi17 ?_
  refine g_aload_n (pc := 272) C dL_law_272 rfl 0 rfl ?_
  refine g_iload_n (pc := 273) C dL_law_273 rfl 3 rfl ?_
  refine g_iconst (pc := 274) (v := 3) C dL_law_274 (by decide) ?_
  refine g_iadd (pc := 275) C dL_law_275 ?_
  replace h := gv_some h; obtain ⟨hi18, h⟩ := h
  refine g_xld (pc := 276) C hX hbl dL_law_276 hi18 ?_
  refine g_aload_n (pc := 277) C dL_law_277 rfl 0 rfl ?_
  refine g_iload_n (pc := 278) C dL_law_278 rfl 3 rfl ?_
  refine g_iconst (pc := 279) (v := 4) C dL_law_279 (by decide) ?_
  refine g_iadd (pc := 280) C dL_law_280 ?_
  replace h := gv_some h; obtain ⟨hi19, h⟩ := h
  refine g_xld (pc := 281) C hX hbl dL_law_281 hi19 ?_
  refine g_aload_n (pc := 282) C dL_law_282 rfl 0 rfl ?_
  refine g_iload_n (pc := 283) C dL_law_283 rfl 3 rfl ?_
  refine g_iconst (pc := 284) (v := 5) C dL_law_284 (by decide) ?_
  refine g_iadd (pc := 285) C dL_law_285 ?_
  replace h := gv_some h; obtain ⟨hi20, h⟩ := h
  refine g_xld (pc := 286) C hX hbl dL_law_286 hi20 ?_
  replace h := gd_some h; obtain ⟨hk21, h⟩ := h
  replace h := bnd2 h; obtain ⟨r22, M23, h1, h⟩ := h
  refine g_callVi (pc := 287) (As := [.int (xs (Int32.toNatClampNeg (x3 + (1 : Int32)))), .int (xs (Int32.toNatClampNeg (x3 + (2 : Int32)))), .int (xs (Int32.toNatClampNeg (x3 + (3 : Int32)))), .int (xs (Int32.toNatClampNeg (x3 + (4 : Int32)))), .int (xs (Int32.toNatClampNeg (x3 + (5 : Int32))))]) (st := [.int (r14)]) C dL_law_287 wX12_feed hk21 rfl (by decide) q_1359 q_1360 q_1358 (by omega) rfl (Nat.le_of_ble_eq_true rfl) (kX12_feed (d := 0) (Nat.le_refl _) h1) ?_
  refine g_icmp_eq (pc := 290) (tgt := 1612) C dL_law_290 (by decide) (fun c24 => ?_) (fun c24 => ?_)
  · replace h := ifp c24 h
    obtain ⟨v25, ev25⟩ : ∃ y : Int32, y = x3 + (6 : Int32) := ⟨_, rfl⟩
    replace h := lt_at ev25 h
    refine g_iinc (pc := 1612) (v := v25) (k := 3) (lo2 := [(3, .int (v25)), (0, .ref (b)), (1, .ref (x1)), (2, .ref (x2))]) C dL_law_1612 rfl (by rw [ev25]; rfl) (by decide) rfl ?_
    refine g_goto (pc := 1615) (tgt := 18) C dL_law_1615 (by decide) ?_
    obtain rfl := Option.some.inj h
    exact g_sub [1, 2, 3, 0] rfl (show G X B 4 Z Q 18 [(0, .ref (b)), (1, .ref (x1)), (2, .ref (x2)), (3, .int (v25))] [] T M23 from hE)
  · replace h := ifn c24 h
    cases h
theorem mjL_law_304 {L : Nat} {xs : Nat → Int32} {T : Sh} {M : Me} {x1 : Nat} {x2 : Nat} {x3 : Int32} {s0 : Int32} {o : (Int32 × Sh × Me) ⊕ ((Sh × Me))} (h : jL_law_304 L xs T M x1 x2 x3 s0 = some o) : leT T ((Sum.elim (fun s : Int32 × Sh × Me => s.2.1) (fun r : Sh × Me => r.1)) o) := by
  unfold jL_law_304 at h
  replace h := gv_some h; obtain ⟨hi31, h⟩ := h
  replace h := gd_some h; obtain ⟨hk32, h⟩ := h
  replace h := bnd2 h; obtain ⟨r33, M34, h1, h⟩ := h
  by_cases c35 : s0 = r33
  · replace h := ifp c35 h
    obtain ⟨v36, ev36⟩ : ∃ y : Int32, y = x3 + (6 : Int32) := ⟨_, rfl⟩
    replace h := lt_at ev36 h
    obtain rfl := Option.some.inj h
    exact leT.rfl
  · replace h := ifn c35 h
    cases h
set_option maxHeartbeats 4000000 in
theorem tjL_law_304 {X : Fx} {B : Bx} {Z : Nat × Nat × Nat × Nat} {Q : State → Prop} {d : Nat} {T : Sh} {M : Me} {x1 : Nat} {x2 : Nat} {x3 : Int32} {s0 : Int32} {o : (Int32 × Sh × Me) ⊕ ((Sh × Me))} (C : Cx X B cL_law 4 RL d Z) (hd : 405 ≤ d) {L : Nat} {xs : Nat → Int32} {b : Nat} (hX : va_X b L xs X.2.2.2.2.1 X.2.2.2.2.1.heap) (hbl : Lw X B b) (hZ : leZ ((Sum.elim (fun s : Int32 × Sh × Me => s.2.1) (fun r : Sh × Me => r.1)) o) Z) (h : jL_law_304 L xs T M x1 x2 x3 s0 = some o) (hE : lpE (PL_law_18 X B Z Q b x1 x2) (EL_law_18 X B Z Q b x1 x2) o) : G X B 4 Z Q 304 [(0, .ref (b)), (1, .ref (x1)), (2, .ref (x2)), (3, .int (x3))] [.int (s0)] T M := by
  unfold jL_law_304 at h
  refine g_aload_n (pc := 304) C dL_law_304 rfl 2 rfl ?_
  refine g_aload_n (pc := 305) C dL_law_305 rfl 0 rfl ?_
  refine g_iload_n (pc := 306) C dL_law_306 rfl 3 rfl ?_
  refine g_iconst (pc := 307) (v := 1) C dL_law_307 (by decide) ?_
  refine g_iadd (pc := 308) C dL_law_308 ?_
  replace h := gv_some h; obtain ⟨hi31, h⟩ := h
  refine g_xld (pc := 309) C hX hbl dL_law_309 hi31 ?_
  replace h := gd_some h; obtain ⟨hk32, h⟩ := h
  replace h := bnd2 h; obtain ⟨r33, M34, h1, h⟩ := h
  refine g_callVi (pc := 310) (As := [.int (xs (Int32.toNatClampNeg (x3 + (1 : Int32))))]) (st := [.int (s0)]) C dL_law_310 wX12_lab hk32 rfl (by decide) q_1363 q_1364 q_1362 (by omega) rfl (Nat.le_of_ble_eq_true rfl) (kX12_lab (d := 110) (Nat.le_refl _) h1) ?_
  refine g_icmp_eq (pc := 313) (tgt := 1612) C dL_law_313 (by decide) (fun c35 => ?_) (fun c35 => ?_)
  · replace h := ifp c35 h
    obtain ⟨v36, ev36⟩ : ∃ y : Int32, y = x3 + (6 : Int32) := ⟨_, rfl⟩
    replace h := lt_at ev36 h
    refine g_iinc (pc := 1612) (v := v36) (k := 3) (lo2 := [(3, .int (v36)), (0, .ref (b)), (1, .ref (x1)), (2, .ref (x2))]) C dL_law_1612 rfl (by rw [ev36]; rfl) (by decide) rfl ?_
    refine g_goto (pc := 1615) (tgt := 18) C dL_law_1615 (by decide) ?_
    obtain rfl := Option.some.inj h
    exact g_sub [1, 2, 3, 0] rfl (show G X B 4 Z Q 18 [(0, .ref (b)), (1, .ref (x1)), (2, .ref (x2)), (3, .int (v36))] [] T M34 from hE)
  · replace h := ifn c35 h
    cases h
theorem mjL_law_295 {L : Nat} {xs : Nat → Int32} {T : Sh} {M : Me} {x1 : Nat} {x2 : Nat} {x3 : Int32} {o : (Int32 × Sh × Me) ⊕ ((Sh × Me))} (h : jL_law_295 L xs T M x1 x2 x3 = some o) : leT T ((Sum.elim (fun s : Int32 × Sh × Me => s.2.1) (fun r : Sh × Me => r.1)) o) := by
  unfold jL_law_295 at h
  replace h := gv_some h; obtain ⟨hi26, h⟩ := h
  replace h := gd_some h; obtain ⟨hk27, h⟩ := h
  replace h := bnd3 h; obtain ⟨r28, T30, M29, h1, h⟩ := h
  have hmT30 := mX11_lab h1
  exact (leT.rfl.trans hmT30).trans (mjL_law_304 h)
set_option maxHeartbeats 4000000 in
theorem tjL_law_295 {X : Fx} {B : Bx} {Z : Nat × Nat × Nat × Nat} {Q : State → Prop} {d : Nat} {T : Sh} {M : Me} {x1 : Nat} {x2 : Nat} {x3 : Int32} {o : (Int32 × Sh × Me) ⊕ ((Sh × Me))} (C : Cx X B cL_law 4 RL d Z) (hd : 405 ≤ d) {L : Nat} {xs : Nat → Int32} {b : Nat} (hX : va_X b L xs X.2.2.2.2.1 X.2.2.2.2.1.heap) (hbl : Lw X B b) (hZ : leZ ((Sum.elim (fun s : Int32 × Sh × Me => s.2.1) (fun r : Sh × Me => r.1)) o) Z) (h : jL_law_295 L xs T M x1 x2 x3 = some o) (hE : lpE (PL_law_18 X B Z Q b x1 x2) (EL_law_18 X B Z Q b x1 x2) o) : G X B 4 Z Q 295 [(0, .ref (b)), (1, .ref (x1)), (2, .ref (x2)), (3, .int (x3))] [] T M := by
  unfold jL_law_295 at h
  refine g_aload_n (pc := 295) C dL_law_295 rfl 1 rfl ?_
  refine g_aload_n (pc := 296) C dL_law_296 rfl 0 rfl ?_
  refine g_iload_n (pc := 297) C dL_law_297 rfl 3 rfl ?_
  refine g_iconst (pc := 298) (v := 1) C dL_law_298 (by decide) ?_
  refine g_iadd (pc := 299) C dL_law_299 ?_
  replace h := gv_some h; obtain ⟨hi26, h⟩ := h
  refine g_xld (pc := 300) C hX hbl dL_law_300 hi26 ?_
  replace h := gd_some h; obtain ⟨hk27, h⟩ := h
  replace h := bnd3 h; obtain ⟨r28, T30, M29, h1, h⟩ := h
  have hzT30 := (mjL_law_304 h).Z hZ
  refine g_callViA (pc := 301) (As := [.int (xs (Int32.toNatClampNeg (x3 + (1 : Int32))))]) (st := []) C dL_law_301 wX11_lab hk27 rfl (by decide) q_476 q_477 q_475 (by omega) rfl (Nat.le_of_ble_eq_true rfl) (kX11_lab (d := 107) (Nat.le_refl _) h1) hzT30 ?_
  exact g_sub [0, 1, 2, 3] rfl (tjL_law_304 C hd hX hbl hZ h hE)
theorem mjL_law_318 {L : Nat} {xs : Nat → Int32} {T : Sh} {M : Me} {x1 : Nat} {x2 : Nat} {x3 : Int32} {o : (Int32 × Sh × Me) ⊕ ((Sh × Me))} (h : jL_law_318 L xs T M x1 x2 x3 = some o) : leT T ((Sum.elim (fun s : Int32 × Sh × Me => s.2.1) (fun r : Sh × Me => r.1)) o) := by
  unfold jL_law_318 at h
  replace h := gv_some h; obtain ⟨hi37, h⟩ := h
  replace h := gd_some h; obtain ⟨hk38, h⟩ := h
  replace h := bnd h; obtain ⟨r39, h1, h⟩ := h
  replace h := gv_some h; obtain ⟨hi40, h⟩ := h
  replace h := gd_some h; obtain ⟨hk41, h⟩ := h
  replace h := bnd2 h; obtain ⟨r42, M43, h1, h⟩ := h
  by_cases c44 : r39 = r42
  · replace h := ifp c44 h
    obtain ⟨v45, ev45⟩ : ∃ y : Int32, y = x3 + (6 : Int32) := ⟨_, rfl⟩
    replace h := lt_at ev45 h
    obtain rfl := Option.some.inj h
    exact leT.rfl
  · replace h := ifn c44 h
    cases h
set_option maxHeartbeats 4000000 in
theorem tjL_law_318 {X : Fx} {B : Bx} {Z : Nat × Nat × Nat × Nat} {Q : State → Prop} {d : Nat} {T : Sh} {M : Me} {x1 : Nat} {x2 : Nat} {x3 : Int32} {o : (Int32 × Sh × Me) ⊕ ((Sh × Me))} (C : Cx X B cL_law 4 RL d Z) (hd : 405 ≤ d) {L : Nat} {xs : Nat → Int32} {b : Nat} (hX : va_X b L xs X.2.2.2.2.1 X.2.2.2.2.1.heap) (hbl : Lw X B b) (hZ : leZ ((Sum.elim (fun s : Int32 × Sh × Me => s.2.1) (fun r : Sh × Me => r.1)) o) Z) (h : jL_law_318 L xs T M x1 x2 x3 = some o) (hE : lpE (PL_law_18 X B Z Q b x1 x2) (EL_law_18 X B Z Q b x1 x2) o) : G X B 4 Z Q 318 [(0, .ref (b)), (1, .ref (x1)), (2, .ref (x2)), (3, .int (x3))] [] T M := by
  unfold jL_law_318 at h
  refine g_aload_n (pc := 318) C dL_law_318 rfl 1 rfl ?_
  refine g_aload_n (pc := 319) C dL_law_319 rfl 0 rfl ?_
  refine g_iload_n (pc := 320) C dL_law_320 rfl 3 rfl ?_
  refine g_iconst (pc := 321) (v := 1) C dL_law_321 (by decide) ?_
  refine g_iadd (pc := 322) C dL_law_322 ?_
  replace h := gv_some h; obtain ⟨hi37, h⟩ := h
  refine g_xld (pc := 323) C hX hbl dL_law_323 hi37 ?_
  replace h := gd_some h; obtain ⟨hk38, h⟩ := h
  replace h := bnd h; obtain ⟨r39, h1, h⟩ := h
  refine g_callVi (pc := 324) (As := [.int (xs (Int32.toNatClampNeg (x3 + (1 : Int32))))]) (st := []) C dL_law_324 wX11_fault hk38 rfl (by decide) q_760 q_761 q_759 (by omega) rfl (Nat.le_of_ble_eq_true rfl) (kX11_fault (d := 0) (Nat.le_refl _) h1) ?_
  refine g_aload_n (pc := 327) C dL_law_327 rfl 2 rfl ?_
  refine g_aload_n (pc := 328) C dL_law_328 rfl 0 rfl ?_
  refine g_iload_n (pc := 329) C dL_law_329 rfl 3 rfl ?_
  refine g_iconst (pc := 330) (v := 1) C dL_law_330 (by decide) ?_
  refine g_iadd (pc := 331) C dL_law_331 ?_
  replace h := gv_some h; obtain ⟨hi40, h⟩ := h
  refine g_xld (pc := 332) C hX hbl dL_law_332 hi40 ?_
  replace h := gd_some h; obtain ⟨hk41, h⟩ := h
  replace h := bnd2 h; obtain ⟨r42, M43, h1, h⟩ := h
  refine g_callVi (pc := 333) (As := [.int (xs (Int32.toNatClampNeg (x3 + (1 : Int32))))]) (st := [.int (r39)]) C dL_law_333 wX12_fault hk41 rfl (by decide) q_1472 q_1473 q_1471 (by omega) rfl (Nat.le_of_ble_eq_true rfl) (kX12_fault (d := 0) (Nat.le_refl _) h1) ?_
  refine g_icmp_eq (pc := 336) (tgt := 1612) C dL_law_336 (by decide) (fun c44 => ?_) (fun c44 => ?_)
  · replace h := ifp c44 h
    obtain ⟨v45, ev45⟩ : ∃ y : Int32, y = x3 + (6 : Int32) := ⟨_, rfl⟩
    replace h := lt_at ev45 h
    refine g_iinc (pc := 1612) (v := v45) (k := 3) (lo2 := [(3, .int (v45)), (0, .ref (b)), (1, .ref (x1)), (2, .ref (x2))]) C dL_law_1612 rfl (by rw [ev45]; rfl) (by decide) rfl ?_
    refine g_goto (pc := 1615) (tgt := 18) C dL_law_1615 (by decide) ?_
    obtain rfl := Option.some.inj h
    exact g_sub [1, 2, 3, 0] rfl (show G X B 4 Z Q 18 [(0, .ref (b)), (1, .ref (x1)), (2, .ref (x2)), (3, .int (v45))] [] T M43 from hE)
  · replace h := ifn c44 h
    cases h
theorem mjL_law_341 {L : Nat} {xs : Nat → Int32} {T : Sh} {M : Me} {x1 : Nat} {x2 : Nat} {x3 : Int32} {o : (Int32 × Sh × Me) ⊕ ((Sh × Me))} (h : jL_law_341 L xs T M x1 x2 x3 = some o) : leT T ((Sum.elim (fun s : Int32 × Sh × Me => s.2.1) (fun r : Sh × Me => r.1)) o) := by
  unfold jL_law_341 at h
  replace h := gv_some h; obtain ⟨hi46, h⟩ := h
  replace h := gv_some h; obtain ⟨hi47, h⟩ := h
  replace h := gd_some h; obtain ⟨hk48, h⟩ := h
  replace h := bnd2 h; obtain ⟨r49, M50, h1, h⟩ := h
  replace h := gv_some h; obtain ⟨hi51, h⟩ := h
  replace h := gv_some h; obtain ⟨hi52, h⟩ := h
  replace h := gd_some h; obtain ⟨hk53, h⟩ := h
  replace h := bnd2 h; obtain ⟨r54, M55, h1, h⟩ := h
  by_cases c56 : r49 = r54
  · replace h := ifp c56 h
    obtain ⟨v57, ev57⟩ : ∃ y : Int32, y = x3 + (6 : Int32) := ⟨_, rfl⟩
    replace h := lt_at ev57 h
    obtain rfl := Option.some.inj h
    exact leT.rfl
  · replace h := ifn c56 h
    cases h
set_option maxHeartbeats 4000000 in
theorem tjL_law_341 {X : Fx} {B : Bx} {Z : Nat × Nat × Nat × Nat} {Q : State → Prop} {d : Nat} {T : Sh} {M : Me} {x1 : Nat} {x2 : Nat} {x3 : Int32} {o : (Int32 × Sh × Me) ⊕ ((Sh × Me))} (C : Cx X B cL_law 4 RL d Z) (hd : 405 ≤ d) {L : Nat} {xs : Nat → Int32} {b : Nat} (hX : va_X b L xs X.2.2.2.2.1 X.2.2.2.2.1.heap) (hbl : Lw X B b) (hZ : leZ ((Sum.elim (fun s : Int32 × Sh × Me => s.2.1) (fun r : Sh × Me => r.1)) o) Z) (h : jL_law_341 L xs T M x1 x2 x3 = some o) (hE : lpE (PL_law_18 X B Z Q b x1 x2) (EL_law_18 X B Z Q b x1 x2) o) : G X B 4 Z Q 341 [(0, .ref (b)), (1, .ref (x1)), (2, .ref (x2)), (3, .int (x3))] [] T M := by
  unfold jL_law_341 at h
  refine g_aload_n (pc := 341) C dL_law_341 rfl 1 rfl ?_
  refine g_aload_n (pc := 342) C dL_law_342 rfl 0 rfl ?_
  refine g_iload_n (pc := 343) C dL_law_343 rfl 3 rfl ?_
  refine g_iconst (pc := 344) (v := 1) C dL_law_344 (by decide) ?_
  refine g_iadd (pc := 345) C dL_law_345 ?_
  replace h := gv_some h; obtain ⟨hi46, h⟩ := h
  refine g_xld (pc := 346) C hX hbl dL_law_346 hi46 ?_
  refine g_aload_n (pc := 347) C dL_law_347 rfl 0 rfl ?_
  refine g_iload_n (pc := 348) C dL_law_348 rfl 3 rfl ?_
  refine g_iconst (pc := 349) (v := 2) C dL_law_349 (by decide) ?_
  refine g_iadd (pc := 350) C dL_law_350 ?_
  replace h := gv_some h; obtain ⟨hi47, h⟩ := h
  refine g_xld (pc := 351) C hX hbl dL_law_351 hi47 ?_
  replace h := gd_some h; obtain ⟨hk48, h⟩ := h
  replace h := bnd2 h; obtain ⟨r49, M50, h1, h⟩ := h
  refine g_callVi (pc := 352) (As := [.int (xs (Int32.toNatClampNeg (x3 + (1 : Int32)))), .int (xs (Int32.toNatClampNeg (x3 + (2 : Int32))))]) (st := []) C dL_law_352 wX11_lane hk48 rfl (by decide) q_764 q_765 q_763 (by omega) rfl (Nat.le_of_ble_eq_true rfl) (kX11_lane (d := 5) (Nat.le_refl _) h1) ?_
  refine g_aload_n (pc := 355) C dL_law_355 rfl 2 rfl ?_
  refine g_aload_n (pc := 356) C dL_law_356 rfl 0 rfl ?_
  refine g_iload_n (pc := 357) C dL_law_357 rfl 3 rfl ?_
  refine g_iconst (pc := 358) (v := 1) C dL_law_358 (by decide) ?_
  refine g_iadd (pc := 359) C dL_law_359 ?_
  replace h := gv_some h; obtain ⟨hi51, h⟩ := h
  refine g_xld (pc := 360) C hX hbl dL_law_360 hi51 ?_
  refine g_aload_n (pc := 361) C dL_law_361 rfl 0 rfl ?_
  refine g_iload_n (pc := 362) C dL_law_362 rfl 3 rfl ?_
  refine g_iconst (pc := 363) (v := 2) C dL_law_363 (by decide) ?_
  refine g_iadd (pc := 364) C dL_law_364 ?_
  replace h := gv_some h; obtain ⟨hi52, h⟩ := h
  refine g_xld (pc := 365) C hX hbl dL_law_365 hi52 ?_
  replace h := gd_some h; obtain ⟨hk53, h⟩ := h
  replace h := bnd2 h; obtain ⟨r54, M55, h1, h⟩ := h
  refine g_callVi (pc := 366) (As := [.int (xs (Int32.toNatClampNeg (x3 + (1 : Int32)))), .int (xs (Int32.toNatClampNeg (x3 + (2 : Int32))))]) (st := [.int (r49)]) C dL_law_366 wX12_lane hk53 rfl (by decide) q_1476 q_1477 q_1475 (by omega) rfl (Nat.le_of_ble_eq_true rfl) (kX12_lane (d := 4) (Nat.le_refl _) h1) ?_
  refine g_icmp_eq (pc := 369) (tgt := 1612) C dL_law_369 (by decide) (fun c56 => ?_) (fun c56 => ?_)
  · replace h := ifp c56 h
    obtain ⟨v57, ev57⟩ : ∃ y : Int32, y = x3 + (6 : Int32) := ⟨_, rfl⟩
    replace h := lt_at ev57 h
    refine g_iinc (pc := 1612) (v := v57) (k := 3) (lo2 := [(3, .int (v57)), (0, .ref (b)), (1, .ref (x1)), (2, .ref (x2))]) C dL_law_1612 rfl (by rw [ev57]; rfl) (by decide) rfl ?_
    refine g_goto (pc := 1615) (tgt := 18) C dL_law_1615 (by decide) ?_
    obtain rfl := Option.some.inj h
    exact g_sub [1, 2, 3, 0] rfl (show G X B 4 Z Q 18 [(0, .ref (b)), (1, .ref (x1)), (2, .ref (x2)), (3, .int (v57))] [] T M55 from hE)
  · replace h := ifn c56 h
    cases h
theorem mjL_law_374 {L : Nat} {xs : Nat → Int32} {T : Sh} {M : Me} {x1 : Nat} {x2 : Nat} {x3 : Int32} {o : (Int32 × Sh × Me) ⊕ ((Sh × Me))} (h : jL_law_374 L xs T M x1 x2 x3 = some o) : leT T ((Sum.elim (fun s : Int32 × Sh × Me => s.2.1) (fun r : Sh × Me => r.1)) o) := by
  unfold jL_law_374 at h
  replace h := gv_some h; obtain ⟨hi58, h⟩ := h
  replace h := gd_some h; obtain ⟨hk59, h⟩ := h
  replace h := bnd h; obtain ⟨r60, h1, h⟩ := h
  replace h := gv_some h; obtain ⟨hi61, h⟩ := h
  replace h := gd_some h; obtain ⟨hk62, h⟩ := h
  replace h := bnd2 h; obtain ⟨r63, M64, h1, h⟩ := h
  by_cases c65 : r60 = r63
  · replace h := ifp c65 h
    obtain ⟨v66, ev66⟩ : ∃ y : Int32, y = x3 + (6 : Int32) := ⟨_, rfl⟩
    replace h := lt_at ev66 h
    obtain rfl := Option.some.inj h
    exact leT.rfl
  · replace h := ifn c65 h
    cases h
set_option maxHeartbeats 4000000 in
theorem tjL_law_374 {X : Fx} {B : Bx} {Z : Nat × Nat × Nat × Nat} {Q : State → Prop} {d : Nat} {T : Sh} {M : Me} {x1 : Nat} {x2 : Nat} {x3 : Int32} {o : (Int32 × Sh × Me) ⊕ ((Sh × Me))} (C : Cx X B cL_law 4 RL d Z) (hd : 405 ≤ d) {L : Nat} {xs : Nat → Int32} {b : Nat} (hX : va_X b L xs X.2.2.2.2.1 X.2.2.2.2.1.heap) (hbl : Lw X B b) (hZ : leZ ((Sum.elim (fun s : Int32 × Sh × Me => s.2.1) (fun r : Sh × Me => r.1)) o) Z) (h : jL_law_374 L xs T M x1 x2 x3 = some o) (hE : lpE (PL_law_18 X B Z Q b x1 x2) (EL_law_18 X B Z Q b x1 x2) o) : G X B 4 Z Q 374 [(0, .ref (b)), (1, .ref (x1)), (2, .ref (x2)), (3, .int (x3))] [] T M := by
  unfold jL_law_374 at h
  refine g_aload_n (pc := 374) C dL_law_374 rfl 1 rfl ?_
  refine g_aload_n (pc := 375) C dL_law_375 rfl 0 rfl ?_
  refine g_iload_n (pc := 376) C dL_law_376 rfl 3 rfl ?_
  refine g_iconst (pc := 377) (v := 1) C dL_law_377 (by decide) ?_
  refine g_iadd (pc := 378) C dL_law_378 ?_
  replace h := gv_some h; obtain ⟨hi58, h⟩ := h
  refine g_xld (pc := 379) C hX hbl dL_law_379 hi58 ?_
  replace h := gd_some h; obtain ⟨hk59, h⟩ := h
  replace h := bnd h; obtain ⟨r60, h1, h⟩ := h
  refine g_callVi (pc := 380) (As := [.int (xs (Int32.toNatClampNeg (x3 + (1 : Int32))))]) (st := []) C dL_law_380 wX11_stress hk59 rfl (by decide) q_810 q_811 q_809 (by omega) rfl (Nat.le_of_ble_eq_true rfl) (kX11_stress (d := 0) (Nat.le_refl _) h1) ?_
  refine g_aload_n (pc := 383) C dL_law_383 rfl 2 rfl ?_
  refine g_aload_n (pc := 384) C dL_law_384 rfl 0 rfl ?_
  refine g_iload_n (pc := 385) C dL_law_385 rfl 3 rfl ?_
  refine g_iconst (pc := 386) (v := 1) C dL_law_386 (by decide) ?_
  refine g_iadd (pc := 387) C dL_law_387 ?_
  replace h := gv_some h; obtain ⟨hi61, h⟩ := h
  refine g_xld (pc := 388) C hX hbl dL_law_388 hi61 ?_
  replace h := gd_some h; obtain ⟨hk62, h⟩ := h
  replace h := bnd2 h; obtain ⟨r63, M64, h1, h⟩ := h
  refine g_callVi (pc := 389) (As := [.int (xs (Int32.toNatClampNeg (x3 + (1 : Int32))))]) (st := [.int (r60)]) C dL_law_389 wX12_stress hk62 rfl (by decide) q_1512 q_1513 q_1511 (by omega) rfl (Nat.le_of_ble_eq_true rfl) (kX12_stress (d := 2) (Nat.le_refl _) h1) ?_
  refine g_icmp_eq (pc := 392) (tgt := 1612) C dL_law_392 (by decide) (fun c65 => ?_) (fun c65 => ?_)
  · replace h := ifp c65 h
    obtain ⟨v66, ev66⟩ : ∃ y : Int32, y = x3 + (6 : Int32) := ⟨_, rfl⟩
    replace h := lt_at ev66 h
    refine g_iinc (pc := 1612) (v := v66) (k := 3) (lo2 := [(3, .int (v66)), (0, .ref (b)), (1, .ref (x1)), (2, .ref (x2))]) C dL_law_1612 rfl (by rw [ev66]; rfl) (by decide) rfl ?_
    refine g_goto (pc := 1615) (tgt := 18) C dL_law_1615 (by decide) ?_
    obtain rfl := Option.some.inj h
    exact g_sub [1, 2, 3, 0] rfl (show G X B 4 Z Q 18 [(0, .ref (b)), (1, .ref (x1)), (2, .ref (x2)), (3, .int (v66))] [] T M64 from hE)
  · replace h := ifn c65 h
    cases h
theorem mjL_law_397 {L : Nat} {xs : Nat → Int32} {T : Sh} {M : Me} {x1 : Nat} {x2 : Nat} {x3 : Int32} {o : (Int32 × Sh × Me) ⊕ ((Sh × Me))} (h : jL_law_397 L xs T M x1 x2 x3 = some o) : leT T ((Sum.elim (fun s : Int32 × Sh × Me => s.2.1) (fun r : Sh × Me => r.1)) o) := by
  unfold jL_law_397 at h
  replace h := gv_some h; obtain ⟨hi67, h⟩ := h
  replace h := gd_some h; obtain ⟨hk68, h⟩ := h
  replace h := bnd2 h; obtain ⟨r69, M70, h1, h⟩ := h
  replace h := gv_some h; obtain ⟨hi71, h⟩ := h
  replace h := gd_some h; obtain ⟨hk72, h⟩ := h
  replace h := bnd2 h; obtain ⟨r73, M74, h1, h⟩ := h
  by_cases c75 : r69 = r73
  · replace h := ifp c75 h
    obtain ⟨v76, ev76⟩ : ∃ y : Int32, y = x3 + (6 : Int32) := ⟨_, rfl⟩
    replace h := lt_at ev76 h
    obtain rfl := Option.some.inj h
    exact leT.rfl
  · replace h := ifn c75 h
    cases h
set_option maxHeartbeats 4000000 in
theorem tjL_law_397 {X : Fx} {B : Bx} {Z : Nat × Nat × Nat × Nat} {Q : State → Prop} {d : Nat} {T : Sh} {M : Me} {x1 : Nat} {x2 : Nat} {x3 : Int32} {o : (Int32 × Sh × Me) ⊕ ((Sh × Me))} (C : Cx X B cL_law 4 RL d Z) (hd : 405 ≤ d) {L : Nat} {xs : Nat → Int32} {b : Nat} (hX : va_X b L xs X.2.2.2.2.1 X.2.2.2.2.1.heap) (hbl : Lw X B b) (hZ : leZ ((Sum.elim (fun s : Int32 × Sh × Me => s.2.1) (fun r : Sh × Me => r.1)) o) Z) (h : jL_law_397 L xs T M x1 x2 x3 = some o) (hE : lpE (PL_law_18 X B Z Q b x1 x2) (EL_law_18 X B Z Q b x1 x2) o) : G X B 4 Z Q 397 [(0, .ref (b)), (1, .ref (x1)), (2, .ref (x2)), (3, .int (x3))] [] T M := by
  unfold jL_law_397 at h
  refine g_aload_n (pc := 397) C dL_law_397 rfl 1 rfl ?_
  refine g_aload_n (pc := 398) C dL_law_398 rfl 0 rfl ?_
  refine g_iload_n (pc := 399) C dL_law_399 rfl 3 rfl ?_
  refine g_iconst (pc := 400) (v := 1) C dL_law_400 (by decide) ?_
  refine g_iadd (pc := 401) C dL_law_401 ?_
  replace h := gv_some h; obtain ⟨hi67, h⟩ := h
  refine g_xld (pc := 402) C hX hbl dL_law_402 hi67 ?_
  replace h := gd_some h; obtain ⟨hk68, h⟩ := h
  replace h := bnd2 h; obtain ⟨r69, M70, h1, h⟩ := h
  refine g_callVi (pc := 403) (As := [.int (xs (Int32.toNatClampNeg (x3 + (1 : Int32))))]) (st := []) C dL_law_403 wX11_drift hk68 rfl (by decide) q_814 q_815 q_813 (by omega) rfl (Nat.le_of_ble_eq_true rfl) (kX11_drift (d := 2) (Nat.le_refl _) h1) ?_
  refine g_aload_n (pc := 406) C dL_law_406 rfl 2 rfl ?_
  refine g_aload_n (pc := 407) C dL_law_407 rfl 0 rfl ?_
  refine g_iload_n (pc := 408) C dL_law_408 rfl 3 rfl ?_
  refine g_iconst (pc := 409) (v := 1) C dL_law_409 (by decide) ?_
  refine g_iadd (pc := 410) C dL_law_410 ?_
  replace h := gv_some h; obtain ⟨hi71, h⟩ := h
  refine g_xld (pc := 411) C hX hbl dL_law_411 hi71 ?_
  replace h := gd_some h; obtain ⟨hk72, h⟩ := h
  replace h := bnd2 h; obtain ⟨r73, M74, h1, h⟩ := h
  refine g_callVi (pc := 412) (As := [.int (xs (Int32.toNatClampNeg (x3 + (1 : Int32))))]) (st := [.int (r69)]) C dL_law_412 wX12_drift hk72 rfl (by decide) q_1520 q_1521 q_1519 (by omega) rfl (Nat.le_of_ble_eq_true rfl) (kX12_drift (d := 3) (Nat.le_refl _) h1) ?_
  refine g_icmp_eq (pc := 415) (tgt := 1612) C dL_law_415 (by decide) (fun c75 => ?_) (fun c75 => ?_)
  · replace h := ifp c75 h
    obtain ⟨v76, ev76⟩ : ∃ y : Int32, y = x3 + (6 : Int32) := ⟨_, rfl⟩
    replace h := lt_at ev76 h
    refine g_iinc (pc := 1612) (v := v76) (k := 3) (lo2 := [(3, .int (v76)), (0, .ref (b)), (1, .ref (x1)), (2, .ref (x2))]) C dL_law_1612 rfl (by rw [ev76]; rfl) (by decide) rfl ?_
    refine g_goto (pc := 1615) (tgt := 18) C dL_law_1615 (by decide) ?_
    obtain rfl := Option.some.inj h
    exact g_sub [1, 2, 3, 0] rfl (show G X B 4 Z Q 18 [(0, .ref (b)), (1, .ref (x1)), (2, .ref (x2)), (3, .int (v76))] [] T M74 from hE)
  · replace h := ifn c75 h
    cases h
theorem mjL_law_420 {L : Nat} {xs : Nat → Int32} {T : Sh} {M : Me} {x1 : Nat} {x2 : Nat} {x3 : Int32} {o : (Int32 × Sh × Me) ⊕ ((Sh × Me))} (h : jL_law_420 L xs T M x1 x2 x3 = some o) : leT T ((Sum.elim (fun s : Int32 × Sh × Me => s.2.1) (fun r : Sh × Me => r.1)) o) := by
  unfold jL_law_420 at h
  replace h := gv_some h; obtain ⟨hi77, h⟩ := h
  replace h := gv_some h; obtain ⟨hi78, h⟩ := h
  replace h := gd_some h; obtain ⟨hk79, h⟩ := h
  replace h := bnd2 h; obtain ⟨r80, M81, h1, h⟩ := h
  replace h := gv_some h; obtain ⟨hi82, h⟩ := h
  replace h := gv_some h; obtain ⟨hi83, h⟩ := h
  replace h := gd_some h; obtain ⟨hk84, h⟩ := h
  replace h := bnd2 h; obtain ⟨r85, M86, h1, h⟩ := h
  by_cases c87 : r80 = r85
  · replace h := ifp c87 h
    obtain ⟨v88, ev88⟩ : ∃ y : Int32, y = x3 + (6 : Int32) := ⟨_, rfl⟩
    replace h := lt_at ev88 h
    obtain rfl := Option.some.inj h
    exact leT.rfl
  · replace h := ifn c87 h
    cases h
set_option maxHeartbeats 4000000 in
theorem tjL_law_420 {X : Fx} {B : Bx} {Z : Nat × Nat × Nat × Nat} {Q : State → Prop} {d : Nat} {T : Sh} {M : Me} {x1 : Nat} {x2 : Nat} {x3 : Int32} {o : (Int32 × Sh × Me) ⊕ ((Sh × Me))} (C : Cx X B cL_law 4 RL d Z) (hd : 405 ≤ d) {L : Nat} {xs : Nat → Int32} {b : Nat} (hX : va_X b L xs X.2.2.2.2.1 X.2.2.2.2.1.heap) (hbl : Lw X B b) (hZ : leZ ((Sum.elim (fun s : Int32 × Sh × Me => s.2.1) (fun r : Sh × Me => r.1)) o) Z) (h : jL_law_420 L xs T M x1 x2 x3 = some o) (hE : lpE (PL_law_18 X B Z Q b x1 x2) (EL_law_18 X B Z Q b x1 x2) o) : G X B 4 Z Q 420 [(0, .ref (b)), (1, .ref (x1)), (2, .ref (x2)), (3, .int (x3))] [] T M := by
  unfold jL_law_420 at h
  refine g_aload_n (pc := 420) C dL_law_420 rfl 1 rfl ?_
  refine g_aload_n (pc := 421) C dL_law_421 rfl 0 rfl ?_
  refine g_iload_n (pc := 422) C dL_law_422 rfl 3 rfl ?_
  refine g_iconst (pc := 423) (v := 1) C dL_law_423 (by decide) ?_
  refine g_iadd (pc := 424) C dL_law_424 ?_
  replace h := gv_some h; obtain ⟨hi77, h⟩ := h
  refine g_xld (pc := 425) C hX hbl dL_law_425 hi77 ?_
  refine g_aload_n (pc := 426) C dL_law_426 rfl 0 rfl ?_
  refine g_iload_n (pc := 427) C dL_law_427 rfl 3 rfl ?_
  refine g_iconst (pc := 428) (v := 2) C dL_law_428 (by decide) ?_
  refine g_iadd (pc := 429) C dL_law_429 ?_
  replace h := gv_some h; obtain ⟨hi78, h⟩ := h
  refine g_xld (pc := 430) C hX hbl dL_law_430 hi78 ?_
  replace h := gd_some h; obtain ⟨hk79, h⟩ := h
  replace h := bnd2 h; obtain ⟨r80, M81, h1, h⟩ := h
  refine g_callVi (pc := 431) (As := [.int (xs (Int32.toNatClampNeg (x3 + (1 : Int32)))), .int (xs (Int32.toNatClampNeg (x3 + (2 : Int32))))]) (st := []) C dL_law_431 wX11_passes hk79 rfl (by decide) q_819 q_820 q_818 (by omega) rfl (Nat.le_of_ble_eq_true rfl) (kX11_passes (d := 4) (Nat.le_refl _) h1) ?_
  refine g_aload_n (pc := 434) C dL_law_434 rfl 2 rfl ?_
  refine g_aload_n (pc := 435) C dL_law_435 rfl 0 rfl ?_
  refine g_iload_n (pc := 436) C dL_law_436 rfl 3 rfl ?_
  refine g_iconst (pc := 437) (v := 1) C dL_law_437 (by decide) ?_
  refine g_iadd (pc := 438) C dL_law_438 ?_
  replace h := gv_some h; obtain ⟨hi82, h⟩ := h
  refine g_xld (pc := 439) C hX hbl dL_law_439 hi82 ?_
  refine g_aload_n (pc := 440) C dL_law_440 rfl 0 rfl ?_
  refine g_iload_n (pc := 441) C dL_law_441 rfl 3 rfl ?_
  refine g_iconst (pc := 442) (v := 2) C dL_law_442 (by decide) ?_
  refine g_iadd (pc := 443) C dL_law_443 ?_
  replace h := gv_some h; obtain ⟨hi83, h⟩ := h
  refine g_xld (pc := 444) C hX hbl dL_law_444 hi83 ?_
  replace h := gd_some h; obtain ⟨hk84, h⟩ := h
  replace h := bnd2 h; obtain ⟨r85, M86, h1, h⟩ := h
  refine g_callVi (pc := 445) (As := [.int (xs (Int32.toNatClampNeg (x3 + (1 : Int32)))), .int (xs (Int32.toNatClampNeg (x3 + (2 : Int32))))]) (st := [.int (r80)]) C dL_law_445 wX12_passes hk84 rfl (by decide) q_1526 q_1527 q_1525 (by omega) rfl (Nat.le_of_ble_eq_true rfl) (kX12_passes (d := 4) (Nat.le_refl _) h1) ?_
  refine g_icmp_eq (pc := 448) (tgt := 1612) C dL_law_448 (by decide) (fun c87 => ?_) (fun c87 => ?_)
  · replace h := ifp c87 h
    obtain ⟨v88, ev88⟩ : ∃ y : Int32, y = x3 + (6 : Int32) := ⟨_, rfl⟩
    replace h := lt_at ev88 h
    refine g_iinc (pc := 1612) (v := v88) (k := 3) (lo2 := [(3, .int (v88)), (0, .ref (b)), (1, .ref (x1)), (2, .ref (x2))]) C dL_law_1612 rfl (by rw [ev88]; rfl) (by decide) rfl ?_
    refine g_goto (pc := 1615) (tgt := 18) C dL_law_1615 (by decide) ?_
    obtain rfl := Option.some.inj h
    exact g_sub [1, 2, 3, 0] rfl (show G X B 4 Z Q 18 [(0, .ref (b)), (1, .ref (x1)), (2, .ref (x2)), (3, .int (v88))] [] T M86 from hE)
  · replace h := ifn c87 h
    cases h
theorem mjL_law_453 {L : Nat} {xs : Nat → Int32} {T : Sh} {M : Me} {x1 : Nat} {x2 : Nat} {x3 : Int32} {o : (Int32 × Sh × Me) ⊕ ((Sh × Me))} (h : jL_law_453 L xs T M x1 x2 x3 = some o) : leT T ((Sum.elim (fun s : Int32 × Sh × Me => s.2.1) (fun r : Sh × Me => r.1)) o) := by
  unfold jL_law_453 at h
  replace h := gv_some h; obtain ⟨hi89, h⟩ := h
  replace h := gv_some h; obtain ⟨hi90, h⟩ := h
  replace h := gd_some h; obtain ⟨hk91, h⟩ := h
  replace h := bnd2 h; obtain ⟨r92, M93, h1, h⟩ := h
  replace h := gv_some h; obtain ⟨hi94, h⟩ := h
  replace h := gv_some h; obtain ⟨hi95, h⟩ := h
  replace h := gd_some h; obtain ⟨hk96, h⟩ := h
  replace h := bnd2 h; obtain ⟨r97, M98, h1, h⟩ := h
  by_cases c99 : r92 = r97
  · replace h := ifp c99 h
    obtain ⟨v100, ev100⟩ : ∃ y : Int32, y = x3 + (6 : Int32) := ⟨_, rfl⟩
    replace h := lt_at ev100 h
    obtain rfl := Option.some.inj h
    exact leT.rfl
  · replace h := ifn c99 h
    cases h
set_option maxHeartbeats 4000000 in
theorem tjL_law_453 {X : Fx} {B : Bx} {Z : Nat × Nat × Nat × Nat} {Q : State → Prop} {d : Nat} {T : Sh} {M : Me} {x1 : Nat} {x2 : Nat} {x3 : Int32} {o : (Int32 × Sh × Me) ⊕ ((Sh × Me))} (C : Cx X B cL_law 4 RL d Z) (hd : 405 ≤ d) {L : Nat} {xs : Nat → Int32} {b : Nat} (hX : va_X b L xs X.2.2.2.2.1 X.2.2.2.2.1.heap) (hbl : Lw X B b) (hZ : leZ ((Sum.elim (fun s : Int32 × Sh × Me => s.2.1) (fun r : Sh × Me => r.1)) o) Z) (h : jL_law_453 L xs T M x1 x2 x3 = some o) (hE : lpE (PL_law_18 X B Z Q b x1 x2) (EL_law_18 X B Z Q b x1 x2) o) : G X B 4 Z Q 453 [(0, .ref (b)), (1, .ref (x1)), (2, .ref (x2)), (3, .int (x3))] [] T M := by
  unfold jL_law_453 at h
  refine g_aload_n (pc := 453) C dL_law_453 rfl 1 rfl ?_
  refine g_aload_n (pc := 454) C dL_law_454 rfl 0 rfl ?_
  refine g_iload_n (pc := 455) C dL_law_455 rfl 3 rfl ?_
  refine g_iconst (pc := 456) (v := 1) C dL_law_456 (by decide) ?_
  refine g_iadd (pc := 457) C dL_law_457 ?_
  replace h := gv_some h; obtain ⟨hi89, h⟩ := h
  refine g_xld (pc := 458) C hX hbl dL_law_458 hi89 ?_
  refine g_aload_n (pc := 459) C dL_law_459 rfl 0 rfl ?_
  refine g_iload_n (pc := 460) C dL_law_460 rfl 3 rfl ?_
  refine g_iconst (pc := 461) (v := 2) C dL_law_461 (by decide) ?_
  refine g_iadd (pc := 462) C dL_law_462 ?_
  replace h := gv_some h; obtain ⟨hi90, h⟩ := h
  refine g_xld (pc := 463) C hX hbl dL_law_463 hi90 ?_
  replace h := gd_some h; obtain ⟨hk91, h⟩ := h
  replace h := bnd2 h; obtain ⟨r92, M93, h1, h⟩ := h
  refine g_callVi (pc := 464) (As := [.int (xs (Int32.toNatClampNeg (x3 + (1 : Int32)))), .int (xs (Int32.toNatClampNeg (x3 + (2 : Int32))))]) (st := []) C dL_law_464 wX11_row hk91 rfl (by decide) q_830 q_831 q_829 (by omega) rfl (Nat.le_of_ble_eq_true rfl) (kX11_row (d := 4) (Nat.le_refl _) h1) ?_
  refine g_aload_n (pc := 467) C dL_law_467 rfl 2 rfl ?_
  refine g_aload_n (pc := 468) C dL_law_468 rfl 0 rfl ?_
  refine g_iload_n (pc := 469) C dL_law_469 rfl 3 rfl ?_
  refine g_iconst (pc := 470) (v := 1) C dL_law_470 (by decide) ?_
  refine g_iadd (pc := 471) C dL_law_471 ?_
  replace h := gv_some h; obtain ⟨hi94, h⟩ := h
  refine g_xld (pc := 472) C hX hbl dL_law_472 hi94 ?_
  refine g_aload_n (pc := 473) C dL_law_473 rfl 0 rfl ?_
  refine g_iload_n (pc := 474) C dL_law_474 rfl 3 rfl ?_
  refine g_iconst (pc := 475) (v := 2) C dL_law_475 (by decide) ?_
  refine g_iadd (pc := 476) C dL_law_476 ?_
  replace h := gv_some h; obtain ⟨hi95, h⟩ := h
  refine g_xld (pc := 477) C hX hbl dL_law_477 hi95 ?_
  replace h := gd_some h; obtain ⟨hk96, h⟩ := h
  replace h := bnd2 h; obtain ⟨r97, M98, h1, h⟩ := h
  refine g_callVi (pc := 478) (As := [.int (xs (Int32.toNatClampNeg (x3 + (1 : Int32)))), .int (xs (Int32.toNatClampNeg (x3 + (2 : Int32))))]) (st := [.int (r92)]) C dL_law_478 wX12_row hk96 rfl (by decide) q_1534 q_1535 q_1533 (by omega) rfl (Nat.le_of_ble_eq_true rfl) (kX12_row (d := 4) (Nat.le_refl _) h1) ?_
  refine g_icmp_eq (pc := 481) (tgt := 1612) C dL_law_481 (by decide) (fun c99 => ?_) (fun c99 => ?_)
  · replace h := ifp c99 h
    obtain ⟨v100, ev100⟩ : ∃ y : Int32, y = x3 + (6 : Int32) := ⟨_, rfl⟩
    replace h := lt_at ev100 h
    refine g_iinc (pc := 1612) (v := v100) (k := 3) (lo2 := [(3, .int (v100)), (0, .ref (b)), (1, .ref (x1)), (2, .ref (x2))]) C dL_law_1612 rfl (by rw [ev100]; rfl) (by decide) rfl ?_
    refine g_goto (pc := 1615) (tgt := 18) C dL_law_1615 (by decide) ?_
    obtain rfl := Option.some.inj h
    exact g_sub [1, 2, 3, 0] rfl (show G X B 4 Z Q 18 [(0, .ref (b)), (1, .ref (x1)), (2, .ref (x2)), (3, .int (v100))] [] T M98 from hE)
  · replace h := ifn c99 h
    cases h
theorem mjL_law_486 {L : Nat} {xs : Nat → Int32} {T : Sh} {M : Me} {x1 : Nat} {x2 : Nat} {x3 : Int32} {o : (Int32 × Sh × Me) ⊕ ((Sh × Me))} (h : jL_law_486 L xs T M x1 x2 x3 = some o) : leT T ((Sum.elim (fun s : Int32 × Sh × Me => s.2.1) (fun r : Sh × Me => r.1)) o) := by
  unfold jL_law_486 at h
  replace h := gv_some h; obtain ⟨hi101, h⟩ := h
  replace h := gd_some h; obtain ⟨hk102, h⟩ := h
  replace h := bnd2 h; obtain ⟨r103, M104, h1, h⟩ := h
  replace h := gv_some h; obtain ⟨hi105, h⟩ := h
  replace h := gd_some h; obtain ⟨hk106, h⟩ := h
  replace h := bnd2 h; obtain ⟨r107, M108, h1, h⟩ := h
  by_cases c109 : r103 = r107
  · replace h := ifp c109 h
    obtain ⟨v110, ev110⟩ : ∃ y : Int32, y = x3 + (6 : Int32) := ⟨_, rfl⟩
    replace h := lt_at ev110 h
    obtain rfl := Option.some.inj h
    exact leT.rfl
  · replace h := ifn c109 h
    cases h
set_option maxHeartbeats 4000000 in
theorem tjL_law_486 {X : Fx} {B : Bx} {Z : Nat × Nat × Nat × Nat} {Q : State → Prop} {d : Nat} {T : Sh} {M : Me} {x1 : Nat} {x2 : Nat} {x3 : Int32} {o : (Int32 × Sh × Me) ⊕ ((Sh × Me))} (C : Cx X B cL_law 4 RL d Z) (hd : 405 ≤ d) {L : Nat} {xs : Nat → Int32} {b : Nat} (hX : va_X b L xs X.2.2.2.2.1 X.2.2.2.2.1.heap) (hbl : Lw X B b) (hZ : leZ ((Sum.elim (fun s : Int32 × Sh × Me => s.2.1) (fun r : Sh × Me => r.1)) o) Z) (h : jL_law_486 L xs T M x1 x2 x3 = some o) (hE : lpE (PL_law_18 X B Z Q b x1 x2) (EL_law_18 X B Z Q b x1 x2) o) : G X B 4 Z Q 486 [(0, .ref (b)), (1, .ref (x1)), (2, .ref (x2)), (3, .int (x3))] [] T M := by
  unfold jL_law_486 at h
  refine g_aload_n (pc := 486) C dL_law_486 rfl 1 rfl ?_
  refine g_aload_n (pc := 487) C dL_law_487 rfl 0 rfl ?_
  refine g_iload_n (pc := 488) C dL_law_488 rfl 3 rfl ?_
  refine g_iconst (pc := 489) (v := 1) C dL_law_489 (by decide) ?_
  refine g_iadd (pc := 490) C dL_law_490 ?_
  replace h := gv_some h; obtain ⟨hi101, h⟩ := h
  refine g_xld (pc := 491) C hX hbl dL_law_491 hi101 ?_
  replace h := gd_some h; obtain ⟨hk102, h⟩ := h
  replace h := bnd2 h; obtain ⟨r103, M104, h1, h⟩ := h
  refine g_callVi (pc := 492) (As := [.int (xs (Int32.toNatClampNeg (x3 + (1 : Int32))))]) (st := []) C dL_law_492 wX11_risen hk102 rfl (by decide) q_834 q_835 q_833 (by omega) rfl (Nat.le_of_ble_eq_true rfl) (kX11_risen (d := 2) (Nat.le_refl _) h1) ?_
  refine g_aload_n (pc := 495) C dL_law_495 rfl 2 rfl ?_
  refine g_aload_n (pc := 496) C dL_law_496 rfl 0 rfl ?_
  refine g_iload_n (pc := 497) C dL_law_497 rfl 3 rfl ?_
  refine g_iconst (pc := 498) (v := 1) C dL_law_498 (by decide) ?_
  refine g_iadd (pc := 499) C dL_law_499 ?_
  replace h := gv_some h; obtain ⟨hi105, h⟩ := h
  refine g_xld (pc := 500) C hX hbl dL_law_500 hi105 ?_
  replace h := gd_some h; obtain ⟨hk106, h⟩ := h
  replace h := bnd2 h; obtain ⟨r107, M108, h1, h⟩ := h
  refine g_callVi (pc := 501) (As := [.int (xs (Int32.toNatClampNeg (x3 + (1 : Int32))))]) (st := [.int (r103)]) C dL_law_501 wX12_risen hk106 rfl (by decide) q_1543 q_1544 q_1542 (by omega) rfl (Nat.le_of_ble_eq_true rfl) (kX12_risen (d := 4) (Nat.le_refl _) h1) ?_
  refine g_icmp_eq (pc := 504) (tgt := 1612) C dL_law_504 (by decide) (fun c109 => ?_) (fun c109 => ?_)
  · replace h := ifp c109 h
    obtain ⟨v110, ev110⟩ : ∃ y : Int32, y = x3 + (6 : Int32) := ⟨_, rfl⟩
    replace h := lt_at ev110 h
    refine g_iinc (pc := 1612) (v := v110) (k := 3) (lo2 := [(3, .int (v110)), (0, .ref (b)), (1, .ref (x1)), (2, .ref (x2))]) C dL_law_1612 rfl (by rw [ev110]; rfl) (by decide) rfl ?_
    refine g_goto (pc := 1615) (tgt := 18) C dL_law_1615 (by decide) ?_
    obtain rfl := Option.some.inj h
    exact g_sub [1, 2, 3, 0] rfl (show G X B 4 Z Q 18 [(0, .ref (b)), (1, .ref (x1)), (2, .ref (x2)), (3, .int (v110))] [] T M108 from hE)
  · replace h := ifn c109 h
    cases h
theorem mjL_law_509 {L : Nat} {xs : Nat → Int32} {T : Sh} {M : Me} {x1 : Nat} {x2 : Nat} {x3 : Int32} {o : (Int32 × Sh × Me) ⊕ ((Sh × Me))} (h : jL_law_509 L xs T M x1 x2 x3 = some o) : leT T ((Sum.elim (fun s : Int32 × Sh × Me => s.2.1) (fun r : Sh × Me => r.1)) o) := by
  unfold jL_law_509 at h
  replace h := gv_some h; obtain ⟨hi111, h⟩ := h
  replace h := gv_some h; obtain ⟨hi112, h⟩ := h
  replace h := gd_some h; obtain ⟨hk113, h⟩ := h
  replace h := bnd2 h; obtain ⟨r114, M115, h1, h⟩ := h
  replace h := gv_some h; obtain ⟨hi116, h⟩ := h
  replace h := gv_some h; obtain ⟨hi117, h⟩ := h
  replace h := gd_some h; obtain ⟨hk118, h⟩ := h
  replace h := bnd2 h; obtain ⟨r119, M120, h1, h⟩ := h
  by_cases c121 : r114 = r119
  · replace h := ifp c121 h
    obtain ⟨v122, ev122⟩ : ∃ y : Int32, y = x3 + (6 : Int32) := ⟨_, rfl⟩
    replace h := lt_at ev122 h
    obtain rfl := Option.some.inj h
    exact leT.rfl
  · replace h := ifn c121 h
    cases h
set_option maxHeartbeats 4000000 in
theorem tjL_law_509 {X : Fx} {B : Bx} {Z : Nat × Nat × Nat × Nat} {Q : State → Prop} {d : Nat} {T : Sh} {M : Me} {x1 : Nat} {x2 : Nat} {x3 : Int32} {o : (Int32 × Sh × Me) ⊕ ((Sh × Me))} (C : Cx X B cL_law 4 RL d Z) (hd : 405 ≤ d) {L : Nat} {xs : Nat → Int32} {b : Nat} (hX : va_X b L xs X.2.2.2.2.1 X.2.2.2.2.1.heap) (hbl : Lw X B b) (hZ : leZ ((Sum.elim (fun s : Int32 × Sh × Me => s.2.1) (fun r : Sh × Me => r.1)) o) Z) (h : jL_law_509 L xs T M x1 x2 x3 = some o) (hE : lpE (PL_law_18 X B Z Q b x1 x2) (EL_law_18 X B Z Q b x1 x2) o) : G X B 4 Z Q 509 [(0, .ref (b)), (1, .ref (x1)), (2, .ref (x2)), (3, .int (x3))] [] T M := by
  unfold jL_law_509 at h
  refine g_aload_n (pc := 509) C dL_law_509 rfl 1 rfl ?_
  refine g_aload_n (pc := 510) C dL_law_510 rfl 0 rfl ?_
  refine g_iload_n (pc := 511) C dL_law_511 rfl 3 rfl ?_
  refine g_iconst (pc := 512) (v := 1) C dL_law_512 (by decide) ?_
  refine g_iadd (pc := 513) C dL_law_513 ?_
  replace h := gv_some h; obtain ⟨hi111, h⟩ := h
  refine g_xld (pc := 514) C hX hbl dL_law_514 hi111 ?_
  refine g_aload_n (pc := 515) C dL_law_515 rfl 0 rfl ?_
  refine g_iload_n (pc := 516) C dL_law_516 rfl 3 rfl ?_
  refine g_iconst (pc := 517) (v := 2) C dL_law_517 (by decide) ?_
  refine g_iadd (pc := 518) C dL_law_518 ?_
  replace h := gv_some h; obtain ⟨hi112, h⟩ := h
  refine g_xld (pc := 519) C hX hbl dL_law_519 hi112 ?_
  replace h := gd_some h; obtain ⟨hk113, h⟩ := h
  replace h := bnd2 h; obtain ⟨r114, M115, h1, h⟩ := h
  refine g_callVi (pc := 520) (As := [.int (xs (Int32.toNatClampNeg (x3 + (1 : Int32)))), .int (xs (Int32.toNatClampNeg (x3 + (2 : Int32))))]) (st := []) C dL_law_520 wX11_place hk113 rfl (by decide) q_842 q_843 q_841 (by omega) rfl (Nat.le_of_ble_eq_true rfl) (kX11_place (d := 5) (Nat.le_refl _) h1) ?_
  refine g_aload_n (pc := 523) C dL_law_523 rfl 2 rfl ?_
  refine g_aload_n (pc := 524) C dL_law_524 rfl 0 rfl ?_
  refine g_iload_n (pc := 525) C dL_law_525 rfl 3 rfl ?_
  refine g_iconst (pc := 526) (v := 1) C dL_law_526 (by decide) ?_
  refine g_iadd (pc := 527) C dL_law_527 ?_
  replace h := gv_some h; obtain ⟨hi116, h⟩ := h
  refine g_xld (pc := 528) C hX hbl dL_law_528 hi116 ?_
  refine g_aload_n (pc := 529) C dL_law_529 rfl 0 rfl ?_
  refine g_iload_n (pc := 530) C dL_law_530 rfl 3 rfl ?_
  refine g_iconst (pc := 531) (v := 2) C dL_law_531 (by decide) ?_
  refine g_iadd (pc := 532) C dL_law_532 ?_
  replace h := gv_some h; obtain ⟨hi117, h⟩ := h
  refine g_xld (pc := 533) C hX hbl dL_law_533 hi117 ?_
  replace h := gd_some h; obtain ⟨hk118, h⟩ := h
  replace h := bnd2 h; obtain ⟨r119, M120, h1, h⟩ := h
  refine g_callVi (pc := 534) (As := [.int (xs (Int32.toNatClampNeg (x3 + (1 : Int32)))), .int (xs (Int32.toNatClampNeg (x3 + (2 : Int32))))]) (st := [.int (r114)]) C dL_law_534 wX12_place hk118 rfl (by decide) q_1555 q_1556 q_1554 (by omega) rfl (Nat.le_of_ble_eq_true rfl) (kX12_place (d := 4) (Nat.le_refl _) h1) ?_
  refine g_icmp_eq (pc := 537) (tgt := 1612) C dL_law_537 (by decide) (fun c121 => ?_) (fun c121 => ?_)
  · replace h := ifp c121 h
    obtain ⟨v122, ev122⟩ : ∃ y : Int32, y = x3 + (6 : Int32) := ⟨_, rfl⟩
    replace h := lt_at ev122 h
    refine g_iinc (pc := 1612) (v := v122) (k := 3) (lo2 := [(3, .int (v122)), (0, .ref (b)), (1, .ref (x1)), (2, .ref (x2))]) C dL_law_1612 rfl (by rw [ev122]; rfl) (by decide) rfl ?_
    refine g_goto (pc := 1615) (tgt := 18) C dL_law_1615 (by decide) ?_
    obtain rfl := Option.some.inj h
    exact g_sub [1, 2, 3, 0] rfl (show G X B 4 Z Q 18 [(0, .ref (b)), (1, .ref (x1)), (2, .ref (x2)), (3, .int (v122))] [] T M120 from hE)
  · replace h := ifn c121 h
    cases h
theorem mjL_law_542 {L : Nat} {xs : Nat → Int32} {T : Sh} {M : Me} {x1 : Nat} {x2 : Nat} {x3 : Int32} {o : (Int32 × Sh × Me) ⊕ ((Sh × Me))} (h : jL_law_542 L xs T M x1 x2 x3 = some o) : leT T ((Sum.elim (fun s : Int32 × Sh × Me => s.2.1) (fun r : Sh × Me => r.1)) o) := by
  unfold jL_law_542 at h
  replace h := gv_some h; obtain ⟨hi123, h⟩ := h
  replace h := gv_some h; obtain ⟨hi124, h⟩ := h
  replace h := gd_some h; obtain ⟨hk125, h⟩ := h
  replace h := bnd2 h; obtain ⟨r126, M127, h1, h⟩ := h
  replace h := gv_some h; obtain ⟨hi128, h⟩ := h
  replace h := gv_some h; obtain ⟨hi129, h⟩ := h
  replace h := gd_some h; obtain ⟨hk130, h⟩ := h
  replace h := bnd2 h; obtain ⟨r131, M132, h1, h⟩ := h
  by_cases c133 : r126 = r131
  · replace h := ifp c133 h
    obtain ⟨v134, ev134⟩ : ∃ y : Int32, y = x3 + (6 : Int32) := ⟨_, rfl⟩
    replace h := lt_at ev134 h
    obtain rfl := Option.some.inj h
    exact leT.rfl
  · replace h := ifn c133 h
    cases h
set_option maxHeartbeats 4000000 in
theorem tjL_law_542 {X : Fx} {B : Bx} {Z : Nat × Nat × Nat × Nat} {Q : State → Prop} {d : Nat} {T : Sh} {M : Me} {x1 : Nat} {x2 : Nat} {x3 : Int32} {o : (Int32 × Sh × Me) ⊕ ((Sh × Me))} (C : Cx X B cL_law 4 RL d Z) (hd : 405 ≤ d) {L : Nat} {xs : Nat → Int32} {b : Nat} (hX : va_X b L xs X.2.2.2.2.1 X.2.2.2.2.1.heap) (hbl : Lw X B b) (hZ : leZ ((Sum.elim (fun s : Int32 × Sh × Me => s.2.1) (fun r : Sh × Me => r.1)) o) Z) (h : jL_law_542 L xs T M x1 x2 x3 = some o) (hE : lpE (PL_law_18 X B Z Q b x1 x2) (EL_law_18 X B Z Q b x1 x2) o) : G X B 4 Z Q 542 [(0, .ref (b)), (1, .ref (x1)), (2, .ref (x2)), (3, .int (x3))] [] T M := by
  unfold jL_law_542 at h
  refine g_aload_n (pc := 542) C dL_law_542 rfl 1 rfl ?_
  refine g_aload_n (pc := 543) C dL_law_543 rfl 0 rfl ?_
  refine g_iload_n (pc := 544) C dL_law_544 rfl 3 rfl ?_
  refine g_iconst (pc := 545) (v := 1) C dL_law_545 (by decide) ?_
  refine g_iadd (pc := 546) C dL_law_546 ?_
  replace h := gv_some h; obtain ⟨hi123, h⟩ := h
  refine g_xld (pc := 547) C hX hbl dL_law_547 hi123 ?_
  refine g_aload_n (pc := 548) C dL_law_548 rfl 0 rfl ?_
  refine g_iload_n (pc := 549) C dL_law_549 rfl 3 rfl ?_
  refine g_iconst (pc := 550) (v := 2) C dL_law_550 (by decide) ?_
  refine g_iadd (pc := 551) C dL_law_551 ?_
  replace h := gv_some h; obtain ⟨hi124, h⟩ := h
  refine g_xld (pc := 552) C hX hbl dL_law_552 hi124 ?_
  replace h := gd_some h; obtain ⟨hk125, h⟩ := h
  replace h := bnd2 h; obtain ⟨r126, M127, h1, h⟩ := h
  refine g_callVi (pc := 553) (As := [.int (xs (Int32.toNatClampNeg (x3 + (1 : Int32)))), .int (xs (Int32.toNatClampNeg (x3 + (2 : Int32))))]) (st := []) C dL_law_553 wX11_train hk125 rfl (by decide) q_854 q_855 q_853 (by omega) rfl (Nat.le_of_ble_eq_true rfl) (kX11_train (d := 5) (Nat.le_refl _) h1) ?_
  refine g_aload_n (pc := 556) C dL_law_556 rfl 2 rfl ?_
  refine g_aload_n (pc := 557) C dL_law_557 rfl 0 rfl ?_
  refine g_iload_n (pc := 558) C dL_law_558 rfl 3 rfl ?_
  refine g_iconst (pc := 559) (v := 1) C dL_law_559 (by decide) ?_
  refine g_iadd (pc := 560) C dL_law_560 ?_
  replace h := gv_some h; obtain ⟨hi128, h⟩ := h
  refine g_xld (pc := 561) C hX hbl dL_law_561 hi128 ?_
  refine g_aload_n (pc := 562) C dL_law_562 rfl 0 rfl ?_
  refine g_iload_n (pc := 563) C dL_law_563 rfl 3 rfl ?_
  refine g_iconst (pc := 564) (v := 2) C dL_law_564 (by decide) ?_
  refine g_iadd (pc := 565) C dL_law_565 ?_
  replace h := gv_some h; obtain ⟨hi129, h⟩ := h
  refine g_xld (pc := 566) C hX hbl dL_law_566 hi129 ?_
  replace h := gd_some h; obtain ⟨hk130, h⟩ := h
  replace h := bnd2 h; obtain ⟨r131, M132, h1, h⟩ := h
  refine g_callVi (pc := 567) (As := [.int (xs (Int32.toNatClampNeg (x3 + (1 : Int32)))), .int (xs (Int32.toNatClampNeg (x3 + (2 : Int32))))]) (st := [.int (r126)]) C dL_law_567 wX12_train hk130 rfl (by decide) q_1567 q_1568 q_1566 (by omega) rfl (Nat.le_of_ble_eq_true rfl) (kX12_train (d := 6) (Nat.le_refl _) h1) ?_
  refine g_icmp_eq (pc := 570) (tgt := 1612) C dL_law_570 (by decide) (fun c133 => ?_) (fun c133 => ?_)
  · replace h := ifp c133 h
    obtain ⟨v134, ev134⟩ : ∃ y : Int32, y = x3 + (6 : Int32) := ⟨_, rfl⟩
    replace h := lt_at ev134 h
    refine g_iinc (pc := 1612) (v := v134) (k := 3) (lo2 := [(3, .int (v134)), (0, .ref (b)), (1, .ref (x1)), (2, .ref (x2))]) C dL_law_1612 rfl (by rw [ev134]; rfl) (by decide) rfl ?_
    refine g_goto (pc := 1615) (tgt := 18) C dL_law_1615 (by decide) ?_
    obtain rfl := Option.some.inj h
    exact g_sub [1, 2, 3, 0] rfl (show G X B 4 Z Q 18 [(0, .ref (b)), (1, .ref (x1)), (2, .ref (x2)), (3, .int (v134))] [] T M132 from hE)
  · replace h := ifn c133 h
    cases h
theorem mjL_law_575 {L : Nat} {xs : Nat → Int32} {T : Sh} {M : Me} {x1 : Nat} {x2 : Nat} {x3 : Int32} {o : (Int32 × Sh × Me) ⊕ ((Sh × Me))} (h : jL_law_575 L xs T M x1 x2 x3 = some o) : leT T ((Sum.elim (fun s : Int32 × Sh × Me => s.2.1) (fun r : Sh × Me => r.1)) o) := by
  unfold jL_law_575 at h
  replace h := gv_some h; obtain ⟨hi135, h⟩ := h
  replace h := gd_some h; obtain ⟨hk136, h⟩ := h
  replace h := bnd2 h; obtain ⟨r137, M138, h1, h⟩ := h
  replace h := gv_some h; obtain ⟨hi139, h⟩ := h
  replace h := gd_some h; obtain ⟨hk140, h⟩ := h
  replace h := bnd2 h; obtain ⟨r141, M142, h1, h⟩ := h
  by_cases c143 : r137 = r141
  · replace h := ifp c143 h
    obtain ⟨v144, ev144⟩ : ∃ y : Int32, y = x3 + (6 : Int32) := ⟨_, rfl⟩
    replace h := lt_at ev144 h
    obtain rfl := Option.some.inj h
    exact leT.rfl
  · replace h := ifn c143 h
    cases h
set_option maxHeartbeats 4000000 in
theorem tjL_law_575 {X : Fx} {B : Bx} {Z : Nat × Nat × Nat × Nat} {Q : State → Prop} {d : Nat} {T : Sh} {M : Me} {x1 : Nat} {x2 : Nat} {x3 : Int32} {o : (Int32 × Sh × Me) ⊕ ((Sh × Me))} (C : Cx X B cL_law 4 RL d Z) (hd : 405 ≤ d) {L : Nat} {xs : Nat → Int32} {b : Nat} (hX : va_X b L xs X.2.2.2.2.1 X.2.2.2.2.1.heap) (hbl : Lw X B b) (hZ : leZ ((Sum.elim (fun s : Int32 × Sh × Me => s.2.1) (fun r : Sh × Me => r.1)) o) Z) (h : jL_law_575 L xs T M x1 x2 x3 = some o) (hE : lpE (PL_law_18 X B Z Q b x1 x2) (EL_law_18 X B Z Q b x1 x2) o) : G X B 4 Z Q 575 [(0, .ref (b)), (1, .ref (x1)), (2, .ref (x2)), (3, .int (x3))] [] T M := by
  unfold jL_law_575 at h
  refine g_aload_n (pc := 575) C dL_law_575 rfl 1 rfl ?_
  refine g_aload_n (pc := 576) C dL_law_576 rfl 0 rfl ?_
  refine g_iload_n (pc := 577) C dL_law_577 rfl 3 rfl ?_
  refine g_iconst (pc := 578) (v := 1) C dL_law_578 (by decide) ?_
  refine g_iadd (pc := 579) C dL_law_579 ?_
  replace h := gv_some h; obtain ⟨hi135, h⟩ := h
  refine g_xld (pc := 580) C hX hbl dL_law_580 hi135 ?_
  replace h := gd_some h; obtain ⟨hk136, h⟩ := h
  replace h := bnd2 h; obtain ⟨r137, M138, h1, h⟩ := h
  refine g_callVi (pc := 581) (As := [.int (xs (Int32.toNatClampNeg (x3 + (1 : Int32))))]) (st := []) C dL_law_581 wX11_ticks hk136 rfl (by decide) q_916 q_917 q_915 (by omega) rfl (Nat.le_of_ble_eq_true rfl) (kX11_ticks (d := 6) (Nat.le_refl _) h1) ?_
  refine g_aload_n (pc := 584) C dL_law_584 rfl 2 rfl ?_
  refine g_aload_n (pc := 585) C dL_law_585 rfl 0 rfl ?_
  refine g_iload_n (pc := 586) C dL_law_586 rfl 3 rfl ?_
  refine g_iconst (pc := 587) (v := 1) C dL_law_587 (by decide) ?_
  refine g_iadd (pc := 588) C dL_law_588 ?_
  replace h := gv_some h; obtain ⟨hi139, h⟩ := h
  refine g_xld (pc := 589) C hX hbl dL_law_589 hi139 ?_
  replace h := gd_some h; obtain ⟨hk140, h⟩ := h
  replace h := bnd2 h; obtain ⟨r141, M142, h1, h⟩ := h
  refine g_callVi (pc := 590) (As := [.int (xs (Int32.toNatClampNeg (x3 + (1 : Int32))))]) (st := [.int (r137)]) C dL_law_590 wX12_ticks hk140 rfl (by decide) q_1621 q_1622 q_1620 (by omega) rfl (Nat.le_of_ble_eq_true rfl) (kX12_ticks (d := 7) (Nat.le_refl _) h1) ?_
  refine g_icmp_eq (pc := 593) (tgt := 1612) C dL_law_593 (by decide) (fun c143 => ?_) (fun c143 => ?_)
  · replace h := ifp c143 h
    obtain ⟨v144, ev144⟩ : ∃ y : Int32, y = x3 + (6 : Int32) := ⟨_, rfl⟩
    replace h := lt_at ev144 h
    refine g_iinc (pc := 1612) (v := v144) (k := 3) (lo2 := [(3, .int (v144)), (0, .ref (b)), (1, .ref (x1)), (2, .ref (x2))]) C dL_law_1612 rfl (by rw [ev144]; rfl) (by decide) rfl ?_
    refine g_goto (pc := 1615) (tgt := 18) C dL_law_1615 (by decide) ?_
    obtain rfl := Option.some.inj h
    exact g_sub [1, 2, 3, 0] rfl (show G X B 4 Z Q 18 [(0, .ref (b)), (1, .ref (x1)), (2, .ref (x2)), (3, .int (v144))] [] T M142 from hE)
  · replace h := ifn c143 h
    cases h
theorem mjL_law_598 {L : Nat} {xs : Nat → Int32} {T : Sh} {M : Me} {x1 : Nat} {x2 : Nat} {x3 : Int32} {o : (Int32 × Sh × Me) ⊕ ((Sh × Me))} (h : jL_law_598 L xs T M x1 x2 x3 = some o) : leT T ((Sum.elim (fun s : Int32 × Sh × Me => s.2.1) (fun r : Sh × Me => r.1)) o) := by
  unfold jL_law_598 at h
  replace h := gv_some h; obtain ⟨hi145, h⟩ := h
  replace h := gd_some h; obtain ⟨hk146, h⟩ := h
  replace h := bnd2 h; obtain ⟨r147, M148, h1, h⟩ := h
  replace h := gv_some h; obtain ⟨hi149, h⟩ := h
  replace h := gd_some h; obtain ⟨hk150, h⟩ := h
  replace h := bnd2 h; obtain ⟨r151, M152, h1, h⟩ := h
  by_cases c153 : r147 = r151
  · replace h := ifp c153 h
    obtain ⟨v154, ev154⟩ : ∃ y : Int32, y = x3 + (6 : Int32) := ⟨_, rfl⟩
    replace h := lt_at ev154 h
    obtain rfl := Option.some.inj h
    exact leT.rfl
  · replace h := ifn c153 h
    cases h
set_option maxHeartbeats 4000000 in
theorem tjL_law_598 {X : Fx} {B : Bx} {Z : Nat × Nat × Nat × Nat} {Q : State → Prop} {d : Nat} {T : Sh} {M : Me} {x1 : Nat} {x2 : Nat} {x3 : Int32} {o : (Int32 × Sh × Me) ⊕ ((Sh × Me))} (C : Cx X B cL_law 4 RL d Z) (hd : 405 ≤ d) {L : Nat} {xs : Nat → Int32} {b : Nat} (hX : va_X b L xs X.2.2.2.2.1 X.2.2.2.2.1.heap) (hbl : Lw X B b) (hZ : leZ ((Sum.elim (fun s : Int32 × Sh × Me => s.2.1) (fun r : Sh × Me => r.1)) o) Z) (h : jL_law_598 L xs T M x1 x2 x3 = some o) (hE : lpE (PL_law_18 X B Z Q b x1 x2) (EL_law_18 X B Z Q b x1 x2) o) : G X B 4 Z Q 598 [(0, .ref (b)), (1, .ref (x1)), (2, .ref (x2)), (3, .int (x3))] [] T M := by
  unfold jL_law_598 at h
  refine g_aload_n (pc := 598) C dL_law_598 rfl 1 rfl ?_
  refine g_aload_n (pc := 599) C dL_law_599 rfl 0 rfl ?_
  refine g_iload_n (pc := 600) C dL_law_600 rfl 3 rfl ?_
  refine g_iconst (pc := 601) (v := 1) C dL_law_601 (by decide) ?_
  refine g_iadd (pc := 602) C dL_law_602 ?_
  replace h := gv_some h; obtain ⟨hi145, h⟩ := h
  refine g_xld (pc := 603) C hX hbl dL_law_603 hi145 ?_
  replace h := gd_some h; obtain ⟨hk146, h⟩ := h
  replace h := bnd2 h; obtain ⟨r147, M148, h1, h⟩ := h
  refine g_callVi (pc := 604) (As := [.int (xs (Int32.toNatClampNeg (x3 + (1 : Int32))))]) (st := []) C dL_law_604 wX11_follow hk146 rfl (by decide) q_925 q_926 q_924 (by omega) rfl (Nat.le_of_ble_eq_true rfl) (kX11_follow (d := 6) (Nat.le_refl _) h1) ?_
  refine g_aload_n (pc := 607) C dL_law_607 rfl 2 rfl ?_
  refine g_aload_n (pc := 608) C dL_law_608 rfl 0 rfl ?_
  refine g_iload_n (pc := 609) C dL_law_609 rfl 3 rfl ?_
  refine g_iconst (pc := 610) (v := 1) C dL_law_610 (by decide) ?_
  refine g_iadd (pc := 611) C dL_law_611 ?_
  replace h := gv_some h; obtain ⟨hi149, h⟩ := h
  refine g_xld (pc := 612) C hX hbl dL_law_612 hi149 ?_
  replace h := gd_some h; obtain ⟨hk150, h⟩ := h
  replace h := bnd2 h; obtain ⟨r151, M152, h1, h⟩ := h
  refine g_callVi (pc := 613) (As := [.int (xs (Int32.toNatClampNeg (x3 + (1 : Int32))))]) (st := [.int (r147)]) C dL_law_613 wX12_follow hk150 rfl (by decide) q_1642 q_1643 q_1641 (by omega) rfl (Nat.le_of_ble_eq_true rfl) (kX12_follow (d := 7) (Nat.le_refl _) h1) ?_
  refine g_icmp_eq (pc := 616) (tgt := 1612) C dL_law_616 (by decide) (fun c153 => ?_) (fun c153 => ?_)
  · replace h := ifp c153 h
    obtain ⟨v154, ev154⟩ : ∃ y : Int32, y = x3 + (6 : Int32) := ⟨_, rfl⟩
    replace h := lt_at ev154 h
    refine g_iinc (pc := 1612) (v := v154) (k := 3) (lo2 := [(3, .int (v154)), (0, .ref (b)), (1, .ref (x1)), (2, .ref (x2))]) C dL_law_1612 rfl (by rw [ev154]; rfl) (by decide) rfl ?_
    refine g_goto (pc := 1615) (tgt := 18) C dL_law_1615 (by decide) ?_
    obtain rfl := Option.some.inj h
    exact g_sub [1, 2, 3, 0] rfl (show G X B 4 Z Q 18 [(0, .ref (b)), (1, .ref (x1)), (2, .ref (x2)), (3, .int (v154))] [] T M152 from hE)
  · replace h := ifn c153 h
    cases h
theorem mjL_law_621 {L : Nat} {xs : Nat → Int32} {T : Sh} {M : Me} {x1 : Nat} {x2 : Nat} {x3 : Int32} {o : (Int32 × Sh × Me) ⊕ ((Sh × Me))} (h : jL_law_621 L xs T M x1 x2 x3 = some o) : leT T ((Sum.elim (fun s : Int32 × Sh × Me => s.2.1) (fun r : Sh × Me => r.1)) o) := by
  unfold jL_law_621 at h
  replace h := gv_some h; obtain ⟨hi155, h⟩ := h
  replace h := gd_some h; obtain ⟨hk156, h⟩ := h
  replace h := bnd2 h; obtain ⟨r157, M158, h1, h⟩ := h
  replace h := gv_some h; obtain ⟨hi159, h⟩ := h
  replace h := gd_some h; obtain ⟨hk160, h⟩ := h
  replace h := bnd2 h; obtain ⟨r161, M162, h1, h⟩ := h
  by_cases c163 : r157 = r161
  · replace h := ifp c163 h
    obtain ⟨v164, ev164⟩ : ∃ y : Int32, y = x3 + (6 : Int32) := ⟨_, rfl⟩
    replace h := lt_at ev164 h
    obtain rfl := Option.some.inj h
    exact leT.rfl
  · replace h := ifn c163 h
    cases h
set_option maxHeartbeats 4000000 in
theorem tjL_law_621 {X : Fx} {B : Bx} {Z : Nat × Nat × Nat × Nat} {Q : State → Prop} {d : Nat} {T : Sh} {M : Me} {x1 : Nat} {x2 : Nat} {x3 : Int32} {o : (Int32 × Sh × Me) ⊕ ((Sh × Me))} (C : Cx X B cL_law 4 RL d Z) (hd : 405 ≤ d) {L : Nat} {xs : Nat → Int32} {b : Nat} (hX : va_X b L xs X.2.2.2.2.1 X.2.2.2.2.1.heap) (hbl : Lw X B b) (hZ : leZ ((Sum.elim (fun s : Int32 × Sh × Me => s.2.1) (fun r : Sh × Me => r.1)) o) Z) (h : jL_law_621 L xs T M x1 x2 x3 = some o) (hE : lpE (PL_law_18 X B Z Q b x1 x2) (EL_law_18 X B Z Q b x1 x2) o) : G X B 4 Z Q 621 [(0, .ref (b)), (1, .ref (x1)), (2, .ref (x2)), (3, .int (x3))] [] T M := by
  unfold jL_law_621 at h
  refine g_aload_n (pc := 621) C dL_law_621 rfl 1 rfl ?_
  refine g_aload_n (pc := 622) C dL_law_622 rfl 0 rfl ?_
  refine g_iload_n (pc := 623) C dL_law_623 rfl 3 rfl ?_
  refine g_iconst (pc := 624) (v := 1) C dL_law_624 (by decide) ?_
  refine g_iadd (pc := 625) C dL_law_625 ?_
  replace h := gv_some h; obtain ⟨hi155, h⟩ := h
  refine g_xld (pc := 626) C hX hbl dL_law_626 hi155 ?_
  replace h := gd_some h; obtain ⟨hk156, h⟩ := h
  replace h := bnd2 h; obtain ⟨r157, M158, h1, h⟩ := h
  refine g_callVi (pc := 627) (As := [.int (xs (Int32.toNatClampNeg (x3 + (1 : Int32))))]) (st := []) C dL_law_627 wX11_pattern hk156 rfl (by decide) q_936 q_937 q_935 (by omega) rfl (Nat.le_of_ble_eq_true rfl) (kX11_pattern (d := 2) (Nat.le_refl _) h1) ?_
  refine g_aload_n (pc := 630) C dL_law_630 rfl 2 rfl ?_
  refine g_aload_n (pc := 631) C dL_law_631 rfl 0 rfl ?_
  refine g_iload_n (pc := 632) C dL_law_632 rfl 3 rfl ?_
  refine g_iconst (pc := 633) (v := 1) C dL_law_633 (by decide) ?_
  refine g_iadd (pc := 634) C dL_law_634 ?_
  replace h := gv_some h; obtain ⟨hi159, h⟩ := h
  refine g_xld (pc := 635) C hX hbl dL_law_635 hi159 ?_
  replace h := gd_some h; obtain ⟨hk160, h⟩ := h
  replace h := bnd2 h; obtain ⟨r161, M162, h1, h⟩ := h
  refine g_callVi (pc := 636) (As := [.int (xs (Int32.toNatClampNeg (x3 + (1 : Int32))))]) (st := [.int (r157)]) C dL_law_636 wX12_pattern hk160 rfl (by decide) q_1646 q_1647 q_1645 (by omega) rfl (Nat.le_of_ble_eq_true rfl) (kX12_pattern (d := 1) (Nat.le_refl _) h1) ?_
  refine g_icmp_eq (pc := 639) (tgt := 1612) C dL_law_639 (by decide) (fun c163 => ?_) (fun c163 => ?_)
  · replace h := ifp c163 h
    obtain ⟨v164, ev164⟩ : ∃ y : Int32, y = x3 + (6 : Int32) := ⟨_, rfl⟩
    replace h := lt_at ev164 h
    refine g_iinc (pc := 1612) (v := v164) (k := 3) (lo2 := [(3, .int (v164)), (0, .ref (b)), (1, .ref (x1)), (2, .ref (x2))]) C dL_law_1612 rfl (by rw [ev164]; rfl) (by decide) rfl ?_
    refine g_goto (pc := 1615) (tgt := 18) C dL_law_1615 (by decide) ?_
    obtain rfl := Option.some.inj h
    exact g_sub [1, 2, 3, 0] rfl (show G X B 4 Z Q 18 [(0, .ref (b)), (1, .ref (x1)), (2, .ref (x2)), (3, .int (v164))] [] T M162 from hE)
  · replace h := ifn c163 h
    cases h
theorem mjL_law_644 {L : Nat} {xs : Nat → Int32} {T : Sh} {M : Me} {x1 : Nat} {x2 : Nat} {x3 : Int32} {o : (Int32 × Sh × Me) ⊕ ((Sh × Me))} (h : jL_law_644 L xs T M x1 x2 x3 = some o) : leT T ((Sum.elim (fun s : Int32 × Sh × Me => s.2.1) (fun r : Sh × Me => r.1)) o) := by
  unfold jL_law_644 at h
  replace h := gv_some h; obtain ⟨hi165, h⟩ := h
  replace h := gd_some h; obtain ⟨hk166, h⟩ := h
  replace h := bnd2 h; obtain ⟨r167, M168, h1, h⟩ := h
  replace h := gv_some h; obtain ⟨hi169, h⟩ := h
  replace h := gd_some h; obtain ⟨hk170, h⟩ := h
  replace h := bnd2 h; obtain ⟨r171, M172, h1, h⟩ := h
  by_cases c173 : r167 = r171
  · replace h := ifp c173 h
    obtain ⟨v174, ev174⟩ : ∃ y : Int32, y = x3 + (6 : Int32) := ⟨_, rfl⟩
    replace h := lt_at ev174 h
    obtain rfl := Option.some.inj h
    exact leT.rfl
  · replace h := ifn c173 h
    cases h
set_option maxHeartbeats 4000000 in
theorem tjL_law_644 {X : Fx} {B : Bx} {Z : Nat × Nat × Nat × Nat} {Q : State → Prop} {d : Nat} {T : Sh} {M : Me} {x1 : Nat} {x2 : Nat} {x3 : Int32} {o : (Int32 × Sh × Me) ⊕ ((Sh × Me))} (C : Cx X B cL_law 4 RL d Z) (hd : 405 ≤ d) {L : Nat} {xs : Nat → Int32} {b : Nat} (hX : va_X b L xs X.2.2.2.2.1 X.2.2.2.2.1.heap) (hbl : Lw X B b) (hZ : leZ ((Sum.elim (fun s : Int32 × Sh × Me => s.2.1) (fun r : Sh × Me => r.1)) o) Z) (h : jL_law_644 L xs T M x1 x2 x3 = some o) (hE : lpE (PL_law_18 X B Z Q b x1 x2) (EL_law_18 X B Z Q b x1 x2) o) : G X B 4 Z Q 644 [(0, .ref (b)), (1, .ref (x1)), (2, .ref (x2)), (3, .int (x3))] [] T M := by
  unfold jL_law_644 at h
  refine g_aload_n (pc := 644) C dL_law_644 rfl 1 rfl ?_
  refine g_aload_n (pc := 645) C dL_law_645 rfl 0 rfl ?_
  refine g_iload_n (pc := 646) C dL_law_646 rfl 3 rfl ?_
  refine g_iconst (pc := 647) (v := 1) C dL_law_647 (by decide) ?_
  refine g_iadd (pc := 648) C dL_law_648 ?_
  replace h := gv_some h; obtain ⟨hi165, h⟩ := h
  refine g_xld (pc := 649) C hX hbl dL_law_649 hi165 ?_
  replace h := gd_some h; obtain ⟨hk166, h⟩ := h
  replace h := bnd2 h; obtain ⟨r167, M168, h1, h⟩ := h
  refine g_callVi (pc := 650) (As := [.int (xs (Int32.toNatClampNeg (x3 + (1 : Int32))))]) (st := []) C dL_law_650 wX11_undo hk166 rfl (by decide) q_944 q_945 q_943 (by omega) rfl (Nat.le_of_ble_eq_true rfl) (kX11_undo (d := 1) (Nat.le_refl _) h1) ?_
  refine g_aload_n (pc := 653) C dL_law_653 rfl 2 rfl ?_
  refine g_aload_n (pc := 654) C dL_law_654 rfl 0 rfl ?_
  refine g_iload_n (pc := 655) C dL_law_655 rfl 3 rfl ?_
  refine g_iconst (pc := 656) (v := 1) C dL_law_656 (by decide) ?_
  refine g_iadd (pc := 657) C dL_law_657 ?_
  replace h := gv_some h; obtain ⟨hi169, h⟩ := h
  refine g_xld (pc := 658) C hX hbl dL_law_658 hi169 ?_
  replace h := gd_some h; obtain ⟨hk170, h⟩ := h
  replace h := bnd2 h; obtain ⟨r171, M172, h1, h⟩ := h
  refine g_callVi (pc := 659) (As := [.int (xs (Int32.toNatClampNeg (x3 + (1 : Int32))))]) (st := [.int (r167)]) C dL_law_659 wX12_undo hk170 rfl (by decide) q_1651 q_1652 q_1650 (by omega) rfl (Nat.le_of_ble_eq_true rfl) (kX12_undo (d := 1) (Nat.le_refl _) h1) ?_
  refine g_icmp_eq (pc := 662) (tgt := 1612) C dL_law_662 (by decide) (fun c173 => ?_) (fun c173 => ?_)
  · replace h := ifp c173 h
    obtain ⟨v174, ev174⟩ : ∃ y : Int32, y = x3 + (6 : Int32) := ⟨_, rfl⟩
    replace h := lt_at ev174 h
    refine g_iinc (pc := 1612) (v := v174) (k := 3) (lo2 := [(3, .int (v174)), (0, .ref (b)), (1, .ref (x1)), (2, .ref (x2))]) C dL_law_1612 rfl (by rw [ev174]; rfl) (by decide) rfl ?_
    refine g_goto (pc := 1615) (tgt := 18) C dL_law_1615 (by decide) ?_
    obtain rfl := Option.some.inj h
    exact g_sub [1, 2, 3, 0] rfl (show G X B 4 Z Q 18 [(0, .ref (b)), (1, .ref (x1)), (2, .ref (x2)), (3, .int (v174))] [] T M172 from hE)
  · replace h := ifn c173 h
    cases h
theorem mjL_law_667 {L : Nat} {xs : Nat → Int32} {T : Sh} {M : Me} {x1 : Nat} {x2 : Nat} {x3 : Int32} {o : (Int32 × Sh × Me) ⊕ ((Sh × Me))} (h : jL_law_667 L xs T M x1 x2 x3 = some o) : leT T ((Sum.elim (fun s : Int32 × Sh × Me => s.2.1) (fun r : Sh × Me => r.1)) o) := by
  unfold jL_law_667 at h
  replace h := gv_some h; obtain ⟨hi175, h⟩ := h
  replace h := gv_some h; obtain ⟨hi176, h⟩ := h
  replace h := gd_some h; obtain ⟨hk177, h⟩ := h
  replace h := bnd2 h; obtain ⟨r178, M179, h1, h⟩ := h
  replace h := gv_some h; obtain ⟨hi180, h⟩ := h
  replace h := gv_some h; obtain ⟨hi181, h⟩ := h
  replace h := gd_some h; obtain ⟨hk182, h⟩ := h
  replace h := bnd2 h; obtain ⟨r183, M184, h1, h⟩ := h
  by_cases c185 : r178 = r183
  · replace h := ifp c185 h
    obtain ⟨v186, ev186⟩ : ∃ y : Int32, y = x3 + (6 : Int32) := ⟨_, rfl⟩
    replace h := lt_at ev186 h
    obtain rfl := Option.some.inj h
    exact leT.rfl
  · replace h := ifn c185 h
    cases h
set_option maxHeartbeats 4000000 in
theorem tjL_law_667 {X : Fx} {B : Bx} {Z : Nat × Nat × Nat × Nat} {Q : State → Prop} {d : Nat} {T : Sh} {M : Me} {x1 : Nat} {x2 : Nat} {x3 : Int32} {o : (Int32 × Sh × Me) ⊕ ((Sh × Me))} (C : Cx X B cL_law 4 RL d Z) (hd : 405 ≤ d) {L : Nat} {xs : Nat → Int32} {b : Nat} (hX : va_X b L xs X.2.2.2.2.1 X.2.2.2.2.1.heap) (hbl : Lw X B b) (hZ : leZ ((Sum.elim (fun s : Int32 × Sh × Me => s.2.1) (fun r : Sh × Me => r.1)) o) Z) (h : jL_law_667 L xs T M x1 x2 x3 = some o) (hE : lpE (PL_law_18 X B Z Q b x1 x2) (EL_law_18 X B Z Q b x1 x2) o) : G X B 4 Z Q 667 [(0, .ref (b)), (1, .ref (x1)), (2, .ref (x2)), (3, .int (x3))] [] T M := by
  unfold jL_law_667 at h
  refine g_aload_n (pc := 667) C dL_law_667 rfl 1 rfl ?_
  refine g_aload_n (pc := 668) C dL_law_668 rfl 0 rfl ?_
  refine g_iload_n (pc := 669) C dL_law_669 rfl 3 rfl ?_
  refine g_iconst (pc := 670) (v := 1) C dL_law_670 (by decide) ?_
  refine g_iadd (pc := 671) C dL_law_671 ?_
  replace h := gv_some h; obtain ⟨hi175, h⟩ := h
  refine g_xld (pc := 672) C hX hbl dL_law_672 hi175 ?_
  refine g_aload_n (pc := 673) C dL_law_673 rfl 0 rfl ?_
  refine g_iload_n (pc := 674) C dL_law_674 rfl 3 rfl ?_
  refine g_iconst (pc := 675) (v := 2) C dL_law_675 (by decide) ?_
  refine g_iadd (pc := 676) C dL_law_676 ?_
  replace h := gv_some h; obtain ⟨hi176, h⟩ := h
  refine g_xld (pc := 677) C hX hbl dL_law_677 hi176 ?_
  replace h := gd_some h; obtain ⟨hk177, h⟩ := h
  replace h := bnd2 h; obtain ⟨r178, M179, h1, h⟩ := h
  refine g_callVi (pc := 678) (As := [.int (xs (Int32.toNatClampNeg (x3 + (1 : Int32)))), .int (xs (Int32.toNatClampNeg (x3 + (2 : Int32))))]) (st := []) C dL_law_678 wX11_judge hk177 rfl (by decide) q_948 q_949 q_947 (by omega) rfl (Nat.le_of_ble_eq_true rfl) (kX11_judge (d := 7) (Nat.le_refl _) h1) ?_
  refine g_aload_n (pc := 681) C dL_law_681 rfl 2 rfl ?_
  refine g_aload_n (pc := 682) C dL_law_682 rfl 0 rfl ?_
  refine g_iload_n (pc := 683) C dL_law_683 rfl 3 rfl ?_
  refine g_iconst (pc := 684) (v := 1) C dL_law_684 (by decide) ?_
  refine g_iadd (pc := 685) C dL_law_685 ?_
  replace h := gv_some h; obtain ⟨hi180, h⟩ := h
  refine g_xld (pc := 686) C hX hbl dL_law_686 hi180 ?_
  refine g_aload_n (pc := 687) C dL_law_687 rfl 0 rfl ?_
  refine g_iload_n (pc := 688) C dL_law_688 rfl 3 rfl ?_
  refine g_iconst (pc := 689) (v := 2) C dL_law_689 (by decide) ?_
  refine g_iadd (pc := 690) C dL_law_690 ?_
  replace h := gv_some h; obtain ⟨hi181, h⟩ := h
  refine g_xld (pc := 691) C hX hbl dL_law_691 hi181 ?_
  replace h := gd_some h; obtain ⟨hk182, h⟩ := h
  replace h := bnd2 h; obtain ⟨r183, M184, h1, h⟩ := h
  refine g_callVi (pc := 692) (As := [.int (xs (Int32.toNatClampNeg (x3 + (1 : Int32)))), .int (xs (Int32.toNatClampNeg (x3 + (2 : Int32))))]) (st := [.int (r178)]) C dL_law_692 wX12_judge hk182 rfl (by decide) q_1656 q_1657 q_1655 (by omega) rfl (Nat.le_of_ble_eq_true rfl) (kX12_judge (d := 8) (Nat.le_refl _) h1) ?_
  refine g_icmp_eq (pc := 695) (tgt := 1612) C dL_law_695 (by decide) (fun c185 => ?_) (fun c185 => ?_)
  · replace h := ifp c185 h
    obtain ⟨v186, ev186⟩ : ∃ y : Int32, y = x3 + (6 : Int32) := ⟨_, rfl⟩
    replace h := lt_at ev186 h
    refine g_iinc (pc := 1612) (v := v186) (k := 3) (lo2 := [(3, .int (v186)), (0, .ref (b)), (1, .ref (x1)), (2, .ref (x2))]) C dL_law_1612 rfl (by rw [ev186]; rfl) (by decide) rfl ?_
    refine g_goto (pc := 1615) (tgt := 18) C dL_law_1615 (by decide) ?_
    obtain rfl := Option.some.inj h
    exact g_sub [1, 2, 3, 0] rfl (show G X B 4 Z Q 18 [(0, .ref (b)), (1, .ref (x1)), (2, .ref (x2)), (3, .int (v186))] [] T M184 from hE)
  · replace h := ifn c185 h
    cases h
theorem mjL_law_700 {L : Nat} {xs : Nat → Int32} {T : Sh} {M : Me} {x1 : Nat} {x2 : Nat} {x3 : Int32} {o : (Int32 × Sh × Me) ⊕ ((Sh × Me))} (h : jL_law_700 L xs T M x1 x2 x3 = some o) : leT T ((Sum.elim (fun s : Int32 × Sh × Me => s.2.1) (fun r : Sh × Me => r.1)) o) := by
  unfold jL_law_700 at h
  replace h := gv_some h; obtain ⟨hi187, h⟩ := h
  replace h := gd_some h; obtain ⟨hk188, h⟩ := h
  replace h := bnd2 h; obtain ⟨r189, M190, h1, h⟩ := h
  replace h := gv_some h; obtain ⟨hi191, h⟩ := h
  replace h := gd_some h; obtain ⟨hk192, h⟩ := h
  replace h := bnd2 h; obtain ⟨r193, M194, h1, h⟩ := h
  by_cases c195 : r189 = r193
  · replace h := ifp c195 h
    obtain ⟨v196, ev196⟩ : ∃ y : Int32, y = x3 + (6 : Int32) := ⟨_, rfl⟩
    replace h := lt_at ev196 h
    obtain rfl := Option.some.inj h
    exact leT.rfl
  · replace h := ifn c195 h
    cases h
set_option maxHeartbeats 4000000 in
theorem tjL_law_700 {X : Fx} {B : Bx} {Z : Nat × Nat × Nat × Nat} {Q : State → Prop} {d : Nat} {T : Sh} {M : Me} {x1 : Nat} {x2 : Nat} {x3 : Int32} {o : (Int32 × Sh × Me) ⊕ ((Sh × Me))} (C : Cx X B cL_law 4 RL d Z) (hd : 405 ≤ d) {L : Nat} {xs : Nat → Int32} {b : Nat} (hX : va_X b L xs X.2.2.2.2.1 X.2.2.2.2.1.heap) (hbl : Lw X B b) (hZ : leZ ((Sum.elim (fun s : Int32 × Sh × Me => s.2.1) (fun r : Sh × Me => r.1)) o) Z) (h : jL_law_700 L xs T M x1 x2 x3 = some o) (hE : lpE (PL_law_18 X B Z Q b x1 x2) (EL_law_18 X B Z Q b x1 x2) o) : G X B 4 Z Q 700 [(0, .ref (b)), (1, .ref (x1)), (2, .ref (x2)), (3, .int (x3))] [] T M := by
  unfold jL_law_700 at h
  refine g_aload_n (pc := 700) C dL_law_700 rfl 1 rfl ?_
  refine g_aload_n (pc := 701) C dL_law_701 rfl 0 rfl ?_
  refine g_iload_n (pc := 702) C dL_law_702 rfl 3 rfl ?_
  refine g_iconst (pc := 703) (v := 1) C dL_law_703 (by decide) ?_
  refine g_iadd (pc := 704) C dL_law_704 ?_
  replace h := gv_some h; obtain ⟨hi187, h⟩ := h
  refine g_xld (pc := 705) C hX hbl dL_law_705 hi187 ?_
  replace h := gd_some h; obtain ⟨hk188, h⟩ := h
  replace h := bnd2 h; obtain ⟨r189, M190, h1, h⟩ := h
  refine g_callVi (pc := 706) (As := [.int (xs (Int32.toNatClampNeg (x3 + (1 : Int32))))]) (st := []) C dL_law_706 wX11_perform hk188 rfl (by decide) q_977 q_978 q_976 (by omega) rfl (Nat.le_of_ble_eq_true rfl) (kX11_perform (d := 7) (Nat.le_refl _) h1) ?_
  refine g_aload_n (pc := 709) C dL_law_709 rfl 2 rfl ?_
  refine g_aload_n (pc := 710) C dL_law_710 rfl 0 rfl ?_
  refine g_iload_n (pc := 711) C dL_law_711 rfl 3 rfl ?_
  refine g_iconst (pc := 712) (v := 1) C dL_law_712 (by decide) ?_
  refine g_iadd (pc := 713) C dL_law_713 ?_
  replace h := gv_some h; obtain ⟨hi191, h⟩ := h
  refine g_xld (pc := 714) C hX hbl dL_law_714 hi191 ?_
  replace h := gd_some h; obtain ⟨hk192, h⟩ := h
  replace h := bnd2 h; obtain ⟨r193, M194, h1, h⟩ := h
  refine g_callVi (pc := 715) (As := [.int (xs (Int32.toNatClampNeg (x3 + (1 : Int32))))]) (st := [.int (r189)]) C dL_law_715 wX12_perform hk192 rfl (by decide) q_1688 q_1689 q_1687 (by omega) rfl (Nat.le_of_ble_eq_true rfl) (kX12_perform (d := 8) (Nat.le_refl _) h1) ?_
  refine g_icmp_eq (pc := 718) (tgt := 1612) C dL_law_718 (by decide) (fun c195 => ?_) (fun c195 => ?_)
  · replace h := ifp c195 h
    obtain ⟨v196, ev196⟩ : ∃ y : Int32, y = x3 + (6 : Int32) := ⟨_, rfl⟩
    replace h := lt_at ev196 h
    refine g_iinc (pc := 1612) (v := v196) (k := 3) (lo2 := [(3, .int (v196)), (0, .ref (b)), (1, .ref (x1)), (2, .ref (x2))]) C dL_law_1612 rfl (by rw [ev196]; rfl) (by decide) rfl ?_
    refine g_goto (pc := 1615) (tgt := 18) C dL_law_1615 (by decide) ?_
    obtain rfl := Option.some.inj h
    exact g_sub [1, 2, 3, 0] rfl (show G X B 4 Z Q 18 [(0, .ref (b)), (1, .ref (x1)), (2, .ref (x2)), (3, .int (v196))] [] T M194 from hE)
  · replace h := ifn c195 h
    cases h
theorem mjL_law_737 {L : Nat} {xs : Nat → Int32} {T : Sh} {M : Me} {x1 : Nat} {x2 : Nat} {x3 : Int32} {s0 : Int32} {o : (Int32 × Sh × Me) ⊕ ((Sh × Me))} (h : jL_law_737 L xs T M x1 x2 x3 s0 = some o) : leT T ((Sum.elim (fun s : Int32 × Sh × Me => s.2.1) (fun r : Sh × Me => r.1)) o) := by
  unfold jL_law_737 at h
  replace h := gv_some h; obtain ⟨hi203, h⟩ := h
  replace h := gv_some h; obtain ⟨hi204, h⟩ := h
  replace h := gd_some h; obtain ⟨hk205, h⟩ := h
  replace h := bnd2 h; obtain ⟨r206, M207, h1, h⟩ := h
  by_cases c208 : s0 = r206
  · replace h := ifp c208 h
    obtain ⟨v209, ev209⟩ : ∃ y : Int32, y = x3 + (6 : Int32) := ⟨_, rfl⟩
    replace h := lt_at ev209 h
    obtain rfl := Option.some.inj h
    exact leT.rfl
  · replace h := ifn c208 h
    cases h
set_option maxHeartbeats 4000000 in
theorem tjL_law_737 {X : Fx} {B : Bx} {Z : Nat × Nat × Nat × Nat} {Q : State → Prop} {d : Nat} {T : Sh} {M : Me} {x1 : Nat} {x2 : Nat} {x3 : Int32} {s0 : Int32} {o : (Int32 × Sh × Me) ⊕ ((Sh × Me))} (C : Cx X B cL_law 4 RL d Z) (hd : 405 ≤ d) {L : Nat} {xs : Nat → Int32} {b : Nat} (hX : va_X b L xs X.2.2.2.2.1 X.2.2.2.2.1.heap) (hbl : Lw X B b) (hZ : leZ ((Sum.elim (fun s : Int32 × Sh × Me => s.2.1) (fun r : Sh × Me => r.1)) o) Z) (h : jL_law_737 L xs T M x1 x2 x3 s0 = some o) (hE : lpE (PL_law_18 X B Z Q b x1 x2) (EL_law_18 X B Z Q b x1 x2) o) : G X B 4 Z Q 737 [(0, .ref (b)), (1, .ref (x1)), (2, .ref (x2)), (3, .int (x3))] [.int (s0)] T M := by
  unfold jL_law_737 at h
  refine g_aload_n (pc := 737) C dL_law_737 rfl 2 rfl ?_
  refine g_aload_n (pc := 738) C dL_law_738 rfl 0 rfl ?_
  refine g_iload_n (pc := 739) C dL_law_739 rfl 3 rfl ?_
  refine g_iconst (pc := 740) (v := 1) C dL_law_740 (by decide) ?_
  refine g_iadd (pc := 741) C dL_law_741 ?_
  replace h := gv_some h; obtain ⟨hi203, h⟩ := h
  refine g_xld (pc := 742) C hX hbl dL_law_742 hi203 ?_
  refine g_aload_n (pc := 743) C dL_law_743 rfl 0 rfl ?_
  refine g_iload_n (pc := 744) C dL_law_744 rfl 3 rfl ?_
  refine g_iconst (pc := 745) (v := 2) C dL_law_745 (by decide) ?_
  refine g_iadd (pc := 746) C dL_law_746 ?_
  replace h := gv_some h; obtain ⟨hi204, h⟩ := h
  refine g_xld (pc := 747) C hX hbl dL_law_747 hi204 ?_
  replace h := gd_some h; obtain ⟨hk205, h⟩ := h
  replace h := bnd2 h; obtain ⟨r206, M207, h1, h⟩ := h
  refine g_callVi (pc := 748) (As := [.int (xs (Int32.toNatClampNeg (x3 + (1 : Int32)))), .int (xs (Int32.toNatClampNeg (x3 + (2 : Int32))))]) (st := [.int (s0)]) C dL_law_748 wX12_day hk205 rfl (by decide) q_1692 q_1693 q_1691 (by omega) rfl (Nat.le_of_ble_eq_true rfl) (kX12_day (d := 7) (Nat.le_refl _) h1) ?_
  refine g_icmp_eq (pc := 751) (tgt := 1612) C dL_law_751 (by decide) (fun c208 => ?_) (fun c208 => ?_)
  · replace h := ifp c208 h
    obtain ⟨v209, ev209⟩ : ∃ y : Int32, y = x3 + (6 : Int32) := ⟨_, rfl⟩
    replace h := lt_at ev209 h
    refine g_iinc (pc := 1612) (v := v209) (k := 3) (lo2 := [(3, .int (v209)), (0, .ref (b)), (1, .ref (x1)), (2, .ref (x2))]) C dL_law_1612 rfl (by rw [ev209]; rfl) (by decide) rfl ?_
    refine g_goto (pc := 1615) (tgt := 18) C dL_law_1615 (by decide) ?_
    obtain rfl := Option.some.inj h
    exact g_sub [1, 2, 3, 0] rfl (show G X B 4 Z Q 18 [(0, .ref (b)), (1, .ref (x1)), (2, .ref (x2)), (3, .int (v209))] [] T M207 from hE)
  · replace h := ifn c208 h
    cases h
theorem mjL_law_723 {L : Nat} {xs : Nat → Int32} {T : Sh} {M : Me} {x1 : Nat} {x2 : Nat} {x3 : Int32} {o : (Int32 × Sh × Me) ⊕ ((Sh × Me))} (h : jL_law_723 L xs T M x1 x2 x3 = some o) : leT T ((Sum.elim (fun s : Int32 × Sh × Me => s.2.1) (fun r : Sh × Me => r.1)) o) := by
  unfold jL_law_723 at h
  replace h := gv_some h; obtain ⟨hi197, h⟩ := h
  replace h := gv_some h; obtain ⟨hi198, h⟩ := h
  replace h := gd_some h; obtain ⟨hk199, h⟩ := h
  replace h := bnd3 h; obtain ⟨r200, T202, M201, h1, h⟩ := h
  have hmT202 := mX11_day h1
  exact (leT.rfl.trans hmT202).trans (mjL_law_737 h)
set_option maxHeartbeats 4000000 in
theorem tjL_law_723 {X : Fx} {B : Bx} {Z : Nat × Nat × Nat × Nat} {Q : State → Prop} {d : Nat} {T : Sh} {M : Me} {x1 : Nat} {x2 : Nat} {x3 : Int32} {o : (Int32 × Sh × Me) ⊕ ((Sh × Me))} (C : Cx X B cL_law 4 RL d Z) (hd : 405 ≤ d) {L : Nat} {xs : Nat → Int32} {b : Nat} (hX : va_X b L xs X.2.2.2.2.1 X.2.2.2.2.1.heap) (hbl : Lw X B b) (hZ : leZ ((Sum.elim (fun s : Int32 × Sh × Me => s.2.1) (fun r : Sh × Me => r.1)) o) Z) (h : jL_law_723 L xs T M x1 x2 x3 = some o) (hE : lpE (PL_law_18 X B Z Q b x1 x2) (EL_law_18 X B Z Q b x1 x2) o) : G X B 4 Z Q 723 [(0, .ref (b)), (1, .ref (x1)), (2, .ref (x2)), (3, .int (x3))] [] T M := by
  unfold jL_law_723 at h
  refine g_aload_n (pc := 723) C dL_law_723 rfl 1 rfl ?_
  refine g_aload_n (pc := 724) C dL_law_724 rfl 0 rfl ?_
  refine g_iload_n (pc := 725) C dL_law_725 rfl 3 rfl ?_
  refine g_iconst (pc := 726) (v := 1) C dL_law_726 (by decide) ?_
  refine g_iadd (pc := 727) C dL_law_727 ?_
  replace h := gv_some h; obtain ⟨hi197, h⟩ := h
  refine g_xld (pc := 728) C hX hbl dL_law_728 hi197 ?_
  refine g_aload_n (pc := 729) C dL_law_729 rfl 0 rfl ?_
  refine g_iload_n (pc := 730) C dL_law_730 rfl 3 rfl ?_
  refine g_iconst (pc := 731) (v := 2) C dL_law_731 (by decide) ?_
  refine g_iadd (pc := 732) C dL_law_732 ?_
  replace h := gv_some h; obtain ⟨hi198, h⟩ := h
  refine g_xld (pc := 733) C hX hbl dL_law_733 hi198 ?_
  replace h := gd_some h; obtain ⟨hk199, h⟩ := h
  replace h := bnd3 h; obtain ⟨r200, T202, M201, h1, h⟩ := h
  have hzT202 := (mjL_law_737 h).Z hZ
  refine g_callViA (pc := 734) (As := [.int (xs (Int32.toNatClampNeg (x3 + (1 : Int32)))), .int (xs (Int32.toNatClampNeg (x3 + (2 : Int32))))]) (st := []) C dL_law_734 wX11_day hk199 rfl (by decide) q_981 q_982 q_980 (by omega) rfl (Nat.le_of_ble_eq_true rfl) (kX11_day (d := 6) (Nat.le_refl _) h1) hzT202 ?_
  exact g_sub [0, 1, 2, 3] rfl (tjL_law_737 C hd hX hbl hZ h hE)
theorem mjL_law_756 {L : Nat} {xs : Nat → Int32} {T : Sh} {M : Me} {x1 : Nat} {x2 : Nat} {x3 : Int32} {o : (Int32 × Sh × Me) ⊕ ((Sh × Me))} (h : jL_law_756 L xs T M x1 x2 x3 = some o) : leT T ((Sum.elim (fun s : Int32 × Sh × Me => s.2.1) (fun r : Sh × Me => r.1)) o) := by
  unfold jL_law_756 at h
  replace h := gv_some h; obtain ⟨hi210, h⟩ := h
  replace h := gd_some h; obtain ⟨hk211, h⟩ := h
  replace h := bnd2 h; obtain ⟨r212, M213, h1, h⟩ := h
  replace h := gv_some h; obtain ⟨hi214, h⟩ := h
  replace h := gd_some h; obtain ⟨hk215, h⟩ := h
  replace h := bnd2 h; obtain ⟨r216, M217, h1, h⟩ := h
  by_cases c218 : r212 = r216
  · replace h := ifp c218 h
    obtain ⟨v219, ev219⟩ : ∃ y : Int32, y = x3 + (6 : Int32) := ⟨_, rfl⟩
    replace h := lt_at ev219 h
    obtain rfl := Option.some.inj h
    exact leT.rfl
  · replace h := ifn c218 h
    cases h
set_option maxHeartbeats 4000000 in
theorem tjL_law_756 {X : Fx} {B : Bx} {Z : Nat × Nat × Nat × Nat} {Q : State → Prop} {d : Nat} {T : Sh} {M : Me} {x1 : Nat} {x2 : Nat} {x3 : Int32} {o : (Int32 × Sh × Me) ⊕ ((Sh × Me))} (C : Cx X B cL_law 4 RL d Z) (hd : 405 ≤ d) {L : Nat} {xs : Nat → Int32} {b : Nat} (hX : va_X b L xs X.2.2.2.2.1 X.2.2.2.2.1.heap) (hbl : Lw X B b) (hZ : leZ ((Sum.elim (fun s : Int32 × Sh × Me => s.2.1) (fun r : Sh × Me => r.1)) o) Z) (h : jL_law_756 L xs T M x1 x2 x3 = some o) (hE : lpE (PL_law_18 X B Z Q b x1 x2) (EL_law_18 X B Z Q b x1 x2) o) : G X B 4 Z Q 756 [(0, .ref (b)), (1, .ref (x1)), (2, .ref (x2)), (3, .int (x3))] [] T M := by
  unfold jL_law_756 at h
  refine g_aload_n (pc := 756) C dL_law_756 rfl 1 rfl ?_
  refine g_aload_n (pc := 757) C dL_law_757 rfl 0 rfl ?_
  refine g_iload_n (pc := 758) C dL_law_758 rfl 3 rfl ?_
  refine g_iconst (pc := 759) (v := 1) C dL_law_759 (by decide) ?_
  refine g_iadd (pc := 760) C dL_law_760 ?_
  replace h := gv_some h; obtain ⟨hi210, h⟩ := h
  refine g_xld (pc := 761) C hX hbl dL_law_761 hi210 ?_
  replace h := gd_some h; obtain ⟨hk211, h⟩ := h
  replace h := bnd2 h; obtain ⟨r212, M213, h1, h⟩ := h
  refine g_callVi (pc := 762) (As := [.int (xs (Int32.toNatClampNeg (x3 + (1 : Int32))))]) (st := []) C dL_law_762 wX11_area hk211 rfl (by decide) q_1004 q_1005 q_1003 (by omega) rfl (Nat.le_of_ble_eq_true rfl) (kX11_area (d := 4) (Nat.le_refl _) h1) ?_
  refine g_aload_n (pc := 765) C dL_law_765 rfl 2 rfl ?_
  refine g_aload_n (pc := 766) C dL_law_766 rfl 0 rfl ?_
  refine g_iload_n (pc := 767) C dL_law_767 rfl 3 rfl ?_
  refine g_iconst (pc := 768) (v := 1) C dL_law_768 (by decide) ?_
  refine g_iadd (pc := 769) C dL_law_769 ?_
  replace h := gv_some h; obtain ⟨hi214, h⟩ := h
  refine g_xld (pc := 770) C hX hbl dL_law_770 hi214 ?_
  replace h := gd_some h; obtain ⟨hk215, h⟩ := h
  replace h := bnd2 h; obtain ⟨r216, M217, h1, h⟩ := h
  refine g_callVi (pc := 771) (As := [.int (xs (Int32.toNatClampNeg (x3 + (1 : Int32))))]) (st := [.int (r212)]) C dL_law_771 wX12_area hk215 rfl (by decide) q_1706 q_1707 q_1705 (by omega) rfl (Nat.le_of_ble_eq_true rfl) (kX12_area (d := 6) (Nat.le_refl _) h1) ?_
  refine g_icmp_eq (pc := 774) (tgt := 1612) C dL_law_774 (by decide) (fun c218 => ?_) (fun c218 => ?_)
  · replace h := ifp c218 h
    obtain ⟨v219, ev219⟩ : ∃ y : Int32, y = x3 + (6 : Int32) := ⟨_, rfl⟩
    replace h := lt_at ev219 h
    refine g_iinc (pc := 1612) (v := v219) (k := 3) (lo2 := [(3, .int (v219)), (0, .ref (b)), (1, .ref (x1)), (2, .ref (x2))]) C dL_law_1612 rfl (by rw [ev219]; rfl) (by decide) rfl ?_
    refine g_goto (pc := 1615) (tgt := 18) C dL_law_1615 (by decide) ?_
    obtain rfl := Option.some.inj h
    exact g_sub [1, 2, 3, 0] rfl (show G X B 4 Z Q 18 [(0, .ref (b)), (1, .ref (x1)), (2, .ref (x2)), (3, .int (v219))] [] T M217 from hE)
  · replace h := ifn c218 h
    cases h
theorem mjL_law_779 {L : Nat} {xs : Nat → Int32} {T : Sh} {M : Me} {x1 : Nat} {x2 : Nat} {x3 : Int32} {o : (Int32 × Sh × Me) ⊕ ((Sh × Me))} (h : jL_law_779 L xs T M x1 x2 x3 = some o) : leT T ((Sum.elim (fun s : Int32 × Sh × Me => s.2.1) (fun r : Sh × Me => r.1)) o) := by
  unfold jL_law_779 at h
  replace h := gv_some h; obtain ⟨hi220, h⟩ := h
  replace h := gd_some h; obtain ⟨hk221, h⟩ := h
  replace h := bnd2 h; obtain ⟨r222, M223, h1, h⟩ := h
  replace h := gv_some h; obtain ⟨hi224, h⟩ := h
  replace h := gd_some h; obtain ⟨hk225, h⟩ := h
  replace h := bnd2 h; obtain ⟨r226, M227, h1, h⟩ := h
  by_cases c228 : r222 = r226
  · replace h := ifp c228 h
    obtain ⟨v229, ev229⟩ : ∃ y : Int32, y = x3 + (6 : Int32) := ⟨_, rfl⟩
    replace h := lt_at ev229 h
    obtain rfl := Option.some.inj h
    exact leT.rfl
  · replace h := ifn c228 h
    cases h
set_option maxHeartbeats 4000000 in
theorem tjL_law_779 {X : Fx} {B : Bx} {Z : Nat × Nat × Nat × Nat} {Q : State → Prop} {d : Nat} {T : Sh} {M : Me} {x1 : Nat} {x2 : Nat} {x3 : Int32} {o : (Int32 × Sh × Me) ⊕ ((Sh × Me))} (C : Cx X B cL_law 4 RL d Z) (hd : 405 ≤ d) {L : Nat} {xs : Nat → Int32} {b : Nat} (hX : va_X b L xs X.2.2.2.2.1 X.2.2.2.2.1.heap) (hbl : Lw X B b) (hZ : leZ ((Sum.elim (fun s : Int32 × Sh × Me => s.2.1) (fun r : Sh × Me => r.1)) o) Z) (h : jL_law_779 L xs T M x1 x2 x3 = some o) (hE : lpE (PL_law_18 X B Z Q b x1 x2) (EL_law_18 X B Z Q b x1 x2) o) : G X B 4 Z Q 779 [(0, .ref (b)), (1, .ref (x1)), (2, .ref (x2)), (3, .int (x3))] [] T M := by
  unfold jL_law_779 at h
  refine g_aload_n (pc := 779) C dL_law_779 rfl 1 rfl ?_
  refine g_aload_n (pc := 780) C dL_law_780 rfl 0 rfl ?_
  refine g_iload_n (pc := 781) C dL_law_781 rfl 3 rfl ?_
  refine g_iconst (pc := 782) (v := 1) C dL_law_782 (by decide) ?_
  refine g_iadd (pc := 783) C dL_law_783 ?_
  replace h := gv_some h; obtain ⟨hi220, h⟩ := h
  refine g_xld (pc := 784) C hX hbl dL_law_784 hi220 ?_
  replace h := gd_some h; obtain ⟨hk221, h⟩ := h
  replace h := bnd2 h; obtain ⟨r222, M223, h1, h⟩ := h
  refine g_callVi (pc := 785) (As := [.int (xs (Int32.toNatClampNeg (x3 + (1 : Int32))))]) (st := []) C dL_law_785 wX11_eyes hk221 rfl (by decide) q_1008 q_1009 q_1007 (by omega) rfl (Nat.le_of_ble_eq_true rfl) (kX11_eyes (d := 4) (Nat.le_refl _) h1) ?_
  refine g_aload_n (pc := 788) C dL_law_788 rfl 2 rfl ?_
  refine g_aload_n (pc := 789) C dL_law_789 rfl 0 rfl ?_
  refine g_iload_n (pc := 790) C dL_law_790 rfl 3 rfl ?_
  refine g_iconst (pc := 791) (v := 1) C dL_law_791 (by decide) ?_
  refine g_iadd (pc := 792) C dL_law_792 ?_
  replace h := gv_some h; obtain ⟨hi224, h⟩ := h
  refine g_xld (pc := 793) C hX hbl dL_law_793 hi224 ?_
  replace h := gd_some h; obtain ⟨hk225, h⟩ := h
  replace h := bnd2 h; obtain ⟨r226, M227, h1, h⟩ := h
  refine g_callVi (pc := 794) (As := [.int (xs (Int32.toNatClampNeg (x3 + (1 : Int32))))]) (st := [.int (r222)]) C dL_law_794 wX12_eyes hk225 rfl (by decide) q_1714 q_1715 q_1713 (by omega) rfl (Nat.le_of_ble_eq_true rfl) (kX12_eyes (d := 404) (Nat.le_refl _) h1) ?_
  refine g_icmp_eq (pc := 797) (tgt := 1612) C dL_law_797 (by decide) (fun c228 => ?_) (fun c228 => ?_)
  · replace h := ifp c228 h
    obtain ⟨v229, ev229⟩ : ∃ y : Int32, y = x3 + (6 : Int32) := ⟨_, rfl⟩
    replace h := lt_at ev229 h
    refine g_iinc (pc := 1612) (v := v229) (k := 3) (lo2 := [(3, .int (v229)), (0, .ref (b)), (1, .ref (x1)), (2, .ref (x2))]) C dL_law_1612 rfl (by rw [ev229]; rfl) (by decide) rfl ?_
    refine g_goto (pc := 1615) (tgt := 18) C dL_law_1615 (by decide) ?_
    obtain rfl := Option.some.inj h
    exact g_sub [1, 2, 3, 0] rfl (show G X B 4 Z Q 18 [(0, .ref (b)), (1, .ref (x1)), (2, .ref (x2)), (3, .int (v229))] [] T M227 from hE)
  · replace h := ifn c228 h
    cases h
theorem mjL_law_802 {L : Nat} {xs : Nat → Int32} {T : Sh} {M : Me} {x1 : Nat} {x2 : Nat} {x3 : Int32} {o : (Int32 × Sh × Me) ⊕ ((Sh × Me))} (h : jL_law_802 L xs T M x1 x2 x3 = some o) : leT T ((Sum.elim (fun s : Int32 × Sh × Me => s.2.1) (fun r : Sh × Me => r.1)) o) := by
  unfold jL_law_802 at h
  replace h := gv_some h; obtain ⟨hi230, h⟩ := h
  replace h := gd_some h; obtain ⟨hk231, h⟩ := h
  replace h := bnd2 h; obtain ⟨r232, M233, h1, h⟩ := h
  replace h := gv_some h; obtain ⟨hi234, h⟩ := h
  replace h := gd_some h; obtain ⟨hk235, h⟩ := h
  replace h := bnd2 h; obtain ⟨r236, M237, h1, h⟩ := h
  by_cases c238 : r232 = r236
  · replace h := ifp c238 h
    obtain ⟨v239, ev239⟩ : ∃ y : Int32, y = x3 + (6 : Int32) := ⟨_, rfl⟩
    replace h := lt_at ev239 h
    obtain rfl := Option.some.inj h
    exact leT.rfl
  · replace h := ifn c238 h
    cases h
set_option maxHeartbeats 4000000 in
theorem tjL_law_802 {X : Fx} {B : Bx} {Z : Nat × Nat × Nat × Nat} {Q : State → Prop} {d : Nat} {T : Sh} {M : Me} {x1 : Nat} {x2 : Nat} {x3 : Int32} {o : (Int32 × Sh × Me) ⊕ ((Sh × Me))} (C : Cx X B cL_law 4 RL d Z) (hd : 405 ≤ d) {L : Nat} {xs : Nat → Int32} {b : Nat} (hX : va_X b L xs X.2.2.2.2.1 X.2.2.2.2.1.heap) (hbl : Lw X B b) (hZ : leZ ((Sum.elim (fun s : Int32 × Sh × Me => s.2.1) (fun r : Sh × Me => r.1)) o) Z) (h : jL_law_802 L xs T M x1 x2 x3 = some o) (hE : lpE (PL_law_18 X B Z Q b x1 x2) (EL_law_18 X B Z Q b x1 x2) o) : G X B 4 Z Q 802 [(0, .ref (b)), (1, .ref (x1)), (2, .ref (x2)), (3, .int (x3))] [] T M := by
  unfold jL_law_802 at h
  refine g_aload_n (pc := 802) C dL_law_802 rfl 1 rfl ?_
  refine g_aload_n (pc := 803) C dL_law_803 rfl 0 rfl ?_
  refine g_iload_n (pc := 804) C dL_law_804 rfl 3 rfl ?_
  refine g_iconst (pc := 805) (v := 1) C dL_law_805 (by decide) ?_
  refine g_iadd (pc := 806) C dL_law_806 ?_
  replace h := gv_some h; obtain ⟨hi230, h⟩ := h
  refine g_xld (pc := 807) C hX hbl dL_law_807 hi230 ?_
  replace h := gd_some h; obtain ⟨hk231, h⟩ := h
  replace h := bnd2 h; obtain ⟨r232, M233, h1, h⟩ := h
  refine g_callVi (pc := 808) (As := [.int (xs (Int32.toNatClampNeg (x3 + (1 : Int32))))]) (st := []) C dL_law_808 wX11_greatest hk231 rfl (by decide) q_1028 q_1029 q_1027 (by omega) rfl (Nat.le_of_ble_eq_true rfl) (kX11_greatest (d := 4) (Nat.le_refl _) h1) ?_
  refine g_aload_n (pc := 811) C dL_law_811 rfl 2 rfl ?_
  refine g_aload_n (pc := 812) C dL_law_812 rfl 0 rfl ?_
  refine g_iload_n (pc := 813) C dL_law_813 rfl 3 rfl ?_
  refine g_iconst (pc := 814) (v := 1) C dL_law_814 (by decide) ?_
  refine g_iadd (pc := 815) C dL_law_815 ?_
  replace h := gv_some h; obtain ⟨hi234, h⟩ := h
  refine g_xld (pc := 816) C hX hbl dL_law_816 hi234 ?_
  replace h := gd_some h; obtain ⟨hk235, h⟩ := h
  replace h := bnd2 h; obtain ⟨r236, M237, h1, h⟩ := h
  refine g_callVi (pc := 817) (As := [.int (xs (Int32.toNatClampNeg (x3 + (1 : Int32))))]) (st := [.int (r232)]) C dL_law_817 wX12_greatest hk235 rfl (by decide) q_1726 q_1727 q_1725 (by omega) rfl (Nat.le_of_ble_eq_true rfl) (kX12_greatest (d := 404) (Nat.le_refl _) h1) ?_
  refine g_icmp_eq (pc := 820) (tgt := 1612) C dL_law_820 (by decide) (fun c238 => ?_) (fun c238 => ?_)
  · replace h := ifp c238 h
    obtain ⟨v239, ev239⟩ : ∃ y : Int32, y = x3 + (6 : Int32) := ⟨_, rfl⟩
    replace h := lt_at ev239 h
    refine g_iinc (pc := 1612) (v := v239) (k := 3) (lo2 := [(3, .int (v239)), (0, .ref (b)), (1, .ref (x1)), (2, .ref (x2))]) C dL_law_1612 rfl (by rw [ev239]; rfl) (by decide) rfl ?_
    refine g_goto (pc := 1615) (tgt := 18) C dL_law_1615 (by decide) ?_
    obtain rfl := Option.some.inj h
    exact g_sub [1, 2, 3, 0] rfl (show G X B 4 Z Q 18 [(0, .ref (b)), (1, .ref (x1)), (2, .ref (x2)), (3, .int (v239))] [] T M237 from hE)
  · replace h := ifn c238 h
    cases h
theorem mjL_law_825 {L : Nat} {xs : Nat → Int32} {T : Sh} {M : Me} {x1 : Nat} {x2 : Nat} {x3 : Int32} {o : (Int32 × Sh × Me) ⊕ ((Sh × Me))} (h : jL_law_825 L xs T M x1 x2 x3 = some o) : leT T ((Sum.elim (fun s : Int32 × Sh × Me => s.2.1) (fun r : Sh × Me => r.1)) o) := by
  unfold jL_law_825 at h
  replace h := gv_some h; obtain ⟨hi240, h⟩ := h
  replace h := gv_some h; obtain ⟨hi241, h⟩ := h
  replace h := gd_some h; obtain ⟨hk242, h⟩ := h
  replace h := bnd2 h; obtain ⟨r243, M244, h1, h⟩ := h
  replace h := gv_some h; obtain ⟨hi245, h⟩ := h
  replace h := gv_some h; obtain ⟨hi246, h⟩ := h
  replace h := gd_some h; obtain ⟨hk247, h⟩ := h
  replace h := bnd2 h; obtain ⟨r248, M249, h1, h⟩ := h
  by_cases c250 : r243 = r248
  · replace h := ifp c250 h
    obtain ⟨v251, ev251⟩ : ∃ y : Int32, y = x3 + (6 : Int32) := ⟨_, rfl⟩
    replace h := lt_at ev251 h
    obtain rfl := Option.some.inj h
    exact leT.rfl
  · replace h := ifn c250 h
    cases h
set_option maxHeartbeats 4000000 in
theorem tjL_law_825 {X : Fx} {B : Bx} {Z : Nat × Nat × Nat × Nat} {Q : State → Prop} {d : Nat} {T : Sh} {M : Me} {x1 : Nat} {x2 : Nat} {x3 : Int32} {o : (Int32 × Sh × Me) ⊕ ((Sh × Me))} (C : Cx X B cL_law 4 RL d Z) (hd : 405 ≤ d) {L : Nat} {xs : Nat → Int32} {b : Nat} (hX : va_X b L xs X.2.2.2.2.1 X.2.2.2.2.1.heap) (hbl : Lw X B b) (hZ : leZ ((Sum.elim (fun s : Int32 × Sh × Me => s.2.1) (fun r : Sh × Me => r.1)) o) Z) (h : jL_law_825 L xs T M x1 x2 x3 = some o) (hE : lpE (PL_law_18 X B Z Q b x1 x2) (EL_law_18 X B Z Q b x1 x2) o) : G X B 4 Z Q 825 [(0, .ref (b)), (1, .ref (x1)), (2, .ref (x2)), (3, .int (x3))] [] T M := by
  unfold jL_law_825 at h
  refine g_aload_n (pc := 825) C dL_law_825 rfl 1 rfl ?_
  refine g_aload_n (pc := 826) C dL_law_826 rfl 0 rfl ?_
  refine g_iload_n (pc := 827) C dL_law_827 rfl 3 rfl ?_
  refine g_iconst (pc := 828) (v := 1) C dL_law_828 (by decide) ?_
  refine g_iadd (pc := 829) C dL_law_829 ?_
  replace h := gv_some h; obtain ⟨hi240, h⟩ := h
  refine g_xld (pc := 830) C hX hbl dL_law_830 hi240 ?_
  refine g_aload_n (pc := 831) C dL_law_831 rfl 0 rfl ?_
  refine g_iload_n (pc := 832) C dL_law_832 rfl 3 rfl ?_
  refine g_iconst (pc := 833) (v := 2) C dL_law_833 (by decide) ?_
  refine g_iadd (pc := 834) C dL_law_834 ?_
  replace h := gv_some h; obtain ⟨hi241, h⟩ := h
  refine g_xld (pc := 835) C hX hbl dL_law_835 hi241 ?_
  replace h := gd_some h; obtain ⟨hk242, h⟩ := h
  replace h := bnd2 h; obtain ⟨r243, M244, h1, h⟩ := h
  refine g_callVi (pc := 836) (As := [.int (xs (Int32.toNatClampNeg (x3 + (1 : Int32)))), .int (xs (Int32.toNatClampNeg (x3 + (2 : Int32))))]) (st := []) C dL_law_836 wX11_rectangle hk242 rfl (by decide) q_1032 q_1033 q_1031 (by omega) rfl (Nat.le_of_ble_eq_true rfl) (kX11_rectangle (d := 4) (Nat.le_refl _) h1) ?_
  refine g_aload_n (pc := 839) C dL_law_839 rfl 2 rfl ?_
  refine g_aload_n (pc := 840) C dL_law_840 rfl 0 rfl ?_
  refine g_iload_n (pc := 841) C dL_law_841 rfl 3 rfl ?_
  refine g_iconst (pc := 842) (v := 1) C dL_law_842 (by decide) ?_
  refine g_iadd (pc := 843) C dL_law_843 ?_
  replace h := gv_some h; obtain ⟨hi245, h⟩ := h
  refine g_xld (pc := 844) C hX hbl dL_law_844 hi245 ?_
  refine g_aload_n (pc := 845) C dL_law_845 rfl 0 rfl ?_
  refine g_iload_n (pc := 846) C dL_law_846 rfl 3 rfl ?_
  refine g_iconst (pc := 847) (v := 2) C dL_law_847 (by decide) ?_
  refine g_iadd (pc := 848) C dL_law_848 ?_
  replace h := gv_some h; obtain ⟨hi246, h⟩ := h
  refine g_xld (pc := 849) C hX hbl dL_law_849 hi246 ?_
  replace h := gd_some h; obtain ⟨hk247, h⟩ := h
  replace h := bnd2 h; obtain ⟨r248, M249, h1, h⟩ := h
  refine g_callVi (pc := 850) (As := [.int (xs (Int32.toNatClampNeg (x3 + (1 : Int32)))), .int (xs (Int32.toNatClampNeg (x3 + (2 : Int32))))]) (st := [.int (r243)]) C dL_law_850 wX12_rectangle hk247 rfl (by decide) q_1730 q_1731 q_1729 (by omega) rfl (Nat.le_of_ble_eq_true rfl) (kX12_rectangle (d := 6) (Nat.le_refl _) h1) ?_
  refine g_icmp_eq (pc := 853) (tgt := 1612) C dL_law_853 (by decide) (fun c250 => ?_) (fun c250 => ?_)
  · replace h := ifp c250 h
    obtain ⟨v251, ev251⟩ : ∃ y : Int32, y = x3 + (6 : Int32) := ⟨_, rfl⟩
    replace h := lt_at ev251 h
    refine g_iinc (pc := 1612) (v := v251) (k := 3) (lo2 := [(3, .int (v251)), (0, .ref (b)), (1, .ref (x1)), (2, .ref (x2))]) C dL_law_1612 rfl (by rw [ev251]; rfl) (by decide) rfl ?_
    refine g_goto (pc := 1615) (tgt := 18) C dL_law_1615 (by decide) ?_
    obtain rfl := Option.some.inj h
    exact g_sub [1, 2, 3, 0] rfl (show G X B 4 Z Q 18 [(0, .ref (b)), (1, .ref (x1)), (2, .ref (x2)), (3, .int (v251))] [] T M249 from hE)
  · replace h := ifn c250 h
    cases h
theorem mjL_law_858 {L : Nat} {xs : Nat → Int32} {T : Sh} {M : Me} {x1 : Nat} {x2 : Nat} {x3 : Int32} {o : (Int32 × Sh × Me) ⊕ ((Sh × Me))} (h : jL_law_858 L xs T M x1 x2 x3 = some o) : leT T ((Sum.elim (fun s : Int32 × Sh × Me => s.2.1) (fun r : Sh × Me => r.1)) o) := by
  unfold jL_law_858 at h
  replace h := gv_some h; obtain ⟨hi252, h⟩ := h
  replace h := gv_some h; obtain ⟨hi253, h⟩ := h
  replace h := gd_some h; obtain ⟨hk254, h⟩ := h
  replace h := bnd2 h; obtain ⟨r255, M256, h1, h⟩ := h
  replace h := gv_some h; obtain ⟨hi257, h⟩ := h
  replace h := gv_some h; obtain ⟨hi258, h⟩ := h
  replace h := gd_some h; obtain ⟨hk259, h⟩ := h
  replace h := bnd2 h; obtain ⟨r260, M261, h1, h⟩ := h
  by_cases c262 : r255 = r260
  · replace h := ifp c262 h
    obtain ⟨v263, ev263⟩ : ∃ y : Int32, y = x3 + (6 : Int32) := ⟨_, rfl⟩
    replace h := lt_at ev263 h
    obtain rfl := Option.some.inj h
    exact leT.rfl
  · replace h := ifn c262 h
    cases h
set_option maxHeartbeats 4000000 in
theorem tjL_law_858 {X : Fx} {B : Bx} {Z : Nat × Nat × Nat × Nat} {Q : State → Prop} {d : Nat} {T : Sh} {M : Me} {x1 : Nat} {x2 : Nat} {x3 : Int32} {o : (Int32 × Sh × Me) ⊕ ((Sh × Me))} (C : Cx X B cL_law 4 RL d Z) (hd : 405 ≤ d) {L : Nat} {xs : Nat → Int32} {b : Nat} (hX : va_X b L xs X.2.2.2.2.1 X.2.2.2.2.1.heap) (hbl : Lw X B b) (hZ : leZ ((Sum.elim (fun s : Int32 × Sh × Me => s.2.1) (fun r : Sh × Me => r.1)) o) Z) (h : jL_law_858 L xs T M x1 x2 x3 = some o) (hE : lpE (PL_law_18 X B Z Q b x1 x2) (EL_law_18 X B Z Q b x1 x2) o) : G X B 4 Z Q 858 [(0, .ref (b)), (1, .ref (x1)), (2, .ref (x2)), (3, .int (x3))] [] T M := by
  unfold jL_law_858 at h
  refine g_aload_n (pc := 858) C dL_law_858 rfl 1 rfl ?_
  refine g_aload_n (pc := 859) C dL_law_859 rfl 0 rfl ?_
  refine g_iload_n (pc := 860) C dL_law_860 rfl 3 rfl ?_
  refine g_iconst (pc := 861) (v := 1) C dL_law_861 (by decide) ?_
  refine g_iadd (pc := 862) C dL_law_862 ?_
  replace h := gv_some h; obtain ⟨hi252, h⟩ := h
  refine g_xld (pc := 863) C hX hbl dL_law_863 hi252 ?_
  refine g_aload_n (pc := 864) C dL_law_864 rfl 0 rfl ?_
  refine g_iload_n (pc := 865) C dL_law_865 rfl 3 rfl ?_
  refine g_iconst (pc := 866) (v := 2) C dL_law_866 (by decide) ?_
  refine g_iadd (pc := 867) C dL_law_867 ?_
  replace h := gv_some h; obtain ⟨hi253, h⟩ := h
  refine g_xld (pc := 868) C hX hbl dL_law_868 hi253 ?_
  replace h := gd_some h; obtain ⟨hk254, h⟩ := h
  replace h := bnd2 h; obtain ⟨r255, M256, h1, h⟩ := h
  refine g_callVi (pc := 869) (As := [.int (xs (Int32.toNatClampNeg (x3 + (1 : Int32)))), .int (xs (Int32.toNatClampNeg (x3 + (2 : Int32))))]) (st := []) C dL_law_869 wX11_ellipse hk254 rfl (by decide) q_1036 q_1037 q_1035 (by omega) rfl (Nat.le_of_ble_eq_true rfl) (kX11_ellipse (d := 4) (Nat.le_refl _) h1) ?_
  refine g_aload_n (pc := 872) C dL_law_872 rfl 2 rfl ?_
  refine g_aload_n (pc := 873) C dL_law_873 rfl 0 rfl ?_
  refine g_iload_n (pc := 874) C dL_law_874 rfl 3 rfl ?_
  refine g_iconst (pc := 875) (v := 1) C dL_law_875 (by decide) ?_
  refine g_iadd (pc := 876) C dL_law_876 ?_
  replace h := gv_some h; obtain ⟨hi257, h⟩ := h
  refine g_xld (pc := 877) C hX hbl dL_law_877 hi257 ?_
  refine g_aload_n (pc := 878) C dL_law_878 rfl 0 rfl ?_
  refine g_iload_n (pc := 879) C dL_law_879 rfl 3 rfl ?_
  refine g_iconst (pc := 880) (v := 2) C dL_law_880 (by decide) ?_
  refine g_iadd (pc := 881) C dL_law_881 ?_
  replace h := gv_some h; obtain ⟨hi258, h⟩ := h
  refine g_xld (pc := 882) C hX hbl dL_law_882 hi258 ?_
  replace h := gd_some h; obtain ⟨hk259, h⟩ := h
  replace h := bnd2 h; obtain ⟨r260, M261, h1, h⟩ := h
  refine g_callVi (pc := 883) (As := [.int (xs (Int32.toNatClampNeg (x3 + (1 : Int32)))), .int (xs (Int32.toNatClampNeg (x3 + (2 : Int32))))]) (st := [.int (r255)]) C dL_law_883 wX12_ellipse hk259 rfl (by decide) q_1735 q_1736 q_1734 (by omega) rfl (Nat.le_of_ble_eq_true rfl) (kX12_ellipse (d := 6) (Nat.le_refl _) h1) ?_
  refine g_icmp_eq (pc := 886) (tgt := 1612) C dL_law_886 (by decide) (fun c262 => ?_) (fun c262 => ?_)
  · replace h := ifp c262 h
    obtain ⟨v263, ev263⟩ : ∃ y : Int32, y = x3 + (6 : Int32) := ⟨_, rfl⟩
    replace h := lt_at ev263 h
    refine g_iinc (pc := 1612) (v := v263) (k := 3) (lo2 := [(3, .int (v263)), (0, .ref (b)), (1, .ref (x1)), (2, .ref (x2))]) C dL_law_1612 rfl (by rw [ev263]; rfl) (by decide) rfl ?_
    refine g_goto (pc := 1615) (tgt := 18) C dL_law_1615 (by decide) ?_
    obtain rfl := Option.some.inj h
    exact g_sub [1, 2, 3, 0] rfl (show G X B 4 Z Q 18 [(0, .ref (b)), (1, .ref (x1)), (2, .ref (x2)), (3, .int (v263))] [] T M261 from hE)
  · replace h := ifn c262 h
    cases h
theorem mjL_law_891 {L : Nat} {xs : Nat → Int32} {T : Sh} {M : Me} {x1 : Nat} {x2 : Nat} {x3 : Int32} {o : (Int32 × Sh × Me) ⊕ ((Sh × Me))} (h : jL_law_891 L xs T M x1 x2 x3 = some o) : leT T ((Sum.elim (fun s : Int32 × Sh × Me => s.2.1) (fun r : Sh × Me => r.1)) o) := by
  unfold jL_law_891 at h
  replace h := gv_some h; obtain ⟨hi264, h⟩ := h
  replace h := gv_some h; obtain ⟨hi265, h⟩ := h
  replace h := gd_some h; obtain ⟨hk266, h⟩ := h
  replace h := bnd2 h; obtain ⟨r267, M268, h1, h⟩ := h
  replace h := gv_some h; obtain ⟨hi269, h⟩ := h
  replace h := gv_some h; obtain ⟨hi270, h⟩ := h
  replace h := gd_some h; obtain ⟨hk271, h⟩ := h
  replace h := bnd2 h; obtain ⟨r272, M273, h1, h⟩ := h
  by_cases c274 : r267 = r272
  · replace h := ifp c274 h
    obtain ⟨v275, ev275⟩ : ∃ y : Int32, y = x3 + (6 : Int32) := ⟨_, rfl⟩
    replace h := lt_at ev275 h
    obtain rfl := Option.some.inj h
    exact leT.rfl
  · replace h := ifn c274 h
    cases h
set_option maxHeartbeats 4000000 in
theorem tjL_law_891 {X : Fx} {B : Bx} {Z : Nat × Nat × Nat × Nat} {Q : State → Prop} {d : Nat} {T : Sh} {M : Me} {x1 : Nat} {x2 : Nat} {x3 : Int32} {o : (Int32 × Sh × Me) ⊕ ((Sh × Me))} (C : Cx X B cL_law 4 RL d Z) (hd : 405 ≤ d) {L : Nat} {xs : Nat → Int32} {b : Nat} (hX : va_X b L xs X.2.2.2.2.1 X.2.2.2.2.1.heap) (hbl : Lw X B b) (hZ : leZ ((Sum.elim (fun s : Int32 × Sh × Me => s.2.1) (fun r : Sh × Me => r.1)) o) Z) (h : jL_law_891 L xs T M x1 x2 x3 = some o) (hE : lpE (PL_law_18 X B Z Q b x1 x2) (EL_law_18 X B Z Q b x1 x2) o) : G X B 4 Z Q 891 [(0, .ref (b)), (1, .ref (x1)), (2, .ref (x2)), (3, .int (x3))] [] T M := by
  unfold jL_law_891 at h
  refine g_aload_n (pc := 891) C dL_law_891 rfl 1 rfl ?_
  refine g_aload_n (pc := 892) C dL_law_892 rfl 0 rfl ?_
  refine g_iload_n (pc := 893) C dL_law_893 rfl 3 rfl ?_
  refine g_iconst (pc := 894) (v := 1) C dL_law_894 (by decide) ?_
  refine g_iadd (pc := 895) C dL_law_895 ?_
  replace h := gv_some h; obtain ⟨hi264, h⟩ := h
  refine g_xld (pc := 896) C hX hbl dL_law_896 hi264 ?_
  refine g_aload_n (pc := 897) C dL_law_897 rfl 0 rfl ?_
  refine g_iload_n (pc := 898) C dL_law_898 rfl 3 rfl ?_
  refine g_iconst (pc := 899) (v := 2) C dL_law_899 (by decide) ?_
  refine g_iadd (pc := 900) C dL_law_900 ?_
  replace h := gv_some h; obtain ⟨hi265, h⟩ := h
  refine g_xld (pc := 901) C hX hbl dL_law_901 hi265 ?_
  replace h := gd_some h; obtain ⟨hk266, h⟩ := h
  replace h := bnd2 h; obtain ⟨r267, M268, h1, h⟩ := h
  refine g_callVi (pc := 902) (As := [.int (xs (Int32.toNatClampNeg (x3 + (1 : Int32)))), .int (xs (Int32.toNatClampNeg (x3 + (2 : Int32))))]) (st := []) C dL_law_902 wX11_margin hk266 rfl (by decide) q_1040 q_1041 q_1039 (by omega) rfl (Nat.le_of_ble_eq_true rfl) (kX11_margin (d := 5) (Nat.le_refl _) h1) ?_
  refine g_aload_n (pc := 905) C dL_law_905 rfl 2 rfl ?_
  refine g_aload_n (pc := 906) C dL_law_906 rfl 0 rfl ?_
  refine g_iload_n (pc := 907) C dL_law_907 rfl 3 rfl ?_
  refine g_iconst (pc := 908) (v := 1) C dL_law_908 (by decide) ?_
  refine g_iadd (pc := 909) C dL_law_909 ?_
  replace h := gv_some h; obtain ⟨hi269, h⟩ := h
  refine g_xld (pc := 910) C hX hbl dL_law_910 hi269 ?_
  refine g_aload_n (pc := 911) C dL_law_911 rfl 0 rfl ?_
  refine g_iload_n (pc := 912) C dL_law_912 rfl 3 rfl ?_
  refine g_iconst (pc := 913) (v := 2) C dL_law_913 (by decide) ?_
  refine g_iadd (pc := 914) C dL_law_914 ?_
  replace h := gv_some h; obtain ⟨hi270, h⟩ := h
  refine g_xld (pc := 915) C hX hbl dL_law_915 hi270 ?_
  replace h := gd_some h; obtain ⟨hk271, h⟩ := h
  replace h := bnd2 h; obtain ⟨r272, M273, h1, h⟩ := h
  refine g_callVi (pc := 916) (As := [.int (xs (Int32.toNatClampNeg (x3 + (1 : Int32)))), .int (xs (Int32.toNatClampNeg (x3 + (2 : Int32))))]) (st := [.int (r267)]) C dL_law_916 wX12_margin hk271 rfl (by decide) q_1739 q_1740 q_1738 (by omega) rfl (Nat.le_of_ble_eq_true rfl) (kX12_margin (d := 6) (Nat.le_refl _) h1) ?_
  refine g_icmp_eq (pc := 919) (tgt := 1612) C dL_law_919 (by decide) (fun c274 => ?_) (fun c274 => ?_)
  · replace h := ifp c274 h
    obtain ⟨v275, ev275⟩ : ∃ y : Int32, y = x3 + (6 : Int32) := ⟨_, rfl⟩
    replace h := lt_at ev275 h
    refine g_iinc (pc := 1612) (v := v275) (k := 3) (lo2 := [(3, .int (v275)), (0, .ref (b)), (1, .ref (x1)), (2, .ref (x2))]) C dL_law_1612 rfl (by rw [ev275]; rfl) (by decide) rfl ?_
    refine g_goto (pc := 1615) (tgt := 18) C dL_law_1615 (by decide) ?_
    obtain rfl := Option.some.inj h
    exact g_sub [1, 2, 3, 0] rfl (show G X B 4 Z Q 18 [(0, .ref (b)), (1, .ref (x1)), (2, .ref (x2)), (3, .int (v275))] [] T M273 from hE)
  · replace h := ifn c274 h
    cases h
theorem mjL_law_924 {L : Nat} {xs : Nat → Int32} {T : Sh} {M : Me} {x1 : Nat} {x2 : Nat} {x3 : Int32} {o : (Int32 × Sh × Me) ⊕ ((Sh × Me))} (h : jL_law_924 L xs T M x1 x2 x3 = some o) : leT T ((Sum.elim (fun s : Int32 × Sh × Me => s.2.1) (fun r : Sh × Me => r.1)) o) := by
  unfold jL_law_924 at h
  replace h := gv_some h; obtain ⟨hi276, h⟩ := h
  replace h := gd_some h; obtain ⟨hk277, h⟩ := h
  replace h := bnd2 h; obtain ⟨r278, M279, h1, h⟩ := h
  replace h := gv_some h; obtain ⟨hi280, h⟩ := h
  replace h := gd_some h; obtain ⟨hk281, h⟩ := h
  replace h := bnd2 h; obtain ⟨r282, M283, h1, h⟩ := h
  by_cases c284 : r278 = r282
  · replace h := ifp c284 h
    obtain ⟨v285, ev285⟩ : ∃ y : Int32, y = x3 + (6 : Int32) := ⟨_, rfl⟩
    replace h := lt_at ev285 h
    obtain rfl := Option.some.inj h
    exact leT.rfl
  · replace h := ifn c284 h
    cases h
set_option maxHeartbeats 4000000 in
theorem tjL_law_924 {X : Fx} {B : Bx} {Z : Nat × Nat × Nat × Nat} {Q : State → Prop} {d : Nat} {T : Sh} {M : Me} {x1 : Nat} {x2 : Nat} {x3 : Int32} {o : (Int32 × Sh × Me) ⊕ ((Sh × Me))} (C : Cx X B cL_law 4 RL d Z) (hd : 405 ≤ d) {L : Nat} {xs : Nat → Int32} {b : Nat} (hX : va_X b L xs X.2.2.2.2.1 X.2.2.2.2.1.heap) (hbl : Lw X B b) (hZ : leZ ((Sum.elim (fun s : Int32 × Sh × Me => s.2.1) (fun r : Sh × Me => r.1)) o) Z) (h : jL_law_924 L xs T M x1 x2 x3 = some o) (hE : lpE (PL_law_18 X B Z Q b x1 x2) (EL_law_18 X B Z Q b x1 x2) o) : G X B 4 Z Q 924 [(0, .ref (b)), (1, .ref (x1)), (2, .ref (x2)), (3, .int (x3))] [] T M := by
  unfold jL_law_924 at h
  refine g_aload_n (pc := 924) C dL_law_924 rfl 1 rfl ?_
  refine g_aload_n (pc := 925) C dL_law_925 rfl 0 rfl ?_
  refine g_iload_n (pc := 926) C dL_law_926 rfl 3 rfl ?_
  refine g_iconst (pc := 927) (v := 1) C dL_law_927 (by decide) ?_
  refine g_iadd (pc := 928) C dL_law_928 ?_
  replace h := gv_some h; obtain ⟨hi276, h⟩ := h
  refine g_xld (pc := 929) C hX hbl dL_law_929 hi276 ?_
  replace h := gd_some h; obtain ⟨hk277, h⟩ := h
  replace h := bnd2 h; obtain ⟨r278, M279, h1, h⟩ := h
  refine g_callVi (pc := 930) (As := [.int (xs (Int32.toNatClampNeg (x3 + (1 : Int32))))]) (st := []) C dL_law_930 wX11_edge hk277 rfl (by decide) q_1048 q_1049 q_1047 (by omega) rfl (Nat.le_of_ble_eq_true rfl) (kX11_edge (d := 3) (Nat.le_refl _) h1) ?_
  refine g_aload_n (pc := 933) C dL_law_933 rfl 2 rfl ?_
  refine g_aload_n (pc := 934) C dL_law_934 rfl 0 rfl ?_
  refine g_iload_n (pc := 935) C dL_law_935 rfl 3 rfl ?_
  refine g_iconst (pc := 936) (v := 1) C dL_law_936 (by decide) ?_
  refine g_iadd (pc := 937) C dL_law_937 ?_
  replace h := gv_some h; obtain ⟨hi280, h⟩ := h
  refine g_xld (pc := 938) C hX hbl dL_law_938 hi280 ?_
  replace h := gd_some h; obtain ⟨hk281, h⟩ := h
  replace h := bnd2 h; obtain ⟨r282, M283, h1, h⟩ := h
  refine g_callVi (pc := 939) (As := [.int (xs (Int32.toNatClampNeg (x3 + (1 : Int32))))]) (st := [.int (r278)]) C dL_law_939 wX12_edge hk281 rfl (by decide) q_1743 q_1744 q_1742 (by omega) rfl (Nat.le_of_ble_eq_true rfl) (kX12_edge (d := 5) (Nat.le_refl _) h1) ?_
  refine g_icmp_eq (pc := 942) (tgt := 1612) C dL_law_942 (by decide) (fun c284 => ?_) (fun c284 => ?_)
  · replace h := ifp c284 h
    obtain ⟨v285, ev285⟩ : ∃ y : Int32, y = x3 + (6 : Int32) := ⟨_, rfl⟩
    replace h := lt_at ev285 h
    refine g_iinc (pc := 1612) (v := v285) (k := 3) (lo2 := [(3, .int (v285)), (0, .ref (b)), (1, .ref (x1)), (2, .ref (x2))]) C dL_law_1612 rfl (by rw [ev285]; rfl) (by decide) rfl ?_
    refine g_goto (pc := 1615) (tgt := 18) C dL_law_1615 (by decide) ?_
    obtain rfl := Option.some.inj h
    exact g_sub [1, 2, 3, 0] rfl (show G X B 4 Z Q 18 [(0, .ref (b)), (1, .ref (x1)), (2, .ref (x2)), (3, .int (v285))] [] T M283 from hE)
  · replace h := ifn c284 h
    cases h
theorem mjL_law_947 {L : Nat} {xs : Nat → Int32} {T : Sh} {M : Me} {x1 : Nat} {x2 : Nat} {x3 : Int32} {o : (Int32 × Sh × Me) ⊕ ((Sh × Me))} (h : jL_law_947 L xs T M x1 x2 x3 = some o) : leT T ((Sum.elim (fun s : Int32 × Sh × Me => s.2.1) (fun r : Sh × Me => r.1)) o) := by
  unfold jL_law_947 at h
  replace h := gv_some h; obtain ⟨hi286, h⟩ := h
  replace h := gd_some h; obtain ⟨hk287, h⟩ := h
  replace h := bnd2 h; obtain ⟨r288, M289, h1, h⟩ := h
  replace h := gv_some h; obtain ⟨hi290, h⟩ := h
  replace h := gd_some h; obtain ⟨hk291, h⟩ := h
  replace h := bnd2 h; obtain ⟨r292, M293, h1, h⟩ := h
  by_cases c294 : r288 = r292
  · replace h := ifp c294 h
    obtain ⟨v295, ev295⟩ : ∃ y : Int32, y = x3 + (6 : Int32) := ⟨_, rfl⟩
    replace h := lt_at ev295 h
    obtain rfl := Option.some.inj h
    exact leT.rfl
  · replace h := ifn c294 h
    cases h
set_option maxHeartbeats 4000000 in
theorem tjL_law_947 {X : Fx} {B : Bx} {Z : Nat × Nat × Nat × Nat} {Q : State → Prop} {d : Nat} {T : Sh} {M : Me} {x1 : Nat} {x2 : Nat} {x3 : Int32} {o : (Int32 × Sh × Me) ⊕ ((Sh × Me))} (C : Cx X B cL_law 4 RL d Z) (hd : 405 ≤ d) {L : Nat} {xs : Nat → Int32} {b : Nat} (hX : va_X b L xs X.2.2.2.2.1 X.2.2.2.2.1.heap) (hbl : Lw X B b) (hZ : leZ ((Sum.elim (fun s : Int32 × Sh × Me => s.2.1) (fun r : Sh × Me => r.1)) o) Z) (h : jL_law_947 L xs T M x1 x2 x3 = some o) (hE : lpE (PL_law_18 X B Z Q b x1 x2) (EL_law_18 X B Z Q b x1 x2) o) : G X B 4 Z Q 947 [(0, .ref (b)), (1, .ref (x1)), (2, .ref (x2)), (3, .int (x3))] [] T M := by
  unfold jL_law_947 at h
  refine g_aload_n (pc := 947) C dL_law_947 rfl 1 rfl ?_
  refine g_aload_n (pc := 948) C dL_law_948 rfl 0 rfl ?_
  refine g_iload_n (pc := 949) C dL_law_949 rfl 3 rfl ?_
  refine g_iconst (pc := 950) (v := 1) C dL_law_950 (by decide) ?_
  refine g_iadd (pc := 951) C dL_law_951 ?_
  replace h := gv_some h; obtain ⟨hi286, h⟩ := h
  refine g_xld (pc := 952) C hX hbl dL_law_952 hi286 ?_
  replace h := gd_some h; obtain ⟨hk287, h⟩ := h
  replace h := bnd2 h; obtain ⟨r288, M289, h1, h⟩ := h
  refine g_callVi (pc := 953) (As := [.int (xs (Int32.toNatClampNeg (x3 + (1 : Int32))))]) (st := []) C dL_law_953 wX11_lag hk287 rfl (by decide) q_1052 q_1053 q_1051 (by omega) rfl (Nat.le_of_ble_eq_true rfl) (kX11_lag (d := 4) (Nat.le_refl _) h1) ?_
  refine g_aload_n (pc := 956) C dL_law_956 rfl 2 rfl ?_
  refine g_aload_n (pc := 957) C dL_law_957 rfl 0 rfl ?_
  refine g_iload_n (pc := 958) C dL_law_958 rfl 3 rfl ?_
  refine g_iconst (pc := 959) (v := 1) C dL_law_959 (by decide) ?_
  refine g_iadd (pc := 960) C dL_law_960 ?_
  replace h := gv_some h; obtain ⟨hi290, h⟩ := h
  refine g_xld (pc := 961) C hX hbl dL_law_961 hi290 ?_
  replace h := gd_some h; obtain ⟨hk291, h⟩ := h
  replace h := bnd2 h; obtain ⟨r292, M293, h1, h⟩ := h
  refine g_callVi (pc := 962) (As := [.int (xs (Int32.toNatClampNeg (x3 + (1 : Int32))))]) (st := [.int (r288)]) C dL_law_962 wX12_lag hk291 rfl (by decide) q_1747 q_1748 q_1746 (by omega) rfl (Nat.le_of_ble_eq_true rfl) (kX12_lag (d := 6) (Nat.le_refl _) h1) ?_
  refine g_icmp_eq (pc := 965) (tgt := 1612) C dL_law_965 (by decide) (fun c294 => ?_) (fun c294 => ?_)
  · replace h := ifp c294 h
    obtain ⟨v295, ev295⟩ : ∃ y : Int32, y = x3 + (6 : Int32) := ⟨_, rfl⟩
    replace h := lt_at ev295 h
    refine g_iinc (pc := 1612) (v := v295) (k := 3) (lo2 := [(3, .int (v295)), (0, .ref (b)), (1, .ref (x1)), (2, .ref (x2))]) C dL_law_1612 rfl (by rw [ev295]; rfl) (by decide) rfl ?_
    refine g_goto (pc := 1615) (tgt := 18) C dL_law_1615 (by decide) ?_
    obtain rfl := Option.some.inj h
    exact g_sub [1, 2, 3, 0] rfl (show G X B 4 Z Q 18 [(0, .ref (b)), (1, .ref (x1)), (2, .ref (x2)), (3, .int (v295))] [] T M293 from hE)
  · replace h := ifn c294 h
    cases h
theorem mjL_law_970 {L : Nat} {xs : Nat → Int32} {T : Sh} {M : Me} {x1 : Nat} {x2 : Nat} {x3 : Int32} {o : (Int32 × Sh × Me) ⊕ ((Sh × Me))} (h : jL_law_970 L xs T M x1 x2 x3 = some o) : leT T ((Sum.elim (fun s : Int32 × Sh × Me => s.2.1) (fun r : Sh × Me => r.1)) o) := by
  unfold jL_law_970 at h
  replace h := gv_some h; obtain ⟨hi296, h⟩ := h
  replace h := gd_some h; obtain ⟨hk297, h⟩ := h
  replace h := bnd2 h; obtain ⟨r298, M299, h1, h⟩ := h
  replace h := gv_some h; obtain ⟨hi300, h⟩ := h
  replace h := gd_some h; obtain ⟨hk301, h⟩ := h
  replace h := bnd2 h; obtain ⟨r302, M303, h1, h⟩ := h
  by_cases c304 : r298 = r302
  · replace h := ifp c304 h
    obtain ⟨v305, ev305⟩ : ∃ y : Int32, y = x3 + (6 : Int32) := ⟨_, rfl⟩
    replace h := lt_at ev305 h
    obtain rfl := Option.some.inj h
    exact leT.rfl
  · replace h := ifn c304 h
    cases h
set_option maxHeartbeats 4000000 in
theorem tjL_law_970 {X : Fx} {B : Bx} {Z : Nat × Nat × Nat × Nat} {Q : State → Prop} {d : Nat} {T : Sh} {M : Me} {x1 : Nat} {x2 : Nat} {x3 : Int32} {o : (Int32 × Sh × Me) ⊕ ((Sh × Me))} (C : Cx X B cL_law 4 RL d Z) (hd : 405 ≤ d) {L : Nat} {xs : Nat → Int32} {b : Nat} (hX : va_X b L xs X.2.2.2.2.1 X.2.2.2.2.1.heap) (hbl : Lw X B b) (hZ : leZ ((Sum.elim (fun s : Int32 × Sh × Me => s.2.1) (fun r : Sh × Me => r.1)) o) Z) (h : jL_law_970 L xs T M x1 x2 x3 = some o) (hE : lpE (PL_law_18 X B Z Q b x1 x2) (EL_law_18 X B Z Q b x1 x2) o) : G X B 4 Z Q 970 [(0, .ref (b)), (1, .ref (x1)), (2, .ref (x2)), (3, .int (x3))] [] T M := by
  unfold jL_law_970 at h
  refine g_aload_n (pc := 970) C dL_law_970 rfl 1 rfl ?_
  refine g_aload_n (pc := 971) C dL_law_971 rfl 0 rfl ?_
  refine g_iload_n (pc := 972) C dL_law_972 rfl 3 rfl ?_
  refine g_iconst (pc := 973) (v := 1) C dL_law_973 (by decide) ?_
  refine g_iadd (pc := 974) C dL_law_974 ?_
  replace h := gv_some h; obtain ⟨hi296, h⟩ := h
  refine g_xld (pc := 975) C hX hbl dL_law_975 hi296 ?_
  replace h := gd_some h; obtain ⟨hk297, h⟩ := h
  replace h := bnd2 h; obtain ⟨r298, M299, h1, h⟩ := h
  refine g_callVi (pc := 976) (As := [.int (xs (Int32.toNatClampNeg (x3 + (1 : Int32))))]) (st := []) C dL_law_976 wX11_bus hk297 rfl (by decide) q_1057 q_1058 q_1056 (by omega) rfl (Nat.le_of_ble_eq_true rfl) (kX11_bus (d := 4) (Nat.le_refl _) h1) ?_
  refine g_aload_n (pc := 979) C dL_law_979 rfl 2 rfl ?_
  refine g_aload_n (pc := 980) C dL_law_980 rfl 0 rfl ?_
  refine g_iload_n (pc := 981) C dL_law_981 rfl 3 rfl ?_
  refine g_iconst (pc := 982) (v := 1) C dL_law_982 (by decide) ?_
  refine g_iadd (pc := 983) C dL_law_983 ?_
  replace h := gv_some h; obtain ⟨hi300, h⟩ := h
  refine g_xld (pc := 984) C hX hbl dL_law_984 hi300 ?_
  replace h := gd_some h; obtain ⟨hk301, h⟩ := h
  replace h := bnd2 h; obtain ⟨r302, M303, h1, h⟩ := h
  refine g_callVi (pc := 985) (As := [.int (xs (Int32.toNatClampNeg (x3 + (1 : Int32))))]) (st := [.int (r298)]) C dL_law_985 wX12_bus hk301 rfl (by decide) q_1751 q_1752 q_1750 (by omega) rfl (Nat.le_of_ble_eq_true rfl) (kX12_bus (d := 4) (Nat.le_refl _) h1) ?_
  refine g_icmp_eq (pc := 988) (tgt := 1612) C dL_law_988 (by decide) (fun c304 => ?_) (fun c304 => ?_)
  · replace h := ifp c304 h
    obtain ⟨v305, ev305⟩ : ∃ y : Int32, y = x3 + (6 : Int32) := ⟨_, rfl⟩
    replace h := lt_at ev305 h
    refine g_iinc (pc := 1612) (v := v305) (k := 3) (lo2 := [(3, .int (v305)), (0, .ref (b)), (1, .ref (x1)), (2, .ref (x2))]) C dL_law_1612 rfl (by rw [ev305]; rfl) (by decide) rfl ?_
    refine g_goto (pc := 1615) (tgt := 18) C dL_law_1615 (by decide) ?_
    obtain rfl := Option.some.inj h
    exact g_sub [1, 2, 3, 0] rfl (show G X B 4 Z Q 18 [(0, .ref (b)), (1, .ref (x1)), (2, .ref (x2)), (3, .int (v305))] [] T M303 from hE)
  · replace h := ifn c304 h
    cases h
theorem mjL_law_993 {L : Nat} {xs : Nat → Int32} {T : Sh} {M : Me} {x1 : Nat} {x2 : Nat} {x3 : Int32} {o : (Int32 × Sh × Me) ⊕ ((Sh × Me))} (h : jL_law_993 L xs T M x1 x2 x3 = some o) : leT T ((Sum.elim (fun s : Int32 × Sh × Me => s.2.1) (fun r : Sh × Me => r.1)) o) := by
  unfold jL_law_993 at h
  replace h := gv_some h; obtain ⟨hi306, h⟩ := h
  replace h := gd_some h; obtain ⟨hk307, h⟩ := h
  replace h := bnd2 h; obtain ⟨r308, M309, h1, h⟩ := h
  replace h := gv_some h; obtain ⟨hi310, h⟩ := h
  replace h := gd_some h; obtain ⟨hk311, h⟩ := h
  replace h := bnd2 h; obtain ⟨r312, M313, h1, h⟩ := h
  by_cases c314 : r308 = r312
  · replace h := ifp c314 h
    obtain ⟨v315, ev315⟩ : ∃ y : Int32, y = x3 + (6 : Int32) := ⟨_, rfl⟩
    replace h := lt_at ev315 h
    obtain rfl := Option.some.inj h
    exact leT.rfl
  · replace h := ifn c314 h
    cases h
set_option maxHeartbeats 4000000 in
theorem tjL_law_993 {X : Fx} {B : Bx} {Z : Nat × Nat × Nat × Nat} {Q : State → Prop} {d : Nat} {T : Sh} {M : Me} {x1 : Nat} {x2 : Nat} {x3 : Int32} {o : (Int32 × Sh × Me) ⊕ ((Sh × Me))} (C : Cx X B cL_law 4 RL d Z) (hd : 405 ≤ d) {L : Nat} {xs : Nat → Int32} {b : Nat} (hX : va_X b L xs X.2.2.2.2.1 X.2.2.2.2.1.heap) (hbl : Lw X B b) (hZ : leZ ((Sum.elim (fun s : Int32 × Sh × Me => s.2.1) (fun r : Sh × Me => r.1)) o) Z) (h : jL_law_993 L xs T M x1 x2 x3 = some o) (hE : lpE (PL_law_18 X B Z Q b x1 x2) (EL_law_18 X B Z Q b x1 x2) o) : G X B 4 Z Q 993 [(0, .ref (b)), (1, .ref (x1)), (2, .ref (x2)), (3, .int (x3))] [] T M := by
  unfold jL_law_993 at h
  refine g_aload_n (pc := 993) C dL_law_993 rfl 1 rfl ?_
  refine g_aload_n (pc := 994) C dL_law_994 rfl 0 rfl ?_
  refine g_iload_n (pc := 995) C dL_law_995 rfl 3 rfl ?_
  refine g_iconst (pc := 996) (v := 1) C dL_law_996 (by decide) ?_
  refine g_iadd (pc := 997) C dL_law_997 ?_
  replace h := gv_some h; obtain ⟨hi306, h⟩ := h
  refine g_xld (pc := 998) C hX hbl dL_law_998 hi306 ?_
  replace h := gd_some h; obtain ⟨hk307, h⟩ := h
  replace h := bnd2 h; obtain ⟨r308, M309, h1, h⟩ := h
  refine g_callVi (pc := 999) (As := [.int (xs (Int32.toNatClampNeg (x3 + (1 : Int32))))]) (st := []) C dL_law_999 wX11_harshest hk307 rfl (by decide) q_1064 q_1065 q_1063 (by omega) rfl (Nat.le_of_ble_eq_true rfl) (kX11_harshest (d := 3) (Nat.le_refl _) h1) ?_
  refine g_aload_n (pc := 1002) C dL_law_1002 rfl 2 rfl ?_
  refine g_aload_n (pc := 1003) C dL_law_1003 rfl 0 rfl ?_
  refine g_iload_n (pc := 1004) C dL_law_1004 rfl 3 rfl ?_
  refine g_iconst (pc := 1005) (v := 1) C dL_law_1005 (by decide) ?_
  refine g_iadd (pc := 1006) C dL_law_1006 ?_
  replace h := gv_some h; obtain ⟨hi310, h⟩ := h
  refine g_xld (pc := 1007) C hX hbl dL_law_1007 hi310 ?_
  replace h := gd_some h; obtain ⟨hk311, h⟩ := h
  replace h := bnd2 h; obtain ⟨r312, M313, h1, h⟩ := h
  refine g_callVi (pc := 1008) (As := [.int (xs (Int32.toNatClampNeg (x3 + (1 : Int32))))]) (st := [.int (r308)]) C dL_law_1008 wX12_harshest hk311 rfl (by decide) q_1755 q_1756 q_1754 (by omega) rfl (Nat.le_of_ble_eq_true rfl) (kX12_harshest (d := 5) (Nat.le_refl _) h1) ?_
  refine g_icmp_eq (pc := 1011) (tgt := 1612) C dL_law_1011 (by decide) (fun c314 => ?_) (fun c314 => ?_)
  · replace h := ifp c314 h
    obtain ⟨v315, ev315⟩ : ∃ y : Int32, y = x3 + (6 : Int32) := ⟨_, rfl⟩
    replace h := lt_at ev315 h
    refine g_iinc (pc := 1612) (v := v315) (k := 3) (lo2 := [(3, .int (v315)), (0, .ref (b)), (1, .ref (x1)), (2, .ref (x2))]) C dL_law_1612 rfl (by rw [ev315]; rfl) (by decide) rfl ?_
    refine g_goto (pc := 1615) (tgt := 18) C dL_law_1615 (by decide) ?_
    obtain rfl := Option.some.inj h
    exact g_sub [1, 2, 3, 0] rfl (show G X B 4 Z Q 18 [(0, .ref (b)), (1, .ref (x1)), (2, .ref (x2)), (3, .int (v315))] [] T M313 from hE)
  · replace h := ifn c314 h
    cases h
theorem mjL_law_1016 {L : Nat} {xs : Nat → Int32} {T : Sh} {M : Me} {x1 : Nat} {x2 : Nat} {x3 : Int32} {o : (Int32 × Sh × Me) ⊕ ((Sh × Me))} (h : jL_law_1016 L xs T M x1 x2 x3 = some o) : leT T ((Sum.elim (fun s : Int32 × Sh × Me => s.2.1) (fun r : Sh × Me => r.1)) o) := by
  unfold jL_law_1016 at h
  replace h := gv_some h; obtain ⟨hi316, h⟩ := h
  replace h := gv_some h; obtain ⟨hi317, h⟩ := h
  replace h := gd_some h; obtain ⟨hk318, h⟩ := h
  replace h := bnd2 h; obtain ⟨r319, M320, h1, h⟩ := h
  replace h := gv_some h; obtain ⟨hi321, h⟩ := h
  replace h := gv_some h; obtain ⟨hi322, h⟩ := h
  replace h := gd_some h; obtain ⟨hk323, h⟩ := h
  replace h := bnd2 h; obtain ⟨r324, M325, h1, h⟩ := h
  by_cases c326 : r319 = r324
  · replace h := ifp c326 h
    obtain ⟨v327, ev327⟩ : ∃ y : Int32, y = x3 + (6 : Int32) := ⟨_, rfl⟩
    replace h := lt_at ev327 h
    obtain rfl := Option.some.inj h
    exact leT.rfl
  · replace h := ifn c326 h
    cases h
set_option maxHeartbeats 4000000 in
theorem tjL_law_1016 {X : Fx} {B : Bx} {Z : Nat × Nat × Nat × Nat} {Q : State → Prop} {d : Nat} {T : Sh} {M : Me} {x1 : Nat} {x2 : Nat} {x3 : Int32} {o : (Int32 × Sh × Me) ⊕ ((Sh × Me))} (C : Cx X B cL_law 4 RL d Z) (hd : 405 ≤ d) {L : Nat} {xs : Nat → Int32} {b : Nat} (hX : va_X b L xs X.2.2.2.2.1 X.2.2.2.2.1.heap) (hbl : Lw X B b) (hZ : leZ ((Sum.elim (fun s : Int32 × Sh × Me => s.2.1) (fun r : Sh × Me => r.1)) o) Z) (h : jL_law_1016 L xs T M x1 x2 x3 = some o) (hE : lpE (PL_law_18 X B Z Q b x1 x2) (EL_law_18 X B Z Q b x1 x2) o) : G X B 4 Z Q 1016 [(0, .ref (b)), (1, .ref (x1)), (2, .ref (x2)), (3, .int (x3))] [] T M := by
  unfold jL_law_1016 at h
  refine g_aload_n (pc := 1016) C dL_law_1016 rfl 1 rfl ?_
  refine g_aload_n (pc := 1017) C dL_law_1017 rfl 0 rfl ?_
  refine g_iload_n (pc := 1018) C dL_law_1018 rfl 3 rfl ?_
  refine g_iconst (pc := 1019) (v := 1) C dL_law_1019 (by decide) ?_
  refine g_iadd (pc := 1020) C dL_law_1020 ?_
  replace h := gv_some h; obtain ⟨hi316, h⟩ := h
  refine g_xld (pc := 1021) C hX hbl dL_law_1021 hi316 ?_
  refine g_aload_n (pc := 1022) C dL_law_1022 rfl 0 rfl ?_
  refine g_iload_n (pc := 1023) C dL_law_1023 rfl 3 rfl ?_
  refine g_iconst (pc := 1024) (v := 2) C dL_law_1024 (by decide) ?_
  refine g_iadd (pc := 1025) C dL_law_1025 ?_
  replace h := gv_some h; obtain ⟨hi317, h⟩ := h
  refine g_xld (pc := 1026) C hX hbl dL_law_1026 hi317 ?_
  replace h := gd_some h; obtain ⟨hk318, h⟩ := h
  replace h := bnd2 h; obtain ⟨r319, M320, h1, h⟩ := h
  refine g_callVi (pc := 1027) (As := [.int (xs (Int32.toNatClampNeg (x3 + (1 : Int32)))), .int (xs (Int32.toNatClampNeg (x3 + (2 : Int32))))]) (st := []) C dL_law_1027 wX11_tell hk318 rfl (by decide) q_1068 q_1069 q_1067 (by omega) rfl (Nat.le_of_ble_eq_true rfl) (kX11_tell (d := 4) (Nat.le_refl _) h1) ?_
  refine g_aload_n (pc := 1030) C dL_law_1030 rfl 2 rfl ?_
  refine g_aload_n (pc := 1031) C dL_law_1031 rfl 0 rfl ?_
  refine g_iload_n (pc := 1032) C dL_law_1032 rfl 3 rfl ?_
  refine g_iconst (pc := 1033) (v := 1) C dL_law_1033 (by decide) ?_
  refine g_iadd (pc := 1034) C dL_law_1034 ?_
  replace h := gv_some h; obtain ⟨hi321, h⟩ := h
  refine g_xld (pc := 1035) C hX hbl dL_law_1035 hi321 ?_
  refine g_aload_n (pc := 1036) C dL_law_1036 rfl 0 rfl ?_
  refine g_iload_n (pc := 1037) C dL_law_1037 rfl 3 rfl ?_
  refine g_iconst (pc := 1038) (v := 2) C dL_law_1038 (by decide) ?_
  refine g_iadd (pc := 1039) C dL_law_1039 ?_
  replace h := gv_some h; obtain ⟨hi322, h⟩ := h
  refine g_xld (pc := 1040) C hX hbl dL_law_1040 hi322 ?_
  replace h := gd_some h; obtain ⟨hk323, h⟩ := h
  replace h := bnd2 h; obtain ⟨r324, M325, h1, h⟩ := h
  refine g_callVi (pc := 1041) (As := [.int (xs (Int32.toNatClampNeg (x3 + (1 : Int32)))), .int (xs (Int32.toNatClampNeg (x3 + (2 : Int32))))]) (st := [.int (r319)]) C dL_law_1041 wX12_tell hk323 rfl (by decide) q_1763 q_1764 q_1762 (by omega) rfl (Nat.le_of_ble_eq_true rfl) (kX12_tell (d := 5) (Nat.le_refl _) h1) ?_
  refine g_icmp_eq (pc := 1044) (tgt := 1612) C dL_law_1044 (by decide) (fun c326 => ?_) (fun c326 => ?_)
  · replace h := ifp c326 h
    obtain ⟨v327, ev327⟩ : ∃ y : Int32, y = x3 + (6 : Int32) := ⟨_, rfl⟩
    replace h := lt_at ev327 h
    refine g_iinc (pc := 1612) (v := v327) (k := 3) (lo2 := [(3, .int (v327)), (0, .ref (b)), (1, .ref (x1)), (2, .ref (x2))]) C dL_law_1612 rfl (by rw [ev327]; rfl) (by decide) rfl ?_
    refine g_goto (pc := 1615) (tgt := 18) C dL_law_1615 (by decide) ?_
    obtain rfl := Option.some.inj h
    exact g_sub [1, 2, 3, 0] rfl (show G X B 4 Z Q 18 [(0, .ref (b)), (1, .ref (x1)), (2, .ref (x2)), (3, .int (v327))] [] T M325 from hE)
  · replace h := ifn c326 h
    cases h
theorem mjL_law_1049 {L : Nat} {xs : Nat → Int32} {T : Sh} {M : Me} {x1 : Nat} {x2 : Nat} {x3 : Int32} {o : (Int32 × Sh × Me) ⊕ ((Sh × Me))} (h : jL_law_1049 L xs T M x1 x2 x3 = some o) : leT T ((Sum.elim (fun s : Int32 × Sh × Me => s.2.1) (fun r : Sh × Me => r.1)) o) := by
  unfold jL_law_1049 at h
  replace h := gv_some h; obtain ⟨hi328, h⟩ := h
  replace h := gv_some h; obtain ⟨hi329, h⟩ := h
  replace h := gd_some h; obtain ⟨hk330, h⟩ := h
  replace h := bnd2 h; obtain ⟨r331, M332, h1, h⟩ := h
  replace h := gv_some h; obtain ⟨hi333, h⟩ := h
  replace h := gv_some h; obtain ⟨hi334, h⟩ := h
  replace h := gd_some h; obtain ⟨hk335, h⟩ := h
  replace h := bnd2 h; obtain ⟨r336, M337, h1, h⟩ := h
  by_cases c338 : r331 = r336
  · replace h := ifp c338 h
    obtain ⟨v339, ev339⟩ : ∃ y : Int32, y = x3 + (6 : Int32) := ⟨_, rfl⟩
    replace h := lt_at ev339 h
    obtain rfl := Option.some.inj h
    exact leT.rfl
  · replace h := ifn c338 h
    cases h
set_option maxHeartbeats 4000000 in
theorem tjL_law_1049 {X : Fx} {B : Bx} {Z : Nat × Nat × Nat × Nat} {Q : State → Prop} {d : Nat} {T : Sh} {M : Me} {x1 : Nat} {x2 : Nat} {x3 : Int32} {o : (Int32 × Sh × Me) ⊕ ((Sh × Me))} (C : Cx X B cL_law 4 RL d Z) (hd : 405 ≤ d) {L : Nat} {xs : Nat → Int32} {b : Nat} (hX : va_X b L xs X.2.2.2.2.1 X.2.2.2.2.1.heap) (hbl : Lw X B b) (hZ : leZ ((Sum.elim (fun s : Int32 × Sh × Me => s.2.1) (fun r : Sh × Me => r.1)) o) Z) (h : jL_law_1049 L xs T M x1 x2 x3 = some o) (hE : lpE (PL_law_18 X B Z Q b x1 x2) (EL_law_18 X B Z Q b x1 x2) o) : G X B 4 Z Q 1049 [(0, .ref (b)), (1, .ref (x1)), (2, .ref (x2)), (3, .int (x3))] [] T M := by
  unfold jL_law_1049 at h
  refine g_aload_n (pc := 1049) C dL_law_1049 rfl 1 rfl ?_
  refine g_aload_n (pc := 1050) C dL_law_1050 rfl 0 rfl ?_
  refine g_iload_n (pc := 1051) C dL_law_1051 rfl 3 rfl ?_
  refine g_iconst (pc := 1052) (v := 1) C dL_law_1052 (by decide) ?_
  refine g_iadd (pc := 1053) C dL_law_1053 ?_
  replace h := gv_some h; obtain ⟨hi328, h⟩ := h
  refine g_xld (pc := 1054) C hX hbl dL_law_1054 hi328 ?_
  refine g_aload_n (pc := 1055) C dL_law_1055 rfl 0 rfl ?_
  refine g_iload_n (pc := 1056) C dL_law_1056 rfl 3 rfl ?_
  refine g_iconst (pc := 1057) (v := 2) C dL_law_1057 (by decide) ?_
  refine g_iadd (pc := 1058) C dL_law_1058 ?_
  replace h := gv_some h; obtain ⟨hi329, h⟩ := h
  refine g_xld (pc := 1059) C hX hbl dL_law_1059 hi329 ?_
  replace h := gd_some h; obtain ⟨hk330, h⟩ := h
  replace h := bnd2 h; obtain ⟨r331, M332, h1, h⟩ := h
  refine g_callVi (pc := 1060) (As := [.int (xs (Int32.toNatClampNeg (x3 + (1 : Int32)))), .int (xs (Int32.toNatClampNeg (x3 + (2 : Int32))))]) (st := []) C dL_law_1060 wX11_later hk330 rfl (by decide) q_1076 q_1077 q_1075 (by omega) rfl (Nat.le_of_ble_eq_true rfl) (kX11_later (d := 4) (Nat.le_refl _) h1) ?_
  refine g_aload_n (pc := 1063) C dL_law_1063 rfl 2 rfl ?_
  refine g_aload_n (pc := 1064) C dL_law_1064 rfl 0 rfl ?_
  refine g_iload_n (pc := 1065) C dL_law_1065 rfl 3 rfl ?_
  refine g_iconst (pc := 1066) (v := 1) C dL_law_1066 (by decide) ?_
  refine g_iadd (pc := 1067) C dL_law_1067 ?_
  replace h := gv_some h; obtain ⟨hi333, h⟩ := h
  refine g_xld (pc := 1068) C hX hbl dL_law_1068 hi333 ?_
  refine g_aload_n (pc := 1069) C dL_law_1069 rfl 0 rfl ?_
  refine g_iload_n (pc := 1070) C dL_law_1070 rfl 3 rfl ?_
  refine g_iconst (pc := 1071) (v := 2) C dL_law_1071 (by decide) ?_
  refine g_iadd (pc := 1072) C dL_law_1072 ?_
  replace h := gv_some h; obtain ⟨hi334, h⟩ := h
  refine g_xld (pc := 1073) C hX hbl dL_law_1073 hi334 ?_
  replace h := gd_some h; obtain ⟨hk335, h⟩ := h
  replace h := bnd2 h; obtain ⟨r336, M337, h1, h⟩ := h
  refine g_callVi (pc := 1074) (As := [.int (xs (Int32.toNatClampNeg (x3 + (1 : Int32)))), .int (xs (Int32.toNatClampNeg (x3 + (2 : Int32))))]) (st := [.int (r331)]) C dL_law_1074 wX12_later hk335 rfl (by decide) q_1775 q_1776 q_1774 (by omega) rfl (Nat.le_of_ble_eq_true rfl) (kX12_later (d := 5) (Nat.le_refl _) h1) ?_
  refine g_icmp_eq (pc := 1077) (tgt := 1612) C dL_law_1077 (by decide) (fun c338 => ?_) (fun c338 => ?_)
  · replace h := ifp c338 h
    obtain ⟨v339, ev339⟩ : ∃ y : Int32, y = x3 + (6 : Int32) := ⟨_, rfl⟩
    replace h := lt_at ev339 h
    refine g_iinc (pc := 1612) (v := v339) (k := 3) (lo2 := [(3, .int (v339)), (0, .ref (b)), (1, .ref (x1)), (2, .ref (x2))]) C dL_law_1612 rfl (by rw [ev339]; rfl) (by decide) rfl ?_
    refine g_goto (pc := 1615) (tgt := 18) C dL_law_1615 (by decide) ?_
    obtain rfl := Option.some.inj h
    exact g_sub [1, 2, 3, 0] rfl (show G X B 4 Z Q 18 [(0, .ref (b)), (1, .ref (x1)), (2, .ref (x2)), (3, .int (v339))] [] T M337 from hE)
  · replace h := ifn c338 h
    cases h
theorem mjL_law_1082 {L : Nat} {xs : Nat → Int32} {T : Sh} {M : Me} {x1 : Nat} {x2 : Nat} {x3 : Int32} {o : (Int32 × Sh × Me) ⊕ ((Sh × Me))} (h : jL_law_1082 L xs T M x1 x2 x3 = some o) : leT T ((Sum.elim (fun s : Int32 × Sh × Me => s.2.1) (fun r : Sh × Me => r.1)) o) := by
  unfold jL_law_1082 at h
  replace h := gv_some h; obtain ⟨hi340, h⟩ := h
  replace h := gd_some h; obtain ⟨hk341, h⟩ := h
  replace h := bnd2 h; obtain ⟨r342, M343, h1, h⟩ := h
  replace h := gv_some h; obtain ⟨hi344, h⟩ := h
  replace h := gd_some h; obtain ⟨hk345, h⟩ := h
  replace h := bnd2 h; obtain ⟨r346, M347, h1, h⟩ := h
  by_cases c348 : r342 = r346
  · replace h := ifp c348 h
    obtain ⟨v349, ev349⟩ : ∃ y : Int32, y = x3 + (6 : Int32) := ⟨_, rfl⟩
    replace h := lt_at ev349 h
    obtain rfl := Option.some.inj h
    exact leT.rfl
  · replace h := ifn c348 h
    cases h
set_option maxHeartbeats 4000000 in
theorem tjL_law_1082 {X : Fx} {B : Bx} {Z : Nat × Nat × Nat × Nat} {Q : State → Prop} {d : Nat} {T : Sh} {M : Me} {x1 : Nat} {x2 : Nat} {x3 : Int32} {o : (Int32 × Sh × Me) ⊕ ((Sh × Me))} (C : Cx X B cL_law 4 RL d Z) (hd : 405 ≤ d) {L : Nat} {xs : Nat → Int32} {b : Nat} (hX : va_X b L xs X.2.2.2.2.1 X.2.2.2.2.1.heap) (hbl : Lw X B b) (hZ : leZ ((Sum.elim (fun s : Int32 × Sh × Me => s.2.1) (fun r : Sh × Me => r.1)) o) Z) (h : jL_law_1082 L xs T M x1 x2 x3 = some o) (hE : lpE (PL_law_18 X B Z Q b x1 x2) (EL_law_18 X B Z Q b x1 x2) o) : G X B 4 Z Q 1082 [(0, .ref (b)), (1, .ref (x1)), (2, .ref (x2)), (3, .int (x3))] [] T M := by
  unfold jL_law_1082 at h
  refine g_aload_n (pc := 1082) C dL_law_1082 rfl 1 rfl ?_
  refine g_aload_n (pc := 1083) C dL_law_1083 rfl 0 rfl ?_
  refine g_iload_n (pc := 1084) C dL_law_1084 rfl 3 rfl ?_
  refine g_iconst (pc := 1085) (v := 1) C dL_law_1085 (by decide) ?_
  refine g_iadd (pc := 1086) C dL_law_1086 ?_
  replace h := gv_some h; obtain ⟨hi340, h⟩ := h
  refine g_xld (pc := 1087) C hX hbl dL_law_1087 hi340 ?_
  replace h := gd_some h; obtain ⟨hk341, h⟩ := h
  replace h := bnd2 h; obtain ⟨r342, M343, h1, h⟩ := h
  refine g_callVi (pc := 1088) (As := [.int (xs (Int32.toNatClampNeg (x3 + (1 : Int32))))]) (st := []) C dL_law_1088 wX11_holds hk341 rfl (by decide) q_1080 q_1081 q_1079 (by omega) rfl (Nat.le_of_ble_eq_true rfl) (kX11_holds (d := 4) (Nat.le_refl _) h1) ?_
  refine g_aload_n (pc := 1091) C dL_law_1091 rfl 2 rfl ?_
  refine g_aload_n (pc := 1092) C dL_law_1092 rfl 0 rfl ?_
  refine g_iload_n (pc := 1093) C dL_law_1093 rfl 3 rfl ?_
  refine g_iconst (pc := 1094) (v := 1) C dL_law_1094 (by decide) ?_
  refine g_iadd (pc := 1095) C dL_law_1095 ?_
  replace h := gv_some h; obtain ⟨hi344, h⟩ := h
  refine g_xld (pc := 1096) C hX hbl dL_law_1096 hi344 ?_
  replace h := gd_some h; obtain ⟨hk345, h⟩ := h
  replace h := bnd2 h; obtain ⟨r346, M347, h1, h⟩ := h
  refine g_callVi (pc := 1097) (As := [.int (xs (Int32.toNatClampNeg (x3 + (1 : Int32))))]) (st := [.int (r342)]) C dL_law_1097 wX12_holds hk345 rfl (by decide) q_1784 q_1785 q_1783 (by omega) rfl (Nat.le_of_ble_eq_true rfl) (kX12_holds (d := 5) (Nat.le_refl _) h1) ?_
  refine g_icmp_eq (pc := 1100) (tgt := 1612) C dL_law_1100 (by decide) (fun c348 => ?_) (fun c348 => ?_)
  · replace h := ifp c348 h
    obtain ⟨v349, ev349⟩ : ∃ y : Int32, y = x3 + (6 : Int32) := ⟨_, rfl⟩
    replace h := lt_at ev349 h
    refine g_iinc (pc := 1612) (v := v349) (k := 3) (lo2 := [(3, .int (v349)), (0, .ref (b)), (1, .ref (x1)), (2, .ref (x2))]) C dL_law_1612 rfl (by rw [ev349]; rfl) (by decide) rfl ?_
    refine g_goto (pc := 1615) (tgt := 18) C dL_law_1615 (by decide) ?_
    obtain rfl := Option.some.inj h
    exact g_sub [1, 2, 3, 0] rfl (show G X B 4 Z Q 18 [(0, .ref (b)), (1, .ref (x1)), (2, .ref (x2)), (3, .int (v349))] [] T M347 from hE)
  · replace h := ifn c348 h
    cases h
theorem mjL_law_1105 {L : Nat} {xs : Nat → Int32} {T : Sh} {M : Me} {x1 : Nat} {x2 : Nat} {x3 : Int32} {o : (Int32 × Sh × Me) ⊕ ((Sh × Me))} (h : jL_law_1105 L xs T M x1 x2 x3 = some o) : leT T ((Sum.elim (fun s : Int32 × Sh × Me => s.2.1) (fun r : Sh × Me => r.1)) o) := by
  unfold jL_law_1105 at h
  replace h := gv_some h; obtain ⟨hi350, h⟩ := h
  replace h := gd_some h; obtain ⟨hk351, h⟩ := h
  replace h := bnd2 h; obtain ⟨r352, M353, h1, h⟩ := h
  replace h := gv_some h; obtain ⟨hi354, h⟩ := h
  replace h := gd_some h; obtain ⟨hk355, h⟩ := h
  replace h := bnd2 h; obtain ⟨r356, M357, h1, h⟩ := h
  by_cases c358 : r352 = r356
  · replace h := ifp c358 h
    obtain ⟨v359, ev359⟩ : ∃ y : Int32, y = x3 + (6 : Int32) := ⟨_, rfl⟩
    replace h := lt_at ev359 h
    obtain rfl := Option.some.inj h
    exact leT.rfl
  · replace h := ifn c358 h
    cases h
set_option maxHeartbeats 4000000 in
theorem tjL_law_1105 {X : Fx} {B : Bx} {Z : Nat × Nat × Nat × Nat} {Q : State → Prop} {d : Nat} {T : Sh} {M : Me} {x1 : Nat} {x2 : Nat} {x3 : Int32} {o : (Int32 × Sh × Me) ⊕ ((Sh × Me))} (C : Cx X B cL_law 4 RL d Z) (hd : 405 ≤ d) {L : Nat} {xs : Nat → Int32} {b : Nat} (hX : va_X b L xs X.2.2.2.2.1 X.2.2.2.2.1.heap) (hbl : Lw X B b) (hZ : leZ ((Sum.elim (fun s : Int32 × Sh × Me => s.2.1) (fun r : Sh × Me => r.1)) o) Z) (h : jL_law_1105 L xs T M x1 x2 x3 = some o) (hE : lpE (PL_law_18 X B Z Q b x1 x2) (EL_law_18 X B Z Q b x1 x2) o) : G X B 4 Z Q 1105 [(0, .ref (b)), (1, .ref (x1)), (2, .ref (x2)), (3, .int (x3))] [] T M := by
  unfold jL_law_1105 at h
  refine g_aload_n (pc := 1105) C dL_law_1105 rfl 1 rfl ?_
  refine g_aload_n (pc := 1106) C dL_law_1106 rfl 0 rfl ?_
  refine g_iload_n (pc := 1107) C dL_law_1107 rfl 3 rfl ?_
  refine g_iconst (pc := 1108) (v := 1) C dL_law_1108 (by decide) ?_
  refine g_iadd (pc := 1109) C dL_law_1109 ?_
  replace h := gv_some h; obtain ⟨hi350, h⟩ := h
  refine g_xld (pc := 1110) C hX hbl dL_law_1110 hi350 ?_
  replace h := gd_some h; obtain ⟨hk351, h⟩ := h
  replace h := bnd2 h; obtain ⟨r352, M353, h1, h⟩ := h
  refine g_callVi (pc := 1111) (As := [.int (xs (Int32.toNatClampNeg (x3 + (1 : Int32))))]) (st := []) C dL_law_1111 wX11_follows hk351 rfl (by decide) q_1084 q_1085 q_1083 (by omega) rfl (Nat.le_of_ble_eq_true rfl) (kX11_follows (d := 5) (Nat.le_refl _) h1) ?_
  refine g_aload_n (pc := 1114) C dL_law_1114 rfl 2 rfl ?_
  refine g_aload_n (pc := 1115) C dL_law_1115 rfl 0 rfl ?_
  refine g_iload_n (pc := 1116) C dL_law_1116 rfl 3 rfl ?_
  refine g_iconst (pc := 1117) (v := 1) C dL_law_1117 (by decide) ?_
  refine g_iadd (pc := 1118) C dL_law_1118 ?_
  replace h := gv_some h; obtain ⟨hi354, h⟩ := h
  refine g_xld (pc := 1119) C hX hbl dL_law_1119 hi354 ?_
  replace h := gd_some h; obtain ⟨hk355, h⟩ := h
  replace h := bnd2 h; obtain ⟨r356, M357, h1, h⟩ := h
  refine g_callVi (pc := 1120) (As := [.int (xs (Int32.toNatClampNeg (x3 + (1 : Int32))))]) (st := [.int (r352)]) C dL_law_1120 wX12_follows hk355 rfl (by decide) q_1788 q_1789 q_1787 (by omega) rfl (Nat.le_of_ble_eq_true rfl) (kX12_follows (d := 5) (Nat.le_refl _) h1) ?_
  refine g_icmp_eq (pc := 1123) (tgt := 1612) C dL_law_1123 (by decide) (fun c358 => ?_) (fun c358 => ?_)
  · replace h := ifp c358 h
    obtain ⟨v359, ev359⟩ : ∃ y : Int32, y = x3 + (6 : Int32) := ⟨_, rfl⟩
    replace h := lt_at ev359 h
    refine g_iinc (pc := 1612) (v := v359) (k := 3) (lo2 := [(3, .int (v359)), (0, .ref (b)), (1, .ref (x1)), (2, .ref (x2))]) C dL_law_1612 rfl (by rw [ev359]; rfl) (by decide) rfl ?_
    refine g_goto (pc := 1615) (tgt := 18) C dL_law_1615 (by decide) ?_
    obtain rfl := Option.some.inj h
    exact g_sub [1, 2, 3, 0] rfl (show G X B 4 Z Q 18 [(0, .ref (b)), (1, .ref (x1)), (2, .ref (x2)), (3, .int (v359))] [] T M357 from hE)
  · replace h := ifn c358 h
    cases h
theorem mjL_law_1128 {L : Nat} {xs : Nat → Int32} {T : Sh} {M : Me} {x1 : Nat} {x2 : Nat} {x3 : Int32} {o : (Int32 × Sh × Me) ⊕ ((Sh × Me))} (h : jL_law_1128 L xs T M x1 x2 x3 = some o) : leT T ((Sum.elim (fun s : Int32 × Sh × Me => s.2.1) (fun r : Sh × Me => r.1)) o) := by
  unfold jL_law_1128 at h
  replace h := gv_some h; obtain ⟨hi360, h⟩ := h
  replace h := gv_some h; obtain ⟨hi361, h⟩ := h
  replace h := gd_some h; obtain ⟨hk362, h⟩ := h
  replace h := bnd2 h; obtain ⟨r363, M364, h1, h⟩ := h
  replace h := gv_some h; obtain ⟨hi365, h⟩ := h
  replace h := gv_some h; obtain ⟨hi366, h⟩ := h
  replace h := gd_some h; obtain ⟨hk367, h⟩ := h
  replace h := bnd2 h; obtain ⟨r368, M369, h1, h⟩ := h
  by_cases c370 : r363 = r368
  · replace h := ifp c370 h
    obtain ⟨v371, ev371⟩ : ∃ y : Int32, y = x3 + (6 : Int32) := ⟨_, rfl⟩
    replace h := lt_at ev371 h
    obtain rfl := Option.some.inj h
    exact leT.rfl
  · replace h := ifn c370 h
    cases h
set_option maxHeartbeats 4000000 in
theorem tjL_law_1128 {X : Fx} {B : Bx} {Z : Nat × Nat × Nat × Nat} {Q : State → Prop} {d : Nat} {T : Sh} {M : Me} {x1 : Nat} {x2 : Nat} {x3 : Int32} {o : (Int32 × Sh × Me) ⊕ ((Sh × Me))} (C : Cx X B cL_law 4 RL d Z) (hd : 405 ≤ d) {L : Nat} {xs : Nat → Int32} {b : Nat} (hX : va_X b L xs X.2.2.2.2.1 X.2.2.2.2.1.heap) (hbl : Lw X B b) (hZ : leZ ((Sum.elim (fun s : Int32 × Sh × Me => s.2.1) (fun r : Sh × Me => r.1)) o) Z) (h : jL_law_1128 L xs T M x1 x2 x3 = some o) (hE : lpE (PL_law_18 X B Z Q b x1 x2) (EL_law_18 X B Z Q b x1 x2) o) : G X B 4 Z Q 1128 [(0, .ref (b)), (1, .ref (x1)), (2, .ref (x2)), (3, .int (x3))] [] T M := by
  unfold jL_law_1128 at h
  refine g_aload_n (pc := 1128) C dL_law_1128 rfl 1 rfl ?_
  refine g_aload_n (pc := 1129) C dL_law_1129 rfl 0 rfl ?_
  refine g_iload_n (pc := 1130) C dL_law_1130 rfl 3 rfl ?_
  refine g_iconst (pc := 1131) (v := 1) C dL_law_1131 (by decide) ?_
  refine g_iadd (pc := 1132) C dL_law_1132 ?_
  replace h := gv_some h; obtain ⟨hi360, h⟩ := h
  refine g_xld (pc := 1133) C hX hbl dL_law_1133 hi360 ?_
  refine g_aload_n (pc := 1134) C dL_law_1134 rfl 0 rfl ?_
  refine g_iload_n (pc := 1135) C dL_law_1135 rfl 3 rfl ?_
  refine g_iconst (pc := 1136) (v := 2) C dL_law_1136 (by decide) ?_
  refine g_iadd (pc := 1137) C dL_law_1137 ?_
  replace h := gv_some h; obtain ⟨hi361, h⟩ := h
  refine g_xld (pc := 1138) C hX hbl dL_law_1138 hi361 ?_
  replace h := gd_some h; obtain ⟨hk362, h⟩ := h
  replace h := bnd2 h; obtain ⟨r363, M364, h1, h⟩ := h
  refine g_callVi (pc := 1139) (As := [.int (xs (Int32.toNatClampNeg (x3 + (1 : Int32)))), .int (xs (Int32.toNatClampNeg (x3 + (2 : Int32))))]) (st := []) C dL_law_1139 wX11_at hk362 rfl (by decide) q_1088 q_1089 q_1087 (by omega) rfl (Nat.le_of_ble_eq_true rfl) (kX11_at (d := 3) (Nat.le_refl _) h1) ?_
  refine g_aload_n (pc := 1142) C dL_law_1142 rfl 2 rfl ?_
  refine g_aload_n (pc := 1143) C dL_law_1143 rfl 0 rfl ?_
  refine g_iload_n (pc := 1144) C dL_law_1144 rfl 3 rfl ?_
  refine g_iconst (pc := 1145) (v := 1) C dL_law_1145 (by decide) ?_
  refine g_iadd (pc := 1146) C dL_law_1146 ?_
  replace h := gv_some h; obtain ⟨hi365, h⟩ := h
  refine g_xld (pc := 1147) C hX hbl dL_law_1147 hi365 ?_
  refine g_aload_n (pc := 1148) C dL_law_1148 rfl 0 rfl ?_
  refine g_iload_n (pc := 1149) C dL_law_1149 rfl 3 rfl ?_
  refine g_iconst (pc := 1150) (v := 2) C dL_law_1150 (by decide) ?_
  refine g_iadd (pc := 1151) C dL_law_1151 ?_
  replace h := gv_some h; obtain ⟨hi366, h⟩ := h
  refine g_xld (pc := 1152) C hX hbl dL_law_1152 hi366 ?_
  replace h := gd_some h; obtain ⟨hk367, h⟩ := h
  replace h := bnd2 h; obtain ⟨r368, M369, h1, h⟩ := h
  refine g_callVi (pc := 1153) (As := [.int (xs (Int32.toNatClampNeg (x3 + (1 : Int32)))), .int (xs (Int32.toNatClampNeg (x3 + (2 : Int32))))]) (st := [.int (r363)]) C dL_law_1153 wX12_at hk367 rfl (by decide) q_1792 q_1793 q_1791 (by omega) rfl (Nat.le_of_ble_eq_true rfl) (kX12_at (d := 5) (Nat.le_refl _) h1) ?_
  refine g_icmp_eq (pc := 1156) (tgt := 1612) C dL_law_1156 (by decide) (fun c370 => ?_) (fun c370 => ?_)
  · replace h := ifp c370 h
    obtain ⟨v371, ev371⟩ : ∃ y : Int32, y = x3 + (6 : Int32) := ⟨_, rfl⟩
    replace h := lt_at ev371 h
    refine g_iinc (pc := 1612) (v := v371) (k := 3) (lo2 := [(3, .int (v371)), (0, .ref (b)), (1, .ref (x1)), (2, .ref (x2))]) C dL_law_1612 rfl (by rw [ev371]; rfl) (by decide) rfl ?_
    refine g_goto (pc := 1615) (tgt := 18) C dL_law_1615 (by decide) ?_
    obtain rfl := Option.some.inj h
    exact g_sub [1, 2, 3, 0] rfl (show G X B 4 Z Q 18 [(0, .ref (b)), (1, .ref (x1)), (2, .ref (x2)), (3, .int (v371))] [] T M369 from hE)
  · replace h := ifn c370 h
    cases h
theorem mjL_law_1161 {L : Nat} {xs : Nat → Int32} {T : Sh} {M : Me} {x1 : Nat} {x2 : Nat} {x3 : Int32} {o : (Int32 × Sh × Me) ⊕ ((Sh × Me))} (h : jL_law_1161 L xs T M x1 x2 x3 = some o) : leT T ((Sum.elim (fun s : Int32 × Sh × Me => s.2.1) (fun r : Sh × Me => r.1)) o) := by
  unfold jL_law_1161 at h
  replace h := gv_some h; obtain ⟨hi372, h⟩ := h
  replace h := gd_some h; obtain ⟨hk373, h⟩ := h
  replace h := bnd2 h; obtain ⟨r374, M375, h1, h⟩ := h
  replace h := gv_some h; obtain ⟨hi376, h⟩ := h
  replace h := gd_some h; obtain ⟨hk377, h⟩ := h
  replace h := bnd2 h; obtain ⟨r378, M379, h1, h⟩ := h
  by_cases c380 : r374 = r378
  · replace h := ifp c380 h
    obtain ⟨v381, ev381⟩ : ∃ y : Int32, y = x3 + (6 : Int32) := ⟨_, rfl⟩
    replace h := lt_at ev381 h
    obtain rfl := Option.some.inj h
    exact leT.rfl
  · replace h := ifn c380 h
    cases h
set_option maxHeartbeats 4000000 in
theorem tjL_law_1161 {X : Fx} {B : Bx} {Z : Nat × Nat × Nat × Nat} {Q : State → Prop} {d : Nat} {T : Sh} {M : Me} {x1 : Nat} {x2 : Nat} {x3 : Int32} {o : (Int32 × Sh × Me) ⊕ ((Sh × Me))} (C : Cx X B cL_law 4 RL d Z) (hd : 405 ≤ d) {L : Nat} {xs : Nat → Int32} {b : Nat} (hX : va_X b L xs X.2.2.2.2.1 X.2.2.2.2.1.heap) (hbl : Lw X B b) (hZ : leZ ((Sum.elim (fun s : Int32 × Sh × Me => s.2.1) (fun r : Sh × Me => r.1)) o) Z) (h : jL_law_1161 L xs T M x1 x2 x3 = some o) (hE : lpE (PL_law_18 X B Z Q b x1 x2) (EL_law_18 X B Z Q b x1 x2) o) : G X B 4 Z Q 1161 [(0, .ref (b)), (1, .ref (x1)), (2, .ref (x2)), (3, .int (x3))] [] T M := by
  unfold jL_law_1161 at h
  refine g_aload_n (pc := 1161) C dL_law_1161 rfl 1 rfl ?_
  refine g_aload_n (pc := 1162) C dL_law_1162 rfl 0 rfl ?_
  refine g_iload_n (pc := 1163) C dL_law_1163 rfl 3 rfl ?_
  refine g_iconst (pc := 1164) (v := 1) C dL_law_1164 (by decide) ?_
  refine g_iadd (pc := 1165) C dL_law_1165 ?_
  replace h := gv_some h; obtain ⟨hi372, h⟩ := h
  refine g_xld (pc := 1166) C hX hbl dL_law_1166 hi372 ?_
  replace h := gd_some h; obtain ⟨hk373, h⟩ := h
  replace h := bnd2 h; obtain ⟨r374, M375, h1, h⟩ := h
  refine g_callVi (pc := 1167) (As := [.int (xs (Int32.toNatClampNeg (x3 + (1 : Int32))))]) (st := []) C dL_law_1167 wX11_steps hk373 rfl (by decide) q_1092 q_1093 q_1091 (by omega) rfl (Nat.le_of_ble_eq_true rfl) (kX11_steps (d := 4) (Nat.le_refl _) h1) ?_
  refine g_aload_n (pc := 1170) C dL_law_1170 rfl 2 rfl ?_
  refine g_aload_n (pc := 1171) C dL_law_1171 rfl 0 rfl ?_
  refine g_iload_n (pc := 1172) C dL_law_1172 rfl 3 rfl ?_
  refine g_iconst (pc := 1173) (v := 1) C dL_law_1173 (by decide) ?_
  refine g_iadd (pc := 1174) C dL_law_1174 ?_
  replace h := gv_some h; obtain ⟨hi376, h⟩ := h
  refine g_xld (pc := 1175) C hX hbl dL_law_1175 hi376 ?_
  replace h := gd_some h; obtain ⟨hk377, h⟩ := h
  replace h := bnd2 h; obtain ⟨r378, M379, h1, h⟩ := h
  refine g_callVi (pc := 1176) (As := [.int (xs (Int32.toNatClampNeg (x3 + (1 : Int32))))]) (st := [.int (r374)]) C dL_law_1176 wX12_steps hk377 rfl (by decide) q_1796 q_1797 q_1795 (by omega) rfl (Nat.le_of_ble_eq_true rfl) (kX12_steps (d := 7) (Nat.le_refl _) h1) ?_
  refine g_icmp_eq (pc := 1179) (tgt := 1612) C dL_law_1179 (by decide) (fun c380 => ?_) (fun c380 => ?_)
  · replace h := ifp c380 h
    obtain ⟨v381, ev381⟩ : ∃ y : Int32, y = x3 + (6 : Int32) := ⟨_, rfl⟩
    replace h := lt_at ev381 h
    refine g_iinc (pc := 1612) (v := v381) (k := 3) (lo2 := [(3, .int (v381)), (0, .ref (b)), (1, .ref (x1)), (2, .ref (x2))]) C dL_law_1612 rfl (by rw [ev381]; rfl) (by decide) rfl ?_
    refine g_goto (pc := 1615) (tgt := 18) C dL_law_1615 (by decide) ?_
    obtain rfl := Option.some.inj h
    exact g_sub [1, 2, 3, 0] rfl (show G X B 4 Z Q 18 [(0, .ref (b)), (1, .ref (x1)), (2, .ref (x2)), (3, .int (v381))] [] T M379 from hE)
  · replace h := ifn c380 h
    cases h
theorem mjL_law_1184 {L : Nat} {xs : Nat → Int32} {T : Sh} {M : Me} {x1 : Nat} {x2 : Nat} {x3 : Int32} {o : (Int32 × Sh × Me) ⊕ ((Sh × Me))} (h : jL_law_1184 L xs T M x1 x2 x3 = some o) : leT T ((Sum.elim (fun s : Int32 × Sh × Me => s.2.1) (fun r : Sh × Me => r.1)) o) := by
  unfold jL_law_1184 at h
  replace h := gv_some h; obtain ⟨hi382, h⟩ := h
  replace h := gv_some h; obtain ⟨hi383, h⟩ := h
  replace h := gd_some h; obtain ⟨hk384, h⟩ := h
  replace h := bnd2 h; obtain ⟨r385, M386, h1, h⟩ := h
  replace h := gv_some h; obtain ⟨hi387, h⟩ := h
  replace h := gv_some h; obtain ⟨hi388, h⟩ := h
  replace h := gd_some h; obtain ⟨hk389, h⟩ := h
  replace h := bnd2 h; obtain ⟨r390, M391, h1, h⟩ := h
  by_cases c392 : r385 = r390
  · replace h := ifp c392 h
    obtain ⟨v393, ev393⟩ : ∃ y : Int32, y = x3 + (6 : Int32) := ⟨_, rfl⟩
    replace h := lt_at ev393 h
    obtain rfl := Option.some.inj h
    exact leT.rfl
  · replace h := ifn c392 h
    cases h
set_option maxHeartbeats 4000000 in
theorem tjL_law_1184 {X : Fx} {B : Bx} {Z : Nat × Nat × Nat × Nat} {Q : State → Prop} {d : Nat} {T : Sh} {M : Me} {x1 : Nat} {x2 : Nat} {x3 : Int32} {o : (Int32 × Sh × Me) ⊕ ((Sh × Me))} (C : Cx X B cL_law 4 RL d Z) (hd : 405 ≤ d) {L : Nat} {xs : Nat → Int32} {b : Nat} (hX : va_X b L xs X.2.2.2.2.1 X.2.2.2.2.1.heap) (hbl : Lw X B b) (hZ : leZ ((Sum.elim (fun s : Int32 × Sh × Me => s.2.1) (fun r : Sh × Me => r.1)) o) Z) (h : jL_law_1184 L xs T M x1 x2 x3 = some o) (hE : lpE (PL_law_18 X B Z Q b x1 x2) (EL_law_18 X B Z Q b x1 x2) o) : G X B 4 Z Q 1184 [(0, .ref (b)), (1, .ref (x1)), (2, .ref (x2)), (3, .int (x3))] [] T M := by
  unfold jL_law_1184 at h
  refine g_aload_n (pc := 1184) C dL_law_1184 rfl 1 rfl ?_
  refine g_aload_n (pc := 1185) C dL_law_1185 rfl 0 rfl ?_
  refine g_iload_n (pc := 1186) C dL_law_1186 rfl 3 rfl ?_
  refine g_iconst (pc := 1187) (v := 1) C dL_law_1187 (by decide) ?_
  refine g_iadd (pc := 1188) C dL_law_1188 ?_
  replace h := gv_some h; obtain ⟨hi382, h⟩ := h
  refine g_xld (pc := 1189) C hX hbl dL_law_1189 hi382 ?_
  refine g_aload_n (pc := 1190) C dL_law_1190 rfl 0 rfl ?_
  refine g_iload_n (pc := 1191) C dL_law_1191 rfl 3 rfl ?_
  refine g_iconst (pc := 1192) (v := 2) C dL_law_1192 (by decide) ?_
  refine g_iadd (pc := 1193) C dL_law_1193 ?_
  replace h := gv_some h; obtain ⟨hi383, h⟩ := h
  refine g_xld (pc := 1194) C hX hbl dL_law_1194 hi383 ?_
  replace h := gd_some h; obtain ⟨hk384, h⟩ := h
  replace h := bnd2 h; obtain ⟨r385, M386, h1, h⟩ := h
  refine g_callVi (pc := 1195) (As := [.int (xs (Int32.toNatClampNeg (x3 + (1 : Int32)))), .int (xs (Int32.toNatClampNeg (x3 + (2 : Int32))))]) (st := []) C dL_law_1195 wX11_way hk384 rfl (by decide) q_1104 q_1105 q_1103 (by omega) rfl (Nat.le_of_ble_eq_true rfl) (kX11_way (d := 4) (Nat.le_refl _) h1) ?_
  refine g_aload_n (pc := 1198) C dL_law_1198 rfl 2 rfl ?_
  refine g_aload_n (pc := 1199) C dL_law_1199 rfl 0 rfl ?_
  refine g_iload_n (pc := 1200) C dL_law_1200 rfl 3 rfl ?_
  refine g_iconst (pc := 1201) (v := 1) C dL_law_1201 (by decide) ?_
  refine g_iadd (pc := 1202) C dL_law_1202 ?_
  replace h := gv_some h; obtain ⟨hi387, h⟩ := h
  refine g_xld (pc := 1203) C hX hbl dL_law_1203 hi387 ?_
  refine g_aload_n (pc := 1204) C dL_law_1204 rfl 0 rfl ?_
  refine g_iload_n (pc := 1205) C dL_law_1205 rfl 3 rfl ?_
  refine g_iconst (pc := 1206) (v := 2) C dL_law_1206 (by decide) ?_
  refine g_iadd (pc := 1207) C dL_law_1207 ?_
  replace h := gv_some h; obtain ⟨hi388, h⟩ := h
  refine g_xld (pc := 1208) C hX hbl dL_law_1208 hi388 ?_
  replace h := gd_some h; obtain ⟨hk389, h⟩ := h
  replace h := bnd2 h; obtain ⟨r390, M391, h1, h⟩ := h
  refine g_callVi (pc := 1209) (As := [.int (xs (Int32.toNatClampNeg (x3 + (1 : Int32)))), .int (xs (Int32.toNatClampNeg (x3 + (2 : Int32))))]) (st := [.int (r385)]) C dL_law_1209 wX12_way hk389 rfl (by decide) q_1807 q_1808 q_1806 (by omega) rfl (Nat.le_of_ble_eq_true rfl) (kX12_way (d := 7) (Nat.le_refl _) h1) ?_
  refine g_icmp_eq (pc := 1212) (tgt := 1612) C dL_law_1212 (by decide) (fun c392 => ?_) (fun c392 => ?_)
  · replace h := ifp c392 h
    obtain ⟨v393, ev393⟩ : ∃ y : Int32, y = x3 + (6 : Int32) := ⟨_, rfl⟩
    replace h := lt_at ev393 h
    refine g_iinc (pc := 1612) (v := v393) (k := 3) (lo2 := [(3, .int (v393)), (0, .ref (b)), (1, .ref (x1)), (2, .ref (x2))]) C dL_law_1612 rfl (by rw [ev393]; rfl) (by decide) rfl ?_
    refine g_goto (pc := 1615) (tgt := 18) C dL_law_1615 (by decide) ?_
    obtain rfl := Option.some.inj h
    exact g_sub [1, 2, 3, 0] rfl (show G X B 4 Z Q 18 [(0, .ref (b)), (1, .ref (x1)), (2, .ref (x2)), (3, .int (v393))] [] T M391 from hE)
  · replace h := ifn c392 h
    cases h
theorem mjL_law_1217 {L : Nat} {xs : Nat → Int32} {T : Sh} {M : Me} {x1 : Nat} {x2 : Nat} {x3 : Int32} {o : (Int32 × Sh × Me) ⊕ ((Sh × Me))} (h : jL_law_1217 L xs T M x1 x2 x3 = some o) : leT T ((Sum.elim (fun s : Int32 × Sh × Me => s.2.1) (fun r : Sh × Me => r.1)) o) := by
  unfold jL_law_1217 at h
  replace h := gv_some h; obtain ⟨hi394, h⟩ := h
  replace h := gv_some h; obtain ⟨hi395, h⟩ := h
  replace h := gd_some h; obtain ⟨hk396, h⟩ := h
  replace h := bnd2 h; obtain ⟨r397, M398, h1, h⟩ := h
  replace h := gv_some h; obtain ⟨hi399, h⟩ := h
  replace h := gv_some h; obtain ⟨hi400, h⟩ := h
  replace h := gd_some h; obtain ⟨hk401, h⟩ := h
  replace h := bnd2 h; obtain ⟨r402, M403, h1, h⟩ := h
  by_cases c404 : (lg_cmp r397 r402) = 0
  · replace h := ifp c404 h
    obtain ⟨v405, ev405⟩ : ∃ y : Int32, y = x3 + (6 : Int32) := ⟨_, rfl⟩
    replace h := lt_at ev405 h
    obtain rfl := Option.some.inj h
    exact leT.rfl
  · replace h := ifn c404 h
    cases h
set_option maxHeartbeats 4000000 in
theorem tjL_law_1217 {X : Fx} {B : Bx} {Z : Nat × Nat × Nat × Nat} {Q : State → Prop} {d : Nat} {T : Sh} {M : Me} {x1 : Nat} {x2 : Nat} {x3 : Int32} {o : (Int32 × Sh × Me) ⊕ ((Sh × Me))} (C : Cx X B cL_law 4 RL d Z) (hd : 405 ≤ d) {L : Nat} {xs : Nat → Int32} {b : Nat} (hX : va_X b L xs X.2.2.2.2.1 X.2.2.2.2.1.heap) (hbl : Lw X B b) (hZ : leZ ((Sum.elim (fun s : Int32 × Sh × Me => s.2.1) (fun r : Sh × Me => r.1)) o) Z) (h : jL_law_1217 L xs T M x1 x2 x3 = some o) (hE : lpE (PL_law_18 X B Z Q b x1 x2) (EL_law_18 X B Z Q b x1 x2) o) : G X B 4 Z Q 1217 [(0, .ref (b)), (1, .ref (x1)), (2, .ref (x2)), (3, .int (x3))] [] T M := by
  unfold jL_law_1217 at h
  refine g_aload_n (pc := 1217) C dL_law_1217 rfl 1 rfl ?_
  refine g_aload_n (pc := 1218) C dL_law_1218 rfl 0 rfl ?_
  refine g_iload_n (pc := 1219) C dL_law_1219 rfl 3 rfl ?_
  refine g_iconst (pc := 1220) (v := 1) C dL_law_1220 (by decide) ?_
  refine g_iadd (pc := 1221) C dL_law_1221 ?_
  replace h := gv_some h; obtain ⟨hi394, h⟩ := h
  refine g_xld (pc := 1222) C hX hbl dL_law_1222 hi394 ?_
  refine g_aload_n (pc := 1223) C dL_law_1223 rfl 0 rfl ?_
  refine g_iload_n (pc := 1224) C dL_law_1224 rfl 3 rfl ?_
  refine g_iconst (pc := 1225) (v := 2) C dL_law_1225 (by decide) ?_
  refine g_iadd (pc := 1226) C dL_law_1226 ?_
  replace h := gv_some h; obtain ⟨hi395, h⟩ := h
  refine g_xld (pc := 1227) C hX hbl dL_law_1227 hi395 ?_
  replace h := gd_some h; obtain ⟨hk396, h⟩ := h
  replace h := bnd2 h; obtain ⟨r397, M398, h1, h⟩ := h
  refine g_callVl (pc := 1228) (As := [.int (xs (Int32.toNatClampNeg (x3 + (1 : Int32)))), .int (xs (Int32.toNatClampNeg (x3 + (2 : Int32))))]) (st := []) C dL_law_1228 wX11_ways hk396 rfl (by decide) q_1116 q_1117 q_1115 (by omega) rfl (Nat.le_of_ble_eq_true rfl) (kX11_ways (d := 4) (Nat.le_refl _) h1) ?_
  refine g_aload_n (pc := 1231) C dL_law_1231 rfl 2 rfl ?_
  refine g_aload_n (pc := 1232) C dL_law_1232 rfl 0 rfl ?_
  refine g_iload_n (pc := 1233) C dL_law_1233 rfl 3 rfl ?_
  refine g_iconst (pc := 1234) (v := 1) C dL_law_1234 (by decide) ?_
  refine g_iadd (pc := 1235) C dL_law_1235 ?_
  replace h := gv_some h; obtain ⟨hi399, h⟩ := h
  refine g_xld (pc := 1236) C hX hbl dL_law_1236 hi399 ?_
  refine g_aload_n (pc := 1237) C dL_law_1237 rfl 0 rfl ?_
  refine g_iload_n (pc := 1238) C dL_law_1238 rfl 3 rfl ?_
  refine g_iconst (pc := 1239) (v := 2) C dL_law_1239 (by decide) ?_
  refine g_iadd (pc := 1240) C dL_law_1240 ?_
  replace h := gv_some h; obtain ⟨hi400, h⟩ := h
  refine g_xld (pc := 1241) C hX hbl dL_law_1241 hi400 ?_
  replace h := gd_some h; obtain ⟨hk401, h⟩ := h
  replace h := bnd2 h; obtain ⟨r402, M403, h1, h⟩ := h
  refine g_callVl (pc := 1242) (As := [.int (xs (Int32.toNatClampNeg (x3 + (1 : Int32)))), .int (xs (Int32.toNatClampNeg (x3 + (2 : Int32))))]) (st := [.long (r397)]) C dL_law_1242 wX12_ways hk401 rfl (by decide) q_1811 q_1812 q_1810 (by omega) rfl (Nat.le_of_ble_eq_true rfl) (kX12_ways (d := 6) (Nat.le_refl _) h1) ?_
  refine g_lcmp (pc := 1245) C dL_law_1245 ?_
  refine g_if_eq (pc := 1246) (tgt := 1612) C dL_law_1246 (by decide) (fun c404 => ?_) (fun c404 => ?_)
  · replace h := ifp c404 h
    obtain ⟨v405, ev405⟩ : ∃ y : Int32, y = x3 + (6 : Int32) := ⟨_, rfl⟩
    replace h := lt_at ev405 h
    refine g_iinc (pc := 1612) (v := v405) (k := 3) (lo2 := [(3, .int (v405)), (0, .ref (b)), (1, .ref (x1)), (2, .ref (x2))]) C dL_law_1612 rfl (by rw [ev405]; rfl) (by decide) rfl ?_
    refine g_goto (pc := 1615) (tgt := 18) C dL_law_1615 (by decide) ?_
    obtain rfl := Option.some.inj h
    exact g_sub [1, 2, 3, 0] rfl (show G X B 4 Z Q 18 [(0, .ref (b)), (1, .ref (x1)), (2, .ref (x2)), (3, .int (v405))] [] T M403 from hE)
  · replace h := ifn c404 h
    cases h
theorem mjL_law_1251 {L : Nat} {xs : Nat → Int32} {T : Sh} {M : Me} {x1 : Nat} {x2 : Nat} {x3 : Int32} {o : (Int32 × Sh × Me) ⊕ ((Sh × Me))} (h : jL_law_1251 L xs T M x1 x2 x3 = some o) : leT T ((Sum.elim (fun s : Int32 × Sh × Me => s.2.1) (fun r : Sh × Me => r.1)) o) := by
  unfold jL_law_1251 at h
  replace h := gv_some h; obtain ⟨hi406, h⟩ := h
  replace h := gv_some h; obtain ⟨hi407, h⟩ := h
  replace h := gd_some h; obtain ⟨hk408, h⟩ := h
  replace h := bnd2 h; obtain ⟨r409, M410, h1, h⟩ := h
  replace h := gv_some h; obtain ⟨hi411, h⟩ := h
  replace h := gv_some h; obtain ⟨hi412, h⟩ := h
  replace h := gd_some h; obtain ⟨hk413, h⟩ := h
  replace h := bnd2 h; obtain ⟨r414, M415, h1, h⟩ := h
  by_cases c416 : r409 = r414
  · replace h := ifp c416 h
    obtain ⟨v417, ev417⟩ : ∃ y : Int32, y = x3 + (6 : Int32) := ⟨_, rfl⟩
    replace h := lt_at ev417 h
    obtain rfl := Option.some.inj h
    exact leT.rfl
  · replace h := ifn c416 h
    cases h
set_option maxHeartbeats 4000000 in
theorem tjL_law_1251 {X : Fx} {B : Bx} {Z : Nat × Nat × Nat × Nat} {Q : State → Prop} {d : Nat} {T : Sh} {M : Me} {x1 : Nat} {x2 : Nat} {x3 : Int32} {o : (Int32 × Sh × Me) ⊕ ((Sh × Me))} (C : Cx X B cL_law 4 RL d Z) (hd : 405 ≤ d) {L : Nat} {xs : Nat → Int32} {b : Nat} (hX : va_X b L xs X.2.2.2.2.1 X.2.2.2.2.1.heap) (hbl : Lw X B b) (hZ : leZ ((Sum.elim (fun s : Int32 × Sh × Me => s.2.1) (fun r : Sh × Me => r.1)) o) Z) (h : jL_law_1251 L xs T M x1 x2 x3 = some o) (hE : lpE (PL_law_18 X B Z Q b x1 x2) (EL_law_18 X B Z Q b x1 x2) o) : G X B 4 Z Q 1251 [(0, .ref (b)), (1, .ref (x1)), (2, .ref (x2)), (3, .int (x3))] [] T M := by
  unfold jL_law_1251 at h
  refine g_aload_n (pc := 1251) C dL_law_1251 rfl 1 rfl ?_
  refine g_aload_n (pc := 1252) C dL_law_1252 rfl 0 rfl ?_
  refine g_iload_n (pc := 1253) C dL_law_1253 rfl 3 rfl ?_
  refine g_iconst (pc := 1254) (v := 1) C dL_law_1254 (by decide) ?_
  refine g_iadd (pc := 1255) C dL_law_1255 ?_
  replace h := gv_some h; obtain ⟨hi406, h⟩ := h
  refine g_xld (pc := 1256) C hX hbl dL_law_1256 hi406 ?_
  refine g_aload_n (pc := 1257) C dL_law_1257 rfl 0 rfl ?_
  refine g_iload_n (pc := 1258) C dL_law_1258 rfl 3 rfl ?_
  refine g_iconst (pc := 1259) (v := 2) C dL_law_1259 (by decide) ?_
  refine g_iadd (pc := 1260) C dL_law_1260 ?_
  replace h := gv_some h; obtain ⟨hi407, h⟩ := h
  refine g_xld (pc := 1261) C hX hbl dL_law_1261 hi407 ?_
  replace h := gd_some h; obtain ⟨hk408, h⟩ := h
  replace h := bnd2 h; obtain ⟨r409, M410, h1, h⟩ := h
  refine g_callVi (pc := 1262) (As := [.int (xs (Int32.toNatClampNeg (x3 + (1 : Int32)))), .int (xs (Int32.toNatClampNeg (x3 + (2 : Int32))))]) (st := []) C dL_law_1262 wX11_drifts hk408 rfl (by decide) q_1136 q_1137 q_1135 (by omega) rfl (Nat.le_of_ble_eq_true rfl) (kX11_drifts (d := 5) (Nat.le_refl _) h1) ?_
  refine g_aload_n (pc := 1265) C dL_law_1265 rfl 2 rfl ?_
  refine g_aload_n (pc := 1266) C dL_law_1266 rfl 0 rfl ?_
  refine g_iload_n (pc := 1267) C dL_law_1267 rfl 3 rfl ?_
  refine g_iconst (pc := 1268) (v := 1) C dL_law_1268 (by decide) ?_
  refine g_iadd (pc := 1269) C dL_law_1269 ?_
  replace h := gv_some h; obtain ⟨hi411, h⟩ := h
  refine g_xld (pc := 1270) C hX hbl dL_law_1270 hi411 ?_
  refine g_aload_n (pc := 1271) C dL_law_1271 rfl 0 rfl ?_
  refine g_iload_n (pc := 1272) C dL_law_1272 rfl 3 rfl ?_
  refine g_iconst (pc := 1273) (v := 2) C dL_law_1273 (by decide) ?_
  refine g_iadd (pc := 1274) C dL_law_1274 ?_
  replace h := gv_some h; obtain ⟨hi412, h⟩ := h
  refine g_xld (pc := 1275) C hX hbl dL_law_1275 hi412 ?_
  replace h := gd_some h; obtain ⟨hk413, h⟩ := h
  replace h := bnd2 h; obtain ⟨r414, M415, h1, h⟩ := h
  refine g_callVi (pc := 1276) (As := [.int (xs (Int32.toNatClampNeg (x3 + (1 : Int32)))), .int (xs (Int32.toNatClampNeg (x3 + (2 : Int32))))]) (st := [.int (r409)]) C dL_law_1276 wX12_drifts hk413 rfl (by decide) q_1818 q_1819 q_1817 (by omega) rfl (Nat.le_of_ble_eq_true rfl) (kX12_drifts (d := 5) (Nat.le_refl _) h1) ?_
  refine g_icmp_eq (pc := 1279) (tgt := 1612) C dL_law_1279 (by decide) (fun c416 => ?_) (fun c416 => ?_)
  · replace h := ifp c416 h
    obtain ⟨v417, ev417⟩ : ∃ y : Int32, y = x3 + (6 : Int32) := ⟨_, rfl⟩
    replace h := lt_at ev417 h
    refine g_iinc (pc := 1612) (v := v417) (k := 3) (lo2 := [(3, .int (v417)), (0, .ref (b)), (1, .ref (x1)), (2, .ref (x2))]) C dL_law_1612 rfl (by rw [ev417]; rfl) (by decide) rfl ?_
    refine g_goto (pc := 1615) (tgt := 18) C dL_law_1615 (by decide) ?_
    obtain rfl := Option.some.inj h
    exact g_sub [1, 2, 3, 0] rfl (show G X B 4 Z Q 18 [(0, .ref (b)), (1, .ref (x1)), (2, .ref (x2)), (3, .int (v417))] [] T M415 from hE)
  · replace h := ifn c416 h
    cases h
theorem mjL_law_1284 {L : Nat} {xs : Nat → Int32} {T : Sh} {M : Me} {x1 : Nat} {x2 : Nat} {x3 : Int32} {o : (Int32 × Sh × Me) ⊕ ((Sh × Me))} (h : jL_law_1284 L xs T M x1 x2 x3 = some o) : leT T ((Sum.elim (fun s : Int32 × Sh × Me => s.2.1) (fun r : Sh × Me => r.1)) o) := by
  unfold jL_law_1284 at h
  replace h := gv_some h; obtain ⟨hi418, h⟩ := h
  replace h := gv_some h; obtain ⟨hi419, h⟩ := h
  replace h := gd_some h; obtain ⟨hk420, h⟩ := h
  replace h := bnd2 h; obtain ⟨r421, M422, h1, h⟩ := h
  replace h := gv_some h; obtain ⟨hi423, h⟩ := h
  replace h := gv_some h; obtain ⟨hi424, h⟩ := h
  replace h := gd_some h; obtain ⟨hk425, h⟩ := h
  replace h := bnd2 h; obtain ⟨r426, M427, h1, h⟩ := h
  by_cases c428 : r421 = r426
  · replace h := ifp c428 h
    obtain ⟨v429, ev429⟩ : ∃ y : Int32, y = x3 + (6 : Int32) := ⟨_, rfl⟩
    replace h := lt_at ev429 h
    obtain rfl := Option.some.inj h
    exact leT.rfl
  · replace h := ifn c428 h
    cases h
set_option maxHeartbeats 4000000 in
theorem tjL_law_1284 {X : Fx} {B : Bx} {Z : Nat × Nat × Nat × Nat} {Q : State → Prop} {d : Nat} {T : Sh} {M : Me} {x1 : Nat} {x2 : Nat} {x3 : Int32} {o : (Int32 × Sh × Me) ⊕ ((Sh × Me))} (C : Cx X B cL_law 4 RL d Z) (hd : 405 ≤ d) {L : Nat} {xs : Nat → Int32} {b : Nat} (hX : va_X b L xs X.2.2.2.2.1 X.2.2.2.2.1.heap) (hbl : Lw X B b) (hZ : leZ ((Sum.elim (fun s : Int32 × Sh × Me => s.2.1) (fun r : Sh × Me => r.1)) o) Z) (h : jL_law_1284 L xs T M x1 x2 x3 = some o) (hE : lpE (PL_law_18 X B Z Q b x1 x2) (EL_law_18 X B Z Q b x1 x2) o) : G X B 4 Z Q 1284 [(0, .ref (b)), (1, .ref (x1)), (2, .ref (x2)), (3, .int (x3))] [] T M := by
  unfold jL_law_1284 at h
  refine g_aload_n (pc := 1284) C dL_law_1284 rfl 1 rfl ?_
  refine g_aload_n (pc := 1285) C dL_law_1285 rfl 0 rfl ?_
  refine g_iload_n (pc := 1286) C dL_law_1286 rfl 3 rfl ?_
  refine g_iconst (pc := 1287) (v := 1) C dL_law_1287 (by decide) ?_
  refine g_iadd (pc := 1288) C dL_law_1288 ?_
  replace h := gv_some h; obtain ⟨hi418, h⟩ := h
  refine g_xld (pc := 1289) C hX hbl dL_law_1289 hi418 ?_
  refine g_aload_n (pc := 1290) C dL_law_1290 rfl 0 rfl ?_
  refine g_iload_n (pc := 1291) C dL_law_1291 rfl 3 rfl ?_
  refine g_iconst (pc := 1292) (v := 2) C dL_law_1292 (by decide) ?_
  refine g_iadd (pc := 1293) C dL_law_1293 ?_
  replace h := gv_some h; obtain ⟨hi419, h⟩ := h
  refine g_xld (pc := 1294) C hX hbl dL_law_1294 hi419 ?_
  replace h := gd_some h; obtain ⟨hk420, h⟩ := h
  replace h := bnd2 h; obtain ⟨r421, M422, h1, h⟩ := h
  refine g_callVi (pc := 1295) (As := [.int (xs (Int32.toNatClampNeg (x3 + (1 : Int32)))), .int (xs (Int32.toNatClampNeg (x3 + (2 : Int32))))]) (st := []) C dL_law_1295 wX11_attempt hk420 rfl (by decide) q_1153 q_1154 q_1152 (by omega) rfl (Nat.le_of_ble_eq_true rfl) (kX11_attempt (d := 5) (Nat.le_refl _) h1) ?_
  refine g_aload_n (pc := 1298) C dL_law_1298 rfl 2 rfl ?_
  refine g_aload_n (pc := 1299) C dL_law_1299 rfl 0 rfl ?_
  refine g_iload_n (pc := 1300) C dL_law_1300 rfl 3 rfl ?_
  refine g_iconst (pc := 1301) (v := 1) C dL_law_1301 (by decide) ?_
  refine g_iadd (pc := 1302) C dL_law_1302 ?_
  replace h := gv_some h; obtain ⟨hi423, h⟩ := h
  refine g_xld (pc := 1303) C hX hbl dL_law_1303 hi423 ?_
  refine g_aload_n (pc := 1304) C dL_law_1304 rfl 0 rfl ?_
  refine g_iload_n (pc := 1305) C dL_law_1305 rfl 3 rfl ?_
  refine g_iconst (pc := 1306) (v := 2) C dL_law_1306 (by decide) ?_
  refine g_iadd (pc := 1307) C dL_law_1307 ?_
  replace h := gv_some h; obtain ⟨hi424, h⟩ := h
  refine g_xld (pc := 1308) C hX hbl dL_law_1308 hi424 ?_
  replace h := gd_some h; obtain ⟨hk425, h⟩ := h
  replace h := bnd2 h; obtain ⟨r426, M427, h1, h⟩ := h
  refine g_callVi (pc := 1309) (As := [.int (xs (Int32.toNatClampNeg (x3 + (1 : Int32)))), .int (xs (Int32.toNatClampNeg (x3 + (2 : Int32))))]) (st := [.int (r421)]) C dL_law_1309 wX12_attempt hk425 rfl (by decide) q_1832 q_1833 q_1831 (by omega) rfl (Nat.le_of_ble_eq_true rfl) (kX12_attempt (d := 5) (Nat.le_refl _) h1) ?_
  refine g_icmp_eq (pc := 1312) (tgt := 1612) C dL_law_1312 (by decide) (fun c428 => ?_) (fun c428 => ?_)
  · replace h := ifp c428 h
    obtain ⟨v429, ev429⟩ : ∃ y : Int32, y = x3 + (6 : Int32) := ⟨_, rfl⟩
    replace h := lt_at ev429 h
    refine g_iinc (pc := 1612) (v := v429) (k := 3) (lo2 := [(3, .int (v429)), (0, .ref (b)), (1, .ref (x1)), (2, .ref (x2))]) C dL_law_1612 rfl (by rw [ev429]; rfl) (by decide) rfl ?_
    refine g_goto (pc := 1615) (tgt := 18) C dL_law_1615 (by decide) ?_
    obtain rfl := Option.some.inj h
    exact g_sub [1, 2, 3, 0] rfl (show G X B 4 Z Q 18 [(0, .ref (b)), (1, .ref (x1)), (2, .ref (x2)), (3, .int (v429))] [] T M427 from hE)
  · replace h := ifn c428 h
    cases h
theorem mjL_law_1317 {L : Nat} {xs : Nat → Int32} {T : Sh} {M : Me} {x1 : Nat} {x2 : Nat} {x3 : Int32} {o : (Int32 × Sh × Me) ⊕ ((Sh × Me))} (h : jL_law_1317 L xs T M x1 x2 x3 = some o) : leT T ((Sum.elim (fun s : Int32 × Sh × Me => s.2.1) (fun r : Sh × Me => r.1)) o) := by
  unfold jL_law_1317 at h
  replace h := gv_some h; obtain ⟨hi430, h⟩ := h
  replace h := gv_some h; obtain ⟨hi431, h⟩ := h
  replace h := gv_some h; obtain ⟨hi432, h⟩ := h
  replace h := gd_some h; obtain ⟨hk433, h⟩ := h
  replace h := bnd2 h; obtain ⟨r434, M435, h1, h⟩ := h
  replace h := gv_some h; obtain ⟨hi436, h⟩ := h
  replace h := gv_some h; obtain ⟨hi437, h⟩ := h
  replace h := gv_some h; obtain ⟨hi438, h⟩ := h
  replace h := gd_some h; obtain ⟨hk439, h⟩ := h
  replace h := bnd2 h; obtain ⟨r440, M441, h1, h⟩ := h
  by_cases c442 : r434 = r440
  · replace h := ifp c442 h
    obtain ⟨v443, ev443⟩ : ∃ y : Int32, y = x3 + (6 : Int32) := ⟨_, rfl⟩
    replace h := lt_at ev443 h
    obtain rfl := Option.some.inj h
    exact leT.rfl
  · replace h := ifn c442 h
    cases h
set_option maxHeartbeats 4000000 in
theorem tjL_law_1317 {X : Fx} {B : Bx} {Z : Nat × Nat × Nat × Nat} {Q : State → Prop} {d : Nat} {T : Sh} {M : Me} {x1 : Nat} {x2 : Nat} {x3 : Int32} {o : (Int32 × Sh × Me) ⊕ ((Sh × Me))} (C : Cx X B cL_law 4 RL d Z) (hd : 405 ≤ d) {L : Nat} {xs : Nat → Int32} {b : Nat} (hX : va_X b L xs X.2.2.2.2.1 X.2.2.2.2.1.heap) (hbl : Lw X B b) (hZ : leZ ((Sum.elim (fun s : Int32 × Sh × Me => s.2.1) (fun r : Sh × Me => r.1)) o) Z) (h : jL_law_1317 L xs T M x1 x2 x3 = some o) (hE : lpE (PL_law_18 X B Z Q b x1 x2) (EL_law_18 X B Z Q b x1 x2) o) : G X B 4 Z Q 1317 [(0, .ref (b)), (1, .ref (x1)), (2, .ref (x2)), (3, .int (x3))] [] T M := by
  unfold jL_law_1317 at h
  refine g_aload_n (pc := 1317) C dL_law_1317 rfl 1 rfl ?_
  refine g_aload_n (pc := 1318) C dL_law_1318 rfl 0 rfl ?_
  refine g_iload_n (pc := 1319) C dL_law_1319 rfl 3 rfl ?_
  refine g_iconst (pc := 1320) (v := 1) C dL_law_1320 (by decide) ?_
  refine g_iadd (pc := 1321) C dL_law_1321 ?_
  replace h := gv_some h; obtain ⟨hi430, h⟩ := h
  refine g_xld (pc := 1322) C hX hbl dL_law_1322 hi430 ?_
  refine g_aload_n (pc := 1323) C dL_law_1323 rfl 0 rfl ?_
  refine g_iload_n (pc := 1324) C dL_law_1324 rfl 3 rfl ?_
  refine g_iconst (pc := 1325) (v := 2) C dL_law_1325 (by decide) ?_
  refine g_iadd (pc := 1326) C dL_law_1326 ?_
  replace h := gv_some h; obtain ⟨hi431, h⟩ := h
  refine g_xld (pc := 1327) C hX hbl dL_law_1327 hi431 ?_
  refine g_aload_n (pc := 1328) C dL_law_1328 rfl 0 rfl ?_
  refine g_iload_n (pc := 1329) C dL_law_1329 rfl 3 rfl ?_
  refine g_iconst (pc := 1330) (v := 3) C dL_law_1330 (by decide) ?_
  refine g_iadd (pc := 1331) C dL_law_1331 ?_
  replace h := gv_some h; obtain ⟨hi432, h⟩ := h
  refine g_xld (pc := 1332) C hX hbl dL_law_1332 hi432 ?_
  replace h := gd_some h; obtain ⟨hk433, h⟩ := h
  replace h := bnd2 h; obtain ⟨r434, M435, h1, h⟩ := h
  refine g_callVi (pc := 1333) (As := [.int (xs (Int32.toNatClampNeg (x3 + (1 : Int32)))), .int (xs (Int32.toNatClampNeg (x3 + (2 : Int32)))), .int (xs (Int32.toNatClampNeg (x3 + (3 : Int32))))]) (st := []) C dL_law_1333 wX11_chance hk433 rfl (by decide) q_1162 q_1163 q_1161 (by omega) rfl (Nat.le_of_ble_eq_true rfl) (kX11_chance (d := 5) (Nat.le_refl _) h1) ?_
  refine g_aload_n (pc := 1336) C dL_law_1336 rfl 2 rfl ?_
  refine g_aload_n (pc := 1337) C dL_law_1337 rfl 0 rfl ?_
  refine g_iload_n (pc := 1338) C dL_law_1338 rfl 3 rfl ?_
  refine g_iconst (pc := 1339) (v := 1) C dL_law_1339 (by decide) ?_
  refine g_iadd (pc := 1340) C dL_law_1340 ?_
  replace h := gv_some h; obtain ⟨hi436, h⟩ := h
  refine g_xld (pc := 1341) C hX hbl dL_law_1341 hi436 ?_
  refine g_aload_n (pc := 1342) C dL_law_1342 rfl 0 rfl ?_
  refine g_iload_n (pc := 1343) C dL_law_1343 rfl 3 rfl ?_
  refine g_iconst (pc := 1344) (v := 2) C dL_law_1344 (by decide) ?_
  refine g_iadd (pc := 1345) C dL_law_1345 ?_
  replace h := gv_some h; obtain ⟨hi437, h⟩ := h
  refine g_xld (pc := 1346) C hX hbl dL_law_1346 hi437 ?_
  refine g_aload_n (pc := 1347) C dL_law_1347 rfl 0 rfl ?_
  refine g_iload_n (pc := 1348) C dL_law_1348 rfl 3 rfl ?_
  refine g_iconst (pc := 1349) (v := 3) C dL_law_1349 (by decide) ?_
  refine g_iadd (pc := 1350) C dL_law_1350 ?_
  replace h := gv_some h; obtain ⟨hi438, h⟩ := h
  refine g_xld (pc := 1351) C hX hbl dL_law_1351 hi438 ?_
  replace h := gd_some h; obtain ⟨hk439, h⟩ := h
  replace h := bnd2 h; obtain ⟨r440, M441, h1, h⟩ := h
  refine g_callVi (pc := 1352) (As := [.int (xs (Int32.toNatClampNeg (x3 + (1 : Int32)))), .int (xs (Int32.toNatClampNeg (x3 + (2 : Int32)))), .int (xs (Int32.toNatClampNeg (x3 + (3 : Int32))))]) (st := [.int (r434)]) C dL_law_1352 wX12_chance hk439 rfl (by decide) q_1836 q_1837 q_1835 (by omega) rfl (Nat.le_of_ble_eq_true rfl) (kX12_chance (d := 102) (Nat.le_refl _) h1) ?_
  refine g_icmp_eq (pc := 1355) (tgt := 1612) C dL_law_1355 (by decide) (fun c442 => ?_) (fun c442 => ?_)
  · replace h := ifp c442 h
    obtain ⟨v443, ev443⟩ : ∃ y : Int32, y = x3 + (6 : Int32) := ⟨_, rfl⟩
    replace h := lt_at ev443 h
    refine g_iinc (pc := 1612) (v := v443) (k := 3) (lo2 := [(3, .int (v443)), (0, .ref (b)), (1, .ref (x1)), (2, .ref (x2))]) C dL_law_1612 rfl (by rw [ev443]; rfl) (by decide) rfl ?_
    refine g_goto (pc := 1615) (tgt := 18) C dL_law_1615 (by decide) ?_
    obtain rfl := Option.some.inj h
    exact g_sub [1, 2, 3, 0] rfl (show G X B 4 Z Q 18 [(0, .ref (b)), (1, .ref (x1)), (2, .ref (x2)), (3, .int (v443))] [] T M441 from hE)
  · replace h := ifn c442 h
    cases h
theorem mjL_law_1360 {L : Nat} {xs : Nat → Int32} {T : Sh} {M : Me} {x1 : Nat} {x2 : Nat} {x3 : Int32} {o : (Int32 × Sh × Me) ⊕ ((Sh × Me))} (h : jL_law_1360 L xs T M x1 x2 x3 = some o) : leT T ((Sum.elim (fun s : Int32 × Sh × Me => s.2.1) (fun r : Sh × Me => r.1)) o) := by
  unfold jL_law_1360 at h
  replace h := gv_some h; obtain ⟨hi444, h⟩ := h
  replace h := gv_some h; obtain ⟨hi445, h⟩ := h
  replace h := gd_some h; obtain ⟨hk446, h⟩ := h
  replace h := bnd2 h; obtain ⟨r447, M448, h1, h⟩ := h
  replace h := gv_some h; obtain ⟨hi449, h⟩ := h
  replace h := gv_some h; obtain ⟨hi450, h⟩ := h
  replace h := gd_some h; obtain ⟨hk451, h⟩ := h
  replace h := bnd2 h; obtain ⟨r452, M453, h1, h⟩ := h
  by_cases c454 : r447 = r452
  · replace h := ifp c454 h
    obtain ⟨v455, ev455⟩ : ∃ y : Int32, y = x3 + (6 : Int32) := ⟨_, rfl⟩
    replace h := lt_at ev455 h
    obtain rfl := Option.some.inj h
    exact leT.rfl
  · replace h := ifn c454 h
    cases h
set_option maxHeartbeats 4000000 in
theorem tjL_law_1360 {X : Fx} {B : Bx} {Z : Nat × Nat × Nat × Nat} {Q : State → Prop} {d : Nat} {T : Sh} {M : Me} {x1 : Nat} {x2 : Nat} {x3 : Int32} {o : (Int32 × Sh × Me) ⊕ ((Sh × Me))} (C : Cx X B cL_law 4 RL d Z) (hd : 405 ≤ d) {L : Nat} {xs : Nat → Int32} {b : Nat} (hX : va_X b L xs X.2.2.2.2.1 X.2.2.2.2.1.heap) (hbl : Lw X B b) (hZ : leZ ((Sum.elim (fun s : Int32 × Sh × Me => s.2.1) (fun r : Sh × Me => r.1)) o) Z) (h : jL_law_1360 L xs T M x1 x2 x3 = some o) (hE : lpE (PL_law_18 X B Z Q b x1 x2) (EL_law_18 X B Z Q b x1 x2) o) : G X B 4 Z Q 1360 [(0, .ref (b)), (1, .ref (x1)), (2, .ref (x2)), (3, .int (x3))] [] T M := by
  unfold jL_law_1360 at h
  refine g_aload_n (pc := 1360) C dL_law_1360 rfl 1 rfl ?_
  refine g_aload_n (pc := 1361) C dL_law_1361 rfl 0 rfl ?_
  refine g_iload_n (pc := 1362) C dL_law_1362 rfl 3 rfl ?_
  refine g_iconst (pc := 1363) (v := 1) C dL_law_1363 (by decide) ?_
  refine g_iadd (pc := 1364) C dL_law_1364 ?_
  replace h := gv_some h; obtain ⟨hi444, h⟩ := h
  refine g_xld (pc := 1365) C hX hbl dL_law_1365 hi444 ?_
  refine g_aload_n (pc := 1366) C dL_law_1366 rfl 0 rfl ?_
  refine g_iload_n (pc := 1367) C dL_law_1367 rfl 3 rfl ?_
  refine g_iconst (pc := 1368) (v := 2) C dL_law_1368 (by decide) ?_
  refine g_iadd (pc := 1369) C dL_law_1369 ?_
  replace h := gv_some h; obtain ⟨hi445, h⟩ := h
  refine g_xld (pc := 1370) C hX hbl dL_law_1370 hi445 ?_
  replace h := gd_some h; obtain ⟨hk446, h⟩ := h
  replace h := bnd2 h; obtain ⟨r447, M448, h1, h⟩ := h
  refine g_callVi (pc := 1371) (As := [.int (xs (Int32.toNatClampNeg (x3 + (1 : Int32)))), .int (xs (Int32.toNatClampNeg (x3 + (2 : Int32))))]) (st := []) C dL_law_1371 wX11_mean hk446 rfl (by decide) q_1178 q_1179 q_1177 (by omega) rfl (Nat.le_of_ble_eq_true rfl) (kX11_mean (d := 5) (Nat.le_refl _) h1) ?_
  refine g_aload_n (pc := 1374) C dL_law_1374 rfl 2 rfl ?_
  refine g_aload_n (pc := 1375) C dL_law_1375 rfl 0 rfl ?_
  refine g_iload_n (pc := 1376) C dL_law_1376 rfl 3 rfl ?_
  refine g_iconst (pc := 1377) (v := 1) C dL_law_1377 (by decide) ?_
  refine g_iadd (pc := 1378) C dL_law_1378 ?_
  replace h := gv_some h; obtain ⟨hi449, h⟩ := h
  refine g_xld (pc := 1379) C hX hbl dL_law_1379 hi449 ?_
  refine g_aload_n (pc := 1380) C dL_law_1380 rfl 0 rfl ?_
  refine g_iload_n (pc := 1381) C dL_law_1381 rfl 3 rfl ?_
  refine g_iconst (pc := 1382) (v := 2) C dL_law_1382 (by decide) ?_
  refine g_iadd (pc := 1383) C dL_law_1383 ?_
  replace h := gv_some h; obtain ⟨hi450, h⟩ := h
  refine g_xld (pc := 1384) C hX hbl dL_law_1384 hi450 ?_
  replace h := gd_some h; obtain ⟨hk451, h⟩ := h
  replace h := bnd2 h; obtain ⟨r452, M453, h1, h⟩ := h
  refine g_callVi (pc := 1385) (As := [.int (xs (Int32.toNatClampNeg (x3 + (1 : Int32)))), .int (xs (Int32.toNatClampNeg (x3 + (2 : Int32))))]) (st := [.int (r447)]) C dL_law_1385 wX12_mean hk451 rfl (by decide) q_1854 q_1855 q_1853 (by omega) rfl (Nat.le_of_ble_eq_true rfl) (kX12_mean (d := 102) (Nat.le_refl _) h1) ?_
  refine g_icmp_eq (pc := 1388) (tgt := 1612) C dL_law_1388 (by decide) (fun c454 => ?_) (fun c454 => ?_)
  · replace h := ifp c454 h
    obtain ⟨v455, ev455⟩ : ∃ y : Int32, y = x3 + (6 : Int32) := ⟨_, rfl⟩
    replace h := lt_at ev455 h
    refine g_iinc (pc := 1612) (v := v455) (k := 3) (lo2 := [(3, .int (v455)), (0, .ref (b)), (1, .ref (x1)), (2, .ref (x2))]) C dL_law_1612 rfl (by rw [ev455]; rfl) (by decide) rfl ?_
    refine g_goto (pc := 1615) (tgt := 18) C dL_law_1615 (by decide) ?_
    obtain rfl := Option.some.inj h
    exact g_sub [1, 2, 3, 0] rfl (show G X B 4 Z Q 18 [(0, .ref (b)), (1, .ref (x1)), (2, .ref (x2)), (3, .int (v455))] [] T M453 from hE)
  · replace h := ifn c454 h
    cases h
theorem mjL_law_1393 {L : Nat} {xs : Nat → Int32} {T : Sh} {M : Me} {x1 : Nat} {x2 : Nat} {x3 : Int32} {o : (Int32 × Sh × Me) ⊕ ((Sh × Me))} (h : jL_law_1393 L xs T M x1 x2 x3 = some o) : leT T ((Sum.elim (fun s : Int32 × Sh × Me => s.2.1) (fun r : Sh × Me => r.1)) o) := by
  unfold jL_law_1393 at h
  replace h := gv_some h; obtain ⟨hi456, h⟩ := h
  replace h := gv_some h; obtain ⟨hi457, h⟩ := h
  replace h := gv_some h; obtain ⟨hi458, h⟩ := h
  replace h := gd_some h; obtain ⟨hk459, h⟩ := h
  replace h := bnd2 h; obtain ⟨r460, M461, h1, h⟩ := h
  replace h := gv_some h; obtain ⟨hi462, h⟩ := h
  replace h := gv_some h; obtain ⟨hi463, h⟩ := h
  replace h := gv_some h; obtain ⟨hi464, h⟩ := h
  replace h := gd_some h; obtain ⟨hk465, h⟩ := h
  replace h := bnd2 h; obtain ⟨r466, M467, h1, h⟩ := h
  by_cases c468 : r460 = r466
  · replace h := ifp c468 h
    obtain ⟨v469, ev469⟩ : ∃ y : Int32, y = x3 + (6 : Int32) := ⟨_, rfl⟩
    replace h := lt_at ev469 h
    obtain rfl := Option.some.inj h
    exact leT.rfl
  · replace h := ifn c468 h
    cases h
set_option maxHeartbeats 4000000 in
theorem tjL_law_1393 {X : Fx} {B : Bx} {Z : Nat × Nat × Nat × Nat} {Q : State → Prop} {d : Nat} {T : Sh} {M : Me} {x1 : Nat} {x2 : Nat} {x3 : Int32} {o : (Int32 × Sh × Me) ⊕ ((Sh × Me))} (C : Cx X B cL_law 4 RL d Z) (hd : 405 ≤ d) {L : Nat} {xs : Nat → Int32} {b : Nat} (hX : va_X b L xs X.2.2.2.2.1 X.2.2.2.2.1.heap) (hbl : Lw X B b) (hZ : leZ ((Sum.elim (fun s : Int32 × Sh × Me => s.2.1) (fun r : Sh × Me => r.1)) o) Z) (h : jL_law_1393 L xs T M x1 x2 x3 = some o) (hE : lpE (PL_law_18 X B Z Q b x1 x2) (EL_law_18 X B Z Q b x1 x2) o) : G X B 4 Z Q 1393 [(0, .ref (b)), (1, .ref (x1)), (2, .ref (x2)), (3, .int (x3))] [] T M := by
  unfold jL_law_1393 at h
  refine g_aload_n (pc := 1393) C dL_law_1393 rfl 1 rfl ?_
  refine g_aload_n (pc := 1394) C dL_law_1394 rfl 0 rfl ?_
  refine g_iload_n (pc := 1395) C dL_law_1395 rfl 3 rfl ?_
  refine g_iconst (pc := 1396) (v := 1) C dL_law_1396 (by decide) ?_
  refine g_iadd (pc := 1397) C dL_law_1397 ?_
  replace h := gv_some h; obtain ⟨hi456, h⟩ := h
  refine g_xld (pc := 1398) C hX hbl dL_law_1398 hi456 ?_
  refine g_aload_n (pc := 1399) C dL_law_1399 rfl 0 rfl ?_
  refine g_iload_n (pc := 1400) C dL_law_1400 rfl 3 rfl ?_
  refine g_iconst (pc := 1401) (v := 2) C dL_law_1401 (by decide) ?_
  refine g_iadd (pc := 1402) C dL_law_1402 ?_
  replace h := gv_some h; obtain ⟨hi457, h⟩ := h
  refine g_xld (pc := 1403) C hX hbl dL_law_1403 hi457 ?_
  refine g_aload_n (pc := 1404) C dL_law_1404 rfl 0 rfl ?_
  refine g_iload_n (pc := 1405) C dL_law_1405 rfl 3 rfl ?_
  refine g_iconst (pc := 1406) (v := 3) C dL_law_1406 (by decide) ?_
  refine g_iadd (pc := 1407) C dL_law_1407 ?_
  replace h := gv_some h; obtain ⟨hi458, h⟩ := h
  refine g_xld (pc := 1408) C hX hbl dL_law_1408 hi458 ?_
  replace h := gd_some h; obtain ⟨hk459, h⟩ := h
  replace h := bnd2 h; obtain ⟨r460, M461, h1, h⟩ := h
  refine g_callVi (pc := 1409) (As := [.int (xs (Int32.toNatClampNeg (x3 + (1 : Int32)))), .int (xs (Int32.toNatClampNeg (x3 + (2 : Int32)))), .int (xs (Int32.toNatClampNeg (x3 + (3 : Int32))))]) (st := []) C dL_law_1409 wX11_numbers hk459 rfl (by decide) q_1182 q_1183 q_1181 (by omega) rfl (Nat.le_of_ble_eq_true rfl) (kX11_numbers (d := 2) (Nat.le_refl _) h1) ?_
  refine g_aload_n (pc := 1412) C dL_law_1412 rfl 2 rfl ?_
  refine g_aload_n (pc := 1413) C dL_law_1413 rfl 0 rfl ?_
  refine g_iload_n (pc := 1414) C dL_law_1414 rfl 3 rfl ?_
  refine g_iconst (pc := 1415) (v := 1) C dL_law_1415 (by decide) ?_
  refine g_iadd (pc := 1416) C dL_law_1416 ?_
  replace h := gv_some h; obtain ⟨hi462, h⟩ := h
  refine g_xld (pc := 1417) C hX hbl dL_law_1417 hi462 ?_
  refine g_aload_n (pc := 1418) C dL_law_1418 rfl 0 rfl ?_
  refine g_iload_n (pc := 1419) C dL_law_1419 rfl 3 rfl ?_
  refine g_iconst (pc := 1420) (v := 2) C dL_law_1420 (by decide) ?_
  refine g_iadd (pc := 1421) C dL_law_1421 ?_
  replace h := gv_some h; obtain ⟨hi463, h⟩ := h
  refine g_xld (pc := 1422) C hX hbl dL_law_1422 hi463 ?_
  refine g_aload_n (pc := 1423) C dL_law_1423 rfl 0 rfl ?_
  refine g_iload_n (pc := 1424) C dL_law_1424 rfl 3 rfl ?_
  refine g_iconst (pc := 1425) (v := 3) C dL_law_1425 (by decide) ?_
  refine g_iadd (pc := 1426) C dL_law_1426 ?_
  replace h := gv_some h; obtain ⟨hi464, h⟩ := h
  refine g_xld (pc := 1427) C hX hbl dL_law_1427 hi464 ?_
  replace h := gd_some h; obtain ⟨hk465, h⟩ := h
  replace h := bnd2 h; obtain ⟨r466, M467, h1, h⟩ := h
  refine g_callVi (pc := 1428) (As := [.int (xs (Int32.toNatClampNeg (x3 + (1 : Int32)))), .int (xs (Int32.toNatClampNeg (x3 + (2 : Int32)))), .int (xs (Int32.toNatClampNeg (x3 + (3 : Int32))))]) (st := [.int (r460)]) C dL_law_1428 wX12_numbers hk465 rfl (by decide) q_1858 q_1859 q_1857 (by omega) rfl (Nat.le_of_ble_eq_true rfl) (kX12_numbers (d := 1) (Nat.le_refl _) h1) ?_
  refine g_icmp_eq (pc := 1431) (tgt := 1612) C dL_law_1431 (by decide) (fun c468 => ?_) (fun c468 => ?_)
  · replace h := ifp c468 h
    obtain ⟨v469, ev469⟩ : ∃ y : Int32, y = x3 + (6 : Int32) := ⟨_, rfl⟩
    replace h := lt_at ev469 h
    refine g_iinc (pc := 1612) (v := v469) (k := 3) (lo2 := [(3, .int (v469)), (0, .ref (b)), (1, .ref (x1)), (2, .ref (x2))]) C dL_law_1612 rfl (by rw [ev469]; rfl) (by decide) rfl ?_
    refine g_goto (pc := 1615) (tgt := 18) C dL_law_1615 (by decide) ?_
    obtain rfl := Option.some.inj h
    exact g_sub [1, 2, 3, 0] rfl (show G X B 4 Z Q 18 [(0, .ref (b)), (1, .ref (x1)), (2, .ref (x2)), (3, .int (v469))] [] T M467 from hE)
  · replace h := ifn c468 h
    cases h
theorem mjL_law_1436 {L : Nat} {xs : Nat → Int32} {T : Sh} {M : Me} {x1 : Nat} {x2 : Nat} {x3 : Int32} {o : (Int32 × Sh × Me) ⊕ ((Sh × Me))} (h : jL_law_1436 L xs T M x1 x2 x3 = some o) : leT T ((Sum.elim (fun s : Int32 × Sh × Me => s.2.1) (fun r : Sh × Me => r.1)) o) := by
  unfold jL_law_1436 at h
  replace h := gv_some h; obtain ⟨hi470, h⟩ := h
  replace h := gv_some h; obtain ⟨hi471, h⟩ := h
  replace h := gv_some h; obtain ⟨hi472, h⟩ := h
  replace h := gv_some h; obtain ⟨hi473, h⟩ := h
  replace h := gd_some h; obtain ⟨hk474, h⟩ := h
  replace h := bnd2 h; obtain ⟨r475, M476, h1, h⟩ := h
  replace h := gv_some h; obtain ⟨hi477, h⟩ := h
  replace h := gv_some h; obtain ⟨hi478, h⟩ := h
  replace h := gv_some h; obtain ⟨hi479, h⟩ := h
  replace h := gv_some h; obtain ⟨hi480, h⟩ := h
  replace h := gd_some h; obtain ⟨hk481, h⟩ := h
  replace h := bnd2 h; obtain ⟨r482, M483, h1, h⟩ := h
  by_cases c484 : (lg_cmp r475 r482) = 0
  · replace h := ifp c484 h
    obtain ⟨v485, ev485⟩ : ∃ y : Int32, y = x3 + (6 : Int32) := ⟨_, rfl⟩
    replace h := lt_at ev485 h
    obtain rfl := Option.some.inj h
    exact leT.rfl
  · replace h := ifn c484 h
    cases h
set_option maxHeartbeats 4000000 in
theorem tjL_law_1436 {X : Fx} {B : Bx} {Z : Nat × Nat × Nat × Nat} {Q : State → Prop} {d : Nat} {T : Sh} {M : Me} {x1 : Nat} {x2 : Nat} {x3 : Int32} {o : (Int32 × Sh × Me) ⊕ ((Sh × Me))} (C : Cx X B cL_law 4 RL d Z) (hd : 405 ≤ d) {L : Nat} {xs : Nat → Int32} {b : Nat} (hX : va_X b L xs X.2.2.2.2.1 X.2.2.2.2.1.heap) (hbl : Lw X B b) (hZ : leZ ((Sum.elim (fun s : Int32 × Sh × Me => s.2.1) (fun r : Sh × Me => r.1)) o) Z) (h : jL_law_1436 L xs T M x1 x2 x3 = some o) (hE : lpE (PL_law_18 X B Z Q b x1 x2) (EL_law_18 X B Z Q b x1 x2) o) : G X B 4 Z Q 1436 [(0, .ref (b)), (1, .ref (x1)), (2, .ref (x2)), (3, .int (x3))] [] T M := by
  unfold jL_law_1436 at h
  refine g_aload_n (pc := 1436) C dL_law_1436 rfl 1 rfl ?_
  refine g_aload_n (pc := 1437) C dL_law_1437 rfl 0 rfl ?_
  refine g_iload_n (pc := 1438) C dL_law_1438 rfl 3 rfl ?_
  refine g_iconst (pc := 1439) (v := 1) C dL_law_1439 (by decide) ?_
  refine g_iadd (pc := 1440) C dL_law_1440 ?_
  replace h := gv_some h; obtain ⟨hi470, h⟩ := h
  refine g_xld (pc := 1441) C hX hbl dL_law_1441 hi470 ?_
  refine g_aload_n (pc := 1442) C dL_law_1442 rfl 0 rfl ?_
  refine g_iload_n (pc := 1443) C dL_law_1443 rfl 3 rfl ?_
  refine g_iconst (pc := 1444) (v := 2) C dL_law_1444 (by decide) ?_
  refine g_iadd (pc := 1445) C dL_law_1445 ?_
  replace h := gv_some h; obtain ⟨hi471, h⟩ := h
  refine g_xld (pc := 1446) C hX hbl dL_law_1446 hi471 ?_
  refine g_aload_n (pc := 1447) C dL_law_1447 rfl 0 rfl ?_
  refine g_iload_n (pc := 1448) C dL_law_1448 rfl 3 rfl ?_
  refine g_iconst (pc := 1449) (v := 3) C dL_law_1449 (by decide) ?_
  refine g_iadd (pc := 1450) C dL_law_1450 ?_
  replace h := gv_some h; obtain ⟨hi472, h⟩ := h
  refine g_xld (pc := 1451) C hX hbl dL_law_1451 hi472 ?_
  refine g_i2l (pc := 1452) C dL_law_1452 ?_
  refine g_bipush (pc := 1453) (v := 32) C dL_law_1453 (by decide) ?_
  refine g_lshl (pc := 1455) C dL_law_1455 ?_
  refine g_aload_n (pc := 1456) C dL_law_1456 rfl 0 rfl ?_
  refine g_iload_n (pc := 1457) C dL_law_1457 rfl 3 rfl ?_
  refine g_iconst (pc := 1458) (v := 4) C dL_law_1458 (by decide) ?_
  refine g_iadd (pc := 1459) C dL_law_1459 ?_
  replace h := gv_some h; obtain ⟨hi473, h⟩ := h
  refine g_xld (pc := 1460) C hX hbl dL_law_1460 hi473 ?_
  refine g_i2l (pc := 1461) C dL_law_1461 ?_
  refine g_ldc2 (pc := 1462) C dL_law_1462 q_1885 ?_
  refine g_land (pc := 1465) C dL_law_1465 ?_
  refine g_lor (pc := 1466) C dL_law_1466 ?_
  replace h := gd_some h; obtain ⟨hk474, h⟩ := h
  replace h := bnd2 h; obtain ⟨r475, M476, h1, h⟩ := h
  refine g_callVl (pc := 1467) (As := [.int (xs (Int32.toNatClampNeg (x3 + (1 : Int32)))), .int (xs (Int32.toNatClampNeg (x3 + (2 : Int32)))), .long (((Int32.toInt64 (xs (Int32.toNatClampNeg (x3 + (3 : Int32))))) <<< (Int32.toInt64 (32 : Int32) &&& 63)) ||| ((Int32.toInt64 (xs (Int32.toNatClampNeg (x3 + (4 : Int32))))) &&& (4294967295 : Int64)))]) (st := []) C dL_law_1467 wX11_write hk474 rfl (by decide) q_1191 q_1192 q_1190 (by omega) rfl (Nat.le_of_ble_eq_true rfl) (kX11_write (d := 1) (Nat.le_refl _) h1) ?_
  refine g_aload_n (pc := 1470) C dL_law_1470 rfl 2 rfl ?_
  refine g_aload_n (pc := 1471) C dL_law_1471 rfl 0 rfl ?_
  refine g_iload_n (pc := 1472) C dL_law_1472 rfl 3 rfl ?_
  refine g_iconst (pc := 1473) (v := 1) C dL_law_1473 (by decide) ?_
  refine g_iadd (pc := 1474) C dL_law_1474 ?_
  replace h := gv_some h; obtain ⟨hi477, h⟩ := h
  refine g_xld (pc := 1475) C hX hbl dL_law_1475 hi477 ?_
  refine g_aload_n (pc := 1476) C dL_law_1476 rfl 0 rfl ?_
  refine g_iload_n (pc := 1477) C dL_law_1477 rfl 3 rfl ?_
  refine g_iconst (pc := 1478) (v := 2) C dL_law_1478 (by decide) ?_
  refine g_iadd (pc := 1479) C dL_law_1479 ?_
  replace h := gv_some h; obtain ⟨hi478, h⟩ := h
  refine g_xld (pc := 1480) C hX hbl dL_law_1480 hi478 ?_
  refine g_aload_n (pc := 1481) C dL_law_1481 rfl 0 rfl ?_
  refine g_iload_n (pc := 1482) C dL_law_1482 rfl 3 rfl ?_
  refine g_iconst (pc := 1483) (v := 3) C dL_law_1483 (by decide) ?_
  refine g_iadd (pc := 1484) C dL_law_1484 ?_
  replace h := gv_some h; obtain ⟨hi479, h⟩ := h
  refine g_xld (pc := 1485) C hX hbl dL_law_1485 hi479 ?_
  refine g_i2l (pc := 1486) C dL_law_1486 ?_
  refine g_bipush (pc := 1487) (v := 32) C dL_law_1487 (by decide) ?_
  refine g_lshl (pc := 1489) C dL_law_1489 ?_
  refine g_aload_n (pc := 1490) C dL_law_1490 rfl 0 rfl ?_
  refine g_iload_n (pc := 1491) C dL_law_1491 rfl 3 rfl ?_
  refine g_iconst (pc := 1492) (v := 4) C dL_law_1492 (by decide) ?_
  refine g_iadd (pc := 1493) C dL_law_1493 ?_
  replace h := gv_some h; obtain ⟨hi480, h⟩ := h
  refine g_xld (pc := 1494) C hX hbl dL_law_1494 hi480 ?_
  refine g_i2l (pc := 1495) C dL_law_1495 ?_
  refine g_ldc2 (pc := 1496) C dL_law_1496 q_1885 ?_
  refine g_land (pc := 1499) C dL_law_1499 ?_
  refine g_lor (pc := 1500) C dL_law_1500 ?_
  replace h := gd_some h; obtain ⟨hk481, h⟩ := h
  replace h := bnd2 h; obtain ⟨r482, M483, h1, h⟩ := h
  refine g_callVl (pc := 1501) (As := [.int (xs (Int32.toNatClampNeg (x3 + (1 : Int32)))), .int (xs (Int32.toNatClampNeg (x3 + (2 : Int32)))), .long (((Int32.toInt64 (xs (Int32.toNatClampNeg (x3 + (3 : Int32))))) <<< (Int32.toInt64 (32 : Int32) &&& 63)) ||| ((Int32.toInt64 (xs (Int32.toNatClampNeg (x3 + (4 : Int32))))) &&& (4294967295 : Int64)))]) (st := [.long (r475)]) C dL_law_1501 wX12_write hk481 rfl (by decide) q_1862 q_1863 q_1861 (by omega) rfl (Nat.le_of_ble_eq_true rfl) (kX12_write (d := 2) (Nat.le_refl _) h1) ?_
  refine g_lcmp (pc := 1504) C dL_law_1504 ?_
  refine g_if_eq (pc := 1505) (tgt := 1612) C dL_law_1505 (by decide) (fun c484 => ?_) (fun c484 => ?_)
  · replace h := ifp c484 h
    obtain ⟨v485, ev485⟩ : ∃ y : Int32, y = x3 + (6 : Int32) := ⟨_, rfl⟩
    replace h := lt_at ev485 h
    refine g_iinc (pc := 1612) (v := v485) (k := 3) (lo2 := [(3, .int (v485)), (0, .ref (b)), (1, .ref (x1)), (2, .ref (x2))]) C dL_law_1612 rfl (by rw [ev485]; rfl) (by decide) rfl ?_
    refine g_goto (pc := 1615) (tgt := 18) C dL_law_1615 (by decide) ?_
    obtain rfl := Option.some.inj h
    exact g_sub [1, 2, 3, 0] rfl (show G X B 4 Z Q 18 [(0, .ref (b)), (1, .ref (x1)), (2, .ref (x2)), (3, .int (v485))] [] T M483 from hE)
  · replace h := ifn c484 h
    cases h
theorem mjL_law_1510 {L : Nat} {xs : Nat → Int32} {T : Sh} {M : Me} {x1 : Nat} {x2 : Nat} {x3 : Int32} {o : (Int32 × Sh × Me) ⊕ ((Sh × Me))} (h : jL_law_1510 L xs T M x1 x2 x3 = some o) : leT T ((Sum.elim (fun s : Int32 × Sh × Me => s.2.1) (fun r : Sh × Me => r.1)) o) := by
  unfold jL_law_1510 at h
  replace h := gv_some h; obtain ⟨hi486, h⟩ := h
  replace h := gv_some h; obtain ⟨hi487, h⟩ := h
  replace h := gd_some h; obtain ⟨hk488, h⟩ := h
  replace h := bnd2 h; obtain ⟨r489, M490, h1, h⟩ := h
  replace h := gv_some h; obtain ⟨hi491, h⟩ := h
  replace h := gv_some h; obtain ⟨hi492, h⟩ := h
  replace h := gd_some h; obtain ⟨hk493, h⟩ := h
  replace h := bnd2 h; obtain ⟨r494, M495, h1, h⟩ := h
  by_cases c496 : r489 = r494
  · replace h := ifp c496 h
    obtain ⟨v497, ev497⟩ : ∃ y : Int32, y = x3 + (6 : Int32) := ⟨_, rfl⟩
    replace h := lt_at ev497 h
    obtain rfl := Option.some.inj h
    exact leT.rfl
  · replace h := ifn c496 h
    cases h
set_option maxHeartbeats 4000000 in
theorem tjL_law_1510 {X : Fx} {B : Bx} {Z : Nat × Nat × Nat × Nat} {Q : State → Prop} {d : Nat} {T : Sh} {M : Me} {x1 : Nat} {x2 : Nat} {x3 : Int32} {o : (Int32 × Sh × Me) ⊕ ((Sh × Me))} (C : Cx X B cL_law 4 RL d Z) (hd : 405 ≤ d) {L : Nat} {xs : Nat → Int32} {b : Nat} (hX : va_X b L xs X.2.2.2.2.1 X.2.2.2.2.1.heap) (hbl : Lw X B b) (hZ : leZ ((Sum.elim (fun s : Int32 × Sh × Me => s.2.1) (fun r : Sh × Me => r.1)) o) Z) (h : jL_law_1510 L xs T M x1 x2 x3 = some o) (hE : lpE (PL_law_18 X B Z Q b x1 x2) (EL_law_18 X B Z Q b x1 x2) o) : G X B 4 Z Q 1510 [(0, .ref (b)), (1, .ref (x1)), (2, .ref (x2)), (3, .int (x3))] [] T M := by
  unfold jL_law_1510 at h
  refine g_aload_n (pc := 1510) C dL_law_1510 rfl 1 rfl ?_
  refine g_aload_n (pc := 1511) C dL_law_1511 rfl 0 rfl ?_
  refine g_iload_n (pc := 1512) C dL_law_1512 rfl 3 rfl ?_
  refine g_iconst (pc := 1513) (v := 1) C dL_law_1513 (by decide) ?_
  refine g_iadd (pc := 1514) C dL_law_1514 ?_
  replace h := gv_some h; obtain ⟨hi486, h⟩ := h
  refine g_xld (pc := 1515) C hX hbl dL_law_1515 hi486 ?_
  refine g_aload_n (pc := 1516) C dL_law_1516 rfl 0 rfl ?_
  refine g_iload_n (pc := 1517) C dL_law_1517 rfl 3 rfl ?_
  refine g_iconst (pc := 1518) (v := 2) C dL_law_1518 (by decide) ?_
  refine g_iadd (pc := 1519) C dL_law_1519 ?_
  replace h := gv_some h; obtain ⟨hi487, h⟩ := h
  refine g_xld (pc := 1520) C hX hbl dL_law_1520 hi487 ?_
  replace h := gd_some h; obtain ⟨hk488, h⟩ := h
  replace h := bnd2 h; obtain ⟨r489, M490, h1, h⟩ := h
  refine g_callVi (pc := 1521) (As := [.int (xs (Int32.toNatClampNeg (x3 + (1 : Int32)))), .int (xs (Int32.toNatClampNeg (x3 + (2 : Int32))))]) (st := []) C dL_law_1521 wX11_lists hk488 rfl (by decide) q_1201 q_1202 q_1200 (by omega) rfl (Nat.le_of_ble_eq_true rfl) (kX11_lists (d := 4) (Nat.le_refl _) h1) ?_
  refine g_aload_n (pc := 1524) C dL_law_1524 rfl 2 rfl ?_
  refine g_aload_n (pc := 1525) C dL_law_1525 rfl 0 rfl ?_
  refine g_iload_n (pc := 1526) C dL_law_1526 rfl 3 rfl ?_
  refine g_iconst (pc := 1527) (v := 1) C dL_law_1527 (by decide) ?_
  refine g_iadd (pc := 1528) C dL_law_1528 ?_
  replace h := gv_some h; obtain ⟨hi491, h⟩ := h
  refine g_xld (pc := 1529) C hX hbl dL_law_1529 hi491 ?_
  refine g_aload_n (pc := 1530) C dL_law_1530 rfl 0 rfl ?_
  refine g_iload_n (pc := 1531) C dL_law_1531 rfl 3 rfl ?_
  refine g_iconst (pc := 1532) (v := 2) C dL_law_1532 (by decide) ?_
  refine g_iadd (pc := 1533) C dL_law_1533 ?_
  replace h := gv_some h; obtain ⟨hi492, h⟩ := h
  refine g_xld (pc := 1534) C hX hbl dL_law_1534 hi492 ?_
  replace h := gd_some h; obtain ⟨hk493, h⟩ := h
  replace h := bnd2 h; obtain ⟨r494, M495, h1, h⟩ := h
  refine g_callVi (pc := 1535) (As := [.int (xs (Int32.toNatClampNeg (x3 + (1 : Int32)))), .int (xs (Int32.toNatClampNeg (x3 + (2 : Int32))))]) (st := [.int (r489)]) C dL_law_1535 wX12_lists hk493 rfl (by decide) q_1870 q_1871 q_1869 (by omega) rfl (Nat.le_of_ble_eq_true rfl) (kX12_lists (d := 4) (Nat.le_refl _) h1) ?_
  refine g_icmp_eq (pc := 1538) (tgt := 1612) C dL_law_1538 (by decide) (fun c496 => ?_) (fun c496 => ?_)
  · replace h := ifp c496 h
    obtain ⟨v497, ev497⟩ : ∃ y : Int32, y = x3 + (6 : Int32) := ⟨_, rfl⟩
    replace h := lt_at ev497 h
    refine g_iinc (pc := 1612) (v := v497) (k := 3) (lo2 := [(3, .int (v497)), (0, .ref (b)), (1, .ref (x1)), (2, .ref (x2))]) C dL_law_1612 rfl (by rw [ev497]; rfl) (by decide) rfl ?_
    refine g_goto (pc := 1615) (tgt := 18) C dL_law_1615 (by decide) ?_
    obtain rfl := Option.some.inj h
    exact g_sub [1, 2, 3, 0] rfl (show G X B 4 Z Q 18 [(0, .ref (b)), (1, .ref (x1)), (2, .ref (x2)), (3, .int (v497))] [] T M495 from hE)
  · replace h := ifn c496 h
    cases h
theorem mjL_law_1543 {L : Nat} {xs : Nat → Int32} {T : Sh} {M : Me} {x1 : Nat} {x2 : Nat} {x3 : Int32} {o : (Int32 × Sh × Me) ⊕ ((Sh × Me))} (h : jL_law_1543 L xs T M x1 x2 x3 = some o) : leT T ((Sum.elim (fun s : Int32 × Sh × Me => s.2.1) (fun r : Sh × Me => r.1)) o) := by
  unfold jL_law_1543 at h
  replace h := gv_some h; obtain ⟨hi498, h⟩ := h
  replace h := gd_some h; obtain ⟨hk499, h⟩ := h
  replace h := bnd2 h; obtain ⟨r500, M501, h1, h⟩ := h
  replace h := gv_some h; obtain ⟨hi502, h⟩ := h
  replace h := gd_some h; obtain ⟨hk503, h⟩ := h
  replace h := bnd2 h; obtain ⟨r504, M505, h1, h⟩ := h
  by_cases c506 : r500 = r504
  · replace h := ifp c506 h
    obtain ⟨v507, ev507⟩ : ∃ y : Int32, y = x3 + (6 : Int32) := ⟨_, rfl⟩
    replace h := lt_at ev507 h
    obtain rfl := Option.some.inj h
    exact leT.rfl
  · replace h := ifn c506 h
    cases h
set_option maxHeartbeats 4000000 in
theorem tjL_law_1543 {X : Fx} {B : Bx} {Z : Nat × Nat × Nat × Nat} {Q : State → Prop} {d : Nat} {T : Sh} {M : Me} {x1 : Nat} {x2 : Nat} {x3 : Int32} {o : (Int32 × Sh × Me) ⊕ ((Sh × Me))} (C : Cx X B cL_law 4 RL d Z) (hd : 405 ≤ d) {L : Nat} {xs : Nat → Int32} {b : Nat} (hX : va_X b L xs X.2.2.2.2.1 X.2.2.2.2.1.heap) (hbl : Lw X B b) (hZ : leZ ((Sum.elim (fun s : Int32 × Sh × Me => s.2.1) (fun r : Sh × Me => r.1)) o) Z) (h : jL_law_1543 L xs T M x1 x2 x3 = some o) (hE : lpE (PL_law_18 X B Z Q b x1 x2) (EL_law_18 X B Z Q b x1 x2) o) : G X B 4 Z Q 1543 [(0, .ref (b)), (1, .ref (x1)), (2, .ref (x2)), (3, .int (x3))] [] T M := by
  unfold jL_law_1543 at h
  refine g_aload_n (pc := 1543) C dL_law_1543 rfl 1 rfl ?_
  refine g_aload_n (pc := 1544) C dL_law_1544 rfl 0 rfl ?_
  refine g_iload_n (pc := 1545) C dL_law_1545 rfl 3 rfl ?_
  refine g_iconst (pc := 1546) (v := 1) C dL_law_1546 (by decide) ?_
  refine g_iadd (pc := 1547) C dL_law_1547 ?_
  replace h := gv_some h; obtain ⟨hi498, h⟩ := h
  refine g_xld (pc := 1548) C hX hbl dL_law_1548 hi498 ?_
  replace h := gd_some h; obtain ⟨hk499, h⟩ := h
  replace h := bnd2 h; obtain ⟨r500, M501, h1, h⟩ := h
  refine g_callVi (pc := 1549) (As := [.int (xs (Int32.toNatClampNeg (x3 + (1 : Int32))))]) (st := []) C dL_law_1549 wX11_image hk499 rfl (by decide) q_1207 q_1208 q_1206 (by omega) rfl (Nat.le_of_ble_eq_true rfl) (kX11_image (d := 1) (Nat.le_refl _) h1) ?_
  refine g_aload_n (pc := 1552) C dL_law_1552 rfl 2 rfl ?_
  refine g_aload_n (pc := 1553) C dL_law_1553 rfl 0 rfl ?_
  refine g_iload_n (pc := 1554) C dL_law_1554 rfl 3 rfl ?_
  refine g_iconst (pc := 1555) (v := 1) C dL_law_1555 (by decide) ?_
  refine g_iadd (pc := 1556) C dL_law_1556 ?_
  replace h := gv_some h; obtain ⟨hi502, h⟩ := h
  refine g_xld (pc := 1557) C hX hbl dL_law_1557 hi502 ?_
  replace h := gd_some h; obtain ⟨hk503, h⟩ := h
  replace h := bnd2 h; obtain ⟨r504, M505, h1, h⟩ := h
  refine g_callVi (pc := 1558) (As := [.int (xs (Int32.toNatClampNeg (x3 + (1 : Int32))))]) (st := [.int (r500)]) C dL_law_1558 wX12_image hk503 rfl (by decide) q_1874 q_1875 q_1873 (by omega) rfl (Nat.le_of_ble_eq_true rfl) (kX12_image (d := 1) (Nat.le_refl _) h1) ?_
  refine g_icmp_eq (pc := 1561) (tgt := 1612) C dL_law_1561 (by decide) (fun c506 => ?_) (fun c506 => ?_)
  · replace h := ifp c506 h
    obtain ⟨v507, ev507⟩ : ∃ y : Int32, y = x3 + (6 : Int32) := ⟨_, rfl⟩
    replace h := lt_at ev507 h
    refine g_iinc (pc := 1612) (v := v507) (k := 3) (lo2 := [(3, .int (v507)), (0, .ref (b)), (1, .ref (x1)), (2, .ref (x2))]) C dL_law_1612 rfl (by rw [ev507]; rfl) (by decide) rfl ?_
    refine g_goto (pc := 1615) (tgt := 18) C dL_law_1615 (by decide) ?_
    obtain rfl := Option.some.inj h
    exact g_sub [1, 2, 3, 0] rfl (show G X B 4 Z Q 18 [(0, .ref (b)), (1, .ref (x1)), (2, .ref (x2)), (3, .int (v507))] [] T M505 from hE)
  · replace h := ifn c506 h
    cases h
theorem mjL_law_1566 {L : Nat} {xs : Nat → Int32} {T : Sh} {M : Me} {x1 : Nat} {x2 : Nat} {x3 : Int32} {o : (Int32 × Sh × Me) ⊕ ((Sh × Me))} (h : jL_law_1566 L xs T M x1 x2 x3 = some o) : leT T ((Sum.elim (fun s : Int32 × Sh × Me => s.2.1) (fun r : Sh × Me => r.1)) o) := by
  unfold jL_law_1566 at h
  replace h := gv_some h; obtain ⟨hi508, h⟩ := h
  replace h := gd_some h; obtain ⟨hk509, h⟩ := h
  replace h := bnd2 h; obtain ⟨r510, M511, h1, h⟩ := h
  replace h := gv_some h; obtain ⟨hi512, h⟩ := h
  replace h := gd_some h; obtain ⟨hk513, h⟩ := h
  replace h := bnd2 h; obtain ⟨r514, M515, h1, h⟩ := h
  by_cases c516 : r510 = r514
  · replace h := ifp c516 h
    obtain ⟨v517, ev517⟩ : ∃ y : Int32, y = x3 + (6 : Int32) := ⟨_, rfl⟩
    replace h := lt_at ev517 h
    obtain rfl := Option.some.inj h
    exact leT.rfl
  · replace h := ifn c516 h
    cases h
set_option maxHeartbeats 4000000 in
theorem tjL_law_1566 {X : Fx} {B : Bx} {Z : Nat × Nat × Nat × Nat} {Q : State → Prop} {d : Nat} {T : Sh} {M : Me} {x1 : Nat} {x2 : Nat} {x3 : Int32} {o : (Int32 × Sh × Me) ⊕ ((Sh × Me))} (C : Cx X B cL_law 4 RL d Z) (hd : 405 ≤ d) {L : Nat} {xs : Nat → Int32} {b : Nat} (hX : va_X b L xs X.2.2.2.2.1 X.2.2.2.2.1.heap) (hbl : Lw X B b) (hZ : leZ ((Sum.elim (fun s : Int32 × Sh × Me => s.2.1) (fun r : Sh × Me => r.1)) o) Z) (h : jL_law_1566 L xs T M x1 x2 x3 = some o) (hE : lpE (PL_law_18 X B Z Q b x1 x2) (EL_law_18 X B Z Q b x1 x2) o) : G X B 4 Z Q 1566 [(0, .ref (b)), (1, .ref (x1)), (2, .ref (x2)), (3, .int (x3))] [] T M := by
  unfold jL_law_1566 at h
  refine g_aload_n (pc := 1566) C dL_law_1566 rfl 1 rfl ?_
  refine g_aload_n (pc := 1567) C dL_law_1567 rfl 0 rfl ?_
  refine g_iload_n (pc := 1568) C dL_law_1568 rfl 3 rfl ?_
  refine g_iconst (pc := 1569) (v := 1) C dL_law_1569 (by decide) ?_
  refine g_iadd (pc := 1570) C dL_law_1570 ?_
  replace h := gv_some h; obtain ⟨hi508, h⟩ := h
  refine g_xld (pc := 1571) C hX hbl dL_law_1571 hi508 ?_
  replace h := gd_some h; obtain ⟨hk509, h⟩ := h
  replace h := bnd2 h; obtain ⟨r510, M511, h1, h⟩ := h
  refine g_callVi (pc := 1572) (As := [.int (xs (Int32.toNatClampNeg (x3 + (1 : Int32))))]) (st := []) C dL_law_1572 wX11_restore hk509 rfl (by decide) q_1211 q_1212 q_1210 (by omega) rfl (Nat.le_of_ble_eq_true rfl) (kX11_restore (d := 2) (Nat.le_refl _) h1) ?_
  refine g_aload_n (pc := 1575) C dL_law_1575 rfl 2 rfl ?_
  refine g_aload_n (pc := 1576) C dL_law_1576 rfl 0 rfl ?_
  refine g_iload_n (pc := 1577) C dL_law_1577 rfl 3 rfl ?_
  refine g_iconst (pc := 1578) (v := 1) C dL_law_1578 (by decide) ?_
  refine g_iadd (pc := 1579) C dL_law_1579 ?_
  replace h := gv_some h; obtain ⟨hi512, h⟩ := h
  refine g_xld (pc := 1580) C hX hbl dL_law_1580 hi512 ?_
  replace h := gd_some h; obtain ⟨hk513, h⟩ := h
  replace h := bnd2 h; obtain ⟨r514, M515, h1, h⟩ := h
  refine g_callVi (pc := 1581) (As := [.int (xs (Int32.toNatClampNeg (x3 + (1 : Int32))))]) (st := [.int (r510)]) C dL_law_1581 wX12_restore hk513 rfl (by decide) q_1878 q_1879 q_1877 (by omega) rfl (Nat.le_of_ble_eq_true rfl) (kX12_restore (d := 1) (Nat.le_refl _) h1) ?_
  refine g_icmp_eq (pc := 1584) (tgt := 1612) C dL_law_1584 (by decide) (fun c516 => ?_) (fun c516 => ?_)
  · replace h := ifp c516 h
    obtain ⟨v517, ev517⟩ : ∃ y : Int32, y = x3 + (6 : Int32) := ⟨_, rfl⟩
    replace h := lt_at ev517 h
    refine g_iinc (pc := 1612) (v := v517) (k := 3) (lo2 := [(3, .int (v517)), (0, .ref (b)), (1, .ref (x1)), (2, .ref (x2))]) C dL_law_1612 rfl (by rw [ev517]; rfl) (by decide) rfl ?_
    refine g_goto (pc := 1615) (tgt := 18) C dL_law_1615 (by decide) ?_
    obtain rfl := Option.some.inj h
    exact g_sub [1, 2, 3, 0] rfl (show G X B 4 Z Q 18 [(0, .ref (b)), (1, .ref (x1)), (2, .ref (x2)), (3, .int (v517))] [] T M515 from hE)
  · replace h := ifn c516 h
    cases h
theorem mjL_law_1589 {L : Nat} {xs : Nat → Int32} {T : Sh} {M : Me} {x1 : Nat} {x2 : Nat} {x3 : Int32} {o : (Int32 × Sh × Me) ⊕ ((Sh × Me))} (h : jL_law_1589 L xs T M x1 x2 x3 = some o) : leT T ((Sum.elim (fun s : Int32 × Sh × Me => s.2.1) (fun r : Sh × Me => r.1)) o) := by
  unfold jL_law_1589 at h
  replace h := gv_some h; obtain ⟨hi518, h⟩ := h
  replace h := gd_some h; obtain ⟨hk519, h⟩ := h
  replace h := bnd2 h; obtain ⟨r520, M521, h1, h⟩ := h
  replace h := gv_some h; obtain ⟨hi522, h⟩ := h
  replace h := gd_some h; obtain ⟨hk523, h⟩ := h
  replace h := bnd2 h; obtain ⟨r524, M525, h1, h⟩ := h
  by_cases c526 : r520 = r524
  · replace h := ifp c526 h
    obtain ⟨v527, ev527⟩ : ∃ y : Int32, y = x3 + (6 : Int32) := ⟨_, rfl⟩
    replace h := lt_at ev527 h
    obtain rfl := Option.some.inj h
    exact leT.rfl
  · replace h := ifn c526 h
    cases h
set_option maxHeartbeats 4000000 in
theorem tjL_law_1589 {X : Fx} {B : Bx} {Z : Nat × Nat × Nat × Nat} {Q : State → Prop} {d : Nat} {T : Sh} {M : Me} {x1 : Nat} {x2 : Nat} {x3 : Int32} {o : (Int32 × Sh × Me) ⊕ ((Sh × Me))} (C : Cx X B cL_law 4 RL d Z) (hd : 405 ≤ d) {L : Nat} {xs : Nat → Int32} {b : Nat} (hX : va_X b L xs X.2.2.2.2.1 X.2.2.2.2.1.heap) (hbl : Lw X B b) (hZ : leZ ((Sum.elim (fun s : Int32 × Sh × Me => s.2.1) (fun r : Sh × Me => r.1)) o) Z) (h : jL_law_1589 L xs T M x1 x2 x3 = some o) (hE : lpE (PL_law_18 X B Z Q b x1 x2) (EL_law_18 X B Z Q b x1 x2) o) : G X B 4 Z Q 1589 [(0, .ref (b)), (1, .ref (x1)), (2, .ref (x2)), (3, .int (x3))] [] T M := by
  unfold jL_law_1589 at h
  refine g_aload_n (pc := 1589) C dL_law_1589 rfl 1 rfl ?_
  refine g_aload_n (pc := 1590) C dL_law_1590 rfl 0 rfl ?_
  refine g_iload_n (pc := 1591) C dL_law_1591 rfl 3 rfl ?_
  refine g_iconst (pc := 1592) (v := 1) C dL_law_1592 (by decide) ?_
  refine g_iadd (pc := 1593) C dL_law_1593 ?_
  replace h := gv_some h; obtain ⟨hi518, h⟩ := h
  refine g_xld (pc := 1594) C hX hbl dL_law_1594 hi518 ?_
  replace h := gd_some h; obtain ⟨hk519, h⟩ := h
  replace h := bnd2 h; obtain ⟨r520, M521, h1, h⟩ := h
  refine g_callVi (pc := 1595) (As := [.int (xs (Int32.toNatClampNeg (x3 + (1 : Int32))))]) (st := []) C dL_law_1595 wX11_count hk519 rfl (by decide) q_1215 q_1216 q_1214 (by omega) rfl (Nat.le_of_ble_eq_true rfl) (kX11_count (d := 6) (Nat.le_refl _) h1) ?_
  refine g_aload_n (pc := 1598) C dL_law_1598 rfl 2 rfl ?_
  refine g_aload_n (pc := 1599) C dL_law_1599 rfl 0 rfl ?_
  refine g_iload_n (pc := 1600) C dL_law_1600 rfl 3 rfl ?_
  refine g_iconst (pc := 1601) (v := 1) C dL_law_1601 (by decide) ?_
  refine g_iadd (pc := 1602) C dL_law_1602 ?_
  replace h := gv_some h; obtain ⟨hi522, h⟩ := h
  refine g_xld (pc := 1603) C hX hbl dL_law_1603 hi522 ?_
  replace h := gd_some h; obtain ⟨hk523, h⟩ := h
  replace h := bnd2 h; obtain ⟨r524, M525, h1, h⟩ := h
  refine g_callVi (pc := 1604) (As := [.int (xs (Int32.toNatClampNeg (x3 + (1 : Int32))))]) (st := [.int (r520)]) C dL_law_1604 wX12_count hk523 rfl (by decide) q_1882 q_1883 q_1881 (by omega) rfl (Nat.le_of_ble_eq_true rfl) (kX12_count (d := 5) (Nat.le_refl _) h1) ?_
  refine g_icmp_eq (pc := 1607) (tgt := 1612) C dL_law_1607 (by decide) (fun c526 => ?_) (fun c526 => ?_)
  · replace h := ifp c526 h
    obtain ⟨v527, ev527⟩ : ∃ y : Int32, y = x3 + (6 : Int32) := ⟨_, rfl⟩
    replace h := lt_at ev527 h
    refine g_iinc (pc := 1612) (v := v527) (k := 3) (lo2 := [(3, .int (v527)), (0, .ref (b)), (1, .ref (x1)), (2, .ref (x2))]) C dL_law_1612 rfl (by rw [ev527]; rfl) (by decide) rfl ?_
    refine g_goto (pc := 1615) (tgt := 18) C dL_law_1615 (by decide) ?_
    obtain rfl := Option.some.inj h
    exact g_sub [1, 2, 3, 0] rfl (show G X B 4 Z Q 18 [(0, .ref (b)), (1, .ref (x1)), (2, .ref (x2)), (3, .int (v527))] [] T M525 from hE)
  · replace h := ifn c526 h
    cases h
theorem mbL_law_18 {L : Nat} {xs : Nat → Int32} {x1 : Nat} {x2 : Nat} : ∀ (s : Int32 × Sh × Me) (o : (Int32 × Sh × Me) ⊕ ((Sh × Me))), bL_law_18 L xs x1 x2 s.1 s.2.1 s.2.2 = some o → leT ((fun s : Int32 × Sh × Me => s.2.1) s) ((Sum.elim (fun s : Int32 × Sh × Me => s.2.1) (fun r : Sh × Me => r.1)) o) := by
  rintro ⟨x3, T, M⟩ o h
  replace h : bL_law_18 L xs x1 x2 x3 T M = some o := h
  unfold bL_law_18 at h
  by_cases c5 : ((nI L) - (6 : Int32)) < x3
  · replace h := ifp c5 h
    obtain rfl := Option.some.inj h
    exact leT.rfl
  · replace h := ifn c5 h
    replace h := gv_some h; obtain ⟨hi6, h⟩ := h
    obtain ⟨v7, ev7⟩ : ∃ y : Int32, y = (xs (Int32.toNatClampNeg x3)) &&& (63 : Int32) := ⟨_, rfl⟩
    replace h := lt_at ev7 h
    by_cases cw529_0 : v7 = (0 : Int32)
    · replace h := ifp cw529_0 h
      exact leT.rfl.trans (mjL_law_232 h)
    · replace h := ifn cw529_0 h
      by_cases cw529_1 : v7 = (1 : Int32)
      · replace h := ifp cw529_1 h
        exact leT.rfl.trans (mjL_law_295 h)
      · replace h := ifn cw529_1 h
        by_cases cw529_2 : v7 = (2 : Int32)
        · replace h := ifp cw529_2 h
          exact leT.rfl.trans (mjL_law_318 h)
        · replace h := ifn cw529_2 h
          by_cases cw529_3 : v7 = (3 : Int32)
          · replace h := ifp cw529_3 h
            exact leT.rfl.trans (mjL_law_341 h)
          · replace h := ifn cw529_3 h
            by_cases cw529_4 : v7 = (4 : Int32)
            · replace h := ifp cw529_4 h
              exact leT.rfl.trans (mjL_law_374 h)
            · replace h := ifn cw529_4 h
              by_cases cw529_5 : v7 = (5 : Int32)
              · replace h := ifp cw529_5 h
                exact leT.rfl.trans (mjL_law_397 h)
              · replace h := ifn cw529_5 h
                by_cases cw529_6 : v7 = (6 : Int32)
                · replace h := ifp cw529_6 h
                  exact leT.rfl.trans (mjL_law_420 h)
                · replace h := ifn cw529_6 h
                  by_cases cw529_7 : v7 = (7 : Int32)
                  · replace h := ifp cw529_7 h
                    exact leT.rfl.trans (mjL_law_453 h)
                  · replace h := ifn cw529_7 h
                    by_cases cw529_8 : v7 = (8 : Int32)
                    · replace h := ifp cw529_8 h
                      exact leT.rfl.trans (mjL_law_486 h)
                    · replace h := ifn cw529_8 h
                      by_cases cw529_9 : v7 = (9 : Int32)
                      · replace h := ifp cw529_9 h
                        exact leT.rfl.trans (mjL_law_509 h)
                      · replace h := ifn cw529_9 h
                        by_cases cw529_10 : v7 = (10 : Int32)
                        · replace h := ifp cw529_10 h
                          exact leT.rfl.trans (mjL_law_542 h)
                        · replace h := ifn cw529_10 h
                          by_cases cw529_11 : v7 = (11 : Int32)
                          · replace h := ifp cw529_11 h
                            exact leT.rfl.trans (mjL_law_575 h)
                          · replace h := ifn cw529_11 h
                            by_cases cw529_12 : v7 = (12 : Int32)
                            · replace h := ifp cw529_12 h
                              exact leT.rfl.trans (mjL_law_598 h)
                            · replace h := ifn cw529_12 h
                              by_cases cw529_13 : v7 = (13 : Int32)
                              · replace h := ifp cw529_13 h
                                exact leT.rfl.trans (mjL_law_621 h)
                              · replace h := ifn cw529_13 h
                                by_cases cw529_14 : v7 = (14 : Int32)
                                · replace h := ifp cw529_14 h
                                  exact leT.rfl.trans (mjL_law_644 h)
                                · replace h := ifn cw529_14 h
                                  by_cases cw529_15 : v7 = (15 : Int32)
                                  · replace h := ifp cw529_15 h
                                    exact leT.rfl.trans (mjL_law_667 h)
                                  · replace h := ifn cw529_15 h
                                    by_cases cw529_16 : v7 = (16 : Int32)
                                    · replace h := ifp cw529_16 h
                                      exact leT.rfl.trans (mjL_law_700 h)
                                    · replace h := ifn cw529_16 h
                                      by_cases cw529_17 : v7 = (17 : Int32)
                                      · replace h := ifp cw529_17 h
                                        exact leT.rfl.trans (mjL_law_723 h)
                                      · replace h := ifn cw529_17 h
                                        by_cases cw529_18 : v7 = (18 : Int32)
                                        · replace h := ifp cw529_18 h
                                          exact leT.rfl.trans (mjL_law_756 h)
                                        · replace h := ifn cw529_18 h
                                          by_cases cw529_19 : v7 = (19 : Int32)
                                          · replace h := ifp cw529_19 h
                                            exact leT.rfl.trans (mjL_law_779 h)
                                          · replace h := ifn cw529_19 h
                                            by_cases cw529_20 : v7 = (20 : Int32)
                                            · replace h := ifp cw529_20 h
                                              exact leT.rfl.trans (mjL_law_802 h)
                                            · replace h := ifn cw529_20 h
                                              by_cases cw529_21 : v7 = (21 : Int32)
                                              · replace h := ifp cw529_21 h
                                                exact leT.rfl.trans (mjL_law_825 h)
                                              · replace h := ifn cw529_21 h
                                                by_cases cw529_22 : v7 = (22 : Int32)
                                                · replace h := ifp cw529_22 h
                                                  exact leT.rfl.trans (mjL_law_858 h)
                                                · replace h := ifn cw529_22 h
                                                  by_cases cw529_23 : v7 = (23 : Int32)
                                                  · replace h := ifp cw529_23 h
                                                    exact leT.rfl.trans (mjL_law_891 h)
                                                  · replace h := ifn cw529_23 h
                                                    by_cases cw529_24 : v7 = (24 : Int32)
                                                    · replace h := ifp cw529_24 h
                                                      exact leT.rfl.trans (mjL_law_924 h)
                                                    · replace h := ifn cw529_24 h
                                                      by_cases cw529_25 : v7 = (25 : Int32)
                                                      · replace h := ifp cw529_25 h
                                                        exact leT.rfl.trans (mjL_law_947 h)
                                                      · replace h := ifn cw529_25 h
                                                        by_cases cw529_26 : v7 = (26 : Int32)
                                                        · replace h := ifp cw529_26 h
                                                          exact leT.rfl.trans (mjL_law_970 h)
                                                        · replace h := ifn cw529_26 h
                                                          by_cases cw529_27 : v7 = (27 : Int32)
                                                          · replace h := ifp cw529_27 h
                                                            exact leT.rfl.trans (mjL_law_993 h)
                                                          · replace h := ifn cw529_27 h
                                                            by_cases cw529_28 : v7 = (28 : Int32)
                                                            · replace h := ifp cw529_28 h
                                                              exact leT.rfl.trans (mjL_law_1016 h)
                                                            · replace h := ifn cw529_28 h
                                                              by_cases cw529_29 : v7 = (29 : Int32)
                                                              · replace h := ifp cw529_29 h
                                                                exact leT.rfl.trans (mjL_law_1049 h)
                                                              · replace h := ifn cw529_29 h
                                                                by_cases cw529_30 : v7 = (30 : Int32)
                                                                · replace h := ifp cw529_30 h
                                                                  exact leT.rfl.trans (mjL_law_1082 h)
                                                                · replace h := ifn cw529_30 h
                                                                  by_cases cw529_31 : v7 = (31 : Int32)
                                                                  · replace h := ifp cw529_31 h
                                                                    exact leT.rfl.trans (mjL_law_1105 h)
                                                                  · replace h := ifn cw529_31 h
                                                                    by_cases cw529_32 : v7 = (32 : Int32)
                                                                    · replace h := ifp cw529_32 h
                                                                      exact leT.rfl.trans (mjL_law_1128 h)
                                                                    · replace h := ifn cw529_32 h
                                                                      by_cases cw529_33 : v7 = (33 : Int32)
                                                                      · replace h := ifp cw529_33 h
                                                                        exact leT.rfl.trans (mjL_law_1161 h)
                                                                      · replace h := ifn cw529_33 h
                                                                        by_cases cw529_34 : v7 = (34 : Int32)
                                                                        · replace h := ifp cw529_34 h
                                                                          exact leT.rfl.trans (mjL_law_1184 h)
                                                                        · replace h := ifn cw529_34 h
                                                                          by_cases cw529_35 : v7 = (35 : Int32)
                                                                          · replace h := ifp cw529_35 h
                                                                            exact leT.rfl.trans (mjL_law_1217 h)
                                                                          · replace h := ifn cw529_35 h
                                                                            by_cases cw529_36 : v7 = (36 : Int32)
                                                                            · replace h := ifp cw529_36 h
                                                                              exact leT.rfl.trans (mjL_law_1251 h)
                                                                            · replace h := ifn cw529_36 h
                                                                              by_cases cw529_37 : v7 = (37 : Int32)
                                                                              · replace h := ifp cw529_37 h
                                                                                exact leT.rfl.trans (mjL_law_1284 h)
                                                                              · replace h := ifn cw529_37 h
                                                                                by_cases cw529_38 : v7 = (38 : Int32)
                                                                                · replace h := ifp cw529_38 h
                                                                                  exact leT.rfl.trans (mjL_law_1317 h)
                                                                                · replace h := ifn cw529_38 h
                                                                                  by_cases cw529_39 : v7 = (39 : Int32)
                                                                                  · replace h := ifp cw529_39 h
                                                                                    exact leT.rfl.trans (mjL_law_1360 h)
                                                                                  · replace h := ifn cw529_39 h
                                                                                    by_cases cw529_40 : v7 = (40 : Int32)
                                                                                    · replace h := ifp cw529_40 h
                                                                                      exact leT.rfl.trans (mjL_law_1393 h)
                                                                                    · replace h := ifn cw529_40 h
                                                                                      by_cases cw529_41 : v7 = (41 : Int32)
                                                                                      · replace h := ifp cw529_41 h
                                                                                        exact leT.rfl.trans (mjL_law_1436 h)
                                                                                      · replace h := ifn cw529_41 h
                                                                                        by_cases cw529_42 : v7 = (42 : Int32)
                                                                                        · replace h := ifp cw529_42 h
                                                                                          exact leT.rfl.trans (mjL_law_1510 h)
                                                                                        · replace h := ifn cw529_42 h
                                                                                          by_cases cw529_43 : v7 = (43 : Int32)
                                                                                          · replace h := ifp cw529_43 h
                                                                                            exact leT.rfl.trans (mjL_law_1543 h)
                                                                                          · replace h := ifn cw529_43 h
                                                                                            by_cases cw529_44 : v7 = (44 : Int32)
                                                                                            · replace h := ifp cw529_44 h
                                                                                              exact leT.rfl.trans (mjL_law_1566 h)
                                                                                            · replace h := ifn cw529_44 h
                                                                                              by_cases cw529_45 : v7 = (45 : Int32)
                                                                                              · replace h := ifp cw529_45 h
                                                                                                exact leT.rfl.trans (mjL_law_1589 h)
                                                                                              · replace h := ifn cw529_45 h
                                                                                                obtain ⟨v528, ev528⟩ : ∃ y : Int32, y = x3 + (6 : Int32) := ⟨_, rfl⟩
                                                                                                replace h := lt_at ev528 h
                                                                                                obtain rfl := Option.some.inj h
                                                                                                exact leT.rfl
set_option maxHeartbeats 4000000 in
theorem tbL_law_18 {X : Fx} {B : Bx} {Z : Nat × Nat × Nat × Nat} {Q : State → Prop} {d : Nat} (C : Cx X B cL_law 4 RL d Z) (hd : 405 ≤ d) {L : Nat} {xs : Nat → Int32} {b : Nat} (hX : va_X b L xs X.2.2.2.2.1 X.2.2.2.2.1.heap) (hbl : Lw X B b) {x1 : Nat} {x2 : Nat} : ∀ (s : Int32 × Sh × Me) (o : (Int32 × Sh × Me) ⊕ ((Sh × Me))), bL_law_18 L xs x1 x2 s.1 s.2.1 s.2.2 = some o → leZ ((Sum.elim (fun s : Int32 × Sh × Me => s.2.1) (fun r : Sh × Me => r.1)) o) Z → lpE (PL_law_18 X B Z Q b x1 x2) (EL_law_18 X B Z Q b x1 x2) o → PL_law_18 X B Z Q b x1 x2 s := by
  rintro ⟨x3, T, M⟩ o h hZ hE
  replace h : bL_law_18 L xs x1 x2 x3 T M = some o := h
  unfold bL_law_18 at h
  show G X B 4 Z Q 18 [(0, .ref (b)), (1, .ref (x1)), (2, .ref (x2)), (3, .int (x3))] [] T M
  refine g_iload_n (pc := 18) C dL_law_18 rfl 3 rfl ?_
  refine g_aload_n (pc := 19) C dL_law_19 rfl 0 rfl ?_
  refine g_xlen (pc := 20) C hX hbl dL_law_20 ?_
  refine g_bipush (pc := 21) (v := 6) C dL_law_21 (by decide) ?_
  refine g_isub (pc := 23) C dL_law_23 ?_
  refine g_icmp_gt (pc := 24) (tgt := 1618) C dL_law_24 (by decide) (fun c5 => ?_) (fun c5 => ?_)
  · replace h := ifp c5 h
    obtain rfl := Option.some.inj h
    exact g_sub [] rfl (show G X B 4 Z Q 1618 [] [] T M from hE)
  · replace h := ifn c5 h
    refine g_aload_n (pc := 27) C dL_law_27 rfl 0 rfl ?_
    refine g_iload_n (pc := 28) C dL_law_28 rfl 3 rfl ?_
    replace h := gv_some h; obtain ⟨hi6, h⟩ := h
    refine g_xld (pc := 29) C hX hbl dL_law_29 hi6 ?_
    refine g_bipush (pc := 30) (v := 63) C dL_law_30 (by decide) ?_
    refine g_iand (pc := 32) C dL_law_32 ?_
    refine g_topi (fun v7 ev7 => ?_)
    replace h := lt_at ev7 h
    by_cases cw529_0 : v7 = (0 : Int32)
    · replace h := ifp cw529_0 h
      have hq : v7.toInt = 0 := by rw [cw529_0]; rfl
      refine g_tswIn (off := 199) (tgt := 232) C dL_law_33 (by rw [hq]; decide) (by rw [hq]; decide) (by rw [hq]; rfl) (by decide) ?_
      exact g_sub [0, 1, 2, 3] rfl (tjL_law_232 C hd hX hbl hZ h hE)
    · replace h := ifn cw529_0 h
      by_cases cw529_1 : v7 = (1 : Int32)
      · replace h := ifp cw529_1 h
        have hq : v7.toInt = 1 := by rw [cw529_1]; rfl
        refine g_tswIn (off := 262) (tgt := 295) C dL_law_33 (by rw [hq]; decide) (by rw [hq]; decide) (by rw [hq]; rfl) (by decide) ?_
        exact g_sub [0, 1, 2, 3] rfl (tjL_law_295 C hd hX hbl hZ h hE)
      · replace h := ifn cw529_1 h
        by_cases cw529_2 : v7 = (2 : Int32)
        · replace h := ifp cw529_2 h
          have hq : v7.toInt = 2 := by rw [cw529_2]; rfl
          refine g_tswIn (off := 285) (tgt := 318) C dL_law_33 (by rw [hq]; decide) (by rw [hq]; decide) (by rw [hq]; rfl) (by decide) ?_
          exact g_sub [0, 1, 2, 3] rfl (tjL_law_318 C hd hX hbl hZ h hE)
        · replace h := ifn cw529_2 h
          by_cases cw529_3 : v7 = (3 : Int32)
          · replace h := ifp cw529_3 h
            have hq : v7.toInt = 3 := by rw [cw529_3]; rfl
            refine g_tswIn (off := 308) (tgt := 341) C dL_law_33 (by rw [hq]; decide) (by rw [hq]; decide) (by rw [hq]; rfl) (by decide) ?_
            exact g_sub [0, 1, 2, 3] rfl (tjL_law_341 C hd hX hbl hZ h hE)
          · replace h := ifn cw529_3 h
            by_cases cw529_4 : v7 = (4 : Int32)
            · replace h := ifp cw529_4 h
              have hq : v7.toInt = 4 := by rw [cw529_4]; rfl
              refine g_tswIn (off := 341) (tgt := 374) C dL_law_33 (by rw [hq]; decide) (by rw [hq]; decide) (by rw [hq]; rfl) (by decide) ?_
              exact g_sub [0, 1, 2, 3] rfl (tjL_law_374 C hd hX hbl hZ h hE)
            · replace h := ifn cw529_4 h
              by_cases cw529_5 : v7 = (5 : Int32)
              · replace h := ifp cw529_5 h
                have hq : v7.toInt = 5 := by rw [cw529_5]; rfl
                refine g_tswIn (off := 364) (tgt := 397) C dL_law_33 (by rw [hq]; decide) (by rw [hq]; decide) (by rw [hq]; rfl) (by decide) ?_
                exact g_sub [0, 1, 2, 3] rfl (tjL_law_397 C hd hX hbl hZ h hE)
              · replace h := ifn cw529_5 h
                by_cases cw529_6 : v7 = (6 : Int32)
                · replace h := ifp cw529_6 h
                  have hq : v7.toInt = 6 := by rw [cw529_6]; rfl
                  refine g_tswIn (off := 387) (tgt := 420) C dL_law_33 (by rw [hq]; decide) (by rw [hq]; decide) (by rw [hq]; rfl) (by decide) ?_
                  exact g_sub [0, 1, 2, 3] rfl (tjL_law_420 C hd hX hbl hZ h hE)
                · replace h := ifn cw529_6 h
                  by_cases cw529_7 : v7 = (7 : Int32)
                  · replace h := ifp cw529_7 h
                    have hq : v7.toInt = 7 := by rw [cw529_7]; rfl
                    refine g_tswIn (off := 420) (tgt := 453) C dL_law_33 (by rw [hq]; decide) (by rw [hq]; decide) (by rw [hq]; rfl) (by decide) ?_
                    exact g_sub [0, 1, 2, 3] rfl (tjL_law_453 C hd hX hbl hZ h hE)
                  · replace h := ifn cw529_7 h
                    by_cases cw529_8 : v7 = (8 : Int32)
                    · replace h := ifp cw529_8 h
                      have hq : v7.toInt = 8 := by rw [cw529_8]; rfl
                      refine g_tswIn (off := 453) (tgt := 486) C dL_law_33 (by rw [hq]; decide) (by rw [hq]; decide) (by rw [hq]; rfl) (by decide) ?_
                      exact g_sub [0, 1, 2, 3] rfl (tjL_law_486 C hd hX hbl hZ h hE)
                    · replace h := ifn cw529_8 h
                      by_cases cw529_9 : v7 = (9 : Int32)
                      · replace h := ifp cw529_9 h
                        have hq : v7.toInt = 9 := by rw [cw529_9]; rfl
                        refine g_tswIn (off := 476) (tgt := 509) C dL_law_33 (by rw [hq]; decide) (by rw [hq]; decide) (by rw [hq]; rfl) (by decide) ?_
                        exact g_sub [0, 1, 2, 3] rfl (tjL_law_509 C hd hX hbl hZ h hE)
                      · replace h := ifn cw529_9 h
                        by_cases cw529_10 : v7 = (10 : Int32)
                        · replace h := ifp cw529_10 h
                          have hq : v7.toInt = 10 := by rw [cw529_10]; rfl
                          refine g_tswIn (off := 509) (tgt := 542) C dL_law_33 (by rw [hq]; decide) (by rw [hq]; decide) (by rw [hq]; rfl) (by decide) ?_
                          exact g_sub [0, 1, 2, 3] rfl (tjL_law_542 C hd hX hbl hZ h hE)
                        · replace h := ifn cw529_10 h
                          by_cases cw529_11 : v7 = (11 : Int32)
                          · replace h := ifp cw529_11 h
                            have hq : v7.toInt = 11 := by rw [cw529_11]; rfl
                            refine g_tswIn (off := 542) (tgt := 575) C dL_law_33 (by rw [hq]; decide) (by rw [hq]; decide) (by rw [hq]; rfl) (by decide) ?_
                            exact g_sub [0, 1, 2, 3] rfl (tjL_law_575 C hd hX hbl hZ h hE)
                          · replace h := ifn cw529_11 h
                            by_cases cw529_12 : v7 = (12 : Int32)
                            · replace h := ifp cw529_12 h
                              have hq : v7.toInt = 12 := by rw [cw529_12]; rfl
                              refine g_tswIn (off := 565) (tgt := 598) C dL_law_33 (by rw [hq]; decide) (by rw [hq]; decide) (by rw [hq]; rfl) (by decide) ?_
                              exact g_sub [0, 1, 2, 3] rfl (tjL_law_598 C hd hX hbl hZ h hE)
                            · replace h := ifn cw529_12 h
                              by_cases cw529_13 : v7 = (13 : Int32)
                              · replace h := ifp cw529_13 h
                                have hq : v7.toInt = 13 := by rw [cw529_13]; rfl
                                refine g_tswIn (off := 588) (tgt := 621) C dL_law_33 (by rw [hq]; decide) (by rw [hq]; decide) (by rw [hq]; rfl) (by decide) ?_
                                exact g_sub [0, 1, 2, 3] rfl (tjL_law_621 C hd hX hbl hZ h hE)
                              · replace h := ifn cw529_13 h
                                by_cases cw529_14 : v7 = (14 : Int32)
                                · replace h := ifp cw529_14 h
                                  have hq : v7.toInt = 14 := by rw [cw529_14]; rfl
                                  refine g_tswIn (off := 611) (tgt := 644) C dL_law_33 (by rw [hq]; decide) (by rw [hq]; decide) (by rw [hq]; rfl) (by decide) ?_
                                  exact g_sub [0, 1, 2, 3] rfl (tjL_law_644 C hd hX hbl hZ h hE)
                                · replace h := ifn cw529_14 h
                                  by_cases cw529_15 : v7 = (15 : Int32)
                                  · replace h := ifp cw529_15 h
                                    have hq : v7.toInt = 15 := by rw [cw529_15]; rfl
                                    refine g_tswIn (off := 634) (tgt := 667) C dL_law_33 (by rw [hq]; decide) (by rw [hq]; decide) (by rw [hq]; rfl) (by decide) ?_
                                    exact g_sub [0, 1, 2, 3] rfl (tjL_law_667 C hd hX hbl hZ h hE)
                                  · replace h := ifn cw529_15 h
                                    by_cases cw529_16 : v7 = (16 : Int32)
                                    · replace h := ifp cw529_16 h
                                      have hq : v7.toInt = 16 := by rw [cw529_16]; rfl
                                      refine g_tswIn (off := 667) (tgt := 700) C dL_law_33 (by rw [hq]; decide) (by rw [hq]; decide) (by rw [hq]; rfl) (by decide) ?_
                                      exact g_sub [0, 1, 2, 3] rfl (tjL_law_700 C hd hX hbl hZ h hE)
                                    · replace h := ifn cw529_16 h
                                      by_cases cw529_17 : v7 = (17 : Int32)
                                      · replace h := ifp cw529_17 h
                                        have hq : v7.toInt = 17 := by rw [cw529_17]; rfl
                                        refine g_tswIn (off := 690) (tgt := 723) C dL_law_33 (by rw [hq]; decide) (by rw [hq]; decide) (by rw [hq]; rfl) (by decide) ?_
                                        exact g_sub [0, 1, 2, 3] rfl (tjL_law_723 C hd hX hbl hZ h hE)
                                      · replace h := ifn cw529_17 h
                                        by_cases cw529_18 : v7 = (18 : Int32)
                                        · replace h := ifp cw529_18 h
                                          have hq : v7.toInt = 18 := by rw [cw529_18]; rfl
                                          refine g_tswIn (off := 723) (tgt := 756) C dL_law_33 (by rw [hq]; decide) (by rw [hq]; decide) (by rw [hq]; rfl) (by decide) ?_
                                          exact g_sub [0, 1, 2, 3] rfl (tjL_law_756 C hd hX hbl hZ h hE)
                                        · replace h := ifn cw529_18 h
                                          by_cases cw529_19 : v7 = (19 : Int32)
                                          · replace h := ifp cw529_19 h
                                            have hq : v7.toInt = 19 := by rw [cw529_19]; rfl
                                            refine g_tswIn (off := 746) (tgt := 779) C dL_law_33 (by rw [hq]; decide) (by rw [hq]; decide) (by rw [hq]; rfl) (by decide) ?_
                                            exact g_sub [0, 1, 2, 3] rfl (tjL_law_779 C hd hX hbl hZ h hE)
                                          · replace h := ifn cw529_19 h
                                            by_cases cw529_20 : v7 = (20 : Int32)
                                            · replace h := ifp cw529_20 h
                                              have hq : v7.toInt = 20 := by rw [cw529_20]; rfl
                                              refine g_tswIn (off := 769) (tgt := 802) C dL_law_33 (by rw [hq]; decide) (by rw [hq]; decide) (by rw [hq]; rfl) (by decide) ?_
                                              exact g_sub [0, 1, 2, 3] rfl (tjL_law_802 C hd hX hbl hZ h hE)
                                            · replace h := ifn cw529_20 h
                                              by_cases cw529_21 : v7 = (21 : Int32)
                                              · replace h := ifp cw529_21 h
                                                have hq : v7.toInt = 21 := by rw [cw529_21]; rfl
                                                refine g_tswIn (off := 792) (tgt := 825) C dL_law_33 (by rw [hq]; decide) (by rw [hq]; decide) (by rw [hq]; rfl) (by decide) ?_
                                                exact g_sub [0, 1, 2, 3] rfl (tjL_law_825 C hd hX hbl hZ h hE)
                                              · replace h := ifn cw529_21 h
                                                by_cases cw529_22 : v7 = (22 : Int32)
                                                · replace h := ifp cw529_22 h
                                                  have hq : v7.toInt = 22 := by rw [cw529_22]; rfl
                                                  refine g_tswIn (off := 825) (tgt := 858) C dL_law_33 (by rw [hq]; decide) (by rw [hq]; decide) (by rw [hq]; rfl) (by decide) ?_
                                                  exact g_sub [0, 1, 2, 3] rfl (tjL_law_858 C hd hX hbl hZ h hE)
                                                · replace h := ifn cw529_22 h
                                                  by_cases cw529_23 : v7 = (23 : Int32)
                                                  · replace h := ifp cw529_23 h
                                                    have hq : v7.toInt = 23 := by rw [cw529_23]; rfl
                                                    refine g_tswIn (off := 858) (tgt := 891) C dL_law_33 (by rw [hq]; decide) (by rw [hq]; decide) (by rw [hq]; rfl) (by decide) ?_
                                                    exact g_sub [0, 1, 2, 3] rfl (tjL_law_891 C hd hX hbl hZ h hE)
                                                  · replace h := ifn cw529_23 h
                                                    by_cases cw529_24 : v7 = (24 : Int32)
                                                    · replace h := ifp cw529_24 h
                                                      have hq : v7.toInt = 24 := by rw [cw529_24]; rfl
                                                      refine g_tswIn (off := 891) (tgt := 924) C dL_law_33 (by rw [hq]; decide) (by rw [hq]; decide) (by rw [hq]; rfl) (by decide) ?_
                                                      exact g_sub [0, 1, 2, 3] rfl (tjL_law_924 C hd hX hbl hZ h hE)
                                                    · replace h := ifn cw529_24 h
                                                      by_cases cw529_25 : v7 = (25 : Int32)
                                                      · replace h := ifp cw529_25 h
                                                        have hq : v7.toInt = 25 := by rw [cw529_25]; rfl
                                                        refine g_tswIn (off := 914) (tgt := 947) C dL_law_33 (by rw [hq]; decide) (by rw [hq]; decide) (by rw [hq]; rfl) (by decide) ?_
                                                        exact g_sub [0, 1, 2, 3] rfl (tjL_law_947 C hd hX hbl hZ h hE)
                                                      · replace h := ifn cw529_25 h
                                                        by_cases cw529_26 : v7 = (26 : Int32)
                                                        · replace h := ifp cw529_26 h
                                                          have hq : v7.toInt = 26 := by rw [cw529_26]; rfl
                                                          refine g_tswIn (off := 937) (tgt := 970) C dL_law_33 (by rw [hq]; decide) (by rw [hq]; decide) (by rw [hq]; rfl) (by decide) ?_
                                                          exact g_sub [0, 1, 2, 3] rfl (tjL_law_970 C hd hX hbl hZ h hE)
                                                        · replace h := ifn cw529_26 h
                                                          by_cases cw529_27 : v7 = (27 : Int32)
                                                          · replace h := ifp cw529_27 h
                                                            have hq : v7.toInt = 27 := by rw [cw529_27]; rfl
                                                            refine g_tswIn (off := 960) (tgt := 993) C dL_law_33 (by rw [hq]; decide) (by rw [hq]; decide) (by rw [hq]; rfl) (by decide) ?_
                                                            exact g_sub [0, 1, 2, 3] rfl (tjL_law_993 C hd hX hbl hZ h hE)
                                                          · replace h := ifn cw529_27 h
                                                            by_cases cw529_28 : v7 = (28 : Int32)
                                                            · replace h := ifp cw529_28 h
                                                              have hq : v7.toInt = 28 := by rw [cw529_28]; rfl
                                                              refine g_tswIn (off := 983) (tgt := 1016) C dL_law_33 (by rw [hq]; decide) (by rw [hq]; decide) (by rw [hq]; rfl) (by decide) ?_
                                                              exact g_sub [0, 1, 2, 3] rfl (tjL_law_1016 C hd hX hbl hZ h hE)
                                                            · replace h := ifn cw529_28 h
                                                              by_cases cw529_29 : v7 = (29 : Int32)
                                                              · replace h := ifp cw529_29 h
                                                                have hq : v7.toInt = 29 := by rw [cw529_29]; rfl
                                                                refine g_tswIn (off := 1016) (tgt := 1049) C dL_law_33 (by rw [hq]; decide) (by rw [hq]; decide) (by rw [hq]; rfl) (by decide) ?_
                                                                exact g_sub [0, 1, 2, 3] rfl (tjL_law_1049 C hd hX hbl hZ h hE)
                                                              · replace h := ifn cw529_29 h
                                                                by_cases cw529_30 : v7 = (30 : Int32)
                                                                · replace h := ifp cw529_30 h
                                                                  have hq : v7.toInt = 30 := by rw [cw529_30]; rfl
                                                                  refine g_tswIn (off := 1049) (tgt := 1082) C dL_law_33 (by rw [hq]; decide) (by rw [hq]; decide) (by rw [hq]; rfl) (by decide) ?_
                                                                  exact g_sub [0, 1, 2, 3] rfl (tjL_law_1082 C hd hX hbl hZ h hE)
                                                                · replace h := ifn cw529_30 h
                                                                  by_cases cw529_31 : v7 = (31 : Int32)
                                                                  · replace h := ifp cw529_31 h
                                                                    have hq : v7.toInt = 31 := by rw [cw529_31]; rfl
                                                                    refine g_tswIn (off := 1072) (tgt := 1105) C dL_law_33 (by rw [hq]; decide) (by rw [hq]; decide) (by rw [hq]; rfl) (by decide) ?_
                                                                    exact g_sub [0, 1, 2, 3] rfl (tjL_law_1105 C hd hX hbl hZ h hE)
                                                                  · replace h := ifn cw529_31 h
                                                                    by_cases cw529_32 : v7 = (32 : Int32)
                                                                    · replace h := ifp cw529_32 h
                                                                      have hq : v7.toInt = 32 := by rw [cw529_32]; rfl
                                                                      refine g_tswIn (off := 1095) (tgt := 1128) C dL_law_33 (by rw [hq]; decide) (by rw [hq]; decide) (by rw [hq]; rfl) (by decide) ?_
                                                                      exact g_sub [0, 1, 2, 3] rfl (tjL_law_1128 C hd hX hbl hZ h hE)
                                                                    · replace h := ifn cw529_32 h
                                                                      by_cases cw529_33 : v7 = (33 : Int32)
                                                                      · replace h := ifp cw529_33 h
                                                                        have hq : v7.toInt = 33 := by rw [cw529_33]; rfl
                                                                        refine g_tswIn (off := 1128) (tgt := 1161) C dL_law_33 (by rw [hq]; decide) (by rw [hq]; decide) (by rw [hq]; rfl) (by decide) ?_
                                                                        exact g_sub [0, 1, 2, 3] rfl (tjL_law_1161 C hd hX hbl hZ h hE)
                                                                      · replace h := ifn cw529_33 h
                                                                        by_cases cw529_34 : v7 = (34 : Int32)
                                                                        · replace h := ifp cw529_34 h
                                                                          have hq : v7.toInt = 34 := by rw [cw529_34]; rfl
                                                                          refine g_tswIn (off := 1151) (tgt := 1184) C dL_law_33 (by rw [hq]; decide) (by rw [hq]; decide) (by rw [hq]; rfl) (by decide) ?_
                                                                          exact g_sub [0, 1, 2, 3] rfl (tjL_law_1184 C hd hX hbl hZ h hE)
                                                                        · replace h := ifn cw529_34 h
                                                                          by_cases cw529_35 : v7 = (35 : Int32)
                                                                          · replace h := ifp cw529_35 h
                                                                            have hq : v7.toInt = 35 := by rw [cw529_35]; rfl
                                                                            refine g_tswIn (off := 1184) (tgt := 1217) C dL_law_33 (by rw [hq]; decide) (by rw [hq]; decide) (by rw [hq]; rfl) (by decide) ?_
                                                                            exact g_sub [0, 1, 2, 3] rfl (tjL_law_1217 C hd hX hbl hZ h hE)
                                                                          · replace h := ifn cw529_35 h
                                                                            by_cases cw529_36 : v7 = (36 : Int32)
                                                                            · replace h := ifp cw529_36 h
                                                                              have hq : v7.toInt = 36 := by rw [cw529_36]; rfl
                                                                              refine g_tswIn (off := 1218) (tgt := 1251) C dL_law_33 (by rw [hq]; decide) (by rw [hq]; decide) (by rw [hq]; rfl) (by decide) ?_
                                                                              exact g_sub [0, 1, 2, 3] rfl (tjL_law_1251 C hd hX hbl hZ h hE)
                                                                            · replace h := ifn cw529_36 h
                                                                              by_cases cw529_37 : v7 = (37 : Int32)
                                                                              · replace h := ifp cw529_37 h
                                                                                have hq : v7.toInt = 37 := by rw [cw529_37]; rfl
                                                                                refine g_tswIn (off := 1251) (tgt := 1284) C dL_law_33 (by rw [hq]; decide) (by rw [hq]; decide) (by rw [hq]; rfl) (by decide) ?_
                                                                                exact g_sub [0, 1, 2, 3] rfl (tjL_law_1284 C hd hX hbl hZ h hE)
                                                                              · replace h := ifn cw529_37 h
                                                                                by_cases cw529_38 : v7 = (38 : Int32)
                                                                                · replace h := ifp cw529_38 h
                                                                                  have hq : v7.toInt = 38 := by rw [cw529_38]; rfl
                                                                                  refine g_tswIn (off := 1284) (tgt := 1317) C dL_law_33 (by rw [hq]; decide) (by rw [hq]; decide) (by rw [hq]; rfl) (by decide) ?_
                                                                                  exact g_sub [0, 1, 2, 3] rfl (tjL_law_1317 C hd hX hbl hZ h hE)
                                                                                · replace h := ifn cw529_38 h
                                                                                  by_cases cw529_39 : v7 = (39 : Int32)
                                                                                  · replace h := ifp cw529_39 h
                                                                                    have hq : v7.toInt = 39 := by rw [cw529_39]; rfl
                                                                                    refine g_tswIn (off := 1327) (tgt := 1360) C dL_law_33 (by rw [hq]; decide) (by rw [hq]; decide) (by rw [hq]; rfl) (by decide) ?_
                                                                                    exact g_sub [0, 1, 2, 3] rfl (tjL_law_1360 C hd hX hbl hZ h hE)
                                                                                  · replace h := ifn cw529_39 h
                                                                                    by_cases cw529_40 : v7 = (40 : Int32)
                                                                                    · replace h := ifp cw529_40 h
                                                                                      have hq : v7.toInt = 40 := by rw [cw529_40]; rfl
                                                                                      refine g_tswIn (off := 1360) (tgt := 1393) C dL_law_33 (by rw [hq]; decide) (by rw [hq]; decide) (by rw [hq]; rfl) (by decide) ?_
                                                                                      exact g_sub [0, 1, 2, 3] rfl (tjL_law_1393 C hd hX hbl hZ h hE)
                                                                                    · replace h := ifn cw529_40 h
                                                                                      by_cases cw529_41 : v7 = (41 : Int32)
                                                                                      · replace h := ifp cw529_41 h
                                                                                        have hq : v7.toInt = 41 := by rw [cw529_41]; rfl
                                                                                        refine g_tswIn (off := 1403) (tgt := 1436) C dL_law_33 (by rw [hq]; decide) (by rw [hq]; decide) (by rw [hq]; rfl) (by decide) ?_
                                                                                        exact g_sub [0, 1, 2, 3] rfl (tjL_law_1436 C hd hX hbl hZ h hE)
                                                                                      · replace h := ifn cw529_41 h
                                                                                        by_cases cw529_42 : v7 = (42 : Int32)
                                                                                        · replace h := ifp cw529_42 h
                                                                                          have hq : v7.toInt = 42 := by rw [cw529_42]; rfl
                                                                                          refine g_tswIn (off := 1477) (tgt := 1510) C dL_law_33 (by rw [hq]; decide) (by rw [hq]; decide) (by rw [hq]; rfl) (by decide) ?_
                                                                                          exact g_sub [0, 1, 2, 3] rfl (tjL_law_1510 C hd hX hbl hZ h hE)
                                                                                        · replace h := ifn cw529_42 h
                                                                                          by_cases cw529_43 : v7 = (43 : Int32)
                                                                                          · replace h := ifp cw529_43 h
                                                                                            have hq : v7.toInt = 43 := by rw [cw529_43]; rfl
                                                                                            refine g_tswIn (off := 1510) (tgt := 1543) C dL_law_33 (by rw [hq]; decide) (by rw [hq]; decide) (by rw [hq]; rfl) (by decide) ?_
                                                                                            exact g_sub [0, 1, 2, 3] rfl (tjL_law_1543 C hd hX hbl hZ h hE)
                                                                                          · replace h := ifn cw529_43 h
                                                                                            by_cases cw529_44 : v7 = (44 : Int32)
                                                                                            · replace h := ifp cw529_44 h
                                                                                              have hq : v7.toInt = 44 := by rw [cw529_44]; rfl
                                                                                              refine g_tswIn (off := 1533) (tgt := 1566) C dL_law_33 (by rw [hq]; decide) (by rw [hq]; decide) (by rw [hq]; rfl) (by decide) ?_
                                                                                              exact g_sub [0, 1, 2, 3] rfl (tjL_law_1566 C hd hX hbl hZ h hE)
                                                                                            · replace h := ifn cw529_44 h
                                                                                              by_cases cw529_45 : v7 = (45 : Int32)
                                                                                              · replace h := ifp cw529_45 h
                                                                                                have hq : v7.toInt = 45 := by rw [cw529_45]; rfl
                                                                                                refine g_tswIn (off := 1556) (tgt := 1589) C dL_law_33 (by rw [hq]; decide) (by rw [hq]; decide) (by rw [hq]; rfl) (by decide) ?_
                                                                                                exact g_sub [0, 1, 2, 3] rfl (tjL_law_1589 C hd hX hbl hZ h hE)
                                                                                              · replace h := ifn cw529_45 h
                                                                                                refine g_tswOut (tgt := 1612) C dL_law_33 (by
                                                                                                    have := sw_ne cw529_0 (i := 0) rfl
                                                                                                    have := sw_ne cw529_1 (i := 1) rfl
                                                                                                    have := sw_ne cw529_2 (i := 2) rfl
                                                                                                    have := sw_ne cw529_3 (i := 3) rfl
                                                                                                    have := sw_ne cw529_4 (i := 4) rfl
                                                                                                    have := sw_ne cw529_5 (i := 5) rfl
                                                                                                    have := sw_ne cw529_6 (i := 6) rfl
                                                                                                    have := sw_ne cw529_7 (i := 7) rfl
                                                                                                    have := sw_ne cw529_8 (i := 8) rfl
                                                                                                    have := sw_ne cw529_9 (i := 9) rfl
                                                                                                    have := sw_ne cw529_10 (i := 10) rfl
                                                                                                    have := sw_ne cw529_11 (i := 11) rfl
                                                                                                    have := sw_ne cw529_12 (i := 12) rfl
                                                                                                    have := sw_ne cw529_13 (i := 13) rfl
                                                                                                    have := sw_ne cw529_14 (i := 14) rfl
                                                                                                    have := sw_ne cw529_15 (i := 15) rfl
                                                                                                    have := sw_ne cw529_16 (i := 16) rfl
                                                                                                    have := sw_ne cw529_17 (i := 17) rfl
                                                                                                    have := sw_ne cw529_18 (i := 18) rfl
                                                                                                    have := sw_ne cw529_19 (i := 19) rfl
                                                                                                    have := sw_ne cw529_20 (i := 20) rfl
                                                                                                    have := sw_ne cw529_21 (i := 21) rfl
                                                                                                    have := sw_ne cw529_22 (i := 22) rfl
                                                                                                    have := sw_ne cw529_23 (i := 23) rfl
                                                                                                    have := sw_ne cw529_24 (i := 24) rfl
                                                                                                    have := sw_ne cw529_25 (i := 25) rfl
                                                                                                    have := sw_ne cw529_26 (i := 26) rfl
                                                                                                    have := sw_ne cw529_27 (i := 27) rfl
                                                                                                    have := sw_ne cw529_28 (i := 28) rfl
                                                                                                    have := sw_ne cw529_29 (i := 29) rfl
                                                                                                    have := sw_ne cw529_30 (i := 30) rfl
                                                                                                    have := sw_ne cw529_31 (i := 31) rfl
                                                                                                    have := sw_ne cw529_32 (i := 32) rfl
                                                                                                    have := sw_ne cw529_33 (i := 33) rfl
                                                                                                    have := sw_ne cw529_34 (i := 34) rfl
                                                                                                    have := sw_ne cw529_35 (i := 35) rfl
                                                                                                    have := sw_ne cw529_36 (i := 36) rfl
                                                                                                    have := sw_ne cw529_37 (i := 37) rfl
                                                                                                    have := sw_ne cw529_38 (i := 38) rfl
                                                                                                    have := sw_ne cw529_39 (i := 39) rfl
                                                                                                    have := sw_ne cw529_40 (i := 40) rfl
                                                                                                    have := sw_ne cw529_41 (i := 41) rfl
                                                                                                    have := sw_ne cw529_42 (i := 42) rfl
                                                                                                    have := sw_ne cw529_43 (i := 43) rfl
                                                                                                    have := sw_ne cw529_44 (i := 44) rfl
                                                                                                    have := sw_ne cw529_45 (i := 45) rfl
                                                                                                    omega) (by decide) ?_
                                                                                                obtain ⟨v528, ev528⟩ : ∃ y : Int32, y = x3 + (6 : Int32) := ⟨_, rfl⟩
                                                                                                replace h := lt_at ev528 h
                                                                                                refine g_iinc (pc := 1612) (v := v528) (k := 3) (lo2 := [(3, .int (v528)), (0, .ref (b)), (1, .ref (x1)), (2, .ref (x2))]) C dL_law_1612 rfl (by rw [ev528]; rfl) (by decide) rfl ?_
                                                                                                refine g_goto (pc := 1615) (tgt := 18) C dL_law_1615 (by decide) ?_
                                                                                                obtain rfl := Option.some.inj h
                                                                                                exact g_sub [1, 2, 3, 0] rfl (show G X B 4 Z Q 18 [(0, .ref (b)), (1, .ref (x1)), (2, .ref (x2)), (3, .int (v528))] [] T M from hE)
def jL_law_1618 (L : Nat) (xs : Nat → Int32) (T : Sh) (M : Me) : Option (Int32 × Sh × Me) :=
  some ((1 : Int32), T, M)
theorem mjL_law_1618 {L : Nat} {xs : Nat → Int32} {T : Sh} {M : Me} {r : Int32} {T' : Sh} {M' : Me} (h : jL_law_1618 L xs T M  = some (r, T', M')) : leT T T' := by
  unfold jL_law_1618 at h
  replace h := Prod.mk.inj (Option.some.inj h); obtain ⟨rfl, h⟩ := h; replace h := Prod.mk.inj h; obtain ⟨rfl, rfl⟩ := h
  exact leT.rfl
set_option maxHeartbeats 4000000 in
theorem tjL_law_1618 {X : Fx} {B : Bx} {Z : Nat × Nat × Nat × Nat} {d : Nat} {T : Sh} {M : Me} {r : Int32} {T' : Sh} {M' : Me} (C : Cx X B cL_law 4 RL d Z) (hR : Rx X (some .boolean)) (hd : 405 ≤ d) {L : Nat} {xs : Nat → Int32} {b : Nat} (hX : va_X b L xs X.2.2.2.2.1 X.2.2.2.2.1.heap) (hbl : Lw X B b) (hZ : leZ T' Z) (h : jL_law_1618 L xs T M  = some (r, T', M')) : G X B 4 Z (QL X b) 1618 [] [] T M := by
  unfold jL_law_1618 at h
  refine g_iconst (pc := 1618) (v := 1) C dL_law_1618 (by decide) ?_
  replace h := Prod.mk.inj (Option.some.inj h); obtain ⟨rfl, h⟩ := h; replace h := Prod.mk.inj h; obtain ⟨rfl, rfl⟩ := h
  exact g_lawret C hbl dL_law_1619
def jL_law_15 (L : Nat) (xs : Nat → Int32) (T : Sh) (M : Me) (x1 : Nat) (s0 : Nat) : Option (Int32 × Sh × Me) :=
  (lp FU (fun s => bL_law_18 L xs x1 s0 s.1 s.2.1 s.2.2) ((0 : Int32), T, M)).bind (un2 fun T530 M531 => jL_law_1618 L xs T530 M531)
theorem mjL_law_15 {L : Nat} {xs : Nat → Int32} {T : Sh} {M : Me} {x1 : Nat} {s0 : Nat} {r : Int32} {T' : Sh} {M' : Me} (h : jL_law_15 L xs T M x1 s0 = some (r, T', M')) : leT T T' := by
  unfold jL_law_15 at h
  replace h := bnd2 h; obtain ⟨T530, M531, h1, h⟩ := h
  have hml := lp_mono (mbL_law_18) h1
  exact (leT.rfl.trans hml).trans (mjL_law_1618 h)
set_option maxHeartbeats 4000000 in
theorem tjL_law_15 {X : Fx} {B : Bx} {Z : Nat × Nat × Nat × Nat} {d : Nat} {T : Sh} {M : Me} {x1 : Nat} {s0 : Nat} {r : Int32} {T' : Sh} {M' : Me} (C : Cx X B cL_law 4 RL d Z) (hR : Rx X (some .boolean)) (hd : 405 ≤ d) {L : Nat} {xs : Nat → Int32} {b : Nat} (hX : va_X b L xs X.2.2.2.2.1 X.2.2.2.2.1.heap) (hbl : Lw X B b) (hZ : leZ T' Z) (h : jL_law_15 L xs T M x1 s0 = some (r, T', M')) : G X B 4 Z (QL X b) 15 [(0, .ref (b)), (1, .ref (x1))] [.ref (s0)] T M := by
  unfold jL_law_15 at h
  refine g_astore_n (pc := 15) (lo2 := [(2, .ref (s0)), (0, .ref (b)), (1, .ref (x1))]) C dL_law_15 rfl (by decide) rfl ?_
  refine g_iconst (pc := 16) (v := 0) C dL_law_16 (by decide) ?_
  refine g_istore_n (pc := 17) (lo2 := [(3, .int ((0 : Int32))), (2, .ref (s0)), (0, .ref (b)), (1, .ref (x1))]) C dL_law_17 rfl (by decide) rfl ?_
  replace h := bnd2 h; obtain ⟨T530, M531, h1, h⟩ := h
  refine g_sub [2, 3, 1, 0] rfl ?_
  refine lp_G3 (P := PL_law_18 X B _ _ b x1 s0) (E := EL_law_18 X B _ _ b x1 s0) (mbL_law_18) (tbL_law_18 C hd hX hbl) h1 ((mjL_law_1618 h).Z hZ) ?_
  show G X B 4 _ _ 1618 [] [] T530 M531
  exact g_sub [] rfl (tjL_law_1618 C hR hd hX hbl hZ h)
def jL_law_11 (L : Nat) (xs : Nat → Int32) (T : Sh) (M : Me) (x1 : Nat) (s0 : Nat) : Option (Int32 × Sh × Me) :=
  Option.bind (fX12_init T M s0) <| un3 fun _u T4 M3 => jL_law_15 L xs T4 M3 x1 s0
theorem mjL_law_11 {L : Nat} {xs : Nat → Int32} {T : Sh} {M : Me} {x1 : Nat} {s0 : Nat} {r : Int32} {T' : Sh} {M' : Me} (h : jL_law_11 L xs T M x1 s0 = some (r, T', M')) : leT T T' := by
  unfold jL_law_11 at h
  replace h := bnd3 h; obtain ⟨_u, T4, M3, h1, h⟩ := h
  have hmT4 := mX12_init h1
  exact (leT.rfl.trans hmT4).trans (mjL_law_15 h)
set_option maxHeartbeats 4000000 in
theorem tjL_law_11 {X : Fx} {B : Bx} {Z : Nat × Nat × Nat × Nat} {d : Nat} {T : Sh} {M : Me} {x1 : Nat} {s0 : Nat} {r : Int32} {T' : Sh} {M' : Me} (C : Cx X B cL_law 4 RL d Z) (hR : Rx X (some .boolean)) (hd : 405 ≤ d) {L : Nat} {xs : Nat → Int32} {b : Nat} (hX : va_X b L xs X.2.2.2.2.1 X.2.2.2.2.1.heap) (hbl : Lw X B b) (hZ : leZ T' Z) (h : jL_law_11 L xs T M x1 s0 = some (r, T', M')) : G X B 4 Z (QL X b) 11 [(0, .ref (b)), (1, .ref (x1))] [.ref (s0)] T M := by
  unfold jL_law_11 at h
  refine g_dup (pc := 11) C dL_law_11 rfl ?_
  replace h := bnd3 h; obtain ⟨_u, T4, M3, h1, h⟩ := h
  have hzT4 := (mjL_law_15 h).Z hZ
  refine g_callIvA (pc := 12) (As := []) (st := [.ref (s0)]) C dL_law_12 wX12_init q_1221 rfl rfl q_1220 (by omega) rfl (Nat.le_of_ble_eq_true rfl) (kX12_init (d := 1) (Nat.le_refl _) h1) hzT4 ?_
  exact g_sub [0, 1] rfl (tjL_law_15 C hR hd hX hbl hZ h)
def jL_law_7 (L : Nat) (xs : Nat → Int32) (T : Sh) (M : Me) (s0 : Nat) : Option (Int32 × Sh × Me) :=
  jL_law_11 L xs (nT T 11 0 43) (nM T M) s0 (tp T)
theorem mjL_law_7 {L : Nat} {xs : Nat → Int32} {T : Sh} {M : Me} {s0 : Nat} {r : Int32} {T' : Sh} {M' : Me} (h : jL_law_7 L xs T M s0 = some (r, T', M')) : leT T T' := by
  unfold jL_law_7 at h
  exact (leT.rfl.trans (leT.new _ _ _ _)).trans (mjL_law_11 h)
set_option maxHeartbeats 4000000 in
theorem tjL_law_7 {X : Fx} {B : Bx} {Z : Nat × Nat × Nat × Nat} {d : Nat} {T : Sh} {M : Me} {s0 : Nat} {r : Int32} {T' : Sh} {M' : Me} (C : Cx X B cL_law 4 RL d Z) (hR : Rx X (some .boolean)) (hd : 405 ≤ d) {L : Nat} {xs : Nat → Int32} {b : Nat} (hX : va_X b L xs X.2.2.2.2.1 X.2.2.2.2.1.heap) (hbl : Lw X B b) (hZ : leZ T' Z) (h : jL_law_7 L xs T M s0 = some (r, T', M')) : G X B 4 Z (QL X b) 7 [(0, .ref (b))] [.ref (s0)] T M := by
  unfold jL_law_7 at h
  refine g_astore_n (pc := 7) (lo2 := [(1, .ref (s0)), (0, .ref (b))]) C dL_law_7 rfl (by decide) rfl ?_
  have hz := leZ_new ((mjL_law_11 h).Z hZ)
  refine g_new (pc := 8) C dL_law_8 kX12 hdvX12 q_1218 q_1219 q_130 hz.1 hz.2 ?_
  exact g_sub [1, 0] rfl (tjL_law_11 C hR hd hX hbl hZ h)
def jL_law_3 (L : Nat) (xs : Nat → Int32) (T : Sh) (M : Me) (s0 : Nat) : Option (Int32 × Sh × Me) :=
  Option.bind (fX11_init T M s0) <| un3 fun _u T2 M1 => jL_law_7 L xs T2 M1 s0
theorem mjL_law_3 {L : Nat} {xs : Nat → Int32} {T : Sh} {M : Me} {s0 : Nat} {r : Int32} {T' : Sh} {M' : Me} (h : jL_law_3 L xs T M s0 = some (r, T', M')) : leT T T' := by
  unfold jL_law_3 at h
  replace h := bnd3 h; obtain ⟨_u, T2, M1, h1, h⟩ := h
  have hmT2 := mX11_init h1
  exact (leT.rfl.trans hmT2).trans (mjL_law_7 h)
set_option maxHeartbeats 4000000 in
theorem tjL_law_3 {X : Fx} {B : Bx} {Z : Nat × Nat × Nat × Nat} {d : Nat} {T : Sh} {M : Me} {s0 : Nat} {r : Int32} {T' : Sh} {M' : Me} (C : Cx X B cL_law 4 RL d Z) (hR : Rx X (some .boolean)) (hd : 405 ≤ d) {L : Nat} {xs : Nat → Int32} {b : Nat} (hX : va_X b L xs X.2.2.2.2.1 X.2.2.2.2.1.heap) (hbl : Lw X B b) (hZ : leZ T' Z) (h : jL_law_3 L xs T M s0 = some (r, T', M')) : G X B 4 Z (QL X b) 3 [(0, .ref (b))] [.ref (s0)] T M := by
  unfold jL_law_3 at h
  refine g_dup (pc := 3) C dL_law_3 rfl ?_
  replace h := bnd3 h; obtain ⟨_u, T2, M1, h1, h⟩ := h
  have hzT2 := (mjL_law_7 h).Z hZ
  refine g_callIvA (pc := 4) (As := []) (st := [.ref (s0)]) C dL_law_4 wX11_init q_145 rfl rfl q_144 (by omega) rfl (Nat.le_of_ble_eq_true rfl) (kX11_init (d := 3) (Nat.le_refl _) h1) hzT2 ?_
  exact g_sub [0] rfl (tjL_law_7 C hR hd hX hbl hZ h)
/-- the law -/
def fL_law (L : Nat) (xs : Nat → Int32) (T : Sh) (M : Me) : Option (Int32 × Sh × Me) :=
  jL_law_3 L xs (nT T 10 0 14) (nM T M) (tp T)
set_option maxHeartbeats 4000000 in
theorem tL_law {X : Fx} {B : Bx} {Z : Nat × Nat × Nat × Nat} {d : Nat} {T : Sh} {M : Me} {r : Int32} {T' : Sh} {M' : Me} (C : Cx X B cL_law 4 RL d Z) (hR : Rx X (some .boolean)) (hd : 405 ≤ d) {L : Nat} {xs : Nat → Int32} {b : Nat} (hX : va_X b L xs X.2.2.2.2.1 X.2.2.2.2.1.heap) (hbl : Lw X B b) (hZ : leZ T' Z) (h : fL_law L xs T M = some (r, T', M')) : G X B 4 Z (QL X b) 0 [(0, .ref b)] [] T M := by
  unfold fL_law at h
  have hz := leZ_new ((mjL_law_3 h).Z hZ)
  refine g_new (pc := 0) C dL_law_0 kX11 hdvX11 q_142 q_143 q_120 hz.1 hz.2 ?_
  exact g_sub [0] rfl (tjL_law_3 C hR hd hX hbl hZ h)
