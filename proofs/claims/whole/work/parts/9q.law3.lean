/-! THE LAW: its 29 calls -/
theorem ca_0 : caB false 164 3 13 17 = true := by decide +kernel
set_option maxRecDepth 100000 in
theorem ma_0 : okM R_law 13 100 cdX9_shape 4 2 9 [(0, 263), (0, 58), (0, 264), (0, 265)] = true := by decide +kernel
set_option maxRecDepth 100000 in
theorem mb_0 : okM R_law 17 100 cdX10_shape 4 2 10 [(0, 891), (0, 66), (0, 892), (0, 893)] = true := by decide +kernel
theorem ca_1 : caB false 207 2 18 22 = true := by decide +kernel
set_option maxRecDepth 100000 in
theorem ma_1 : okM R_law 18 100 cdX9_turn 3 2 9 [(0, 327), (0, 58), (0, 328), (0, 329)] = true := by decide +kernel
set_option maxRecDepth 100000 in
theorem mb_1 : okM R_law 22 100 cdX10_turn 3 2 10 [(0, 912), (0, 66), (0, 913), (0, 914)] = true := by decide +kernel
theorem ca_2 : caB false 240 2 23 26 = true := by decide +kernel
set_option maxRecDepth 100000 in
theorem ma_2 : okM R_law 23 100 cdX9_about 3 2 9 [(0, 349), (0, 58), (0, 350), (0, 351)] = true := by decide +kernel
set_option maxRecDepth 100000 in
theorem mb_2 : okM R_law 26 100 cdX10_about 3 2 10 [(0, 927), (0, 66), (0, 928), (0, 929)] = true := by decide +kernel
theorem ca_3 : caB false 273 3 27 30 = true := by decide +kernel
set_option maxRecDepth 100000 in
theorem ma_3 : okM R_law 27 100 cdX9_has 4 2 9 [(0, 379), (0, 58), (0, 380), (0, 381)] = true := by decide +kernel
set_option maxRecDepth 100000 in
theorem mb_3 : okM R_law 30 100 cdX10_has 4 2 10 [(0, 950), (0, 66), (0, 951), (0, 952)] = true := by decide +kernel
theorem ca_4 : caB false 316 2 31 34 = true := by decide +kernel
set_option maxRecDepth 100000 in
theorem ma_4 : okM R_law 31 100 cdX9_rule 3 2 9 [(0, 387), (0, 58), (0, 388), (0, 389)] = true := by decide +kernel
set_option maxRecDepth 100000 in
theorem mb_4 : okM R_law 34 100 cdX10_rule 3 2 10 [(0, 954), (0, 66), (0, 955), (0, 956)] = true := by decide +kernel
theorem ca_5 : caB false 349 2 35 38 = true := by decide +kernel
set_option maxRecDepth 100000 in
theorem ma_5 : okM R_law 35 100 cdX9_alone 3 2 9 [(0, 407), (0, 58), (0, 408), (0, 409)] = true := by decide +kernel
set_option maxRecDepth 100000 in
theorem mb_5 : okM R_law 38 100 cdX10_alone 3 2 10 [(0, 958), (0, 66), (0, 959), (0, 960)] = true := by decide +kernel
theorem ca_6 : caB false 382 6 39 43 = true := by decide +kernel
set_option maxRecDepth 100000 in
theorem ma_6 : okM R_law 39 100 cdX9_pair 7 2 9 [(0, 431), (0, 58), (0, 432), (0, 433)] = true := by decide +kernel
set_option maxRecDepth 100000 in
theorem mb_6 : okM R_law 43 100 cdX10_pair 7 2 10 [(0, 991), (0, 66), (0, 992), (0, 993)] = true := by decide +kernel
theorem ca_7 : caB false 457 3 44 47 = true := by decide +kernel
set_option maxRecDepth 100000 in
theorem ma_7 : okM R_law 44 100 cdX9_best 4 2 9 [(0, 459), (0, 58), (0, 460), (0, 461)] = true := by decide +kernel
set_option maxRecDepth 100000 in
theorem mb_7 : okM R_law 47 100 cdX10_best 4 2 10 [(0, 999), (0, 66), (0, 1000), (0, 1001)] = true := by decide +kernel
theorem ca_8 : caB false 500 5 48 52 = true := by decide +kernel
set_option maxRecDepth 100000 in
theorem ma_8 : okM R_law 48 100 cdX9_punch 6 2 9 [(0, 479), (0, 58), (0, 480), (0, 481)] = true := by decide +kernel
set_option maxRecDepth 100000 in
theorem mb_8 : okM R_law 52 100 cdX10_punch 6 2 10 [(0, 1008), (0, 66), (0, 1009), (0, 1010)] = true := by decide +kernel
theorem ca_9 : caB false 563 2 53 56 = true := by decide +kernel
set_option maxRecDepth 100000 in
theorem ma_9 : okM R_law 53 100 cdX9_ahead 3 2 9 [(0, 513), (0, 58), (0, 514), (0, 515)] = true := by decide +kernel
set_option maxRecDepth 100000 in
theorem mb_9 : okM R_law 56 100 cdX10_ahead 3 2 10 [(0, 1012), (0, 66), (0, 1013), (0, 1014)] = true := by decide +kernel
theorem ca_10 : caB false 596 2 57 60 = true := by decide +kernel
set_option maxRecDepth 100000 in
theorem ma_10 : okM R_law 57 100 cdX9_free 3 2 9 [(0, 533), (0, 58), (0, 534), (0, 535)] = true := by decide +kernel
set_option maxRecDepth 100000 in
theorem mb_10 : okM R_law 60 100 cdX10_free 3 2 10 [(0, 1024), (0, 66), (0, 1025), (0, 1026)] = true := by decide +kernel
theorem ca_11 : caB false 629 2 61 64 = true := by decide +kernel
set_option maxRecDepth 100000 in
theorem ma_11 : okM R_law 61 100 cdX9_must 3 2 9 [(0, 537), (0, 58), (0, 538), (0, 539)] = true := by decide +kernel
set_option maxRecDepth 100000 in
theorem mb_11 : okM R_law 64 100 cdX10_must 3 2 10 [(0, 1028), (0, 66), (0, 1029), (0, 1030)] = true := by decide +kernel
theorem ca_12 : caB false 662 2 65 68 = true := by decide +kernel
set_option maxRecDepth 100000 in
theorem ma_12 : okM R_law 65 100 cdX9_together 3 2 9 [(0, 541), (0, 58), (0, 542), (0, 543)] = true := by decide +kernel
set_option maxRecDepth 100000 in
theorem mb_12 : okM R_law 68 100 cdX10_together 3 2 10 [(0, 1032), (0, 66), (0, 1033), (0, 1034)] = true := by decide +kernel
theorem ca_13 : caB false 695 0 69 73 = true := by decide +kernel
set_option maxRecDepth 100000 in
theorem ma_13 : okM R_law 69 100 cdX9_stations 1 2 9 [(0, 560), (0, 58), (0, 561), (0, 562)] = true := by decide +kernel
set_option maxRecDepth 100000 in
theorem mb_13 : okM R_law 73 100 cdX10_stations 1 2 10 [(0, 1044), (0, 66), (0, 1045), (0, 1046)] = true := by decide +kernel
theorem ca_14 : caB false 708 1 74 78 = true := by decide +kernel
set_option maxRecDepth 100000 in
theorem ma_14 : okM R_law 74 100 cdX9_station 2 2 9 [(0, 600), (0, 58), (0, 601), (0, 602)] = true := by decide +kernel
set_option maxRecDepth 100000 in
theorem mb_14 : okM R_law 78 100 cdX10_station 2 2 10 [(0, 1072), (0, 66), (0, 1073), (0, 1074)] = true := by decide +kernel
theorem ca_15 : caB true 731 2 79 83 = true := by decide +kernel
set_option maxRecDepth 100000 in
theorem ma_15 : okM R_law 79 100 cdX9_force 3 2 9 [(0, 608), (0, 58), (0, 609), (0, 610)] = true := by decide +kernel
set_option maxRecDepth 100000 in
theorem mb_15 : okM R_law 83 100 cdX10_force 3 2 10 [(0, 1076), (0, 66), (0, 1077), (0, 1078)] = true := by decide +kernel
theorem ca_16 : caB false 765 2 84 87 = true := by decide +kernel
set_option maxRecDepth 100000 in
theorem ma_16 : okM R_law 84 100 cdX9_peak 3 2 9 [(0, 627), (0, 58), (0, 628), (0, 629)] = true := by decide +kernel
set_option maxRecDepth 100000 in
theorem mb_16 : okM R_law 87 100 cdX10_peak 3 2 10 [(0, 1085), (0, 66), (0, 1086), (0, 1087)] = true := by decide +kernel
theorem ca_17 : caB false 798 2 88 91 = true := by decide +kernel
set_option maxRecDepth 100000 in
theorem ma_17 : okM R_law 88 100 cdX9_punched 3 2 9 [(0, 655), (0, 58), (0, 656), (0, 657)] = true := by decide +kernel
set_option maxRecDepth 100000 in
theorem mb_17 : okM R_law 91 100 cdX10_punched 3 2 10 [(0, 1089), (0, 66), (0, 1090), (0, 1091)] = true := by decide +kernel
theorem ca_18 : caB false 831 5 92 95 = true := by decide +kernel
set_option maxRecDepth 100000 in
theorem ma_18 : okM R_law 92 100 cdX9_slit 6 2 9 [(0, 659), (0, 58), (0, 660), (0, 661)] = true := by decide +kernel
set_option maxRecDepth 100000 in
theorem mb_18 : okM R_law 95 100 cdX10_slit 6 2 10 [(0, 1093), (0, 66), (0, 1094), (0, 1095)] = true := by decide +kernel
theorem ca_19 : caB false 894 3 96 99 = true := by decide +kernel
set_option maxRecDepth 100000 in
theorem ma_19 : okM R_law 96 100 cdX9_sheet 4 2 9 [(0, 683), (0, 58), (0, 684), (0, 685)] = true := by decide +kernel
set_option maxRecDepth 100000 in
theorem mb_19 : okM R_law 99 100 cdX10_sheet 4 2 10 [(0, 1107), (0, 66), (0, 1108), (0, 1109)] = true := by decide +kernel
theorem ca_20 : caB false 937 1 100 103 = true := by decide +kernel
set_option maxRecDepth 100000 in
theorem ma_20 : okM R_law 100 100 cdX9_lose 2 2 9 [(0, 691), (0, 58), (0, 692), (0, 693)] = true := by decide +kernel
set_option maxRecDepth 100000 in
theorem mb_20 : okM R_law 103 100 cdX10_lose 2 2 10 [(0, 1111), (0, 66), (0, 1112), (0, 1113)] = true := by decide +kernel
theorem ca_21 : caB false 960 3 104 107 = true := by decide +kernel
set_option maxRecDepth 100000 in
theorem ma_21 : okM R_law 104 100 cdX9_put 4 2 9 [(0, 700), (0, 58), (0, 701), (0, 702)] = true := by decide +kernel
set_option maxRecDepth 100000 in
theorem mb_21 : okM R_law 107 100 cdX10_put 4 2 10 [(0, 1115), (0, 66), (0, 1116), (0, 1117)] = true := by decide +kernel
theorem ca_22 : caB true 1003 3 108 112 = true := by decide +kernel
set_option maxRecDepth 100000 in
theorem ma_22 : okM R_law 108 100 cdX9_at 4 2 9 [(0, 708), (0, 58), (0, 709), (0, 710)] = true := by decide +kernel
set_option maxRecDepth 100000 in
theorem mb_22 : okM R_law 112 100 cdX10_at 4 2 10 [(0, 1119), (0, 66), (0, 1120), (0, 1121)] = true := by decide +kernel
theorem ca_23 : caB false 1047 1 113 116 = true := by decide +kernel
set_option maxRecDepth 100000 in
theorem ma_23 : okM R_law 113 100 cdX9_tell 2 2 9 [(0, 712), (0, 58), (0, 713), (0, 714)] = true := by decide +kernel
set_option maxRecDepth 100000 in
theorem mb_23 : okM R_law 116 100 cdX10_tell 2 2 10 [(0, 1127), (0, 66), (0, 1128), (0, 1129)] = true := by decide +kernel
theorem ca_24 : caB false 1070 1 117 120 = true := by decide +kernel
set_option maxRecDepth 100000 in
theorem ma_24 : okM R_law 117 100 cdX9_keep 2 2 9 [(0, 732), (0, 58), (0, 733), (0, 734)] = true := by decide +kernel
set_option maxRecDepth 100000 in
theorem mb_24 : okM R_law 120 100 cdX10_keep 2 2 10 [(0, 1135), (0, 66), (0, 1136), (0, 1137)] = true := by decide +kernel
theorem ca_25 : caB false 1093 2 121 124 = true := by decide +kernel
set_option maxRecDepth 100000 in
theorem ma_25 : okM R_law 121 100 cdX9_as 3 2 9 [(0, 744), (0, 58), (0, 745), (0, 746)] = true := by decide +kernel
set_option maxRecDepth 100000 in
theorem mb_25 : okM R_law 124 100 cdX10_as 3 2 10 [(0, 1139), (0, 66), (0, 1140), (0, 1141)] = true := by decide +kernel
theorem ca_26 : caB false 1126 0 125 128 = true := by decide +kernel
set_option maxRecDepth 100000 in
theorem ma_26 : okM R_law 125 100 cdX9_trace 1 2 9 [(0, 748), (0, 58), (0, 749), (0, 750)] = true := by decide +kernel
set_option maxRecDepth 100000 in
theorem mb_26 : okM R_law 128 100 cdX10_trace 1 2 10 [(0, 1143), (0, 66), (0, 1144), (0, 1145)] = true := by decide +kernel
theorem ca_27 : caB false 1139 0 129 132 = true := by decide +kernel
set_option maxRecDepth 100000 in
theorem ma_27 : okM R_law 129 100 cdX9_fault 1 2 9 [(0, 752), (0, 58), (0, 753), (0, 754)] = true := by decide +kernel
set_option maxRecDepth 100000 in
theorem mb_27 : okM R_law 132 100 cdX10_fault 1 2 10 [(0, 1147), (0, 66), (0, 1148), (0, 1149)] = true := by decide +kernel
theorem ca_28 : caB false 1152 1 133 136 = true := by decide +kernel
set_option maxRecDepth 100000 in
theorem ma_28 : okM R_law 133 100 cdX9_told 2 2 9 [(0, 756), (0, 58), (0, 757), (0, 758)] = true := by decide +kernel
set_option maxRecDepth 100000 in
theorem mb_28 : okM R_law 136 100 cdX10_told_ 2 2 10 [(0, 1151), (0, 66), (0, 1152), (0, 1153)] = true := by decide +kernel
