set_option maxRecDepth 100000 in
theorem pc_0 : lw_tbl[84]? = some (pm_cw 0) := rfl
set_option maxRecDepth 100000 in
theorem pc_1 : lw_tbl[293]? = some (pm_cw 1) := rfl
set_option maxRecDepth 100000 in
theorem pc_2 : lw_tbl[276]? = some (pm_cw 2) := rfl
set_option maxRecDepth 100000 in
theorem pc_3 : lw_tbl[280]? = some (pm_cw 3) := rfl
set_option maxRecDepth 100000 in
theorem pc_4 : lw_tbl[272]? = some (pm_cw 4) := rfl
set_option maxRecDepth 100000 in
theorem pc_5 : lw_tbl[284]? = some (pm_cw 5) := rfl
set_option maxRecDepth 100000 in
theorem pc_6 : lw_tbl[289]? = some (pm_cw 6) := rfl
set_option maxRecDepth 100000 in
theorem pc_7 : lw_tbl[301]? = some (pm_cw 7) := rfl
set_option maxRecDepth 100000 in
theorem pc_8 : lw_tbl[122]? = some (pm_cw 8) := rfl
set_option maxRecDepth 100000 in
theorem pc_9 : lw_tbl[172]? = some (pm_cw 9) := rfl
set_option maxRecDepth 100000 in
theorem pc_10 : lw_tbl[347]? = some (pm_cw 10) := rfl
set_option maxRecDepth 100000 in
theorem pc_11 : lw_tbl[351]? = some (pm_cw 11) := rfl
set_option maxRecDepth 100000 in
theorem pc_12 : lw_tbl[384]? = some (pm_cw 12) := rfl
set_option maxRecDepth 100000 in
theorem pc_13 : lw_tbl[406]? = some (pm_cw 13) := rfl
set_option maxRecDepth 100000 in
theorem pc_14 : lw_tbl[380]? = some (pm_cw 14) := rfl
set_option maxRecDepth 100000 in
theorem pc_15 : lw_tbl[388]? = some (pm_cw 15) := rfl
set_option maxRecDepth 100000 in
theorem pc_16 : lw_tbl[450]? = some (pm_cw 16) := rfl
set_option maxRecDepth 100000 in
theorem pc_17 : lw_tbl[446]? = some (pm_cw 17) := rfl
set_option maxRecDepth 100000 in
theorem pc_18 : lw_tbl[442]? = some (pm_cw 18) := rfl
set_option maxRecDepth 100000 in
theorem pc_19 : lw_tbl[454]? = some (pm_cw 19) := rfl
set_option maxRecDepth 100000 in
theorem pc_20 : lw_tbl[108]? = some (pm_cw 20) := rfl
set_option maxRecDepth 100000 in
theorem pc_21 : lw_tbl[499]? = some (pm_cw 21) := rfl
set_option maxRecDepth 100000 in
theorem pc_22 : lw_tbl[397]? = some (pm_cw 22) := rfl
set_option maxRecDepth 100000 in
theorem pc_23 : lw_tbl[414]? = some (pm_cw 23) := rfl
set_option maxRecDepth 100000 in
theorem pc_24 : lw_tbl[431]? = some (pm_cw 24) := rfl
set_option maxRecDepth 100000 in
theorem pc_25 : lw_tbl[316]? = some (pm_cw 25) := rfl
set_option maxRecDepth 100000 in
theorem pc_26 : lw_tbl[319]? = some (pm_cw 26) := rfl
set_option maxRecDepth 100000 in
theorem pc_27 : lw_tbl[100]? = some (pm_cw 27) := rfl
set_option maxRecDepth 100000 in
theorem pc_28 : lw_tbl[495]? = some (pm_cw 28) := rfl
set_option maxRecDepth 100000 in
theorem pc_29 : lw_tbl[267]? = some (pm_cw 29) := rfl
set_option maxRecDepth 100000 in
theorem pc_30 : lw_tbl[263]? = some (pm_cw 30) := rfl
set_option maxRecDepth 100000 in
theorem pc_31 : lw_tbl[259]? = some (pm_cw 31) := rfl
set_option maxRecDepth 100000 in
theorem pc_32 : lw_tbl[306]? = some (pm_cw 32) := rfl
set_option maxRecDepth 100000 in
theorem pc_33 : lw_tbl[332]? = some (pm_cw 33) := rfl
set_option maxRecDepth 100000 in
theorem pc_34 : lw_tbl[312]? = some (pm_cw 34) := rfl
set_option maxRecDepth 100000 in
theorem pc_35 : lw_tbl[427]? = some (pm_cw 35) := rfl
set_option maxRecDepth 100000 in
theorem pc_36 : lw_tbl[392]? = some (pm_cw 36) := rfl
set_option maxRecDepth 100000 in
theorem pc_37 : lw_tbl[208]? = some (pm_cw 37) := rfl
set_option maxRecDepth 100000 in
theorem pc_38 : lw_tbl[516]? = some (pm_cw 38) := rfl
set_option maxRecDepth 100000 in
theorem pc_39 : lw_tbl[508]? = some (pm_cw 39) := rfl
set_option maxRecDepth 100000 in
theorem pc_40 : lw_tbl[525]? = some (pm_cw 40) := rfl
set_option maxRecDepth 100000 in
theorem pc_41 : lw_tbl[533]? = some (pm_cw 41) := rfl
set_option maxRecDepth 100000 in
theorem pc_42 : lw_tbl[541]? = some (pm_cw 42) := rfl
set_option maxRecDepth 100000 in
theorem pc_43 : lw_tbl[554]? = some (pm_cw 43) := rfl
set_option maxRecDepth 100000 in
theorem pc_44 : lw_tbl[571]? = some (pm_cw 44) := rfl
set_option maxRecDepth 100000 in
theorem pc_45 : lw_tbl[643]? = some (pm_cw 45) := rfl
set_option maxRecDepth 100000 in
theorem pc_46 : lw_tbl[667]? = some (pm_cw 46) := rfl
set_option maxRecDepth 100000 in
theorem pc_47 : lw_tbl[694]? = some (pm_cw 47) := rfl
set_option maxRecDepth 100000 in
theorem pc_48 : lw_tbl[700]? = some (pm_cw 48) := rfl
set_option maxRecDepth 100000 in
theorem pc_49 : lw_tbl[710]? = some (pm_cw 49) := rfl
set_option maxRecDepth 100000 in
theorem pc_50 : lw_tbl[720]? = some (pm_cw 50) := rfl
set_option maxRecDepth 100000 in
theorem pc_51 : lw_tbl[726]? = some (pm_cw 51) := rfl
set_option maxRecDepth 100000 in
theorem pc_52 : lw_tbl[732]? = some (pm_cw 52) := rfl
set_option maxRecDepth 100000 in
theorem pc_53 : lw_tbl[740]? = some (pm_cw 53) := rfl
set_option maxRecDepth 100000 in
theorem pc_54 : lw_tbl[746]? = some (pm_cw 54) := rfl
set_option maxRecDepth 100000 in
theorem pc_55 : lw_tbl[647]? = some (pm_cw 55) := rfl
set_option maxRecDepth 100000 in
theorem pc_56 : lw_tbl[688]? = some (pm_cw 56) := rfl
set_option maxRecDepth 100000 in
theorem pc_57 : lw_tbl[674]? = some (pm_cw 57) := rfl
set_option maxRecDepth 100000 in
theorem pc_58 : lw_tbl[683]? = some (pm_cw 58) := rfl
set_option maxRecDepth 100000 in
theorem pc_59 : lw_tbl[78]? = some (pm_cw 59) := rfl
set_option maxRecDepth 100000 in
theorem pc_60 : lw_tbl[491]? = some (pm_cw 60) := rfl
set_option maxRecDepth 100000 in
theorem pc_61 : lw_tbl[368]? = some (pm_cw 61) := rfl
set_option maxRecDepth 100000 in
theorem pc_62 : lw_tbl[340]? = some (pm_cw 62) := rfl
set_option maxRecDepth 100000 in
theorem pc_63 : lw_tbl[360]? = some (pm_cw 63) := rfl
set_option maxRecDepth 100000 in
theorem pc_64 : lw_tbl[252]? = some (pm_cw 64) := rfl
set_option maxRecDepth 100000 in
theorem pc_65 : lw_tbl[327]? = some (pm_cw 65) := rfl
set_option maxRecDepth 100000 in
theorem pc_66 : lw_tbl[376]? = some (pm_cw 66) := rfl
set_option maxRecDepth 100000 in
theorem pc_67 : lw_tbl[423]? = some (pm_cw 67) := rfl
set_option maxRecDepth 100000 in
theorem pc_68 : lw_tbl[435]? = some (pm_cw 68) := rfl
set_option maxRecDepth 100000 in
theorem pc_69 : lw_tbl[297]? = some (pm_cw 69) := rfl
set_option maxRecDepth 100000 in
theorem pc_70 : lw_tbl[401]? = some (pm_cw 70) := rfl
set_option maxRecDepth 100000 in
theorem pc_71 : lw_tbl[410]? = some (pm_cw 71) := rfl
set_option maxRecDepth 100000 in
theorem pc_72 : lw_tbl[459]? = some (pm_cw 72) := rfl
set_option maxRecDepth 100000 in
theorem pc_73 : lw_tbl[463]? = some (pm_cw 73) := rfl
set_option maxRecDepth 100000 in
theorem pc_74 : lw_tbl[468]? = some (pm_cw 74) := rfl
set_option maxRecDepth 100000 in
theorem pc_75 : lw_tbl[70]? = some (pm_cw 75) := rfl
set_option maxRecDepth 100000 in
theorem pc_76 : lw_tbl[248]? = some (pm_cw 76) := rfl
set_option maxRecDepth 100000 in
theorem pc_77 : lw_tbl[323]? = some (pm_cw 77) := rfl
set_option maxRecDepth 100000 in
theorem pc_78 : lw_tbl[336]? = some (pm_cw 78) := rfl
set_option maxRecDepth 100000 in
theorem pc_79 : lw_tbl[356]? = some (pm_cw 79) := rfl
set_option maxRecDepth 100000 in
theorem pc_80 : lw_tbl[364]? = some (pm_cw 80) := rfl
set_option maxRecDepth 100000 in
theorem pc_81 : lw_tbl[372]? = some (pm_cw 81) := rfl
set_option maxRecDepth 100000 in
theorem pc_82 : lw_tbl[419]? = some (pm_cw 82) := rfl
set_option maxRecDepth 100000 in
theorem pc_83 : lw_tbl[473]? = some (pm_cw 83) := rfl
set_option maxRecDepth 100000 in
theorem pc_84 : lw_tbl[478]? = some (pm_cw 84) := rfl
set_option maxRecDepth 100000 in
theorem pc_85 : lw_tbl[483]? = some (pm_cw 85) := rfl
set_option maxRecDepth 100000 in
theorem pc_86 : lw_tbl[487]? = some (pm_cw 86) := rfl
set_option maxRecDepth 100000 in
theorem pc_87 : lw_tbl[504]? = some (pm_cw 87) := rfl
set_option maxRecDepth 100000 in
theorem pc_88 : lw_tbl[521]? = some (pm_cw 88) := rfl
set_option maxRecDepth 100000 in
theorem pc_89 : lw_tbl[529]? = some (pm_cw 89) := rfl
set_option maxRecDepth 100000 in
theorem pc_90 : lw_tbl[537]? = some (pm_cw 90) := rfl
set_option maxRecDepth 100000 in
theorem pc_91 : lw_tbl[545]? = some (pm_cw 91) := rfl
set_option maxRecDepth 100000 in
theorem pc_92 : lw_tbl[567]? = some (pm_cw 92) := rfl
set_option maxRecDepth 100000 in
theorem pc_93 : lw_tbl[550]? = some (pm_cw 93) := rfl
set_option maxRecDepth 100000 in
theorem pc_94 : lw_tbl[558]? = some (pm_cw 94) := rfl
set_option maxRecDepth 100000 in
theorem pc_95 : lw_tbl[255]? = some (pm_cw 95) := rfl
set_option maxRecDepth 100000 in
theorem pc_96 : lw_tbl[343]? = some (pm_cw 96) := rfl
set_option maxRecDepth 100000 in
theorem pc_97 : lw_tbl[438]? = some (pm_cw 97) := rfl
set_option maxRecDepth 100000 in
theorem pc_98 : lw_tbl[751]? = some (pm_cw 98) := rfl
set_option maxRecDepth 100000 in
theorem pc_99 : lw_tbl[833]? = some (pm_cw 99) := rfl
set_option maxRecDepth 100000 in
theorem pc_100 : lw_tbl[840]? = some (pm_cw 100) := rfl
set_option maxRecDepth 100000 in
theorem pc_101 : lw_tbl[852]? = some (pm_cw 101) := rfl
set_option maxRecDepth 100000 in
theorem pc_102 : lw_tbl[856]? = some (pm_cw 102) := rfl
set_option maxRecDepth 100000 in
theorem pc_103 : lw_tbl[860]? = some (pm_cw 103) := rfl
set_option maxRecDepth 100000 in
theorem pc_104 : lw_tbl[848]? = some (pm_cw 104) := rfl
set_option maxRecDepth 100000 in
theorem pc_105 : lw_tbl[868]? = some (pm_cw 105) := rfl
set_option maxRecDepth 100000 in
theorem pc_106 : lw_tbl[844]? = some (pm_cw 106) := rfl
set_option maxRecDepth 100000 in
theorem pc_107 : lw_tbl[864]? = some (pm_cw 107) := rfl
set_option maxRecDepth 100000 in
theorem pc_108 : lw_tbl[837]? = some (pm_cw 108) := rfl
set_option maxRecDepth 100000 in
theorem pc_109 : lw_tbl[872]? = some (pm_cw 109) := rfl
set_option maxRecDepth 100000 in
theorem pc_110 : lw_tbl[879]? = some (pm_cw 110) := rfl
set_option maxRecDepth 100000 in
theorem pc_111 : lw_tbl[882]? = some (pm_cw 111) := rfl
set_option maxRecDepth 100000 in
theorem pc_112 : lw_tbl[901]? = some (pm_cw 112) := rfl
set_option maxRecDepth 100000 in
theorem pc_113 : lw_tbl[908]? = some (pm_cw 113) := rfl
set_option maxRecDepth 100000 in
theorem pc_114 : lw_tbl[876]? = some (pm_cw 114) := rfl
set_option maxRecDepth 100000 in
theorem pc_115 : lw_tbl[887]? = some (pm_cw 115) := rfl
set_option maxRecDepth 100000 in
theorem pc_116 : lw_tbl[891]? = some (pm_cw 116) := rfl
set_option maxRecDepth 100000 in
theorem pc_117 : lw_tbl[898]? = some (pm_cw 117) := rfl
set_option maxRecDepth 100000 in
theorem pc_118 : lw_tbl[913]? = some (pm_cw 118) := rfl
set_option maxRecDepth 100000 in
theorem pc_119 : lw_tbl[905]? = some (pm_cw 119) := rfl
set_option maxRecDepth 100000 in
theorem pc_120 : lw_tbl[895]? = some (pm_cw 120) := rfl
set_option maxRecDepth 100000 in
theorem pc_121 : lw_tbl[928]? = some (pm_cw 121) := rfl
set_option maxRecDepth 100000 in
theorem pc_122 : lw_tbl[925]? = some (pm_cw 122) := rfl
set_option maxRecDepth 100000 in
theorem pc_123 : lw_tbl[921]? = some (pm_cw 123) := rfl
set_option maxRecDepth 100000 in
theorem pc_124 : lw_tbl[936]? = some (pm_cw 124) := rfl
set_option maxRecDepth 100000 in
theorem pc_125 : lw_tbl[932]? = some (pm_cw 125) := rfl
set_option maxRecDepth 100000 in
theorem pc_126 : lw_tbl[917]? = some (pm_cw 126) := rfl
set_option maxRecDepth 100000 in
theorem pc_127 : lw_tbl[940]? = some (pm_cw 127) := rfl
set_option maxRecDepth 100000 in
theorem pc_128 : lw_tbl[944]? = some (pm_cw 128) := rfl
set_option maxRecDepth 100000 in
theorem pc_129 : lw_tbl[948]? = some (pm_cw 129) := rfl
set_option maxRecDepth 100000 in
theorem pc_130 : lw_tbl[956]? = some (pm_cw 130) := rfl
set_option maxRecDepth 100000 in
theorem pc_131 : lw_tbl[952]? = some (pm_cw 131) := rfl
set_option maxRecDepth 100000 in
theorem pc_132 : lw_tbl[960]? = some (pm_cw 132) := rfl
set_option maxRecDepth 100000 in
theorem pc_133 : lw_tbl[964]? = some (pm_cw 133) := rfl
set_option maxRecDepth 100000 in
theorem pc_134 : lw_tbl[969]? = some (pm_cw 134) := rfl
set_option maxRecDepth 100000 in
theorem pc_135 : lw_tbl[973]? = some (pm_cw 135) := rfl
set_option maxRecDepth 100000 in
theorem pc_136 : lw_tbl[977]? = some (pm_cw 136) := rfl
set_option maxRecDepth 100000 in
theorem pc_137 : lw_tbl[989]? = some (pm_cw 137) := rfl
set_option maxRecDepth 100000 in
theorem pc_138 : lw_tbl[985]? = some (pm_cw 138) := rfl
set_option maxRecDepth 100000 in
theorem pc_139 : lw_tbl[1005]? = some (pm_cw 139) := rfl
set_option maxRecDepth 100000 in
theorem pc_140 : lw_tbl[997]? = some (pm_cw 140) := rfl
set_option maxRecDepth 100000 in
theorem pc_141 : lw_tbl[1001]? = some (pm_cw 141) := rfl
set_option maxRecDepth 100000 in
theorem pc_142 : lw_tbl[993]? = some (pm_cw 142) := rfl
set_option maxRecDepth 100000 in
theorem pc_143 : lw_tbl[1017]? = some (pm_cw 143) := rfl
set_option maxRecDepth 100000 in
theorem pc_144 : lw_tbl[1013]? = some (pm_cw 144) := rfl
set_option maxRecDepth 100000 in
theorem pc_145 : lw_tbl[1009]? = some (pm_cw 145) := rfl
set_option maxRecDepth 100000 in
theorem pc_146 : lw_tbl[1025]? = some (pm_cw 146) := rfl
set_option maxRecDepth 100000 in
theorem pc_147 : lw_tbl[1021]? = some (pm_cw 147) := rfl
set_option maxRecDepth 100000 in
theorem pc_148 : lw_tbl[981]? = some (pm_cw 148) := rfl
set_option maxRecDepth 100000 in
theorem pc_149 : lw_tbl[1029]? = some (pm_cw 149) := rfl
set_option maxRecDepth 100000 in
theorem pc_150 : lw_tbl[1033]? = some (pm_cw 150) := rfl
