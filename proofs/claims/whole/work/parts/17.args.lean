def pm_na : Nat → Nat := fun M => match M with
  | 0 => 0
  | 1 => 0
  | 2 => 1
  | 3 => 2
  | 4 => 2
  | 5 => 2
  | 6 => 0
  | 7 => 1
  | 8 => 0
  | 9 => 0
  | 10 => 0
  | 11 => 2
  | 12 => 1
  | 13 => 1
  | 14 => 0
  | 15 => 1
  | 16 => 0
  | 17 => 0
  | 18 => 2
  | 19 => 2
  | 20 => 0
  | 21 => 0
  | 22 => 1
  | 23 => 2
  | 24 => 2
  | 25 => 2
  | 26 => 1
  | 27 => 0
  | 28 => 0
  | 29 => 0
  | 30 => 0
  | 31 => 0
  | 32 => 4
  | 33 => 0
  | 34 => 0
  | 35 => 1
  | 36 => 0
  | 37 => 0
  | 38 => 0
  | 39 => 1
  | 40 => 1
  | 41 => 2
  | 42 => 0
  | 43 => 1
  | 44 => 0
  | 45 => 1
  | 46 => 0
  | 47 => 1
  | 48 => 0
  | 49 => 1
  | 50 => 0
  | 51 => 1
  | 52 => 2
  | 53 => 2
  | 54 => 2
  | 55 => 1
  | 56 => 0
  | 57 => 1
  | 58 => 0
  | 59 => 0
  | 60 => 0
  | 61 => 0
  | 62 => 2
  | 63 => 1
  | 64 => 2
  | 65 => 0
  | 66 => 0
  | 67 => 2
  | 68 => 1
  | 69 => 2
  | 70 => 1
  | 71 => 2
  | 72 => 0
  | 73 => 1
  | 74 => 3
  | 75 => 0
  | 76 => 2
  | 77 => 0
  | 78 => 2
  | 79 => 1
  | 80 => 0
  | 81 => 0
  | 82 => 2
  | 83 => 0
  | 84 => 1
  | 85 => 0
  | 86 => 0
  | 87 => 0
  | 88 => 1
  | 89 => 2
  | 90 => 0
  | 91 => 0
  | 92 => 0
  | 93 => 1
  | 94 => 0
  | 95 => 2
  | 96 => 2
  | 97 => 2
  | 98 => 0
  | 99 => 0
  | 100 => 3
  | 101 => 2
  | 102 => 2
  | 103 => 1
  | 104 => 1
  | 105 => 1
  | 106 => 1
  | 107 => 4
  | 108 => 2
  | 109 => 0
  | 110 => 2
  | 111 => 2
  | 112 => 1
  | 113 => 1
  | 114 => 2
  | 115 => 1
  | 116 => 0
  | 117 => 3
  | 118 => 1
  | 119 => 1
  | 120 => 0
  | 121 => 2
  | 122 => 2
  | 123 => 2
  | 124 => 2
  | 125 => 2
  | 126 => 2
  | 127 => 0
  | 128 => 1
  | 129 => 0
  | 130 => 1
  | 131 => 0
  | 132 => 0
  | 133 => 0
  | 134 => 1
  | 135 => 2
  | 136 => 0
  | 137 => 1
  | 138 => 1
  | 139 => 1
  | 140 => 0
  | 141 => 0
  | 142 => 0
  | 143 => 0
  | 144 => 0
  | 145 => 0
  | 146 => 1
  | 147 => 1
  | 148 => 0
  | 149 => 1
  | 150 => 0
  | _ => 0
def pm_ok2 (J : Nat → pm_I) (pc : Nat) : Bool := match (J pc).1 with
  | .invokevirtual _ => decide ((J pc).2.2.1 = pm_na (J pc).2.1)
  | .invokespecial _ => decide (pm_nM ≤ (J pc).2.1) || decide ((J pc).2.2.1 = pm_na (J pc).2.1)
  | .invokestatic _ => decide (pm_nM ≤ (J pc).2.1) || decide ((J pc).2.2.1 = pm_na (J pc).2.1)
  | _ => true
set_option maxRecDepth 100000 in
theorem pn_0 : (List.range 18).all (pm_ok2 jm_0) = true := by decide +kernel
set_option maxRecDepth 100000 in
theorem pn_1 : (List.range 13).all (pm_ok2 jm_1) = true := by decide +kernel
set_option maxRecDepth 100000 in
theorem pn_2 : (List.range 24).all (pm_ok2 jm_2) = true := by decide +kernel
set_option maxRecDepth 100000 in
theorem pn_3 : (List.range 21).all (pm_ok2 jm_3) = true := by decide +kernel
set_option maxRecDepth 100000 in
theorem pn_4 : (List.range 66).all (pm_ok2 jm_4) = true := by decide +kernel
set_option maxRecDepth 100000 in
theorem pn_5 : (List.range 67).all (pm_ok2 jm_5) = true := by decide +kernel
set_option maxRecDepth 100000 in
theorem pn_6 : (List.range 12).all (pm_ok2 jm_6) = true := by decide +kernel
set_option maxRecDepth 100000 in
theorem pn_7 : (List.range 65).all (pm_ok2 jm_7) = true := by decide +kernel
set_option maxRecDepth 100000 in
theorem pn_8 : (List.range 30).all (pm_ok2 jm_8) = true := by decide +kernel
set_option maxRecDepth 100000 in
theorem pn_9 : (List.range 26).all (pm_ok2 jm_9) = true := by decide +kernel
set_option maxRecDepth 100000 in
theorem pn_10 : (List.range 15).all (pm_ok2 jm_10) = true := by decide +kernel
set_option maxRecDepth 100000 in
theorem pn_11 : (List.range 39).all (pm_ok2 jm_11) = true := by decide +kernel
set_option maxRecDepth 100000 in
theorem pn_12 : (List.range 23).all (pm_ok2 jm_12) = true := by decide +kernel
set_option maxRecDepth 100000 in
theorem pn_13 : (List.range 23).all (pm_ok2 jm_13) = true := by decide +kernel
set_option maxRecDepth 100000 in
theorem pn_14 : (List.range 48).all (pm_ok2 jm_14) = true := by decide +kernel
set_option maxRecDepth 100000 in
theorem pn_15 : (List.range 34).all (pm_ok2 jm_15) = true := by decide +kernel
set_option maxRecDepth 100000 in
theorem pn_16 : (List.range 20).all (pm_ok2 jm_16) = true := by decide +kernel
set_option maxRecDepth 100000 in
theorem pn_17 : (List.range 21).all (pm_ok2 jm_17) = true := by decide +kernel
set_option maxRecDepth 100000 in
theorem pn_18 : (List.range 77).all (pm_ok2 jm_18) = true := by decide +kernel
set_option maxRecDepth 100000 in
theorem pn_19 : (List.range 65).all (pm_ok2 jm_19) = true := by decide +kernel
set_option maxRecDepth 100000 in
theorem pn_20 : (List.range 23).all (pm_ok2 jm_20) = true := by decide +kernel
set_option maxRecDepth 100000 in
theorem pn_21 : (List.range 25).all (pm_ok2 jm_21) = true := by decide +kernel
set_option maxRecDepth 100000 in
theorem pn_22 : (List.range 24).all (pm_ok2 jm_22) = true := by decide +kernel
set_option maxRecDepth 100000 in
theorem pn_23 : (List.range 48).all (pm_ok2 jm_23) = true := by decide +kernel
set_option maxRecDepth 100000 in
theorem pn_24 : (List.range 40).all (pm_ok2 jm_24) = true := by decide +kernel
set_option maxRecDepth 100000 in
theorem pn_25 : (List.range 68).all (pm_ok2 jm_25) = true := by decide +kernel
set_option maxRecDepth 100000 in
theorem pn_26 : (List.range 16).all (pm_ok2 jm_26) = true := by decide +kernel
set_option maxRecDepth 100000 in
theorem pn_27 : (List.range 60).all (pm_ok2 jm_27) = true := by decide +kernel
set_option maxRecDepth 100000 in
theorem pn_28 : (List.range 13).all (pm_ok2 jm_28) = true := by decide +kernel
set_option maxRecDepth 100000 in
theorem pn_29 : (List.range 10).all (pm_ok2 jm_29) = true := by decide +kernel
set_option maxRecDepth 100000 in
theorem pn_30 : (List.range 16).all (pm_ok2 jm_30) = true := by decide +kernel
set_option maxRecDepth 100000 in
theorem pn_31 : (List.range 15).all (pm_ok2 jm_31) = true := by decide +kernel
set_option maxRecDepth 100000 in
theorem pn_32 : (List.range 76).all (pm_ok2 jm_32) = true := by decide +kernel
set_option maxRecDepth 100000 in
theorem pn_33 : (List.range 18).all (pm_ok2 jm_33) = true := by decide +kernel
set_option maxRecDepth 100000 in
theorem pn_34 : (List.range 8).all (pm_ok2 jm_34) = true := by decide +kernel
set_option maxRecDepth 100000 in
theorem pn_35 : (List.range 13).all (pm_ok2 jm_35) = true := by decide +kernel
set_option maxRecDepth 100000 in
theorem pn_36 : (List.range 30).all (pm_ok2 jm_36) = true := by decide +kernel
set_option maxRecDepth 100000 in
theorem pn_37 : (List.range 60).all (pm_ok2 jm_37) = true := by decide +kernel
set_option maxRecDepth 100000 in
theorem pn_38 : (List.range 23).all (pm_ok2 jm_38) = true := by decide +kernel
set_option maxRecDepth 100000 in
theorem pn_39 : (List.range 32).all (pm_ok2 jm_39) = true := by decide +kernel
set_option maxRecDepth 100000 in
theorem pn_40 : (List.range 40).all (pm_ok2 jm_40) = true := by decide +kernel
set_option maxRecDepth 100000 in
theorem pn_41 : (List.range 27).all (pm_ok2 jm_41) = true := by decide +kernel
set_option maxRecDepth 100000 in
theorem pn_42 : (List.range 16).all (pm_ok2 jm_42) = true := by decide +kernel
set_option maxRecDepth 100000 in
theorem pn_43 : (List.range 23).all (pm_ok2 jm_43) = true := by decide +kernel
set_option maxRecDepth 100000 in
theorem pn_44 : (List.range 72).all (pm_ok2 jm_44) = true := by decide +kernel
set_option maxRecDepth 100000 in
theorem pn_45 : (List.range 107).all (pm_ok2 jm_45) = true := by decide +kernel
set_option maxRecDepth 100000 in
theorem pn_46 : (List.range 115).all (pm_ok2 jm_46) = true := by decide +kernel
set_option maxRecDepth 100000 in
theorem pn_47 : (List.range 57).all (pm_ok2 jm_47) = true := by decide +kernel
set_option maxRecDepth 100000 in
theorem pn_48 : (List.range 136).all (pm_ok2 jm_48) = true := by decide +kernel
set_option maxRecDepth 100000 in
theorem pn_49 : (List.range 76).all (pm_ok2 jm_49) = true := by decide +kernel
set_option maxRecDepth 100000 in
theorem pn_50 : (List.range 64).all (pm_ok2 jm_50) = true := by decide +kernel
set_option maxRecDepth 100000 in
theorem pn_51 : (List.range 123).all (pm_ok2 jm_51) = true := by decide +kernel
set_option maxRecDepth 100000 in
theorem pn_52 : (List.range 50).all (pm_ok2 jm_52) = true := by decide +kernel
set_option maxRecDepth 100000 in
theorem pn_53 : (List.range 32).all (pm_ok2 jm_53) = true := by decide +kernel
set_option maxRecDepth 100000 in
theorem pn_54 : (List.range 53).all (pm_ok2 jm_54) = true := by decide +kernel
set_option maxRecDepth 100000 in
theorem pn_55 : (List.range 108).all (pm_ok2 jm_55) = true := by decide +kernel
set_option maxRecDepth 100000 in
theorem pn_56 : (List.range 23).all (pm_ok2 jm_56) = true := by decide +kernel
set_option maxRecDepth 100000 in
theorem pn_57 : (List.range 120).all (pm_ok2 jm_57) = true := by decide +kernel
set_option maxRecDepth 100000 in
theorem pn_58 : (List.range 37).all (pm_ok2 jm_58) = true := by decide +kernel
set_option maxRecDepth 100000 in
theorem pn_59 : (List.range 51).all (pm_ok2 jm_59) = true := by decide +kernel
set_option maxRecDepth 100000 in
theorem pn_60 : (List.range 20).all (pm_ok2 jm_60) = true := by decide +kernel
set_option maxRecDepth 100000 in
theorem pn_61 : (List.range 14).all (pm_ok2 jm_61) = true := by decide +kernel
set_option maxRecDepth 100000 in
theorem pn_62 : (List.range 40).all (pm_ok2 jm_62) = true := by decide +kernel
set_option maxRecDepth 100000 in
theorem pn_63 : (List.range 45).all (pm_ok2 jm_63) = true := by decide +kernel
set_option maxRecDepth 100000 in
theorem pn_64 : (List.range 143).all (pm_ok2 jm_64) = true := by decide +kernel
set_option maxRecDepth 100000 in
theorem pn_65 : (List.range 75).all (pm_ok2 jm_65) = true := by decide +kernel
set_option maxRecDepth 100000 in
theorem pn_66 : (List.range 140).all (pm_ok2 jm_66) = true := by decide +kernel
set_option maxRecDepth 100000 in
theorem pn_67 : (List.range 183).all (pm_ok2 jm_67) = true := by decide +kernel
set_option maxRecDepth 100000 in
theorem pn_68 : (List.range 47).all (pm_ok2 jm_68) = true := by decide +kernel
set_option maxRecDepth 100000 in
theorem pn_69 : (List.range 30).all (pm_ok2 jm_69) = true := by decide +kernel
set_option maxRecDepth 100000 in
theorem pn_70 : (List.range 61).all (pm_ok2 jm_70) = true := by decide +kernel
set_option maxRecDepth 100000 in
theorem pn_71 : (List.range 57).all (pm_ok2 jm_71) = true := by decide +kernel
set_option maxRecDepth 100000 in
theorem pn_72 : (List.range 62).all (pm_ok2 jm_72) = true := by decide +kernel
set_option maxRecDepth 100000 in
theorem pn_73 : (List.range 87).all (pm_ok2 jm_73) = true := by decide +kernel
set_option maxRecDepth 100000 in
theorem pn_74 : (List.range 48).all (pm_ok2 jm_74) = true := by decide +kernel
set_option maxRecDepth 100000 in
theorem pn_75 : (List.range 27).all (pm_ok2 jm_75) = true := by decide +kernel
set_option maxRecDepth 100000 in
theorem pn_76 : (List.range 10).all (pm_ok2 jm_76) = true := by decide +kernel
set_option maxRecDepth 100000 in
theorem pn_77 : (List.range 8).all (pm_ok2 jm_77) = true := by decide +kernel
set_option maxRecDepth 100000 in
theorem pn_78 : (List.range 10).all (pm_ok2 jm_78) = true := by decide +kernel
set_option maxRecDepth 100000 in
theorem pn_79 : (List.range 9).all (pm_ok2 jm_79) = true := by decide +kernel
set_option maxRecDepth 100000 in
theorem pn_80 : (List.range 8).all (pm_ok2 jm_80) = true := by decide +kernel
set_option maxRecDepth 100000 in
theorem pn_81 : (List.range 8).all (pm_ok2 jm_81) = true := by decide +kernel
set_option maxRecDepth 100000 in
theorem pn_82 : (List.range 10).all (pm_ok2 jm_82) = true := by decide +kernel
set_option maxRecDepth 100000 in
theorem pn_83 : (List.range 11).all (pm_ok2 jm_83) = true := by decide +kernel
set_option maxRecDepth 100000 in
theorem pn_84 : (List.range 12).all (pm_ok2 jm_84) = true := by decide +kernel
set_option maxRecDepth 100000 in
theorem pn_85 : (List.range 11).all (pm_ok2 jm_85) = true := by decide +kernel
set_option maxRecDepth 100000 in
theorem pn_86 : (List.range 8).all (pm_ok2 jm_86) = true := by decide +kernel
set_option maxRecDepth 100000 in
theorem pn_87 : (List.range 30).all (pm_ok2 jm_87) = true := by decide +kernel
set_option maxRecDepth 100000 in
theorem pn_88 : (List.range 9).all (pm_ok2 jm_88) = true := by decide +kernel
set_option maxRecDepth 100000 in
theorem pn_89 : (List.range 10).all (pm_ok2 jm_89) = true := by decide +kernel
set_option maxRecDepth 100000 in
theorem pn_90 : (List.range 8).all (pm_ok2 jm_90) = true := by decide +kernel
set_option maxRecDepth 100000 in
theorem pn_91 : (List.range 8).all (pm_ok2 jm_91) = true := by decide +kernel
set_option maxRecDepth 100000 in
theorem pn_92 : (List.range 8).all (pm_ok2 jm_92) = true := by decide +kernel
set_option maxRecDepth 100000 in
theorem pn_93 : (List.range 9).all (pm_ok2 jm_93) = true := by decide +kernel
set_option maxRecDepth 100000 in
theorem pn_94 : (List.range 11).all (pm_ok2 jm_94) = true := by decide +kernel
set_option maxRecDepth 100000 in
theorem pn_95 : (List.range 27).all (pm_ok2 jm_95) = true := by decide +kernel
set_option maxRecDepth 100000 in
theorem pn_96 : (List.range 80).all (pm_ok2 jm_96) = true := by decide +kernel
set_option maxRecDepth 100000 in
theorem pn_97 : (List.range 38).all (pm_ok2 jm_97) = true := by decide +kernel
set_option maxRecDepth 100000 in
theorem pn_98 : (List.range 151).all (pm_ok2 jm_98) = true := by decide +kernel
set_option maxRecDepth 100000 in
theorem pn_99 : (List.range 5).all (pm_ok2 jm_99) = true := by decide +kernel
set_option maxRecDepth 100000 in
theorem pn_100 : (List.range 16).all (pm_ok2 jm_100) = true := by decide +kernel
set_option maxRecDepth 100000 in
theorem pn_101 : (List.range 69).all (pm_ok2 jm_101) = true := by decide +kernel
set_option maxRecDepth 100000 in
theorem pn_102 : (List.range 67).all (pm_ok2 jm_102) = true := by decide +kernel
set_option maxRecDepth 100000 in
theorem pn_103 : (List.range 22).all (pm_ok2 jm_103) = true := by decide +kernel
set_option maxRecDepth 100000 in
theorem pn_104 : (List.range 30).all (pm_ok2 jm_104) = true := by decide +kernel
set_option maxRecDepth 100000 in
theorem pn_105 : (List.range 105).all (pm_ok2 jm_105) = true := by decide +kernel
set_option maxRecDepth 100000 in
theorem pn_106 : (List.range 34).all (pm_ok2 jm_106) = true := by decide +kernel
set_option maxRecDepth 100000 in
theorem pn_107 : (List.range 127).all (pm_ok2 jm_107) = true := by decide +kernel
set_option maxRecDepth 100000 in
theorem pn_108 : (List.range 139).all (pm_ok2 jm_108) = true := by decide +kernel
set_option maxRecDepth 100000 in
theorem pn_109 : (List.range 79).all (pm_ok2 jm_109) = true := by decide +kernel
set_option maxRecDepth 100000 in
theorem pn_110 : (List.range 49).all (pm_ok2 jm_110) = true := by decide +kernel
set_option maxRecDepth 100000 in
theorem pn_111 : (List.range 19).all (pm_ok2 jm_111) = true := by decide +kernel
set_option maxRecDepth 100000 in
theorem pn_112 : (List.range 6).all (pm_ok2 jm_112) = true := by decide +kernel
set_option maxRecDepth 100000 in
theorem pn_113 : (List.range 7).all (pm_ok2 jm_113) = true := by decide +kernel
set_option maxRecDepth 100000 in
theorem pn_114 : (List.range 56).all (pm_ok2 jm_114) = true := by decide +kernel
set_option maxRecDepth 100000 in
theorem pn_115 : (List.range 48).all (pm_ok2 jm_115) = true := by decide +kernel
set_option maxRecDepth 100000 in
theorem pn_116 : (List.range 16).all (pm_ok2 jm_116) = true := by decide +kernel
set_option maxRecDepth 100000 in
theorem pn_117 : (List.range 78).all (pm_ok2 jm_117) = true := by decide +kernel
set_option maxRecDepth 100000 in
theorem pn_118 : (List.range 133).all (pm_ok2 jm_118) = true := by decide +kernel
set_option maxRecDepth 100000 in
theorem pn_119 : (List.range 57).all (pm_ok2 jm_119) = true := by decide +kernel
set_option maxRecDepth 100000 in
theorem pn_120 : (List.range 243).all (pm_ok2 jm_120) = true := by decide +kernel
set_option maxRecDepth 100000 in
theorem pn_121 : (List.range 46).all (pm_ok2 jm_121) = true := by decide +kernel
set_option maxRecDepth 100000 in
theorem pn_122 : (List.range 17).all (pm_ok2 jm_122) = true := by decide +kernel
set_option maxRecDepth 100000 in
theorem pn_123 : (List.range 143).all (pm_ok2 jm_123) = true := by decide +kernel
set_option maxRecDepth 100000 in
theorem pn_124 : (List.range 35).all (pm_ok2 jm_124) = true := by decide +kernel
set_option maxRecDepth 100000 in
theorem pn_125 : (List.range 157).all (pm_ok2 jm_125) = true := by decide +kernel
set_option maxRecDepth 100000 in
theorem pn_126 : (List.range 276).all (pm_ok2 jm_126) = true := by decide +kernel
set_option maxRecDepth 100000 in
theorem pn_127 : (List.range 18).all (pm_ok2 jm_127) = true := by decide +kernel
set_option maxRecDepth 100000 in
theorem pn_128 : (List.range 38).all (pm_ok2 jm_128) = true := by decide +kernel
set_option maxRecDepth 100000 in
theorem pn_129 : (List.range 12).all (pm_ok2 jm_129) = true := by decide +kernel
set_option maxRecDepth 100000 in
theorem pn_130 : (List.range 48).all (pm_ok2 jm_130) = true := by decide +kernel
set_option maxRecDepth 100000 in
theorem pn_131 : (List.range 43).all (pm_ok2 jm_131) = true := by decide +kernel
set_option maxRecDepth 100000 in
theorem pn_132 : (List.range 21).all (pm_ok2 jm_132) = true := by decide +kernel
set_option maxRecDepth 100000 in
theorem pn_133 : (List.range 70).all (pm_ok2 jm_133) = true := by decide +kernel
set_option maxRecDepth 100000 in
theorem pn_134 : (List.range 49).all (pm_ok2 jm_134) = true := by decide +kernel
set_option maxRecDepth 100000 in
theorem pn_135 : (List.range 38).all (pm_ok2 jm_135) = true := by decide +kernel
set_option maxRecDepth 100000 in
theorem pn_136 : (List.range 21).all (pm_ok2 jm_136) = true := by decide +kernel
set_option maxRecDepth 100000 in
theorem pn_137 : (List.range 10).all (pm_ok2 jm_137) = true := by decide +kernel
set_option maxRecDepth 100000 in
theorem pn_138 : (List.range 87).all (pm_ok2 jm_138) = true := by decide +kernel
set_option maxRecDepth 100000 in
theorem pn_139 : (List.range 113).all (pm_ok2 jm_139) = true := by decide +kernel
set_option maxRecDepth 100000 in
theorem pn_140 : (List.range 40).all (pm_ok2 jm_140) = true := by decide +kernel
set_option maxRecDepth 100000 in
theorem pn_141 : (List.range 129).all (pm_ok2 jm_141) = true := by decide +kernel
set_option maxRecDepth 100000 in
theorem pn_142 : (List.range 111).all (pm_ok2 jm_142) = true := by decide +kernel
set_option maxRecDepth 100000 in
theorem pn_143 : (List.range 73).all (pm_ok2 jm_143) = true := by decide +kernel
set_option maxRecDepth 100000 in
theorem pn_144 : (List.range 163).all (pm_ok2 jm_144) = true := by decide +kernel
set_option maxRecDepth 100000 in
theorem pn_145 : (List.range 162).all (pm_ok2 jm_145) = true := by decide +kernel
set_option maxRecDepth 100000 in
theorem pn_146 : (List.range 42).all (pm_ok2 jm_146) = true := by decide +kernel
set_option maxRecDepth 100000 in
theorem pn_147 : (List.range 318).all (pm_ok2 jm_147) = true := by decide +kernel
set_option maxRecDepth 100000 in
theorem pn_148 : (List.range 254).all (pm_ok2 jm_148) = true := by decide +kernel
set_option maxRecDepth 100000 in
theorem pn_149 : (List.range 30).all (pm_ok2 jm_149) = true := by decide +kernel
set_option maxRecDepth 100000 in
theorem pn_150 : (List.range 12).all (pm_ok2 jm_150) = true := by decide +kernel
theorem pm_ok2_of {E : Nat} {J : Nat → pm_I} (hk : (List.range E).all (pm_ok2 J) = true) (he : ∀ pc, (J pc).1 = .nop ∨ pc < E) : ∀ pc, pm_ok2 J pc = true := fun pc => (he pc).elim (fun h => by unfold pm_ok2; rw [h]) (fun h => List.all_eq_true.mp hk pc (List.mem_range.mpr h))
theorem pm_all2 : ∀ M, M < pm_nM → ∀ pc, pm_ok2 (pm_J M) pc = true := by
  intro M hM
  match M, hM with
  | 0, _ => exact pm_ok2_of pn_0 pe_0
  | 1, _ => exact pm_ok2_of pn_1 pe_1
  | 2, _ => exact pm_ok2_of pn_2 pe_2
  | 3, _ => exact pm_ok2_of pn_3 pe_3
  | 4, _ => exact pm_ok2_of pn_4 pe_4
  | 5, _ => exact pm_ok2_of pn_5 pe_5
  | 6, _ => exact pm_ok2_of pn_6 pe_6
  | 7, _ => exact pm_ok2_of pn_7 pe_7
  | 8, _ => exact pm_ok2_of pn_8 pe_8
  | 9, _ => exact pm_ok2_of pn_9 pe_9
  | 10, _ => exact pm_ok2_of pn_10 pe_10
  | 11, _ => exact pm_ok2_of pn_11 pe_11
  | 12, _ => exact pm_ok2_of pn_12 pe_12
  | 13, _ => exact pm_ok2_of pn_13 pe_13
  | 14, _ => exact pm_ok2_of pn_14 pe_14
  | 15, _ => exact pm_ok2_of pn_15 pe_15
  | 16, _ => exact pm_ok2_of pn_16 pe_16
  | 17, _ => exact pm_ok2_of pn_17 pe_17
  | 18, _ => exact pm_ok2_of pn_18 pe_18
  | 19, _ => exact pm_ok2_of pn_19 pe_19
  | 20, _ => exact pm_ok2_of pn_20 pe_20
  | 21, _ => exact pm_ok2_of pn_21 pe_21
  | 22, _ => exact pm_ok2_of pn_22 pe_22
  | 23, _ => exact pm_ok2_of pn_23 pe_23
  | 24, _ => exact pm_ok2_of pn_24 pe_24
  | 25, _ => exact pm_ok2_of pn_25 pe_25
  | 26, _ => exact pm_ok2_of pn_26 pe_26
  | 27, _ => exact pm_ok2_of pn_27 pe_27
  | 28, _ => exact pm_ok2_of pn_28 pe_28
  | 29, _ => exact pm_ok2_of pn_29 pe_29
  | 30, _ => exact pm_ok2_of pn_30 pe_30
  | 31, _ => exact pm_ok2_of pn_31 pe_31
  | 32, _ => exact pm_ok2_of pn_32 pe_32
  | 33, _ => exact pm_ok2_of pn_33 pe_33
  | 34, _ => exact pm_ok2_of pn_34 pe_34
  | 35, _ => exact pm_ok2_of pn_35 pe_35
  | 36, _ => exact pm_ok2_of pn_36 pe_36
  | 37, _ => exact pm_ok2_of pn_37 pe_37
  | 38, _ => exact pm_ok2_of pn_38 pe_38
  | 39, _ => exact pm_ok2_of pn_39 pe_39
  | 40, _ => exact pm_ok2_of pn_40 pe_40
  | 41, _ => exact pm_ok2_of pn_41 pe_41
  | 42, _ => exact pm_ok2_of pn_42 pe_42
  | 43, _ => exact pm_ok2_of pn_43 pe_43
  | 44, _ => exact pm_ok2_of pn_44 pe_44
  | 45, _ => exact pm_ok2_of pn_45 pe_45
  | 46, _ => exact pm_ok2_of pn_46 pe_46
  | 47, _ => exact pm_ok2_of pn_47 pe_47
  | 48, _ => exact pm_ok2_of pn_48 pe_48
  | 49, _ => exact pm_ok2_of pn_49 pe_49
  | 50, _ => exact pm_ok2_of pn_50 pe_50
  | 51, _ => exact pm_ok2_of pn_51 pe_51
  | 52, _ => exact pm_ok2_of pn_52 pe_52
  | 53, _ => exact pm_ok2_of pn_53 pe_53
  | 54, _ => exact pm_ok2_of pn_54 pe_54
  | 55, _ => exact pm_ok2_of pn_55 pe_55
  | 56, _ => exact pm_ok2_of pn_56 pe_56
  | 57, _ => exact pm_ok2_of pn_57 pe_57
  | 58, _ => exact pm_ok2_of pn_58 pe_58
  | 59, _ => exact pm_ok2_of pn_59 pe_59
  | 60, _ => exact pm_ok2_of pn_60 pe_60
  | 61, _ => exact pm_ok2_of pn_61 pe_61
  | 62, _ => exact pm_ok2_of pn_62 pe_62
  | 63, _ => exact pm_ok2_of pn_63 pe_63
  | 64, _ => exact pm_ok2_of pn_64 pe_64
  | 65, _ => exact pm_ok2_of pn_65 pe_65
  | 66, _ => exact pm_ok2_of pn_66 pe_66
  | 67, _ => exact pm_ok2_of pn_67 pe_67
  | 68, _ => exact pm_ok2_of pn_68 pe_68
  | 69, _ => exact pm_ok2_of pn_69 pe_69
  | 70, _ => exact pm_ok2_of pn_70 pe_70
  | 71, _ => exact pm_ok2_of pn_71 pe_71
  | 72, _ => exact pm_ok2_of pn_72 pe_72
  | 73, _ => exact pm_ok2_of pn_73 pe_73
  | 74, _ => exact pm_ok2_of pn_74 pe_74
  | 75, _ => exact pm_ok2_of pn_75 pe_75
  | 76, _ => exact pm_ok2_of pn_76 pe_76
  | 77, _ => exact pm_ok2_of pn_77 pe_77
  | 78, _ => exact pm_ok2_of pn_78 pe_78
  | 79, _ => exact pm_ok2_of pn_79 pe_79
  | 80, _ => exact pm_ok2_of pn_80 pe_80
  | 81, _ => exact pm_ok2_of pn_81 pe_81
  | 82, _ => exact pm_ok2_of pn_82 pe_82
  | 83, _ => exact pm_ok2_of pn_83 pe_83
  | 84, _ => exact pm_ok2_of pn_84 pe_84
  | 85, _ => exact pm_ok2_of pn_85 pe_85
  | 86, _ => exact pm_ok2_of pn_86 pe_86
  | 87, _ => exact pm_ok2_of pn_87 pe_87
  | 88, _ => exact pm_ok2_of pn_88 pe_88
  | 89, _ => exact pm_ok2_of pn_89 pe_89
  | 90, _ => exact pm_ok2_of pn_90 pe_90
  | 91, _ => exact pm_ok2_of pn_91 pe_91
  | 92, _ => exact pm_ok2_of pn_92 pe_92
  | 93, _ => exact pm_ok2_of pn_93 pe_93
  | 94, _ => exact pm_ok2_of pn_94 pe_94
  | 95, _ => exact pm_ok2_of pn_95 pe_95
  | 96, _ => exact pm_ok2_of pn_96 pe_96
  | 97, _ => exact pm_ok2_of pn_97 pe_97
  | 98, _ => exact pm_ok2_of pn_98 pe_98
  | 99, _ => exact pm_ok2_of pn_99 pe_99
  | 100, _ => exact pm_ok2_of pn_100 pe_100
  | 101, _ => exact pm_ok2_of pn_101 pe_101
  | 102, _ => exact pm_ok2_of pn_102 pe_102
  | 103, _ => exact pm_ok2_of pn_103 pe_103
  | 104, _ => exact pm_ok2_of pn_104 pe_104
  | 105, _ => exact pm_ok2_of pn_105 pe_105
  | 106, _ => exact pm_ok2_of pn_106 pe_106
  | 107, _ => exact pm_ok2_of pn_107 pe_107
  | 108, _ => exact pm_ok2_of pn_108 pe_108
  | 109, _ => exact pm_ok2_of pn_109 pe_109
  | 110, _ => exact pm_ok2_of pn_110 pe_110
  | 111, _ => exact pm_ok2_of pn_111 pe_111
  | 112, _ => exact pm_ok2_of pn_112 pe_112
  | 113, _ => exact pm_ok2_of pn_113 pe_113
  | 114, _ => exact pm_ok2_of pn_114 pe_114
  | 115, _ => exact pm_ok2_of pn_115 pe_115
  | 116, _ => exact pm_ok2_of pn_116 pe_116
  | 117, _ => exact pm_ok2_of pn_117 pe_117
  | 118, _ => exact pm_ok2_of pn_118 pe_118
  | 119, _ => exact pm_ok2_of pn_119 pe_119
  | 120, _ => exact pm_ok2_of pn_120 pe_120
  | 121, _ => exact pm_ok2_of pn_121 pe_121
  | 122, _ => exact pm_ok2_of pn_122 pe_122
  | 123, _ => exact pm_ok2_of pn_123 pe_123
  | 124, _ => exact pm_ok2_of pn_124 pe_124
  | 125, _ => exact pm_ok2_of pn_125 pe_125
  | 126, _ => exact pm_ok2_of pn_126 pe_126
  | 127, _ => exact pm_ok2_of pn_127 pe_127
  | 128, _ => exact pm_ok2_of pn_128 pe_128
  | 129, _ => exact pm_ok2_of pn_129 pe_129
  | 130, _ => exact pm_ok2_of pn_130 pe_130
  | 131, _ => exact pm_ok2_of pn_131 pe_131
  | 132, _ => exact pm_ok2_of pn_132 pe_132
  | 133, _ => exact pm_ok2_of pn_133 pe_133
  | 134, _ => exact pm_ok2_of pn_134 pe_134
  | 135, _ => exact pm_ok2_of pn_135 pe_135
  | 136, _ => exact pm_ok2_of pn_136 pe_136
  | 137, _ => exact pm_ok2_of pn_137 pe_137
  | 138, _ => exact pm_ok2_of pn_138 pe_138
  | 139, _ => exact pm_ok2_of pn_139 pe_139
  | 140, _ => exact pm_ok2_of pn_140 pe_140
  | 141, _ => exact pm_ok2_of pn_141 pe_141
  | 142, _ => exact pm_ok2_of pn_142 pe_142
  | 143, _ => exact pm_ok2_of pn_143 pe_143
  | 144, _ => exact pm_ok2_of pn_144 pe_144
  | 145, _ => exact pm_ok2_of pn_145 pe_145
  | 146, _ => exact pm_ok2_of pn_146 pe_146
  | 147, _ => exact pm_ok2_of pn_147 pe_147
  | 148, _ => exact pm_ok2_of pn_148 pe_148
  | 149, _ => exact pm_ok2_of pn_149 pe_149
  | 150, _ => exact pm_ok2_of pn_150 pe_150
  | n + 151, h => exact absurd (show n + 151 < 151 from h) (by omega)
set_option maxRecDepth 100000 in
theorem pm_na_ok : (List.range pm_nM).all (fun M => decide ((pm_Y M).cls ≠ "java/lang/invoke/MethodHandle") && decide ((pm_Y M).cls ≠ "java/lang/invoke/VarHandle") && decide ((parseMethodDescriptor (pm_Y M).desc).map (fun d => d.parameters.length) = some (pm_na M))) = true := by decide +kernel
def pm_xn : Nat → String := fun k => match k with
  | 0 => "java/lang/IllegalArgumentException"
  | _ => "java/lang/IllegalStateException"
def pm_xs : List String := ["java/lang/RuntimeException", "java/lang/Exception"]
def pm_xc : List (Nat × Nat × Nat) := [(5, 65, 1), (5, 95, 0)]
def pm_xk : List (Nat × Nat × Nat) := [(5, 61, 1), (5, 91, 0)]
/-- the words of the throws that only the tables decide -/
def pm_xw : List Cond := (pm_xc.flatMap (fun e => vx_atS (pm_R e.1) e.2.1 (pm_xn e.2.2) pm_xs)).filter (fun w => !goodWord w)
set_option maxRecDepth 100000 in
theorem pf_x : ∀ w ∈ (pm_xc.flatMap (fun e => vx_atS (pm_R e.1) e.2.1 (pm_xn e.2.2) pm_xs)).filter goodWord, w ∈ lw_tbl := by decide +kernel
set_option maxRecDepth 100000 in
theorem pf_xw : ∀ w ∈ pm_xw, w ∈ lw_tbl := by decide +kernel
theorem pf_xk : GoodIn lw_tbl (pm_xk.flatMap (fun e => [.classLink (pm_R e.1) e.2.1 (pm_xn e.2.2), .initialized (pm_xn e.2.2)])) := goodIn_r _ [572, 64, 648, 65] (by decide +kernel) (by decide +kernel)
theorem pm_xl_ok : ∀ e ∈ pm_xl, (e.1, e.2.1, e.2.2.2.2) ∈ pm_xk ∧ (e.1, e.2.2.2.1, e.2.2.2.2) ∈ pm_xc ∧ ∃ z ∈ pm_sx, z.1 = e.1 ∧ z.2.1 = e.2.2.1 := by decide +kernel
theorem pm_xw_kind : pm_xw.all (fun w => match w with | .castable _ _ => true | .declares _ => true | _ => false) = true := by decide +kernel
theorem pm_x_ot : (pm_xc.flatMap (fun e => vx_atS (pm_R e.1) e.2.1 (pm_xn e.2.2) pm_xs)).all vx_ot = true := by decide +kernel
theorem pm_x_fit : (∀ k, k < 2 → Jvm.Bundle.fit (pm_xn k) = true) ∧ ∀ n ∈ pm_xs, Jvm.Bundle.fit n = true := by decide +kernel
theorem pm_xc_2 : ∀ e ∈ pm_xc, e.2.2 < 2 := by decide +kernel
