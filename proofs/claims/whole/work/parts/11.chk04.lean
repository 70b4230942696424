set_option maxRecDepth 100000 in
theorem pk_85 : (List.range 11).all (pm_chk 7 false cX7_depth jm_85) = true := by decide +kernel
set_option maxRecDepth 100000 in
theorem pk_86 : (List.range 8).all (pm_chk 7 false cX7_clear jm_86) = true := by decide +kernel
set_option maxRecDepth 100000 in
theorem pk_87 : (List.range 30).all (pm_chk 7 false cX7_copy jm_87) = true := by decide +kernel
set_option maxRecDepth 100000 in
theorem pk_88 : (List.range 9).all (pm_chk 7 false cX7_load jm_88) = true := by decide +kernel
set_option maxRecDepth 100000 in
theorem pk_89 : (List.range 10).all (pm_chk 7 false cX7_alter jm_89) = true := by decide +kernel
set_option maxRecDepth 100000 in
theorem pk_90 : (List.range 8).all (pm_chk 7 false cX7_wipe jm_90) = true := by decide +kernel
set_option maxRecDepth 100000 in
theorem pk_91 : (List.range 8).all (pm_chk 7 false cX7_rewind jm_91) = true := by decide +kernel
set_option maxRecDepth 100000 in
theorem pk_92 : (List.range 8).all (pm_chk 7 false cX7_next jm_92) = true := by decide +kernel
set_option maxRecDepth 100000 in
theorem pk_93 : (List.range 9).all (pm_chk 7 false cX7_info jm_93) = true := by decide +kernel
set_option maxRecDepth 100000 in
theorem pk_94 : (List.range 11).all (pm_chk 7 false cX7_level jm_94) = true := by decide +kernel
set_option maxRecDepth 100000 in
theorem pk_95 : (List.range 27).all (pm_chk 7 false cX7_isBlockHead jm_95) = true := by decide +kernel
set_option maxRecDepth 100000 in
theorem pk_96 : (List.range 80).all (pm_chk 7 false cX7_isOp jm_96) = true := by decide +kernel
set_option maxRecDepth 100000 in
theorem pk_97 : (List.range 38).all (pm_chk 7 false cX7_namesTarget jm_97) = true := by decide +kernel
set_option maxRecDepth 100000 in
theorem pk_98 : (List.range 151).all (pm_chk 8 true cX8_init jm_98) = true := by decide +kernel
set_option maxRecDepth 100000 in
theorem pk_99 : (List.range 5).all (pm_chk 8 false cX8_thrown jm_99) = true := by decide +kernel
set_option maxRecDepth 100000 in
theorem pk_100 : (List.range 16).all (pm_chk 8 false cX8_within jm_100) = true := by decide +kernel
set_option maxRecDepth 100000 in
theorem pk_101 : (List.range 69).all (pm_chk 8 false cX8_bits jm_101) = true := by decide +kernel
set_option maxRecDepth 100000 in
theorem pk_102 : (List.range 67).all (pm_chk 8 false cX8_chunks jm_102) = true := by decide +kernel
set_option maxRecDepth 100000 in
theorem pk_103 : (List.range 22).all (pm_chk 8 false cX8_align jm_103) = true := by decide +kernel
set_option maxRecDepth 100000 in
theorem pk_104 : (List.range 30).all (pm_chk 8 false cX8_widthNow jm_104) = true := by decide +kernel
set_option maxRecDepth 100000 in
theorem pk_105 : (List.range 105).all (pm_chk 8 false cX8_fits jm_105) = true := by decide +kernel
set_option maxRecDepth 100000 in
theorem pk_106 : (List.range 34).all (pm_chk 8 false cX8_inInfo jm_106) = true := by decide +kernel
set_option maxRecDepth 100000 in
theorem pk_107 : (List.range 127).all (pm_chk 8 false cX8_begin jm_107) = true := by decide +kernel
set_option maxRecDepth 100000 in
theorem pk_108 : (List.range 139).all (pm_chk 8 false cX8_enter jm_108) = true := by decide +kernel
