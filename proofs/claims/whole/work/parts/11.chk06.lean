set_option maxRecDepth 100000 in
theorem pk_124 : (List.range 35).all (pm_chk 8 false cX8_byOp jm_124) = true := by decide +kernel
set_option maxRecDepth 100000 in
theorem pk_125 : (List.range 157).all (pm_chk 8 false cX8_byForm jm_125) = true := by decide +kernel
set_option maxRecDepth 100000 in
theorem pk_126 : (List.range 276).all (pm_chk 8 false cX8_record jm_126) = true := by decide +kernel
set_option maxRecDepth 100000 in
theorem pk_127 : (List.range 18).all (pm_chk 8 false cX8_words jm_127) = true := by decide +kernel
set_option maxRecDepth 100000 in
theorem pk_128 : (List.range 38).all (pm_chk 8 false cX8_word jm_128) = true := by decide +kernel
set_option maxRecDepth 100000 in
theorem pk_129 : (List.range 12).all (pm_chk 8 false cX8_depth jm_129) = true := by decide +kernel
set_option maxRecDepth 100000 in
theorem pk_130 : (List.range 48).all (pm_chk 8 false cX8_forget jm_130) = true := by decide +kernel
set_option maxRecDepth 100000 in
theorem pk_131 : (List.range 43).all (pm_chk 8 false cX8_clear jm_131) = true := by decide +kernel
set_option maxRecDepth 100000 in
theorem pk_132 : (List.range 21).all (pm_chk 8 false cX8_rewind jm_132) = true := by decide +kernel
set_option maxRecDepth 100000 in
theorem pk_133 : (List.range 70).all (pm_chk 8 false cX8_copy jm_133) = true := by decide +kernel
set_option maxRecDepth 100000 in
theorem pk_134 : (List.range 49).all (pm_chk 8 false cX8_load jm_134) = true := by decide +kernel
set_option maxRecDepth 100000 in
theorem pk_135 : (List.range 38).all (pm_chk 8 false cX8_alter jm_135) = true := by decide +kernel
set_option maxRecDepth 100000 in
theorem pk_136 : (List.range 21).all (pm_chk 8 false cX8_wipe jm_136) = true := by decide +kernel
set_option maxRecDepth 100000 in
theorem pk_137 : (List.range 10).all (pm_chk 8 false cX8_must jm_137) = true := by decide +kernel
set_option maxRecDepth 100000 in
theorem pk_138 : (List.range 87).all (pm_chk 8 false cX8_getBits jm_138) = true := by decide +kernel
