set_option maxRecDepth 100000 in
theorem pk_109 : (List.range 79).all (pm_chk 8 false cX8_leave jm_109) = true := by decide +kernel
set_option maxRecDepth 100000 in
theorem pk_110 : (List.range 49).all (pm_chk 8 false cX8_isOp jm_110) = true := by decide +kernel
set_option maxRecDepth 100000 in
theorem pk_111 : (List.range 19).all (pm_chk 8 false cX8_opOf jm_111) = true := by decide +kernel
set_option maxRecDepth 100000 in
theorem pk_112 : (List.range 6).all (pm_chk 8 false cX8_kindOf jm_112) = true := by decide +kernel
set_option maxRecDepth 100000 in
theorem pk_113 : (List.range 7).all (pm_chk 8 false cX8_numberOf jm_113) = true := by decide +kernel
set_option maxRecDepth 100000 in
theorem pk_114 : (List.range 56).all (pm_chk 8 false cX8_op jm_114) = true := by decide +kernel
set_option maxRecDepth 100000 in
theorem pk_115 : (List.range 48).all (pm_chk 8 false cX8_value jm_115) = true := by decide +kernel
set_option maxRecDepth 100000 in
theorem pk_116 : (List.range 16).all (pm_chk 8 false cX8_drop jm_116) = true := by decide +kernel
set_option maxRecDepth 100000 in
theorem pk_117 : (List.range 78).all (pm_chk 8 false cX8_isForm jm_117) = true := by decide +kernel
set_option maxRecDepth 100000 in
theorem pk_118 : (List.range 133).all (pm_chk 8 false cX8_take jm_118) = true := by decide +kernel
set_option maxRecDepth 100000 in
theorem pk_119 : (List.range 57).all (pm_chk 8 false cX8_isFull jm_119) = true := by decide +kernel
set_option maxRecDepth 100000 in
theorem pk_120 : (List.range 243).all (pm_chk 8 false cX8_form jm_120) = true := by decide +kernel
set_option maxRecDepth 100000 in
theorem pk_121 : (List.range 46).all (pm_chk 8 false cX8_matches jm_121) = true := by decide +kernel
set_option maxRecDepth 100000 in
theorem pk_122 : (List.range 17).all (pm_chk 8 false cX8_part jm_122) = true := by decide +kernel
set_option maxRecDepth 100000 in
theorem pk_123 : (List.range 143).all (pm_chk 8 false cX8_fitsForm jm_123) = true := by decide +kernel
