set_option maxRecDepth 100000 in
theorem pk_139 : (List.range 113).all (pm_chk 8 false cX8_getChunks jm_139) = true := by decide +kernel
set_option maxRecDepth 100000 in
theorem pk_140 : (List.range 40).all (pm_chk 8 false cX8_getZeros jm_140) = true := by decide +kernel
set_option maxRecDepth 100000 in
theorem pk_141 : (List.range 129).all (pm_chk 8 false cX8_enterIn jm_141) = true := by decide +kernel
set_option maxRecDepth 100000 in
theorem pk_142 : (List.range 111).all (pm_chk 8 false cX8_leaveIn jm_142) = true := by decide +kernel
set_option maxRecDepth 100000 in
theorem pk_143 : (List.range 73).all (pm_chk 8 false cX8_opIn jm_143) = true := by decide +kernel
set_option maxRecDepth 100000 in
theorem pk_144 : (List.range 163).all (pm_chk 8 false cX8_formIn jm_144) = true := by decide +kernel
set_option maxRecDepth 100000 in
theorem pk_145 : (List.range 162).all (pm_chk 8 false cX8_plainIn jm_145) = true := by decide +kernel
set_option maxRecDepth 100000 in
theorem pk_146 : (List.range 42).all (pm_chk 8 false cX8_byOpIn jm_146) = true := by decide +kernel
set_option maxRecDepth 100000 in
theorem pk_147 : (List.range 318).all (pm_chk 8 false cX8_recordIn jm_147) = true := by decide +kernel
