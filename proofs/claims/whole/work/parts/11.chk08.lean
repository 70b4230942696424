set_option maxRecDepth 100000 in
theorem pk_148 : (List.range 254).all (pm_chk 8 false cX8_next jm_148) = true := by decide +kernel
set_option maxRecDepth 100000 in
theorem pk_149 : (List.range 30).all (pm_chk 8 false cX8_info jm_149) = true := by decide +kernel
set_option maxRecDepth 100000 in
theorem pk_150 : (List.range 12).all (pm_chk 8 false cX8_level jm_150) = true := by decide +kernel
