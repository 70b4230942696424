set_option maxRecDepth 100000 in
theorem pk_0 : (List.range 18).all (pm_chk 0 true cX0_init jm_0) = true := by decide +kernel
set_option maxRecDepth 100000 in
theorem pk_1 : (List.range 13).all (pm_chk 0 false cX0_wordCount jm_1) = true := by decide +kernel
set_option maxRecDepth 100000 in
theorem pk_2 : (List.range 24).all (pm_chk 0 false cX0_wordAt jm_2) = true := by decide +kernel
set_option maxRecDepth 100000 in
theorem pk_3 : (List.range 21).all (pm_chk 0 false cX0_setWord jm_3) = true := by decide +kernel
set_option maxRecDepth 100000 in
theorem pk_4 : (List.range 66).all (pm_chk 0 false cX0_put jm_4) = true := by decide +kernel
set_option maxRecDepth 100000 in
theorem pk_5 : (List.range 67).all (pm_chk 0 false cX0_putChunks jm_5) = true := by decide +kernel
set_option maxRecDepth 100000 in
theorem pk_6 : (List.range 12).all (pm_chk 0 false cX0_align jm_6) = true := by decide +kernel
set_option maxRecDepth 100000 in
theorem pk_7 : (List.range 65).all (pm_chk 0 false cX0_cutTo jm_7) = true := by decide +kernel
set_option maxRecDepth 100000 in
theorem pk_8 : (List.range 30).all (pm_chk 1 true cX1_init jm_8) = true := by decide +kernel
set_option maxRecDepth 100000 in
theorem pk_9 : (List.range 26).all (pm_chk 2 true cX2_init jm_9) = true := by decide +kernel
set_option maxRecDepth 100000 in
theorem pk_10 : (List.range 15).all (pm_chk 2 false cX2_isFull jm_10) = true := by decide +kernel
set_option maxRecDepth 100000 in
theorem pk_11 : (List.range 39).all (pm_chk 2 false cX2_addOp jm_11) = true := by decide +kernel
set_option maxRecDepth 100000 in
theorem pk_12 : (List.range 23).all (pm_chk 2 false cX2_kindAt jm_12) = true := by decide +kernel
set_option maxRecDepth 100000 in
theorem pk_13 : (List.range 23).all (pm_chk 2 false cX2_numberAt jm_13) = true := by decide +kernel
set_option maxRecDepth 100000 in
theorem pk_14 : (List.range 48).all (pm_chk 2 false cX2_isForm jm_14) = true := by decide +kernel
set_option maxRecDepth 100000 in
theorem pk_15 : (List.range 34).all (pm_chk 2 false cX2_mayBeRow jm_15) = true := by decide +kernel
set_option maxRecDepth 100000 in
theorem pk_16 : (List.range 20).all (pm_chk 2 false cX2_hasRow jm_16) = true := by decide +kernel
set_option maxRecDepth 100000 in
theorem pk_17 : (List.range 21).all (pm_chk 2 false cX2_singles jm_17) = true := by decide +kernel
set_option maxRecDepth 100000 in
theorem pk_18 : (List.range 77).all (pm_chk 2 false cX2_isFitFor jm_18) = true := by decide +kernel
set_option maxRecDepth 100000 in
theorem pk_19 : (List.range 65).all (pm_chk 2 false cX2_matches jm_19) = true := by decide +kernel
set_option maxRecDepth 100000 in
theorem pk_20 : (List.range 23).all (pm_chk 3 true cX3_init jm_20) = true := by decide +kernel
set_option maxRecDepth 100000 in
theorem pk_21 : (List.range 25).all (pm_chk 3 false cX3_removeForms jm_21) = true := by decide +kernel
set_option maxRecDepth 100000 in
theorem pk_22 : (List.range 24).all (pm_chk 3 false cX3_hasRoom jm_22) = true := by decide +kernel
set_option maxRecDepth 100000 in
theorem pk_23 : (List.range 48).all (pm_chk 3 false cX3_addForm jm_23) = true := by decide +kernel
set_option maxRecDepth 100000 in
theorem pk_24 : (List.range 40).all (pm_chk 3 false cX3_find jm_24) = true := by decide +kernel
set_option maxRecDepth 100000 in
theorem pk_25 : (List.range 68).all (pm_chk 3 false cX3_copyRow jm_25) = true := by decide +kernel
