set_option maxRecDepth 100000 in
theorem pk_26 : (List.range 16).all (pm_chk 3 false cX3_isRow jm_26) = true := by decide +kernel
set_option maxRecDepth 100000 in
theorem pk_27 : (List.range 60).all (pm_chk 4 true cX4_init jm_27) = true := by decide +kernel
set_option maxRecDepth 100000 in
theorem pk_28 : (List.range 13).all (pm_chk 4 false cX4_startAnew jm_28) = true := by decide +kernel
set_option maxRecDepth 100000 in
theorem pk_29 : (List.range 10).all (pm_chk 4 false cX4_inner jm_29) = true := by decide +kernel
set_option maxRecDepth 100000 in
theorem pk_30 : (List.range 16).all (pm_chk 4 false cX4_isInInfo jm_30) = true := by decide +kernel
set_option maxRecDepth 100000 in
theorem pk_31 : (List.range 15).all (pm_chk 4 false cX4_isDeepest jm_31) = true := by decide +kernel
set_option maxRecDepth 100000 in
theorem pk_32 : (List.range 76).all (pm_chk 4 false cX4_push jm_32) = true := by decide +kernel
set_option maxRecDepth 100000 in
theorem pk_33 : (List.range 18).all (pm_chk 4 false cX4_pop jm_33) = true := by decide +kernel
set_option maxRecDepth 100000 in
theorem pk_34 : (List.range 8).all (pm_chk 4 false cX4_ownRow jm_34) = true := by decide +kernel
set_option maxRecDepth 100000 in
theorem pk_35 : (List.range 13).all (pm_chk 4 false cX4_find jm_35) = true := by decide +kernel
set_option maxRecDepth 100000 in
theorem pk_36 : (List.range 30).all (pm_chk 4 false cX4_rowToExtend jm_36) = true := by decide +kernel
set_option maxRecDepth 100000 in
theorem pk_37 : (List.range 60).all (pm_chk 5 true cX5_init jm_37) = true := by decide +kernel
set_option maxRecDepth 100000 in
theorem pk_38 : (List.range 23).all (pm_chk 5 false cX5_goBack jm_38) = true := by decide +kernel
set_option maxRecDepth 100000 in
theorem pk_39 : (List.range 32).all (pm_chk 5 false cX5_takeOver jm_39) = true := by decide +kernel
set_option maxRecDepth 100000 in
theorem pk_40 : (List.range 40).all (pm_chk 5 false cX5_appendWord jm_40) = true := by decide +kernel
set_option maxRecDepth 100000 in
theorem pk_41 : (List.range 27).all (pm_chk 5 false cX5_replaceWord jm_41) = true := by decide +kernel
set_option maxRecDepth 100000 in
theorem pk_42 : (List.range 16).all (pm_chk 5 false cX5_removeAll jm_42) = true := by decide +kernel
set_option maxRecDepth 100000 in
theorem pk_43 : (List.range 23).all (pm_chk 5 false cX5_shownAt jm_43) = true := by decide +kernel
set_option maxRecDepth 100000 in
theorem pk_44 : (List.range 72).all (pm_chk 5 false cX5_readOn jm_44) = true := by decide +kernel
set_option maxRecDepth 100000 in
theorem pk_45 : (List.range 107).all (pm_chk 5 false cX5_readItem jm_45) = true := by decide +kernel
set_option maxRecDepth 100000 in
theorem pk_46 : (List.range 115).all (pm_chk 5 false cX5_readEnter jm_46) = true := by decide +kernel
set_option maxRecDepth 100000 in
theorem pk_47 : (List.range 57).all (pm_chk 5 false cX5_readLeave jm_47) = true := by decide +kernel
set_option maxRecDepth 100000 in
theorem pk_48 : (List.range 136).all (pm_chk 5 false cX5_readForm jm_48) = true := by decide +kernel
