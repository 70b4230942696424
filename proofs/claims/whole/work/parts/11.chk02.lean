set_option maxRecDepth 100000 in
theorem pk_49 : (List.range 76).all (pm_chk 5 false cX5_takeOp jm_49) = true := by decide +kernel
set_option maxRecDepth 100000 in
theorem pk_50 : (List.range 64).all (pm_chk 5 false cX5_takePlain jm_50) = true := by decide +kernel
set_option maxRecDepth 100000 in
theorem pk_51 : (List.range 123).all (pm_chk 5 false cX5_takeByForm jm_51) = true := by decide +kernel
set_option maxRecDepth 100000 in
theorem pk_52 : (List.range 50).all (pm_chk 5 false cX5_takeByOp jm_52) = true := by decide +kernel
set_option maxRecDepth 100000 in
theorem pk_53 : (List.range 32).all (pm_chk 5 false cX5_takeTarget jm_53) = true := by decide +kernel
set_option maxRecDepth 100000 in
theorem pk_54 : (List.range 53).all (pm_chk 5 false cX5_showRecord jm_54) = true := by decide +kernel
set_option maxRecDepth 100000 in
theorem pk_55 : (List.range 108).all (pm_chk 5 false cX5_take jm_55) = true := by decide +kernel
set_option maxRecDepth 100000 in
theorem pk_56 : (List.range 23).all (pm_chk 5 false cX5_takeLength jm_56) = true := by decide +kernel
set_option maxRecDepth 100000 in
theorem pk_57 : (List.range 120).all (pm_chk 5 false cX5_takeChunks jm_57) = true := by decide +kernel
set_option maxRecDepth 100000 in
theorem pk_58 : (List.range 37).all (pm_chk 5 false cX5_takeZeros jm_58) = true := by decide +kernel
set_option maxRecDepth 100000 in
theorem pk_59 : (List.range 51).all (pm_chk 6 true cX6_init jm_59) = true := by decide +kernel
set_option maxRecDepth 100000 in
theorem pk_60 : (List.range 20).all (pm_chk 6 false cX6_startAnew jm_60) = true := by decide +kernel
set_option maxRecDepth 100000 in
theorem pk_61 : (List.range 14).all (pm_chk 6 false cX6_forgetPrepared jm_61) = true := by decide +kernel
set_option maxRecDepth 100000 in
theorem pk_62 : (List.range 40).all (pm_chk 6 false cX6_prepareOp jm_62) = true := by decide +kernel
set_option maxRecDepth 100000 in
theorem pk_63 : (List.range 45).all (pm_chk 6 false cX6_prepareValue jm_63) = true := by decide +kernel
set_option maxRecDepth 100000 in
theorem pk_64 : (List.range 143).all (pm_chk 6 false cX6_openBlock jm_64) = true := by decide +kernel
