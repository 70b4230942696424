set_option maxRecDepth 100000 in
theorem pk_65 : (List.range 75).all (pm_chk 6 false cX6_closeBlock jm_65) = true := by decide +kernel
set_option maxRecDepth 100000 in
theorem pk_66 : (List.range 140).all (pm_chk 6 false cX6_writeForm jm_66) = true := by decide +kernel
set_option maxRecDepth 100000 in
theorem pk_67 : (List.range 183).all (pm_chk 6 false cX6_writeRecord jm_67) = true := by decide +kernel
set_option maxRecDepth 100000 in
theorem pk_68 : (List.range 47).all (pm_chk 6 false cX6_mayBeWrittenBy jm_68) = true := by decide +kernel
set_option maxRecDepth 100000 in
theorem pk_69 : (List.range 30).all (pm_chk 6 false cX6_hasRoomToLeave jm_69) = true := by decide +kernel
set_option maxRecDepth 100000 in
theorem pk_70 : (List.range 61).all (pm_chk 6 false cX6_putForm jm_70) = true := by decide +kernel
set_option maxRecDepth 100000 in
theorem pk_71 : (List.range 57).all (pm_chk 6 false cX6_putOp jm_71) = true := by decide +kernel
set_option maxRecDepth 100000 in
theorem pk_72 : (List.range 62).all (pm_chk 6 false cX6_putPlain jm_72) = true := by decide +kernel
set_option maxRecDepth 100000 in
theorem pk_73 : (List.range 87).all (pm_chk 6 false cX6_putByForm jm_73) = true := by decide +kernel
set_option maxRecDepth 100000 in
theorem pk_74 : (List.range 48).all (pm_chk 6 false cX6_putByOp jm_74) = true := by decide +kernel
set_option maxRecDepth 100000 in
theorem pk_75 : (List.range 27).all (pm_chk 7 true cX7_init jm_75) = true := by decide +kernel
set_option maxRecDepth 100000 in
theorem pk_76 : (List.range 10).all (pm_chk 7 false cX7_enter jm_76) = true := by decide +kernel
set_option maxRecDepth 100000 in
theorem pk_77 : (List.range 8).all (pm_chk 7 false cX7_leave jm_77) = true := by decide +kernel
set_option maxRecDepth 100000 in
theorem pk_78 : (List.range 10).all (pm_chk 7 false cX7_op jm_78) = true := by decide +kernel
set_option maxRecDepth 100000 in
theorem pk_79 : (List.range 9).all (pm_chk 7 false cX7_value jm_79) = true := by decide +kernel
set_option maxRecDepth 100000 in
theorem pk_80 : (List.range 8).all (pm_chk 7 false cX7_drop jm_80) = true := by decide +kernel
set_option maxRecDepth 100000 in
theorem pk_81 : (List.range 8).all (pm_chk 7 false cX7_form jm_81) = true := by decide +kernel
set_option maxRecDepth 100000 in
theorem pk_82 : (List.range 10).all (pm_chk 7 false cX7_record jm_82) = true := by decide +kernel
set_option maxRecDepth 100000 in
theorem pk_83 : (List.range 11).all (pm_chk 7 false cX7_words jm_83) = true := by decide +kernel
set_option maxRecDepth 100000 in
theorem pk_84 : (List.range 12).all (pm_chk 7 false cX7_word jm_84) = true := by decide +kernel
