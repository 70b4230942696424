set_option maxRecDepth 100000 in
set_option maxHeartbeats 4000000 in
theorem pe_0 : ∀ pc, (jm_0 pc).1 = .nop ∨ pc < 18 := by
  intro pc
  unfold jm_0
  split <;> first | exact Or.inl rfl | exact Or.inr (by decide)
set_option maxRecDepth 100000 in
set_option maxHeartbeats 4000000 in
theorem pe_1 : ∀ pc, (jm_1 pc).1 = .nop ∨ pc < 13 := by
  intro pc
  unfold jm_1
  split <;> first | exact Or.inl rfl | exact Or.inr (by decide)
set_option maxRecDepth 100000 in
set_option maxHeartbeats 4000000 in
theorem pe_2 : ∀ pc, (jm_2 pc).1 = .nop ∨ pc < 24 := by
  intro pc
  unfold jm_2
  split <;> first | exact Or.inl rfl | exact Or.inr (by decide)
set_option maxRecDepth 100000 in
set_option maxHeartbeats 4000000 in
theorem pe_3 : ∀ pc, (jm_3 pc).1 = .nop ∨ pc < 21 := by
  intro pc
  unfold jm_3
  split <;> first | exact Or.inl rfl | exact Or.inr (by decide)
set_option maxRecDepth 100000 in
set_option maxHeartbeats 4000000 in
theorem pe_4 : ∀ pc, (jm_4 pc).1 = .nop ∨ pc < 66 := by
  intro pc
  unfold jm_4
  split <;> first | exact Or.inl rfl | exact Or.inr (by decide)
set_option maxRecDepth 100000 in
set_option maxHeartbeats 4000000 in
theorem pe_5 : ∀ pc, (jm_5 pc).1 = .nop ∨ pc < 67 := by
  intro pc
  unfold jm_5
  split <;> first | exact Or.inl rfl | exact Or.inr (by decide)
set_option maxRecDepth 100000 in
set_option maxHeartbeats 4000000 in
theorem pe_6 : ∀ pc, (jm_6 pc).1 = .nop ∨ pc < 12 := by
  intro pc
  unfold jm_6
  split <;> first | exact Or.inl rfl | exact Or.inr (by decide)
set_option maxRecDepth 100000 in
set_option maxHeartbeats 4000000 in
theorem pe_7 : ∀ pc, (jm_7 pc).1 = .nop ∨ pc < 65 := by
  intro pc
  unfold jm_7
  split <;> first | exact Or.inl rfl | exact Or.inr (by decide)
set_option maxRecDepth 100000 in
set_option maxHeartbeats 4000000 in
theorem pe_8 : ∀ pc, (jm_8 pc).1 = .nop ∨ pc < 30 := by
  intro pc
  unfold jm_8
  split <;> first | exact Or.inl rfl | exact Or.inr (by decide)
set_option maxRecDepth 100000 in
set_option maxHeartbeats 4000000 in
theorem pe_9 : ∀ pc, (jm_9 pc).1 = .nop ∨ pc < 26 := by
  intro pc
  unfold jm_9
  split <;> first | exact Or.inl rfl | exact Or.inr (by decide)
set_option maxRecDepth 100000 in
set_option maxHeartbeats 4000000 in
theorem pe_10 : ∀ pc, (jm_10 pc).1 = .nop ∨ pc < 15 := by
  intro pc
  unfold jm_10
  split <;> first | exact Or.inl rfl | exact Or.inr (by decide)
set_option maxRecDepth 100000 in
set_option maxHeartbeats 4000000 in
theorem pe_11 : ∀ pc, (jm_11 pc).1 = .nop ∨ pc < 39 := by
  intro pc
  unfold jm_11
  split <;> first | exact Or.inl rfl | exact Or.inr (by decide)
set_option maxRecDepth 100000 in
set_option maxHeartbeats 4000000 in
theorem pe_12 : ∀ pc, (jm_12 pc).1 = .nop ∨ pc < 23 := by
  intro pc
  unfold jm_12
  split <;> first | exact Or.inl rfl | exact Or.inr (by decide)
set_option maxRecDepth 100000 in
set_option maxHeartbeats 4000000 in
theorem pe_13 : ∀ pc, (jm_13 pc).1 = .nop ∨ pc < 23 := by
  intro pc
  unfold jm_13
  split <;> first | exact Or.inl rfl | exact Or.inr (by decide)
set_option maxRecDepth 100000 in
set_option maxHeartbeats 4000000 in
theorem pe_14 : ∀ pc, (jm_14 pc).1 = .nop ∨ pc < 48 := by
  intro pc
  unfold jm_14
  split <;> first | exact Or.inl rfl | exact Or.inr (by decide)
set_option maxRecDepth 100000 in
set_option maxHeartbeats 4000000 in
theorem pe_15 : ∀ pc, (jm_15 pc).1 = .nop ∨ pc < 34 := by
  intro pc
  unfold jm_15
  split <;> first | exact Or.inl rfl | exact Or.inr (by decide)
set_option maxRecDepth 100000 in
set_option maxHeartbeats 4000000 in
theorem pe_16 : ∀ pc, (jm_16 pc).1 = .nop ∨ pc < 20 := by
  intro pc
  unfold jm_16
  split <;> first | exact Or.inl rfl | exact Or.inr (by decide)
set_option maxRecDepth 100000 in
set_option maxHeartbeats 4000000 in
theorem pe_17 : ∀ pc, (jm_17 pc).1 = .nop ∨ pc < 21 := by
  intro pc
  unfold jm_17
  split <;> first | exact Or.inl rfl | exact Or.inr (by decide)
set_option maxRecDepth 100000 in
set_option maxHeartbeats 4000000 in
theorem pe_18 : ∀ pc, (jm_18 pc).1 = .nop ∨ pc < 77 := by
  intro pc
  unfold jm_18
  split <;> first | exact Or.inl rfl | exact Or.inr (by decide)
set_option maxRecDepth 100000 in
set_option maxHeartbeats 4000000 in
theorem pe_19 : ∀ pc, (jm_19 pc).1 = .nop ∨ pc < 65 := by
  intro pc
  unfold jm_19
  split <;> first | exact Or.inl rfl | exact Or.inr (by decide)
set_option maxRecDepth 100000 in
set_option maxHeartbeats 4000000 in
theorem pe_20 : ∀ pc, (jm_20 pc).1 = .nop ∨ pc < 23 := by
  intro pc
  unfold jm_20
  split <;> first | exact Or.inl rfl | exact Or.inr (by decide)
set_option maxRecDepth 100000 in
set_option maxHeartbeats 4000000 in
theorem pe_21 : ∀ pc, (jm_21 pc).1 = .nop ∨ pc < 25 := by
  intro pc
  unfold jm_21
  split <;> first | exact Or.inl rfl | exact Or.inr (by decide)
set_option maxRecDepth 100000 in
set_option maxHeartbeats 4000000 in
theorem pe_22 : ∀ pc, (jm_22 pc).1 = .nop ∨ pc < 24 := by
  intro pc
  unfold jm_22
  split <;> first | exact Or.inl rfl | exact Or.inr (by decide)
set_option maxRecDepth 100000 in
set_option maxHeartbeats 4000000 in
theorem pe_23 : ∀ pc, (jm_23 pc).1 = .nop ∨ pc < 48 := by
  intro pc
  unfold jm_23
  split <;> first | exact Or.inl rfl | exact Or.inr (by decide)
set_option maxRecDepth 100000 in
set_option maxHeartbeats 4000000 in
theorem pe_24 : ∀ pc, (jm_24 pc).1 = .nop ∨ pc < 40 := by
  intro pc
  unfold jm_24
  split <;> first | exact Or.inl rfl | exact Or.inr (by decide)
set_option maxRecDepth 100000 in
set_option maxHeartbeats 4000000 in
theorem pe_25 : ∀ pc, (jm_25 pc).1 = .nop ∨ pc < 68 := by
  intro pc
  unfold jm_25
  split <;> first | exact Or.inl rfl | exact Or.inr (by decide)
set_option maxRecDepth 100000 in
set_option maxHeartbeats 4000000 in
theorem pe_26 : ∀ pc, (jm_26 pc).1 = .nop ∨ pc < 16 := by
  intro pc
  unfold jm_26
  split <;> first | exact Or.inl rfl | exact Or.inr (by decide)
set_option maxRecDepth 100000 in
set_option maxHeartbeats 4000000 in
theorem pe_27 : ∀ pc, (jm_27 pc).1 = .nop ∨ pc < 60 := by
  intro pc
  unfold jm_27
  split <;> first | exact Or.inl rfl | exact Or.inr (by decide)
set_option maxRecDepth 100000 in
set_option maxHeartbeats 4000000 in
theorem pe_28 : ∀ pc, (jm_28 pc).1 = .nop ∨ pc < 13 := by
  intro pc
  unfold jm_28
  split <;> first | exact Or.inl rfl | exact Or.inr (by decide)
set_option maxRecDepth 100000 in
set_option maxHeartbeats 4000000 in
theorem pe_29 : ∀ pc, (jm_29 pc).1 = .nop ∨ pc < 10 := by
  intro pc
  unfold jm_29
  split <;> first | exact Or.inl rfl | exact Or.inr (by decide)
set_option maxRecDepth 100000 in
set_option maxHeartbeats 4000000 in
theorem pe_30 : ∀ pc, (jm_30 pc).1 = .nop ∨ pc < 16 := by
  intro pc
  unfold jm_30
  split <;> first | exact Or.inl rfl | exact Or.inr (by decide)
set_option maxRecDepth 100000 in
set_option maxHeartbeats 4000000 in
theorem pe_31 : ∀ pc, (jm_31 pc).1 = .nop ∨ pc < 15 := by
  intro pc
  unfold jm_31
  split <;> first | exact Or.inl rfl | exact Or.inr (by decide)
set_option maxRecDepth 100000 in
set_option maxHeartbeats 4000000 in
theorem pe_32 : ∀ pc, (jm_32 pc).1 = .nop ∨ pc < 76 := by
  intro pc
  unfold jm_32
  split <;> first | exact Or.inl rfl | exact Or.inr (by decide)
set_option maxRecDepth 100000 in
set_option maxHeartbeats 4000000 in
theorem pe_33 : ∀ pc, (jm_33 pc).1 = .nop ∨ pc < 18 := by
  intro pc
  unfold jm_33
  split <;> first | exact Or.inl rfl | exact Or.inr (by decide)
set_option maxRecDepth 100000 in
set_option maxHeartbeats 4000000 in
theorem pe_34 : ∀ pc, (jm_34 pc).1 = .nop ∨ pc < 8 := by
  intro pc
  unfold jm_34
  split <;> first | exact Or.inl rfl | exact Or.inr (by decide)
set_option maxRecDepth 100000 in
set_option maxHeartbeats 4000000 in
theorem pe_35 : ∀ pc, (jm_35 pc).1 = .nop ∨ pc < 13 := by
  intro pc
  unfold jm_35
  split <;> first | exact Or.inl rfl | exact Or.inr (by decide)
set_option maxRecDepth 100000 in
set_option maxHeartbeats 4000000 in
theorem pe_36 : ∀ pc, (jm_36 pc).1 = .nop ∨ pc < 30 := by
  intro pc
  unfold jm_36
  split <;> first | exact Or.inl rfl | exact Or.inr (by decide)
set_option maxRecDepth 100000 in
set_option maxHeartbeats 4000000 in
theorem pe_37 : ∀ pc, (jm_37 pc).1 = .nop ∨ pc < 60 := by
  intro pc
  unfold jm_37
  split <;> first | exact Or.inl rfl | exact Or.inr (by decide)
set_option maxRecDepth 100000 in
set_option maxHeartbeats 4000000 in
theorem pe_38 : ∀ pc, (jm_38 pc).1 = .nop ∨ pc < 23 := by
  intro pc
  unfold jm_38
  split <;> first | exact Or.inl rfl | exact Or.inr (by decide)
set_option maxRecDepth 100000 in
set_option maxHeartbeats 4000000 in
theorem pe_39 : ∀ pc, (jm_39 pc).1 = .nop ∨ pc < 32 := by
  intro pc
  unfold jm_39
  split <;> first | exact Or.inl rfl | exact Or.inr (by decide)
set_option maxRecDepth 100000 in
set_option maxHeartbeats 4000000 in
theorem pe_40 : ∀ pc, (jm_40 pc).1 = .nop ∨ pc < 40 := by
  intro pc
  unfold jm_40
  split <;> first | exact Or.inl rfl | exact Or.inr (by decide)
set_option maxRecDepth 100000 in
set_option maxHeartbeats 4000000 in
theorem pe_41 : ∀ pc, (jm_41 pc).1 = .nop ∨ pc < 27 := by
  intro pc
  unfold jm_41
  split <;> first | exact Or.inl rfl | exact Or.inr (by decide)
set_option maxRecDepth 100000 in
set_option maxHeartbeats 4000000 in
theorem pe_42 : ∀ pc, (jm_42 pc).1 = .nop ∨ pc < 16 := by
  intro pc
  unfold jm_42
  split <;> first | exact Or.inl rfl | exact Or.inr (by decide)
set_option maxRecDepth 100000 in
set_option maxHeartbeats 4000000 in
theorem pe_43 : ∀ pc, (jm_43 pc).1 = .nop ∨ pc < 23 := by
  intro pc
  unfold jm_43
  split <;> first | exact Or.inl rfl | exact Or.inr (by decide)
set_option maxRecDepth 100000 in
set_option maxHeartbeats 4000000 in
theorem pe_44 : ∀ pc, (jm_44 pc).1 = .nop ∨ pc < 72 := by
  intro pc
  unfold jm_44
  split <;> first | exact Or.inl rfl | exact Or.inr (by decide)
set_option maxRecDepth 100000 in
set_option maxHeartbeats 4000000 in
theorem pe_45 : ∀ pc, (jm_45 pc).1 = .nop ∨ pc < 107 := by
  intro pc
  unfold jm_45
  split <;> first | exact Or.inl rfl | exact Or.inr (by decide)
set_option maxRecDepth 100000 in
set_option maxHeartbeats 4000000 in
theorem pe_46 : ∀ pc, (jm_46 pc).1 = .nop ∨ pc < 115 := by
  intro pc
  unfold jm_46
  split <;> first | exact Or.inl rfl | exact Or.inr (by decide)
set_option maxRecDepth 100000 in
set_option maxHeartbeats 4000000 in
theorem pe_47 : ∀ pc, (jm_47 pc).1 = .nop ∨ pc < 57 := by
  intro pc
  unfold jm_47
  split <;> first | exact Or.inl rfl | exact Or.inr (by decide)
set_option maxRecDepth 100000 in
set_option maxHeartbeats 4000000 in
theorem pe_48 : ∀ pc, (jm_48 pc).1 = .nop ∨ pc < 136 := by
  intro pc
  unfold jm_48
  split <;> first | exact Or.inl rfl | exact Or.inr (by decide)
set_option maxRecDepth 100000 in
set_option maxHeartbeats 4000000 in
theorem pe_49 : ∀ pc, (jm_49 pc).1 = .nop ∨ pc < 76 := by
  intro pc
  unfold jm_49
  split <;> first | exact Or.inl rfl | exact Or.inr (by decide)
set_option maxRecDepth 100000 in
set_option maxHeartbeats 4000000 in
theorem pe_50 : ∀ pc, (jm_50 pc).1 = .nop ∨ pc < 64 := by
  intro pc
  unfold jm_50
  split <;> first | exact Or.inl rfl | exact Or.inr (by decide)
set_option maxRecDepth 100000 in
set_option maxHeartbeats 4000000 in
theorem pe_51 : ∀ pc, (jm_51 pc).1 = .nop ∨ pc < 123 := by
  intro pc
  unfold jm_51
  split <;> first | exact Or.inl rfl | exact Or.inr (by decide)
set_option maxRecDepth 100000 in
set_option maxHeartbeats 4000000 in
theorem pe_52 : ∀ pc, (jm_52 pc).1 = .nop ∨ pc < 50 := by
  intro pc
  unfold jm_52
  split <;> first | exact Or.inl rfl | exact Or.inr (by decide)
set_option maxRecDepth 100000 in
set_option maxHeartbeats 4000000 in
theorem pe_53 : ∀ pc, (jm_53 pc).1 = .nop ∨ pc < 32 := by
  intro pc
  unfold jm_53
  split <;> first | exact Or.inl rfl | exact Or.inr (by decide)
set_option maxRecDepth 100000 in
set_option maxHeartbeats 4000000 in
theorem pe_54 : ∀ pc, (jm_54 pc).1 = .nop ∨ pc < 53 := by
  intro pc
  unfold jm_54
  split <;> first | exact Or.inl rfl | exact Or.inr (by decide)
set_option maxRecDepth 100000 in
set_option maxHeartbeats 4000000 in
theorem pe_55 : ∀ pc, (jm_55 pc).1 = .nop ∨ pc < 108 := by
  intro pc
  unfold jm_55
  split <;> first | exact Or.inl rfl | exact Or.inr (by decide)
set_option maxRecDepth 100000 in
set_option maxHeartbeats 4000000 in
theorem pe_56 : ∀ pc, (jm_56 pc).1 = .nop ∨ pc < 23 := by
  intro pc
  unfold jm_56
  split <;> first | exact Or.inl rfl | exact Or.inr (by decide)
set_option maxRecDepth 100000 in
set_option maxHeartbeats 4000000 in
theorem pe_57 : ∀ pc, (jm_57 pc).1 = .nop ∨ pc < 120 := by
  intro pc
  unfold jm_57
  split <;> first | exact Or.inl rfl | exact Or.inr (by decide)
set_option maxRecDepth 100000 in
set_option maxHeartbeats 4000000 in
theorem pe_58 : ∀ pc, (jm_58 pc).1 = .nop ∨ pc < 37 := by
  intro pc
  unfold jm_58
  split <;> first | exact Or.inl rfl | exact Or.inr (by decide)
set_option maxRecDepth 100000 in
set_option maxHeartbeats 4000000 in
theorem pe_59 : ∀ pc, (jm_59 pc).1 = .nop ∨ pc < 51 := by
  intro pc
  unfold jm_59
  split <;> first | exact Or.inl rfl | exact Or.inr (by decide)
set_option maxRecDepth 100000 in
set_option maxHeartbeats 4000000 in
theorem pe_60 : ∀ pc, (jm_60 pc).1 = .nop ∨ pc < 20 := by
  intro pc
  unfold jm_60
  split <;> first | exact Or.inl rfl | exact Or.inr (by decide)
set_option maxRecDepth 100000 in
set_option maxHeartbeats 4000000 in
theorem pe_61 : ∀ pc, (jm_61 pc).1 = .nop ∨ pc < 14 := by
  intro pc
  unfold jm_61
  split <;> first | exact Or.inl rfl | exact Or.inr (by decide)
set_option maxRecDepth 100000 in
set_option maxHeartbeats 4000000 in
theorem pe_62 : ∀ pc, (jm_62 pc).1 = .nop ∨ pc < 40 := by
  intro pc
  unfold jm_62
  split <;> first | exact Or.inl rfl | exact Or.inr (by decide)
set_option maxRecDepth 100000 in
set_option maxHeartbeats 4000000 in
theorem pe_63 : ∀ pc, (jm_63 pc).1 = .nop ∨ pc < 45 := by
  intro pc
  unfold jm_63
  split <;> first | exact Or.inl rfl | exact Or.inr (by decide)
set_option maxRecDepth 100000 in
set_option maxHeartbeats 4000000 in
theorem pe_64 : ∀ pc, (jm_64 pc).1 = .nop ∨ pc < 143 := by
  intro pc
  unfold jm_64
  split <;> first | exact Or.inl rfl | exact Or.inr (by decide)
set_option maxRecDepth 100000 in
set_option maxHeartbeats 4000000 in
theorem pe_65 : ∀ pc, (jm_65 pc).1 = .nop ∨ pc < 75 := by
  intro pc
  unfold jm_65
  split <;> first | exact Or.inl rfl | exact Or.inr (by decide)
set_option maxRecDepth 100000 in
set_option maxHeartbeats 4000000 in
theorem pe_66 : ∀ pc, (jm_66 pc).1 = .nop ∨ pc < 140 := by
  intro pc
  unfold jm_66
  split <;> first | exact Or.inl rfl | exact Or.inr (by decide)
set_option maxRecDepth 100000 in
set_option maxHeartbeats 4000000 in
theorem pe_67 : ∀ pc, (jm_67 pc).1 = .nop ∨ pc < 183 := by
  intro pc
  unfold jm_67
  split <;> first | exact Or.inl rfl | exact Or.inr (by decide)
set_option maxRecDepth 100000 in
set_option maxHeartbeats 4000000 in
theorem pe_68 : ∀ pc, (jm_68 pc).1 = .nop ∨ pc < 47 := by
  intro pc
  unfold jm_68
  split <;> first | exact Or.inl rfl | exact Or.inr (by decide)
set_option maxRecDepth 100000 in
set_option maxHeartbeats 4000000 in
theorem pe_69 : ∀ pc, (jm_69 pc).1 = .nop ∨ pc < 30 := by
  intro pc
  unfold jm_69
  split <;> first | exact Or.inl rfl | exact Or.inr (by decide)
set_option maxRecDepth 100000 in
set_option maxHeartbeats 4000000 in
theorem pe_70 : ∀ pc, (jm_70 pc).1 = .nop ∨ pc < 61 := by
  intro pc
  unfold jm_70
  split <;> first | exact Or.inl rfl | exact Or.inr (by decide)
set_option maxRecDepth 100000 in
set_option maxHeartbeats 4000000 in
theorem pe_71 : ∀ pc, (jm_71 pc).1 = .nop ∨ pc < 57 := by
  intro pc
  unfold jm_71
  split <;> first | exact Or.inl rfl | exact Or.inr (by decide)
set_option maxRecDepth 100000 in
set_option maxHeartbeats 4000000 in
theorem pe_72 : ∀ pc, (jm_72 pc).1 = .nop ∨ pc < 62 := by
  intro pc
  unfold jm_72
  split <;> first | exact Or.inl rfl | exact Or.inr (by decide)
set_option maxRecDepth 100000 in
set_option maxHeartbeats 4000000 in
theorem pe_73 : ∀ pc, (jm_73 pc).1 = .nop ∨ pc < 87 := by
  intro pc
  unfold jm_73
  split <;> first | exact Or.inl rfl | exact Or.inr (by decide)
set_option maxRecDepth 100000 in
set_option maxHeartbeats 4000000 in
theorem pe_74 : ∀ pc, (jm_74 pc).1 = .nop ∨ pc < 48 := by
  intro pc
  unfold jm_74
  split <;> first | exact Or.inl rfl | exact Or.inr (by decide)
set_option maxRecDepth 100000 in
set_option maxHeartbeats 4000000 in
theorem pe_75 : ∀ pc, (jm_75 pc).1 = .nop ∨ pc < 27 := by
  intro pc
  unfold jm_75
  split <;> first | exact Or.inl rfl | exact Or.inr (by decide)
set_option maxRecDepth 100000 in
set_option maxHeartbeats 4000000 in
theorem pe_76 : ∀ pc, (jm_76 pc).1 = .nop ∨ pc < 10 := by
  intro pc
  unfold jm_76
  split <;> first | exact Or.inl rfl | exact Or.inr (by decide)
set_option maxRecDepth 100000 in
set_option maxHeartbeats 4000000 in
theorem pe_77 : ∀ pc, (jm_77 pc).1 = .nop ∨ pc < 8 := by
  intro pc
  unfold jm_77
  split <;> first | exact Or.inl rfl | exact Or.inr (by decide)
set_option maxRecDepth 100000 in
set_option maxHeartbeats 4000000 in
theorem pe_78 : ∀ pc, (jm_78 pc).1 = .nop ∨ pc < 10 := by
  intro pc
  unfold jm_78
  split <;> first | exact Or.inl rfl | exact Or.inr (by decide)
set_option maxRecDepth 100000 in
set_option maxHeartbeats 4000000 in
theorem pe_79 : ∀ pc, (jm_79 pc).1 = .nop ∨ pc < 9 := by
  intro pc
  unfold jm_79
  split <;> first | exact Or.inl rfl | exact Or.inr (by decide)
set_option maxRecDepth 100000 in
set_option maxHeartbeats 4000000 in
theorem pe_80 : ∀ pc, (jm_80 pc).1 = .nop ∨ pc < 8 := by
  intro pc
  unfold jm_80
  split <;> first | exact Or.inl rfl | exact Or.inr (by decide)
set_option maxRecDepth 100000 in
set_option maxHeartbeats 4000000 in
theorem pe_81 : ∀ pc, (jm_81 pc).1 = .nop ∨ pc < 8 := by
  intro pc
  unfold jm_81
  split <;> first | exact Or.inl rfl | exact Or.inr (by decide)
set_option maxRecDepth 100000 in
set_option maxHeartbeats 4000000 in
theorem pe_82 : ∀ pc, (jm_82 pc).1 = .nop ∨ pc < 10 := by
  intro pc
  unfold jm_82
  split <;> first | exact Or.inl rfl | exact Or.inr (by decide)
set_option maxRecDepth 100000 in
set_option maxHeartbeats 4000000 in
theorem pe_83 : ∀ pc, (jm_83 pc).1 = .nop ∨ pc < 11 := by
  intro pc
  unfold jm_83
  split <;> first | exact Or.inl rfl | exact Or.inr (by decide)
set_option maxRecDepth 100000 in
set_option maxHeartbeats 4000000 in
theorem pe_84 : ∀ pc, (jm_84 pc).1 = .nop ∨ pc < 12 := by
  intro pc
  unfold jm_84
  split <;> first | exact Or.inl rfl | exact Or.inr (by decide)
set_option maxRecDepth 100000 in
set_option maxHeartbeats 4000000 in
theorem pe_85 : ∀ pc, (jm_85 pc).1 = .nop ∨ pc < 11 := by
  intro pc
  unfold jm_85
  split <;> first | exact Or.inl rfl | exact Or.inr (by decide)
set_option maxRecDepth 100000 in
set_option maxHeartbeats 4000000 in
theorem pe_86 : ∀ pc, (jm_86 pc).1 = .nop ∨ pc < 8 := by
  intro pc
  unfold jm_86
  split <;> first | exact Or.inl rfl | exact Or.inr (by decide)
set_option maxRecDepth 100000 in
set_option maxHeartbeats 4000000 in
theorem pe_87 : ∀ pc, (jm_87 pc).1 = .nop ∨ pc < 30 := by
  intro pc
  unfold jm_87
  split <;> first | exact Or.inl rfl | exact Or.inr (by decide)
set_option maxRecDepth 100000 in
set_option maxHeartbeats 4000000 in
theorem pe_88 : ∀ pc, (jm_88 pc).1 = .nop ∨ pc < 9 := by
  intro pc
  unfold jm_88
  split <;> first | exact Or.inl rfl | exact Or.inr (by decide)
set_option maxRecDepth 100000 in
set_option maxHeartbeats 4000000 in
theorem pe_89 : ∀ pc, (jm_89 pc).1 = .nop ∨ pc < 10 := by
  intro pc
  unfold jm_89
  split <;> first | exact Or.inl rfl | exact Or.inr (by decide)
set_option maxRecDepth 100000 in
set_option maxHeartbeats 4000000 in
theorem pe_90 : ∀ pc, (jm_90 pc).1 = .nop ∨ pc < 8 := by
  intro pc
  unfold jm_90
  split <;> first | exact Or.inl rfl | exact Or.inr (by decide)
set_option maxRecDepth 100000 in
set_option maxHeartbeats 4000000 in
theorem pe_91 : ∀ pc, (jm_91 pc).1 = .nop ∨ pc < 8 := by
  intro pc
  unfold jm_91
  split <;> first | exact Or.inl rfl | exact Or.inr (by decide)
set_option maxRecDepth 100000 in
set_option maxHeartbeats 4000000 in
theorem pe_92 : ∀ pc, (jm_92 pc).1 = .nop ∨ pc < 8 := by
  intro pc
  unfold jm_92
  split <;> first | exact Or.inl rfl | exact Or.inr (by decide)
set_option maxRecDepth 100000 in
set_option maxHeartbeats 4000000 in
theorem pe_93 : ∀ pc, (jm_93 pc).1 = .nop ∨ pc < 9 := by
  intro pc
  unfold jm_93
  split <;> first | exact Or.inl rfl | exact Or.inr (by decide)
set_option maxRecDepth 100000 in
set_option maxHeartbeats 4000000 in
theorem pe_94 : ∀ pc, (jm_94 pc).1 = .nop ∨ pc < 11 := by
  intro pc
  unfold jm_94
  split <;> first | exact Or.inl rfl | exact Or.inr (by decide)
set_option maxRecDepth 100000 in
set_option maxHeartbeats 4000000 in
theorem pe_95 : ∀ pc, (jm_95 pc).1 = .nop ∨ pc < 27 := by
  intro pc
  unfold jm_95
  split <;> first | exact Or.inl rfl | exact Or.inr (by decide)
set_option maxRecDepth 100000 in
set_option maxHeartbeats 4000000 in
theorem pe_96 : ∀ pc, (jm_96 pc).1 = .nop ∨ pc < 80 := by
  intro pc
  unfold jm_96
  split <;> first | exact Or.inl rfl | exact Or.inr (by decide)
set_option maxRecDepth 100000 in
set_option maxHeartbeats 4000000 in
theorem pe_97 : ∀ pc, (jm_97 pc).1 = .nop ∨ pc < 38 := by
  intro pc
  unfold jm_97
  split <;> first | exact Or.inl rfl | exact Or.inr (by decide)
set_option maxRecDepth 100000 in
set_option maxHeartbeats 4000000 in
theorem pe_98 : ∀ pc, (jm_98 pc).1 = .nop ∨ pc < 151 := by
  intro pc
  unfold jm_98
  split <;> first | exact Or.inl rfl | exact Or.inr (by decide)
set_option maxRecDepth 100000 in
set_option maxHeartbeats 4000000 in
theorem pe_99 : ∀ pc, (jm_99 pc).1 = .nop ∨ pc < 5 := by
  intro pc
  unfold jm_99
  split <;> first | exact Or.inl rfl | exact Or.inr (by decide)
set_option maxRecDepth 100000 in
set_option maxHeartbeats 4000000 in
theorem pe_100 : ∀ pc, (jm_100 pc).1 = .nop ∨ pc < 16 := by
  intro pc
  unfold jm_100
  split <;> first | exact Or.inl rfl | exact Or.inr (by decide)
set_option maxRecDepth 100000 in
set_option maxHeartbeats 4000000 in
theorem pe_101 : ∀ pc, (jm_101 pc).1 = .nop ∨ pc < 69 := by
  intro pc
  unfold jm_101
  split <;> first | exact Or.inl rfl | exact Or.inr (by decide)
set_option maxRecDepth 100000 in
set_option maxHeartbeats 4000000 in
theorem pe_102 : ∀ pc, (jm_102 pc).1 = .nop ∨ pc < 67 := by
  intro pc
  unfold jm_102
  split <;> first | exact Or.inl rfl | exact Or.inr (by decide)
set_option maxRecDepth 100000 in
set_option maxHeartbeats 4000000 in
theorem pe_103 : ∀ pc, (jm_103 pc).1 = .nop ∨ pc < 22 := by
  intro pc
  unfold jm_103
  split <;> first | exact Or.inl rfl | exact Or.inr (by decide)
set_option maxRecDepth 100000 in
set_option maxHeartbeats 4000000 in
theorem pe_104 : ∀ pc, (jm_104 pc).1 = .nop ∨ pc < 30 := by
  intro pc
  unfold jm_104
  split <;> first | exact Or.inl rfl | exact Or.inr (by decide)
set_option maxRecDepth 100000 in
set_option maxHeartbeats 4000000 in
theorem pe_105 : ∀ pc, (jm_105 pc).1 = .nop ∨ pc < 105 := by
  intro pc
  unfold jm_105
  split <;> first | exact Or.inl rfl | exact Or.inr (by decide)
set_option maxRecDepth 100000 in
set_option maxHeartbeats 4000000 in
theorem pe_106 : ∀ pc, (jm_106 pc).1 = .nop ∨ pc < 34 := by
  intro pc
  unfold jm_106
  split <;> first | exact Or.inl rfl | exact Or.inr (by decide)
set_option maxRecDepth 100000 in
set_option maxHeartbeats 4000000 in
theorem pe_107 : ∀ pc, (jm_107 pc).1 = .nop ∨ pc < 127 := by
  intro pc
  unfold jm_107
  split <;> first | exact Or.inl rfl | exact Or.inr (by decide)
set_option maxRecDepth 100000 in
set_option maxHeartbeats 4000000 in
theorem pe_108 : ∀ pc, (jm_108 pc).1 = .nop ∨ pc < 139 := by
  intro pc
  unfold jm_108
  split <;> first | exact Or.inl rfl | exact Or.inr (by decide)
set_option maxRecDepth 100000 in
set_option maxHeartbeats 4000000 in
theorem pe_109 : ∀ pc, (jm_109 pc).1 = .nop ∨ pc < 79 := by
  intro pc
  unfold jm_109
  split <;> first | exact Or.inl rfl | exact Or.inr (by decide)
set_option maxRecDepth 100000 in
set_option maxHeartbeats 4000000 in
theorem pe_110 : ∀ pc, (jm_110 pc).1 = .nop ∨ pc < 49 := by
  intro pc
  unfold jm_110
  split <;> first | exact Or.inl rfl | exact Or.inr (by decide)
set_option maxRecDepth 100000 in
set_option maxHeartbeats 4000000 in
theorem pe_111 : ∀ pc, (jm_111 pc).1 = .nop ∨ pc < 19 := by
  intro pc
  unfold jm_111
  split <;> first | exact Or.inl rfl | exact Or.inr (by decide)
set_option maxRecDepth 100000 in
set_option maxHeartbeats 4000000 in
theorem pe_112 : ∀ pc, (jm_112 pc).1 = .nop ∨ pc < 6 := by
  intro pc
  unfold jm_112
  split <;> first | exact Or.inl rfl | exact Or.inr (by decide)
set_option maxRecDepth 100000 in
set_option maxHeartbeats 4000000 in
theorem pe_113 : ∀ pc, (jm_113 pc).1 = .nop ∨ pc < 7 := by
  intro pc
  unfold jm_113
  split <;> first | exact Or.inl rfl | exact Or.inr (by decide)
set_option maxRecDepth 100000 in
set_option maxHeartbeats 4000000 in
theorem pe_114 : ∀ pc, (jm_114 pc).1 = .nop ∨ pc < 56 := by
  intro pc
  unfold jm_114
  split <;> first | exact Or.inl rfl | exact Or.inr (by decide)
set_option maxRecDepth 100000 in
set_option maxHeartbeats 4000000 in
theorem pe_115 : ∀ pc, (jm_115 pc).1 = .nop ∨ pc < 48 := by
  intro pc
  unfold jm_115
  split <;> first | exact Or.inl rfl | exact Or.inr (by decide)
set_option maxRecDepth 100000 in
set_option maxHeartbeats 4000000 in
theorem pe_116 : ∀ pc, (jm_116 pc).1 = .nop ∨ pc < 16 := by
  intro pc
  unfold jm_116
  split <;> first | exact Or.inl rfl | exact Or.inr (by decide)
set_option maxRecDepth 100000 in
set_option maxHeartbeats 4000000 in
theorem pe_117 : ∀ pc, (jm_117 pc).1 = .nop ∨ pc < 78 := by
  intro pc
  unfold jm_117
  split <;> first | exact Or.inl rfl | exact Or.inr (by decide)
set_option maxRecDepth 100000 in
set_option maxHeartbeats 4000000 in
theorem pe_118 : ∀ pc, (jm_118 pc).1 = .nop ∨ pc < 133 := by
  intro pc
  unfold jm_118
  split <;> first | exact Or.inl rfl | exact Or.inr (by decide)
set_option maxRecDepth 100000 in
set_option maxHeartbeats 4000000 in
theorem pe_119 : ∀ pc, (jm_119 pc).1 = .nop ∨ pc < 57 := by
  intro pc
  unfold jm_119
  split <;> first | exact Or.inl rfl | exact Or.inr (by decide)
set_option maxRecDepth 100000 in
set_option maxHeartbeats 4000000 in
theorem pe_120 : ∀ pc, (jm_120 pc).1 = .nop ∨ pc < 243 := by
  intro pc
  unfold jm_120
  split <;> first | exact Or.inl rfl | exact Or.inr (by decide)
set_option maxRecDepth 100000 in
set_option maxHeartbeats 4000000 in
theorem pe_121 : ∀ pc, (jm_121 pc).1 = .nop ∨ pc < 46 := by
  intro pc
  unfold jm_121
  split <;> first | exact Or.inl rfl | exact Or.inr (by decide)
set_option maxRecDepth 100000 in
set_option maxHeartbeats 4000000 in
theorem pe_122 : ∀ pc, (jm_122 pc).1 = .nop ∨ pc < 17 := by
  intro pc
  unfold jm_122
  split <;> first | exact Or.inl rfl | exact Or.inr (by decide)
set_option maxRecDepth 100000 in
set_option maxHeartbeats 4000000 in
theorem pe_123 : ∀ pc, (jm_123 pc).1 = .nop ∨ pc < 143 := by
  intro pc
  unfold jm_123
  split <;> first | exact Or.inl rfl | exact Or.inr (by decide)
set_option maxRecDepth 100000 in
set_option maxHeartbeats 4000000 in
theorem pe_124 : ∀ pc, (jm_124 pc).1 = .nop ∨ pc < 35 := by
  intro pc
  unfold jm_124
  split <;> first | exact Or.inl rfl | exact Or.inr (by decide)
set_option maxRecDepth 100000 in
set_option maxHeartbeats 4000000 in
theorem pe_125 : ∀ pc, (jm_125 pc).1 = .nop ∨ pc < 157 := by
  intro pc
  unfold jm_125
  split <;> first | exact Or.inl rfl | exact Or.inr (by decide)
set_option maxRecDepth 100000 in
set_option maxHeartbeats 4000000 in
theorem pe_126 : ∀ pc, (jm_126 pc).1 = .nop ∨ pc < 276 := by
  intro pc
  unfold jm_126
  split <;> first | exact Or.inl rfl | exact Or.inr (by decide)
set_option maxRecDepth 100000 in
set_option maxHeartbeats 4000000 in
theorem pe_127 : ∀ pc, (jm_127 pc).1 = .nop ∨ pc < 18 := by
  intro pc
  unfold jm_127
  split <;> first | exact Or.inl rfl | exact Or.inr (by decide)
set_option maxRecDepth 100000 in
set_option maxHeartbeats 4000000 in
theorem pe_128 : ∀ pc, (jm_128 pc).1 = .nop ∨ pc < 38 := by
  intro pc
  unfold jm_128
  split <;> first | exact Or.inl rfl | exact Or.inr (by decide)
set_option maxRecDepth 100000 in
set_option maxHeartbeats 4000000 in
theorem pe_129 : ∀ pc, (jm_129 pc).1 = .nop ∨ pc < 12 := by
  intro pc
  unfold jm_129
  split <;> first | exact Or.inl rfl | exact Or.inr (by decide)
set_option maxRecDepth 100000 in
set_option maxHeartbeats 4000000 in
theorem pe_130 : ∀ pc, (jm_130 pc).1 = .nop ∨ pc < 48 := by
  intro pc
  unfold jm_130
  split <;> first | exact Or.inl rfl | exact Or.inr (by decide)
set_option maxRecDepth 100000 in
set_option maxHeartbeats 4000000 in
theorem pe_131 : ∀ pc, (jm_131 pc).1 = .nop ∨ pc < 43 := by
  intro pc
  unfold jm_131
  split <;> first | exact Or.inl rfl | exact Or.inr (by decide)
set_option maxRecDepth 100000 in
set_option maxHeartbeats 4000000 in
theorem pe_132 : ∀ pc, (jm_132 pc).1 = .nop ∨ pc < 21 := by
  intro pc
  unfold jm_132
  split <;> first | exact Or.inl rfl | exact Or.inr (by decide)
set_option maxRecDepth 100000 in
set_option maxHeartbeats 4000000 in
theorem pe_133 : ∀ pc, (jm_133 pc).1 = .nop ∨ pc < 70 := by
  intro pc
  unfold jm_133
  split <;> first | exact Or.inl rfl | exact Or.inr (by decide)
set_option maxRecDepth 100000 in
set_option maxHeartbeats 4000000 in
theorem pe_134 : ∀ pc, (jm_134 pc).1 = .nop ∨ pc < 49 := by
  intro pc
  unfold jm_134
  split <;> first | exact Or.inl rfl | exact Or.inr (by decide)
set_option maxRecDepth 100000 in
set_option maxHeartbeats 4000000 in
theorem pe_135 : ∀ pc, (jm_135 pc).1 = .nop ∨ pc < 38 := by
  intro pc
  unfold jm_135
  split <;> first | exact Or.inl rfl | exact Or.inr (by decide)
set_option maxRecDepth 100000 in
set_option maxHeartbeats 4000000 in
theorem pe_136 : ∀ pc, (jm_136 pc).1 = .nop ∨ pc < 21 := by
  intro pc
  unfold jm_136
  split <;> first | exact Or.inl rfl | exact Or.inr (by decide)
set_option maxRecDepth 100000 in
set_option maxHeartbeats 4000000 in
theorem pe_137 : ∀ pc, (jm_137 pc).1 = .nop ∨ pc < 10 := by
  intro pc
  unfold jm_137
  split <;> first | exact Or.inl rfl | exact Or.inr (by decide)
set_option maxRecDepth 100000 in
set_option maxHeartbeats 4000000 in
theorem pe_138 : ∀ pc, (jm_138 pc).1 = .nop ∨ pc < 87 := by
  intro pc
  unfold jm_138
  split <;> first | exact Or.inl rfl | exact Or.inr (by decide)
set_option maxRecDepth 100000 in
set_option maxHeartbeats 4000000 in
theorem pe_139 : ∀ pc, (jm_139 pc).1 = .nop ∨ pc < 113 := by
  intro pc
  unfold jm_139
  split <;> first | exact Or.inl rfl | exact Or.inr (by decide)
set_option maxRecDepth 100000 in
set_option maxHeartbeats 4000000 in
theorem pe_140 : ∀ pc, (jm_140 pc).1 = .nop ∨ pc < 40 := by
  intro pc
  unfold jm_140
  split <;> first | exact Or.inl rfl | exact Or.inr (by decide)
set_option maxRecDepth 100000 in
set_option maxHeartbeats 4000000 in
theorem pe_141 : ∀ pc, (jm_141 pc).1 = .nop ∨ pc < 129 := by
  intro pc
  unfold jm_141
  split <;> first | exact Or.inl rfl | exact Or.inr (by decide)
set_option maxRecDepth 100000 in
set_option maxHeartbeats 4000000 in
theorem pe_142 : ∀ pc, (jm_142 pc).1 = .nop ∨ pc < 111 := by
  intro pc
  unfold jm_142
  split <;> first | exact Or.inl rfl | exact Or.inr (by decide)
set_option maxRecDepth 100000 in
set_option maxHeartbeats 4000000 in
theorem pe_143 : ∀ pc, (jm_143 pc).1 = .nop ∨ pc < 73 := by
  intro pc
  unfold jm_143
  split <;> first | exact Or.inl rfl | exact Or.inr (by decide)
set_option maxRecDepth 100000 in
set_option maxHeartbeats 4000000 in
theorem pe_144 : ∀ pc, (jm_144 pc).1 = .nop ∨ pc < 163 := by
  intro pc
  unfold jm_144
  split <;> first | exact Or.inl rfl | exact Or.inr (by decide)
set_option maxRecDepth 100000 in
set_option maxHeartbeats 4000000 in
theorem pe_145 : ∀ pc, (jm_145 pc).1 = .nop ∨ pc < 162 := by
  intro pc
  unfold jm_145
  split <;> first | exact Or.inl rfl | exact Or.inr (by decide)
set_option maxRecDepth 100000 in
set_option maxHeartbeats 4000000 in
theorem pe_146 : ∀ pc, (jm_146 pc).1 = .nop ∨ pc < 42 := by
  intro pc
  unfold jm_146
  split <;> first | exact Or.inl rfl | exact Or.inr (by decide)
set_option maxRecDepth 100000 in
set_option maxHeartbeats 4000000 in
theorem pe_147 : ∀ pc, (jm_147 pc).1 = .nop ∨ pc < 318 := by
  intro pc
  unfold jm_147
  split <;> first | exact Or.inl rfl | exact Or.inr (by decide)
set_option maxRecDepth 100000 in
set_option maxHeartbeats 4000000 in
theorem pe_148 : ∀ pc, (jm_148 pc).1 = .nop ∨ pc < 254 := by
  intro pc
  unfold jm_148
  split <;> first | exact Or.inl rfl | exact Or.inr (by decide)
set_option maxRecDepth 100000 in
set_option maxHeartbeats 4000000 in
theorem pe_149 : ∀ pc, (jm_149 pc).1 = .nop ∨ pc < 30 := by
  intro pc
  unfold jm_149
  split <;> first | exact Or.inl rfl | exact Or.inr (by decide)
set_option maxRecDepth 100000 in
set_option maxHeartbeats 4000000 in
theorem pe_150 : ∀ pc, (jm_150 pc).1 = .nop ∨ pc < 12 := by
  intro pc
  unfold jm_150
  split <;> first | exact Or.inl rfl | exact Or.inr (by decide)
