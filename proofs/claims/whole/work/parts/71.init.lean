/-! THE CLASS: small constructors; word -/
section INI
variable {f : Nat → va_E} {q N d : Nat}
theorem c_Bits_init {z : Int32} (hq : q < N) (hf : f q = .inr (0, [.null, .int z])) : pm_call (d + 2) 0 [.ref q] (N, f) (.inl none) (N + 1, va_up (va_up f N (.inl (0, 64, .inl (fun _ => 0)))) q (.inr (0, [.ref N, .int 0]))) 1 64 := by
  refine pm_callX jm_0 [(0, .ref q)] rfl rfl rfl ?_
  refine pm_go 1 (pc1 := 1) rfl ?_
  refine pm_obj rfl (by omega) rfl ?_
  refine pm_go 2 (pc1 := 7) rfl ?_
  refine pm_newi (n := 64) rfl rfl (by decide) (by decide) (by decide) ?_
  refine pm_putU rfl ((va_up_ne _ _ (Nat.ne_of_lt hq)).trans hf) rfl rfl rfl ?_
  refine pm_go 2 (pc1 := 14) rfl ?_
  refine pm_putU rfl (va_up_self _ _ _) rfl rfl (va_up2 ..) ?_
  exact pm_vret rfl rfl rfl rfl
theorem c_Block_init {a0 a1 a2 a3 a4 : Int32} (hf : f q = .inr (1, [.int a0, .int a1, .int a2, .int a3, .int a4])) : pm_call (d + 2) 8 [.ref q] (N, f) (.inl none) (N, va_up f q (.inr (1, [.int (-1), .int 2, .int 0, .int 0, .int 0]))) 0 0 := by
  refine pm_callX jm_8 [(0, .ref q)] rfl rfl rfl ?_
  refine pm_go 1 (pc1 := 1) rfl ?_
  refine pm_obj rfl (by omega) rfl ?_
  refine pm_go 2 (pc1 := 6) rfl ?_
  refine pm_putU rfl hf rfl rfl rfl ?_
  refine pm_go 2 (pc1 := 11) rfl ?_
  refine pm_putU rfl (va_up_self _ _ _) rfl rfl (va_up2 ..) ?_
  refine pm_go 2 (pc1 := 16) rfl ?_
  refine pm_putU rfl (va_up_self _ _ _) rfl rfl (va_up2 ..) ?_
  refine pm_go 2 (pc1 := 21) rfl ?_
  refine pm_putU rfl (va_up_self _ _ _) rfl rfl (va_up2 ..) ?_
  refine pm_go 2 (pc1 := 26) rfl ?_
  refine pm_putU rfl (va_up_self _ _ _) rfl rfl (va_up2 ..) ?_
  exact pm_vret rfl rfl rfl rfl
end INI
