/-! THE CONSTRUCTORS of writer, reader, class, model -/
def wrN (f : Nat → va_E) : Nat → va_E := fun k => match k with
  | 1 => .inr (6, [.ref 2, .ref 4, .ref 16, .ref 19, .int 1])
  | 2 => .inr (0, [.ref 3, .int 0])
  | 3 => .inl (0, 64, .inl (fun _ => 0))
  | 4 => .inr (4, [.ref 5, .ref 6, .int 0])
  | 5 => .inl (2 + 1, 7, .inr (.inr (.inr (.inr (fun j => if j < 7 then some (9 + j) else none)))))
  | 6 => .inr (3, [.ref 7, .ref 8])
  | 7 => .inl (2 + 2, 568, .inr (.inr (.inr (.inr (fun _ => none)))))
  | 8 => .inl (0, 71, .inl (fun _ => 0))
  | 9 => .inr (1, [.int (-1), .int 2, .int 0, .int 0, .int 0])
  | 10 => .inr (1, [.int (-1), .int 2, .int 0, .int 0, .int 0])
  | 11 => .inr (1, [.int (-1), .int 2, .int 0, .int 0, .int 0])
  | 12 => .inr (1, [.int (-1), .int 2, .int 0, .int 0, .int 0])
  | 13 => .inr (1, [.int (-1), .int 2, .int 0, .int 0, .int 0])
  | 14 => .inr (1, [.int (-1), .int 2, .int 0, .int 0, .int 0])
  | 15 => .inr (1, [.int (-1), .int 2, .int 0, .int 0, .int 0])
  | 16 => .inr (2, [.ref 17, .ref 18, .int 0])
  | 17 => .inl (0, 8, .inl (fun _ => 0))
  | 18 => .inl (0, 8, .inl (fun _ => 0))
  | 19 => .inl (0, 17, .inl (fun _ => 0))
  | k => f k
def rdN2 (f : Nat → va_E) : Nat → va_E := fun k => match k with
  | 20 => .inr (5, [.ref 21, .ref 33, .int 0, .int 0, .int 0, .ref 34, .ref 35, .int 0])
  | 21 => .inr (4, [.ref 22, .ref 23, .int 0])
  | 22 => .inl (2 + 1, 7, .inr (.inr (.inr (.inr (fun j => if j < 7 then some (26 + j) else none)))))
  | 23 => .inr (3, [.ref 24, .ref 25])
  | 24 => .inl (2 + 2, 568, .inr (.inr (.inr (.inr (fun _ => none)))))
  | 25 => .inl (0, 71, .inl (fun _ => 0))
  | 26 => .inr (1, [.int (-1), .int 2, .int 0, .int 0, .int 0])
  | 27 => .inr (1, [.int (-1), .int 2, .int 0, .int 0, .int 0])
  | 28 => .inr (1, [.int (-1), .int 2, .int 0, .int 0, .int 0])
  | 29 => .inr (1, [.int (-1), .int 2, .int 0, .int 0, .int 0])
  | 30 => .inr (1, [.int (-1), .int 2, .int 0, .int 0, .int 0])
  | 31 => .inr (1, [.int (-1), .int 2, .int 0, .int 0, .int 0])
  | 32 => .inr (1, [.int (-1), .int 2, .int 0, .int 0, .int 0])
  | 33 => .inl (0, 64, .inl (fun _ => 0))
  | 34 => .inl (0, 17, .inl (fun _ => 0))
  | 35 => .inl (0, 19, .inl (fun _ => 0))
  | k => f k
section INI3
variable {f : Nat → va_E} {d : Nat}
theorem c_Writer_init (hf : f 1 = .inr (6, [.null, .null, .null, .null, .int 0])) : pm_call (d + 5) 59 [.ref 1] (2, f) (.inl none) (20, wrN f) 18 788 := by
  refine pm_callX jm_59 [(0, .ref 1)] rfl rfl rfl ?_
  refine pm_go 1 (pc1 := 1) rfl ?_
  refine pm_obj rfl (by omega) rfl ?_
  refine pm_go 1 (pc1 := 5) rfl ?_
  refine pm_new rfl rfl (by decide) (by decide) ?_
  refine pm_go 1 (pc1 := 9) rfl ?_
  refine pm_cI [] rfl rfl rfl rfl rfl (c1 := 1) (s1 := 64) (by decide) (by decide) (c_Bits_init (z := 0) (q := 2) (by omega) rfl) ?_
  refine pm_putU rfl hf rfl rfl rfl ?_
  refine pm_go 1 (pc1 := 16) rfl ?_
  refine pm_new rfl rfl (by decide) (by decide) ?_
  refine pm_go 1 (pc1 := 20) rfl ?_
  refine pm_cI [] rfl rfl rfl rfl rfl (c1 := 11) (s1 := 683) (by decide) (by decide) (c_Nest_init (p := 4) (N := 5) (by omega) rfl) ?_
  refine pm_putU (fs := [.ref 2, .null, .null, .null, .int 0]) rfl rfl rfl rfl rfl ?_
  refine pm_go 1 (pc1 := 27) rfl ?_
  refine pm_new rfl rfl (by decide) (by decide) ?_
  refine pm_go 1 (pc1 := 31) rfl ?_
  refine pm_cI [] rfl rfl rfl rfl rfl (c1 := 2) (s1 := 16) (by decide) (by decide) (c_Form_init (z := 0) (q := 16) (by omega) rfl) ?_
  refine pm_putU (fs := [.ref 2, .ref 4, .null, .null, .int 0]) rfl rfl rfl rfl rfl ?_
  refine pm_go 2 (pc1 := 40) rfl ?_
  refine pm_newi (n := 17) rfl rfl (by decide) (by decide) (by decide) ?_
  refine pm_putU (fs := [.ref 2, .ref 4, .ref 16, .null, .int 0]) rfl rfl rfl rfl rfl ?_
  refine pm_go 2 (pc1 := 47) rfl ?_
  refine pm_putU (fs := [.ref 2, .ref 4, .ref 16, .ref 19, .int 0]) rfl rfl rfl rfl rfl ?_
  refine pm_vret rfl rfl rfl ?_
  refine congrArg (Prod.mk 20) (funext fun k => ?_)
  match k with
  | 0 => rfl
  | 1 => rfl
  | 2 => rfl
  | 3 => rfl
  | 4 => rfl
  | 5 => rfl
  | 6 => rfl
  | 7 => rfl
  | 8 => rfl
  | 9 => rfl
  | 10 => rfl
  | 11 => rfl
  | 12 => rfl
  | 13 => rfl
  | 14 => rfl
  | 15 => rfl
  | 16 => rfl
  | 17 => rfl
  | 18 => rfl
  | 19 => rfl
  | k + 20 =>
    simp [wrN, va_up, nsK]
    intro h
    omega
theorem c_Reader_init (hf : f 20 = .inr (5, [.null, .null, .int 0, .int 0, .int 0, .null, .null, .int 0])) : pm_call (d + 5) 37 [.ref 20] (21, f) (.inl none) (36, rdN2 f) 15 786 := by
  refine pm_callX jm_37 [(0, .ref 20)] rfl rfl rfl ?_
  refine pm_go 1 (pc1 := 1) rfl ?_
  refine pm_obj rfl (by omega) rfl ?_
  refine pm_go 1 (pc1 := 5) rfl ?_
  refine pm_new rfl rfl (by decide) (by decide) ?_
  refine pm_go 1 (pc1 := 9) rfl ?_
  refine pm_cI [] rfl rfl rfl rfl rfl (c1 := 11) (s1 := 683) (by decide) (by decide) (c_Nest_init (p := 21) (N := 22) (by omega) rfl) ?_
  refine pm_putU rfl hf rfl rfl rfl ?_
  refine pm_go 2 (pc1 := 18) rfl ?_
  refine pm_newi (n := 64) rfl rfl (by decide) (by decide) (by decide) ?_
  refine pm_putU (fs := [.ref 21, .null, .int 0, .int 0, .int 0, .null, .null, .int 0]) rfl rfl rfl rfl rfl ?_
  refine pm_go 2 (pc1 := 25) rfl ?_
  refine pm_putU (fs := [.ref 21, .ref 33, .int 0, .int 0, .int 0, .null, .null, .int 0]) rfl rfl rfl rfl rfl ?_
  refine pm_go 2 (pc1 := 30) rfl ?_
  refine pm_putU (fs := [.ref 21, .ref 33, .int 0, .int 0, .int 0, .null, .null, .int 0]) rfl rfl rfl rfl rfl ?_
  refine pm_go 2 (pc1 := 35) rfl ?_
  refine pm_putU (fs := [.ref 21, .ref 33, .int 0, .int 0, .int 0, .null, .null, .int 0]) rfl rfl rfl rfl rfl ?_
  refine pm_go 2 (pc1 := 41) rfl ?_
  refine pm_newi (n := 17) rfl rfl (by decide) (by decide) (by decide) ?_
  refine pm_putU (fs := [.ref 21, .ref 33, .int 0, .int 0, .int 0, .null, .null, .int 0]) rfl rfl rfl rfl rfl ?_
  refine pm_go 2 (pc1 := 49) rfl ?_
  refine pm_newi (n := 19) rfl rfl (by decide) (by decide) (by decide) ?_
  refine pm_putU (fs := [.ref 21, .ref 33, .int 0, .int 0, .int 0, .ref 34, .null, .int 0]) rfl rfl rfl rfl rfl ?_
  refine pm_go 2 (pc1 := 56) rfl ?_
  refine pm_putU (fs := [.ref 21, .ref 33, .int 0, .int 0, .int 0, .ref 34, .ref 35, .int 0]) rfl rfl rfl rfl rfl ?_
  refine pm_vret rfl rfl rfl ?_
  refine congrArg (Prod.mk 36) (funext fun k => ?_)
  match k with
  | 0 => rfl
  | 1 => rfl
  | 2 => rfl
  | 3 => rfl
  | 4 => rfl
  | 5 => rfl
  | 6 => rfl
  | 7 => rfl
  | 8 => rfl
  | 9 => rfl
  | 10 => rfl
  | 11 => rfl
  | 12 => rfl
  | 13 => rfl
  | 14 => rfl
  | 15 => rfl
  | 16 => rfl
  | 17 => rfl
  | 18 => rfl
  | 19 => rfl
  | 20 => rfl
  | 21 => rfl
  | 22 => rfl
  | 23 => rfl
  | 24 => rfl
  | 25 => rfl
  | 26 => rfl
  | 27 => rfl
  | 28 => rfl
  | 29 => rfl
  | 30 => rfl
  | 31 => rfl
  | 32 => rfl
  | 33 => rfl
  | 34 => rfl
  | 35 => rfl
  | k + 36 =>
    simp [rdN2, va_up, nsK]
    intro h
    omega
theorem c_BitBlocks_init (hf : f 0 = .inr (7, [.null, .null])) : pm_call (d + 6) 75 [.ref 0] (1, f) (.inl none) (36, va_up (va_up (rdN2 (va_up (wrN f) 0 (.inr (7, [.ref 1, .null])))) 0 (.inr (7, [.ref 1, .ref 20]))) 0 (.inr (7, [.ref 1, .ref 20]))) 35 1587 := by
  refine pm_callX jm_75 [(0, .ref 0)] rfl rfl rfl ?_
  refine pm_go 1 (pc1 := 1) rfl ?_
  refine pm_obj rfl (by omega) rfl ?_
  refine pm_go 1 (pc1 := 5) rfl ?_
  refine pm_new rfl rfl (by decide) (by decide) ?_
  refine pm_go 1 (pc1 := 9) rfl ?_
  refine pm_cI [] rfl rfl rfl rfl rfl (c1 := 18) (s1 := 788) (by decide) (by decide) (c_Writer_init rfl) ?_
  refine pm_putU rfl hf rfl rfl rfl ?_
  refine pm_go 1 (pc1 := 16) rfl ?_
  refine pm_new rfl rfl (by decide) (by decide) ?_
  refine pm_go 1 (pc1 := 20) rfl ?_
  refine pm_cI [] rfl rfl rfl rfl rfl (c1 := 15) (s1 := 786) (by decide) (by decide) (c_Reader_init rfl) ?_
  refine pm_putU (fs := [.ref 1, .null]) rfl rfl rfl rfl rfl ?_
  refine pm_vret rfl rfl rfl ?_
  refine congrArg (Prod.mk 36) (funext fun k => ?_)
  match k with
  | 0 => rfl
  | 1 => rfl
  | 2 => rfl
  | 3 => rfl
  | 4 => rfl
  | 5 => rfl
  | 6 => rfl
  | 7 => rfl
  | 8 => rfl
  | 9 => rfl
  | 10 => rfl
  | 11 => rfl
  | 12 => rfl
  | 13 => rfl
  | 14 => rfl
  | 15 => rfl
  | 16 => rfl
  | 17 => rfl
  | 18 => rfl
  | 19 => rfl
  | 20 => rfl
  | 21 => rfl
  | 22 => rfl
  | 23 => rfl
  | 24 => rfl
  | 25 => rfl
  | 26 => rfl
  | 27 => rfl
  | 28 => rfl
  | 29 => rfl
  | 30 => rfl
  | 31 => rfl
  | 32 => rfl
  | 33 => rfl
  | 34 => rfl
  | 35 => rfl
  | k + 36 => simp [wrN, rdN2, va_up]
theorem c_Model_init (hf : f 36 = .inr (8, [.null, .null, .int 0, .null, .null, .null, .null, .null, .null, .null, .null, .null, .null, .null, .null, .null, .int 0, .null, .int 0, .int 0, .int 0, .int 0, .int 0, .null, .null])) : pm_call (d + 2) 98 [.ref 36] (37, f) (.inl none) (55, fun k => match k with
  | 36 => .inr (8, [.ref 37, .ref 38, .int 0, .ref 39, .ref 40, .ref 41, .ref 42, .ref 43, .ref 44, .ref 45, .ref 46, .ref 47, .ref 48, .ref 49, .ref 50, .ref 51, .int 0, .ref 52, .int 0, .int 0, .int 0, .int 0, .int 0, .ref 53, .ref 54])
  | 37 => .inl (0, 256, .inl (fun _ => 0))
  | 38 => .inl (0, 2, .inl (fun _ => 0))
  | 39 => .inl (0, 2, .inl (fun _ => 0))
  | 40 => .inl (0, 14, .inl (fun _ => 0))
  | 41 => .inl (0, 14, .inl (fun _ => 0))
  | 42 => .inl (0, 14, .inl (fun _ => 0))
  | 43 => .inl (0, 14, .inl (fun _ => 0))
  | 44 => .inl (0, 14, .inl (fun _ => 0))
  | 45 => .inl (0, 112, .inl (fun _ => 0))
  | 46 => .inl (0, 128, .inl (fun _ => 0))
  | 47 => .inl (0, 1024, .inl (fun _ => 0))
  | 48 => .inl (1, 2400, .inr (.inl (fun _ => 0)))
  | 49 => .inl (0, 300, .inl (fun _ => 0))
  | 50 => .inl (0, 2, .inl (fun _ => 0))
  | 51 => .inl (1, 8, .inr (.inl (fun _ => 0)))
  | 52 => .inl (0, 16, .inl (fun _ => 0))
  | 53 => .inl (0, 20, .inl (fun _ => 0))
  | 54 => .inl (0, 20, .inl (fun _ => 0))
  | k => f k) 18 4360 := by
  refine pm_callX jm_98 [(0, .ref 36)] rfl rfl rfl ?_
  refine pm_go 1 (pc1 := 1) rfl ?_
  refine pm_obj rfl (by omega) rfl ?_
  refine pm_go 2 (pc1 := 8) rfl ?_
  refine pm_newi (n := 256) rfl rfl (by decide) (by decide) (by decide) ?_
  refine pm_putU (fs := [.null, .null, .int 0, .null, .null, .null, .null, .null, .null, .null, .null, .null, .null, .null, .null, .null, .int 0, .null, .int 0, .int 0, .int 0, .int 0, .int 0, .null, .null]) rfl hf rfl rfl rfl ?_
  refine pm_go 2 (pc1 := 15) rfl ?_
  refine pm_newi (n := 2) rfl rfl (by decide) (by decide) (by decide) ?_
  refine pm_putU (fs := [.ref 37, .null, .int 0, .null, .null, .null, .null, .null, .null, .null, .null, .null, .null, .null, .null, .null, .int 0, .null, .int 0, .int 0, .int 0, .int 0, .int 0, .null, .null]) rfl rfl rfl rfl rfl ?_
  refine pm_go 2 (pc1 := 22) rfl ?_
  refine pm_newi (n := 2) rfl rfl (by decide) (by decide) (by decide) ?_
  refine pm_putU (fs := [.ref 37, .ref 38, .int 0, .null, .null, .null, .null, .null, .null, .null, .null, .null, .null, .null, .null, .null, .int 0, .null, .int 0, .int 0, .int 0, .int 0, .int 0, .null, .null]) rfl rfl rfl rfl rfl ?_
  refine pm_go 2 (pc1 := 30) rfl ?_
  refine pm_newi (n := 14) rfl rfl (by decide) (by decide) (by decide) ?_
  refine pm_putU (fs := [.ref 37, .ref 38, .int 0, .ref 39, .null, .null, .null, .null, .null, .null, .null, .null, .null, .null, .null, .null, .int 0, .null, .int 0, .int 0, .int 0, .int 0, .int 0, .null, .null]) rfl rfl rfl rfl rfl ?_
  refine pm_go 2 (pc1 := 38) rfl ?_
  refine pm_newi (n := 14) rfl rfl (by decide) (by decide) (by decide) ?_
  refine pm_putU (fs := [.ref 37, .ref 38, .int 0, .ref 39, .ref 40, .null, .null, .null, .null, .null, .null, .null, .null, .null, .null, .null, .int 0, .null, .int 0, .int 0, .int 0, .int 0, .int 0, .null, .null]) rfl rfl rfl rfl rfl ?_
  refine pm_go 2 (pc1 := 46) rfl ?_
  refine pm_newi (n := 14) rfl rfl (by decide) (by decide) (by decide) ?_
  refine pm_putU (fs := [.ref 37, .ref 38, .int 0, .ref 39, .ref 40, .ref 41, .null, .null, .null, .null, .null, .null, .null, .null, .null, .null, .int 0, .null, .int 0, .int 0, .int 0, .int 0, .int 0, .null, .null]) rfl rfl rfl rfl rfl ?_
  refine pm_go 2 (pc1 := 54) rfl ?_
  refine pm_newi (n := 14) rfl rfl (by decide) (by decide) (by decide) ?_
  refine pm_putU (fs := [.ref 37, .ref 38, .int 0, .ref 39, .ref 40, .ref 41, .ref 42, .null, .null, .null, .null, .null, .null, .null, .null, .null, .int 0, .null, .int 0, .int 0, .int 0, .int 0, .int 0, .null, .null]) rfl rfl rfl rfl rfl ?_
  refine pm_go 2 (pc1 := 62) rfl ?_
  refine pm_newi (n := 14) rfl rfl (by decide) (by decide) (by decide) ?_
  refine pm_putU (fs := [.ref 37, .ref 38, .int 0, .ref 39, .ref 40, .ref 41, .ref 42, .ref 43, .null, .null, .null, .null, .null, .null, .null, .null, .int 0, .null, .int 0, .int 0, .int 0, .int 0, .int 0, .null, .null]) rfl rfl rfl rfl rfl ?_
  refine pm_go 2 (pc1 := 70) rfl ?_
  refine pm_newi (n := 112) rfl rfl (by decide) (by decide) (by decide) ?_
  refine pm_putU (fs := [.ref 37, .ref 38, .int 0, .ref 39, .ref 40, .ref 41, .ref 42, .ref 43, .ref 44, .null, .null, .null, .null, .null, .null, .null, .int 0, .null, .int 0, .int 0, .int 0, .int 0, .int 0, .null, .null]) rfl rfl rfl rfl rfl ?_
  refine pm_go 2 (pc1 := 79) rfl ?_
  refine pm_newi (n := 128) rfl rfl (by decide) (by decide) (by decide) ?_
  refine pm_putU (fs := [.ref 37, .ref 38, .int 0, .ref 39, .ref 40, .ref 41, .ref 42, .ref 43, .ref 44, .ref 45, .null, .null, .null, .null, .null, .null, .int 0, .null, .int 0, .int 0, .int 0, .int 0, .int 0, .null, .null]) rfl rfl rfl rfl rfl ?_
  refine pm_go 2 (pc1 := 88) rfl ?_
  refine pm_newi (n := 1024) rfl rfl (by decide) (by decide) (by decide) ?_
  refine pm_putU (fs := [.ref 37, .ref 38, .int 0, .ref 39, .ref 40, .ref 41, .ref 42, .ref 43, .ref 44, .ref 45, .ref 46, .null, .null, .null, .null, .null, .int 0, .null, .int 0, .int 0, .int 0, .int 0, .int 0, .null, .null]) rfl rfl rfl rfl rfl ?_
  refine pm_go 2 (pc1 := 97) rfl ?_
  refine pm_newl (n := 2400) rfl rfl (by decide) (by decide) (by decide) ?_
  refine pm_putU (fs := [.ref 37, .ref 38, .int 0, .ref 39, .ref 40, .ref 41, .ref 42, .ref 43, .ref 44, .ref 45, .ref 46, .ref 47, .null, .null, .null, .null, .int 0, .null, .int 0, .int 0, .int 0, .int 0, .int 0, .null, .null]) rfl rfl rfl rfl rfl ?_
  refine pm_go 2 (pc1 := 106) rfl ?_
  refine pm_newi (n := 300) rfl rfl (by decide) (by decide) (by decide) ?_
  refine pm_putU (fs := [.ref 37, .ref 38, .int 0, .ref 39, .ref 40, .ref 41, .ref 42, .ref 43, .ref 44, .ref 45, .ref 46, .ref 47, .ref 48, .null, .null, .null, .int 0, .null, .int 0, .int 0, .int 0, .int 0, .int 0, .null, .null]) rfl rfl rfl rfl rfl ?_
  refine pm_go 2 (pc1 := 113) rfl ?_
  refine pm_newi (n := 2) rfl rfl (by decide) (by decide) (by decide) ?_
  refine pm_putU (fs := [.ref 37, .ref 38, .int 0, .ref 39, .ref 40, .ref 41, .ref 42, .ref 43, .ref 44, .ref 45, .ref 46, .ref 47, .ref 48, .ref 49, .null, .null, .int 0, .null, .int 0, .int 0, .int 0, .int 0, .int 0, .null, .null]) rfl rfl rfl rfl rfl ?_
  refine pm_go 2 (pc1 := 121) rfl ?_
  refine pm_newl (n := 8) rfl rfl (by decide) (by decide) (by decide) ?_
  refine pm_putU (fs := [.ref 37, .ref 38, .int 0, .ref 39, .ref 40, .ref 41, .ref 42, .ref 43, .ref 44, .ref 45, .ref 46, .ref 47, .ref 48, .ref 49, .ref 50, .null, .int 0, .null, .int 0, .int 0, .int 0, .int 0, .int 0, .null, .null]) rfl rfl rfl rfl rfl ?_
  refine pm_go 2 (pc1 := 129) rfl ?_
  refine pm_newi (n := 16) rfl rfl (by decide) (by decide) (by decide) ?_
  refine pm_putU (fs := [.ref 37, .ref 38, .int 0, .ref 39, .ref 40, .ref 41, .ref 42, .ref 43, .ref 44, .ref 45, .ref 46, .ref 47, .ref 48, .ref 49, .ref 50, .ref 51, .int 0, .null, .int 0, .int 0, .int 0, .int 0, .int 0, .null, .null]) rfl rfl rfl rfl rfl ?_
  refine pm_go 2 (pc1 := 137) rfl ?_
  refine pm_newi (n := 20) rfl rfl (by decide) (by decide) (by decide) ?_
  refine pm_putU (fs := [.ref 37, .ref 38, .int 0, .ref 39, .ref 40, .ref 41, .ref 42, .ref 43, .ref 44, .ref 45, .ref 46, .ref 47, .ref 48, .ref 49, .ref 50, .ref 51, .int 0, .ref 52, .int 0, .int 0, .int 0, .int 0, .int 0, .null, .null]) rfl rfl rfl rfl rfl ?_
  refine pm_go 2 (pc1 := 145) rfl ?_
  refine pm_newi (n := 20) rfl rfl (by decide) (by decide) (by decide) ?_
  refine pm_putU (fs := [.ref 37, .ref 38, .int 0, .ref 39, .ref 40, .ref 41, .ref 42, .ref 43, .ref 44, .ref 45, .ref 46, .ref 47, .ref 48, .ref 49, .ref 50, .ref 51, .int 0, .ref 52, .int 0, .int 0, .int 0, .int 0, .int 0, .ref 53, .null]) rfl rfl rfl rfl rfl ?_
  refine pm_vret rfl rfl rfl ?_
  refine congrArg (Prod.mk 55) (funext fun k => ?_)
  match k with
  | 0 => rfl
  | 1 => rfl
  | 2 => rfl
  | 3 => rfl
  | 4 => rfl
  | 5 => rfl
  | 6 => rfl
  | 7 => rfl
  | 8 => rfl
  | 9 => rfl
  | 10 => rfl
  | 11 => rfl
  | 12 => rfl
  | 13 => rfl
  | 14 => rfl
  | 15 => rfl
  | 16 => rfl
  | 17 => rfl
  | 18 => rfl
  | 19 => rfl
  | 20 => rfl
  | 21 => rfl
  | 22 => rfl
  | 23 => rfl
  | 24 => rfl
  | 25 => rfl
  | 26 => rfl
  | 27 => rfl
  | 28 => rfl
  | 29 => rfl
  | 30 => rfl
  | 31 => rfl
  | 32 => rfl
  | 33 => rfl
  | 34 => rfl
  | 35 => rfl
  | 36 => rfl
  | 37 => rfl
  | 38 => rfl
  | 39 => rfl
  | 40 => rfl
  | 41 => rfl
  | 42 => rfl
  | 43 => rfl
  | 44 => rfl
  | 45 => rfl
  | 46 => rfl
  | 47 => rfl
  | 48 => rfl
  | 49 => rfl
  | 50 => rfl
  | 51 => rfl
  | 52 => rfl
  | 53 => rfl
  | 54 => rfl
  | k + 55 => simp [va_up]
end INI3
