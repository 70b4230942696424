/-! THE CLASS: its public methods hand on to the writer and the reader -/
section PUB
variable {IA : Nat → Nat → Int32} {LA : Nat → Nat → Int64} {RA : Nat → Nat → Option Nat} {SC : Nat → Nat → Int32} {dr : Nat} {tl : Nat → va_E} {N d bc bs : Nat} {h1 : pm_H}
theorem b_enter {u : Int32} {v : Int32} {x : Int32} (hS : pm_call d 64 [.ref 1, .int u, .int v] (N, HC IA LA RA SC dr tl) (.inl (some (.int x))) h1 bc bs) : pm_call (d + 1) 76 [.ref 0, .int u, .int v] (N, HC IA LA RA SC dr tl) (.inl (some (.int x))) h1 bc bs := by
  refine pm_callX jm_76 [(0, .ref 0), (1, .int u), (2, .int v)] rfl rfl rfl ?_
  refine pm_go 1 (pc1 := 1) rfl ?_
  refine pm_getf rfl rfl rfl ?_
  refine pm_go 2 (pc1 := 6) rfl ?_
  refine pm_cV [.int u, .int v] rfl rfl rfl rfl rfl rfl (Nat.le_of_eq (Nat.zero_add _)) (Nat.le_of_eq (Nat.zero_add _)) hS ?_
  exact pm_iret rfl rfl rfl rfl
theorem b_leave  {x : Int32} (hS : pm_call d 65 [.ref 1] (N, HC IA LA RA SC dr tl) (.inl (some (.int x))) h1 bc bs) : pm_call (d + 1) 77 [.ref 0] (N, HC IA LA RA SC dr tl) (.inl (some (.int x))) h1 bc bs := by
  refine pm_callX jm_77 [(0, .ref 0)] rfl rfl rfl ?_
  refine pm_go 1 (pc1 := 1) rfl ?_
  refine pm_getf rfl rfl rfl ?_
  refine pm_cV [] rfl rfl rfl rfl rfl rfl (Nat.le_of_eq (Nat.zero_add _)) (Nat.le_of_eq (Nat.zero_add _)) hS ?_
  exact pm_iret rfl rfl rfl rfl
theorem b_op {u : Int32} {v : Int32} {x : Int32} (hS : pm_call d 62 [.ref 1, .int u, .int v] (N, HC IA LA RA SC dr tl) (.inl (some (.int x))) h1 bc bs) : pm_call (d + 1) 78 [.ref 0, .int u, .int v] (N, HC IA LA RA SC dr tl) (.inl (some (.int x))) h1 bc bs := by
  refine pm_callX jm_78 [(0, .ref 0), (1, .int u), (2, .int v)] rfl rfl rfl ?_
  refine pm_go 1 (pc1 := 1) rfl ?_
  refine pm_getf rfl rfl rfl ?_
  refine pm_go 2 (pc1 := 6) rfl ?_
  refine pm_cV [.int u, .int v] rfl rfl rfl rfl rfl rfl (Nat.le_of_eq (Nat.zero_add _)) (Nat.le_of_eq (Nat.zero_add _)) hS ?_
  exact pm_iret rfl rfl rfl rfl
theorem b_value {u : Int32} {x : Int32} (hS : pm_call d 63 [.ref 1, .int u] (N, HC IA LA RA SC dr tl) (.inl (some (.int x))) h1 bc bs) : pm_call (d + 1) 79 [.ref 0, .int u] (N, HC IA LA RA SC dr tl) (.inl (some (.int x))) h1 bc bs := by
  refine pm_callX jm_79 [(0, .ref 0), (1, .int u)] rfl rfl rfl ?_
  refine pm_go 1 (pc1 := 1) rfl ?_
  refine pm_getf rfl rfl rfl ?_
  refine pm_go 1 (pc1 := 5) rfl ?_
  refine pm_cV [.int u] rfl rfl rfl rfl rfl rfl (Nat.le_of_eq (Nat.zero_add _)) (Nat.le_of_eq (Nat.zero_add _)) hS ?_
  exact pm_iret rfl rfl rfl rfl
theorem b_drop  (hS : pm_call d 61 [.ref 1] (N, HC IA LA RA SC dr tl) (.inl none) h1 bc bs) : pm_call (d + 1) 80 [.ref 0] (N, HC IA LA RA SC dr tl) (.inl none) h1 bc bs := by
  refine pm_callX jm_80 [(0, .ref 0)] rfl rfl rfl ?_
  refine pm_go 1 (pc1 := 1) rfl ?_
  refine pm_getf rfl rfl rfl ?_
  refine pm_cV [] rfl rfl rfl rfl rfl rfl (Nat.le_of_eq (Nat.zero_add _)) (Nat.le_of_eq (Nat.zero_add _)) hS ?_
  exact pm_vret rfl rfl rfl rfl
theorem b_form  {x : Int32} (hS : pm_call d 66 [.ref 1] (N, HC IA LA RA SC dr tl) (.inl (some (.int x))) h1 bc bs) : pm_call (d + 1) 81 [.ref 0] (N, HC IA LA RA SC dr tl) (.inl (some (.int x))) h1 bc bs := by
  refine pm_callX jm_81 [(0, .ref 0)] rfl rfl rfl ?_
  refine pm_go 1 (pc1 := 1) rfl ?_
  refine pm_getf rfl rfl rfl ?_
  refine pm_cV [] rfl rfl rfl rfl rfl rfl (Nat.le_of_eq (Nat.zero_add _)) (Nat.le_of_eq (Nat.zero_add _)) hS ?_
  exact pm_iret rfl rfl rfl rfl
theorem b_record {u : Int32} {v : Int32} {x : Int32} (hS : pm_call d 67 [.ref 1, .int u, .int v] (N, HC IA LA RA SC dr tl) (.inl (some (.int x))) h1 bc bs) : pm_call (d + 1) 82 [.ref 0, .int u, .int v] (N, HC IA LA RA SC dr tl) (.inl (some (.int x))) h1 bc bs := by
  refine pm_callX jm_82 [(0, .ref 0), (1, .int u), (2, .int v)] rfl rfl rfl ?_
  refine pm_go 1 (pc1 := 1) rfl ?_
  refine pm_getf rfl rfl rfl ?_
  refine pm_go 2 (pc1 := 6) rfl ?_
  refine pm_cV [.int u, .int v] rfl rfl rfl rfl rfl rfl (Nat.le_of_eq (Nat.zero_add _)) (Nat.le_of_eq (Nat.zero_add _)) hS ?_
  exact pm_iret rfl rfl rfl rfl
theorem b_clear  (hS : pm_call d 60 [.ref 1] (N, HC IA LA RA SC dr tl) (.inl none) h1 bc bs) : pm_call (d + 1) 86 [.ref 0] (N, HC IA LA RA SC dr tl) (.inl none) h1 bc bs := by
  refine pm_callX jm_86 [(0, .ref 0)] rfl rfl rfl ?_
  refine pm_go 1 (pc1 := 1) rfl ?_
  refine pm_getf rfl rfl rfl ?_
  refine pm_cV [] rfl rfl rfl rfl rfl rfl (Nat.le_of_eq (Nat.zero_add _)) (Nat.le_of_eq (Nat.zero_add _)) hS ?_
  exact pm_vret rfl rfl rfl rfl
theorem b_load {u : Int32} {x : Int32} (hS : pm_call d 40 [.ref 20, .int u] (N, HC IA LA RA SC dr tl) (.inl (some (.int x))) h1 bc bs) : pm_call (d + 1) 88 [.ref 0, .int u] (N, HC IA LA RA SC dr tl) (.inl (some (.int x))) h1 bc bs := by
  refine pm_callX jm_88 [(0, .ref 0), (1, .int u)] rfl rfl rfl ?_
  refine pm_go 1 (pc1 := 1) rfl ?_
  refine pm_getf rfl rfl rfl ?_
  refine pm_go 1 (pc1 := 5) rfl ?_
  refine pm_cV [.int u] rfl rfl rfl rfl rfl rfl (Nat.le_of_eq (Nat.zero_add _)) (Nat.le_of_eq (Nat.zero_add _)) hS ?_
  exact pm_iret rfl rfl rfl rfl
theorem b_alter {u : Int32} {v : Int32} {x : Int32} (hx : x = 0 ∨ x = 1) (hS : pm_call d 41 [.ref 20, .int u, .int v] (N, HC IA LA RA SC dr tl) (.inl (some (.int x))) h1 bc bs) : pm_call (d + 1) 89 [.ref 0, .int u, .int v] (N, HC IA LA RA SC dr tl) (.inl (some (.int x))) h1 bc bs := by
  refine pm_callX jm_89 [(0, .ref 0), (1, .int u), (2, .int v)] rfl rfl rfl ?_
  refine pm_go 1 (pc1 := 1) rfl ?_
  refine pm_getf rfl rfl rfl ?_
  refine pm_go 2 (pc1 := 6) rfl ?_
  refine pm_cV [.int u, .int v] rfl rfl rfl rfl rfl rfl (Nat.le_of_eq (Nat.zero_add _)) (Nat.le_of_eq (Nat.zero_add _)) hS ?_
  rcases hx with e | e
  · subst e; exact pm_iret rfl rfl rfl rfl
  · subst e; exact pm_iret rfl rfl rfl rfl
theorem b_wipe  {x : Int32} (hS : pm_call d 42 [.ref 20] (N, HC IA LA RA SC dr tl) (.inl (some (.int x))) h1 bc bs) : pm_call (d + 1) 90 [.ref 0] (N, HC IA LA RA SC dr tl) (.inl (some (.int x))) h1 bc bs := by
  refine pm_callX jm_90 [(0, .ref 0)] rfl rfl rfl ?_
  refine pm_go 1 (pc1 := 1) rfl ?_
  refine pm_getf rfl rfl rfl ?_
  refine pm_cV [] rfl rfl rfl rfl rfl rfl (Nat.le_of_eq (Nat.zero_add _)) (Nat.le_of_eq (Nat.zero_add _)) hS ?_
  exact pm_iret rfl rfl rfl rfl
theorem b_rewind  (hS : pm_call d 38 [.ref 20] (N, HC IA LA RA SC dr tl) (.inl none) h1 bc bs) : pm_call (d + 1) 91 [.ref 0] (N, HC IA LA RA SC dr tl) (.inl none) h1 bc bs := by
  refine pm_callX jm_91 [(0, .ref 0)] rfl rfl rfl ?_
  refine pm_go 1 (pc1 := 1) rfl ?_
  refine pm_getf rfl rfl rfl ?_
  refine pm_cV [] rfl rfl rfl rfl rfl rfl (Nat.le_of_eq (Nat.zero_add _)) (Nat.le_of_eq (Nat.zero_add _)) hS ?_
  exact pm_vret rfl rfl rfl rfl
theorem b_next  {x : Int32} (hS : pm_call d 44 [.ref 20] (N, HC IA LA RA SC dr tl) (.inl (some (.int x))) h1 bc bs) : pm_call (d + 1) 92 [.ref 0] (N, HC IA LA RA SC dr tl) (.inl (some (.int x))) h1 bc bs := by
  refine pm_callX jm_92 [(0, .ref 0)] rfl rfl rfl ?_
  refine pm_go 1 (pc1 := 1) rfl ?_
  refine pm_getf rfl rfl rfl ?_
  refine pm_cV [] rfl rfl rfl rfl rfl rfl (Nat.le_of_eq (Nat.zero_add _)) (Nat.le_of_eq (Nat.zero_add _)) hS ?_
  exact pm_iret rfl rfl rfl rfl
theorem b_info {u : Int32} {x : Int32} (hS : pm_call d 43 [.ref 20, .int u] (N, HC IA LA RA SC dr tl) (.inl (some (.int x))) h1 bc bs) : pm_call (d + 1) 93 [.ref 0, .int u] (N, HC IA LA RA SC dr tl) (.inl (some (.int x))) h1 bc bs := by
  refine pm_callX jm_93 [(0, .ref 0), (1, .int u)] rfl rfl rfl ?_
  refine pm_go 1 (pc1 := 1) rfl ?_
  refine pm_getf rfl rfl rfl ?_
  refine pm_go 1 (pc1 := 5) rfl ?_
  refine pm_cV [.int u] rfl rfl rfl rfl rfl rfl (Nat.le_of_eq (Nat.zero_add _)) (Nat.le_of_eq (Nat.zero_add _)) hS ?_
  exact pm_iret rfl rfl rfl rfl
theorem b_nextX {x : Nat} (hS : pm_call d 44 [.ref 20] (N, HC IA LA RA SC dr tl) (.inr x) h1 bc bs) : pm_call (d + 1) 92 [.ref 0] (N, HC IA LA RA SC dr tl) (.inr x) h1 bc bs := by
  refine pm_callX jm_92 [(0, .ref 0)] rfl rfl rfl ?_
  refine pm_go 1 (pc1 := 1) rfl ?_
  refine pm_getf rfl rfl rfl ?_
  exact pm_cX [] rfl rfl rfl rfl rfl rfl (Nat.le_of_eq (Nat.zero_add _)) (Nat.le_of_eq (Nat.zero_add _)) hS rfl rfl
theorem b_words {E : Nat} (hE : SC 2 1 = nI E) (hE2 : E < 100000) : pm_call (d + 2) 83 [.ref 0] (N, HC IA LA RA SC dr tl) (.inl (some (.int (nI ((E + 31) / 32))))) (N, HC IA LA RA SC dr tl) 0 0 := by
  refine pm_callX jm_83 [(0, .ref 0)] rfl rfl rfl ?_
  refine pm_go 1 (pc1 := 1) rfl ?_
  refine pm_getf rfl rfl rfl ?_
  refine pm_getf rfl rfl rfl ?_
  refine pm_cV [] rfl rfl rfl rfl rfl rfl (Nat.le_refl _) (Nat.le_refl _) (c_wordCount hE hE2) ?_
  exact pm_iret rfl rfl rfl rfl
theorem b_depth : pm_call (d + 1) 85 [.ref 0] (N, HC IA LA RA SC dr tl) (.inl (some (.int (SC 4 2)))) (N, HC IA LA RA SC dr tl) 0 0 := by
  refine pm_callX jm_85 [(0, .ref 0)] rfl rfl rfl ?_
  refine pm_go 1 (pc1 := 1) rfl ?_
  refine pm_getf rfl rfl rfl ?_
  refine pm_getf rfl rfl rfl ?_
  refine pm_getf rfl rfl rfl ?_
  exact pm_iret rfl rfl rfl rfl
theorem b_level : pm_call (d + 1) 94 [.ref 0] (N, HC IA LA RA SC dr tl) (.inl (some (.int (SC 21 2)))) (N, HC IA LA RA SC dr tl) 0 0 := by
  refine pm_callX jm_94 [(0, .ref 0)] rfl rfl rfl ?_
  refine pm_go 1 (pc1 := 1) rfl ?_
  refine pm_getf rfl rfl rfl ?_
  refine pm_getf rfl rfl rfl ?_
  refine pm_getf rfl rfl rfl ?_
  exact pm_iret rfl rfl rfl rfl
theorem b_copyN {dp : Nat} (hD : SC 4 2 = nI (dp + 1)) (hd : dp + 1 ≤ 6) : pm_call (d + 1) 87 [.ref 0] (N, HC IA LA RA SC dr tl) (.inl (some (.int (-1)))) (N, HC IA LA RA SC dr tl) 0 0 := by
  refine pm_callX jm_87 [(0, .ref 0)] rfl rfl rfl ?_
  refine pm_go 1 (pc1 := 1) rfl ?_
  refine pm_getf rfl rfl rfl ?_
  refine pm_getf rfl rfl rfl ?_
  refine pm_getf rfl rfl rfl ?_
  refine pm_nm (y := nI (dp + 1)) hD ?_
  refine pm_if rfl (fun z => absurd ((nI_eqI (a := dp + 1) (b := 0) (by omega) (by omega)).mp z) (by omega)) (fun _ => ?_)
  refine pm_go 1 (pc1 := 14) rfl ?_
  exact pm_iret rfl rfl rfl rfl
theorem b_copy {x : Int32} (hD : SC 4 2 = nI 0) (hS : pm_call d 39 [.ref 20, .ref 2] (N, HC IA LA RA SC dr tl) (.inl (some (.int x))) h1 bc bs) : pm_call (d + 1) 87 [.ref 0] (N, HC IA LA RA SC dr tl) (.inl (some (.int x))) h1 bc bs := by
  refine pm_callX jm_87 [(0, .ref 0)] rfl rfl rfl ?_
  refine pm_go 1 (pc1 := 1) rfl ?_
  refine pm_getf rfl rfl rfl ?_
  refine pm_getf rfl rfl rfl ?_
  refine pm_getf rfl rfl rfl ?_
  refine pm_nm (y := nI 0) hD ?_
  refine pm_if rfl (fun _ => ?_) (fun z => absurd rfl z)
  refine pm_go 1 (pc1 := 16) rfl ?_
  refine pm_getf rfl rfl rfl ?_
  refine pm_go 1 (pc1 := 20) rfl ?_
  refine pm_getf rfl rfl rfl ?_
  refine pm_getf rfl rfl rfl ?_
  refine pm_cV [.ref 2] rfl rfl rfl rfl rfl rfl (Nat.le_of_eq (Nat.zero_add _)) (Nat.le_of_eq (Nat.zero_add _)) hS ?_
  exact pm_iret rfl rfl rfl rfl
end PUB
