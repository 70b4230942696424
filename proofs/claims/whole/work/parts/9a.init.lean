/-! THE CONSTRUCTORS -/
section PML
variable {S : Nat → List Value → pm_H → pm_V → pm_H → Nat → Nat → Prop} {J : Nat → pm_I} {nL : Nat} {rt : Option FieldType} {d bc bs : Nat} {pc : Nat} {lv : List (Nat × Value)} {c s : Nat} {N : Nat} {f : Nat → va_E} {r : pm_V} {h' : pm_H} {t : List Value}
theorem pm_newl {i : Int32} {n : Nat} {a b : Nat} {z : Int32} (hi : J pc = (.newarray .long, a, b, z)) (hn : i.toInt = (n : Int)) (hN : n < 100000) (hc : c + 1 ≤ bc) (hs : s + n ≤ bs) (kk : pm_X S J nL rt d bc bs (pc + 2) lv (.ref N :: t) (c + 1) (s + n) (N + 1, va_up f N (.inl (1, n, .inr (.inl (fun _ => 0))))) r h') : pm_X S J nL rt d bc bs pc lv (.int i :: t) c s (N, f) r h' := by
  obtain ⟨m, kk⟩ := kk
  refine ⟨m + 1, ?_⟩
  unfold pm_run
  rw [hi]
  exact ⟨n, i, t, rfl, hn, hN, hc, hs, Or.inr ⟨rfl, kk⟩⟩
end PML
/-- a new nest at p, its cells from N on, i blocks made -/
def nsK (f : Nat → va_E) (p N i : Nat) : Nat → va_E := fun k => if N + 4 ≤ k ∧ k < N + 4 + i then .inr (1, [.int (-1), .int 2, .int 0, .int 0, .int 0]) else if k = N then .inl (2 + 1, 7, .inr (.inr (.inr (.inr (fun j => if j < i then some (N + 4 + j) else none))))) else if k = p then .inr (4, [.ref N, .ref (N + 1), .int 0]) else if k = N + 1 then .inr (3, [.ref (N + 2), .ref (N + 3)]) else if k = N + 2 then .inl (2 + 2, 568, .inr (.inr (.inr (.inr (fun _ => none))))) else if k = N + 3 then .inl (0, 71, .inl (fun _ => 0)) else f k
section INI2
variable {f : Nat → va_E} {p N d : Nat}
theorem nsK_s {i : Nat} (hp : p < N) : va_up (va_up (va_up (nsK f p N i) (N + 4 + i) (.inr (1, [.int 0, .int 0, .int 0, .int 0, .int 0]))) (N + 4 + i) (.inr (1, [.int (-1), .int 2, .int 0, .int 0, .int 0]))) N (.inl (2 + 1, 7, .inr (.inr (.inr (.inr (va_up (fun j => if j < i then some (N + 4 + j) else none) i (some (N + 4 + i)))))))) = nsK f p N (i + 1) := by
  funext k
  by_cases h1 : k = N
  · subst h1
    rw [va_up_self]
    unfold nsK
    rw [if_neg (by omega), if_pos rfl]
    congr 7
    funext j
    by_cases hj : j = i
    · subst hj
      rw [va_up_self, if_pos (by omega)]
    · rw [va_up_ne _ _ hj]
      by_cases hl : j < i
      · rw [if_pos hl, if_pos (by omega)]
      · rw [if_neg hl, if_neg (by omega)]
  · rw [va_up_ne _ _ h1, va_up2]
    by_cases h2 : k = N + 4 + i
    · subst h2
      rw [va_up_self]
      unfold nsK
      rw [if_pos (by omega)]
    · rw [va_up_ne _ _ h2]
      unfold nsK
      by_cases h3 : N + 4 ≤ k ∧ k < N + 4 + i
      · rw [if_pos h3, if_pos (by omega)]
      · rw [if_neg h3, if_neg (show ¬ (N + 4 ≤ k ∧ k < N + 4 + (i + 1)) by omega), if_neg h1, if_neg h1]
theorem c_Nest_loop (hp : p < N) : ∀ (j i : Nat), i + j = 7 → pm_X (pm_call (d + 2)) jm_27 2 none (d + 2) 11 683 31 [(0, .ref p), (1, .int (nI i))] [] (4 + i) (648 + 5 * i) (N + 4 + i, nsK f p N i) (.inl none) (N + 11, nsK f p N 7) := by
  have hnp : ∀ i, nsK f p N i p = .inr (4, [.ref N, .ref (N + 1), .int 0]) := fun i => by
    unfold nsK
    rw [if_neg (by omega), if_neg (by omega), if_pos rfl]
  have hnN : ∀ i, nsK f p N i N = .inl (2 + 1, 7, .inr (.inr (.inr (.inr (fun j => if j < i then some (N + 4 + j) else none))))) := fun i => by
    unfold nsK
    rw [if_neg (by omega), if_pos rfl]
  intro j
  induction j with
  | zero =>
    intro i hi
    have e : i = 7 := by omega
    subst e
    refine pm_go 2 (pc1 := 33) rfl ?_
    refine pm_getf rfl (hnp _) rfl ?_
    refine pm_alen rfl (hnN _) (Or.inr (Or.inr ⟨1, by decide, rfl⟩)) ?_
    refine pm_icmp rfl (fun _ => ?_) (fun z => absurd (show nI 7 ≤ nI 7 by decide) z)
    exact pm_vret rfl rfl rfl rfl
  | succ j ih =>
    intro i hi
    refine pm_go 2 (pc1 := 33) rfl ?_
    refine pm_getf rfl (hnp _) rfl ?_
    refine pm_alen rfl (hnN _) (Or.inr (Or.inr ⟨1, by decide, rfl⟩)) ?_
    refine pm_icmp rfl (fun z => absurd ((nI_leI (by omega) (by omega)).mp z) (by omega)) (fun _ => ?_)
    refine pm_go 1 (pc1 := 41) rfl ?_
    refine pm_getf rfl (hnp _) rfl ?_
    refine pm_go 1 (pc1 := 45) rfl ?_
    refine pm_new rfl rfl (by omega) (by omega) ?_
    refine pm_go 1 (pc1 := 49) rfl ?_
    refine pm_cI [] rfl rfl rfl rfl rfl (c1 := 0) (s1 := 0) (by omega) (by omega) (c_Block_init (a0 := 0) (a1 := 0) (a2 := 0) (a3 := 0) (a4 := 0) (va_up_self _ _ _)) ?_
    refine pm_aastU (j := i) (n := 7) (q := 1) (y := N + 4 + i) rfl ?_ (va_up_self _ _ _) (by decide) (cw_ti (by omega)) (by omega) (nsK_s hp) ?_
    · rw [va_up_ne _ _ (by omega), va_up_ne _ _ (by omega)]
      exact hnN i
    refine pm_go 2 (pc1 := 31) rfl ?_
    rw [nI_1]
    refine pm_lv [(0, .ref p), (1, .int (nI (i + 1)))] rfl rfl ?_
    have h := ih (i + 1) (by omega)
    rw [show 648 + 5 * (i + 1) = 648 + 5 * i + 5 by omega] at h
    exact h
theorem nsK_0 {g : Nat → va_E} (hp : p < N) (hg : g = va_up (va_up (va_up (va_up (va_up (va_up (va_up f N (.inl (2 + 1, 7, .inr (.inr (.inr (.inr (fun _ => none))))))) p (.inr (4, [.ref N, .null, .int 0]))) (N + 1) (.inr (3, [.null, .null]))) (N + 2) (.inl (2 + 2, 568, .inr (.inr (.inr (.inr (fun _ => none))))))) (N + 3) (.inl (0, 71, .inl (fun _ => 0)))) (N + 1) (.inr (3, [.ref (N + 2), .ref (N + 3)]))) p (.inr (4, [.ref N, .ref (N + 1), .int 0]))) : g = nsK f p N 0 := by
  subst hg
  funext k
  unfold nsK
  rw [if_neg (by omega)]
  by_cases h1 : k = p
  · subst h1
    rw [va_up_self, if_neg (by omega), if_pos rfl]
  · rw [va_up_ne _ _ h1]
    by_cases h2 : k = N + 1
    · subst h2
      rw [va_up_self, if_neg (by omega), if_neg h1, if_pos rfl]
    · rw [va_up_ne _ _ h2]
      by_cases h3 : k = N + 3
      · subst h3
        rw [va_up_self, if_neg (by omega), if_neg h1, if_neg h2, if_neg (by omega), if_pos rfl]
      · rw [va_up_ne _ _ h3]
        by_cases h4 : k = N + 2
        · subst h4
          rw [va_up_self, if_neg (by omega), if_neg h1, if_neg h2, if_pos rfl]
        · rw [va_up_ne _ _ h4, va_up_ne _ _ h2, va_up_ne _ _ h1]
          by_cases h5 : k = N
          · subst h5
            rw [va_up_self, if_pos rfl]
            congr 7
          · rw [va_up_ne _ _ h5, if_neg h5, if_neg h1, if_neg h2, if_neg h4, if_neg h3]
theorem c_Nest_init (hp : p < N) (hf : f p = .inr (4, [.null, .null, .int 0])) : pm_call (d + 3) 27 [.ref p] (N, f) (.inl none) (N + 11, nsK f p N 7) 11 683 := by
  refine pm_callX jm_27 [(0, .ref p)] rfl rfl rfl ?_
  refine pm_go 1 (pc1 := 1) rfl ?_
  refine pm_obj rfl (by omega) rfl ?_
  refine pm_go 2 (pc1 := 7) rfl ?_
  refine pm_newa (n := 7) rfl rfl (by decide) (by decide) (by decide) ?_
  refine pm_putU rfl ((va_up_ne _ _ (Nat.ne_of_lt hp)).trans hf) rfl rfl rfl ?_
  refine pm_go 1 (pc1 := 14) rfl ?_
  refine pm_new rfl rfl (by decide) (by decide) ?_
  refine pm_go 1 (pc1 := 18) rfl ?_
  refine pm_cI [] rfl rfl rfl rfl rfl (c1 := 2) (s1 := 639) (by decide) (by decide) (c_FormRows_init (a := N + 1) (by omega) (va_up_self _ _ _)) ?_
  refine pm_putU (fs := [.ref N, .null, .int 0]) rfl ?_ rfl rfl rfl ?_
  · rw [va_up_ne _ _ (by omega), va_up_ne _ _ (by omega), va_up_ne _ _ (by omega), va_up_ne _ _ (by omega), va_up_self]
    rfl
  refine pm_go 2 (pc1 := 26) rfl ?_
  refine pm_putU rfl (va_up_self _ _ _) rfl rfl (va_up2 ..) ?_
  refine pm_go 2 (pc1 := 31) rfl ?_
  refine pm_hp (nsK_0 hp rfl) ?_
  exact pm_lv [(0, .ref p), (1, .int (nI 0))] rfl rfl (c_Nest_loop hp 7 0 rfl)
end INI2
