/-! THE STATE AT FIRST -/
def bbN (f : Nat → va_E) : Nat → va_E := va_up (va_up (rdN2 (va_up (wrN f) 0 (.inr (7, [.ref 1, .null])))) 0 (.inr (7, [.ref 1, .ref 20]))) 0 (.inr (7, [.ref 1, .ref 20]))
def mdN (f : Nat → va_E) : Nat → va_E := fun k => match k with
  | 36 => .inr (8, [.ref 37, .ref 38, .int 0, .ref 39, .ref 40, .ref 41, .ref 42, .ref 43, .ref 44, .ref 45, .ref 46, .ref 47, .ref 48, .ref 49, .ref 50, .ref 51, .int 0, .ref 52, .int 0, .int 0, .int 0, .int 0, .int 0, .ref 53, .ref 54])
  | 37 => .inl (0, 256, .inl (fun _ => 0))
  | 38 => .inl (0, 2, .inl (fun _ => 0))
  | 39 => .inl (0, 2, .inl (fun _ => 0))
  | 40 => .inl (0, 14, .inl (fun _ => 0))
  | 41 => .inl (0, 14, .inl (fun _ => 0))
  | 42 => .inl (0, 14, .inl (fun _ => 0))
  | 43 => .inl (0, 14, .inl (fun _ => 0))
  | 44 => .inl (0, 14, .inl (fun _ => 0))
  | 45 => .inl (0, 112, .inl (fun _ => 0))
  | 46 => .inl (0, 128, .inl (fun _ => 0))
  | 47 => .inl (0, 1024, .inl (fun _ => 0))
  | 48 => .inl (1, 2400, .inr (.inl (fun _ => 0)))
  | 49 => .inl (0, 300, .inl (fun _ => 0))
  | 50 => .inl (0, 2, .inl (fun _ => 0))
  | 51 => .inl (1, 8, .inr (.inl (fun _ => 0)))
  | 52 => .inl (0, 16, .inl (fun _ => 0))
  | 53 => .inl (0, 20, .inl (fun _ => 0))
  | 54 => .inl (0, 20, .inl (fun _ => 0))
  | k => f k
theorem c_BB0 {f : Nat → va_E} (hf : f 0 = .inr (7, [.null, .null])) : pm_call 15 75 [.ref 0] (1, f) (.inl none) (36, bbN f) 35 1587 := c_BitBlocks_init (d := 9) hf
theorem c_MD0 {f : Nat → va_E} (hf : f 36 = .inr (8, [.null, .null, .int 0, .null, .null, .null, .null, .null, .null, .null, .null, .null, .null, .null, .null, .null, .int 0, .null, .int 0, .int 0, .int 0, .int 0, .int 0, .null, .null])) : pm_call 15 98 [.ref 36] (37, f) (.inl none) (55, mdN f) 18 4360 := c_Model_init (d := 13) hf
def RA0 : Nat → Nat → Option Nat := fun k j => if k = 5 then (if j < 7 then some (9 + j) else none) else if k = 22 then (if j < 7 then some (26 + j) else none) else none
def SC0 : Nat → Nat → Int32 := fun k j => if (9 ≤ k ∧ k ≤ 15) ∨ (26 ≤ k ∧ k ≤ 32) then (if j = 0 then -1 else if j = 1 then 2 else 0) else if k = 1 ∧ j = 4 then 1 else 0
theorem RR_0 {tl : Nat → va_E} (h1 : tl 16 = .inr (2, [.ref 17, .ref 18, .int 0])) (h2 : tl 17 = .inl (0, 8, .inl (fun _ => 0))) (h3 : tl 18 = .inl (0, 8, .inl (fun _ => 0))) : RR (fun _ _ => 0) (fun _ _ => 0) RA0 SC0 16 tl 56 := by
  refine ⟨Nat.le_refl _, fun i hi => ?_, fun i hi => ?_, ⟨Or.inl rfl, by omega, 0, fun _ => 0, fun _ => 0, fun _ => 0, fun _ => 0, ⟨h1, h2, h3, by omega⟩, fun k hk => absurd hk (by omega), ?_, rfl, ?_⟩, ⟨0, fun _ => 0, by omega, rfl, rfl, fun j hj => absurd hj (by omega)⟩, ⟨0, 0, 0, rfl, rfl, by omega, ⟨fun _ _ => rfl, fun j _ _ => ?_⟩, rfl, fun _ => rfl, rfl, by omega, fun w hw => absurd hw (by omega), SdR_0 rfl rfl rfl (fun _ _ => rfl) (fun _ _ => rfl)⟩, 0, 0, 0, 0, 0, 0, ⟨rfl, rfl, by omega, fun i hi => absurd hi (by omega)⟩, rfl, ⟨rfl, rfl, by omega⟩, ⟨rfl, by omega⟩, fun _ => ⟨rfl, rfl, by omega, by omega⟩, ⟨rfl, rfl, by omega, fun i hi => absurd hi (by omega)⟩, SdR_0 rfl rfl rfl (fun _ _ => rfl) (fun _ _ => rfl)⟩
  · simp [RA0, hi]
  · simp [RA0, hi]
  · unfold fmB
    first | omega | (intros; omega) | (refine ⟨?_, ?_⟩ <;> first | omega | (intros; omega)) | simp
  · intro j hj
    exact absurd hj (by omega)
  · unfold sb bt
    simp
theorem St_F {F : Nat → va_E} (h : ∀ k, k < 56 → F k = HC (fun _ _ => 0) (fun _ _ => 0) RA0 SC0 16 F k) (h1 : F 16 = .inr (2, [.ref 17, .ref 18, .int 0])) (h2 : F 17 = .inl (0, 8, .inl (fun _ => 0))) (h3 : F 18 = .inl (0, 8, .inl (fun _ => 0))) : St (56, F) := by
  refine ⟨_, _, RA0, SC0, 16, F, 56, ?_, RR_0 h1 h2 h3⟩
  refine congrArg (fun q => (56, q)) ?_
  funext k
  by_cases hk : k < 56
  · exact h k hk
  · obtain ⟨n, rfl⟩ : ∃ n, k = n + 56 := ⟨k - 56, by omega⟩
    rfl
theorem RA0_5 : RA0 5 = fun j => if j < 7 then some (9 + j) else none := rfl
theorem St_0 {f : Nat → va_E} {X : va_E} : St (56, va_up (mdN (va_up (bbN f) 36 X)) 55 (.inl (1, 1, .inr (.inl (fun _ => 0))))) := by
  refine St_F (fun k hk => ?_) rfl rfl rfl
  match k, hk with
  | 0, _ => rfl
  | 1, _ => rfl
  | 2, _ => rfl
  | 3, _ => rfl
  | 4, _ => rfl
  | 5, _ => rfl
  | 6, _ => rfl
  | 7, _ => rfl
  | 8, _ => rfl
  | 9, _ => rfl
  | 10, _ => rfl
  | 11, _ => rfl
  | 12, _ => rfl
  | 13, _ => rfl
  | 14, _ => rfl
  | 15, _ => rfl
  | 16, _ => rfl
  | 17, _ => rfl
  | 18, _ => rfl
  | 19, _ => rfl
  | 20, _ => rfl
  | 21, _ => rfl
  | 22, _ => rfl
  | 23, _ => rfl
  | 24, _ => rfl
  | 25, _ => rfl
  | 26, _ => rfl
  | 27, _ => rfl
  | 28, _ => rfl
  | 29, _ => rfl
  | 30, _ => rfl
  | 31, _ => rfl
  | 32, _ => rfl
  | 33, _ => rfl
  | 34, _ => rfl
  | 35, _ => rfl
  | 36, _ => rfl
  | 37, _ => rfl
  | 38, _ => rfl
  | 39, _ => rfl
  | 40, _ => rfl
  | 41, _ => rfl
  | 42, _ => rfl
  | 43, _ => rfl
  | 44, _ => rfl
  | 45, _ => rfl
  | 46, _ => rfl
  | 47, _ => rfl
  | 48, _ => rfl
  | 49, _ => rfl
  | 50, _ => rfl
  | 51, _ => rfl
  | 52, _ => rfl
  | 53, _ => rfl
  | 54, _ => rfl
  | 55, _ => rfl
  | k + 56, hk => exact absurd hk (by omega)
