/-! THE ROWS OF FORMS: addForm, find, copyRow, removeForms, the constructor -/
section PMW
variable {S : Nat → List Value → pm_H → pm_V → pm_H → Nat → Nat → Prop} {J : Nat → pm_I} {nL : Nat} {rt : Option FieldType} {d bc bs : Nat} {pc : Nat} {lv : List (Nat × Value)} {st : List Value} {c s : Nat} {N : Nat} {f f1 : Nat → va_E} {h h1 : pm_H} {r : pm_V} {h' : pm_H} {t : List Value}
theorem pm_newa {i : Int32} {n : Nat} {o a b : Nat} {z : Int32} (hi : J pc = (.anewarray o, a, b, z)) (hn : i.toInt = (n : Int)) (hN : n < 100000) (hc : c + 1 ≤ bc) (hs : s + n ≤ bs) (kk : pm_X S J nL rt d bc bs (pc + 3) lv (.ref N :: t) (c + 1) (s + n) (N + 1, va_up f N (.inl (2 + a, n, .inr (.inr (.inr (.inr (fun _ => none))))))) r h') : pm_X S J nL rt d bc bs pc lv (.int i :: t) c s (N, f) r h' := by
  obtain ⟨m, kk⟩ := kk
  refine ⟨m + 1, ?_⟩
  unfold pm_run
  rw [hi]
  exact ⟨n, i, t, rfl, hn, hN, hc, hs, kk⟩
end PMW
section ROWS2
variable {f : Nat → va_E} {a : Nat} {R : Nat → Option Nat} {G : Nat → Int32} {N d : Nat} {h : pm_H}
theorem c_addFormN {i : Int32} {v : Value} {fs : List Value} {y : Nat} (hv : v = .ref y) (h0 : h.2 a = .inr (3, fs)) (hi : ¬ frIn i) : pm_call (d + 3) 23 [.ref a, .int i, v] h (.inl (some (.int 0))) h 0 0 := by
  subst hv
  refine pm_callX jm_23 [(0, .ref a), (1, .int i), (2, .ref y)] rfl rfl rfl ?_
  refine pm_go 2 (pc1 := 2) rfl ?_
  refine pm_cV [.int i] rfl rfl rfl rfl h0 rfl (Nat.le_refl _) (Nat.le_refl _) (c_hasRoomN hi) ?_
  refine pm_if rfl (fun z => absurd rfl z) (fun _ => ?_)
  refine pm_go 1 (pc1 := 9) rfl ?_
  exact pm_iret rfl rfl rfl rfl
theorem c_addForm8 {r y : Nat} (h : frAt f a R G) (hr : r < 71) (hG : G r = nI 8) : pm_call (d + 3) 23 [.ref a, .int (nI r), .ref y] (N, f) (.inl (some (.int 0))) (N, f) 0 0 := by
  have hh := h
  obtain ⟨h0, h1, h2⟩ := hh
  refine pm_callX jm_23 [(0, .ref a), (1, .int (nI r)), (2, .ref y)] rfl rfl rfl ?_
  refine pm_go 2 (pc1 := 2) rfl ?_
  refine pm_cV [.int (nI r)] rfl rfl rfl rfl h0 rfl (Nat.le_refl _) (Nat.le_refl _) (c_hasRoom h hr hG (Nat.le_refl _)) ?_
  refine pm_if rfl (fun z => absurd rfl z) (fun _ => ?_)
  refine pm_go 1 (pc1 := 9) rfl ?_
  exact pm_iret rfl rfl rfl rfl
/-- the heap after a form is added to row r, which had m -/
def frAdd (f : Nat → va_E) (a : Nat) (R : Nat → Option Nat) (G : Nat → Int32) (r m y : Nat) : Nat → va_E := va_up (va_up f (a + 1) (.inl (2 + 2, 568, .inr (.inr (.inr (.inr (va_up R (8 * r + m) (some y)))))))) (a + 2) (.inl (0, 71, .inl (upd G r (nI (m + 1)))))
theorem frAdd_at {r m y : Nat} (h : frAt f a R G) : frAt (frAdd f a R G r m y) a (va_up R (8 * r + m) (some y)) (upd G r (nI (m + 1))) := by
  obtain ⟨h0, h1, h2⟩ := h
  unfold frAdd
  refine ⟨?_, ?_, va_up_self _ _ _⟩
  · rw [va_up_ne _ _ (by omega), va_up_ne _ _ (by omega)]; exact h0
  · rw [va_up_ne _ _ (by omega), va_up_self]
theorem frAdd_ne {r m y j : Nat} (h1 : j ≠ a + 1) (h2 : j ≠ a + 2) : frAdd f a R G r m y j = f j := by
  unfold frAdd
  rw [va_up_ne _ _ h2, va_up_ne _ _ h1]
theorem c_addForm {r m y : Nat} {fs : List Value} (h : frAt f a R G) (hr : r < 71) (hG : G r = nI m) (hm : m < 8) (hy : f y = .inr (2, fs)) : pm_call (d + 3) 23 [.ref a, .int (nI r), .ref y] (N, f) (.inl (some (.int (nI (4 + m))))) (N, frAdd f a R G r m y) 0 0 := by
  have hh := h
  obtain ⟨h0, h1, h2⟩ := hh
  have e1 : ∀ e, va_up f (a + 1) e a = f a := fun e => va_up_ne f e (by omega)
  have e3 : ∀ e, va_up f (a + 1) e (a + 2) = f (a + 2) := fun e => va_up_ne f e (by omega)
  refine pm_callX jm_23 [(0, .ref a), (1, .int (nI r)), (2, .ref y)] rfl rfl rfl ?_
  refine pm_go 2 (pc1 := 2) rfl ?_
  refine pm_cV [.int (nI r)] rfl rfl rfl rfl h0 rfl (Nat.le_refl _) (Nat.le_refl _) (c_hasRoom h hr hG (by omega)) ?_
  rw [if_pos hm]
  refine pm_if rfl (fun _ => ?_) (fun z => absurd (fun w => absurd (show (1 : Int32) = 0 from w) (by decide)) z)
  refine pm_go 2 (pc1 := 12) rfl ?_
  refine pm_getf rfl h0 rfl ?_
  refine pm_go 1 (pc1 := 16) rfl ?_
  refine pm_iald (j := r) rfl h2 (cw_ti (by omega)) hr ?_
  rw [hG]
  refine pm_go 3 (pc1 := 20) rfl ?_
  rw [show (4 : Int32) + nI m = nI (4 + m) from (nI_add 4 m)]
  refine pm_getf rfl h0 rfl ?_
  refine pm_go 4 (pc1 := 28) rfl ?_
  rw [show nI r * 8 = nI (r * 8) from pk_mul r 8]
  refine pm_getf rfl h0 rfl ?_
  refine pm_go 1 (pc1 := 32) rfl ?_
  refine pm_iald (j := r) rfl h2 (cw_ti (by omega)) hr ?_
  rw [hG]
  refine pm_go 2 (pc1 := 35) rfl ?_
  rw [show nI (r * 8) + nI m = nI (8 * r + m) from by rw [nI_add, Nat.mul_comm]]
  refine pm_aastU (j := 8 * r + m) (q := 2) rfl h1 hy (by decide) (cw_ti (by omega)) (by omega) rfl ?_
  refine pm_go 1 (pc1 := 37) rfl ?_
  refine pm_getf rfl ((e1 _).trans h0) rfl ?_
  refine pm_go 2 (pc1 := 42) rfl ?_
  refine pm_iald (j := r) rfl ((e3 _).trans h2) (cw_ti (by omega)) hr ?_
  rw [hG]
  refine pm_go 2 (pc1 := 45) rfl ?_
  rw [nI_1]
  refine pm_iastU (j := r) rfl ((e3 _).trans h2) (cw_ti (by omega)) hr rfl ?_
  refine pm_go 1 (pc1 := 47) rfl ?_
  exact pm_iret rfl rfl rfl rfl
theorem c_findN {i x : Int32} (hi : ¬ frIn i) : pm_call (d + 2) 24 [.ref a, .int i, .int x] h (.inl (some .null)) h 0 0 := by
  refine pm_callX jm_24 [(0, .ref a), (1, .int i), (2, .int x)] rfl rfl rfl ?_
  refine pm_go 1 (pc1 := 1) rfl ?_
  refine pm_cS [.int i] rfl rfl rfl rfl rfl (Nat.le_refl _) (Nat.le_refl _) c_isRow ?_
  rw [if_neg hi]
  refine pm_if rfl (fun _ => ?_) (fun z => absurd rfl z)
  refine pm_go 1 (pc1 := 25) rfl ?_
  exact pm_aret rfl rfl rfl rfl rfl
theorem c_find {r m x : Nat} (h : frAt f a R G) (hr : r < 71) (hG : G r = nI m) (hm : m ≤ 8) (hx : x < 2 ^ 31) : pm_call (d + 2) 24 [.ref a, .int (nI r), .int (nI x)] (N, f) (.inl (some (va_rf (if 4 ≤ x ∧ x < 4 + m then R (8 * r + (x - 4)) else none)))) (N, f) 0 0 := by
  have hh := h
  obtain ⟨h0, h1, h2⟩ := hh
  have hno : ¬ (4 ≤ x ∧ x < 4 + m) → pm_X (pm_call (d + 1)) jm_24 3 (some (.object "BitBlocks$Form")) (d + 1) 0 0 24 [] [] 0 0 (N, f) (.inl (some (va_rf (if 4 ≤ x ∧ x < 4 + m then R (8 * r + (x - 4)) else none)))) (N, f) := by
    intro z
    refine pm_go 1 (pc1 := 25) rfl ?_
    exact pm_aret rfl rfl rfl (by rw [if_neg z]; rfl) rfl
  refine pm_callX jm_24 [(0, .ref a), (1, .int (nI r)), (2, .int (nI x))] rfl rfl rfl ?_
  refine pm_go 1 (pc1 := 1) rfl ?_
  refine pm_cS [.int (nI r)] rfl rfl rfl rfl rfl (Nat.le_refl _) (Nat.le_refl _) c_isRow ?_
  rw [if_pos (frIn_nI hr)]
  refine pm_if rfl (fun z => absurd (show (1 : Int32) = 0 from z) (by decide)) (fun _ => ?_)
  refine pm_go 2 (pc1 := 9) rfl ?_
  refine pm_icmp rfl (fun z => pm_lv [] rfl rfl (hno fun w => ?_)) (fun z => ?_)
  · have hz : x < 4 := (nI_ltI (b := 4) (by omega) (by omega)).mp z
    omega
  have hx4 : ¬ x < 4 := fun w => z ((nI_ltI (b := 4) (by omega) (by omega)).mpr w)
  refine pm_go 4 (pc1 := 16) rfl ?_
  rw [show nI x - 4 = nI (x - 4) from pk_sub (b := 4) (by omega)]
  refine pm_getf rfl h0 rfl ?_
  refine pm_go 1 (pc1 := 20) rfl ?_
  refine pm_iald (j := r) rfl h2 (cw_ti (by omega)) hr ?_
  rw [hG]
  refine pm_icmp rfl (fun z => ?_) (fun z => ?_)
  · have hz : x - 4 < m := (nI_ltI (by omega) (by omega)).mp z
    rw [if_pos (by omega)]
    refine pm_go 1 (pc1 := 27) rfl ?_
    refine pm_getf rfl h0 rfl ?_
    refine pm_go 7 (pc1 := 38) rfl ?_
    rw [show nI r * 8 + nI x - 4 = nI (8 * r + (x - 4)) from by rw [show nI r * 8 = nI (r * 8) from pk_mul r 8, nI_add, show nI (r * 8 + x) - 4 = nI (r * 8 + x - 4) from pk_sub (b := 4) (by omega)]; congr 1; omega]
    refine pm_aald (j := 8 * r + (x - 4)) (q := 2) rfl h1 (by decide) (cw_ti (by omega)) (by omega) ?_
    refine pm_aret rfl ?_ ?_ rfl rfl
    · cases R (8 * r + (x - 4)) <;> rfl
    · cases R (8 * r + (x - 4)) <;> rfl
  · have hz : ¬ x - 4 < m := fun w => z ((nI_ltI (by omega) (by omega)).mpr w)
    exact pm_lv [] rfl rfl (hno fun w => by omega)
end ROWS2
