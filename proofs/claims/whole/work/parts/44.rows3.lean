/-! THE ROWS OF FORMS: copyRow, removeForms, the constructor -/
theorem va_up_id {α : Type} (f : Nat → α) (k : Nat) (e : α) (h : f k = e) : va_up f k e = f := by
  funext j
  by_cases hj : j = k
  · subst hj; rw [va_up_self, h]
  · rw [va_up_ne _ _ hj]
theorem va_up2 {α : Type} (f : Nat → α) (k : Nat) (e e2 : α) : va_up (va_up f k e) k e2 = va_up f k e2 := by
  funext j
  by_cases hj : j = k
  · subst hj; rw [va_up_self, va_up_self]
  · rw [va_up_ne _ _ hj, va_up_ne _ _ hj, va_up_ne _ _ hj]
/-- row r1 copied to row r2, k forms -/
def frCk (R : Nat → Option Nat) (r1 r2 k : Nat) : Nat → Option Nat := fun i => if 8 * r2 ≤ i ∧ i < 8 * r2 + k then R (8 * r1 + (i - 8 * r2)) else R i
theorem frCk_0 (R : Nat → Option Nat) (r1 r2 : Nat) : frCk R r1 r2 0 = R := by
  funext i
  unfold frCk
  rw [if_neg (by omega)]
theorem frCk_at {R : Nat → Option Nat} {r1 r2 k : Nat} (hk : k < 8) : frCk R r1 r2 k (8 * r1 + k) = R (8 * r1 + k) := by
  unfold frCk
  rw [if_neg (by omega)]
theorem frCk_s {R : Nat → Option Nat} {r1 r2 k : Nat} : va_up (frCk R r1 r2 k) (8 * r2 + k) (R (8 * r1 + k)) = frCk R r1 r2 (k + 1) := by
  funext i
  by_cases h : i = 8 * r2 + k
  · subst h
    rw [va_up_self]
    unfold frCk
    rw [if_pos (by omega)]
    congr 1
    omega
  · rw [va_up_ne _ _ h]
    unfold frCk
    by_cases h2 : 8 * r2 ≤ i ∧ i < 8 * r2 + k
    · rw [if_pos h2, if_pos (by omega)]
    · rw [if_neg h2, if_neg (by omega)]
def frCpy (f : Nat → va_E) (a : Nat) (R : Nat → Option Nat) (G : Nat → Int32) (r1 r2 m : Nat) : Nat → va_E := va_up (va_up f (a + 1) (.inl (2 + 2, 568, .inr (.inr (.inr (.inr (frCk R r1 r2 m))))))) (a + 2) (.inl (0, 71, .inl (upd G r2 (nI m))))
def frZk (G : Nat → Int32) (k : Nat) : Nat → Int32 := fun i => if i < k then 0 else G i
theorem frZk_0 (G : Nat → Int32) : frZk G 0 = G := by
  funext i
  unfold frZk
  rw [if_neg (by omega)]
theorem frZk_s (G : Nat → Int32) (k : Nat) : upd (frZk G k) k 0 = frZk G (k + 1) := by
  funext j
  by_cases h : j = k
  · subst h
    rw [pk_us]
    unfold frZk
    rw [if_pos (by omega)]
  · rw [pk_un h]
    unfold frZk
    by_cases h2 : j < k
    · rw [if_pos h2, if_pos (by omega)]
    · rw [if_neg h2, if_neg (by omega)]
section ROWS3
variable {f : Nat → va_E} {a : Nat} {R : Nat → Option Nat} {G : Nat → Int32} {N d : Nat}
theorem frCpy_at {r1 r2 m : Nat} (h : frAt f a R G) : frAt (frCpy f a R G r1 r2 m) a (frCk R r1 r2 m) (upd G r2 (nI m)) := by
  obtain ⟨h0, h1, h2⟩ := h
  unfold frCpy
  refine ⟨?_, ?_, va_up_self _ _ _⟩
  · rw [va_up_ne _ _ (by omega), va_up_ne _ _ (by omega)]; exact h0
  · rw [va_up_ne _ _ (by omega), va_up_self]
theorem frCpy_ne {r1 r2 m j : Nat} (h1 : j ≠ a + 1) (h2 : j ≠ a + 2) : frCpy f a R G r1 r2 m j = f j := by
  unfold frCpy
  rw [va_up_ne _ _ h2, va_up_ne _ _ h1]
theorem c_copyRow_loop {r1 r2 m : Nat} (h : frAt f a R G) (hr1 : r1 < 71) (hr2 : r2 < 71) (hG : G r1 = nI m) (hm : m ≤ 8) (hR : ∀ j, j < m → ∃ y fs, R (8 * r1 + j) = some y ∧ f y = .inr (2, fs)) : ∀ (j k : Nat), k + j = m →
    pm_X (pm_call (d + 1)) jm_25 4 none (d + 1) 0 0 17 [(0, .ref a), (1, .int (nI r1)), (2, .int (nI r2)), (3, .int (nI k))] [] 0 0 (N, va_up f (a + 1) (.inl (2 + 2, 568, .inr (.inr (.inr (.inr (frCk R r1 r2 k))))))) (.inl none) (N, frCpy f a R G r1 r2 m) := by
  obtain ⟨h0, h1, h2⟩ := h
  have e1 : ∀ e, va_up f (a + 1) e a = f a := fun e => va_up_ne f e (by omega)
  have e3 : ∀ e, va_up f (a + 1) e (a + 2) = f (a + 2) := fun e => va_up_ne f e (by omega)
  intro j
  induction j with
  | zero =>
    intro k hk
    have hk : k = m := by omega
    subst hk
    refine pm_go 2 (pc1 := 19) rfl ?_
    refine pm_getf rfl ((e1 _).trans h0) rfl ?_
    refine pm_go 1 (pc1 := 23) rfl ?_
    refine pm_iald (j := r1) rfl ((e3 _).trans h2) (cw_ti (by omega)) hr1 ?_
    rw [hG]
    refine pm_icmp rfl (fun _ => ?_) (fun z => absurd (nI_le (Nat.le_refl k) (by omega)) z)
    refine pm_go 1 (pc1 := 56) rfl ?_
    refine pm_getf rfl ((e1 _).trans h0) rfl ?_
    refine pm_go 2 (pc1 := 61) rfl ?_
    refine pm_getf rfl ((e1 _).trans h0) rfl ?_
    refine pm_go 1 (pc1 := 65) rfl ?_
    refine pm_iald (j := r1) rfl ((e3 _).trans h2) (cw_ti (by omega)) hr1 ?_
    rw [hG]
    refine pm_iastU (j := r2) rfl ((e3 _).trans h2) (cw_ti (by omega)) hr2 rfl ?_
    exact pm_vret rfl rfl rfl rfl
  | succ j ih =>
    intro k hk
    obtain ⟨y, fs, hy, hf⟩ := hR k (by omega)
    have hya : y ≠ a + 1 := fun z => by subst z; rw [h1] at hf; cases hf
    refine pm_go 2 (pc1 := 19) rfl ?_
    refine pm_getf rfl ((e1 _).trans h0) rfl ?_
    refine pm_go 1 (pc1 := 23) rfl ?_
    refine pm_iald (j := r1) rfl ((e3 _).trans h2) (cw_ti (by omega)) hr1 ?_
    rw [hG]
    refine pm_icmp rfl (fun z => absurd ((nI_leI (a := m) (b := k) (by omega) (by omega)).mp z) (by omega)) (fun _ => ?_)
    refine pm_go 1 (pc1 := 28) rfl ?_
    refine pm_getf rfl ((e1 _).trans h0) rfl ?_
    refine pm_go 6 (pc1 := 38) rfl ?_
    rw [show nI r2 * 8 + nI k = nI (8 * r2 + k) from by rw [show nI r2 * 8 = nI (r2 * 8) from pk_mul r2 8, nI_add, Nat.mul_comm]]
    refine pm_getf rfl ((e1 _).trans h0) rfl ?_
    refine pm_go 5 (pc1 := 47) rfl ?_
    rw [show nI r1 * 8 + nI k = nI (8 * r1 + k) from by rw [show nI r1 * 8 = nI (r1 * 8) from pk_mul r1 8, nI_add, Nat.mul_comm]]
    refine pm_aald (j := 8 * r1 + k) (q := 2) rfl (va_up_self _ _ _) (by decide) (cw_ti (by omega)) (by omega) ?_
    rw [frCk_at (by omega), hy]
    refine pm_aastU (j := 8 * r2 + k) (q := 2) (y := y) (fs := fs) rfl (va_up_self _ _ _) ((va_up_ne _ _ hya).trans hf) (by decide) (cw_ti (by omega)) (by omega) (by rw [va_up2, ← hy, frCk_s]) ?_
    refine pm_go 2 (pc1 := 17) rfl ?_
    rw [nI_1]
    refine pm_lv [(0, .ref a), (1, .int (nI r1)), (2, .int (nI r2)), (3, .int (nI (k + 1)))] rfl rfl ?_
    exact ih (k + 1) (by omega)
theorem c_copyRow {r1 r2 m : Nat} (h : frAt f a R G) (hr1 : r1 < 71) (hr2 : r2 < 71) (hG : G r1 = nI m) (hm : m ≤ 8) (hR : ∀ j, j < m → ∃ y fs, R (8 * r1 + j) = some y ∧ f y = .inr (2, fs)) : pm_call (d + 2) 25 [.ref a, .int (nI r1), .int (nI r2)] (N, f) (.inl none) (N, frCpy f a R G r1 r2 m) 0 0 := by
  refine pm_callX jm_25 [(0, .ref a), (1, .int (nI r1)), (2, .int (nI r2))] rfl rfl rfl ?_
  refine pm_go 1 (pc1 := 1) rfl ?_
  refine pm_cS [.int (nI r1)] rfl rfl rfl rfl rfl (Nat.le_refl _) (Nat.le_refl _) c_isRow ?_
  rw [if_pos (frIn_nI hr1)]
  refine pm_if rfl (fun z => absurd (show (1 : Int32) = 0 from z) (by decide)) (fun _ => ?_)
  refine pm_go 1 (pc1 := 8) rfl ?_
  refine pm_cS [.int (nI r2)] rfl rfl rfl rfl rfl (Nat.le_refl _) (Nat.le_refl _) c_isRow ?_
  rw [if_pos (frIn_nI hr2)]
  refine pm_if rfl (fun _ => ?_) (fun z => absurd (fun w => absurd (show (1 : Int32) = 0 from w) (by decide)) z)
  refine pm_go 2 (pc1 := 17) rfl ?_
  refine pm_lv [(0, .ref a), (1, .int (nI r1)), (2, .int (nI r2)), (3, .int (nI 0))] rfl rfl ?_
  have hl := c_copyRow_loop (N := N) (d := d) h hr1 hr2 hG hm hR m 0 (by omega)
  rw [frCk_0, va_up_id f (a + 1) _ h.2.1] at hl
  exact hl
theorem c_removeForms_loop (h : frAt f a R G) : ∀ (j k : Nat), k + j = 71 →
    pm_X (pm_call d) jm_21 2 none d 0 0 2 [(0, .ref a), (1, .int (nI k))] [] 0 0 (N, va_up f (a + 2) (.inl (0, 71, .inl (frZk G k)))) (.inl none) (N, va_up f (a + 2) (.inl (0, 71, .inl (frZk G 71)))) := by
  obtain ⟨h0, h1, h2⟩ := h
  have e1 : ∀ e, va_up f (a + 2) e a = f a := fun e => va_up_ne f e (by omega)
  intro j
  induction j with
  | zero =>
    intro k hk
    have hk : k = 71 := by omega
    subst hk
    refine pm_go 2 (pc1 := 4) rfl ?_
    refine pm_getf rfl ((e1 _).trans h0) rfl ?_
    refine pm_alen rfl (va_up_self _ _ _) (Or.inl rfl) ?_
    refine pm_icmp rfl (fun _ => ?_) (fun z => absurd (nI_le (Nat.le_refl 71) (by omega)) z)
    exact pm_vret rfl rfl rfl rfl
  | succ j ih =>
    intro k hk
    refine pm_go 2 (pc1 := 4) rfl ?_
    refine pm_getf rfl ((e1 _).trans h0) rfl ?_
    refine pm_alen rfl (va_up_self _ _ _) (Or.inl rfl) ?_
    refine pm_icmp rfl (fun z => absurd ((nI_leI (a := 71) (b := k) (by omega) (by omega)).mp z) (by omega)) (fun _ => ?_)
    refine pm_go 1 (pc1 := 12) rfl ?_
    refine pm_getf rfl ((e1 _).trans h0) rfl ?_
    refine pm_go 2 (pc1 := 17) rfl ?_
    refine pm_iastU (j := k) rfl (va_up_self _ _ _) (cw_ti (by omega)) (by omega) (by rw [va_up2, frZk_s]) ?_
    refine pm_go 2 (pc1 := 2) rfl ?_
    rw [nI_1]
    refine pm_lv [(0, .ref a), (1, .int (nI (k + 1)))] rfl rfl ?_
    exact ih (k + 1) (by omega)
theorem c_removeForms (h : frAt f a R G) : pm_call (d + 1) 21 [.ref a] (N, f) (.inl none) (N, va_up f (a + 2) (.inl (0, 71, .inl (frZk G 71)))) 0 0 := by
  refine pm_callX jm_21 [(0, .ref a)] rfl rfl rfl ?_
  refine pm_go 2 (pc1 := 2) rfl ?_
  refine pm_lv [(0, .ref a), (1, .int (nI 0))] rfl rfl ?_
  have hl := c_removeForms_loop (N := N) (d := d) h 71 0 (by omega)
  rw [frZk_0, va_up_id f (a + 2) _ h.2.2] at hl
  exact hl
theorem c_FormRows_init (ha : a < N) (hf : f a = .inr (3, [.null, .null])) : pm_call (d + 2) 20 [.ref a] (N, f) (.inl none) (N + 2, va_up (va_up (va_up f N (.inl (2 + 2, 568, .inr (.inr (.inr (.inr (fun _ => none))))))) (N + 1) (.inl (0, 71, .inl (fun _ => 0)))) a (.inr (3, [.ref N, .ref (N + 1)]))) 2 639 := by
  refine pm_callX jm_20 [(0, .ref a)] rfl rfl rfl ?_
  refine pm_go 1 (pc1 := 1) rfl ?_
  refine pm_obj rfl (by omega) rfl ?_
  refine pm_go 2 (pc1 := 8) rfl ?_
  refine pm_newa (n := 568) rfl rfl (by decide) (by decide) (by decide) ?_
  refine pm_putU rfl ((va_up_ne _ _ (Nat.ne_of_lt ha)).trans hf) rfl rfl rfl ?_
  refine pm_go 2 (pc1 := 17) rfl ?_
  refine pm_newi (n := 71) rfl rfl (by decide) (by decide) (by decide) ?_
  refine pm_putU rfl ((va_up_ne _ _ (show a ≠ N + 1 by omega)).trans (va_up_self _ _ _)) rfl rfl rfl ?_
  refine pm_vret rfl rfl rfl ?_
  congr 1
  funext j
  by_cases hj : j = a
  · subst hj
    rw [va_up_self, va_up_self]
    rfl
  · rw [va_up_ne _ _ hj, va_up_ne _ _ hj]
    by_cases hj2 : j = N + 1
    · subst hj2
      rw [va_up_self, va_up_self]
    · rw [va_up_ne _ _ hj2, va_up_ne _ _ hj2, va_up_ne _ _ hj]
end ROWS3
