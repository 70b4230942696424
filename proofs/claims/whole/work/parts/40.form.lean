/-! THE CLASS'S FORMS: a Form at place q, its kinds at q + 1, its numbers at q + 2, in any heap -/
def fmAt (f : Nat → va_E) (q n : Nat) (K V : Nat → Int32) : Prop := f q = .inr (2, [.ref (q + 1), .ref (q + 2), .int (nI n)]) ∧ f (q + 1) = .inl (0, 8, .inl K) ∧ f (q + 2) = .inl (0, 8, .inl V) ∧ n ≤ 8
def fmK (K : Nat → Int32) (n : Nat) (i : Int) : Int32 := if 0 ≤ i ∧ i < n then K i.toNat else -1
def fmV (V : Nat → Int32) (n : Nat) (i : Int) : Int32 := if 0 ≤ i ∧ i < n then V i.toNat else 0
theorem i32_lt0 {x : Int32} : x < 0 ↔ x.toInt < 0 := Int32.lt_iff_toInt_lt
theorem i32_le {x : Int32} {n : Nat} (hn : n < 2 ^ 31) : nI n ≤ x ↔ (n : Int) ≤ x.toInt := by rw [Int32.le_iff_toInt_le, nI_toInt hn]
section FORM
variable {f : Nat → va_E} {q n : Nat} {K V : Nat → Int32} {N d : Nat}
theorem c_isFull (h : fmAt f q n K V) : pm_call (d + 1) 10 [.ref q] (N, f) (.inl (some (.int (if n = 8 then 1 else 0)))) (N, f) 0 0 := by
  obtain ⟨h0, h1, h2, hn⟩ := h
  refine pm_callX jm_10 [(0, .ref q)] rfl rfl rfl ?_
  refine pm_go 1 (pc1 := 1) rfl ?_
  refine pm_getf rfl h0 rfl ?_
  refine pm_go 1 (pc1 := 6) rfl ?_
  refine pm_icmp rfl (fun h => ?_) (fun h => ?_)
  · have hl : n < 8 := (nI_ltI (b := 8) (by omega) (by omega)).mp h
    refine pm_go 1 (pc1 := 14) rfl ?_
    exact pm_iret rfl rfl (by rw [if_neg (by omega)]) rfl
  · have hl : ¬ n < 8 := fun z => h ((nI_ltI (b := 8) (by omega) (by omega)).mpr z)
    refine pm_go 2 (pc1 := 14) rfl ?_
    exact pm_iret rfl rfl (by rw [if_pos (by omega)]) rfl
theorem c_kindAt {i : Int32} (h : fmAt f q n K V) : pm_call (d + 1) 12 [.ref q, .int i] (N, f) (.inl (some (.int (fmK K n i.toInt)))) (N, f) 0 0 := by
  obtain ⟨h0, h1, h2, hn⟩ := h
  refine pm_callX jm_12 [(0, .ref q), (1, .int i)] rfl rfl rfl ?_
  refine pm_go 1 (pc1 := 1) rfl ?_
  refine pm_if rfl (fun h => ?_) (fun h => ?_)
  · have hl := i32_lt0.mp h
    refine pm_go 1 (pc1 := 22) rfl ?_
    exact pm_iret rfl rfl (by unfold fmK; rw [if_neg (by omega)]) rfl
  · have hl : ¬ i.toInt < 0 := fun z => h (i32_lt0.mpr z)
    refine pm_go 2 (pc1 := 6) rfl ?_
    refine pm_getf rfl h0 rfl ?_
    refine pm_icmp rfl (fun h => ?_) (fun h => ?_)
    · have hg := (i32_le (n := n) (by omega)).mp h
      refine pm_go 1 (pc1 := 22) rfl ?_
      exact pm_iret rfl rfl (by unfold fmK; rw [if_neg (by omega)]) rfl
    · have hg : ¬ (n : Int) ≤ i.toInt := fun z => h ((i32_le (n := n) (by omega)).mpr z)
      refine pm_go 1 (pc1 := 13) rfl ?_
      refine pm_getf rfl h0 rfl ?_
      refine pm_go 1 (pc1 := 17) rfl ?_
      refine pm_iald (j := i.toInt.toNat) rfl h1 (by omega) (by omega) ?_
      refine pm_go 1 (pc1 := 22) rfl ?_
      exact pm_iret rfl rfl (by unfold fmK; rw [if_pos (by omega)]) rfl
theorem c_numberAt {i : Int32} (h : fmAt f q n K V) : pm_call (d + 1) 13 [.ref q, .int i] (N, f) (.inl (some (.int (fmV V n i.toInt)))) (N, f) 0 0 := by
  obtain ⟨h0, h1, h2, hn⟩ := h
  refine pm_callX jm_13 [(0, .ref q), (1, .int i)] rfl rfl rfl ?_
  refine pm_go 1 (pc1 := 1) rfl ?_
  refine pm_if rfl (fun h => ?_) (fun h => ?_)
  · have hl := i32_lt0.mp h
    refine pm_go 1 (pc1 := 22) rfl ?_
    exact pm_iret rfl rfl (by unfold fmV; rw [if_neg (by omega)]) rfl
  · have hl : ¬ i.toInt < 0 := fun z => h (i32_lt0.mpr z)
    refine pm_go 2 (pc1 := 6) rfl ?_
    refine pm_getf rfl h0 rfl ?_
    refine pm_icmp rfl (fun h => ?_) (fun h => ?_)
    · have hg := (i32_le (n := n) (by omega)).mp h
      refine pm_go 1 (pc1 := 22) rfl ?_
      exact pm_iret rfl rfl (by unfold fmV; rw [if_neg (by omega)]) rfl
    · have hg : ¬ (n : Int) ≤ i.toInt := fun z => h ((i32_le (n := n) (by omega)).mpr z)
      refine pm_go 1 (pc1 := 13) rfl ?_
      refine pm_getf rfl h0 rfl ?_
      refine pm_go 1 (pc1 := 17) rfl ?_
      refine pm_iald (j := i.toInt.toNat) rfl h2 (by omega) (by omega) ?_
      refine pm_go 1 (pc1 := 22) rfl ?_
      exact pm_iret rfl rfl (by unfold fmV; rw [if_pos (by omega)]) rfl
/-- a ROW stands last but one -/
abbrev fmR (K : Nat → Int32) (n : Nat) : Prop := 2 ≤ n ∧ K (n - 2) = 3
theorem fm_m2 (hn : n ≤ 8) : (nI n - 2).toInt = (n : Int) - 2 := pk_sub_toInt (b := 2) (by omega) (by omega)
theorem fmK_m2 (hn : n ≤ 8) : fmK K n (nI n - 2).toInt = 3 ↔ fmR K n := by
  rw [fm_m2 hn]
  unfold fmK fmR
  by_cases h : 2 ≤ n
  · rw [if_pos (by omega), show ((n : Int) - 2).toNat = n - 2 by omega]
    exact ⟨fun z => ⟨h, z⟩, fun z => z.2⟩
  · rw [if_neg (by omega)]
    exact ⟨fun z => absurd z (by decide), fun z => absurd z.1 h⟩
theorem c_hasRow (h : fmAt f q n K V) : pm_call (d + 2) 16 [.ref q] (N, f) (.inl (some (.int (if fmR K n then 1 else 0)))) (N, f) 0 0 := by
  have hh := h
  obtain ⟨h0, h1, h2, hn⟩ := hh
  refine pm_callX jm_16 [(0, .ref q)] rfl rfl rfl ?_
  refine pm_go 2 (pc1 := 2) rfl ?_
  refine pm_getf rfl h0 rfl ?_
  refine pm_go 2 (pc1 := 7) rfl ?_
  refine pm_cV [.int (nI n - 2)] rfl rfl rfl rfl h0 rfl (Nat.le_refl _) (Nat.le_refl _) (c_kindAt h) ?_
  refine pm_go 1 (pc1 := 11) rfl ?_
  refine pm_icmp rfl (fun z => ?_) (fun z => ?_)
  · have hz : ¬ fmR K n := fun y => z ((fmK_m2 hn).mpr y)
    refine pm_go 1 (pc1 := 19) rfl ?_
    exact pm_iret rfl rfl (by rw [if_neg hz]) rfl
  · have hz : fmR K n := (fmK_m2 hn).mp (Classical.byContradiction fun y => z y)
    refine pm_go 2 (pc1 := 19) rfl ?_
    exact pm_iret rfl rfl (by rw [if_pos hz]) rfl
/-- how many ops stand for one number each -/
def fmS (K : Nat → Int32) (n : Nat) : Nat := if fmR K n then n - 2 else n
theorem c_singles (h : fmAt f q n K V) : pm_call (d + 3) 17 [.ref q] (N, f) (.inl (some (.int (nI (fmS K n))))) (N, f) 0 0 := by
  have hh := h
  obtain ⟨h0, h1, h2, hn⟩ := hh
  refine pm_callX jm_17 [(0, .ref q)] rfl rfl rfl ?_
  refine pm_go 1 (pc1 := 1) rfl ?_
  refine pm_cV [] rfl rfl rfl rfl h0 rfl (Nat.le_refl _) (Nat.le_refl _) (c_hasRow h) ?_
  by_cases hR : fmR K n
  · rw [if_pos hR]
    refine pm_if rfl (fun z => absurd (show (1 : Int32) = 0 from z) (by decide)) (fun _ => ?_)
    refine pm_go 1 (pc1 := 8) rfl ?_
    refine pm_getf rfl h0 rfl ?_
    refine pm_go 3 (pc1 := 20) rfl ?_
    exact pm_iret rfl rfl (by unfold fmS; rw [if_pos hR, show nI n - 2 = nI (n - 2) from pk_sub (b := 2) hR.1]) rfl
  · rw [if_neg hR]
    refine pm_if rfl (fun _ => ?_) (fun z => absurd rfl z)
    refine pm_go 1 (pc1 := 17) rfl ?_
    refine pm_getf rfl h0 rfl ?_
    exact pm_iret rfl rfl (by unfold fmS; rw [if_neg hR]) rfl
abbrev fmM (K : Nat → Int32) (n k : Nat) : Prop := k + 2 = n ∧ (K (k + 1) = 1 ∨ K (k + 1) = 2)
theorem c_mayBeRow {k : Nat} (h : fmAt f q n K V) (hk : k < n) : pm_call (d + 2) 15 [.ref q, .int (nI k)] (N, f) (.inl (some (.int (if fmM K n k then 1 else 0)))) (N, f) 0 0 := by
  have hh := h
  obtain ⟨h0, h1, h2, hn⟩ := hh
  refine pm_callX jm_15 [(0, .ref q), (1, .int (nI k))] rfl rfl rfl ?_
  refine pm_go 4 (pc1 := 4) rfl ?_
  rw [nI_1]
  refine pm_cV [.int (nI (k + 1))] rfl rfl rfl rfl h0 rfl (Nat.le_refl _) (Nat.le_refl _) (c_kindAt h) ?_
  rw [nI_toInt (show k + 1 < 2 ^ 31 by omega)]
  refine pm_go 3 (pc1 := 10) rfl ?_
  refine pm_getf rfl h0 rfl ?_
  refine pm_go 2 (pc1 := 15) rfl ?_
  refine pm_icmp rfl (fun z => ?_) (fun z => ?_)
  · have hne : ¬ fmM K n k := fun y => z (by rw [show nI n - 2 = nI (n - 2) from pk_sub (b := 2) (by omega), show n - 2 = k by omega])
    refine pm_go 1 (pc1 := 33) rfl ?_
    exact pm_iret rfl rfl (by rw [if_neg hne]) rfl
  · have he : nI k = nI n - 2 := Classical.byContradiction fun y => z y
    have he2 : k + 2 = n := by
      have h3 := congrArg Int32.toInt he
      rw [fm_m2 hn, nI_toInt (by omega)] at h3
      omega
    have hb : fmK K n ((k + 1 : Nat) : Int) = K (k + 1) := by
      unfold fmK
      rw [if_pos (by omega)]
      rfl
    rw [hb]
    refine pm_go 2 (pc1 := 20) rfl ?_
    refine pm_icmp rfl (fun y => ?_) (fun y => ?_)
    · refine pm_go 2 (pc1 := 33) rfl ?_
      exact pm_iret rfl rfl (by rw [if_pos ⟨he2, Or.inl y⟩]) rfl
    · refine pm_go 2 (pc1 := 25) rfl ?_
      refine pm_icmp rfl (fun x => ?_) (fun x => ?_)
      · refine pm_go 1 (pc1 := 33) rfl ?_
        exact pm_iret rfl rfl (by rw [if_neg (fun w => w.2.elim (fun a => y a) (fun a => x a))]) rfl
      · refine pm_go 2 (pc1 := 33) rfl ?_
        exact pm_iret rfl rfl (by rw [if_pos ⟨he2, Or.inr (Classical.byContradiction fun w => x w)⟩]) rfl
abbrev fmOk (K : Nat → Int32) (n : Nat) : Prop := 0 < n ∧ ∀ k, k < n → K k = 3 → fmM K n k
theorem fmK_at {k : Nat} (hk : k < n) : fmK K n (k : Int) = K k := by
  unfold fmK
  rw [if_pos (by omega)]
  rfl
theorem fmV_at {k : Nat} (hk : k < n) : fmV V n (k : Int) = V k := by
  unfold fmV
  rw [if_pos (by omega)]
  rfl
theorem c_isForm_loop (h : fmAt f q n K V) {r : pm_V} {h' : pm_H} (er : r = .inl (some (.int (if fmOk K n then 1 else 0)))) (eh : h' = (N, f)) : ∀ (j k : Nat), k + j = n → (∀ i, i < k → K i = 3 → fmM K n i) →
    pm_X (pm_call (d + 2)) jm_14 2 (some .boolean) (d + 2) 0 0 2 [(0, .ref q), (1, .int (nI k))] [] 0 0 (N, f) r h' := by
  have hh := h
  obtain ⟨h0, h1, h2, hn⟩ := hh
  intro j
  induction j with
  | zero =>
    intro k hk hp
    have hk : k = n := by omega
    subst hk
    refine pm_go 2 (pc1 := 4) rfl ?_
    refine pm_getf rfl h0 rfl ?_
    refine pm_icmp rfl (fun _ => ?_) (fun z => absurd (nI_le (Nat.le_refl k) (by omega)) z)
    refine pm_go 1 (pc1 := 36) rfl ?_
    refine pm_getf rfl h0 rfl ?_
    refine pm_if rfl (fun z => ?_) (fun z => ?_)
    · have hz : k ≤ 0 := (nI_leI (a := k) (b := 0) (by omega) (by omega)).mp z
      refine pm_go 1 (pc1 := 47) rfl ?_
      exact pm_iret rfl rfl (by rw [er, if_neg (fun y => absurd y.1 (by omega))]) eh
    · have hz : 0 < k := Nat.not_le.mp fun y => z ((nI_leI (a := k) (b := 0) (by omega) (by omega)).mpr y)
      refine pm_go 2 (pc1 := 47) rfl ?_
      exact pm_iret rfl rfl (by rw [er, if_pos ⟨hz, hp⟩]) eh
  | succ j ih =>
    intro k hk hp
    have hnext : (K k = 3 → fmM K n k) → pm_X (pm_call (d + 2)) jm_14 2 (some .boolean) (d + 2) 0 0 29 [(0, .ref q), (1, .int (nI k))] [] 0 0 (N, f) r h' := by
      intro hk3
      refine pm_go 2 (pc1 := 2) rfl ?_
      rw [nI_1]
      refine pm_lv [(0, .ref q), (1, .int (nI (k + 1)))] rfl rfl ?_
      refine ih (k + 1) (by omega) (fun i hi h3 => ?_)
      by_cases hik : i = k
      · subst hik; exact hk3 h3
      · exact hp i (by omega) h3
    refine pm_go 2 (pc1 := 4) rfl ?_
    refine pm_getf rfl h0 rfl ?_
    refine pm_icmp rfl (fun z => absurd ((nI_leI (a := n) (b := k) (by omega) (by omega)).mp z) (by omega)) (fun _ => ?_)
    refine pm_go 2 (pc1 := 12) rfl ?_
    refine pm_cV [.int (nI k)] rfl rfl rfl rfl h0 rfl (Nat.le_refl _) (Nat.le_refl _) (c_kindAt h) ?_
    rw [nI_toInt (show k < 2 ^ 31 by omega), fmK_at (by omega)]
    refine pm_go 1 (pc1 := 16) rfl ?_
    refine pm_icmp rfl (fun z => hnext (fun y => absurd y z)) (fun z => ?_)
    have hk3 : K k = 3 := Classical.byContradiction fun y => z y
    refine pm_go 2 (pc1 := 21) rfl ?_
    refine pm_cV [.int (nI k)] rfl rfl rfl rfl h0 rfl (Nat.le_refl _) (Nat.le_refl _) (c_mayBeRow h (by omega)) ?_
    by_cases hM : fmM K n k
    · rw [if_pos hM]
      exact pm_if rfl (fun _ => hnext (fun _ => hM)) (fun y => absurd (fun w => absurd (show (1 : Int32) = 0 from w) (by decide)) y)
    · rw [if_neg hM]
      refine pm_if rfl (fun y => absurd rfl y) (fun _ => ?_)
      refine pm_go 1 (pc1 := 28) rfl ?_
      exact pm_iret rfl rfl (by rw [er, if_neg (fun y => hM (y.2 k (by omega) hk3))]) eh
theorem c_isForm (h : fmAt f q n K V) : pm_call (d + 3) 14 [.ref q] (N, f) (.inl (some (.int (if fmOk K n then 1 else 0)))) (N, f) 0 0 := by
  refine pm_callX jm_14 [(0, .ref q)] rfl rfl rfl ?_
  refine pm_go 2 (pc1 := 2) rfl ?_
  refine pm_lv [(0, .ref q), (1, .int (nI 0))] rfl rfl ?_
  exact c_isForm_loop h rfl rfl n 0 (by omega) (fun i hi => absurd hi (by omega))
end FORM
