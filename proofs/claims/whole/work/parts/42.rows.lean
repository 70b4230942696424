/-! FORMS: isFitFor; THE ROWS OF FORMS: a FormRows at place a, its forms at a + 1, its counts at a + 2, in any heap -/
section FIT
variable {f : Nat → va_E} {q n : Nat} {K V : Nat → Int32} {N d : Nat}
/-- the op by which number k goes -/
def fmI (K : Nat → Int32) (n k : Nat) : Nat := if k < fmS K n then k else n - 1
abbrev fmFit (K V : Nat → Int32) (n : Nat) (W : Nat → Int32) (ln m : Nat) : Prop := m ≤ ln ∧ fmS K n ≤ m ∧ (m ≤ fmS K n ∨ fmR K n) ∧ ∀ k, k < m → fmX K V (fmI K n k) (W k)
theorem fmS_le : fmS K n ≤ n := by unfold fmS; split <;> omega
theorem c_isFit_loop {y ln m : Nat} {W : Nat → Int32} (h : fmAt f q n K V) (hy : f y = .inl (0, ln, .inl W)) (hm : m ≤ ln) (hl : ln < 2 ^ 31) (hS : fmS K n ≤ m) (hR : m ≤ fmS K n ∨ fmR K n) {r : pm_V} {h' : pm_H} (er : r = .inl (some (.int (if fmFit K V n W ln m then 1 else 0)))) (eh : h' = (N, f)) : ∀ (j k : Nat), k + j = m → (∀ i, i < k → fmX K V (fmI K n i) (W i)) →
    pm_X (pm_call (d + 3)) jm_18 5 (some .boolean) (d + 3) 0 0 33 [(0, .ref q), (1, .ref y), (2, .int (nI m)), (3, .int (nI (fmS K n))), (4, .int (nI k))] [] 0 0 (N, f) r h' := by
  have hh := h
  obtain ⟨h0, h1, h2, hn⟩ := hh
  have hSn := fmS_le (K := K) (n := n)
  intro j
  induction j with
  | zero =>
    intro k hk hp
    have hk : k = m := by omega
    subst hk
    refine pm_go 2 (pc1 := 36) rfl ?_
    refine pm_icmp rfl (fun _ => ?_) (fun z => absurd (nI_le (Nat.le_refl k) (by omega)) z)
    refine pm_go 1 (pc1 := 76) rfl ?_
    exact pm_iret rfl rfl (by rw [er, if_pos ⟨hm, hS, hR, hp⟩]) eh
  | succ j ih =>
    intro k hk hp
    have hI : fmI K n k < n := by
      unfold fmI
      split
      · omega
      · rcases hR with e | e
        · omega
        · have := e.1; omega
    have hnext : pm_X (pm_call (d + 3)) jm_18 5 (some .boolean) (d + 3) 0 0 57 [(0, .ref q), (1, .ref y), (2, .int (nI m)), (3, .int (nI (fmS K n))), (4, .int (nI k))] [.int (nI (fmI K n k)), .ref q] 0 0 (N, f) r h' := by
      refine pm_go 2 (pc1 := 60) rfl ?_
      refine pm_iald (j := k) rfl hy (cw_ti (by omega)) (by omega) ?_
      refine pm_cV [.int (nI (fmI K n k)), .int (W k)] rfl rfl rfl rfl h0 rfl (Nat.le_refl _) (Nat.le_refl _) (c_matches h hI) ?_
      by_cases hX : fmX K V (fmI K n k) (W k)
      · rw [if_pos hX]
        refine pm_if rfl (fun _ => ?_) (fun z => absurd (fun w => absurd (show (1 : Int32) = 0 from w) (by decide)) z)
        refine pm_go 2 (pc1 := 33) rfl ?_
        rw [nI_1]
        refine pm_lv [(0, .ref q), (1, .ref y), (2, .int (nI m)), (3, .int (nI (fmS K n))), (4, .int (nI (k + 1)))] rfl rfl ?_
        refine ih (k + 1) (by omega) (fun i hi => ?_)
        by_cases hik : i = k
        · subst hik; exact hX
        · exact hp i (by omega)
      · rw [if_neg hX]
        refine pm_if rfl (fun z => absurd rfl z) (fun _ => ?_)
        refine pm_go 1 (pc1 := 68) rfl ?_
        exact pm_iret rfl rfl (by rw [er, if_neg (fun w => hX (w.2.2.2 k (by omega)))]) eh
    refine pm_go 2 (pc1 := 36) rfl ?_
    refine pm_icmp rfl (fun z => absurd ((nI_leI (a := m) (b := k) (by omega) (by omega)).mp z) (by omega)) (fun _ => ?_)
    refine pm_go 3 (pc1 := 43) rfl ?_
    refine pm_icmp rfl (fun z => ?_) (fun z => ?_)
    · have hz : fmS K n ≤ k := (nI_leI (by omega) (by omega)).mp z
      refine pm_go 1 (pc1 := 52) rfl ?_
      refine pm_getf rfl h0 rfl ?_
      refine pm_go 2 (pc1 := 57) rfl ?_
      rw [show nI n - 1 = nI (n - 1) from pk_sub (b := 1) (by omega)]
      have e : fmI K n k = n - 1 := by unfold fmI; rw [if_neg (by omega)]
      rw [e] at hnext
      exact hnext
    · have hz : k < fmS K n := Nat.not_le.mp fun w => z ((nI_leI (by omega) (by omega)).mpr w)
      refine pm_go 2 (pc1 := 57) rfl ?_
      have e : fmI K n k = k := by unfold fmI; rw [if_pos hz]
      rw [e] at hnext
      exact hnext
theorem c_isFitFor {y ln m : Nat} {W : Nat → Int32} (h : fmAt f q n K V) (hy : f y = .inl (0, ln, .inl W)) (hl : ln < 2 ^ 31) (hm : m < 2 ^ 31) : pm_call (d + 4) 18 [.ref q, .ref y, .int (nI m)] (N, f) (.inl (some (.int (if fmFit K V n W ln m then 1 else 0)))) (N, f) 0 0 := by
  have hh := h
  obtain ⟨h0, h1, h2, hn⟩ := hh
  have hSn := fmS_le (K := K) (n := n)
  have hno : ¬ fmFit K V n W ln m → pm_X (pm_call (d + 3)) jm_18 5 (some .boolean) (d + 3) 0 0 28 [] [] 0 0 (N, f) (.inl (some (.int (if fmFit K V n W ln m then 1 else 0)))) (N, f) := by
    intro z
    refine pm_go 1 (pc1 := 29) rfl ?_
    exact pm_iret rfl rfl (by rw [if_neg z]) rfl
  refine pm_callX jm_18 [(0, .ref q), (1, .ref y), (2, .int (nI m))] rfl rfl rfl ?_
  refine pm_go 1 (pc1 := 1) rfl ?_
  refine pm_cV [] rfl rfl rfl rfl h0 rfl (Nat.le_refl _) (Nat.le_refl _) (c_singles h) ?_
  refine pm_go 3 (pc1 := 7) rfl ?_
  refine pm_alen rfl hy (Or.inl rfl) ?_
  refine pm_icmp rfl (fun z => pm_lv [] rfl rfl (hno fun w => ?_)) (fun z => ?_)
  · have hz : ln < m := (nI_ltI (by omega) (by omega)).mp z
    exact absurd w.1 (by omega)
  have hz1 : m ≤ ln := Nat.not_lt.mp fun w => z ((nI_ltI (by omega) (by omega)).mpr w)
  refine pm_go 2 (pc1 := 13) rfl ?_
  refine pm_icmp rfl (fun z => pm_lv [] rfl rfl (hno fun w => ?_)) (fun z => ?_)
  · have hz : m < fmS K n := (nI_ltI (by omega) (by omega)).mp z
    exact absurd w.2.1 (by omega)
  have hz2 : fmS K n ≤ m := Nat.not_lt.mp fun w => z ((nI_ltI (by omega) (by omega)).mpr w)
  have hgo : (m ≤ fmS K n ∨ fmR K n) → pm_X (pm_call (d + 3)) jm_18 5 (some .boolean) (d + 3) 0 0 30 [(3, .int (nI (fmS K n))), (0, .ref q), (1, .ref y), (2, .int (nI m))] [] 0 0 (N, f) (.inl (some (.int (if fmFit K V n W ln m then 1 else 0)))) (N, f) := by
    intro hR
    refine pm_go 2 (pc1 := 33) rfl ?_
    refine pm_lv [(0, .ref q), (1, .ref y), (2, .int (nI m)), (3, .int (nI (fmS K n))), (4, .int (nI 0))] rfl rfl ?_
    exact c_isFit_loop h hy hz1 hl hz2 hR rfl rfl m 0 (by omega) (fun i hi => absurd hi (by omega))
  refine pm_go 2 (pc1 := 18) rfl ?_
  refine pm_icmp rfl (fun z => hgo (Or.inl ((nI_leI (by omega) (by omega)).mp z))) (fun z => ?_)
  have hz3 : ¬ m ≤ fmS K n := fun w => z ((nI_leI (by omega) (by omega)).mpr w)
  refine pm_go 1 (pc1 := 22) rfl ?_
  refine pm_cV [] rfl rfl rfl rfl h0 rfl (Nat.le_refl _) (Nat.le_refl _) (c_hasRow h) ?_
  by_cases hR : fmR K n
  · rw [if_pos hR]
    exact pm_if rfl (fun _ => hgo (Or.inr hR)) (fun z => absurd (fun w => absurd (show (1 : Int32) = 0 from w) (by decide)) z)
  · rw [if_neg hR]
    exact pm_if rfl (fun z => absurd rfl z) (fun _ => pm_lv [] rfl rfl (hno fun w => w.2.2.1.elim hz3 hR))
end FIT
def frAt (f : Nat → va_E) (a : Nat) (R : Nat → Option Nat) (G : Nat → Int32) : Prop := f a = .inr (3, [.ref (a + 1), .ref (a + 2)]) ∧ f (a + 1) = .inl (2 + 2, 568, .inr (.inr (.inr (.inr R)))) ∧ f (a + 2) = .inl (0, 71, .inl G)
abbrev frIn (i : Int32) : Prop := 0 ≤ i.toInt ∧ i.toInt < 71
section ROWS
variable {f : Nat → va_E} {a : Nat} {R : Nat → Option Nat} {G : Nat → Int32} {N d : Nat} {h : pm_H}
theorem c_isRow {i : Int32} : pm_call (d + 1) 26 [.int i] h (.inl (some (.int (if frIn i then 1 else 0)))) h 0 0 := by
  refine pm_callX jm_26 [(0, .int i)] rfl rfl rfl ?_
  refine pm_go 1 (pc1 := 1) rfl ?_
  refine pm_if rfl (fun z => ?_) (fun z => ?_)
  · have hz := i32_lt0.mp z
    refine pm_go 1 (pc1 := 15) rfl ?_
    exact pm_iret rfl rfl (by rw [if_neg (by omega)]) rfl
  · have hz : ¬ i.toInt < 0 := fun w => z (i32_lt0.mpr w)
    refine pm_go 2 (pc1 := 7) rfl ?_
    refine pm_icmp rfl (fun z => ?_) (fun z => ?_)
    · have hy := (i32_le (n := 71) (x := i) (by omega)).mp z
      refine pm_go 1 (pc1 := 15) rfl ?_
      exact pm_iret rfl rfl (by rw [if_neg (by omega)]) rfl
    · have hy : ¬ ((71 : Nat) : Int) ≤ i.toInt := fun w => z ((i32_le (n := 71) (x := i) (by omega)).mpr w)
      refine pm_go 2 (pc1 := 15) rfl ?_
      exact pm_iret rfl rfl (by rw [if_pos (by omega)]) rfl
theorem frIn_nI {r : Nat} (hr : r < 71) : frIn (nI r) := by
  unfold frIn
  rw [nI_toInt (by omega)]
  omega
theorem c_hasRoomN {i : Int32} (hi : ¬ frIn i) : pm_call (d + 2) 22 [.ref a, .int i] h (.inl (some (.int 0))) h 0 0 := by
  refine pm_callX jm_22 [(0, .ref a), (1, .int i)] rfl rfl rfl ?_
  refine pm_go 1 (pc1 := 1) rfl ?_
  refine pm_cS [.int i] rfl rfl rfl rfl rfl (Nat.le_refl _) (Nat.le_refl _) c_isRow ?_
  rw [if_neg hi]
  refine pm_if rfl (fun _ => ?_) (fun z => absurd rfl z)
  refine pm_go 1 (pc1 := 23) rfl ?_
  exact pm_iret rfl rfl rfl rfl
theorem c_hasRoom {r m : Nat} (h : frAt f a R G) (hr : r < 71) (hG : G r = nI m) (hm : m ≤ 8) : pm_call (d + 2) 22 [.ref a, .int (nI r)] (N, f) (.inl (some (.int (if m < 8 then 1 else 0)))) (N, f) 0 0 := by
  obtain ⟨h0, h1, h2⟩ := h
  refine pm_callX jm_22 [(0, .ref a), (1, .int (nI r))] rfl rfl rfl ?_
  refine pm_go 1 (pc1 := 1) rfl ?_
  refine pm_cS [.int (nI r)] rfl rfl rfl rfl rfl (Nat.le_refl _) (Nat.le_refl _) c_isRow ?_
  rw [if_pos (frIn_nI hr)]
  refine pm_if rfl (fun z => absurd (show (1 : Int32) = 0 from z) (by decide)) (fun _ => ?_)
  refine pm_go 1 (pc1 := 8) rfl ?_
  refine pm_getf rfl h0 rfl ?_
  refine pm_go 1 (pc1 := 12) rfl ?_
  refine pm_iald (j := r) rfl h2 (cw_ti (by omega)) hr ?_
  rw [hG]
  refine pm_go 1 (pc1 := 15) rfl ?_
  refine pm_icmp rfl (fun z => ?_) (fun z => ?_)
  · have hz : 8 ≤ m := (nI_leI (a := 8) (by omega) (by omega)).mp z
    refine pm_go 1 (pc1 := 23) rfl ?_
    exact pm_iret rfl rfl (by rw [if_neg (by omega)]) rfl
  · have hz : ¬ 8 ≤ m := fun w => z ((nI_leI (a := 8) (by omega) (by omega)).mpr w)
    refine pm_go 2 (pc1 := 23) rfl ?_
    exact pm_iret rfl rfl (by rw [if_pos (by omega)]) rfl
end ROWS
