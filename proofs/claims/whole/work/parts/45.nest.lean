/-! THE NEST: at place p, its blocks[] at p + 1, its FormRows at p + 2, its Blocks from p + 5 on, in any heap -/
abbrev bkE (B : Nat → Int32) : va_E := .inr (1, [.int (B 0), .int (B 1), .int (B 2), .int (B 3), .int (B 4)])
def nsAt (f : Nat → va_E) (p dp : Nat) (B : Nat → Nat → Int32) (L : Nat → Option Nat) (R : Nat → Option Nat) (G : Nat → Int32) : Prop := f p = .inr (4, [.ref (p + 1), .ref (p + 2), .int (nI dp)]) ∧ f (p + 1) = .inl (2 + 1, 7, .inr (.inr (.inr (.inr L)))) ∧ (∀ i, i < 7 → L i = some (p + 5 + i) ∧ f (p + 5 + i) = bkE (B i)) ∧ frAt f (p + 2) R G ∧ dp ≤ 6
section NEST
variable {f : Nat → va_E} {p dp : Nat} {B : Nat → Nat → Int32} {L R : Nat → Option Nat} {G : Nat → Int32} {N d : Nat} {h : pm_H}
theorem c_isBlockHead {i w : Int32} : pm_call (d + 1) 95 [.int i, .int w] h (.inl (some (.int (if (0 ≤ i.toInt ∧ i.toInt < 64) ∧ 2 ≤ w.toInt ∧ w.toInt ≤ 8 then 1 else 0)))) h 0 0 := by
  refine pm_callX jm_95 [(0, .int i), (1, .int w)] rfl rfl rfl ?_
  have hno : ¬ ((0 ≤ i.toInt ∧ i.toInt < 64) ∧ 2 ≤ w.toInt ∧ w.toInt ≤ 8) → pm_X (pm_call d) jm_95 2 (some .boolean) d 0 0 25 [(0, .int i), (1, .int w)] [] 0 0 h (.inl (some (.int (if (0 ≤ i.toInt ∧ i.toInt < 64) ∧ 2 ≤ w.toInt ∧ w.toInt ≤ 8 then 1 else 0)))) h := by
    intro z
    refine pm_go 1 (pc1 := 26) rfl ?_
    exact pm_iret rfl rfl (by rw [if_neg z]) rfl
  refine pm_go 1 (pc1 := 1) rfl ?_
  refine pm_if rfl (fun z => hno ?_) (fun z => ?_)
  · have hz := i32_lt0.mp z
    omega
  have hz1 : ¬ i.toInt < 0 := fun y => z (i32_lt0.mpr y)
  refine pm_go 2 (pc1 := 7) rfl ?_
  refine pm_icmp rfl (fun z => hno ?_) (fun z => ?_)
  · have hz := (i32_le (n := 64) (x := i) (by omega)).mp z
    omega
  have hz2 : ¬ ((64 : Nat) : Int) ≤ i.toInt := fun y => z ((i32_le (n := 64) (x := i) (by omega)).mpr y)
  refine pm_go 2 (pc1 := 12) rfl ?_
  refine pm_icmp rfl (fun z => hno ?_) (fun z => ?_)
  · have hz : w.toInt < 2 := Int32.lt_iff_toInt_lt.mp z
    omega
  have hz3 : ¬ w.toInt < 2 := fun y => z (Int32.lt_iff_toInt_lt.mpr y)
  refine pm_go 2 (pc1 := 18) rfl ?_
  refine pm_icmp rfl (fun z => hno ?_) (fun z => ?_)
  · have hz : (8 : Int) < w.toInt := Int32.lt_iff_toInt_lt.mp z
    omega
  have hz4 : ¬ (8 : Int) < w.toInt := fun y => z (Int32.lt_iff_toInt_lt.mpr y)
  refine pm_go 2 (pc1 := 26) rfl ?_
  exact pm_iret rfl rfl (by rw [if_pos (by omega)]) rfl
theorem c_inner (h : nsAt f p dp B L R G) : pm_call (d + 1) 29 [.ref p] (N, f) (.inl (some (.ref (p + 5 + dp)))) (N, f) 0 0 := by
  obtain ⟨h0, h1, h2, h3, h4⟩ := h
  refine pm_callX jm_29 [(0, .ref p)] rfl rfl rfl ?_
  refine pm_go 1 (pc1 := 1) rfl ?_
  refine pm_getf rfl h0 rfl ?_
  refine pm_go 1 (pc1 := 5) rfl ?_
  refine pm_getf rfl h0 rfl ?_
  refine pm_aald (j := dp) (q := 1) rfl h1 (by decide) (cw_ti (by omega)) (by omega) ?_
  rw [(h2 dp (by omega)).1]
  exact pm_aret rfl rfl rfl rfl rfl
theorem c_isInInfo (h : nsAt f p dp B L R G) : pm_call (d + 2) 30 [.ref p] (N, f) (.inl (some (.int (if B dp 0 = 0 then 1 else 0)))) (N, f) 0 0 := by
  have hh := h
  obtain ⟨h0, h1, h2, h3, h4⟩ := hh
  refine pm_callX jm_30 [(0, .ref p)] rfl rfl rfl ?_
  refine pm_go 1 (pc1 := 1) rfl ?_
  refine pm_cV [] rfl rfl rfl rfl h0 rfl (Nat.le_refl _) (Nat.le_refl _) (c_inner h) ?_
  refine pm_getf rfl (h2 dp (by omega)).2 rfl ?_
  refine pm_if rfl (fun z => ?_) (fun z => ?_)
  · refine pm_go 1 (pc1 := 15) rfl ?_
    exact pm_iret rfl rfl (by rw [if_neg (fun y => z y)]) rfl
  · refine pm_go 2 (pc1 := 15) rfl ?_
    exact pm_iret rfl rfl (by rw [if_pos (Classical.byContradiction fun y => z y)]) rfl
theorem c_isDeepest (h : nsAt f p dp B L R G) : pm_call (d + 1) 31 [.ref p] (N, f) (.inl (some (.int (if dp = 6 then 1 else 0)))) (N, f) 0 0 := by
  obtain ⟨h0, h1, h2, h3, h4⟩ := h
  refine pm_callX jm_31 [(0, .ref p)] rfl rfl rfl ?_
  refine pm_go 1 (pc1 := 1) rfl ?_
  refine pm_getf rfl h0 rfl ?_
  refine pm_go 1 (pc1 := 6) rfl ?_
  refine pm_icmp rfl (fun z => ?_) (fun z => ?_)
  · have hl : dp < 6 := (nI_ltI (b := 6) (by omega) (by omega)).mp z
    refine pm_go 1 (pc1 := 14) rfl ?_
    exact pm_iret rfl rfl (by rw [if_neg (by omega)]) rfl
  · have hl : ¬ dp < 6 := fun y => z ((nI_ltI (b := 6) (by omega) (by omega)).mpr y)
    refine pm_go 2 (pc1 := 14) rfl ?_
    exact pm_iret rfl rfl (by rw [if_pos (by omega)]) rfl
theorem c_ownRow (h : nsAt f p dp B L R G) : pm_call (d + 1) 34 [.ref p] (N, f) (.inl (some (.int (nI (64 + dp))))) (N, f) 0 0 := by
  obtain ⟨h0, h1, h2, h3, h4⟩ := h
  refine pm_callX jm_34 [(0, .ref p)] rfl rfl rfl ?_
  refine pm_go 2 (pc1 := 3) rfl ?_
  refine pm_getf rfl h0 rfl ?_
  refine pm_go 1 (pc1 := 7) rfl ?_
  rw [show (64 : Int32) + nI dp = nI (64 + dp) from nI_add 64 dp]
  exact pm_iret rfl rfl rfl rfl
theorem c_nestFind {x m : Nat} (h : nsAt f p dp B L R G) (hG : G (64 + dp) = nI m) (hm : m ≤ 8) (hx : x < 2 ^ 31) : pm_call (d + 3) 35 [.ref p, .int (nI x)] (N, f) (.inl (some (va_rf (if 4 ≤ x ∧ x < 4 + m then R (8 * (64 + dp) + (x - 4)) else none)))) (N, f) 0 0 := by
  have hh := h
  obtain ⟨h0, h1, h2, h3, h4⟩ := hh
  refine pm_callX jm_35 [(0, .ref p), (1, .int (nI x))] rfl rfl rfl ?_
  refine pm_go 1 (pc1 := 1) rfl ?_
  refine pm_getf rfl h0 rfl ?_
  refine pm_go 1 (pc1 := 5) rfl ?_
  refine pm_cV [] rfl rfl rfl rfl h0 rfl (Nat.le_refl _) (Nat.le_refl _) (c_ownRow h) ?_
  refine pm_go 1 (pc1 := 9) rfl ?_
  refine pm_cV [.int (nI (64 + dp)), .int (nI x)] rfl rfl rfl rfl h3.1 rfl (Nat.le_refl _) (Nat.le_refl _) (c_find h3 (by omega) hG hm hx) ?_
  generalize (if 4 ≤ x ∧ x < 4 + m then R (8 * (64 + dp) + (x - 4)) else none) = o
  refine pm_aret rfl ?_ ?_ rfl rfl
  · cases o <;> rfl
  · cases o <;> rfl
theorem c_rowToExtend (h : nsAt f p dp B L R G) : pm_call (d + 3) 36 [.ref p] (N, f) (.inl (some (.int (if B dp 0 = 0 then (if B dp 2 = 0 then -1 else B dp 2) else nI (64 + dp))))) (N, f) 0 0 := by
  have hh := h
  obtain ⟨h0, h1, h2, h3, h4⟩ := hh
  refine pm_callX jm_36 [(0, .ref p)] rfl rfl rfl ?_
  refine pm_go 1 (pc1 := 1) rfl ?_
  refine pm_cV [] rfl rfl rfl rfl h0 rfl (Nat.le_refl _) (Nat.le_refl _) (c_isInInfo h) ?_
  by_cases hB : B dp 0 = 0
  · rw [if_pos hB, if_pos hB]
    refine pm_if rfl (fun _ => ?_) (fun z => absurd (fun w => absurd (show (1 : Int32) = 0 from w) (by decide)) z)
    refine pm_go 1 (pc1 := 13) rfl ?_
    refine pm_cV [] rfl rfl rfl rfl h0 rfl (Nat.le_refl _) (Nat.le_refl _) (c_inner h) ?_
    refine pm_getf rfl (h2 dp (by omega)).2 rfl ?_
    refine pm_go 2 (pc1 := 21) rfl ?_
    refine pm_if rfl (fun z => ?_) (fun z => ?_)
    · refine pm_go 1 (pc1 := 29) rfl ?_
      exact pm_iret rfl rfl (by rw [if_neg (fun y => z y)]) rfl
    · refine pm_go 2 (pc1 := 29) rfl ?_
      exact pm_iret rfl rfl (by rw [if_pos (Classical.byContradiction fun y => z y)]) rfl
  · rw [if_neg hB, if_neg hB]
    refine pm_if rfl (fun z => absurd rfl z) (fun _ => ?_)
    refine pm_go 1 (pc1 := 8) rfl ?_
    refine pm_cV [] rfl rfl rfl rfl h0 rfl (Nat.le_refl _) (Nat.le_refl _) (c_ownRow h) ?_
    exact pm_iret rfl rfl rfl rfl
/-- the heap with another depth -/
def nsD (f : Nat → va_E) (p dp : Nat) : Nat → va_E := va_up f p (.inr (4, [.ref (p + 1), .ref (p + 2), .int (nI dp)]))
theorem nsD_at {dp1 : Nat} (h : nsAt f p dp B L R G) (hd : dp1 ≤ 6) : nsAt (nsD f p dp1) p dp1 B L R G := by
  obtain ⟨h0, h1, h2, h3, h4⟩ := h
  unfold nsD
  refine ⟨va_up_self _ _ _, ?_, ?_, ⟨?_, ?_, ?_⟩, hd⟩
  · rw [va_up_ne _ _ (by omega)]; exact h1
  · intro i hi
    rw [va_up_ne _ _ (by omega)]
    exact h2 i hi
  · rw [va_up_ne _ _ (by omega)]; exact h3.1
  · rw [va_up_ne _ _ (by omega)]; exact h3.2.1
  · rw [va_up_ne _ _ (by omega)]; exact h3.2.2
theorem c_pop (h : nsAt f p (dp + 1) B L R G) : pm_call (d + 1) 33 [.ref p] (N, f) (.inl none) (N, nsD f p dp) 0 0 := by
  have hh := h
  obtain ⟨h0, h1, h2, h3, h4⟩ := hh
  refine pm_callX jm_33 [(0, .ref p)] rfl rfl rfl ?_
  refine pm_go 1 (pc1 := 1) rfl ?_
  refine pm_getf rfl h0 rfl ?_
  refine pm_if rfl (fun z => absurd ((nI_leI (a := dp + 1) (b := 0) (by omega) (by omega)).mp z) (by omega)) (fun _ => ?_)
  refine pm_go 2 (pc1 := 9) rfl ?_
  refine pm_getf rfl h0 rfl ?_
  refine pm_go 2 (pc1 := 14) rfl ?_
  rw [show nI (dp + 1) - 1 = nI dp from pk_sub (a := dp + 1) (b := 1) (by omega)]
  refine pm_putU rfl h0 rfl rfl rfl ?_
  exact pm_vret rfl rfl rfl rfl
/-- a block's row of five numbers -/
def bkRow (a0 a1 a2 a3 a4 : Int32) : Nat → Int32 := fun j => match j with | 0 => a0 | 1 => a1 | 2 => a2 | 3 => a3 | _ => a4
def nsPush (f : Nat → va_E) (p dp : Nat) (R : Nat → Option Nat) (G : Nat → Int32) (i : Nat) (w s t : Int32) (m : Nat) : Nat → va_E := frCpy (va_up (nsD f p (dp + 1)) (p + 5 + (dp + 1)) (bkE (bkRow (nI i) w 0 s t))) (p + 2) R G i (64 + (dp + 1)) m
theorem nsB_at {B1 : Nat → Int32} {k : Nat} (h : nsAt f p dp B L R G) (hk : k < 7) : nsAt (va_up f (p + 5 + k) (bkE B1)) p dp (va_up B k B1) L R G := by
  obtain ⟨h0, h1, h2, h3, h4⟩ := h
  refine ⟨?_, ?_, ?_, ⟨?_, ?_, ?_⟩, h4⟩
  · rw [va_up_ne _ _ (by omega)]; exact h0
  · rw [va_up_ne _ _ (by omega)]; exact h1
  · intro i hi
    refine ⟨(h2 i hi).1, ?_⟩
    by_cases hik : i = k
    · subst hik
      rw [va_up_self, va_up_self]
    · rw [va_up_ne _ _ (by omega), va_up_ne _ _ hik]
      exact (h2 i hi).2
  · rw [va_up_ne _ _ (by omega)]; exact h3.1
  · rw [va_up_ne _ _ (by omega)]; exact h3.2.1
  · rw [va_up_ne _ _ (by omega)]; exact h3.2.2
theorem c_push {i m : Nat} {w s t : Int32} (h : nsAt f p dp B L R G) (hd : dp < 6) (hi : i < 64) (hw : 2 ≤ w.toInt ∧ w.toInt ≤ 8) (hG : G i = nI m) (hm : m ≤ 8) (hR : ∀ j, j < m → ∃ y fs, R (8 * i + j) = some y ∧ f y = .inr (2, fs)) : pm_call (d + 3) 32 [.ref p, .int (nI i), .int w, .int s, .int t] (N, f) (.inl none) (N, nsPush f p dp R G i w s t m) 0 0 := by
  have hh := h
  obtain ⟨h0, h1, h2, h3, h4⟩ := hh
  have g := nsD_at (dp1 := dp + 1) h (by omega)
  have hb := (g.2.2.1 (dp + 1) (by omega)).2
  refine pm_callX jm_32 [(0, .ref p), (1, .int (nI i)), (2, .int w), (3, .int s), (4, .int t)] rfl rfl rfl ?_
  refine pm_go 1 (pc1 := 1) rfl ?_
  refine pm_cV [] rfl rfl rfl rfl h0 rfl (Nat.le_refl _) (Nat.le_refl _) (c_isDeepest h) ?_
  rw [if_neg (by omega)]
  refine pm_if rfl (fun z => absurd rfl z) (fun _ => ?_)
  refine pm_go 2 (pc1 := 9) rfl ?_
  refine pm_cS [.int (nI i), .int w] rfl rfl rfl rfl rfl (Nat.le_refl _) (Nat.le_refl _) c_isBlockHead ?_
  rw [if_pos (by rw [nI_toInt (by omega)]; omega)]
  refine pm_if rfl (fun _ => ?_) (fun z => absurd (fun w => absurd (show (1 : Int32) = 0 from w) (by decide)) z)
  refine pm_go 2 (pc1 := 18) rfl ?_
  refine pm_getf rfl h0 rfl ?_
  refine pm_go 2 (pc1 := 23) rfl ?_
  rw [nI_1]
  refine pm_putU (f1 := nsD f p (dp + 1)) rfl h0 rfl rfl rfl ?_
  refine pm_go 1 (pc1 := 27) rfl ?_
  refine pm_cV [] rfl rfl rfl rfl g.1 rfl (Nat.le_refl _) (Nat.le_refl _) (c_inner g) ?_
  refine pm_go 3 (pc1 := 35) rfl ?_
  refine pm_putU rfl hb rfl rfl rfl ?_
  refine pm_go 2 (pc1 := 41) rfl ?_
  refine pm_putU rfl (va_up_self _ _ _) rfl rfl (va_up2 ..) ?_
  refine pm_go 2 (pc1 := 47) rfl ?_
  refine pm_putU rfl (va_up_self _ _ _) rfl rfl (va_up2 ..) ?_
  refine pm_go 2 (pc1 := 53) rfl ?_
  refine pm_putU rfl (va_up_self _ _ _) rfl rfl (va_up2 ..) ?_
  refine pm_go 2 (pc1 := 60) rfl ?_
  refine pm_putU (f1 := va_up (nsD f p (dp + 1)) (p + 5 + (dp + 1)) (bkE (bkRow (nI i) w 0 s t))) rfl (va_up_self _ _ _) rfl rfl (va_up2 ..) ?_
  have g2 := nsB_at (B1 := bkRow (nI i) w 0 s t) (k := dp + 1) g (by omega)
  refine pm_go 1 (pc1 := 64) rfl ?_
  refine pm_getf rfl g2.1 rfl ?_
  refine pm_go 2 (pc1 := 69) rfl ?_
  refine pm_cV [] rfl rfl rfl rfl g2.1 rfl (Nat.le_refl _) (Nat.le_refl _) (c_ownRow g2) ?_
  refine pm_cV [.int (nI i), .int (nI (64 + (dp + 1)))] rfl rfl rfl rfl g2.2.2.2.1.1 rfl (Nat.le_refl _) (Nat.le_refl _) (c_copyRow g2.2.2.2.1 (by omega) (by omega) hG hm ?_) ?_
  · intro j hj
    obtain ⟨y, fs, hy, hf⟩ := hR j hj
    refine ⟨y, fs, hy, ?_⟩
    have n1 : y ≠ p := fun z => by subst z; rw [h0] at hf; cases hf
    have n2 : y ≠ p + 5 + (dp + 1) := fun z => by rw [z, (h2 (dp + 1) (by omega)).2] at hf; cases hf
    unfold nsD
    rw [va_up_ne _ _ n2, va_up_ne _ _ n1]
    exact hf
  exact pm_vret rfl rfl rfl rfl
theorem c_startAnew (h : nsAt f p dp B L R G) : pm_call (d + 2) 28 [.ref p] (N, f) (.inl none) (N, va_up (nsD f p 0) (p + 4) (.inl (0, 71, .inl (frZk G 71)))) 0 0 := by
  have hh := h
  obtain ⟨h0, h1, h2, h3, h4⟩ := hh
  have g := nsD_at (dp1 := 0) h (by omega)
  refine pm_callX jm_28 [(0, .ref p)] rfl rfl rfl ?_
  refine pm_go 2 (pc1 := 2) rfl ?_
  refine pm_putU (f1 := nsD f p 0) rfl h0 rfl rfl rfl ?_
  refine pm_go 1 (pc1 := 6) rfl ?_
  refine pm_getf rfl g.1 rfl ?_
  refine pm_cV [] rfl rfl rfl rfl g.2.2.2.1.1 rfl (Nat.le_refl _) (Nat.le_refl _) (c_removeForms g.2.2.2.1) ?_
  exact pm_vret rfl rfl rfl rfl
end NEST
