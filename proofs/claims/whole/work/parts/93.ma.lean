/-! THE MODEL: its small public methods -/
def fgK (G : Nat → Int32) (a k : Nat) : Nat → Int32 := fun i => if a ≤ i ∧ i < a + k then 0 else G i
theorem fgK_0 (G : Nat → Int32) (a : Nat) : fgK G a 0 = G := by
  funext i
  unfold fgK
  rw [if_neg (by omega)]
theorem fgK_s (G : Nat → Int32) (a k : Nat) : upd (fgK G a k) (a + k) 0 = fgK G a (k + 1) := by
  funext i
  by_cases h : i = a + k
  · subst h
    rw [upd_at]
    unfold fgK
    rw [if_pos (by omega)]
  · rw [upd_ne h]
    unfold fgK
    by_cases h2 : a ≤ i ∧ i < a + k
    · rw [if_pos h2, if_pos (by omega)]
    · rw [if_neg h2, if_neg (by omega)]
def cpK (S : Nat → Int32) (k : Nat) : Nat → Int32 := fun j => if 128 ≤ j ∧ j < 128 + k then S (j - 128) else S j
theorem cpK_0 (S : Nat → Int32) : cpK S 0 = S := by
  funext i
  unfold cpK
  rw [if_neg (by omega)]
theorem cpK_s (S : Nat → Int32) {k : Nat} (hk : k < 128) : upd (cpK S k) (128 + k) (cpK S k k) = cpK S (k + 1) := by
  have e : cpK S k k = S k := by unfold cpK; rw [if_neg (by omega)]
  rw [e]
  funext i
  by_cases h : i = 128 + k
  · subst h
    rw [upd_at]
    unfold cpK
    rw [if_pos (by omega), show 128 + k - 128 = k by omega]
  · rw [upd_ne h]
    unfold cpK
    by_cases h2 : 128 ≤ i ∧ i < 128 + k
    · rw [if_pos h2, if_pos (by omega)]
    · rw [if_neg h2, if_neg (by omega)]
/-- one side forgotten -/
abbrev fgIA (IA : Nat → Nat → Int32) (s : Nat) : Nat → Nat → Int32 := va_up (va_up (va_up (va_up IA 38 (upd (IA 38) s 0)) 39 (upd (IA 39) s 0)) 50 (upd (IA 50) s 0)) 46 (fgK (IA 46) (64 * s) 64)
abbrev rwSC (SC : Nat → Nat → Int32) : Nat → Nat → Int32 := va_up (va_up (thr SC 0) 36 (upd (thr SC 0 36) 20 0)) 36 (upd (upd (thr SC 0 36) 20 0) 22 0)
theorem within_iff {i : Int32} {n : Nat} (hn : n < 2 ^ 30) : ((0 : Int32) ≤ i ∧ i ≤ nI n - 1) ↔ (0 ≤ i.toInt ∧ i.toInt < (n : Int)) := by
  rw [i32_rng, show (nI n - 1).toInt = (n : Int) - 1 from pk_sub_toInt (b := 1) (by omega) (by omega)]
  show (0 : Int) ≤ i.toInt ∧ _ ↔ _
  omega
section MA
variable {IA : Nat → Nat → Int32} {LA : Nat → Nat → Int64} {RA : Nat → Nat → Option Nat} {SC : Nat → Nat → Int32} {dr : Nat} {tl : Nat → va_E} {N d E m : Nat}
theorem m_thrown : pm_call (d + 1) 99 [.ref 36] (N, HC IA LA RA SC dr tl) (.inl (some (.int (SC 36 21)))) (N, HC IA LA RA SC dr tl) 0 0 := by
  refine pm_callX jm_99 [(0, .ref 36)] rfl rfl rfl ?_
  refine pm_go 1 (pc1 := 1) rfl ?_
  refine pm_getf rfl rfl rfl ?_
  exact pm_iret rfl rfl rfl rfl
theorem m_words (hE : IA 38 0 = nI E) (hE2 : E ≤ 2048) : pm_call (d + 1) 127 [.ref 36] (N, HC IA LA RA SC dr tl) (.inl (some (.int (nI ((E + 31) / 32))))) (N, HC IA LA RA (thr SC 0) dr tl) 0 0 := by
  refine pm_callX jm_127 [(0, .ref 36)] rfl rfl rfl ?_
  refine pm_go 2 (pc1 := 2) rfl ?_
  refine pm_putU rfl rfl rfl rfl (hs_36_21 ..) ?_
  refine pm_go 1 (pc1 := 6) rfl ?_
  refine pm_getf rfl rfl rfl ?_
  refine pm_go 1 (pc1 := 10) rfl ?_
  refine pm_iald (j := 0) rfl rfl rfl (by omega) ?_
  refine pm_nm (y := nI E) hE ?_
  refine pm_go 2 (pc1 := 14) rfl ?_
  rw [show nI E + (31 : Int32) = nI (E + 31) from nI_add E 31]
  refine pm_go 2 (pc1 := 17) rfl ?_
  rw [show nI (E + 31) / (32 : Int32) = nI ((E + 31) / 32) from cw_di (by omega)]
  exact pm_iret rfl rfl rfl rfl
theorem m_word {i : Int32} (hE : IA 38 0 = nI E) (hE2 : E ≤ 2048) : pm_call (d + 2) 128 [.ref 36, .int i] (N, HC IA LA RA SC dr tl) (.inl (some (.int (if 0 ≤ i.toInt ∧ i.toInt < (((E + 31) / 32 : Nat) : Int) then IA 37 i.toInt.toNat else 0)))) (N, HC IA LA RA (thr SC 0) dr tl) 0 0 := by
  refine pm_callX jm_128 [(0, .ref 36), (1, .int i)] rfl rfl rfl ?_
  refine pm_go 2 (pc1 := 2) rfl ?_
  refine pm_putU rfl rfl rfl rfl (hs_36_21 ..) ?_
  refine pm_go 3 (pc1 := 8) rfl ?_
  refine pm_getf rfl rfl rfl ?_
  refine pm_go 1 (pc1 := 12) rfl ?_
  refine pm_iald (j := 0) rfl rfl rfl (by omega) ?_
  refine pm_nm (y := nI E) hE ?_
  refine pm_go 2 (pc1 := 16) rfl ?_
  rw [show nI E + (31 : Int32) = nI (E + 31) from nI_add E 31]
  refine pm_go 2 (pc1 := 19) rfl ?_
  rw [show nI (E + 31) / (32 : Int32) = nI ((E + 31) / 32) from cw_di (by omega)]
  refine pm_go 2 (pc1 := 21) rfl ?_
  refine pm_cS [.int i, .int 0, .int (nI ((E + 31) / 32) - 1)] rfl rfl rfl rfl rfl (Nat.zero_le _) (Nat.zero_le _) m_within ?_
  by_cases h : 0 ≤ i.toInt ∧ i.toInt < (((E + 31) / 32 : Nat) : Int)
  · rw [if_pos h, if_pos ((within_iff (by omega)).mpr h)]
    refine pm_if rfl (fun z => absurd (show (1 : Int32) = 0 from z) (by decide)) (fun _ => ?_)
    refine pm_go 1 (pc1 := 28) rfl ?_
    refine pm_getf rfl rfl rfl ?_
    refine pm_go 1 (pc1 := 32) rfl ?_
    refine pm_iald (j := i.toInt.toNat) rfl rfl (Int.toNat_of_nonneg h.1).symm (by omega) ?_
    refine pm_go 1 (pc1 := 37) rfl ?_
    exact pm_iret rfl rfl rfl rfl
  · rw [if_neg h, if_neg (fun z => h ((within_iff (by omega)).mp z))]
    refine pm_if rfl (fun _ => ?_) (fun z => absurd rfl z)
    refine pm_go 1 (pc1 := 37) rfl ?_
    exact pm_iret rfl rfl rfl rfl
theorem m_depth : pm_call (d + 1) 129 [.ref 36] (N, HC IA LA RA SC dr tl) (.inl (some (.int (IA 39 0)))) (N, HC IA LA RA (thr SC 0) dr tl) 0 0 := by
  refine pm_callX jm_129 [(0, .ref 36)] rfl rfl rfl ?_
  refine pm_go 2 (pc1 := 2) rfl ?_
  refine pm_putU rfl rfl rfl rfl (hs_36_21 ..) ?_
  refine pm_go 1 (pc1 := 6) rfl ?_
  refine pm_getf rfl rfl rfl ?_
  refine pm_go 1 (pc1 := 10) rfl ?_
  refine pm_iald (j := 0) rfl rfl rfl (by omega) ?_
  exact pm_iret rfl rfl rfl rfl
theorem m_level : pm_call (d + 1) 150 [.ref 36] (N, HC IA LA RA SC dr tl) (.inl (some (.int (IA 39 1)))) (N, HC IA LA RA (thr SC 0) dr tl) 0 0 := by
  refine pm_callX jm_150 [(0, .ref 36)] rfl rfl rfl ?_
  refine pm_go 2 (pc1 := 2) rfl ?_
  refine pm_putU rfl rfl rfl rfl (hs_36_21 ..) ?_
  refine pm_go 1 (pc1 := 6) rfl ?_
  refine pm_getf rfl rfl rfl ?_
  refine pm_go 1 (pc1 := 10) rfl ?_
  refine pm_iald (j := 1) rfl rfl rfl (by omega) ?_
  exact pm_iret rfl rfl rfl rfl
theorem m_info {i : Int32} (hS : SC 36 22 = nI m) (hm : m ≤ 19) : pm_call (d + 2) 149 [.ref 36, .int i] (N, HC IA LA RA SC dr tl) (.inl (some (.int (if 0 ≤ i.toInt ∧ i.toInt < (m : Int) then IA 53 i.toInt.toNat else -1)))) (N, HC IA LA RA (thr SC 0) dr tl) 0 0 := by
  refine pm_callX jm_149 [(0, .ref 36), (1, .int i)] rfl rfl rfl ?_
  refine pm_go 2 (pc1 := 2) rfl ?_
  refine pm_putU rfl rfl rfl rfl (hs_36_21 ..) ?_
  refine pm_go 3 (pc1 := 8) rfl ?_
  refine pm_getf rfl rfl rfl ?_
  refine pm_nm (y := nI m) hS ?_
  refine pm_go 2 (pc1 := 13) rfl ?_
  refine pm_cS [.int i, .int 0, .int (nI m - 1)] rfl rfl rfl rfl rfl (Nat.zero_le _) (Nat.zero_le _) m_within ?_
  by_cases h : 0 ≤ i.toInt ∧ i.toInt < (m : Int)
  · rw [if_pos h, if_pos ((within_iff (by omega)).mpr h)]
    refine pm_if rfl (fun z => absurd (show (1 : Int32) = 0 from z) (by decide)) (fun _ => ?_)
    refine pm_go 1 (pc1 := 20) rfl ?_
    refine pm_getf rfl rfl rfl ?_
    refine pm_go 1 (pc1 := 24) rfl ?_
    refine pm_iald (j := i.toInt.toNat) rfl rfl (Int.toNat_of_nonneg h.1).symm (by omega) ?_
    refine pm_go 1 (pc1 := 29) rfl ?_
    exact pm_iret rfl rfl rfl rfl
  · rw [if_neg h, if_neg (fun z => h ((within_iff (by omega)).mp z))]
    refine pm_if rfl (fun _ => ?_) (fun z => absurd rfl z)
    refine pm_go 1 (pc1 := 29) rfl ?_
    exact pm_iret rfl rfl rfl rfl
theorem m_drop : pm_call (d + 1) 116 [.ref 36] (N, HC IA LA RA SC dr tl) (.inl none) (N, HC IA LA RA (va_up (va_up (thr SC 0) 36 (upd (thr SC 0 36) 16 0)) 36 (upd (upd (thr SC 0 36) 16 0) 18 0)) dr tl) 0 0 := by
  refine pm_callX jm_116 [(0, .ref 36)] rfl rfl rfl ?_
  refine pm_go 2 (pc1 := 2) rfl ?_
  refine pm_putU rfl rfl rfl rfl (hs_36_21 ..) ?_
  refine pm_go 2 (pc1 := 7) rfl ?_
  refine pm_putU rfl rfl rfl rfl (hs_36_16 ..) ?_
  refine pm_go 2 (pc1 := 12) rfl ?_
  refine pm_putU rfl rfl rfl rfl (hs_36_18 ..) ?_
  exact pm_vret rfl rfl rfl rfl
theorem m_forget_loop {s : Nat} (hs : s < 2) : ∀ (j k : Nat), k + j = 64 → pm_X (pm_call d) jm_130 3 none d 0 0 23 [(0, .ref 36), (1, .int (nI s)), (2, .int (nI k))] [] 0 0 (N, HC (va_up IA 46 (fgK (IA 46) (64 * s) k)) LA RA SC dr tl) (.inl none) (N, HC (va_up IA 46 (fgK (IA 46) (64 * s) 64)) LA RA SC dr tl) := by
  intro j
  induction j with
  | zero =>
    intro k hk
    have e : k = 64 := by omega
    subst e
    refine pm_go 2 (pc1 := 26) rfl ?_
    refine pm_icmp rfl (fun _ => ?_) (fun z => absurd (show (64 : Int32) ≤ nI 64 by decide) z)
    exact pm_vret rfl rfl rfl rfl
  | succ j ih =>
    intro k hk
    refine pm_go 2 (pc1 := 26) rfl ?_
    refine pm_icmp rfl (fun z => absurd ((nI_leI (a := 64) (by omega) (by omega)).mp z) (by omega)) (fun _ => ?_)
    refine pm_go 1 (pc1 := 30) rfl ?_
    refine pm_getf rfl rfl rfl ?_
    refine pm_go 6 (pc1 := 40) rfl ?_
    rw [show (64 : Int32) * nI s + nI k = nI (64 * s + k) from ixm 64 s k]
    refine pm_iastU (j := 64 * s + k) (n := 128) rfl rfl (cw_ti (by omega)) (by omega) (hi_46 ..) ?_
    refine pm_hp (f1 := HC (va_up IA 46 (fgK (IA 46) (64 * s) (k + 1))) LA RA SC dr tl) (by rw [va_up2]; exact congrArg (fun z => HC (va_up IA 46 z) LA RA SC dr tl) (fgK_s (IA 46) (64 * s) k)) ?_
    refine pm_go 2 (pc1 := 23) rfl ?_
    rw [nI_1]
    exact pm_lv [(0, .ref 36), (1, .int (nI s)), (2, .int (nI (k + 1)))] rfl rfl (ih (k + 1) (by omega))
theorem m_forget {s : Nat} (hs : s < 2) : pm_call (d + 1) 130 [.ref 36, .int (nI s)] (N, HC IA LA RA SC dr tl) (.inl none) (N, HC (fgIA IA s) LA RA SC dr tl) 0 0 := by
  refine pm_callX jm_130 [(0, .ref 36), (1, .int (nI s))] rfl rfl rfl ?_
  refine pm_go 1 (pc1 := 1) rfl ?_
  refine pm_getf rfl rfl rfl ?_
  refine pm_go 2 (pc1 := 6) rfl ?_
  refine pm_iastU (j := s) (n := 2) rfl rfl (cw_ti (by omega)) hs (hi_38 ..) ?_
  refine pm_go 1 (pc1 := 8) rfl ?_
  refine pm_getf rfl rfl rfl ?_
  refine pm_go 2 (pc1 := 13) rfl ?_
  refine pm_iastU (j := s) (n := 2) rfl rfl (cw_ti (by omega)) hs (hi_39 ..) ?_
  refine pm_go 1 (pc1 := 15) rfl ?_
  refine pm_getf rfl rfl rfl ?_
  refine pm_go 2 (pc1 := 20) rfl ?_
  refine pm_iastU (j := s) (n := 2) rfl rfl (cw_ti (by omega)) hs (hi_50 ..) ?_
  refine pm_go 2 (pc1 := 23) rfl ?_
  refine pm_hp (f1 := HC (va_up (va_up (va_up (va_up IA 38 (upd (IA 38) s 0)) 39 (upd (IA 39) s 0)) 50 (upd (IA 50) s 0)) 46 (fgK (IA 46) (64 * s) 0)) LA RA SC dr tl) (by rw [fgK_0]; exact congrArg (fun z => HC z LA RA SC dr tl) (va_up_id _ 46 _ rfl).symm) ?_
  exact pm_lv [(0, .ref 36), (1, .int (nI s)), (2, .int (nI 0))] rfl rfl (m_forget_loop (IA := va_up (va_up (va_up IA 38 (upd (IA 38) s 0)) 39 (upd (IA 39) s 0)) 50 (upd (IA 50) s 0)) hs 64 0 rfl)
theorem m_rewind : pm_call (d + 2) 132 [.ref 36] (N, HC IA LA RA SC dr tl) (.inl none) (N, HC (fgIA IA 1) LA RA (rwSC SC) dr tl) 0 0 := by
  refine pm_callX jm_132 [(0, .ref 36)] rfl rfl rfl ?_
  refine pm_go 2 (pc1 := 2) rfl ?_
  refine pm_putU rfl rfl rfl rfl (hs_36_21 ..) ?_
  refine pm_go 2 (pc1 := 7) rfl ?_
  refine pm_cV [.int (nI 1)] rfl rfl rfl rfl rfl rfl (Nat.zero_le _) (Nat.zero_le _) (m_forget (s := 1) (by omega)) ?_
  refine pm_go 2 (pc1 := 12) rfl ?_
  refine pm_putU rfl rfl rfl rfl (hs_36_20 ..) ?_
  refine pm_go 2 (pc1 := 17) rfl ?_
  refine pm_putU rfl rfl rfl rfl (hs_36_22 ..) ?_
  exact pm_vret rfl rfl rfl rfl
end MA
