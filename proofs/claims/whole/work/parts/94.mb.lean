/-! THE MODEL: clear, copy, load, alter, wipe, value, op -/
section MB
variable {IA : Nat → Nat → Int32} {LA : Nat → Nat → Int64} {RA : Nat → Nat → Option Nat} {SC : Nat → Nat → Int32} {dr : Nat} {tl : Nat → va_E} {N d E m : Nat} {r : pm_V} {h' : pm_H}
theorem m_clear_loop : ∀ (j k : Nat), k + j = 128 → pm_X (pm_call d) jm_131 2 none d 0 0 27 [(0, .ref 36)] [] 0 0 (N, HC (va_up IA 37 (fgK (IA 37) 0 128)) LA RA SC dr tl) r h' → pm_X (pm_call d) jm_131 2 none d 0 0 7 [(0, .ref 36), (1, .int (nI k))] [] 0 0 (N, HC (va_up IA 37 (fgK (IA 37) 0 k)) LA RA SC dr tl) r h' := by
  intro j
  induction j with
  | zero =>
    intro k hk hX
    have e : k = 128 := by omega
    subst e
    refine pm_go 2 (pc1 := 11) rfl ?_
    refine pm_icmp rfl (fun _ => ?_) (fun z => absurd (show (128 : Int32) ≤ nI 128 by decide) z)
    exact pm_lv [(0, .ref 36)] rfl rfl hX
  | succ j ih =>
    intro k hk hX
    refine pm_go 2 (pc1 := 11) rfl ?_
    refine pm_icmp rfl (fun z => absurd ((nI_leI (a := 128) (by omega) (by omega)).mp z) (by omega)) (fun _ => ?_)
    refine pm_go 1 (pc1 := 15) rfl ?_
    refine pm_getf rfl rfl rfl ?_
    refine pm_go 2 (pc1 := 20) rfl ?_
    refine pm_iastU (j := k) (n := 256) rfl rfl (cw_ti (by omega)) (by omega) (hi_37 ..) ?_
    have e := fgK_s (IA 37) 0 k
    rw [Nat.zero_add] at e
    refine pm_hp (f1 := HC (va_up IA 37 (fgK (IA 37) 0 (k + 1))) LA RA SC dr tl) (by rw [va_up2]; exact congrArg (fun z => HC (va_up IA 37 z) LA RA SC dr tl) e) ?_
    refine pm_go 2 (pc1 := 7) rfl ?_
    rw [nI_1]
    exact pm_lv [(0, .ref 36), (1, .int (nI (k + 1)))] rfl rfl (ih (k + 1) (by omega) hX)
theorem m_clear : pm_call (d + 2) 131 [.ref 36] (N, HC IA LA RA SC dr tl) (.inl none) (N, HC (fgIA (va_up IA 37 (fgK (IA 37) 0 128)) 0) LA RA (va_up (va_up (thr SC 0) 36 (upd (thr SC 0 36) 16 0)) 36 (upd (upd (thr SC 0 36) 16 0) 18 0)) dr tl) 0 0 := by
  refine pm_callX jm_131 [(0, .ref 36)] rfl rfl rfl ?_
  refine pm_go 2 (pc1 := 2) rfl ?_
  refine pm_putU rfl rfl rfl rfl (hs_36_21 ..) ?_
  refine pm_go 2 (pc1 := 7) rfl ?_
  refine pm_hp (f1 := HC (va_up IA 37 (fgK (IA 37) 0 0)) LA RA (thr SC 0) dr tl) (by rw [fgK_0, cw_id]) ?_
  refine pm_lv [(0, .ref 36), (1, .int (nI 0))] rfl rfl (m_clear_loop 128 0 rfl ?_)
  refine pm_go 2 (pc1 := 29) rfl ?_
  refine pm_cV [.int (nI 0)] rfl rfl rfl rfl rfl rfl (Nat.zero_le _) (Nat.zero_le _) (m_forget (s := 0) (by omega)) ?_
  refine pm_go 2 (pc1 := 34) rfl ?_
  refine pm_putU rfl rfl rfl rfl (hs_36_16 ..) ?_
  refine pm_go 2 (pc1 := 39) rfl ?_
  refine pm_putU rfl rfl rfl rfl (hs_36_18 ..) ?_
  exact pm_vret rfl rfl rfl rfl
theorem m_copyN {dp : Nat} (hD : IA 39 0 = nI (dp + 1)) (hd : dp + 1 ≤ 6) : pm_call (d + 1) 133 [.ref 36] (N, HC IA LA RA SC dr tl) (.inl (some (.int (-1)))) (N, HC IA LA RA (thr SC 0) dr tl) 0 0 := by
  refine pm_callX jm_133 [(0, .ref 36)] rfl rfl rfl ?_
  refine pm_go 2 (pc1 := 2) rfl ?_
  refine pm_putU rfl rfl rfl rfl (hs_36_21 ..) ?_
  refine pm_go 1 (pc1 := 6) rfl ?_
  refine pm_getf rfl rfl rfl ?_
  refine pm_go 1 (pc1 := 10) rfl ?_
  refine pm_iald (j := 0) rfl rfl rfl (by omega) ?_
  refine pm_nm (y := nI (dp + 1)) hD ?_
  refine pm_if rfl (fun z => absurd ((nI_eqI (b := 0) (by omega) (by omega)).mp z) (by omega)) (fun _ => ?_)
  refine pm_go 1 (pc1 := 15) rfl ?_
  exact pm_iret rfl rfl rfl rfl
theorem m_copy_loop (hm : m ≤ 64) (hS : SC 36 2 = nI m) : ∀ (j k : Nat), k + j = m → pm_X (pm_call d) jm_133 2 (some .int) d 0 0 61 [(0, .ref 36)] [] 0 0 (N, HC (va_up IA 37 (cpK (IA 37) m)) LA RA SC dr tl) r h' → pm_X (pm_call d) jm_133 2 (some .int) d 0 0 31 [(0, .ref 36), (1, .int (nI k))] [] 0 0 (N, HC (va_up IA 37 (cpK (IA 37) k)) LA RA SC dr tl) r h' := by
  intro j
  induction j with
  | zero =>
    intro k hk hX
    have e : k = m := by omega
    subst e
    refine pm_go 2 (pc1 := 33) rfl ?_
    refine pm_getf rfl rfl rfl ?_
    refine pm_nm (y := nI k) hS ?_
    refine pm_icmp rfl (fun _ => ?_) (fun z => absurd ((nI_leI (by omega) (by omega)).mpr (Nat.le_refl _)) z)
    exact pm_lv [(0, .ref 36)] rfl rfl hX
  | succ j ih =>
    intro k hk hX
    refine pm_go 2 (pc1 := 33) rfl ?_
    refine pm_getf rfl rfl rfl ?_
    refine pm_nm (y := nI m) hS ?_
    refine pm_icmp rfl (fun z => absurd ((nI_leI (by omega) (by omega)).mp z) (by omega)) (fun _ => ?_)
    refine pm_go 1 (pc1 := 40) rfl ?_
    refine pm_getf rfl rfl rfl ?_
    refine pm_go 4 (pc1 := 49) rfl ?_
    rw [show (128 : Int32) + nI k = nI (128 + k) from nI_add 128 k]
    refine pm_getf rfl rfl rfl ?_
    refine pm_go 1 (pc1 := 53) rfl ?_
    refine pm_iald (j := k) (N := 256) rfl rfl (cw_ti (by omega)) (by omega) ?_
    refine pm_nm (y := cpK (IA 37) k k) rfl ?_
    refine pm_iastU (j := 128 + k) (n := 256) rfl rfl (cw_ti (by omega)) (by omega) (hi_37 ..) ?_
    refine pm_hp (f1 := HC (va_up IA 37 (cpK (IA 37) (k + 1))) LA RA SC dr tl) (by rw [va_up2]; exact congrArg (fun z => HC (va_up IA 37 z) LA RA SC dr tl) (cpK_s (IA 37) (by omega))) ?_
    refine pm_go 2 (pc1 := 31) rfl ?_
    rw [nI_1]
    exact pm_lv [(0, .ref 36), (1, .int (nI (k + 1)))] rfl rfl (ih (k + 1) (by omega) hX)
abbrev rdW (SC : Nat → Nat → Int32) (x : Int32) : Nat → Nat → Int32 := va_up (thr SC 0) 36 (upd (thr SC 0 36) 2 x)
theorem m_copy (hD : IA 39 0 = nI 0) (hE : IA 38 0 = nI E) (hE2 : E ≤ 2048) : pm_call (d + 3) 133 [.ref 36] (N, HC IA LA RA SC dr tl) (.inl (some (.int (nI (E / 32))))) (N, HC (fgIA (va_up IA 37 (cpK (IA 37) (E / 32))) 1) LA RA (rwSC (rdW SC (nI (E / 32)))) dr tl) 0 0 := by
  refine pm_callX jm_133 [(0, .ref 36)] rfl rfl rfl ?_
  refine pm_go 2 (pc1 := 2) rfl ?_
  refine pm_putU rfl rfl rfl rfl (hs_36_21 ..) ?_
  refine pm_go 1 (pc1 := 6) rfl ?_
  refine pm_getf rfl rfl rfl ?_
  refine pm_go 1 (pc1 := 10) rfl ?_
  refine pm_iald (j := 0) rfl rfl rfl (by omega) ?_
  refine pm_nm (y := nI 0) hD ?_
  refine pm_if rfl (fun _ => ?_) (fun z => absurd rfl z)
  refine pm_go 2 (pc1 := 18) rfl ?_
  refine pm_getf rfl rfl rfl ?_
  refine pm_go 1 (pc1 := 22) rfl ?_
  refine pm_iald (j := 0) rfl rfl rfl (by omega) ?_
  refine pm_nm (y := nI E) hE ?_
  refine pm_go 2 (pc1 := 26) rfl ?_
  rw [show nI E / (32 : Int32) = nI (E / 32) from cw_di (by omega)]
  refine pm_putU rfl rfl rfl rfl (hs_36_2 ..) ?_
  refine pm_go 2 (pc1 := 31) rfl ?_
  refine pm_hp (f1 := HC (va_up IA 37 (cpK (IA 37) 0)) LA RA (rdW SC (nI (E / 32))) dr tl) (by rw [cpK_0, cw_id]) ?_
  refine pm_lv [(0, .ref 36), (1, .int (nI 0))] rfl rfl (m_copy_loop (m := E / 32) (by omega) rfl (E / 32) 0 (by omega) ?_)
  refine pm_go 1 (pc1 := 62) rfl ?_
  refine pm_cV [] rfl rfl rfl rfl rfl rfl (Nat.zero_le _) (Nat.zero_le _) m_rewind ?_
  refine pm_go 1 (pc1 := 66) rfl ?_
  refine pm_getf rfl rfl rfl ?_
  exact pm_iret rfl rfl rfl rfl
theorem m_loadF {v : Int32} (hS : SC 36 2 = nI 64) : pm_call (d + 1) 134 [.ref 36, .int v] (N, HC IA LA RA SC dr tl) (.inl (some (.int (-1)))) (N, HC IA LA RA (thr SC 0) dr tl) 0 0 := by
  refine pm_callX jm_134 [(0, .ref 36), (1, .int v)] rfl rfl rfl ?_
  refine pm_go 2 (pc1 := 2) rfl ?_
  refine pm_putU rfl rfl rfl rfl (hs_36_21 ..) ?_
  refine pm_go 1 (pc1 := 6) rfl ?_
  refine pm_getf rfl rfl rfl ?_
  refine pm_nm (y := nI 64) hS ?_
  refine pm_go 1 (pc1 := 11) rfl ?_
  refine pm_icmp rfl (fun z => absurd rfl z) (fun _ => ?_)
  refine pm_go 1 (pc1 := 15) rfl ?_
  exact pm_iret rfl rfl rfl rfl
theorem m_load {v : Int32} (hS : SC 36 2 = nI m) (hm : m < 64) : pm_call (d + 3) 134 [.ref 36, .int v] (N, HC IA LA RA SC dr tl) (.inl (some (.int (nI (m + 1))))) (N, HC (fgIA (va_up IA 37 (upd (IA 37) (128 + m) v)) 1) LA RA (rwSC (rdW SC (nI (m + 1)))) dr tl) 0 0 := by
  refine pm_callX jm_134 [(0, .ref 36), (1, .int v)] rfl rfl rfl ?_
  refine pm_go 2 (pc1 := 2) rfl ?_
  refine pm_putU rfl rfl rfl rfl (hs_36_21 ..) ?_
  refine pm_go 1 (pc1 := 6) rfl ?_
  refine pm_getf rfl rfl rfl ?_
  refine pm_nm (y := nI m) hS ?_
  refine pm_go 1 (pc1 := 11) rfl ?_
  refine pm_icmp rfl (fun _ => ?_) (fun z => absurd (fun h => absurd ((nI_eqI (b := 64) (by omega) (by omega)).mp h) (by omega)) z)
  refine pm_go 1 (pc1 := 17) rfl ?_
  refine pm_getf rfl rfl rfl ?_
  refine pm_go 2 (pc1 := 24) rfl ?_
  refine pm_getf rfl rfl rfl ?_
  refine pm_nm (y := nI m) hS ?_
  refine pm_go 2 (pc1 := 29) rfl ?_
  rw [show (128 : Int32) + nI m = nI (128 + m) from nI_add 128 m]
  refine pm_iastU (j := 128 + m) (n := 256) rfl rfl (cw_ti (by omega)) (by omega) (hi_37 ..) ?_
  refine pm_go 2 (pc1 := 32) rfl ?_
  refine pm_getf rfl rfl rfl ?_
  refine pm_nm (y := nI m) hS ?_
  refine pm_go 2 (pc1 := 37) rfl ?_
  rw [nI_1]
  refine pm_putU rfl rfl rfl rfl (hs_36_2 ..) ?_
  refine pm_go 1 (pc1 := 41) rfl ?_
  refine pm_cV [] rfl rfl rfl rfl rfl rfl (Nat.zero_le _) (Nat.zero_le _) m_rewind ?_
  refine pm_go 1 (pc1 := 45) rfl ?_
  refine pm_getf rfl rfl rfl ?_
  exact pm_iret rfl rfl rfl rfl
theorem m_alterN {i v : Int32} (hS : SC 36 2 = nI m) (hm : m ≤ 64) (hi : ¬ (0 ≤ i.toInt ∧ i.toInt < (m : Int))) : pm_call (d + 2) 135 [.ref 36, .int i, .int v] (N, HC IA LA RA SC dr tl) (.inl (some (.int 0))) (N, HC IA LA RA (thr SC 0) dr tl) 0 0 := by
  refine pm_callX jm_135 [(0, .ref 36), (1, .int i), (2, .int v)] rfl rfl rfl ?_
  refine pm_go 2 (pc1 := 2) rfl ?_
  refine pm_putU rfl rfl rfl rfl (hs_36_21 ..) ?_
  refine pm_go 3 (pc1 := 8) rfl ?_
  refine pm_getf rfl rfl rfl ?_
  refine pm_nm (y := nI m) hS ?_
  refine pm_go 2 (pc1 := 13) rfl ?_
  refine pm_cS [.int i, .int 0, .int (nI m - 1)] rfl rfl rfl rfl rfl (Nat.zero_le _) (Nat.zero_le _) m_within ?_
  rw [if_neg (fun z => hi ((within_iff (by omega)).mp z))]
  refine pm_if rfl (fun z => absurd rfl z) (fun _ => ?_)
  refine pm_go 1 (pc1 := 20) rfl ?_
  exact pm_iret rfl rfl rfl rfl
theorem m_alter {k : Nat} {v : Int32} (hS : SC 36 2 = nI m) (hm : m ≤ 64) (hk : k < m) : pm_call (d + 3) 135 [.ref 36, .int (nI k), .int v] (N, HC IA LA RA SC dr tl) (.inl (some (.int 1))) (N, HC (fgIA (va_up IA 37 (upd (IA 37) (128 + k) v)) 1) LA RA (rwSC (thr SC 0)) dr tl) 0 0 := by
  refine pm_callX jm_135 [(0, .ref 36), (1, .int (nI k)), (2, .int v)] rfl rfl rfl ?_
  refine pm_go 2 (pc1 := 2) rfl ?_
  refine pm_putU rfl rfl rfl rfl (hs_36_21 ..) ?_
  refine pm_go 3 (pc1 := 8) rfl ?_
  refine pm_getf rfl rfl rfl ?_
  refine pm_nm (y := nI m) hS ?_
  refine pm_go 2 (pc1 := 13) rfl ?_
  refine pm_cS [.int (nI k), .int 0, .int (nI m - 1)] rfl rfl rfl rfl rfl (Nat.zero_le _) (Nat.zero_le _) m_within ?_
  rw [if_pos ((within_iff (by omega)).mpr (by rw [nI_toInt (by omega)]; omega))]
  refine pm_if rfl (fun _ => ?_) (fun z => absurd (show ¬ (1 : Int32) = 0 by decide) z)
  refine pm_go 1 (pc1 := 22) rfl ?_
  refine pm_getf rfl rfl rfl ?_
  refine pm_go 4 (pc1 := 31) rfl ?_
  rw [show (128 : Int32) + nI k = nI (128 + k) from nI_add 128 k]
  refine pm_iastU (j := 128 + k) (n := 256) rfl rfl (cw_ti (by omega)) (by omega) (hi_37 ..) ?_
  refine pm_go 1 (pc1 := 33) rfl ?_
  refine pm_cV [] rfl rfl rfl rfl rfl rfl (Nat.zero_le _) (Nat.zero_le _) m_rewind ?_
  refine pm_go 1 (pc1 := 37) rfl ?_
  exact pm_iret rfl rfl rfl rfl
theorem m_wipe : pm_call (d + 3) 136 [.ref 36] (N, HC IA LA RA SC dr tl) (.inl (some (.int (SC 36 2)))) (N, HC (fgIA IA 1) LA RA (rwSC (rdW SC 0)) dr tl) 0 0 := by
  refine pm_callX jm_136 [(0, .ref 36)] rfl rfl rfl ?_
  refine pm_go 2 (pc1 := 2) rfl ?_
  refine pm_putU rfl rfl rfl rfl (hs_36_21 ..) ?_
  refine pm_go 1 (pc1 := 6) rfl ?_
  refine pm_getf rfl rfl rfl ?_
  refine pm_nm (y := SC 36 2) rfl ?_
  refine pm_go 3 (pc1 := 12) rfl ?_
  refine pm_putU rfl rfl rfl rfl (hs_36_2 ..) ?_
  refine pm_go 1 (pc1 := 16) rfl ?_
  refine pm_cV [] rfl rfl rfl rfl rfl rfl (Nat.zero_le _) (Nat.zero_le _) m_rewind ?_
  refine pm_go 1 (pc1 := 20) rfl ?_
  exact pm_iret rfl rfl rfl rfl
theorem m_value {v : Int32} (hS : SC 36 18 = nI m) (hm : m ≤ 16) : pm_call (d + 1) 115 [.ref 36, .int v] (N, HC IA LA RA SC dr tl) (.inl (some (.int (if v < 0 then -1 else if m = 16 then -2 else nI (m + 1))))) (N, if v < 0 ∨ m = 16 then HC IA LA RA (thr SC 0) dr tl else HC (va_up IA 52 (upd (IA 52) m v)) LA RA (va_up (thr SC 0) 36 (upd (thr SC 0 36) 18 (nI (m + 1)))) dr tl) 0 0 := by
  refine pm_callX jm_115 [(0, .ref 36), (1, .int v)] rfl rfl rfl ?_
  refine pm_go 2 (pc1 := 2) rfl ?_
  refine pm_putU rfl rfl rfl rfl (hs_36_21 ..) ?_
  refine pm_go 1 (pc1 := 6) rfl ?_
  refine pm_if rfl (fun z => ?_) (fun z => ?_)
  · have h0 : ¬ v < 0 := Int32.not_lt.mpr z
    rw [if_neg h0]
    refine pm_go 1 (pc1 := 12) rfl ?_
    refine pm_getf rfl rfl rfl ?_
    refine pm_nm (y := nI m) hS ?_
    refine pm_go 1 (pc1 := 17) rfl ?_
    refine pm_icmp rfl (fun z => ?_) (fun z => ?_)
    · have h1 : ¬ m = 16 := fun h => z (show nI m = 16 by rw [h]; rfl)
      rw [if_neg h1, if_neg (fun h => h.elim h0 h1)]
      refine pm_go 1 (pc1 := 24) rfl ?_
      refine pm_getf rfl rfl rfl ?_
      refine pm_go 1 (pc1 := 28) rfl ?_
      refine pm_getf rfl rfl rfl ?_
      refine pm_nm (y := nI m) hS ?_
      refine pm_go 1 (pc1 := 32) rfl ?_
      refine pm_iastU (j := m) (n := 16) rfl rfl (cw_ti (by omega)) (by omega) (hi_52 ..) ?_
      refine pm_go 2 (pc1 := 35) rfl ?_
      refine pm_getf rfl rfl rfl ?_
      refine pm_nm (y := nI m) hS ?_
      refine pm_go 2 (pc1 := 40) rfl ?_
      rw [nI_1]
      refine pm_putU rfl rfl rfl rfl (hs_36_18 ..) ?_
      refine pm_go 1 (pc1 := 44) rfl ?_
      refine pm_getf rfl rfl rfl ?_
      exact pm_iret rfl rfl rfl rfl
    · have h1 : m = 16 := (nI_eqI (b := 16) (by omega) (by omega)).mp (Classical.not_not.mp z)
      rw [if_pos h1, if_pos (Or.inr h1)]
      refine pm_go 1 (pc1 := 22) rfl ?_
      exact pm_iret rfl rfl rfl rfl
  · have h0 : v < 0 := Int32.not_le.mp z
    rw [if_pos h0, if_pos (Or.inl h0)]
    refine pm_go 1 (pc1 := 10) rfl ?_
    exact pm_iret rfl rfl rfl rfl
theorem m_op {k v : Int32} {kn vn : Nat} (hS : SC 36 16 = nI m) (hm : m ≤ 8) (hk : opOk k.toInt v.toInt → k = nI kn ∧ kn ≤ 3 ∧ (¬ kn = 3 → v = nI vn) ∧ (kn = 3 → vn = 0) ∧ vn < 2 ^ 31) : pm_call (d + 3) 114 [.ref 36, .int k, .int v] (N, HC IA LA RA SC dr tl) (.inl (some (.int (if opOk k.toInt v.toInt then if m = 8 then -2 else nI (m + 1) else -1)))) (N, if opOk k.toInt v.toInt ∧ m < 8 then HC IA (va_up LA 51 (vp_updL (LA 51) m (opL kn vn))) RA (va_up (thr SC 0) 36 (upd (thr SC 0 36) 16 (nI (m + 1)))) dr tl else HC IA LA RA (thr SC 0) dr tl) 0 0 := by
  refine pm_callX jm_114 [(0, .ref 36), (1, .int k), (2, .int v)] rfl rfl rfl ?_
  refine pm_go 2 (pc1 := 2) rfl ?_
  refine pm_putU rfl rfl rfl rfl (hs_36_21 ..) ?_
  refine pm_go 2 (pc1 := 7) rfl ?_
  refine pm_cS [.int k, .int v] rfl rfl rfl rfl rfl (Nat.zero_le _) (Nat.zero_le _) m_isOp ?_
  by_cases h : opOk k.toInt v.toInt
  · obtain ⟨rfl, e2, e3, e4, e5⟩ := hk h
    rw [if_pos h, if_pos h]
    refine pm_if rfl (fun _ => ?_) (fun z => absurd (show ¬ (1 : Int32) = 0 by decide) z)
    refine pm_go 1 (pc1 := 16) rfl ?_
    refine pm_getf rfl rfl rfl ?_
    refine pm_nm (y := nI m) hS ?_
    refine pm_go 1 (pc1 := 21) rfl ?_
    refine pm_icmp rfl (fun z => ?_) (fun z => ?_)
    · have h1 : ¬ m = 8 := fun h => z (show nI m = 8 by rw [h]; rfl)
      rw [if_neg h1, if_pos ⟨h, by omega⟩]
      refine pm_go 1 (pc1 := 28) rfl ?_
      refine pm_getf rfl rfl rfl ?_
      refine pm_go 1 (pc1 := 32) rfl ?_
      refine pm_getf rfl rfl rfl ?_
      refine pm_nm (y := nI m) hS ?_
      refine pm_go 2 (pc1 := 37) rfl ?_
      refine pm_cS [.int (nI kn), .int v] rfl rfl rfl rfl rfl (Nat.zero_le _) (Nat.zero_le _) (m_opOf (by omega) e3 e4 e5) ?_
      refine pm_lastU (j := m) (n := 8) rfl rfl (cw_ti (by omega)) (by omega) (hl_51 ..) ?_
      refine pm_go 2 (pc1 := 43) rfl ?_
      refine pm_getf rfl rfl rfl ?_
      refine pm_nm (y := nI m) hS ?_
      refine pm_go 2 (pc1 := 48) rfl ?_
      rw [nI_1]
      refine pm_putU rfl rfl rfl rfl (hs_36_16 ..) ?_
      refine pm_go 1 (pc1 := 52) rfl ?_
      refine pm_getf rfl rfl rfl ?_
      exact pm_iret rfl rfl rfl rfl
    · have h1 : m = 8 := (nI_eqI (b := 8) (by omega) (by omega)).mp (Classical.not_not.mp z)
      rw [if_pos h1, if_neg (fun h => by omega)]
      refine pm_go 1 (pc1 := 26) rfl ?_
      exact pm_iret rfl rfl rfl rfl
  · rw [if_neg h, if_neg h, if_neg (fun z => h z.1)]
    refine pm_if rfl (fun z => absurd rfl z) (fun _ => ?_)
    refine pm_go 1 (pc1 := 14) rfl ?_
    exact pm_iret rfl rfl rfl rfl
end MB
