/-! THE MODEL'S READER: bits, numbers in chunks, zeros -/
abbrev HM (IA : Nat → Nat → Int32) (LA : Nat → Nat → Int64) (RA : Nat → Nat → Option Nat) (SC : Nat → Nat → Int32) (dr : Nat) (tl : Nat → va_E) (p b : Nat) (rd : Nat → Int32) : Nat → va_E := HC (va_up (va_up IA 38 (upd (IA 38) 1 (nI p))) 54 rd) LA RA (va_up SC 36 (upd (SC 36) 19 (nI b))) dr tl
abbrev gR (IA : Nat → Nat → Int32) : Nat → Int32 := fun k => IA 37 (128 + k)
theorem and1 (y : Int32) : y &&& 1 = nI (if bt y 0 = true then 1 else 0) := by
  apply b_ext
  intro k hk
  rw [b_and, bt_1, bt_nI _ _ hk]
  by_cases h : k = 0
  · subst h
    by_cases hb : bt y 0 = true
    · rw [if_pos hb, hb]; rfl
    · rw [if_neg hb, Bool.eq_false_iff.mpr hb]; rfl
  · rw [decide_eq_false h, Bool.and_false]
    split
    · rw [Nat.testBit_lt_two_pow (show 1 < 2 ^ k from Nat.one_lt_two_pow h)]
    · rw [Nat.zero_testBit]
section MRD
variable {IA : Nat → Nat → Int32} {LA : Nat → Nat → Int64} {RA : Nat → Nat → Option Nat} {SC : Nat → Nat → Int32} {dr : Nat} {tl : Nat → va_E} {N d m p b : Nat} {rd : Nat → Int32}
theorem HM_place {x : Nat} : va_up (HM IA LA RA SC dr tl p b rd) 38 (.inl (0, 2, .inl (upd (upd (IA 38) 1 (nI p)) 1 (nI x)))) = HM IA LA RA SC dr tl x b rd := by
  refine (hi_38 ..).trans ?_
  show HC (va_up (va_up (va_up IA 38 _) 54 rd) 38 _) LA RA _ dr tl = _
  rw [va_up_swap _ (by decide), cw_uu]
theorem HM_bad : va_up (HM IA LA RA SC dr tl p b rd) 36 (.inr (8, [.ref 37, .ref 38, .int (SC 36 2), .ref 39, .ref 40, .ref 41, .ref 42, .ref 43, .ref 44, .ref 45, .ref 46, .ref 47, .ref 48, .ref 49, .ref 50, .ref 51, .int (SC 36 16), .ref 52, .int (SC 36 18), .int 1, .int (SC 36 20), .int (SC 36 21), .int (SC 36 22), .ref 53, .ref 54])) = HM IA LA RA SC dr tl p 1 rd := by
  refine (hs_36_19 ..).trans ?_
  show HC _ LA RA (va_up (va_up SC 36 _) 36 (upd (upd (SC 36) 19 _) 19 1)) dr tl = _
  rw [va_up2, cw_uu]
  rfl
theorem HM_read {g : Nat → Int32} : va_up (HM IA LA RA SC dr tl p b rd) 54 (.inl (0, 20, .inl g)) = HM IA LA RA SC dr tl p b g := by
  refine (hi_54 ..).trans ?_
  show HC (va_up (va_up _ 54 rd) 54 g) LA RA _ dr tl = _
  rw [va_up2]
theorem m_must {x : Int32} : pm_call (d + 1) 137 [.ref 36, .int x] (N, HM IA LA RA SC dr tl p b rd) (.inl none) (N, HM IA LA RA SC dr tl p (if x = 0 then 1 else b) rd) 0 0 := by
  refine pm_callX jm_137 [(0, .ref 36), (1, .int x)] rfl rfl rfl ?_
  refine pm_go 1 (pc1 := 1) rfl ?_
  refine pm_if rfl (fun z => ?_) (fun z => ?_)
  · exact pm_vret rfl rfl rfl (by rw [if_neg (show ¬ x = 0 from z)])
  · refine pm_go 2 (pc1 := 6) rfl ?_
    refine pm_putU rfl rfl rfl rfl HM_bad ?_
    exact pm_vret rfl rfl rfl (by rw [if_pos (show x = 0 from Classical.not_not.mp z)])
theorem m_gb_loop {n p0 : Nat} (hn : n ≤ 32) (hx : p0 + n ≤ 2048) : ∀ (j k : Nat), k + j = n → pm_X (pm_call d) jm_138 5 (some .int) d 0 0 29 [(0, .ref 36), (1, .int (nI n)), (2, .int (nI (rdN (gR IA) p0 k))), (3, .int (nI k))] [] 0 0 (N, HM IA LA RA SC dr tl (p0 + k) b rd) (.inl (some (.int (nI (rdN (gR IA) p0 n))))) (N, HM IA LA RA SC dr tl (p0 + n) b rd) := by
  intro j
  induction j with
  | zero =>
    intro k hk
    have e : k = n := by omega
    subst e
    refine pm_go 2 (pc1 := 31) rfl ?_
    refine pm_icmp rfl (fun _ => ?_) (fun z => absurd ((nI_leI (by omega) (by omega)).mpr (Nat.le_refl _)) z)
    refine pm_go 1 (pc1 := 86) rfl ?_
    exact pm_iret rfl rfl rfl rfl
  | succ j ih =>
    intro k hk
    refine pm_go 2 (pc1 := 31) rfl ?_
    refine pm_icmp rfl (fun z => absurd ((nI_leI (by omega) (by omega)).mp z) (by omega)) (fun _ => ?_)
    refine pm_go 1 (pc1 := 35) rfl ?_
    refine pm_getf rfl rfl rfl ?_
    refine pm_go 1 (pc1 := 39) rfl ?_
    refine pm_iald (j := 1) rfl rfl rfl (by omega) ?_
    refine pm_nm (y := nI (p0 + k)) rfl ?_
    refine pm_go 3 (pc1 := 44) rfl ?_
    refine pm_getf rfl rfl rfl ?_
    refine pm_go 4 (pc1 := 55) rfl ?_
    rw [cw_di (by omega)]
    refine pm_go 1 (pc1 := 56) rfl ?_
    rw [show (128 : Int32) + nI ((p0 + k) / 32) = nI (128 + (p0 + k) / 32) from nI_add 128 _]
    refine pm_iald (j := 128 + (p0 + k) / 32) rfl rfl (cw_ti (by omega)) (by omega) ?_
    refine pm_go 3 (pc1 := 62) rfl ?_
    rw [cw_re (by omega)]
    refine pm_go 3 (pc1 := 65) rfl ?_
    have h32 : (p0 + k) % 32 < 32 := Nat.mod_lt _ (by omega)
    rw [and1, b_sshr _ h32 _ (by omega), Nat.add_zero, if_pos h32]
    have hsb : bt (IA 37 (128 + (p0 + k) / 32)) ((p0 + k) % 32) = sb (gR IA) (p0 + k) := rfl
    refine pm_nm (y := nI (if sb (gR IA) (p0 + k) = true then 1 else 0)) (by rw [← hsb]; rfl) ?_
    refine pm_go 2 (pc1 := 67) rfl ?_
    have hlt := rdN_lt (gR IA) p0 k
    have hpw : 2 ^ k ≤ 2 ^ 31 := Nat.pow_le_pow_right (by omega) (by omega)
    refine pm_go 2 (pc1 := 69) rfl ?_
    have hv : nI (rdN (gR IA) p0 k) ||| nI (if sb (gR IA) (p0 + k) = true then 1 else 0) <<< (nI k &&& 31) = nI (rdN (gR IA) p0 (k + 1)) := by
      rw [pk_shlN (nI k &&& 31) k (s_l k (by omega)) (by split <;> omega)]
      show _ = nI (rdN (gR IA) p0 k + if sb (gR IA) (p0 + k) = true then 2 ^ k else 0)
      by_cases hb : sb (gR IA) (p0 + k) = true
      · rw [if_pos hb, if_pos hb, Nat.one_mul, ny_or hlt]
      · rw [if_neg hb, if_neg hb, Nat.zero_mul, Nat.add_zero, nx_or, Nat.or_zero]
    rw [hv]
    refine pm_go 1 (pc1 := 70) rfl ?_
    refine pm_getf rfl rfl rfl ?_
    refine pm_go 2 (pc1 := 75) rfl ?_
    refine pm_iald (j := 1) rfl rfl rfl (by omega) ?_
    refine pm_nm (y := nI (p0 + k)) rfl ?_
    refine pm_go 2 (pc1 := 78) rfl ?_
    rw [nI_1]
    refine pm_iastU (j := 1) rfl rfl rfl (by omega) HM_place ?_
    refine pm_go 2 (pc1 := 29) rfl ?_
    rw [nI_1]
    exact pm_lv [(0, .ref 36), (1, .int (nI n)), (2, .int (nI (rdN (gR IA) p0 (k + 1)))), (3, .int (nI (k + 1)))] rfl rfl (ih (k + 1) (by omega))
theorem m_gb_pre {n : Nat} {r : pm_V} {h' : pm_H} (hS : SC 36 2 = nI m) (k : pm_X (pm_call d) jm_138 5 (some .int) d 0 0 17 [(0, .ref 36), (1, .int (nI n)), (2, .int 0)] [.int (nI (32 * m)), .int (nI (p + n))] 0 0 (N, HM IA LA RA SC dr tl p b rd) r h') : pm_call (d + 1) 138 [.ref 36, .int (nI n)] (N, HM IA LA RA SC dr tl p b rd) r h' 0 0 := by
  refine pm_callX jm_138 [(0, .ref 36), (1, .int (nI n))] rfl rfl rfl ?_
  refine pm_go 3 (pc1 := 3) rfl ?_
  refine pm_getf rfl rfl rfl ?_
  refine pm_go 1 (pc1 := 7) rfl ?_
  refine pm_iald (j := 1) rfl rfl rfl (by omega) ?_
  refine pm_nm (y := nI p) rfl ?_
  refine pm_go 2 (pc1 := 10) rfl ?_
  rw [nI_add]
  refine pm_go 2 (pc1 := 13) rfl ?_
  refine pm_getf rfl rfl rfl ?_
  refine pm_nm (y := nI m) hS ?_
  refine pm_go 1 (pc1 := 17) rfl ?_
  rw [show (32 : Int32) * nI m = nI (32 * m) from pk_mul 32 m]
  exact pm_lv [(0, .ref 36), (1, .int (nI n)), (2, .int 0)] rfl rfl k
theorem m_getBits {n : Nat} (hS : SC 36 2 = nI m) (hm : m ≤ 64) (hn : n ≤ 32) (hx : p + n ≤ 32 * m) : pm_call (d + 1) 138 [.ref 36, .int (nI n)] (N, HM IA LA RA SC dr tl p b rd) (.inl (some (.int (nI (rdN (gR IA) p n))))) (N, HM IA LA RA SC dr tl (p + n) b rd) 0 0 := by
  refine m_gb_pre hS ?_
  refine pm_icmp rfl (fun _ => ?_) (fun z => absurd ((nI_leI (by omega) (by omega)).mpr hx) z)
  refine pm_go 2 (pc1 := 29) rfl ?_
  exact pm_lv [(0, .ref 36), (1, .int (nI n)), (2, .int (nI (rdN (gR IA) p 0))), (3, .int (nI 0))] rfl rfl (m_gb_loop hn (by omega) n 0 (by omega))
theorem m_getBitsX {n : Nat} (hS : SC 36 2 = nI m) (hm : m ≤ 64) (hp : p ≤ 32 * m) (hn : n ≤ 32) (hx : ¬ p + n ≤ 32 * m) : pm_call (d + 1) 138 [.ref 36, .int (nI n)] (N, HM IA LA RA SC dr tl p b rd) (.inl (some (.int 0))) (N, HM IA LA RA SC dr tl p 1 rd) 0 0 := by
  refine m_gb_pre hS ?_
  refine pm_icmp rfl (fun z => absurd ((nI_leI (by omega) (by omega)).mp z) hx) (fun _ => ?_)
  refine pm_go 2 (pc1 := 22) rfl ?_
  refine pm_putU rfl rfl rfl rfl HM_bad ?_
  refine pm_go 1 (pc1 := 26) rfl ?_
  exact pm_iret rfl rfl rfl rfl
end MRD
