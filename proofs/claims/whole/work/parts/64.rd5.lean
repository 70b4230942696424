/-! THE READER: a record shown, a target taken -/
section RD5
variable {IA : Nat → Nat → Int32} {LA : Nat → Nat → Int64} {RA : Nat → Nat → Option Nat} {SC : Nat → Nat → Int32} {dr : Nat} {tl : Nat → va_E} {N d dp : Nat}
def shR (IA : Nat → Nat → Int32) (x : Int32) (t : Nat) : Nat → Int32 := va_cpy (IA 34) (upd (upd (upd (IA 35) 0 (IA 34 0)) 1 x) 2 (nI (t - 1))) 1 3 (t - 1)
theorem c_showRecord {x : Int32} {t : Nat} (ht : 1 ≤ t) (ht2 : t ≤ 17) : pm_call (d + 2) 54 [.ref 20, .int x, .int (nI t)] (N, HC IA LA RA SC dr tl) (.inl (some (.int 4))) (N, HC (va_up IA 35 (shR IA x t)) LA RA (va_up SC 20 (upd (SC 20) 7 (nI (t + 2)))) dr tl) 0 0 := by
  refine pm_callX jm_54 [(0, .ref 20), (1, .int x), (2, .int (nI t))] rfl rfl rfl ?_
  refine pm_go 1 (pc1 := 1) rfl ?_
  refine pm_getf rfl rfl rfl ?_
  refine pm_go 2 (pc1 := 6) rfl ?_
  refine pm_getf rfl rfl rfl ?_
  refine pm_go 1 (pc1 := 10) rfl ?_
  refine pm_iald (j := 0) rfl rfl rfl (by omega) ?_
  refine pm_iastU (j := 0) rfl rfl rfl (by omega) (hi_35 ..) ?_
  refine pm_go 1 (pc1 := 13) rfl ?_
  refine pm_getf rfl rfl rfl ?_
  refine pm_go 2 (pc1 := 18) rfl ?_
  refine pm_iastU (j := 1) rfl rfl rfl (by omega) (hi_35 ..) ?_
  refine pm_go 1 (pc1 := 20) rfl ?_
  refine pm_getf rfl rfl rfl ?_
  refine pm_go 4 (pc1 := 27) rfl ?_
  rw [show nI t - 1 = nI (t - 1) from pk_sub (b := 1) ht]
  refine pm_iastU (j := 2) rfl rfl rfl (by omega) (hi_35 ..) ?_
  refine pm_go 1 (pc1 := 29) rfl ?_
  refine pm_getf rfl rfl rfl ?_
  refine pm_go 2 (pc1 := 34) rfl ?_
  refine pm_getf rfl rfl rfl ?_
  refine pm_go 4 (pc1 := 41) rfl ?_
  rw [show nI t - 1 = nI (t - 1) from pk_sub (b := 1) ht]
  refine pm_acpy (sj := 1) (dj := 3) (ln := t - 1) rfl rfl rfl rfl rfl (cw_ti (by omega)) (by omega) (by omega) (by omega) rfl (hi_35 ..) ?_
  refine pm_go 4 (pc1 := 48) rfl ?_
  rw [show nI t + 2 = nI (t + 2) from nI_add t 2]
  refine pm_putU rfl rfl rfl rfl (hs_20_7 ..) ?_
  refine pm_go 1 (pc1 := 52) rfl ?_
  refine pm_iret rfl rfl rfl ?_
  simp only [va_up_self, va_up2]
  rfl
theorem hs_c2 {i : Nat} {x : Int32} (hi : i < 7) : va_up (HC IA LA RA SC dr tl) (26 + i) (.inr (1, [.int (SC (26 + i) 0), .int (SC (26 + i) 1), .int x, .int (SC (26 + i) 3), .int (SC (26 + i) 4)])) = HC IA LA RA (va_up SC (26 + i) (upd (SC (26 + i)) 2 x)) dr tl := by
  match i, hi with
  | 0, _ => exact hs_26_2 ..
  | 1, _ => exact hs_27_2 ..
  | 2, _ => exact hs_28_2 ..
  | 3, _ => exact hs_29_2 ..
  | 4, _ => exact hs_30_2 ..
  | 5, _ => exact hs_31_2 ..
  | 6, _ => exact hs_32_2 ..
theorem c_target {t i : Nat} (ht : t < 2 ^ 31) (hi : i < 7) (hD : SC 21 2 = nI dp) (hd : dp ≤ 6) (hL : ∀ i, i < 7 → RA 22 i = some (26 + i)) (hT : nmT (IA 34) t) : pm_call (d + 2) 53 [.ref 20, .ref (26 + i), .int (nI t)] (N, HC IA LA RA SC dr tl) (.inl none) (N, HC IA LA RA (va_up SC (26 + i) (upd (SC (26 + i)) 2 (IA 34 1))) dr tl) 0 0 := by
  have hQ := ns_HCr (IA := IA) (LA := LA) (dr := dr) (tl := tl) hD hd hL
  refine pm_callX jm_53 [(0, .ref 20), (1, .ref (26 + i)), (2, .int (nI t))] rfl rfl rfl ?_
  refine pm_go 1 (pc1 := 1) rfl ?_
  refine pm_getf rfl rfl rfl ?_
  refine pm_go 1 (pc1 := 5) rfl ?_
  refine pm_cS [.ref 34, .int (nI t)] rfl rfl rfl rfl rfl (Nat.le_refl _) (Nat.le_refl _) (c_namesTarget (W := IA 34) (ln := 17) rfl (by omega) (by omega) ht) ?_
  rw [if_pos hT]
  refine pm_if rfl (fun _ => ?_) (fun z => absurd (fun w => absurd (show (1 : Int32) = 0 from w) (by decide)) z)
  refine pm_go 2 (pc1 := 23) rfl ?_
  refine pm_getf rfl rfl rfl ?_
  refine pm_go 1 (pc1 := 27) rfl ?_
  refine pm_iald (j := 1) rfl rfl rfl (by omega) ?_
  refine pm_putU rfl (hQ.2.2.1 i hi).2 rfl rfl (hs_c2 hi) ?_
  exact pm_vret rfl rfl rfl rfl
theorem c_targetX {t i : Nat} (ht : t < 2 ^ 31) (hT : ¬ nmT (IA 34) t) : pm_call (d + 9) 53 [.ref 20, .ref (26 + i), .int (nI t)] (N, HC IA LA RA SC dr tl) (.inr 0) (N, HC IA LA RA SC dr tl) 1 6 := by
  refine pm_callX jm_53 [(0, .ref 20), (1, .ref (26 + i)), (2, .int (nI t))] rfl rfl rfl ?_
  refine pm_go 1 (pc1 := 1) rfl ?_
  refine pm_getf rfl rfl rfl ?_
  refine pm_go 1 (pc1 := 5) rfl ?_
  refine pm_cS [.ref 34, .int (nI t)] rfl rfl rfl rfl rfl (Nat.zero_le _) (Nat.zero_le _) (c_namesTarget (W := IA 34) (ln := 17) rfl (by omega) (by omega) ht) ?_
  rw [if_neg hT]
  refine pm_if rfl (fun z => absurd rfl z) (fun _ => ?_)
  exact pm_thr rfl rfl (by omega) rfl (by decide) (by decide) rfl rfl
end RD5
