/-! THE READER: zeros up to a word's end -/
def zN (p : Nat) : Nat := (32 - p % 32) % 32
section RD3
variable {IA : Nat → Nat → Int32} {LA : Nat → Nat → Int64} {RA : Nat → Nat → Option Nat} {SC : Nat → Nat → Int32} {dr : Nat} {tl : Nat → va_E} {N d bc bs : Nat} {r : pm_V} {h' : pm_H}
theorem c_zeros_pre {p : Nat} (hP : SC 20 3 = nI p) (hp : p ≤ 2048)
    (k : pm_X (pm_call (d + 9)) jm_58 2 none (d + 9) bc bs 15 [(0, .ref 20), (1, .int (nI (zN p)))] [.int (nI (zN p))] 0 0 (N, HC IA LA RA SC dr tl) r h') : pm_call (d + 10) 58 [.ref 20] (N, HC IA LA RA SC dr tl) r h' bc bs := by
  refine pm_callX jm_58 [(0, .ref 20)] rfl rfl rfl ?_
  refine pm_go 2 (pc1 := 3) rfl ?_
  refine pm_getf rfl rfl rfl ?_
  refine pm_nm (y := nI p) hP ?_
  refine pm_go 2 (pc1 := 9) rfl ?_
  rw [cw_re (by omega)]
  refine pm_go 1 (pc1 := 10) rfl ?_
  rw [show (32 : Int32) - nI (p % 32) = nI (32 - p % 32) from pk_sub (a := 32) (by omega)]
  refine pm_go 2 (pc1 := 13) rfl ?_
  rw [cw_re (by omega)]
  refine pm_go 2 (pc1 := 15) rfl ?_
  exact pm_lv [(0, .ref 20), (1, .int (nI (zN p)))] rfl rfl k
theorem c_zeros0 {p : Nat} (hP : SC 20 3 = nI p) (hp : p ≤ 2048) (hz : zN p = 0) : pm_call (d + 10) 58 [.ref 20] (N, HC IA LA RA SC dr tl) (.inl none) (N, HC IA LA RA SC dr tl) 1 6 := by
  refine c_zeros_pre hP hp ?_
  rw [hz]
  refine pm_if rfl (fun _ => ?_) (fun z => absurd (nI_le (Nat.le_refl 0) (by omega)) z)
  exact pm_vret rfl rfl rfl rfl
theorem c_zeros {m p : Nat} (hS : SC 20 2 = nI m) (hm : m ≤ 64) (hP : SC 20 3 = nI p) (hp : p ≤ 32 * m) (hz : 0 < zN p) : pm_call (d + 10) 58 [.ref 20] (N, HC IA LA RA SC dr tl) (if tk (IA 33) p (zN p) = 0 then .inl none else .inr 0) (N, HC IA LA RA (va_up SC 20 (upd (SC 20) 3 (nI (p + zN p)))) dr tl) 1 6 := by
  have hz2 : zN p = (32 - p % 32) % 32 := rfl
  refine c_zeros_pre hP (by omega) ?_
  refine pm_if rfl (fun z => absurd ((nI_leI (a := zN p) (b := 0) (by omega) (by omega)).mp z) (by omega)) (fun _ => ?_)
  refine pm_go 2 (pc1 := 20) rfl ?_
  refine pm_cV [.int (nI (zN p))] rfl rfl rfl rfl rfl rfl (Nat.zero_le _) (Nat.zero_le _) (c_take hS hm hP hp (by omega) (by omega) (by omega)) ?_
  refine pm_if rfl (fun z => ?_) (fun z => ?_)
  · exact pm_vret rfl rfl (by rw [if_pos (show tk (IA 33) p (zN p) = 0 from z)]) rfl
  · exact pm_thr rfl rfl (by omega) rfl (by decide) (by decide) (if_neg (show ¬ tk (IA 33) p (zN p) = 0 from z)) rfl
end RD3
