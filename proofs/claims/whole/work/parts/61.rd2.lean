/-! THE READER: so many bits -/
/-- n bits of a row from bit p on -/
def tk (g : Nat → Int32) (p n : Nat) : Int32 :=
  let x0 := ((g (p / 32)).toUInt32 >>> ((nI (p % 32)).toUInt32 &&& Int32.toUInt32 31)).toInt32
  let x := if p % 32 + n ≤ 32 then x0 else x0 ||| g (p / 32 + 1) <<< (nI (32 - p % 32) &&& 31)
  if 32 ≤ n then x else x &&& ((1 : Int32) <<< (nI n &&& 31) - 1)
section RD2
variable {IA : Nat → Nat → Int32} {LA : Nat → Nat → Int64} {RA : Nat → Nat → Option Nat} {SC : Nat → Nat → Int32} {dr : Nat} {tl : Nat → va_E} {N d : Nat}
theorem c_takeX {m p n : Nat} (hS : SC 20 2 = nI m) (hm : m ≤ 64) (hP : SC 20 3 = nI p) (hp : p ≤ 32 * m) (hn : n ≤ 32) (hx : 32 * m - p < n) : pm_call (d + 9) 55 [.ref 20, .int (nI n)] (N, HC IA LA RA SC dr tl) (.inr 0) (N, HC IA LA RA SC dr tl) 1 6 := by
  refine pm_callX jm_55 [(0, .ref 20), (1, .int (nI n))] rfl rfl rfl ?_
  refine pm_go 2 (pc1 := 2) rfl ?_
  refine pm_getf rfl rfl rfl ?_
  refine pm_nm (y := nI m) hS ?_
  refine pm_go 3 (pc1 := 9) rfl ?_
  rw [show nI m * 32 = nI (m * 32) from pk_mul m 32]
  refine pm_getf rfl rfl rfl ?_
  refine pm_nm (y := nI p) hP ?_
  refine pm_go 1 (pc1 := 13) rfl ?_
  rw [show nI (m * 32) - nI p = nI (m * 32 - p) from pk_sub (by omega)]
  refine pm_icmp rfl (fun z => absurd ((nI_leI (by omega) (by omega)).mp z) (by omega)) (fun _ => ?_)
  exact pm_thr rfl rfl (by omega) rfl (by decide) (by decide) rfl rfl
theorem c_take {m p n : Nat} (hS : SC 20 2 = nI m) (hm : m ≤ 64) (hP : SC 20 3 = nI p) (hp : p ≤ 32 * m) (hn1 : 1 ≤ n) (hn : n ≤ 32) (hx : n ≤ 32 * m - p) : pm_call (d + 1) 55 [.ref 20, .int (nI n)] (N, HC IA LA RA SC dr tl) (.inl (some (.int (tk (IA 33) p n)))) (N, HC IA LA RA (va_up SC 20 (upd (SC 20) 3 (nI (p + n)))) dr tl) 0 0 := by
  refine pm_callX jm_55 [(0, .ref 20), (1, .int (nI n))] rfl rfl rfl ?_
  refine pm_go 2 (pc1 := 2) rfl ?_
  refine pm_getf rfl rfl rfl ?_
  refine pm_nm (y := nI m) hS ?_
  refine pm_go 3 (pc1 := 9) rfl ?_
  rw [show nI m * 32 = nI (m * 32) from pk_mul m 32]
  refine pm_getf rfl rfl rfl ?_
  refine pm_nm (y := nI p) hP ?_
  refine pm_go 1 (pc1 := 13) rfl ?_
  rw [show nI (m * 32) - nI p = nI (m * 32 - p) from pk_sub (by omega)]
  refine pm_icmp rfl (fun _ => ?_) (fun z => absurd ((nI_leI (by omega) (by omega)).mpr (by omega)) z)
  refine pm_go 1 (pc1 := 27) rfl ?_
  refine pm_getf rfl rfl rfl ?_
  refine pm_nm (y := nI p) hP ?_
  refine pm_go 2 (pc1 := 33) rfl ?_
  rw [cw_di (by omega)]
  refine pm_go 2 (pc1 := 35) rfl ?_
  refine pm_getf rfl rfl rfl ?_
  refine pm_nm (y := nI p) hP ?_
  refine pm_go 2 (pc1 := 41) rfl ?_
  rw [cw_re (by omega)]
  refine pm_go 2 (pc1 := 43) rfl ?_
  refine pm_getf rfl rfl rfl ?_
  refine pm_go 1 (pc1 := 47) rfl ?_
  refine pm_iald (j := p / 32) rfl rfl (cw_ti (by omega)) (by omega) ?_
  have hfin : ∀ x : Int32, x = (if p % 32 + n ≤ 32 then ((IA 33 (p / 32)).toUInt32 >>> ((nI (p % 32)).toUInt32 &&& Int32.toUInt32 31)).toInt32 else ((IA 33 (p / 32)).toUInt32 >>> ((nI (p % 32)).toUInt32 &&& Int32.toUInt32 31)).toInt32 ||| IA 33 (p / 32 + 1) <<< (nI (32 - p % 32) &&& 31)) → pm_X (pm_call d) jm_55 5 (some .int) d 0 0 78 [(0, .ref 20), (1, .int (nI n)), (4, .int x)] [] 0 0 (N, HC IA LA RA SC dr tl) (.inl (some (.int (tk (IA 33) p n)))) (N, HC IA LA RA (va_up SC 20 (upd (SC 20) 3 (nI (p + n)))) dr tl) := by
    intro x hxe
    refine pm_go 2 (pc1 := 80) rfl ?_
    refine pm_getf rfl rfl rfl ?_
    refine pm_nm (y := nI p) hP ?_
    refine pm_go 2 (pc1 := 85) rfl ?_
    rw [nI_add]
    refine pm_putU rfl rfl rfl rfl (hs_20_3 ..) ?_
    refine pm_go 2 (pc1 := 91) rfl ?_
    refine pm_icmp rfl (fun z => ?_) (fun z => ?_)
    · have hz : 32 ≤ n := (nI_leI (a := 32) (by omega) (by omega)).mp z
      refine pm_go 1 (pc1 := 107) rfl ?_
      exact pm_iret rfl rfl (by unfold tk; rw [if_pos hz, ← hxe]) rfl
    · have hz : ¬ 32 ≤ n := fun w => z ((nI_leI (a := 32) (by omega) (by omega)).mpr w)
      refine pm_go 8 (pc1 := 107) rfl ?_
      exact pm_iret rfl rfl (by unfold tk; rw [if_neg hz, ← hxe]) rfl
  refine pm_go 3 (pc1 := 52) rfl ?_
  refine pm_go 3 (pc1 := 55) rfl ?_
  rw [nI_add]
  refine pm_go 1 (pc1 := 57) rfl ?_
  refine pm_icmp rfl (fun z => ?_) (fun z => ?_)
  · have hz : p % 32 + n ≤ 32 := (nI_leI (b := 32) (by omega) (by omega)).mp z
    refine pm_lv [(0, .ref 20), (1, .int (nI n)), (4, .int _)] rfl rfl (hfin _ ?_)
    rw [if_pos hz]
  · have hz : ¬ p % 32 + n ≤ 32 := fun w => z ((nI_leI (b := 32) (by omega) (by omega)).mpr w)
    refine pm_go 2 (pc1 := 63) rfl ?_
    refine pm_getf rfl rfl rfl ?_
    refine pm_go 3 (pc1 := 69) rfl ?_
    rw [nI_1]
    refine pm_iald (j := p / 32 + 1) rfl rfl (cw_ti (by omega)) (by omega) ?_
    refine pm_go 3 (pc1 := 74) rfl ?_
    rw [show (32 : Int32) - nI (p % 32) = nI (32 - p % 32) from pk_sub (a := 32) (by omega)]
    refine pm_go 3 (pc1 := 78) rfl ?_
    refine pm_lv [(0, .ref 20), (1, .int (nI n)), (4, .int _)] rfl rfl (hfin _ ?_)
    rw [if_neg hz]
end RD2
