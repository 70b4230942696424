/-! THE WRITER: records written -/
section WR7
variable {IA : Nat → Nat → Int32} {LA : Nat → Nat → Int64} {RA : Nat → Nat → Option Nat} {SC : Nat → Nat → Int32} {dr : Nat} {tl : Nat → va_E} {N d : Nat} {σ τ : (Nat → Int32) × Nat} {dp n bc bs : Nat} {K V : Nat → Int32} {kk vv : Nat → Nat} {r : pm_V} {h' : pm_H}
theorem hs_b2 {i : Nat} {x : Int32} (hi : i < 7) : va_up (HC IA LA RA SC dr tl) (9 + i) (.inr (1, [.int (SC (9 + i) 0), .int (SC (9 + i) 1), .int x, .int (SC (9 + i) 3), .int (SC (9 + i) 4)])) = HC IA LA RA (va_up SC (9 + i) (upd (SC (9 + i)) 2 x)) dr tl := by
  match i, hi with
  | 0, _ => exact hs_9_2 ..
  | 1, _ => exact hs_10_2 ..
  | 2, _ => exact hs_11_2 ..
  | 3, _ => exact hs_12_2 ..
  | 4, _ => exact hs_13_2 ..
  | 5, _ => exact hs_14_2 ..
  | 6, _ => exact hs_15_2 ..
theorem HW_14 {x : Int32} : va_up (HW IA LA RA SC dr tl σ) 1 (.inr (6, [.ref 2, .ref 4, .ref dr, .ref 19, .int x])) = HW IA LA RA (va_up SC 1 (upd (SC 1) 4 x)) dr tl σ := by
  refine (hs_1_4 ..).trans ?_
  show HC (va_up IA 3 σ.1) LA RA (va_up (va_up SC 2 (upd (SC 2) 1 (nI σ.2))) 1 (upd (SC 1) 4 x)) dr tl = HC (va_up IA 3 σ.1) LA RA (va_up (va_up SC 1 (upd (SC 1) 4 x)) 2 (upd (SC 2) 1 (nI σ.2))) dr tl
  rw [va_up_comm SC (by decide)]
theorem HW_19 {g : Nat → Int32} : va_up (HW IA LA RA SC dr tl σ) 19 (.inl (0, 17, .inl g)) = HW (va_up IA 19 g) LA RA SC dr tl σ := by
  refine (hi_19 ..).trans ?_
  show HC (va_up (va_up IA 3 σ.1) 19 g) LA RA _ dr tl = HC (va_up (va_up IA 19 g) 3 σ.1) LA RA _ dr tl
  rw [va_up_comm IA (by decide)]
theorem HW_b2 {i : Nat} {x : Int32} (hi : i < 7) : va_up (HW IA LA RA SC dr tl σ) (9 + i) (.inr (1, [.int (SC (9 + i) 0), .int (SC (9 + i) 1), .int x, .int (SC (9 + i) 3), .int (SC (9 + i) 4)])) = HW IA LA RA (va_up SC (9 + i) (upd (SC (9 + i)) 2 x)) dr tl σ := by
  have h := hs_b2 (IA := va_up IA 3 σ.1) (LA := LA) (RA := RA) (SC := va_up SC 2 (upd (SC 2) 1 (nI σ.2))) (dr := dr) (tl := tl) (i := i) (x := x) hi
  have e : va_up SC 2 (upd (SC 2) 1 (nI σ.2)) (9 + i) = SC (9 + i) := va_up_ne _ _ (by omega)
  rw [e, va_up_comm SC (show 2 ≠ 9 + i by omega)] at h
  refine h.trans ?_
  have e2 : va_up SC (9 + i) (upd (SC (9 + i)) 2 x) 2 = SC 2 := va_up_ne _ _ (by omega)
  show _ = HC (va_up IA 3 σ.1) LA RA (va_up (va_up SC (9 + i) (upd (SC (9 + i)) 2 x)) 2 (upd (va_up SC (9 + i) (upd (SC (9 + i)) 2 x) 2) 1 (nI σ.2))) dr tl
  rw [e2]
/-- from the room's test on -/
theorem c_rec_t5 {w E0 : Nat} (hD : SC 4 2 = nI (dp + 1)) (hd : dp + 1 ≤ 6) (hL : ∀ i, i < 7 → RA 5 i = some (9 + i)) (hw : SC (9 + (dp + 1)) 1 = nI w) (hw8 : w ≤ 8) (hE : τ.2 < 10000) (hE0 : E0 ≤ 2048)
    (hR : ¬ (τ.2 + w + 31) / 32 + dp ≤ 64) : pm_X (pm_call (d + 2)) jm_67 6 (some .int) (d + 2) bc bs 115 [(0, .ref 1), (3, .ref (9 + (dp + 1))), (5, .int (nI E0))] [] 0 0 (N, HW IA LA RA SC dr tl τ) (.inl (some (.int (-5)))) (N, HW IA LA RA SC dr tl (cw_cut τ.1 E0, E0)) := by
  have hQ := ns_HW (IA := IA) (LA := LA) (dr := dr) (tl := tl) hD hd hL
  refine pm_go 2 (pc1 := 117) rfl ?_
  refine pm_getf rfl ((hQ _).2.2.1 (dp + 1) (by omega)).2 rfl ?_
  refine pm_nm (y := nI w) hw ?_
  refine pm_go 1 (pc1 := 121) rfl ?_
  refine pm_getf rfl rfl rfl ?_
  refine pm_getf rfl rfl rfl ?_
  refine pm_nm (y := nI (dp + 1)) hD ?_
  refine pm_go 2 (pc1 := 129) rfl ?_
  rw [show nI (dp + 1) - 1 = nI dp from pk_sub (a := dp + 1) (b := 1) (by omega)]
  refine pm_cV [.int (nI w), .int (nI dp)] rfl rfl rfl rfl rfl rfl (Nat.zero_le _) (Nat.zero_le _) (w_room (by omega) (by omega) (by omega)) ?_
  rw [if_neg hR]
  refine pm_if rfl (fun z => absurd rfl z) (fun _ => ?_)
  refine pm_go 1 (pc1 := 136) rfl ?_
  refine pm_getf rfl rfl rfl ?_
  refine pm_go 1 (pc1 := 141) rfl ?_
  refine pm_cV [.int (nI E0)] rfl rfl rfl rfl rfl rfl (Nat.zero_le _) (Nat.zero_le _) (w_cut hE0) ?_
  refine pm_go 1 (pc1 := 146) rfl ?_
  exact pm_iret rfl rfl rfl rfl
theorem c_rec_t0 {w E0 : Nat} (hD : SC 4 2 = nI (dp + 1)) (hd : dp + 1 ≤ 6) (hL : ∀ i, i < 7 → RA 5 i = some (9 + i)) (hw : SC (9 + (dp + 1)) 1 = nI w) (hw8 : w ≤ 8) (hE : τ.2 < 10000) (hE0 : E0 ≤ τ.2)
    (hR : (τ.2 + w + 31) / 32 + dp ≤ 64) : pm_X (pm_call (d + 2)) jm_67 6 (some .int) (d + 2) bc bs 115 [(0, .ref 1), (3, .ref (9 + (dp + 1))), (5, .int (nI E0))] [] 0 0 (N, HW IA LA RA SC dr tl τ) (.inl (some (.int (nI (τ.2 - E0))))) (N, HW IA LA RA (va_up (if SC (9 + (dp + 1)) 0 = 0 then va_up SC (9 + (dp + 1)) (upd (SC (9 + (dp + 1))) 2 (IA 19 1)) else SC) 1 (upd (SC 1) 4 1)) dr tl τ) := by
  have hQ := ns_HW (IA := IA) (LA := LA) (dr := dr) (tl := tl) hD hd hL
  have hB := ((hQ τ).2.2.1 (dp + 1) (by omega)).2
  refine pm_go 2 (pc1 := 117) rfl ?_
  refine pm_getf rfl hB rfl ?_
  refine pm_nm (y := nI w) hw ?_
  refine pm_go 1 (pc1 := 121) rfl ?_
  refine pm_getf rfl rfl rfl ?_
  refine pm_getf rfl rfl rfl ?_
  refine pm_nm (y := nI (dp + 1)) hD ?_
  refine pm_go 2 (pc1 := 129) rfl ?_
  rw [show nI (dp + 1) - 1 = nI dp from pk_sub (a := dp + 1) (b := 1) (by omega)]
  refine pm_cV [.int (nI w), .int (nI dp)] rfl rfl rfl rfl rfl rfl (Nat.zero_le _) (Nat.zero_le _) (w_room (by omega) (by omega) (by omega)) ?_
  rw [if_pos hR]
  refine pm_if rfl (fun _ => ?_) (fun z => absurd (fun w => absurd (show (1 : Int32) = 0 from w) (by decide)) z)
  refine pm_go 1 (pc1 := 148) rfl ?_
  refine pm_getf rfl rfl rfl ?_
  refine pm_cV [] rfl rfl rfl rfl rfl rfl (Nat.zero_le _) (Nat.zero_le _) (c_isInInfo (hQ _)) ?_
  by_cases hI : SC (9 + (dp + 1)) 0 = 0
  · rw [if_pos hI, if_pos hI]
    refine pm_if rfl (fun z => absurd (show (1 : Int32) = 0 from z) (by decide)) (fun _ => ?_)
    refine pm_go 2 (pc1 := 159) rfl ?_
    refine pm_getf rfl rfl rfl ?_
    refine pm_go 1 (pc1 := 163) rfl ?_
    refine pm_iald (j := 1) rfl rfl rfl (by omega) ?_
    refine pm_nm (y := IA 19 1) rfl ?_
    refine pm_putU rfl hB rfl rfl (HW_b2 (by omega)) ?_
    refine pm_go 2 (pc1 := 169) rfl ?_
    refine pm_putU rfl rfl rfl rfl HW_14 ?_
    have e : va_up SC (9 + (dp + 1)) (upd (SC (9 + (dp + 1))) 2 (IA 19 1)) 1 = SC 1 := va_up_ne _ _ (by omega)
    rw [e]
    refine pm_go 1 (pc1 := 173) rfl ?_
    refine pm_getf rfl rfl rfl ?_
    refine pm_getf rfl rfl rfl ?_
    refine pm_nm (y := nI τ.2) (by rw [va_up_self, pk_us]) ?_
    refine pm_go 2 (pc1 := 182) rfl ?_
    rw [show nI τ.2 - nI E0 = nI (τ.2 - E0) from pk_sub hE0]
    exact pm_iret rfl rfl rfl rfl
  · rw [if_neg hI, if_neg hI]
    refine pm_if rfl (fun _ => ?_) (fun z => absurd rfl z)
    refine pm_go 2 (pc1 := 169) rfl ?_
    refine pm_putU rfl rfl rfl rfl HW_14 ?_
    refine pm_go 1 (pc1 := 173) rfl ?_
    refine pm_getf rfl rfl rfl ?_
    refine pm_getf rfl rfl rfl ?_
    refine pm_nm (y := nI τ.2) (by rw [va_up_self, pk_us]) ?_
    refine pm_go 2 (pc1 := 182) rfl ?_
    rw [show nI τ.2 - nI E0 = nI (τ.2 - E0) from pk_sub hE0]
    exact pm_iret rfl rfl rfl rfl
end WR7
