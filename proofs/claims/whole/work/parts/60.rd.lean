/-! THE READER: its words, going back; THE WRITER anew -/
section RD
variable {IA : Nat → Nat → Int32} {LA : Nat → Nat → Int64} {RA : Nat → Nat → Option Nat} {SC : Nat → Nat → Int32} {dr : Nat} {tl : Nat → va_E} {N d : Nat} {dp n : Nat} {K V : Nat → Int32}
theorem ns_HCr (hD : SC 21 2 = nI dp) (hd : dp ≤ 6) (hL : ∀ i, i < 7 → RA 22 i = some (26 + i)) : nsAt (HC IA LA RA SC dr tl) 21 dp (fun i => SC (26 + i)) (RA 22) (RA 24) (IA 25) := by
  refine ⟨?_, rfl, ?_, ⟨rfl, rfl, rfl⟩, hd⟩
  · show (Sum.inr (4, [.ref 22, .ref 23, .int (SC 21 2)]) : va_E) = _
    rw [hD]
  · intro i hi
    refine ⟨hL i hi, ?_⟩
    match i, hi with
    | 0, _ => rfl
    | 1, _ => rfl
    | 2, _ => rfl
    | 3, _ => rfl
    | 4, _ => rfl
    | 5, _ => rfl
    | 6, _ => rfl
def goSC (SC : Nat → Nat → Int32) : Nat → Nat → Int32 := va_up (va_up SC 21 (upd (SC 21) 2 (nI 0))) 20 (upd (upd (upd (SC 20) 3 0) 4 0) 7 0)
theorem c_goBack (hD : SC 21 2 = nI dp) (hd : dp ≤ 6) (hL : ∀ i, i < 7 → RA 22 i = some (26 + i)) : pm_call (d + 3) 38 [.ref 20] (N, HC IA LA RA SC dr tl) (.inl none) (N, HC (va_up IA 25 (frZk (IA 25) 71)) LA RA (goSC SC) dr tl) 0 0 := by
  have hQ := ns_HCr (IA := IA) (LA := LA) (dr := dr) (tl := tl) hD hd hL
  have e : va_up (nsD (HC IA LA RA SC dr tl) 21 0) (21 + 4) (.inl (0, 71, .inl (frZk (IA 25) 71))) = HC (va_up IA 25 (frZk (IA 25) 71)) LA RA (va_up SC 21 (upd (SC 21) 2 (nI 0))) dr tl := by
    refine (congrArg (fun z => va_up z 25 _) (hs_21_2 ..)).trans ?_
    exact hi_25 ..
  refine pm_callX jm_38 [(0, .ref 20)] rfl rfl rfl ?_
  refine pm_go 1 (pc1 := 1) rfl ?_
  refine pm_getf rfl rfl rfl ?_
  refine pm_cV [] rfl rfl rfl rfl rfl rfl (Nat.le_refl _) (Nat.le_refl _) (c_startAnew hQ) ?_
  rw [e]
  refine pm_go 2 (pc1 := 9) rfl ?_
  refine pm_putU rfl rfl rfl rfl (hs_20_3 ..) ?_
  refine pm_go 2 (pc1 := 14) rfl ?_
  refine pm_putU rfl rfl rfl rfl (hs_20_4 ..) ?_
  refine pm_go 2 (pc1 := 19) rfl ?_
  refine pm_putU rfl rfl rfl rfl (hs_20_7 ..) ?_
  refine pm_vret rfl rfl rfl ?_
  simp only [va_up_self, va_up2]
  rfl
theorem c_writerAnew (hE : dp ≤ 6) (hD : SC 4 2 = nI dp) (hL : ∀ i, i < 7 → RA 5 i = some (9 + i)) (hq : okq dr) (h : fmAt tl dr n K V) : pm_call (d + 3) 60 [.ref 1] (N, HC IA LA RA SC dr tl) (.inl none) (N, HC (va_up (va_up IA 3 (cw_cut (IA 3) 0)) 8 (frZk (IA 8) 71)) LA RA (va_up (va_up (va_up SC 2 (upd (SC 2) 1 (nI 0))) 4 (upd (SC 4) 2 (nI 0))) 1 (upd (SC 1) 4 1)) dr (va_up tl dr (.inr (2, [.ref (dr + 1), .ref (dr + 2), .int 0])))) 0 0 := by
  have hQ := ns_HC (IA := va_up IA 3 (cw_cut (IA 3) 0)) (LA := LA) (dr := dr) (tl := tl) (SC := va_up SC 2 (upd (SC 2) 1 (nI 0))) (RA := RA) (dp := dp) hD hE hL
  have e : va_up (nsD (HC (va_up IA 3 (cw_cut (IA 3) 0)) LA RA (va_up SC 2 (upd (SC 2) 1 (nI 0))) dr tl) 4 0) (4 + 4) (.inl (0, 71, .inl (frZk (IA 8) 71))) = HC (va_up (va_up IA 3 (cw_cut (IA 3) 0)) 8 (frZk (IA 8) 71)) LA RA (va_up (va_up SC 2 (upd (SC 2) 1 (nI 0))) 4 (upd (SC 4) 2 (nI 0))) dr tl := by
    refine (congrArg (fun z => va_up z 8 _) (hs_4_2 ..)).trans ?_
    exact hi_8 ..
  refine pm_callX jm_60 [(0, .ref 1)] rfl rfl rfl ?_
  refine pm_go 1 (pc1 := 1) rfl ?_
  refine pm_getf rfl rfl rfl ?_
  refine pm_go 1 (pc1 := 5) rfl ?_
  refine pm_cV [.int (nI 0)] rfl rfl rfl rfl rfl rfl (Nat.le_refl _) (Nat.le_refl _) (c_cutTo (by omega)) ?_
  refine pm_go 1 (pc1 := 9) rfl ?_
  refine pm_getf rfl rfl rfl ?_
  refine pm_cV [] rfl rfl rfl rfl rfl rfl (Nat.le_refl _) (Nat.le_refl _) (c_startAnew hQ) ?_
  refine pm_go 1 (pc1 := 16) rfl ?_
  have e2 : va_up (nsD (HC (va_up IA 3 (cw_cut (IA 3) 0)) LA RA (va_up SC 2 (upd (SC 2) 1 (nI 0))) dr tl) 4 0) (4 + 4) (.inl (0, 71, .inl (frZk (va_up IA 3 (cw_cut (IA 3) 0) 8) 71))) = HC (va_up (va_up IA 3 (cw_cut (IA 3) 0)) 8 (frZk (IA 8) 71)) LA RA (va_up (va_up SC 2 (upd (SC 2) 1 (nI 0))) 4 (upd (SC 4) 2 (nI 0))) dr tl := e
  rw [e2]
  refine pm_cV [] rfl rfl rfl rfl rfl rfl (Nat.le_refl _) (Nat.le_refl _) (c_forget hq h) ?_
  exact pm_vret rfl rfl rfl rfl
theorem c_shownAt {i : Int32} {m : Nat} (hS : SC 20 7 = nI m) (hm : m ≤ 19) : pm_call (d + 1) 43 [.ref 20, .int i] (N, HC IA LA RA SC dr tl) (.inl (some (.int (if 0 ≤ i.toInt ∧ i.toInt < m then IA 35 i.toInt.toNat else -1)))) (N, HC IA LA RA SC dr tl) 0 0 := by
  refine pm_callX jm_43 [(0, .ref 20), (1, .int i)] rfl rfl rfl ?_
  refine pm_go 1 (pc1 := 1) rfl ?_
  refine pm_if rfl (fun z => ?_) (fun z => ?_)
  · have hz := i32_lt0.mp z
    refine pm_go 1 (pc1 := 22) rfl ?_
    exact pm_iret rfl rfl (by rw [if_neg (by omega)]) rfl
  · have hz : ¬ i.toInt < 0 := fun w => z (i32_lt0.mpr w)
    refine pm_go 2 (pc1 := 6) rfl ?_
    refine pm_getf rfl rfl rfl ?_
    refine pm_nm (y := nI m) hS ?_
    refine pm_icmp rfl (fun z => ?_) (fun z => ?_)
    · have hg := (i32_le (n := m) (by omega)).mp z
      refine pm_go 1 (pc1 := 22) rfl ?_
      exact pm_iret rfl rfl (by rw [if_neg (by omega)]) rfl
    · have hg : ¬ (m : Int) ≤ i.toInt := fun w => z ((i32_le (n := m) (by omega)).mpr w)
      refine pm_go 1 (pc1 := 13) rfl ?_
      refine pm_getf rfl rfl rfl ?_
      refine pm_go 1 (pc1 := 17) rfl ?_
      refine pm_iald (j := i.toInt.toNat) rfl rfl (by omega) (by omega) ?_
      refine pm_go 1 (pc1 := 22) rfl ?_
      exact pm_iret rfl rfl (by rw [if_pos (by omega)]) rfl
theorem c_removeAll (hD : SC 21 2 = nI dp) (hd : dp ≤ 6) (hL : ∀ i, i < 7 → RA 22 i = some (26 + i)) : pm_call (d + 4) 42 [.ref 20] (N, HC IA LA RA SC dr tl) (.inl (some (.int (SC 20 2)))) (N, HC (va_up IA 25 (frZk (IA 25) 71)) LA RA (goSC (va_up SC 20 (upd (SC 20) 2 0))) dr tl) 0 0 := by
  refine pm_callX jm_42 [(0, .ref 20)] rfl rfl rfl ?_
  refine pm_go 1 (pc1 := 1) rfl ?_
  refine pm_getf rfl rfl rfl ?_
  refine pm_go 3 (pc1 := 7) rfl ?_
  refine pm_putU rfl rfl rfl rfl (hs_20_2 ..) ?_
  refine pm_go 1 (pc1 := 11) rfl ?_
  refine pm_cV [] rfl rfl rfl rfl rfl rfl (Nat.le_refl _) (Nat.le_refl _) (c_goBack (SC := va_up SC 20 (upd (SC 20) 2 0)) hD hd hL) ?_
  refine pm_go 1 (pc1 := 15) rfl ?_
  exact pm_iret rfl rfl rfl rfl
theorem c_appendFull {v : Int32} (hS : SC 20 2 = nI 64) : pm_call (d + 1) 40 [.ref 20, .int v] (N, HC IA LA RA SC dr tl) (.inl (some (.int (-1)))) (N, HC IA LA RA SC dr tl) 0 0 := by
  refine pm_callX jm_40 [(0, .ref 20), (1, .int v)] rfl rfl rfl ?_
  refine pm_go 1 (pc1 := 1) rfl ?_
  refine pm_getf rfl rfl rfl ?_
  refine pm_nm (y := nI 64) hS ?_
  refine pm_go 1 (pc1 := 6) rfl ?_
  refine pm_icmp rfl (fun z => absurd ((nI_ltI (a := 64) (b := 64) (by omega) (by omega)).mp z) (by omega)) (fun _ => ?_)
  refine pm_go 1 (pc1 := 10) rfl ?_
  exact pm_iret rfl rfl rfl rfl
theorem c_append {v : Int32} {m : Nat} (hS : SC 20 2 = nI m) (hm : m < 64) (hD : SC 21 2 = nI dp) (hd : dp ≤ 6) (hL : ∀ i, i < 7 → RA 22 i = some (26 + i)) : pm_call (d + 4) 40 [.ref 20, .int v] (N, HC IA LA RA SC dr tl) (.inl (some (.int (nI (m + 1))))) (N, HC (va_up (va_up IA 33 (upd (IA 33) m v)) 25 (frZk (IA 25) 71)) LA RA (goSC (va_up SC 20 (upd (SC 20) 2 (nI (m + 1))))) dr tl) 0 0 := by
  refine pm_callX jm_40 [(0, .ref 20), (1, .int v)] rfl rfl rfl ?_
  refine pm_go 1 (pc1 := 1) rfl ?_
  refine pm_getf rfl rfl rfl ?_
  refine pm_nm (y := nI m) hS ?_
  refine pm_go 1 (pc1 := 6) rfl ?_
  refine pm_icmp rfl (fun _ => ?_) (fun z => absurd ((nI_ltI (b := 64) (by omega) (by omega)).mpr hm) z)
  refine pm_go 1 (pc1 := 12) rfl ?_
  refine pm_getf rfl rfl rfl ?_
  refine pm_go 1 (pc1 := 16) rfl ?_
  refine pm_getf rfl rfl rfl ?_
  refine pm_nm (y := nI m) hS ?_
  refine pm_go 1 (pc1 := 20) rfl ?_
  refine pm_iastU (j := m) rfl rfl (cw_ti (by omega)) hm (hi_33 ..) ?_
  refine pm_go 2 (pc1 := 23) rfl ?_
  refine pm_getf rfl rfl rfl ?_
  refine pm_nm (y := nI m) hS ?_
  refine pm_go 2 (pc1 := 28) rfl ?_
  rw [nI_1]
  refine pm_putU rfl rfl rfl rfl (hs_20_2 ..) ?_
  refine pm_go 1 (pc1 := 32) rfl ?_
  refine pm_cV [] rfl rfl rfl rfl rfl rfl (Nat.le_refl _) (Nat.le_refl _) (c_goBack (IA := va_up IA 33 (upd (IA 33) m v)) (SC := va_up SC 20 (upd (SC 20) 2 (nI (m + 1)))) hD hd hL) ?_
  refine pm_go 1 (pc1 := 36) rfl ?_
  refine pm_getf rfl rfl rfl ?_
  refine pm_nm (y := nI (m + 1)) rfl ?_
  exact pm_iret rfl rfl rfl rfl
end RD
