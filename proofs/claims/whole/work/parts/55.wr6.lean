/-! THE WRITER: forms written -/
/-- the row that a FORM lengthens -/
def rowX (B : Nat → Int32) (dp : Nat) : Int32 := if B 0 = 0 then (if B 2 = 0 then -1 else B 2) else nI (64 + dp)
/-- the stream behind a FORM, in a block of width w -/
def wFo (kk vv : Nat → Nat) (σ : (Nat → Int32) × Nat) (w n : Nat) : (Nat → Int32) × Nat := wFk kk vv (wC (wP σ 3 w) n 5) n
section WR6
variable {IA : Nat → Nat → Int32} {LA : Nat → Nat → Int64} {RA : Nat → Nat → Option Nat} {SC : Nat → Nat → Int32} {dr : Nat} {tl : Nat → va_E} {N d : Nat} {σ : (Nat → Int32) × Nat} {dp n bc bs : Nat} {K V : Nat → Int32} {kk vv : Nat → Nat} {r : pm_V} {h' : pm_H}
theorem wFk_end (hN : fmW K V n kk vv) : ∀ k, k ≤ n → (wFk kk vv σ k).2 ≤ σ.2 + 97 * k
  | 0, _ => Nat.le_add_right _ _
  | k + 1, h => by
    have h1 := wFk_end hN k (by omega)
    have h2 := wOp_end (σ := wFk kk vv σ k) (k := kk k) (hN k (by omega)).2.2.2.1
    show (wOp (wFk kk vv σ k) (kk k) (vv k)).2 ≤ _
    omega
theorem wFo_end {w : Nat} (hN : fmW K V n kk vv) (hw : w ≤ 8) (hn : n ≤ 8) : (wFo kk vv σ w n).2 ≤ σ.2 + 900 := by
  have h1 := wC_end (σ := wP σ 3 w) (x := n) (w := 5) (by omega) (by omega) (by omega)
  have h2 : (wP σ 3 w).2 = σ.2 + w := rfl
  have h3 := wFk_end (σ := wC (wP σ 3 w) n 5) hN n (Nat.le_refl _)
  unfold wFo
  omega
theorem c_form1 (hD : SC 4 2 = nI 0) : pm_call (d + 1) 66 [.ref 1] (N, HW IA LA RA SC dr tl σ) (.inl (some (.int (-1)))) (N, HW IA LA RA SC dr tl σ) 0 0 := by
  refine pm_callX jm_66 [(0, .ref 1)] rfl rfl rfl ?_
  refine pm_go 1 (pc1 := 1) rfl ?_
  refine pm_getf rfl rfl rfl ?_
  refine pm_getf rfl rfl rfl ?_
  refine pm_nm (y := nI 0) hD ?_
  refine pm_if rfl (fun z => absurd rfl z) (fun _ => ?_)
  refine pm_go 1 (pc1 := 11) rfl ?_
  exact pm_iret rfl rfl rfl rfl
theorem c_form_pre0 (hD : SC 4 2 = nI (dp + 1)) (hd : dp + 1 ≤ 6) (hq : okq dr) (hT : fmAt tl dr n K V)
    (k : pm_X (pm_call (d + 5)) jm_66 4 (some .int) (d + 5) bc bs 19 [(0, .ref 1)] [.int (if fmOk K n then 1 else 0)] 0 0 (N, HW IA LA RA SC dr tl σ) r h') : pm_call (d + 6) 66 [.ref 1] (N, HW IA LA RA SC dr tl σ) r h' bc bs := by
  have hF : ∀ σ, fmAt (HW IA LA RA SC dr tl σ) dr n K V := fun σ => fm_HC hq hT
  refine pm_callX jm_66 [(0, .ref 1)] rfl rfl rfl ?_
  refine pm_go 1 (pc1 := 1) rfl ?_
  refine pm_getf rfl rfl rfl ?_
  refine pm_getf rfl rfl rfl ?_
  refine pm_nm (y := nI (dp + 1)) hD ?_
  refine pm_if rfl (fun _ => ?_) (fun z => absurd (fun w => absurd ((nI_eqI (a := dp + 1) (b := 0) (by omega) (by omega)).mp w) (by omega)) z)
  refine pm_go 1 (pc1 := 13) rfl ?_
  refine pm_getf rfl rfl rfl ?_
  exact pm_cV [] rfl rfl rfl rfl (hF _).1 rfl (Nat.zero_le _) (Nat.zero_le _) (c_isForm (hF _)) k
theorem c_form2 (hD : SC 4 2 = nI (dp + 1)) (hd : dp + 1 ≤ 6) (hq : okq dr) (hT : fmAt tl dr n K V) (ho : ¬ fmOk K n) : pm_call (d + 6) 66 [.ref 1] (N, HW IA LA RA SC dr tl σ) (.inl (some (.int (-2)))) (N, HW IA LA RA SC dr tl σ) 0 0 := by
  refine c_form_pre0 hD hd hq hT ?_
  rw [if_neg ho]
  refine pm_if rfl (fun z => absurd rfl z) (fun _ => ?_)
  refine pm_go 1 (pc1 := 24) rfl ?_
  exact pm_iret rfl rfl rfl rfl
theorem c_form_pre1 (hD : SC 4 2 = nI (dp + 1)) (hd : dp + 1 ≤ 6) (hL : ∀ i, i < 7 → RA 5 i = some (9 + i)) (hq : okq dr) (hT : fmAt tl dr n K V) (ho : fmOk K n)
    (k : pm_X (pm_call (d + 5)) jm_66 4 (some .int) (d + 5) bc bs 35 [(0, .ref 1), (1, .int (rowX (SC (9 + (dp + 1))) (dp + 1)))] [.int (-1), .int (rowX (SC (9 + (dp + 1))) (dp + 1))] 0 0 (N, HW IA LA RA SC dr tl σ) r h') : pm_call (d + 6) 66 [.ref 1] (N, HW IA LA RA SC dr tl σ) r h' bc bs := by
  have hQ := ns_HW (IA := IA) (LA := LA) (dr := dr) (tl := tl) hD hd hL
  refine c_form_pre0 hD hd hq hT ?_
  rw [if_pos ho]
  refine pm_if rfl (fun _ => ?_) (fun z => absurd (fun w => absurd (show (1 : Int32) = 0 from w) (by decide)) z)
  refine pm_go 1 (pc1 := 26) rfl ?_
  refine pm_getf rfl rfl rfl ?_
  refine pm_cV [] rfl rfl rfl rfl rfl rfl (Nat.zero_le _) (Nat.zero_le _) (c_rowToExtend (hQ _)) ?_
  refine pm_go 3 (pc1 := 35) rfl ?_
  exact pm_lv [(0, .ref 1), (1, .int (rowX (SC (9 + (dp + 1))) (dp + 1)))] rfl rfl k
theorem c_form3 (hD : SC 4 2 = nI (dp + 1)) (hd : dp + 1 ≤ 6) (hL : ∀ i, i < 7 → RA 5 i = some (9 + i)) (hq : okq dr) (hT : fmAt tl dr n K V) (ho : fmOk K n) (hx : rowX (SC (9 + (dp + 1))) (dp + 1) = -1) : pm_call (d + 6) 66 [.ref 1] (N, HW IA LA RA SC dr tl σ) (.inl (some (.int (-3)))) (N, HW IA LA RA SC dr tl σ) 0 0 := by
  refine c_form_pre1 hD hd hL hq hT ho ?_
  refine pm_icmp rfl (fun z => absurd hx z) (fun _ => ?_)
  refine pm_go 1 (pc1 := 40) rfl ?_
  exact pm_iret rfl rfl rfl rfl
theorem c_form_pre2 {ro m : Nat} (hD : SC 4 2 = nI (dp + 1)) (hd : dp + 1 ≤ 6) (hL : ∀ i, i < 7 → RA 5 i = some (9 + i)) (hq : okq dr) (hT : fmAt tl dr n K V) (ho : fmOk K n) (hx : rowX (SC (9 + (dp + 1))) (dp + 1) = nI ro) (hro : ro < 71) (hG : IA 8 ro = nI m) (hm : m ≤ 8)
    (k : pm_X (pm_call (d + 5)) jm_66 4 (some .int) (d + 5) bc bs 52 [(0, .ref 1), (1, .int (nI ro))] [.int (if m < 8 then 1 else 0)] 0 0 (N, HW IA LA RA SC dr tl σ) r h') : pm_call (d + 6) 66 [.ref 1] (N, HW IA LA RA SC dr tl σ) r h' bc bs := by
  have hQ := ns_HW (IA := IA) (LA := LA) (dr := dr) (tl := tl) hD hd hL
  refine c_form_pre1 hD hd hL hq hT ho ?_
  rw [hx]
  refine pm_icmp rfl (fun _ => ?_) (fun z => ?_)
  · refine pm_go 1 (pc1 := 42) rfl ?_
    refine pm_getf rfl rfl rfl ?_
    refine pm_getf rfl rfl rfl ?_
    refine pm_go 1 (pc1 := 49) rfl ?_
    exact pm_cV [.int (nI ro)] rfl rfl rfl rfl rfl rfl (Nat.zero_le _) (Nat.zero_le _) (c_hasRoom (hQ _).2.2.2.1 hro hG hm) k
  · have e : nI ro = -1 := Classical.byContradiction fun w => z w
    have := congrArg Int32.toInt e
    rw [nI_toInt (by omega)] at this
    have e2 : (-1 : Int32).toInt = -1 := rfl
    omega
theorem c_form4 {ro : Nat} (hD : SC 4 2 = nI (dp + 1)) (hd : dp + 1 ≤ 6) (hL : ∀ i, i < 7 → RA 5 i = some (9 + i)) (hq : okq dr) (hT : fmAt tl dr n K V) (ho : fmOk K n) (hx : rowX (SC (9 + (dp + 1))) (dp + 1) = nI ro) (hro : ro < 71) (hG : IA 8 ro = nI 8) : pm_call (d + 6) 66 [.ref 1] (N, HW IA LA RA SC dr tl σ) (.inl (some (.int (-4)))) (N, HW IA LA RA SC dr tl σ) 0 0 := by
  refine c_form_pre2 hD hd hL hq hT ho hx hro hG (Nat.le_refl _) ?_
  refine pm_if rfl (fun z => absurd rfl z) (fun _ => ?_)
  refine pm_go 1 (pc1 := 57) rfl ?_
  exact pm_iret rfl rfl rfl rfl
theorem c_form_pre3 {ro m w : Nat} (hD : SC 4 2 = nI (dp + 1)) (hd : dp + 1 ≤ 6) (hL : ∀ i, i < 7 → RA 5 i = some (9 + i)) (hq : okq dr) (hT : fmAt tl dr n K V) (hN : fmW K V n kk vv) (ho : fmOk K n) (hx : rowX (SC (9 + (dp + 1))) (dp + 1) = nI ro) (hro : ro < 71) (hG : IA 8 ro = nI m) (hm : m < 8) (hw : SC (9 + (dp + 1)) 1 = nI w) (hw8 : w ≤ 8) (hE : σ.2 < 10000)
    (k : pm_X (pm_call (d + 5)) jm_66 4 (some .int) (d + 5) bc bs 97 [(0, .ref 1), (1, .int (nI ro)), (2, .int (nI σ.2))] [.int (if ((wFo kk vv σ w n).2 + w + 31) / 32 + dp ≤ 64 then 1 else 0)] 0 0 (N, HW IA LA RA SC dr tl (wFo kk vv σ w n)) r h') : pm_call (d + 6) 66 [.ref 1] (N, HW IA LA RA SC dr tl σ) r h' bc bs := by
  have hQ := ns_HW (IA := IA) (LA := LA) (dr := dr) (tl := tl) hD hd hL
  have hF : ∀ σ, fmAt (HW IA LA RA SC dr tl σ) dr n K V := fun σ => fm_HC hq hT
  have hend := wFo_end (σ := σ) hN hw8 hT.2.2.2
  refine c_form_pre2 hD hd hL hq hT ho hx hro hG (by omega) ?_
  rw [if_pos hm]
  refine pm_if rfl (fun _ => ?_) (fun z => absurd (fun w => absurd (show (1 : Int32) = 0 from w) (by decide)) z)
  refine pm_go 1 (pc1 := 59) rfl ?_
  refine pm_getf rfl rfl rfl ?_
  refine pm_getf rfl rfl rfl ?_
  refine pm_nm (y := nI σ.2) (by rw [va_up_self, pk_us]) ?_
  refine pm_go 3 (pc1 := 68) rfl ?_
  refine pm_getf rfl rfl rfl ?_
  refine pm_cV [.ref dr] rfl rfl rfl rfl rfl rfl (Nat.zero_le _) (Nat.zero_le _) (w_putForm hQ hw hw8 hF hN hE) ?_
  refine pm_go 2 (pc1 := 76) rfl ?_
  refine pm_getf rfl rfl rfl ?_
  refine pm_cV [] rfl rfl rfl rfl rfl rfl (Nat.zero_le _) (Nat.zero_le _) (c_inner (hQ _)) ?_
  refine pm_getf rfl ((hQ _).2.2.1 (dp + 1) (by omega)).2 rfl ?_
  refine pm_nm (y := nI w) hw ?_
  refine pm_go 1 (pc1 := 86) rfl ?_
  refine pm_getf rfl rfl rfl ?_
  refine pm_getf rfl rfl rfl ?_
  refine pm_nm (y := nI (dp + 1)) hD ?_
  refine pm_go 2 (pc1 := 94) rfl ?_
  rw [show nI (dp + 1) - 1 = nI dp from pk_sub (a := dp + 1) (b := 1) (by omega)]
  refine pm_cV [.int (nI w), .int (nI dp)] rfl rfl rfl rfl rfl rfl (Nat.zero_le _) (Nat.zero_le _) (w_room (σ := wFo kk vv σ w n) (by omega) (by omega) (by omega)) ?_
  exact pm_lv [(0, .ref 1), (1, .int (nI ro)), (2, .int (nI σ.2))] rfl rfl k
theorem c_form5 {ro m w : Nat} (hD : SC 4 2 = nI (dp + 1)) (hd : dp + 1 ≤ 6) (hL : ∀ i, i < 7 → RA 5 i = some (9 + i)) (hq : okq dr) (hT : fmAt tl dr n K V) (hN : fmW K V n kk vv) (ho : fmOk K n) (hx : rowX (SC (9 + (dp + 1))) (dp + 1) = nI ro) (hro : ro < 71) (hG : IA 8 ro = nI m) (hm : m < 8) (hw : SC (9 + (dp + 1)) 1 = nI w) (hw8 : w ≤ 8) (hE : σ.2 ≤ 2048) (hR : ¬ ((wFo kk vv σ w n).2 + w + 31) / 32 + dp ≤ 64) : pm_call (d + 6) 66 [.ref 1] (N, HW IA LA RA SC dr tl σ) (.inl (some (.int (-5)))) (N, HW IA LA RA SC dr tl (cw_cut (wFo kk vv σ w n).1 σ.2, σ.2)) 0 0 := by
  refine c_form_pre3 hD hd hL hq hT hN ho hx hro hG hm hw hw8 (by omega) ?_
  rw [if_neg hR]
  refine pm_if rfl (fun z => absurd rfl z) (fun _ => ?_)
  refine pm_go 1 (pc1 := 101) rfl ?_
  refine pm_getf rfl rfl rfl ?_
  refine pm_go 1 (pc1 := 105) rfl ?_
  refine pm_cV [.int (nI σ.2)] rfl rfl rfl rfl rfl rfl (Nat.le_refl _) (Nat.le_refl _) (w_cut hE) ?_
  refine pm_go 1 (pc1 := 110) rfl ?_
  exact pm_iret rfl rfl rfl rfl
theorem HW_add {ro m y : Nat} : frAdd (HW IA LA RA SC dr tl σ) 6 (RA 7) (IA 8) ro m y = HW (va_up IA 8 (upd (IA 8) ro (nI (m + 1)))) LA (va_up RA 7 (va_up (RA 7) (8 * ro + m) (some y))) SC dr tl σ := by
  unfold frAdd
  rw [show 6 + 1 = 7 from rfl, show 6 + 2 = 8 from rfl]
  refine (congrArg (fun z => va_up z 8 _) (hr_7 ..)).trans ?_
  refine (hi_8 ..).trans ?_
  show HC (va_up (va_up IA 3 σ.1) 8 (upd (IA 8) ro (nI (m + 1)))) LA _ _ dr tl = HC (va_up (va_up IA 8 (upd (IA 8) ro (nI (m + 1)))) 3 σ.1) LA _ _ dr tl
  rw [va_up_comm IA (by decide)]
/-- the forms with a new one at place N -/
def tlNew (tl : Nat → va_E) (N : Nat) : Nat → va_E := va_up (va_up (va_up (va_up tl N (.inr (2, [.null, .null, .int 0]))) (N + 1) (.inl (0, 8, .inl (fun _ => 0)))) (N + 2) (.inl (0, 8, .inl (fun _ => 0)))) N (.inr (2, [.ref (N + 1), .ref (N + 2), .int 0]))
theorem tlNew_at : fmAt (tlNew tl N) N 0 (fun _ => 0) (fun _ => 0) := by
  unfold tlNew
  refine ⟨va_up_self _ _ _, ?_, ?_, by omega⟩
  · rw [va_up_ne _ _ (by omega), va_up_ne _ _ (by omega), va_up_self]
  · rw [va_up_ne _ _ (by omega), va_up_self]
theorem tlNew_ne {j : Nat} (h : j < N) : tlNew tl N j = tl j := by
  unfold tlNew
  rw [va_up_ne _ _ (by omega), va_up_ne _ _ (by omega), va_up_ne _ _ (by omega), va_up_ne _ _ (by omega)]
theorem c_form0 {ro m w : Nat} (hNN : 56 ≤ N) (hD : SC 4 2 = nI (dp + 1)) (hd : dp + 1 ≤ 6) (hL : ∀ i, i < 7 → RA 5 i = some (9 + i)) (hq : okq dr) (hT : fmAt tl dr n K V) (hN : fmW K V n kk vv) (ho : fmOk K n) (hx : rowX (SC (9 + (dp + 1))) (dp + 1) = nI ro) (hro : ro < 71) (hG : IA 8 ro = nI m) (hm : m < 8) (hw : SC (9 + (dp + 1)) 1 = nI w) (hw8 : w ≤ 8) (hE : σ.2 ≤ 2048) (hR : ((wFo kk vv σ w n).2 + w + 31) / 32 + dp ≤ 64) : pm_call (d + 6) 66 [.ref 1] (N, HW IA LA RA SC dr tl σ) (.inl (some (.int (nI (4 + m))))) (N + 3, HW (va_up IA 8 (upd (IA 8) ro (nI (m + 1)))) LA (va_up RA 7 (va_up (RA 7) (8 * ro + m) (some dr))) SC N (tlNew tl N) (wFo kk vv σ w n)) 3 19 := by
  have hQ := ns_HW (IA := IA) (LA := LA) (dr := dr) (tl := tl) hD hd hL
  have hF : ∀ σ, fmAt (HW IA LA RA SC dr tl σ) dr n K V := fun σ => fm_HC hq hT
  refine c_form_pre3 hD hd hL hq hT hN ho hx hro hG hm hw hw8 (by omega) ?_
  rw [if_pos hR]
  refine pm_if rfl (fun _ => ?_) (fun z => absurd (fun w => absurd (show (1 : Int32) = 0 from w) (by decide)) z)
  refine pm_go 1 (pc1 := 112) rfl ?_
  refine pm_getf rfl rfl rfl ?_
  refine pm_getf rfl rfl rfl ?_
  refine pm_go 2 (pc1 := 120) rfl ?_
  refine pm_getf rfl rfl rfl ?_
  refine pm_cV [.int (nI ro), .ref dr] rfl rfl rfl rfl rfl rfl (Nat.zero_le _) (Nat.zero_le _) (c_addForm (hQ _).2.2.2.1 hro hG hm (hF _).1) ?_
  rw [HW_add]
  refine pm_go 2 (pc1 := 128) rfl ?_
  refine pm_new rfl rfl (by decide) (by decide) ?_
  refine pm_go 1 (pc1 := 132) rfl ?_
  refine pm_cI [] rfl rfl rfl rfl rfl (by decide) (by decide) (c_Form_init (z := 0) (Nat.lt_succ_self N) (va_up_self _ _ _)) ?_
  rw [ht_big _ _ _ _ _ _ _ hNN, ht_big _ _ _ _ _ _ _ (show 56 ≤ N + 1 by omega), ht_big _ _ _ _ _ _ _ (show 56 ≤ N + 1 + 1 by omega), ht_big _ _ _ _ _ _ _ hNN]
  refine pm_putU rfl rfl rfl rfl (hd_1 ..) ?_
  refine pm_go 1 (pc1 := 139) rfl ?_
  exact pm_iret rfl rfl rfl rfl
end WR6
