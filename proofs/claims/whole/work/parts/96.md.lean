/-! THE MODEL: leave, form -/
def mFk (kk vv : Nat → Nat) (τ : (Nat → Int32) × Nat) : Nat → (Nat → Int32) × Nat
  | 0 => τ
  | k + 1 => mOp (mFk kk vv τ k) (kk k) (vv k)
theorem mOp_b {τ : (Nat → Int32) × Nat} {k x : Nat} (hx : x < 2 ^ 31) : τ.2 ≤ (mOp τ k x).2 ∧ (mOp τ k x).2 ≤ τ.2 + 97 := by
  unfold mOp
  split
  · obtain ⟨a1, a2, -⟩ := mC_b (τ := mP τ (nI 1) 1) (x := x) (w := 8) hx (by omega) (by omega)
    have : (mP τ (nI 1) 1).2 = τ.2 + 1 := rfl
    omega
  · have e : (mP τ (nI (2 * k)) 4).2 = τ.2 + 4 := rfl
    split
    · omega
    · obtain ⟨a1, a2, -⟩ := mC_b (τ := mP τ (nI (2 * k)) 4) (x := x) (w := 5) hx (by omega) (by omega)
      omega
theorem mFk_b {kk vv : Nat → Nat} {τ : (Nat → Int32) × Nat} {n : Nat} (h : ∀ k, k < n → vv k < 2 ^ 31) : ∀ k, k ≤ n → τ.2 ≤ (mFk kk vv τ k).2 ∧ (mFk kk vv τ k).2 ≤ τ.2 + 97 * k
  | 0, _ => ⟨Nat.le_refl _, Nat.le_refl _⟩
  | k + 1, hk => by
    have h1 := mFk_b h (kk := kk) (τ := τ) k (by omega)
    have h2 := mOp_b (τ := mFk kk vv τ k) (k := kk k) (h k (by omega))
    refine ⟨?_, ?_⟩
    · show _ ≤ (mOp (mFk kk vv τ k) (kk k) (vv k)).2
      omega
    · show (mOp (mFk kk vv τ k) (kk k) (vv k)).2 ≤ _
      omega
/-- ops copied to the pool -/
def opCp (L P : Nat → Int64) (a k : Nat) : Nat → Int64 := fun j => if a ≤ j ∧ j < a + k then P (j - a) else L j
theorem opCp_0 (L P : Nat → Int64) (a : Nat) : opCp L P a 0 = L := by
  funext i
  unfold opCp
  rw [if_neg (by omega)]
theorem opCp_s (L P : Nat → Int64) (a k : Nat) : vp_updL (opCp L P a k) (a + k) (P k) = opCp L P a (k + 1) := by
  funext i
  by_cases h : i = a + k
  · subst h
    rw [vl_at]
    unfold opCp
    rw [if_pos (by omega), show a + k - a = k by omega]
  · rw [vl_ne _ _ h]
    unfold opCp
    by_cases h2 : a ≤ i ∧ i < a + k
    · rw [if_pos h2, if_pos (by omega)]
    · rw [if_neg h2, if_neg (by omega)]
section MDD
variable {IA : Nat → Nat → Int32} {LA : Nat → Nat → Int64} {RA : Nat → Nat → Option Nat} {SC : Nat → Nat → Int32} {dr : Nat} {tl : Nat → va_E} {N d dp i t c pl w n : Nat} {τ : (Nat → Int32) × Nat} {kk vv : Nat → Nat} {r : pm_V} {h' : pm_H}
theorem m_leave0 (hD : IA 39 0 = nI 0) : pm_call (d + 1) 109 [.ref 36] (N, HP IA LA RA SC dr tl τ) (.inl (some (.int (-1)))) (N, HP IA LA RA (thr SC 0) dr tl τ) 0 0 := by
  refine pm_callX jm_109 [(0, .ref 36)] rfl rfl rfl ?_
  refine pm_go 2 (pc1 := 2) rfl ?_
  refine pm_putU rfl rfl rfl rfl (hs_36_21 ..) ?_
  refine pm_go 1 (pc1 := 6) rfl ?_
  refine pm_getf rfl rfl rfl ?_
  refine pm_go 1 (pc1 := 10) rfl ?_
  refine pm_iald (j := 0) rfl rfl rfl (by omega) ?_
  refine pm_nm (y := nI 0) hD ?_
  refine pm_if rfl (fun z => absurd rfl z) (fun _ => ?_)
  refine pm_go 1 (pc1 := 15) rfl ?_
  exact pm_iret rfl rfl rfl rfl
theorem m_leave {mk a : Nat} (hD : IA 39 0 = nI (dp + 1)) (hd : dp + 1 ≤ 6) (hw : IA 41 (dp + 1) = nI w) (hw8 : w ≤ 8) (hmk : IA 42 (dp + 1) = nI mk) (hmk2 : mk < 64) (hE : τ.2 ≤ 2048) (ha : a = (τ.2 + w + 31) / 32) (hma : mk + 1 ≤ a) :
    pm_call (d + 2) 109 [.ref 36] (N, HP IA LA RA SC dr tl τ) (.inl (some (.int (nI (a - mk - 1))))) (N, HP (va_up IA 39 (upd (IA 39) 0 (nI dp))) LA RA (thr SC 0) dr tl (upd (mP τ (nI 0) w).1 mk (nI (a - mk - 1)), a * 32)) 0 0 := by
  refine pm_callX jm_109 [(0, .ref 36)] rfl rfl rfl ?_
  refine pm_go 2 (pc1 := 2) rfl ?_
  refine pm_putU rfl rfl rfl rfl (hs_36_21 ..) ?_
  refine pm_go 1 (pc1 := 6) rfl ?_
  refine pm_getf rfl rfl rfl ?_
  refine pm_go 1 (pc1 := 10) rfl ?_
  refine pm_iald (j := 0) rfl rfl rfl (by omega) ?_
  refine pm_nm (y := nI (dp + 1)) hD ?_
  refine pm_if rfl (fun _ => ?_) (fun z => absurd (fun h => absurd ((nI_eqI (b := 0) (by omega) (by omega)).mp h) (by omega)) z)
  refine pm_go 4 (pc1 := 20) rfl ?_
  refine pm_cV [.int (nI 0)] rfl rfl rfl rfl rfl rfl (Nat.zero_le _) (Nat.zero_le _) (p_widthNow hD (by omega)) ?_
  refine pm_nm (y := nI w) (by rw [if_neg (by omega)]; exact hw) ?_
  refine pm_cV [.int (nI 0), .int (nI w)] rfl rfl rfl rfl rfl rfl (Nat.zero_le _) (Nat.zero_le _) (p_bits (by omega) (by omega)) ?_
  refine pm_go 2 (pc1 := 28) rfl ?_
  refine pm_cV [.int (nI 0)] rfl rfl rfl rfl rfl rfl (Nat.zero_le _) (Nat.zero_le _) (p_align (by show τ.2 + w < _; omega)) ?_
  refine pm_hp (f1 := HP IA LA RA (thr SC 0) dr tl ((mP τ (nI 0) w).1, a * 32)) (by show HP IA LA RA (thr SC 0) dr tl ((mP τ (nI 0) w).1, (τ.2 + w + 31) / 32 * 32) = _; rw [ha]) ?_
  refine pm_go 1 (pc1 := 32) rfl ?_
  refine pm_getf rfl rfl rfl ?_
  refine pm_go 1 (pc1 := 36) rfl ?_
  refine pm_getf rfl rfl rfl ?_
  refine pm_go 1 (pc1 := 40) rfl ?_
  refine pm_iald (j := 0) rfl rfl rfl (by omega) ?_
  refine pm_nm (y := nI (dp + 1)) hD ?_
  refine pm_iald (j := dp + 1) (N := 14) rfl rfl (cw_ti (by omega)) (by omega) ?_
  refine pm_nm (y := nI mk) hmk ?_
  refine pm_go 2 (pc1 := 44) rfl ?_
  refine pm_getf rfl rfl rfl ?_
  refine pm_go 2 (pc1 := 49) rfl ?_
  refine pm_getf rfl rfl rfl ?_
  refine pm_go 1 (pc1 := 53) rfl ?_
  refine pm_iald (j := 0) rfl rfl rfl (by omega) ?_
  refine pm_nm (y := nI (a * 32)) rfl ?_
  refine pm_go 2 (pc1 := 57) rfl ?_
  rw [show nI (a * 32) / (32 : Int32) = nI a from by rw [cw_di (by omega), show a * 32 / 32 = a by omega]]
  refine pm_go 2 (pc1 := 59) rfl ?_
  rw [show nI a - nI mk = nI (a - mk) from pk_sub (by omega)]
  refine pm_go 2 (pc1 := 61) rfl ?_
  rw [show nI (a - mk) - (1 : Int32) = nI (a - mk - 1) from pk_sub (b := 1) (by omega)]
  refine pm_iastU (j := mk) (n := 256) rfl rfl (cw_ti (by omega)) (by omega) (hi_37 ..) ?_
  refine pm_hp (f1 := HP IA LA RA (thr SC 0) dr tl (upd (mP τ (nI 0) w).1 mk (nI (a - mk - 1)), a * 32)) (HP_fold2 (fun k e37 e38 => by simp [va_up, e37, e38]) rfl rfl) ?_
  refine pm_go 1 (pc1 := 63) rfl ?_
  refine pm_getf rfl rfl rfl ?_
  refine pm_go 2 (pc1 := 68) rfl ?_
  refine pm_iald (j := 0) rfl rfl rfl (by omega) ?_
  refine pm_nm (y := nI (dp + 1)) hD ?_
  refine pm_go 2 (pc1 := 71) rfl ?_
  rw [show nI (dp + 1) - (1 : Int32) = nI dp from by rw [show nI dp = nI (dp + 1 - 1) by rfl]; exact pk_sub (b := 1) (by omega)]
  refine pm_iastU (j := 0) (n := 2) rfl rfl rfl (by omega) (HP_st (fun _ _ => hi_39 ..) (by decide) (by decide)) ?_
  refine pm_go 1 (pc1 := 73) rfl ?_
  refine pm_getf rfl rfl rfl ?_
  refine pm_go 1 (pc1 := 77) rfl ?_
  refine pm_iald (j := mk) (N := 256) rfl rfl (cw_ti (by omega)) (by omega) ?_
  refine pm_nm (y := nI (a - mk - 1)) (upd_at _ mk _) ?_
  exact pm_iret rfl rfl rfl rfl
theorem m_form1 (hD : IA 39 0 = nI 0) : pm_call (d + 1) 120 [.ref 36] (N, HP IA LA RA SC dr tl τ) (.inl (some (.int (-1)))) (N, HP IA LA RA (thr SC 0) dr tl τ) 0 0 := by
  refine pm_callX jm_120 [(0, .ref 36)] rfl rfl rfl ?_
  refine pm_go 2 (pc1 := 2) rfl ?_
  refine pm_putU rfl rfl rfl rfl (hs_36_21 ..) ?_
  refine pm_go 1 (pc1 := 6) rfl ?_
  refine pm_getf rfl rfl rfl ?_
  refine pm_go 1 (pc1 := 10) rfl ?_
  refine pm_iald (j := 0) rfl rfl rfl (by omega) ?_
  refine pm_nm (y := nI 0) hD ?_
  refine pm_if rfl (fun z => absurd rfl z) (fun _ => ?_)
  refine pm_go 1 (pc1 := 15) rfl ?_
  exact pm_iret rfl rfl rfl rfl
theorem m_fo_28 (hD : IA 39 0 = nI (dp + 1)) (hd : dp + 1 ≤ 6) (hS : SC 36 16 = nI n) (hn : n ≤ 8) (hO : opsAt (LA 51) 0 n kk vv)
    (k : pm_X (pm_call (d + 2)) jm_120 5 (some .int) (d + 2) 0 0 28 [(0, .ref 36)] [.int (if fmOkN kk n then 1 else 0)] 0 0 (N, HP IA LA RA (thr SC 0) dr tl τ) r h') : pm_call (d + 3) 120 [.ref 36] (N, HP IA LA RA SC dr tl τ) r h' 0 0 := by
  refine pm_callX jm_120 [(0, .ref 36)] rfl rfl rfl ?_
  refine pm_go 2 (pc1 := 2) rfl ?_
  refine pm_putU rfl rfl rfl rfl (hs_36_21 ..) ?_
  refine pm_go 1 (pc1 := 6) rfl ?_
  refine pm_getf rfl rfl rfl ?_
  refine pm_go 1 (pc1 := 10) rfl ?_
  refine pm_iald (j := 0) rfl rfl rfl (by omega) ?_
  refine pm_nm (y := nI (dp + 1)) hD ?_
  refine pm_if rfl (fun _ => ?_) (fun z => absurd (fun h => absurd ((nI_eqI (b := 0) (by omega) (by omega)).mp h) (by omega)) z)
  refine pm_go 1 (pc1 := 17) rfl ?_
  refine pm_getf rfl rfl rfl ?_
  refine pm_go 2 (pc1 := 22) rfl ?_
  refine pm_getf rfl rfl rfl ?_
  refine pm_nm (y := nI n) hS ?_
  refine pm_cS [.ref 51, .int (nI 0), .int (nI n)] rfl rfl rfl rfl rfl (Nat.zero_le _) (Nat.zero_le _) (m_isForm (a := 51) (ln := 8) rfl hO (by omega) (by omega) hn) ?_
  exact k
theorem m_form2 (hD : IA 39 0 = nI (dp + 1)) (hd : dp + 1 ≤ 6) (hS : SC 36 16 = nI n) (hn : n ≤ 8) (hO : opsAt (LA 51) 0 n kk vv) (ho : ¬ fmOkN kk n) : pm_call (d + 3) 120 [.ref 36] (N, HP IA LA RA SC dr tl τ) (.inl (some (.int (-2)))) (N, HP IA LA RA (thr SC 0) dr tl τ) 0 0 := by
  refine m_fo_28 hD hd hS hn hO ?_
  rw [if_neg ho]
  refine pm_if rfl (fun z => absurd rfl z) (fun _ => ?_)
  refine pm_go 1 (pc1 := 33) rfl ?_
  exact pm_iret rfl rfl rfl rfl
theorem m_fo_59 (hD : IA 39 0 = nI (dp + 1)) (hd : dp + 1 ≤ 6) (hS : SC 36 16 = nI n) (hn : n ≤ 8) (hO : opsAt (LA 51) 0 n kk vv) (ho : fmOkN kk n) (hC : cntB IA 0 (dp + 1) i t c)
    (k3 : i = 0 ∧ t = 0 → pm_X (pm_call (d + 2)) jm_120 5 (some .int) (d + 2) 0 0 56 [(0, .ref 36)] [] 0 0 (N, HP IA LA RA (thr SC 0) dr tl τ) r h')
    (k : ¬ (i = 0 ∧ t = 0) → pm_X (pm_call (d + 2)) jm_120 5 (some .int) (d + 2) 0 0 64 [(0, .ref 36)] [.int (if c = 8 then 1 else 0)] 0 0 (N, HP IA LA RA (thr SC 0) dr tl τ) r h') : pm_call (d + 3) 120 [.ref 36] (N, HP IA LA RA SC dr tl τ) r h' 0 0 := by
  obtain ⟨c1, c2, c3, c4, c5, c6, c7⟩ := hC
  refine m_fo_28 hD hd hS hn hO ?_
  rw [if_pos ho]
  refine pm_if rfl (fun _ => ?_) (fun z => absurd (show ¬ (1 : Int32) = 0 by decide) z)
  refine pm_go 2 (pc1 := 36) rfl ?_
  refine pm_cV [.int (nI 0)] rfl rfl rfl rfl rfl rfl (Nat.zero_le _) (Nat.zero_le _) (p_inInfo hD (by omega)) ?_
  have hend : ¬ (i = 0 ∧ t = 0) → pm_X (pm_call (d + 2)) jm_120 5 (some .int) (d + 2) 0 0 59 [(0, .ref 36)] [] 0 0 (N, HP IA LA RA (thr SC 0) dr tl τ) r h' := by
    intro hne
    refine pm_go 2 (pc1 := 61) rfl ?_
    have h := m_isFull (IA := va_up (va_up IA 37 τ.1) 38 (upd (IA 38) 0 (nI τ.2))) (LA := LA) (RA := RA) (SC := thr SC 0) (dr := dr) (tl := tl) (N := N) (d := d + 1) (s := 0) (dp := dp + 1) (i := i) (t := t) (c := c) (by omega) hD (by omega) (by rw [Nat.mul_zero, Nat.zero_add]; exact ⟨c1, c2, c3, c4, c5, c6, c7⟩)
    refine pm_cV [.int (nI 0)] rfl rfl rfl rfl rfl rfl (Nat.zero_le _) (Nat.zero_le _) h ?_
    exact k hne
  by_cases hi : i = 0
  · rw [if_pos ⟨by omega, by rw [c1, hi]; rfl⟩]
    refine pm_if rfl (fun z => absurd (show (1 : Int32) = 0 from z) (by decide)) (fun _ => ?_)
    refine pm_go 1 (pc1 := 43) rfl ?_
    refine pm_getf rfl rfl rfl ?_
    refine pm_go 1 (pc1 := 47) rfl ?_
    refine pm_getf rfl rfl rfl ?_
    refine pm_go 1 (pc1 := 51) rfl ?_
    refine pm_iald (j := 0) rfl rfl rfl (by omega) ?_
    refine pm_nm (y := nI (dp + 1)) hD ?_
    refine pm_iald (j := dp + 1) (N := 14) rfl rfl (cw_ti (by omega)) (by omega) ?_
    refine pm_nm (y := nI t) c3 ?_
    refine pm_if rfl (fun z => hend (fun h => z (show nI t = 0 by rw [h.2]; rfl))) (fun z => k3 ⟨hi, (nI_eqI (b := 0) (by omega) (by omega)).mp (Classical.not_not.mp z)⟩)
  · rw [if_neg (fun h => hi ((nI_eqI (b := 0) (by omega) (by omega)).mp (c1.symm.trans h.2)))]
    exact pm_if rfl (fun _ => hend (fun h => hi h.1)) (fun z => absurd rfl z)
theorem m_form3 (hD : IA 39 0 = nI (dp + 1)) (hd : dp + 1 ≤ 6) (hS : SC 36 16 = nI n) (hn : n ≤ 8) (hO : opsAt (LA 51) 0 n kk vv) (ho : fmOkN kk n) (hC : cntB IA 0 (dp + 1) i t c) (hi : i = 0 ∧ t = 0) : pm_call (d + 3) 120 [.ref 36] (N, HP IA LA RA SC dr tl τ) (.inl (some (.int (-3)))) (N, HP IA LA RA (thr SC 0) dr tl τ) 0 0 := by
  refine m_fo_59 hD hd hS hn hO ho hC (fun _ => ?_) (fun z => absurd hi z)
  refine pm_go 1 (pc1 := 58) rfl ?_
  exact pm_iret rfl rfl rfl rfl
theorem m_form4 (hD : IA 39 0 = nI (dp + 1)) (hd : dp + 1 ≤ 6) (hS : SC 36 16 = nI n) (hn : n ≤ 8) (hO : opsAt (LA 51) 0 n kk vv) (ho : fmOkN kk n) (hC : cntB IA 0 (dp + 1) i t c) (hi : ¬ (i = 0 ∧ t = 0)) (hc : c = 8) : pm_call (d + 3) 120 [.ref 36] (N, HP IA LA RA SC dr tl τ) (.inl (some (.int (-4)))) (N, HP IA LA RA (thr SC 0) dr tl τ) 0 0 := by
  refine m_fo_59 hD hd hS hn hO ho hC (fun z => absurd z hi) (fun _ => ?_)
  rw [if_pos hc]
  refine pm_if rfl (fun z => absurd (show (1 : Int32) = 0 from z) (by decide)) (fun _ => ?_)
  refine pm_go 1 (pc1 := 69) rfl ?_
  exact pm_iret rfl rfl rfl rfl
end MDD
