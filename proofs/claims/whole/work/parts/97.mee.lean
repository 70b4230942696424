/-! THE MODEL: form, written -/
section MEE
variable {IA : Nat → Nat → Int32} {LA : Nat → Nat → Int64} {RA : Nat → Nat → Option Nat} {SC : Nat → Nat → Int32} {dr : Nat} {tl : Nat → va_E} {N d dp i t c pl w n : Nat} {τ : (Nat → Int32) × Nat} {kk vv : Nat → Nat} {r : pm_V} {h' : pm_H} {bv : Int32}
theorem m_fo_op {k x : Nat} {kv : Int32} (hE : τ.2 < 3900) (hk : k ≤ 3) (hx : x < 2 ^ 31)
    (kx : pm_X (pm_call (d + 2)) jm_120 5 (some .int) (d + 2) 0 0 178 [(0, .ref 36), (1, .int bv), (2, .int kv)] [] 0 0 (N, HP IA LA RA SC dr tl (mOp τ k x)) r h') :
    pm_X (pm_call (d + 2)) jm_120 5 (some .int) (d + 2) 0 0 127 [(0, .ref 36), (1, .int bv), (2, .int kv), (3, .int (nI k)), (4, .int (nI x))] [] 0 0 (N, HP IA LA RA SC dr tl τ) r h' := by
  unfold mOp at kx
  by_cases k0 : k = 0
  · subst k0
    rw [if_pos rfl] at kx
    refine pm_go 2 (pc1 := 129) rfl ?_
    refine pm_if rfl (fun z => absurd rfl z) (fun _ => ?_)
    refine pm_go 3 (pc1 := 140) rfl ?_
    refine pm_if rfl (fun z => absurd rfl z) (fun _ => ?_)
    refine pm_go 2 (pc1 := 148) rfl ?_
    refine pm_cV [.int (nI 1), .int (nI 1)] rfl rfl rfl rfl rfl rfl (Nat.zero_le _) (Nat.zero_le _) (p_bits (by omega) (by omega)) ?_
    refine pm_go 1 (pc1 := 152) rfl ?_
    refine pm_if rfl (fun z => absurd rfl z) (fun _ => ?_)
    refine pm_go 3 (pc1 := 160) rfl ?_
    refine pm_cV [.int (nI x), .int (nI 8)] rfl rfl rfl rfl rfl rfl (Nat.zero_le _) (Nat.zero_le _) (p_chunks (by show τ.2 + 1 < _; omega) hx (by omega) (by omega)) ?_
    refine pm_go 1 (pc1 := 178) rfl ?_
    exact pm_lv [(0, .ref 36), (1, .int bv), (2, .int kv)] rfl rfl kx
  · rw [if_neg k0] at kx
    have hz : ¬ nI k = 0 := fun h => k0 ((nI_eqI (b := 0) (by omega) (by omega)).mp h)
    refine pm_go 2 (pc1 := 129) rfl ?_
    refine pm_if rfl (fun _ => ?_) (fun z => absurd hz z)
    refine pm_go 3 (pc1 := 139) rfl ?_
    rw [show (2 : Int32) * nI k = nI (2 * k) from pk_mul 2 k]
    refine pm_go 1 (pc1 := 140) rfl ?_
    refine pm_if rfl (fun _ => ?_) (fun z => absurd hz z)
    refine pm_go 1 (pc1 := 148) rfl ?_
    refine pm_cV [.int (nI (2 * k)), .int (nI 4)] rfl rfl rfl rfl rfl rfl (Nat.zero_le _) (Nat.zero_le _) (p_bits (by omega) (by omega)) ?_
    refine pm_go 1 (pc1 := 152) rfl ?_
    refine pm_if rfl (fun _ => ?_) (fun z => absurd hz z)
    refine pm_go 2 (pc1 := 168) rfl ?_
    by_cases k3 : k = 3
    · rw [if_pos k3] at kx
      refine pm_icmp rfl (fun _ => ?_) (fun z => absurd (show nI k = 3 by rw [k3]; rfl) z)
      exact pm_lv [(0, .ref 36), (1, .int bv), (2, .int kv)] rfl rfl kx
    · rw [if_neg k3] at kx
      refine pm_icmp rfl (fun z => absurd ((nI_eqI (b := 3) (by omega) (by omega)).mp z) k3) (fun _ => ?_)
      refine pm_go 3 (pc1 := 175) rfl ?_
      refine pm_cV [.int (nI x), .int (nI 5)] rfl rfl rfl rfl rfl rfl (Nat.zero_le _) (Nat.zero_le _) (p_chunks (by show τ.2 + 4 < _; omega) hx (by omega) (by omega)) ?_
      exact pm_lv [(0, .ref 36), (1, .int bv), (2, .int kv)] rfl rfl kx
theorem m_fo_loop (hS : SC 36 16 = nI n) (hn : n ≤ 8) (hO : opsAt (LA 51) 0 n kk vv) (hP : IA 50 0 = nI pl) (hpl : pl < 150) (hE : τ.2 < 2400)
    (kx : pm_X (pm_call (d + 2)) jm_120 5 (some .int) (d + 2) 0 0 206 [(0, .ref 36), (1, .int bv)] [] 0 0 (N, HP IA (va_up LA 48 (opCp (LA 48) (LA 51) (8 * pl) n)) RA SC dr tl (mFk kk vv τ n)) r h') : ∀ (j k : Nat), k + j = n →
    pm_X (pm_call (d + 2)) jm_120 5 (some .int) (d + 2) 0 0 98 [(0, .ref 36), (1, .int bv), (2, .int (nI k))] [] 0 0 (N, HP IA (va_up LA 48 (opCp (LA 48) (LA 51) (8 * pl) k)) RA SC dr tl (mFk kk vv τ k)) r h' := by
  intro j
  induction j with
  | zero =>
    intro k hk
    have e : k = n := by omega
    subst e
    refine pm_go 2 (pc1 := 100) rfl ?_
    refine pm_getf rfl rfl rfl ?_
    refine pm_nm (y := nI k) hS ?_
    refine pm_icmp rfl (fun _ => ?_) (fun z => absurd ((nI_leI (by omega) (by omega)).mpr (Nat.le_refl _)) z)
    exact pm_lv [(0, .ref 36), (1, .int bv)] rfl rfl kx
  | succ j ih =>
    intro k hk
    obtain ⟨o1, o2, o3⟩ := hO k (by omega)
    rw [Nat.zero_add] at o1
    have hb := mFk_b (kk := kk) (τ := τ) (fun k hk => (hO k hk).2.2) k (by omega)
    refine pm_go 2 (pc1 := 100) rfl ?_
    refine pm_getf rfl rfl rfl ?_
    refine pm_nm (y := nI n) hS ?_
    refine pm_icmp rfl (fun z => absurd ((nI_leI (by omega) (by omega)).mp z) (by omega)) (fun _ => ?_)
    refine pm_go 1 (pc1 := 107) rfl ?_
    refine pm_getf rfl rfl rfl ?_
    refine pm_go 1 (pc1 := 111) rfl ?_
    refine pm_lald (j := k) (n := 8) (g := LA 51) rfl rfl (cw_ti (by omega)) (by omega) ?_
    rw [o1]
    refine pm_cS [.long (opL (kk k) (vv k))] rfl rfl rfl rfl rfl (Nat.zero_le _) (Nat.zero_le _) (m_kindOf (by omega) o3) ?_
    refine pm_go 2 (pc1 := 117) rfl ?_
    refine pm_getf rfl rfl rfl ?_
    refine pm_go 1 (pc1 := 121) rfl ?_
    refine pm_lald (j := k) (n := 8) (g := LA 51) rfl rfl (cw_ti (by omega)) (by omega) ?_
    rw [o1]
    refine pm_cS [.long (opL (kk k) (vv k))] rfl rfl rfl rfl rfl (Nat.zero_le _) (Nat.zero_le _) (m_numberOf (by omega) o3) ?_
    refine pm_go 1 (pc1 := 127) rfl ?_
    refine pm_lv [(0, .ref 36), (1, .int bv), (2, .int (nI k)), (3, .int (nI (kk k))), (4, .int (nI (vv k)))] rfl rfl (m_fo_op (by omega) o2 o3 ?_)
    refine pm_go 1 (pc1 := 179) rfl ?_
    refine pm_getf rfl rfl rfl ?_
    refine pm_go 2 (pc1 := 185) rfl ?_
    refine pm_getf rfl rfl rfl ?_
    refine pm_go 1 (pc1 := 189) rfl ?_
    refine pm_iald (j := 0) rfl rfl rfl (by omega) ?_
    refine pm_nm (y := nI pl) hP ?_
    refine pm_go 3 (pc1 := 193) rfl ?_
    rw [show (8 : Int32) * nI pl + nI k = nI (8 * pl + k) from ixm 8 pl k]
    refine pm_go 1 (pc1 := 194) rfl ?_
    refine pm_getf rfl rfl rfl ?_
    refine pm_go 1 (pc1 := 198) rfl ?_
    refine pm_lald (j := k) (n := 8) (g := LA 51) rfl rfl (cw_ti (by omega)) (by omega) ?_
    refine pm_lastU (j := 8 * pl + k) (n := 2400) rfl rfl (cw_ti (by omega)) (by omega) (hl_48 ..) ?_
    refine pm_hp (f1 := HP IA (va_up LA 48 (opCp (LA 48) (LA 51) (8 * pl) (k + 1))) RA SC dr tl (mFk kk vv τ (k + 1))) (by rw [va_up2]; exact congrArg (fun z => HP IA (va_up LA 48 z) RA SC dr tl (mFk kk vv τ (k + 1))) (opCp_s (LA 48) (LA 51) (8 * pl) k)) ?_
    refine pm_go 2 (pc1 := 98) rfl ?_
    rw [nI_1]
    exact pm_lv [(0, .ref 36), (1, .int bv), (2, .int (nI (k + 1)))] rfl rfl (ih (k + 1) (by omega))
/-- the model's stream behind a FORM -/
def mFo (kk vv : Nat → Nat) (τ : (Nat → Int32) × Nat) (w n : Nat) : (Nat → Int32) × Nat := mFk kk vv (mC (mP τ (nI 3) w) n 5) n
theorem mFo_b (hn : n ≤ 8) (hw8 : w ≤ 8) (h : ∀ k, k < n → vv k < 2 ^ 31) : τ.2 ≤ (mFo kk vv τ w n).2 ∧ (mFo kk vv τ w n).2 ≤ τ.2 + 900 := by
  obtain ⟨a1, a2, -⟩ := mC_b (τ := mP τ (nI 3) w) (x := n) (w := 5) (by omega) (by omega) (by omega)
  have e : (mP τ (nI 3) w).2 = τ.2 + w := rfl
  have hb := mFk_b (kk := kk) (τ := mC (mP τ (nI 3) w) n 5) h n (Nat.le_refl _)
  have e2 : (mFo kk vv τ w n).2 = (mFk kk vv (mC (mP τ (nI 3) w) n 5) n).2 := rfl
  omega
theorem m_fit (hD : IA 39 0 = nI (dp + 1)) (hd : dp + 1 ≤ 6) (hwd : wdOk (IA 41) (dp + 1)) (hw : IA 41 (dp + 1) = nI w) (hw8 : w ≤ 8) {E : Nat} (hb : E ≤ τ.2) (hp : τ.2 < 4000) : pm_call (d + 1) 105 [.ref 36, .int (nI E)] (N, HP IA LA RA SC dr tl τ) (.inl (some (.int (if (τ.2 + w + 31) / 32 + dp ≤ 64 then 1 else 0)))) (N, HP IA LA RA SC dr tl (if (τ.2 + w + 31) / 32 + dp ≤ 64 then τ else (md_cl τ.1 E (τ.2 - E), E))) 0 0 := by
  have hlv : md_lv (IA 41) (dp + 1) τ.2 = 32 * ((τ.2 + w + 31) / 32 + dp) := md_lv_s hw hw8 (fun j h1 h2 => by obtain ⟨z, z1, z2, z3⟩ := hwd j h1 (by omega); exact ⟨z, z1, by omega, z3⟩)
  have h := p_fits (IA := IA) (LA := LA) (RA := RA) (SC := SC) (dr := dr) (tl := tl) (N := N) (d := d) (τ := τ) (b := E) (dp := dp + 1) hb hp hD hd (fun j h1 h2 => by obtain ⟨z, z1, z2, z3⟩ := hwd j h1 h2; exact ⟨z, z2, z3⟩) (by rw [hlv]; omega)
  rw [hlv] at h
  by_cases hf : (τ.2 + w + 31) / 32 + dp ≤ 64
  · rw [if_pos (by omega), if_pos (by omega)] at h
    rw [if_pos hf, if_pos hf]
    exact h
  · rw [if_neg (by omega), if_neg (by omega)] at h
    rw [if_neg hf, if_neg hf]
    exact h
theorem m_fo_206 (hD : IA 39 0 = nI (dp + 1)) (hd : dp + 1 ≤ 6) (hS : SC 36 16 = nI n) (hn : n ≤ 8) (hO : opsAt (LA 51) 0 n kk vv) (ho : fmOkN kk n) (hC : cntB IA 0 (dp + 1) i t c) (hi : ¬ (i = 0 ∧ t = 0)) (hc : c < 8) (hP : IA 50 0 = nI pl) (hpl : pl < 150) (hw : IA 41 (dp + 1) = nI w) (hw8 : w ≤ 8) (hE : τ.2 ≤ 2048)
    (k : pm_X (pm_call (d + 2)) jm_120 5 (some .int) (d + 2) 0 0 206 [(0, .ref 36), (1, .int (nI τ.2))] [] 0 0 (N, HP IA (va_up LA 48 (opCp (LA 48) (LA 51) (8 * pl) n)) RA (thr SC 0) dr tl (mFo kk vv τ w n)) r h') : pm_call (d + 3) 120 [.ref 36] (N, HP IA LA RA SC dr tl τ) r h' 0 0 := by
  obtain ⟨a1, a2, -⟩ := mC_b (τ := mP τ (nI 3) w) (x := n) (w := 5) (by omega) (by omega) (by omega)
  have e1 : (mP τ (nI 3) w).2 = τ.2 + w := rfl
  refine m_fo_59 hD hd hS hn hO ho hC (fun z => absurd z hi) (fun _ => ?_)
  rw [if_neg (by omega)]
  refine pm_if rfl (fun _ => ?_) (fun z => absurd rfl z)
  refine pm_go 1 (pc1 := 71) rfl ?_
  refine pm_getf rfl rfl rfl ?_
  refine pm_go 1 (pc1 := 75) rfl ?_
  refine pm_iald (j := 0) rfl rfl rfl (by omega) ?_
  refine pm_nm (y := nI τ.2) rfl ?_
  refine pm_go 5 (pc1 := 81) rfl ?_
  refine pm_cV [.int (nI 0)] rfl rfl rfl rfl rfl rfl (Nat.zero_le _) (Nat.zero_le _) (p_widthNow hD (by omega)) ?_
  refine pm_nm (y := nI w) (by rw [if_neg (by omega)]; exact hw) ?_
  refine pm_cV [.int (nI 3), .int (nI w)] rfl rfl rfl rfl rfl rfl (Nat.zero_le _) (Nat.zero_le _) (p_bits (by omega) (by omega)) ?_
  refine pm_go 2 (pc1 := 89) rfl ?_
  refine pm_getf rfl rfl rfl ?_
  refine pm_nm (y := nI n) hS ?_
  refine pm_go 1 (pc1 := 93) rfl ?_
  refine pm_cV [.int (nI n), .int (nI 5)] rfl rfl rfl rfl rfl rfl (Nat.zero_le _) (Nat.zero_le _) (p_chunks (by omega) (by omega) (by omega) (by omega)) ?_
  refine pm_go 2 (pc1 := 98) rfl ?_
  refine pm_hp (f1 := HP IA (va_up LA 48 (opCp (LA 48) (LA 51) (8 * pl) 0)) RA (thr SC 0) dr tl (mFk kk vv (mC (mP τ (nI 3) w) n 5) 0)) (by rw [opCp_0]; exact congrArg (fun z => HP IA z RA (thr SC 0) dr tl _) (va_up_id LA 48 _ rfl).symm) ?_
  exact pm_lv [(0, .ref 36), (1, .int (nI τ.2)), (2, .int (nI 0))] rfl rfl (m_fo_loop (SC := thr SC 0) hS hn hO hP hpl (by omega) k n 0 (by omega))
theorem m_form5 (hD : IA 39 0 = nI (dp + 1)) (hd : dp + 1 ≤ 6) (hS : SC 36 16 = nI n) (hn : n ≤ 8) (hO : opsAt (LA 51) 0 n kk vv) (ho : fmOkN kk n) (hC : cntB IA 0 (dp + 1) i t c) (hi : ¬ (i = 0 ∧ t = 0)) (hc : c < 8) (hP : IA 50 0 = nI pl) (hpl : pl < 150) (hwd : wdOk (IA 41) (dp + 1)) (hw : IA 41 (dp + 1) = nI w) (hw8 : w ≤ 8) (hE : τ.2 ≤ 2048) (hR : ¬ ((mFo kk vv τ w n).2 + w + 31) / 32 + dp ≤ 64) :
    pm_call (d + 3) 120 [.ref 36] (N, HP IA LA RA SC dr tl τ) (.inl (some (.int (-5)))) (N, HP IA (va_up LA 48 (opCp (LA 48) (LA 51) (8 * pl) n)) RA (thr SC 0) dr tl (md_cl (mFo kk vv τ w n).1 τ.2 ((mFo kk vv τ w n).2 - τ.2), τ.2)) 0 0 := by
  have hb := mFo_b (τ := τ) (kk := kk) hn hw8 (fun k hk => (hO k hk).2.2)
  refine m_fo_206 hD hd hS hn hO ho hC hi hc hP hpl hw hw8 hE ?_
  refine pm_go 2 (pc1 := 208) rfl ?_
  have h := m_fit (d := d + 1) (LA := va_up LA 48 (opCp (LA 48) (LA 51) (8 * pl) n)) (RA := RA) (SC := thr SC 0) (dr := dr) (tl := tl) (N := N) (τ := mFo kk vv τ w n) hD hd hwd hw hw8 hb.1 (by omega)
  rw [if_neg hR, if_neg hR] at h
  refine pm_cV [.int (nI τ.2)] rfl rfl rfl rfl rfl rfl (Nat.zero_le _) (Nat.zero_le _) h ?_
  refine pm_if rfl (fun z => absurd rfl z) (fun _ => ?_)
  refine pm_go 1 (pc1 := 216) rfl ?_
  exact pm_iret rfl rfl rfl rfl
/-- the arrays after a form that was written -/
def foM (IA : Nat → Nat → Int32) (dp i t c pl n : Nat) : Nat → Nat → Int32 := if 0 < i then tkO (va_up IA 49 (upd (IA 49) pl (nI n))) 0 (dp + 1) c pl else tkK (va_up IA 49 (upd (IA 49) pl (nI n))) 0 t c pl
theorem m_form0 (hD : IA 39 0 = nI (dp + 1)) (hd : dp + 1 ≤ 6) (hS : SC 36 16 = nI n) (hn : n ≤ 8) (hO : opsAt (LA 51) 0 n kk vv) (ho : fmOkN kk n) (hC : cntB IA 0 (dp + 1) i t c) (hi : ¬ (i = 0 ∧ t = 0)) (hc : c < 8) (hP : IA 50 0 = nI pl) (hpl : pl < 150) (hwd : wdOk (IA 41) (dp + 1)) (hw : IA 41 (dp + 1) = nI w) (hw8 : w ≤ 8) (hE : τ.2 ≤ 2048) (hR : ((mFo kk vv τ w n).2 + w + 31) / 32 + dp ≤ 64) :
    pm_call (d + 3) 120 [.ref 36] (N, HP IA LA RA SC dr tl τ) (.inl (some (.int (nI (c + 4))))) (N, HP (foM IA dp i t c pl n) (va_up LA 48 (opCp (LA 48) (LA 51) (8 * pl) n)) RA (va_up (thr SC 0) 36 (upd (thr SC 0 36) 16 0)) dr tl (mFo kk vv τ w n)) 0 0 := by
  have hb := mFo_b (τ := τ) (kk := kk) hn hw8 (fun k hk => (hO k hk).2.2)
  refine m_fo_206 hD hd hS hn hO ho hC hi hc hP hpl hw hw8 hE ?_
  refine pm_go 2 (pc1 := 208) rfl ?_
  have h := m_fit (d := d + 1) (LA := va_up LA 48 (opCp (LA 48) (LA 51) (8 * pl) n)) (RA := RA) (SC := thr SC 0) (dr := dr) (tl := tl) (N := N) (τ := mFo kk vv τ w n) hD hd hwd hw hw8 hb.1 (by omega)
  rw [if_pos hR, if_pos hR] at h
  refine pm_cV [.int (nI τ.2)] rfl rfl rfl rfl rfl rfl (Nat.zero_le _) (Nat.zero_le _) h ?_
  refine pm_if rfl (fun _ => ?_) (fun z => absurd (show ¬ (1 : Int32) = 0 by decide) z)
  refine pm_go 1 (pc1 := 218) rfl ?_
  refine pm_getf rfl rfl rfl ?_
  refine pm_go 1 (pc1 := 222) rfl ?_
  refine pm_getf rfl rfl rfl ?_
  refine pm_go 1 (pc1 := 226) rfl ?_
  refine pm_iald (j := 0) rfl rfl rfl (by omega) ?_
  refine pm_nm (y := nI pl) hP ?_
  refine pm_go 1 (pc1 := 228) rfl ?_
  refine pm_getf rfl rfl rfl ?_
  refine pm_nm (y := nI n) hS ?_
  refine pm_iastU (j := pl) (n := 300) rfl rfl (cw_ti (by omega)) (by omega) (HP_st (fun _ _ => hi_49 ..) (by decide) (by decide)) ?_
  refine pm_go 2 (pc1 := 234) rfl ?_
  refine pm_putU rfl rfl rfl rfl (hs_36_16 ..) ?_
  refine pm_go 2 (pc1 := 239) rfl ?_
  obtain ⟨c1, c2, c3, c4, c5, c6, c7⟩ := hC
  have hC' : cntB (va_up (va_up (va_up IA 49 (upd (IA 49) pl (nI n))) 37 (mFo kk vv τ w n).1) 38 (upd (IA 38) 0 (nI (mFo kk vv τ w n).2))) 0 (7 * 0 + (dp + 1)) i t c := by
    rw [Nat.mul_zero, Nat.zero_add]
    exact ⟨c1, c2, c3, c4, c5, c6, c7⟩
  by_cases hi0 : 0 < i
  · have h := m_takeO (IA := va_up (va_up (va_up IA 49 (upd (IA 49) pl (nI n))) 37 (mFo kk vv τ w n).1) 38 (upd (IA 38) 0 (nI (mFo kk vv τ w n).2))) (LA := va_up LA 48 (opCp (LA 48) (LA 51) (8 * pl) n)) (RA := RA) (SC := va_up (thr SC 0) 36 (upd (thr SC 0 36) 16 0)) (dr := dr) (tl := tl) (N := N) (d := d + 1) (s := 0) (dp := dp + 1) (by omega) hD (by omega) hC' hi0 hc hP hpl
    refine pm_cV [.int (nI 0)] rfl rfl rfl rfl rfl rfl (Nat.zero_le _) (Nat.zero_le _) h ?_
    refine pm_iret rfl rfl rfl ?_
    refine congrArg (Prod.mk N) (HP_fold2 (fun k e37 e38 => ?_) rfl ?_).symm
    · unfold foM
      rw [if_pos hi0]
      simp [tkO, va_up, e37, e38]
    · unfold foM
      rw [if_pos hi0]
      rfl
  · have h := m_takeK (IA := va_up (va_up (va_up IA 49 (upd (IA 49) pl (nI n))) 37 (mFo kk vv τ w n).1) 38 (upd (IA 38) 0 (nI (mFo kk vv τ w n).2))) (LA := va_up LA 48 (opCp (LA 48) (LA 51) (8 * pl) n)) (RA := RA) (SC := va_up (thr SC 0) 36 (upd (thr SC 0 36) 16 0)) (dr := dr) (tl := tl) (N := N) (d := d + 1) (s := 0) (dp := dp + 1) (by omega) hD (by omega) hC' (by omega) hc hP hpl
    refine pm_cV [.int (nI 0)] rfl rfl rfl rfl rfl rfl (Nat.zero_le _) (Nat.zero_le _) h ?_
    refine pm_iret rfl rfl rfl ?_
    refine congrArg (Prod.mk N) (HP_fold2 (fun k e37 e38 => ?_) rfl ?_).symm
    · unfold foM
      rw [if_neg hi0]
      simp [tkK, va_up, e37, e38]
    · unfold foM
      rw [if_neg hi0]
      rfl
end MEE
