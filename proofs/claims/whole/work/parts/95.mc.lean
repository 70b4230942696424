/-! THE MODEL: enter, leave -/
/-- the model's stream behind an ENTER -/
def mE (τ : (Nat → Int32) × Nat) (w0 i w : Nat) : (Nat → Int32) × Nat := ((mC (mC (mP τ (nI 1) w0) i 6) w 4).1, ((mC (mC (mP τ (nI 1) w0) i 6) w 4).2 + 31) / 32 * 32 + 32)
section MCC
variable {IA : Nat → Nat → Int32} {LA : Nat → Nat → Int64} {RA : Nat → Nat → Option Nat} {SC : Nat → Nat → Int32} {dr : Nat} {tl : Nat → va_E} {N d dp i w w0 mm : Nat} {τ : (Nat → Int32) × Nat} {r : pm_V} {h' : pm_H}
theorem HP_fold2 {IA1 IA2 : Nat → Nat → Int32} (h : ∀ k, k ≠ 37 → k ≠ 38 → IA1 k = IA2 k) (h37 : IA1 37 = τ.1) (h38 : IA1 38 = upd (IA2 38) 0 (nI τ.2)) : HC IA1 LA RA SC dr tl = HP IA2 LA RA SC dr tl τ := by
  refine congrArg (fun z => HC z LA RA SC dr tl) ?_
  funext k
  by_cases e38 : k = 38
  · subst e38; rw [h38]; rfl
  by_cases e37 : k = 37
  · subst e37; rw [h37]; rfl
  show IA1 k = (if k = 38 then _ else if k = 37 then _ else IA2 k)
  rw [if_neg e38, if_neg e37, h k e37 e38]
theorem mE_b (h0 : w0 ≤ 8) (hi : i < 64) (hw : w ≤ 8) : τ.2 ≤ (mE τ w0 i w).2 ∧ (mE τ w0 i w).2 ≤ τ.2 + 300 ∧ 32 ≤ (mE τ w0 i w).2 ∧ (mE τ w0 i w).2 % 32 = 0 := by
  obtain ⟨a1, a2, -⟩ := mC_b (τ := mP τ (nI 1) w0) (x := i) (w := 6) (by omega) (by omega) (by omega)
  obtain ⟨b1, b2, -⟩ := mC_b (τ := mC (mP τ (nI 1) w0) i 6) (x := w) (w := 4) (by omega) (by omega) (by omega)
  have e : (mP τ (nI 1) w0).2 = τ.2 + w0 := rfl
  have e2 : (mE τ w0 i w).2 = ((mC (mC (mP τ (nI 1) w0) i 6) w 4).2 + 31) / 32 * 32 + 32 := rfl
  omega
theorem p_inInfo (hD : IA 39 0 = nI dp) (hd : dp ≤ 6) : pm_call (d + 1) 106 [.ref 36, .int (nI 0)] (N, HP IA LA RA SC dr tl τ) (.inl (some (.int (if 0 < dp ∧ IA 40 dp = 0 then 1 else 0)))) (N, HP IA LA RA SC dr tl τ) 0 0 := by
  have h := m_inInfo (IA := va_up (va_up IA 37 τ.1) 38 (upd (IA 38) 0 (nI τ.2))) (LA := LA) (RA := RA) (SC := SC) (dr := dr) (tl := tl) (N := N) (d := d) (s := 0) (dp := dp) (by omega) hD hd
  simp only [Nat.mul_zero, Nat.zero_add] at h
  exact h
theorem p_widthNow (hD : IA 39 0 = nI dp) (hd : dp ≤ 6) : pm_call (d + 1) 104 [.ref 36, .int (nI 0)] (N, HP IA LA RA SC dr tl τ) (.inl (some (.int (if dp = 0 then 2 else IA 41 dp)))) (N, HP IA LA RA SC dr tl τ) 0 0 := by
  have h := m_widthNow (IA := va_up (va_up IA 37 τ.1) 38 (upd (IA 38) 0 (nI τ.2))) (LA := LA) (RA := RA) (SC := SC) (dr := dr) (tl := tl) (N := N) (d := d) (s := 0) (dp := dp) (by omega) hD hd
  simp only [Nat.mul_zero, Nat.zero_add] at h
  exact h
theorem p_begin {mk : Int32} (hD : IA 39 0 = nI dp) (hd : dp < 6) (hi : i < 64) (hG : IA 46 i = nI mm) (hmm : mm ≤ 8) : pm_call (d + 1) 107 [.ref 36, .int (nI 0), .int (nI i), .int (nI w), .int mk] (N, HP IA LA RA SC dr tl τ) (.inl none) (N, HP (bgIA IA 0 dp i (nI w) mk mm) LA RA SC dr tl τ) 0 0 := by
  have h := m_begin (IA := va_up (va_up IA 37 τ.1) 38 (upd (IA 38) 0 (nI τ.2))) (LA := LA) (RA := RA) (SC := SC) (dr := dr) (tl := tl) (N := N) (d := d) (s := 0) (dp := dp) (i := i) (w := nI w) (mk := mk) (mm := mm) (by omega) hD hd hi (by rw [Nat.mul_zero, Nat.zero_add]; exact hG) hmm
  refine pm_h2 (HP_fold2 (fun k e37 e38 => ?_) rfl rfl) h
  simp [bgIA, bgI0, va_up, e37, e38]
theorem m_enter1 {iv wv : Int32} (ho : ¬ ((0 ≤ iv.toInt ∧ iv.toInt < 64) ∧ 2 ≤ wv.toInt ∧ wv.toInt ≤ 8)) : pm_call (d + 2) 108 [.ref 36, .int iv, .int wv] (N, HC IA LA RA SC dr tl) (.inl (some (.int (-1)))) (N, HC IA LA RA (thr SC 0) dr tl) 0 0 := by
  refine pm_callX jm_108 [(0, .ref 36), (1, .int iv), (2, .int wv)] rfl rfl rfl ?_
  refine pm_go 2 (pc1 := 2) rfl ?_
  refine pm_putU rfl rfl rfl rfl (hs_36_21 ..) ?_
  refine pm_go 3 (pc1 := 9) rfl ?_
  refine pm_cS [.int iv, .int 0, .int 63] rfl rfl rfl rfl rfl (Nat.zero_le _) (Nat.zero_le _) m_within ?_
  have e1 : ((0 : Int32) ≤ iv ∧ iv ≤ 63) ↔ (0 ≤ iv.toInt ∧ iv.toInt < 64) := by
    rw [i32_rng]
    show (0 : Int) ≤ iv.toInt ∧ iv.toInt ≤ 63 ↔ _
    omega
  have e2 : ((2 : Int32) ≤ wv ∧ wv ≤ 8) ↔ (2 ≤ wv.toInt ∧ wv.toInt ≤ 8) := by
    rw [i32_rng]
    show (2 : Int) ≤ wv.toInt ∧ wv.toInt ≤ 8 ↔ _
    omega
  have hend : pm_X (pm_call (d + 1)) jm_108 4 (some .int) (d + 1) 0 0 25 [(0, .ref 36), (1, .int iv), (2, .int wv)] [] 0 0 (N, HC IA LA RA (thr SC 0) dr tl) (.inl (some (.int (-1)))) (N, HC IA LA RA (thr SC 0) dr tl) := by
    refine pm_go 1 (pc1 := 26) rfl ?_
    exact pm_iret rfl rfl rfl rfl
  by_cases h1 : 0 ≤ iv.toInt ∧ iv.toInt < 64
  · rw [if_pos (e1.mpr h1)]
    refine pm_if rfl (fun z => absurd (show (1 : Int32) = 0 from z) (by decide)) (fun _ => ?_)
    refine pm_go 3 (pc1 := 19) rfl ?_
    refine pm_cS [.int wv, .int 2, .int 8] rfl rfl rfl rfl rfl (Nat.zero_le _) (Nat.zero_le _) m_within ?_
    rw [if_neg (fun z => ho ⟨h1, e2.mp z⟩)]
    exact pm_if rfl (fun z => absurd rfl z) (fun _ => hend)
  · rw [if_neg (fun z => h1 (e1.mp z))]
    exact pm_if rfl (fun _ => hend) (fun z => absurd rfl z)
theorem m_en_pre (hD : IA 39 0 = nI dp) (hd : dp ≤ 6) (hi : i < 64) (hw : 2 ≤ w ∧ w ≤ 8)
    (k2 : dp = 6 → pm_X (pm_call (d + 2)) jm_108 4 (some .int) (d + 2) 0 0 38 [(0, .ref 36), (1, .int (nI i)), (2, .int (nI w))] [] 0 0 (N, HP IA LA RA (thr SC 0) dr tl τ) r h')
    (k3 : ¬ dp = 6 → (0 < dp ∧ IA 40 dp = 0) → pm_X (pm_call (d + 2)) jm_108 4 (some .int) (d + 2) 0 0 49 [(0, .ref 36), (1, .int (nI i)), (2, .int (nI w))] [] 0 0 (N, HP IA LA RA (thr SC 0) dr tl τ) r h')
    (k4 : ¬ dp = 6 → ¬ (0 < dp ∧ IA 40 dp = 0) → pm_X (pm_call (d + 2)) jm_108 4 (some .int) (d + 2) 0 0 52 [(0, .ref 36), (1, .int (nI i)), (2, .int (nI w))] [] 0 0 (N, HP IA LA RA (thr SC 0) dr tl τ) r h') :
    pm_call (d + 3) 108 [.ref 36, .int (nI i), .int (nI w)] (N, HP IA LA RA SC dr tl τ) r h' 0 0 := by
  refine pm_callX jm_108 [(0, .ref 36), (1, .int (nI i)), (2, .int (nI w))] rfl rfl rfl ?_
  refine pm_go 2 (pc1 := 2) rfl ?_
  refine pm_putU rfl rfl rfl rfl (hs_36_21 ..) ?_
  refine pm_go 3 (pc1 := 9) rfl ?_
  refine pm_cS [.int (nI i), .int 0, .int 63] rfl rfl rfl rfl rfl (Nat.zero_le _) (Nat.zero_le _) m_within ?_
  rw [if_pos (show (0 : Int32) ≤ nI i ∧ nI i ≤ 63 from (nI_rng (a := 0) (b := 63) (by omega) (by omega) (by omega)).mpr (by omega))]
  refine pm_if rfl (fun z => absurd (show (1 : Int32) = 0 from z) (by decide)) (fun _ => ?_)
  refine pm_go 3 (pc1 := 19) rfl ?_
  refine pm_cS [.int (nI w), .int 2, .int 8] rfl rfl rfl rfl rfl (Nat.zero_le _) (Nat.zero_le _) m_within ?_
  rw [if_pos (show (2 : Int32) ≤ nI w ∧ nI w ≤ 8 from (nI_rng (a := 2) (b := 8) (by omega) (by omega) (by omega)).mpr (by omega))]
  refine pm_if rfl (fun _ => ?_) (fun z => absurd (show ¬ (1 : Int32) = 0 by decide) z)
  refine pm_go 1 (pc1 := 28) rfl ?_
  refine pm_getf rfl rfl rfl ?_
  refine pm_go 1 (pc1 := 32) rfl ?_
  refine pm_iald (j := 0) rfl rfl rfl (by omega) ?_
  refine pm_nm (y := nI dp) hD ?_
  refine pm_go 1 (pc1 := 35) rfl ?_
  refine pm_icmp rfl (fun z => ?_) (fun z => k2 ((nI_eqI (b := 6) (by omega) (by omega)).mp (Classical.not_not.mp z)))
  have h6 : ¬ dp = 6 := fun h => z (show nI dp = 6 by rw [h]; rfl)
  refine pm_go 2 (pc1 := 43) rfl ?_
  refine pm_cV [.int (nI 0)] rfl rfl rfl rfl rfl rfl (Nat.zero_le _) (Nat.zero_le _) (p_inInfo hD hd) ?_
  by_cases hI : 0 < dp ∧ IA 40 dp = 0
  · rw [if_pos hI]
    exact pm_if rfl (fun z => absurd (show (1 : Int32) = 0 from z) (by decide)) (fun _ => k3 h6 hI)
  · rw [if_neg hI]
    exact pm_if rfl (fun _ => k4 h6 hI) (fun z => absurd rfl z)
theorem m_enter2 (hD : IA 39 0 = nI 6) (hi : i < 64) (hw : 2 ≤ w ∧ w ≤ 8) : pm_call (d + 3) 108 [.ref 36, .int (nI i), .int (nI w)] (N, HP IA LA RA SC dr tl τ) (.inl (some (.int (-2)))) (N, HP IA LA RA (thr SC 0) dr tl τ) 0 0 := by
  refine m_en_pre hD (by omega) hi hw (fun _ => ?_) (fun z _ => absurd rfl z) (fun z _ => absurd rfl z)
  refine pm_go 1 (pc1 := 40) rfl ?_
  exact pm_iret rfl rfl rfl rfl
theorem m_enter3 (hD : IA 39 0 = nI dp) (hd : dp < 6) (hi : i < 64) (hw : 2 ≤ w ∧ w ≤ 8) (hI : 0 < dp ∧ IA 40 dp = 0) : pm_call (d + 3) 108 [.ref 36, .int (nI i), .int (nI w)] (N, HP IA LA RA SC dr tl τ) (.inl (some (.int (-3)))) (N, HP IA LA RA (thr SC 0) dr tl τ) 0 0 := by
  refine m_en_pre hD (by omega) hi hw (fun z => absurd z (by omega)) (fun _ _ => ?_) (fun _ z => absurd hI z)
  refine pm_go 1 (pc1 := 51) rfl ?_
  exact pm_iret rfl rfl rfl rfl
/-- the widths of the open blocks -/
abbrev wdOk (wd : Nat → Int32) (dp : Nat) : Prop := ∀ i, 1 ≤ i → i ≤ dp → ∃ z, 1 ≤ z ∧ z ≤ 8 ∧ wd i = nI z
theorem md_lv_en {wd : Nat → Int32} {p : Nat} (h : wdOk wd dp) (hw : w ≤ 8) : md_lv (upd wd (dp + 1) (nI w)) (dp + 1) p = 32 * ((p + w + 31) / 32 + dp) :=
  md_lv_s (by rw [upd_at]) hw (fun i h1 h2 => by obtain ⟨z, z1, z2, e⟩ := h i h1 h2; exact ⟨z, z1, by omega, by rw [upd_ne (by omega)]; exact e⟩)
theorem m_en_116 (hD : IA 39 0 = nI dp) (hd : dp < 6) (hi : i < 64) (hw : 2 ≤ w ∧ w ≤ 8) (hI : ¬ (0 < dp ∧ IA 40 dp = 0)) (hw0 : (if dp = 0 then 2 else IA 41 dp) = nI w0) (hw8 : w0 ≤ 8) (hE : τ.2 ≤ 2048) (hG : IA 46 i = nI mm) (hmm : mm ≤ 8)
    (k : pm_X (pm_call (d + 2)) jm_108 4 (some .int) (d + 2) 0 0 116 [(0, .ref 36), (3, .int (nI τ.2))] [] 0 0 (N, HP (bgIA IA 0 dp i (nI w) (nI ((mE τ w0 i w).2 / 32 - 1)) mm) LA RA (thr SC 0) dr tl (mE τ w0 i w)) r h') :
    pm_call (d + 3) 108 [.ref 36, .int (nI i), .int (nI w)] (N, HP IA LA RA SC dr tl τ) r h' 0 0 := by
  have hb := mE_b (τ := τ) (w0 := w0) (i := i) (w := w) hw8 hi hw.2
  obtain ⟨a1, a2, -⟩ := mC_b (τ := mP τ (nI 1) w0) (x := i) (w := 6) (by omega) (by omega) (by omega)
  obtain ⟨b1, b2, -⟩ := mC_b (τ := mC (mP τ (nI 1) w0) i 6) (x := w) (w := 4) (by omega) (by omega) (by omega)
  have e1 : (mP τ (nI 1) w0).2 = τ.2 + w0 := rfl
  have e2 : (mE τ w0 i w).2 = ((mC (mC (mP τ (nI 1) w0) i 6) w 4).2 + 31) / 32 * 32 + 32 := rfl
  refine m_en_pre hD (by omega) hi hw (fun z => absurd z (by omega)) (fun _ z => absurd z hI) (fun _ _ => ?_)
  refine pm_go 1 (pc1 := 53) rfl ?_
  refine pm_getf rfl rfl rfl ?_
  refine pm_go 1 (pc1 := 57) rfl ?_
  refine pm_iald (j := 0) rfl rfl rfl (by omega) ?_
  refine pm_nm (y := nI τ.2) rfl ?_
  refine pm_go 5 (pc1 := 63) rfl ?_
  refine pm_cV [.int (nI 0)] rfl rfl rfl rfl rfl rfl (Nat.zero_le _) (Nat.zero_le _) (p_widthNow hD (by omega)) ?_
  refine pm_nm (y := nI w0) hw0 ?_
  refine pm_cV [.int (nI 1), .int (nI w0)] rfl rfl rfl rfl rfl rfl (Nat.zero_le _) (Nat.zero_le _) (p_bits (by omega) (by omega)) ?_
  refine pm_go 3 (pc1 := 73) rfl ?_
  refine pm_cV [.int (nI i), .int (nI 6)] rfl rfl rfl rfl rfl rfl (Nat.zero_le _) (Nat.zero_le _) (p_chunks (by omega) (by omega) (by omega) (by omega)) ?_
  refine pm_go 3 (pc1 := 79) rfl ?_
  refine pm_cV [.int (nI w), .int (nI 4)] rfl rfl rfl rfl rfl rfl (Nat.zero_le _) (Nat.zero_le _) (p_chunks (by omega) (by omega) (by omega) (by omega)) ?_
  refine pm_go 2 (pc1 := 84) rfl ?_
  refine pm_cV [.int (nI 0)] rfl rfl rfl rfl rfl rfl (Nat.zero_le _) (Nat.zero_le _) (p_align (by omega)) ?_
  refine pm_go 1 (pc1 := 88) rfl ?_
  refine pm_getf rfl rfl rfl ?_
  refine pm_go 2 (pc1 := 93) rfl ?_
  refine pm_iald (j := 0) rfl rfl rfl (by omega) ?_
  refine pm_nm (y := nI (((mC (mC (mP τ (nI 1) w0) i 6) w 4).2 + 31) / 32 * 32)) rfl ?_
  refine pm_go 2 (pc1 := 97) rfl ?_
  rw [show nI (((mC (mC (mP τ (nI 1) w0) i 6) w 4).2 + 31) / 32 * 32) + (32 : Int32) = nI ((mE τ w0 i w).2) from nI_add _ 32]
  refine pm_iastU (j := 0) (n := 2) rfl rfl rfl (by omega) (hi_38 ..) ?_
  refine pm_hp (f1 := HP IA LA RA (thr SC 0) dr tl (mE τ w0 i w)) (HP_fold2 (fun k e37 e38 => by simp [va_up, e37, e38]) rfl (by show upd (upd (IA 38) 0 _) 0 _ = _; rw [cw_uu])) ?_
  refine pm_go 5 (pc1 := 103) rfl ?_
  refine pm_getf rfl rfl rfl ?_
  refine pm_go 1 (pc1 := 107) rfl ?_
  refine pm_iald (j := 0) rfl rfl rfl (by omega) ?_
  refine pm_nm (y := nI (mE τ w0 i w).2) rfl ?_
  refine pm_go 2 (pc1 := 111) rfl ?_
  rw [show nI (mE τ w0 i w).2 / (32 : Int32) = nI ((mE τ w0 i w).2 / 32) from cw_di (by omega)]
  refine pm_go 2 (pc1 := 113) rfl ?_
  rw [show nI ((mE τ w0 i w).2 / 32) - (1 : Int32) = nI ((mE τ w0 i w).2 / 32 - 1) from pk_sub (b := 1) (by omega)]
  refine pm_cV [.int (nI 0), .int (nI i), .int (nI w), .int (nI ((mE τ w0 i w).2 / 32 - 1))] rfl rfl rfl rfl rfl rfl (Nat.zero_le _) (Nat.zero_le _) (p_begin hD hd hi hG hmm) ?_
  exact pm_lv [(0, .ref 36), (3, .int (nI τ.2))] rfl rfl k
theorem m_en_fit (hD : IA 39 0 = nI dp) (hd : dp < 6) (hwd : wdOk (IA 41) dp) {τ1 : (Nat → Int32) × Nat} {E : Nat} {mk : Int32} (hw : 2 ≤ w ∧ w ≤ 8) (hb : E ≤ τ1.2) (hp : τ1.2 < 4000) : pm_call (d + 1) 105 [.ref 36, .int (nI E)] (N, HP (bgIA IA 0 dp i (nI w) mk mm) LA RA SC dr tl τ1) (.inl (some (.int (if (τ1.2 + w + 31) / 32 + dp ≤ 64 then 1 else 0)))) (N, HP (bgIA IA 0 dp i (nI w) mk mm) LA RA SC dr tl (if (τ1.2 + w + 31) / 32 + dp ≤ 64 then τ1 else (md_cl τ1.1 E (τ1.2 - E), E))) 0 0 := by
  have e41 : bgIA IA 0 dp i (nI w) mk mm 41 = upd (IA 41) (dp + 1) (nI w) := by
    show upd (IA 41) (7 * 0 + (dp + 1)) (nI w) = _
    rw [Nat.mul_zero, Nat.zero_add]
  have hlv : md_lv (bgIA IA 0 dp i (nI w) mk mm 41) (dp + 1) τ1.2 = 32 * ((τ1.2 + w + 31) / 32 + dp) := by rw [e41]; exact md_lv_en hwd hw.2
  have h := p_fits (IA := bgIA IA 0 dp i (nI w) mk mm) (LA := LA) (RA := RA) (SC := SC) (dr := dr) (tl := tl) (N := N) (d := d) (τ := τ1) (b := E) (dp := dp + 1) hb hp (upd_at (IA 39) 0 (nI (dp + 1))) (by omega) (fun j h1 h2 => by
    rw [e41]
    by_cases e : j = dp + 1
    · rw [e, upd_at]; exact ⟨w, hw.2, rfl⟩
    · rw [upd_ne e]
      obtain ⟨z, z1, z2, z3⟩ := hwd j h1 (by omega)
      exact ⟨z, z2, z3⟩) (by rw [hlv]; omega)
  rw [hlv] at h
  by_cases hf : (τ1.2 + w + 31) / 32 + dp ≤ 64
  · rw [if_pos (by omega), if_pos (by omega)] at h
    rw [if_pos hf, if_pos hf]
    exact h
  · rw [if_neg (by omega), if_neg (by omega)] at h
    rw [if_neg hf, if_neg hf]
    exact h
theorem m_enter0 (hD : IA 39 0 = nI dp) (hd : dp < 6) (hi : i < 64) (hw : 2 ≤ w ∧ w ≤ 8) (hI : ¬ (0 < dp ∧ IA 40 dp = 0)) (hw0 : (if dp = 0 then 2 else IA 41 dp) = nI w0) (hw8 : w0 ≤ 8) (hE : τ.2 ≤ 2048) (hG : IA 46 i = nI mm) (hmm : mm ≤ 8) (hwd : wdOk (IA 41) dp) (hR : ((mE τ w0 i w).2 + w + 31) / 32 + dp ≤ 64) :
    pm_call (d + 3) 108 [.ref 36, .int (nI i), .int (nI w)] (N, HP IA LA RA SC dr tl τ) (.inl (some (.int 0))) (N, HP (bgIA IA 0 dp i (nI w) (nI ((mE τ w0 i w).2 / 32 - 1)) mm) LA RA (thr SC 0) dr tl (mE τ w0 i w)) 0 0 := by
  have hb := mE_b (τ := τ) (w0 := w0) (i := i) (w := w) hw8 hi hw.2
  refine m_en_116 hD hd hi hw hI hw0 hw8 hE hG hmm ?_
  refine pm_go 2 (pc1 := 118) rfl ?_
  have h := m_en_fit (d := d + 1) (LA := LA) (RA := RA) (SC := thr SC 0) (dr := dr) (tl := tl) (N := N) (i := i) (mm := mm) (E := τ.2) (mk := nI ((mE τ w0 i w).2 / 32 - 1)) hD hd hwd (τ1 := mE τ w0 i w) hw (by omega) (by omega)
  rw [if_pos hR, if_pos hR] at h
  refine pm_cV [.int (nI τ.2)] rfl rfl rfl rfl rfl rfl (Nat.zero_le _) (Nat.zero_le _) h ?_
  refine pm_if rfl (fun z => absurd (show (1 : Int32) = 0 from z) (by decide)) (fun _ => ?_)
  refine pm_go 1 (pc1 := 125) rfl ?_
  exact pm_iret rfl rfl rfl rfl
theorem m_enter4 (hD : IA 39 0 = nI dp) (hd : dp < 6) (hi : i < 64) (hw : 2 ≤ w ∧ w ≤ 8) (hI : ¬ (0 < dp ∧ IA 40 dp = 0)) (hw0 : (if dp = 0 then 2 else IA 41 dp) = nI w0) (hw8 : w0 ≤ 8) (hE : τ.2 ≤ 2048) (hG : IA 46 i = nI mm) (hmm : mm ≤ 8) (hwd : wdOk (IA 41) dp) (hR : ¬ ((mE τ w0 i w).2 + w + 31) / 32 + dp ≤ 64) :
    pm_call (d + 3) 108 [.ref 36, .int (nI i), .int (nI w)] (N, HP IA LA RA SC dr tl τ) (.inl (some (.int (-4)))) (N, HP (va_up (bgIA IA 0 dp i (nI w) (nI ((mE τ w0 i w).2 / 32 - 1)) mm) 39 (upd (upd (IA 39) 0 (nI (dp + 1))) 0 (nI dp))) LA RA (thr SC 0) dr tl (md_cl (mE τ w0 i w).1 τ.2 ((mE τ w0 i w).2 - τ.2), τ.2)) 0 0 := by
  have hb := mE_b (τ := τ) (w0 := w0) (i := i) (w := w) hw8 hi hw.2
  refine m_en_116 hD hd hi hw hI hw0 hw8 hE hG hmm ?_
  refine pm_go 2 (pc1 := 118) rfl ?_
  have h := m_en_fit (d := d + 1) (LA := LA) (RA := RA) (SC := thr SC 0) (dr := dr) (tl := tl) (N := N) (i := i) (mm := mm) (E := τ.2) (mk := nI ((mE τ w0 i w).2 / 32 - 1)) hD hd hwd (τ1 := mE τ w0 i w) hw (by omega) (by omega)
  rw [if_neg hR, if_neg hR] at h
  refine pm_cV [.int (nI τ.2)] rfl rfl rfl rfl rfl rfl (Nat.zero_le _) (Nat.zero_le _) h ?_
  refine pm_if rfl (fun _ => ?_) (fun z => absurd rfl z)
  refine pm_go 1 (pc1 := 127) rfl ?_
  refine pm_getf rfl rfl rfl ?_
  refine pm_go 2 (pc1 := 132) rfl ?_
  refine pm_iald (j := 0) (N := 2) rfl rfl rfl (by omega) ?_
  refine pm_nm (y := nI (dp + 1)) (upd_at (IA 39) 0 (nI (dp + 1))) ?_
  refine pm_go 2 (pc1 := 135) rfl ?_
  rw [show nI (dp + 1) - (1 : Int32) = nI dp from by rw [show nI dp = nI (dp + 1 - 1) by rfl]; exact pk_sub (b := 1) (by omega)]
  refine pm_iastU (j := 0) (n := 2) rfl rfl rfl (by omega) (HP_st (fun _ _ => hi_39 ..) (by decide) (by decide)) ?_
  refine pm_go 1 (pc1 := 138) rfl ?_
  exact pm_iret rfl rfl rfl rfl
end MCC
