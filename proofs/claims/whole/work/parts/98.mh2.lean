/-! THE MODEL: record -/
def mPk (τ : (Nat → Int32) × Nat) (nu : Nat → Nat) : Nat → (Nat → Int32) × Nat
  | 0 => τ
  | k + 1 => mC (mPk τ nu k) (nu (k + 1)) 6
def mPl (τ : (Nat → Int32) × Nat) (nu : Nat → Nat) (tot : Nat) : (Nat → Int32) × Nat := mPk (mC (mC τ (nu 0) 6) (tot - 1) 6) nu (tot - 1)
theorem mPk_b {τ : (Nat → Int32) × Nat} {nu : Nat → Nat} : ∀ k, (∀ i, i ≤ k → nu i < 2 ^ 31) → τ.2 ≤ (mPk τ nu k).2 ∧ (mPk τ nu k).2 ≤ τ.2 + 93 * k
  | 0, _ => ⟨Nat.le_refl _, Nat.le_refl _⟩
  | k + 1, h => by
    have h1 := mPk_b (τ := τ) k (fun i hi => h i (by omega))
    obtain ⟨a1, a2, -⟩ := mC_b (τ := mPk τ nu k) (w := 6) (h (k + 1) (Nat.le_refl _)) (by omega) (by omega)
    refine ⟨?_, ?_⟩
    · show _ ≤ (mC (mPk τ nu k) (nu (k + 1)) 6).2
      omega
    · show (mC (mPk τ nu k) (nu (k + 1)) 6).2 ≤ _
      omega
theorem mPl_b {τ : (Nat → Int32) × Nat} {nu : Nat → Nat} {vc : Nat} (hv : vc ≤ 16) (h : ∀ i, i < vc + 1 → nu i < 2 ^ 31) : τ.2 ≤ (mPl τ nu (vc + 1)).2 ∧ (mPl τ nu (vc + 1)).2 ≤ τ.2 + 1700 := by
  obtain ⟨a1, a2, -⟩ := mC_b (τ := τ) (w := 6) (h 0 (by omega)) (by omega) (by omega)
  obtain ⟨b1, b2, -⟩ := mC_b (τ := mC τ (nu 0) 6) (x := vc) (w := 6) (by omega) (by omega) (by omega)
  have hb := mPk_b (τ := mC (mC τ (nu 0) 6) vc 6) (nu := nu) vc (fun i hi => h i (by omega))
  have e : (mPl τ nu (vc + 1)).2 = (mPk (mC (mC τ (nu 0) 6) vc 6) nu vc).2 := rfl
  omega
theorem mF_b {τ : (Nat → Int32) × Nat} {kk vv nu : Nat → Nat} {n vc : Nat} (hB : fmB n kk vv) (h0 : 0 < n) (hn : n ≤ 8) (hv : vc ≤ 16) (hT : sgN kk n ≤ vc + 1) (h : ∀ i, i < vc + 1 → nu i < 2 ^ 31) : τ.2 ≤ (mF n kk vv τ nu (vc + 1)).2 ∧ (mF n kk vv τ nu (vc + 1)).2 ≤ τ.2 + 1700 := by
  have hSn : sgN kk n ≤ n := sgN_le
  have a := mSk_b (τ := τ) (nu := nu) hB (sgN kk n) hSn (fun i hi => h i (by omega))
  obtain ⟨b1, b2, -⟩ := mC_b (τ := mSk kk vv τ nu (sgN kk n)) (x := vc + 1 - sgN kk n) (w := 6) (by omega) (by omega) (by omega)
  unfold mF
  by_cases hR : rwN kk n
  · have c := mRk_b (τ := mC (mSk kk vv τ nu (sgN kk n)) (vc + 1 - sgN kk n) 6) (nu := nu) (S := sgN kk n) hB h0 (vc + 1 - sgN kk n) (fun i hi => h i (by omega))
    rw [if_pos hR]
    omega
  · rw [if_neg hR]
    omega
section MH2
variable {IA : Nat → Nat → Int32} {LA : Nat → Nat → Int64} {RA : Nat → Nat → Option Nat} {SC : Nat → Nat → Int32} {dr : Nat} {tl : Nat → va_E} {N d dp n f vc w cc : Nat} {τ τ1 : (Nat → Int32) × Nat} {kk vv nu : Nat → Nat} {r : pm_V} {h' : pm_H}
theorem m_rec1 {cv xv : Int32} (hD : IA 39 0 = nI 0) : pm_call (d + 1) 126 [.ref 36, .int cv, .int xv] (N, HP IA LA RA SC dr tl τ) (.inl (some (.int (-1)))) (N, HP IA LA RA (thr SC 0) dr tl τ) 0 0 := by
  refine pm_callX jm_126 [(0, .ref 36), (1, .int cv), (2, .int xv)] rfl rfl rfl ?_
  refine pm_go 2 (pc1 := 2) rfl ?_
  refine pm_putU rfl rfl rfl rfl (hs_36_21 ..) ?_
  refine pm_go 1 (pc1 := 6) rfl ?_
  refine pm_getf rfl rfl rfl ?_
  refine pm_go 1 (pc1 := 10) rfl ?_
  refine pm_iald (j := 0) rfl rfl rfl (by omega) ?_
  refine pm_nm (y := nI 0) hD ?_
  refine pm_if rfl (fun _ => ?_) (fun z => absurd rfl z)
  refine pm_go 1 (pc1 := 19) rfl ?_
  exact pm_iret rfl rfl rfl rfl
theorem m_rec1c {cv xv : Int32} (hD : IA 39 0 = nI (dp + 1)) (hd : dp + 1 ≤ 6) (hc : cv < 0) : pm_call (d + 1) 126 [.ref 36, .int cv, .int xv] (N, HP IA LA RA SC dr tl τ) (.inl (some (.int (-1)))) (N, HP IA LA RA (thr SC 0) dr tl τ) 0 0 := by
  refine pm_callX jm_126 [(0, .ref 36), (1, .int cv), (2, .int xv)] rfl rfl rfl ?_
  refine pm_go 2 (pc1 := 2) rfl ?_
  refine pm_putU rfl rfl rfl rfl (hs_36_21 ..) ?_
  refine pm_go 1 (pc1 := 6) rfl ?_
  refine pm_getf rfl rfl rfl ?_
  refine pm_go 1 (pc1 := 10) rfl ?_
  refine pm_iald (j := 0) rfl rfl rfl (by omega) ?_
  refine pm_nm (y := nI (dp + 1)) hD ?_
  refine pm_if rfl (fun z => absurd ((nI_eqI (b := 0) (by omega) (by omega)).mp z) (by omega)) (fun _ => ?_)
  refine pm_go 1 (pc1 := 15) rfl ?_
  refine pm_if rfl (fun z => absurd hc (Int32.not_lt.mpr z)) (fun _ => ?_)
  refine pm_go 1 (pc1 := 19) rfl ?_
  exact pm_iret rfl rfl rfl rfl
theorem m_rec_27 {xv : Int32} (hD : IA 39 0 = nI (dp + 1)) (hd : dp + 1 ≤ 6) (hc : cc < 2 ^ 31)
    (k : pm_X (pm_call (d + 4)) jm_126 7 (some .int) (d + 4) 0 0 27 [(0, .ref 36), (1, .int (nI cc)), (2, .int xv), (3, .int (nI (dp + 1)))] [] 0 0 (N, HP IA LA RA (thr SC 0) dr tl τ) r h') : pm_call (d + 5) 126 [.ref 36, .int (nI cc), .int xv] (N, HP IA LA RA SC dr tl τ) r h' 0 0 := by
  refine pm_callX jm_126 [(0, .ref 36), (1, .int (nI cc)), (2, .int xv)] rfl rfl rfl ?_
  refine pm_go 2 (pc1 := 2) rfl ?_
  refine pm_putU rfl rfl rfl rfl (hs_36_21 ..) ?_
  refine pm_go 1 (pc1 := 6) rfl ?_
  refine pm_getf rfl rfl rfl ?_
  refine pm_go 1 (pc1 := 10) rfl ?_
  refine pm_iald (j := 0) rfl rfl rfl (by omega) ?_
  refine pm_nm (y := nI (dp + 1)) hD ?_
  refine pm_if rfl (fun z => absurd ((nI_eqI (b := 0) (by omega) (by omega)).mp z) (by omega)) (fun _ => ?_)
  refine pm_go 1 (pc1 := 15) rfl ?_
  refine pm_if rfl (fun _ => ?_) (fun z => absurd (Int32.not_lt.mp (nI_pos hc)) z)
  refine pm_go 1 (pc1 := 21) rfl ?_
  refine pm_getf rfl rfl rfl ?_
  refine pm_go 1 (pc1 := 25) rfl ?_
  refine pm_iald (j := 0) rfl rfl rfl (by omega) ?_
  refine pm_nm (y := nI (dp + 1)) hD ?_
  refine pm_go 1 (pc1 := 27) rfl ?_
  exact pm_lv [(0, .ref 36), (1, .int (nI cc)), (2, .int xv), (3, .int (nI (dp + 1)))] rfl rfl k
theorem m_rec2 {xv : Int32} {m : Nat} (hD : IA 39 0 = nI (dp + 1)) (hd : dp + 1 ≤ 6) (hc : cc < 2 ^ 31) (h44 : IA 44 (dp + 1) = nI m) (hm : m ≤ 8) (hx : xv ≠ 2) (hx2 : ¬ (4 ≤ xv.toInt ∧ xv.toInt < 4 + (m : Int))) : pm_call (d + 5) 126 [.ref 36, .int (nI cc), .int xv] (N, HP IA LA RA SC dr tl τ) (.inl (some (.int (-2)))) (N, HP IA LA RA (thr SC 0) dr tl τ) 0 0 := by
  refine m_rec_27 hD hd hc ?_
  refine pm_go 2 (pc1 := 29) rfl ?_
  refine pm_icmp rfl (fun z => absurd z hx) (fun _ => ?_)
  refine pm_go 3 (pc1 := 35) rfl ?_
  refine pm_getf rfl rfl rfl ?_
  refine pm_go 1 (pc1 := 39) rfl ?_
  refine pm_iald (j := dp + 1) (N := 14) rfl rfl (cw_ti (by omega)) (by omega) ?_
  refine pm_nm (y := nI m) h44 ?_
  refine pm_go 2 (pc1 := 42) rfl ?_
  rw [show nI m + (3 : Int32) = nI (m + 3) from nI_add m 3]
  refine pm_cS [.int xv, .int 4, .int (nI (m + 3))] rfl rfl rfl rfl rfl (Nat.zero_le _) (Nat.zero_le _) m_within ?_
  rw [if_neg (fun z => hx2 (by
    have z2 := i32_rng.mp z
    rw [nI_toInt (by omega)] at z2
    have : (4 : Int) ≤ xv.toInt := z2.1
    omega))]
  refine pm_if rfl (fun _ => ?_) (fun z => absurd rfl z)
  refine pm_go 1 (pc1 := 61) rfl ?_
  exact pm_iret rfl rfl rfl rfl
theorem m_rec_48 {xx m : Nat} (hD : IA 39 0 = nI (dp + 1)) (hd : dp + 1 ≤ 6) (hc : cc < 2 ^ 31) (h44 : IA 44 (dp + 1) = nI m) (hm : m ≤ 8) (hx4 : 4 ≤ xx) (hx : xx < 4 + m) (hw : IA 41 (dp + 1) = nI w) (hw8 : w ≤ 8)
    (k : pm_X (pm_call (d + 4)) jm_126 7 (some .int) (d + 4) 0 0 56 [(0, .ref 36), (1, .int (nI cc)), (2, .int (nI xx)), (3, .int (nI (dp + 1)))] [.int (nI (xx / 2 ^ w))] 0 0 (N, HP IA LA RA (thr SC 0) dr tl τ) r h') : pm_call (d + 5) 126 [.ref 36, .int (nI cc), .int (nI xx)] (N, HP IA LA RA SC dr tl τ) r h' 0 0 := by
  refine m_rec_27 hD hd hc ?_
  refine pm_go 2 (pc1 := 29) rfl ?_
  refine pm_icmp rfl (fun z => absurd ((nI_eqI (b := 2) (by omega) (by omega)).mp z) (by omega)) (fun _ => ?_)
  refine pm_go 3 (pc1 := 35) rfl ?_
  refine pm_getf rfl rfl rfl ?_
  refine pm_go 1 (pc1 := 39) rfl ?_
  refine pm_iald (j := dp + 1) (N := 14) rfl rfl (cw_ti (by omega)) (by omega) ?_
  refine pm_nm (y := nI m) h44 ?_
  refine pm_go 2 (pc1 := 42) rfl ?_
  rw [show nI m + (3 : Int32) = nI (m + 3) from nI_add m 3]
  refine pm_cS [.int (nI xx), .int 4, .int (nI (m + 3))] rfl rfl rfl rfl rfl (Nat.zero_le _) (Nat.zero_le _) m_within ?_
  rw [if_pos (show (4 : Int32) ≤ nI xx ∧ nI xx ≤ nI (m + 3) from (nI_rng (a := 4) (by omega) (by omega) (by omega)).mpr (by omega))]
  refine pm_if rfl (fun z => absurd (show (1 : Int32) = 0 from z) (by decide)) (fun _ => ?_)
  refine pm_go 2 (pc1 := 50) rfl ?_
  refine pm_getf rfl rfl rfl ?_
  refine pm_go 1 (pc1 := 54) rfl ?_
  refine pm_iald (j := dp + 1) (N := 14) rfl rfl (cw_ti (by omega)) (by omega) ?_
  refine pm_nm (y := nI w) hw ?_
  refine pm_go 1 (pc1 := 56) rfl ?_
  rw [ny_sar (by omega) (by omega)]
  exact k
theorem m_recF2 {xx m : Nat} (hD : IA 39 0 = nI (dp + 1)) (hd : dp + 1 ≤ 6) (hc : cc < 2 ^ 31) (h44 : IA 44 (dp + 1) = nI m) (hm : m ≤ 8) (hx4 : 4 ≤ xx) (hx : xx < 4 + m) (hw : IA 41 (dp + 1) = nI w) (hw8 : w ≤ 8) (hxw : 2 ^ w ≤ xx) : pm_call (d + 5) 126 [.ref 36, .int (nI cc), .int (nI xx)] (N, HP IA LA RA SC dr tl τ) (.inl (some (.int (-2)))) (N, HP IA LA RA (thr SC 0) dr tl τ) 0 0 := by
  refine m_rec_48 hD hd hc h44 hm hx4 hx hw hw8 ?_
  have h1 : 0 < xx / 2 ^ w := Nat.div_pos hxw (Nat.two_pow_pos _)
  have h2 : xx / 2 ^ w ≤ xx := Nat.div_le_self _ _
  refine pm_if rfl (fun z => absurd ((nI_eqI (b := 0) (by omega) (by omega)).mp z) (by omega)) (fun _ => ?_)
  refine pm_go 1 (pc1 := 61) rfl ?_
  exact pm_iret rfl rfl rfl rfl
theorem m_rec_F86 {xx m : Nat} (hD : IA 39 0 = nI (dp + 1)) (hd : dp + 1 ≤ 6) (hc : cc < 2 ^ 31) (hcc : nu 0 = cc) (h44 : IA 44 (dp + 1) = nI m) (hm : m ≤ 8) (hx4 : 4 ≤ xx) (hx : xx < 4 + m) (hw : IA 41 (dp + 1) = nI w) (hw8 : w ≤ 8) (hxw : xx < 2 ^ w) (hF : IA 45 (8 * (dp + 1) + (xx - 4)) = nI f) (hU : nuM IA SC vc nu) (hB : fmB n kk vv) (hOk : fmOkN kk n) (hC : IA 49 f = nI n) (hO : opsAt (LA 48) (8 * f) n kk vv) (hf : f + 1 ≤ 300) (hn : n ≤ 8)
    (k : pm_X (pm_call (d + 4)) jm_126 7 (some .int) (d + 4) 0 0 140 [(0, .ref 36), (1, .int (nI cc)), (2, .int (nI xx)), (3, .int (nI (dp + 1))), (4, .int (nI f))] [.int (if fitN kk vv n nu (vc + 1) then 1 else 0)] 0 0 (N, HP IA LA RA (thr SC 0) dr tl τ) r h') : pm_call (d + 5) 126 [.ref 36, .int (nI cc), .int (nI xx)] (N, HP IA LA RA SC dr tl τ) r h' 0 0 := by
  refine m_rec_48 hD hd hc h44 hm hx4 hx hw hw8 ?_
  rw [show xx / 2 ^ w = 0 from Nat.div_eq_of_lt hxw]
  refine pm_if rfl (fun _ => ?_) (fun z => absurd rfl z)
  refine pm_go 2 (pc1 := 64) rfl ?_
  refine pm_icmp rfl (fun _ => ?_) (fun z => absurd (fun h => absurd ((nI_eqI (b := 2) (by omega) (by omega)).mp h) (by omega)) z)
  refine pm_go 1 (pc1 := 72) rfl ?_
  refine pm_getf rfl rfl rfl ?_
  refine pm_go 7 (pc1 := 83) rfl ?_
  rw [show (8 : Int32) * nI (dp + 1) + nI xx = nI (8 * (dp + 1) + xx) from ixm 8 (dp + 1) xx, show nI (8 * (dp + 1) + xx) - (4 : Int32) = nI (8 * (dp + 1) + (xx - 4)) from by rw [show 8 * (dp + 1) + (xx - 4) = 8 * (dp + 1) + xx - 4 by omega]; exact pk_sub (b := 4) (by omega)]
  refine pm_iald (j := 8 * (dp + 1) + (xx - 4)) (N := 112) rfl rfl (cw_ti (by omega)) (by omega) ?_
  refine pm_nm (y := nI f) hF ?_
  refine pm_go 3 (pc1 := 88) rfl ?_
  refine pm_icmp rfl (fun _ => ?_) (fun z => absurd (fun h => absurd ((nI_eqI (b := 2) (by omega) (by omega)).mp h) (by omega)) z)
  refine pm_go 2 (pc1 := 130) rfl ?_
  refine pm_icmp rfl (fun z => absurd ((nI_leI (b := 2) (by omega) (by omega)).mp z) (by omega)) (fun _ => ?_)
  refine pm_go 3 (pc1 := 137) rfl ?_
  have hff := p_fitsForm (d := d + 1) (N := N) (RA := RA) (SC := thr SC 0) (dr := dr) (tl := tl) (τ := τ) (IA := IA) (LA := LA) (nu := nu) (vc := vc) hU hB hOk hC hO hf hn
  rw [hcc] at hff
  refine pm_cV [.int (nI cc), .int (nI f)] rfl rfl rfl rfl rfl rfl (Nat.zero_le _) (Nat.zero_le _) hff ?_
  exact pm_lv [(0, .ref 36), (1, .int (nI cc)), (2, .int (nI xx)), (3, .int (nI (dp + 1))), (4, .int (nI f))] rfl rfl k
theorem m_recF3 {xx m : Nat} (hD : IA 39 0 = nI (dp + 1)) (hd : dp + 1 ≤ 6) (hc : cc < 2 ^ 31) (hcc : nu 0 = cc) (h44 : IA 44 (dp + 1) = nI m) (hm : m ≤ 8) (hx4 : 4 ≤ xx) (hx : xx < 4 + m) (hw : IA 41 (dp + 1) = nI w) (hw8 : w ≤ 8) (hxw : xx < 2 ^ w) (hF : IA 45 (8 * (dp + 1) + (xx - 4)) = nI f) (hU : nuM IA SC vc nu) (hB : fmB n kk vv) (hOk : fmOkN kk n) (hC : IA 49 f = nI n) (hO : opsAt (LA 48) (8 * f) n kk vv) (hf : f + 1 ≤ 300) (hn : n ≤ 8) (hM : ¬ fitN kk vv n nu (vc + 1)) : pm_call (d + 5) 126 [.ref 36, .int (nI cc), .int (nI xx)] (N, HP IA LA RA SC dr tl τ) (.inl (some (.int (-3)))) (N, HP IA LA RA (thr SC 0) dr tl τ) 0 0 := by
  refine m_rec_F86 hD hd hc hcc h44 hm hx4 hx hw hw8 hxw hF hU hB hOk hC hO hf hn ?_
  rw [if_neg hM]
  refine pm_if rfl (fun z => absurd rfl z) (fun _ => ?_)
  refine pm_go 1 (pc1 := 145) rfl ?_
  exact pm_iret rfl rfl rfl rfl
/-- from the room's test on -/
theorem m_rec_t5 (hD : IA 39 0 = nI (dp + 1)) (hd : dp + 1 ≤ 6) (hwd : wdOk (IA 41) (dp + 1)) (hw : IA 41 (dp + 1) = nI w) (hw8 : w ≤ 8) {E : Nat} (hb : E ≤ τ1.2) (hp : τ1.2 < 4000) (hR : ¬ (τ1.2 + w + 31) / 32 + dp ≤ 64) : pm_X (pm_call (d + 1)) jm_126 7 (some .int) (d + 1) 0 0 228 [(0, .ref 36), (3, .int (nI (dp + 1))), (5, .int (nI E))] [] 0 0 (N, HP IA LA RA SC dr tl τ1) (.inl (some (.int (-5)))) (N, HP IA LA RA SC dr tl (md_cl τ1.1 E (τ1.2 - E), E)) := by
  have h := m_fit (d := d) (LA := LA) (RA := RA) (SC := SC) (dr := dr) (tl := tl) (N := N) (τ := τ1) hD hd hwd hw hw8 hb hp
  rw [if_neg hR, if_neg hR] at h
  refine pm_go 2 (pc1 := 231) rfl ?_
  refine pm_cV [.int (nI E)] rfl rfl rfl rfl rfl rfl (Nat.zero_le _) (Nat.zero_le _) h ?_
  refine pm_if rfl (fun z => absurd rfl z) (fun _ => ?_)
  refine pm_go 1 (pc1 := 239) rfl ?_
  exact pm_iret rfl rfl rfl rfl
/-- the arrays after a record -/
def rcM (IA : Nat → Nat → Int32) (dp : Nat) : Nat → Nat → Int32 := if IA 40 (dp + 1) = 0 then va_up IA 43 (upd (IA 43) (dp + 1) (IA 52 0)) else IA
theorem m_rec_t0 (hD : IA 39 0 = nI (dp + 1)) (hd : dp + 1 ≤ 6) (hwd : wdOk (IA 41) (dp + 1)) (hw : IA 41 (dp + 1) = nI w) (hw8 : w ≤ 8) {E : Nat} (hb : E ≤ τ1.2) (hp : τ1.2 < 4000) (hR : (τ1.2 + w + 31) / 32 + dp ≤ 64) : pm_X (pm_call (d + 1)) jm_126 7 (some .int) (d + 1) 0 0 228 [(0, .ref 36), (3, .int (nI (dp + 1))), (5, .int (nI E))] [] 0 0 (N, HP IA LA RA SC dr tl τ1) (.inl (some (.int (nI (τ1.2 - E))))) (N, HP (rcM IA dp) LA RA (va_up SC 36 (upd (SC 36) 18 0)) dr tl τ1) := by
  have h := m_fit (d := d) (LA := LA) (RA := RA) (SC := SC) (dr := dr) (tl := tl) (N := N) (τ := τ1) hD hd hwd hw hw8 hb hp
  rw [if_pos hR, if_pos hR] at h
  refine pm_go 2 (pc1 := 231) rfl ?_
  refine pm_cV [.int (nI E)] rfl rfl rfl rfl rfl rfl (Nat.zero_le _) (Nat.zero_le _) h ?_
  refine pm_if rfl (fun _ => ?_) (fun z => absurd (show ¬ (1 : Int32) = 0 by decide) z)
  have hend : ∀ IA2 : Nat → Nat → Int32, pm_X (pm_call (d + 1)) jm_126 7 (some .int) (d + 1) 0 0 261 [(0, .ref 36), (3, .int (nI (dp + 1))), (5, .int (nI E))] [] 0 0 (N, HP IA2 LA RA SC dr tl τ1) (.inl (some (.int (nI (τ1.2 - E))))) (N, HP IA2 LA RA (va_up SC 36 (upd (SC 36) 18 0)) dr tl τ1) := by
    intro IA2
    refine pm_go 2 (pc1 := 263) rfl ?_
    refine pm_putU rfl rfl rfl rfl (hs_36_18 ..) ?_
    refine pm_go 1 (pc1 := 267) rfl ?_
    refine pm_getf rfl rfl rfl ?_
    refine pm_go 1 (pc1 := 271) rfl ?_
    refine pm_iald (j := 0) rfl rfl rfl (by omega) ?_
    refine pm_nm (y := nI τ1.2) rfl ?_
    refine pm_go 2 (pc1 := 275) rfl ?_
    rw [show nI τ1.2 - nI E = nI (τ1.2 - E) from pk_sub hb]
    exact pm_iret rfl rfl rfl rfl
  refine pm_go 1 (pc1 := 241) rfl ?_
  refine pm_getf rfl rfl rfl ?_
  refine pm_go 1 (pc1 := 245) rfl ?_
  refine pm_iald (j := dp + 1) (N := 14) rfl rfl (cw_ti (by omega)) (by omega) ?_
  refine pm_nm (y := IA 40 (dp + 1)) rfl ?_
  unfold rcM
  by_cases h0 : IA 40 (dp + 1) = 0
  · rw [if_pos h0]
    refine pm_if rfl (fun z => absurd h0 z) (fun _ => ?_)
    refine pm_go 1 (pc1 := 250) rfl ?_
    refine pm_getf rfl rfl rfl ?_
    refine pm_go 2 (pc1 := 255) rfl ?_
    refine pm_getf rfl rfl rfl ?_
    refine pm_go 1 (pc1 := 259) rfl ?_
    refine pm_iald (j := 0) (N := 16) rfl rfl rfl (by omega) ?_
    refine pm_nm (y := IA 52 0) rfl ?_
    refine pm_iastU (j := dp + 1) (n := 14) rfl rfl (cw_ti (by omega)) (by omega) (HP_st (fun _ _ => hi_43 ..) (by decide) (by decide)) ?_
    exact hend _
  · rw [if_neg h0]
    exact pm_if rfl (fun _ => hend _) (fun z => absurd h0 z)
theorem m_rec_F228 {xx m : Nat} (hD : IA 39 0 = nI (dp + 1)) (hd : dp + 1 ≤ 6) (hc : cc < 2 ^ 31) (hcc : nu 0 = cc) (h44 : IA 44 (dp + 1) = nI m) (hm : m ≤ 8) (hx4 : 4 ≤ xx) (hx : xx < 4 + m) (hw : IA 41 (dp + 1) = nI w) (hw8 : w ≤ 8) (hxw : xx < 2 ^ w) (hF : IA 45 (8 * (dp + 1) + (xx - 4)) = nI f) (hU : nuM IA SC vc nu) (hB : fmB n kk vv) (hOk : fmOkN kk n) (hC : IA 49 f = nI n) (hO : opsAt (LA 48) (8 * f) n kk vv) (hf : f + 1 ≤ 300) (hn : n ≤ 8) (hM : fitN kk vv n nu (vc + 1)) (hE : τ.2 ≤ 2048)
    (k : pm_X (pm_call (d + 4)) jm_126 7 (some .int) (d + 4) 0 0 228 [(0, .ref 36), (3, .int (nI (dp + 1))), (5, .int (nI τ.2))] [] 0 0 (N, HP IA LA RA (thr SC 0) dr tl (mF n kk vv (mP τ (nI xx) w) nu (vc + 1))) r h') : pm_call (d + 5) 126 [.ref 36, .int (nI cc), .int (nI xx)] (N, HP IA LA RA SC dr tl τ) r h' 0 0 := by
  refine m_rec_F86 hD hd hc hcc h44 hm hx4 hx hw hw8 hxw hF hU hB hOk hC hO hf hn ?_
  rw [if_pos hM]
  refine pm_if rfl (fun _ => ?_) (fun z => absurd (show ¬ (1 : Int32) = 0 by decide) z)
  refine pm_go 1 (pc1 := 147) rfl ?_
  refine pm_getf rfl rfl rfl ?_
  refine pm_go 1 (pc1 := 151) rfl ?_
  refine pm_iald (j := 0) rfl rfl rfl (by omega) ?_
  refine pm_nm (y := nI τ.2) rfl ?_
  refine pm_go 4 (pc1 := 157) rfl ?_
  refine pm_getf rfl rfl rfl ?_
  refine pm_go 1 (pc1 := 161) rfl ?_
  refine pm_iald (j := dp + 1) (N := 14) rfl rfl (cw_ti (by omega)) (by omega) ?_
  refine pm_nm (y := nI w) hw ?_
  refine pm_cV [.int (nI xx), .int (nI w)] rfl rfl rfl rfl rfl rfl (Nat.zero_le _) (Nat.zero_le _) (p_bits (by omega) (by omega)) ?_
  refine pm_go 2 (pc1 := 167) rfl ?_
  refine pm_icmp rfl (fun _ => ?_) (fun z => absurd (fun h => absurd ((nI_eqI (b := 2) (by omega) (by omega)).mp h) (by omega)) z)
  refine pm_go 3 (pc1 := 225) rfl ?_
  have hbf := p_byForm (d := d) (N := N) (RA := RA) (SC := thr SC 0) (dr := dr) (tl := tl) (τ := mP τ (nI xx) w) (IA := IA) (LA := LA) (nu := nu) (vc := vc) hU hB hOk hC hO hf hn hM.1 (by show τ.2 + w < 2100; omega)
  rw [hcc] at hbf
  refine pm_cV [.int (nI cc), .int (nI f)] rfl rfl rfl rfl rfl rfl (Nat.zero_le _) (Nat.zero_le _) hbf ?_
  exact pm_lv [(0, .ref 36), (3, .int (nI (dp + 1))), (5, .int (nI τ.2))] rfl rfl k
/-- whether a plain record may stand in INFO -/
abbrev plN (nu : Nat → Nat) (vc : Nat) : Prop := nu 0 = 1 ∧ vc = 1 ∧ 1 ≤ nu 1 ∧ nu 1 ≤ 63
theorem m_rec_P128 (hD : IA 39 0 = nI (dp + 1)) (hd : dp + 1 ≤ 6) (hc : cc < 2 ^ 31) (hcc : nu 0 = cc) (hw : IA 41 (dp + 1) = nI w) (hw2 : 2 ≤ w) (hw8 : w ≤ 8) (hU : nuM IA SC vc nu)
    (k1 : (IA 40 (dp + 1) = 0 → plN nu vc) → pm_X (pm_call (d + 4)) jm_126 7 (some .int) (d + 4) 0 0 128 [(0, .ref 36), (1, .int (nI cc)), (2, .int 2), (3, .int (nI (dp + 1))), (4, .int 0)] [] 0 0 (N, HP IA LA RA (thr SC 0) dr tl τ) r h')
    (k2 : ¬ (IA 40 (dp + 1) = 0 → plN nu vc) → pm_X (pm_call (d + 4)) jm_126 7 (some .int) (d + 4) 0 0 143 [(0, .ref 36), (1, .int (nI cc)), (2, .int 2), (3, .int (nI (dp + 1))), (4, .int 0)] [] 0 0 (N, HP IA LA RA (thr SC 0) dr tl τ) r h') : pm_call (d + 5) 126 [.ref 36, .int (nI cc), .int 2] (N, HP IA LA RA SC dr tl τ) r h' 0 0 := by
  obtain ⟨u1, u2, u3, u4⟩ := hU
  refine m_rec_27 hD hd hc ?_
  refine pm_go 2 (pc1 := 29) rfl ?_
  refine pm_icmp rfl (fun _ => ?_) (fun z => absurd rfl z)
  refine pm_go 2 (pc1 := 50) rfl ?_
  refine pm_getf rfl rfl rfl ?_
  refine pm_go 1 (pc1 := 54) rfl ?_
  refine pm_iald (j := dp + 1) (N := 14) rfl rfl (cw_ti (by omega)) (by omega) ?_
  refine pm_nm (y := nI w) hw ?_
  refine pm_go 1 (pc1 := 56) rfl ?_
  rw [show (2 : Int32) >>> (nI w &&& 31) = nI 0 from by
    rw [show (2 : Int32) = nI 2 from rfl, ny_sar (by omega) (by omega), Nat.div_eq_of_lt (Nat.lt_of_lt_of_le (show 2 < 2 ^ 2 by decide) (Nat.pow_le_pow_right (by omega) hw2))]]
  refine pm_if rfl (fun _ => ?_) (fun z => absurd rfl z)
  refine pm_go 2 (pc1 := 64) rfl ?_
  refine pm_icmp rfl (fun z => absurd rfl z) (fun _ => ?_)
  refine pm_go 5 (pc1 := 88) rfl ?_
  refine pm_icmp rfl (fun z => absurd rfl z) (fun _ => ?_)
  refine pm_go 1 (pc1 := 92) rfl ?_
  refine pm_getf rfl rfl rfl ?_
  refine pm_go 1 (pc1 := 96) rfl ?_
  refine pm_iald (j := dp + 1) (N := 14) rfl rfl (cw_ti (by omega)) (by omega) ?_
  refine pm_nm (y := IA 40 (dp + 1)) rfl ?_
  refine pm_if rfl (fun z => pm_lv [(0, .ref 36), (1, .int (nI cc)), (2, .int 2), (3, .int (nI (dp + 1))), (4, .int 0)] rfl rfl (k1 (fun h => absurd h z))) (fun z => ?_)
  have h0 : IA 40 (dp + 1) = 0 := Classical.not_not.mp z
  have hkf : ¬ plN nu vc → pm_X (pm_call (d + 4)) jm_126 7 (some .int) (d + 4) 0 0 143 [(4, .int 0), (0, .ref 36), (1, .int (nI cc)), (2, .int 2), (3, .int (nI (dp + 1)))] [] 0 0 (N, HP IA LA RA (thr SC 0) dr tl τ) r h' := fun h => pm_lv [(0, .ref 36), (1, .int (nI cc)), (2, .int 2), (3, .int (nI (dp + 1))), (4, .int 0)] rfl rfl (k2 (fun g => h (g h0)))
  refine pm_go 2 (pc1 := 102) rfl ?_
  refine pm_icmp rfl (fun z => hkf (fun h => z (show nI cc = 1 by rw [← hcc, h.1]; rfl))) (fun z => ?_)
  have hc1 : cc = 1 := (nI_eqI (b := 1) hc (by omega)).mp (Classical.not_not.mp z)
  refine pm_go 1 (pc1 := 106) rfl ?_
  refine pm_getf rfl rfl rfl ?_
  refine pm_nm (y := nI vc) u1 ?_
  refine pm_go 1 (pc1 := 110) rfl ?_
  refine pm_icmp rfl (fun z => hkf (fun h => z (show nI vc = 1 by rw [h.2.1]; rfl))) (fun z => ?_)
  have hv1 : vc = 1 := (nI_eqI (b := 1) (by omega) (by omega)).mp (Classical.not_not.mp z)
  refine pm_go 1 (pc1 := 114) rfl ?_
  refine pm_getf rfl rfl rfl ?_
  refine pm_go 1 (pc1 := 118) rfl ?_
  refine pm_iald (j := 0) (N := 16) rfl rfl rfl (by omega) ?_
  refine pm_nm (y := nI (nu 1)) (u4 0 (by omega)).1 ?_
  refine pm_go 2 (pc1 := 122) rfl ?_
  refine pm_cS [.int (nI (nu 1)), .int 1, .int 63] rfl rfl rfl rfl rfl (Nat.zero_le _) (Nat.zero_le _) m_within ?_
  have er : ((1 : Int32) ≤ nI (nu 1) ∧ nI (nu 1) ≤ 63) ↔ (1 ≤ nu 1 ∧ nu 1 ≤ 63) := nI_rng (a := 1) (b := 63) (u4 0 (by omega)).2 (by omega) (by omega)
  by_cases hr : 1 ≤ nu 1 ∧ nu 1 ≤ 63
  · rw [if_pos (er.mpr hr)]
    refine pm_if rfl (fun z => absurd (show (1 : Int32) = 0 from z) (by decide)) (fun _ => ?_)
    exact pm_lv [(0, .ref 36), (1, .int (nI cc)), (2, .int 2), (3, .int (nI (dp + 1))), (4, .int 0)] rfl rfl (k1 (fun _ => ⟨hcc.trans hc1, hv1, hr⟩))
  · rw [if_neg (fun h => hr (er.mp h))]
    exact pm_if rfl (fun _ => hkf (fun h => hr h.2.2)) (fun z => absurd rfl z)
theorem m_recP3 (hD : IA 39 0 = nI (dp + 1)) (hd : dp + 1 ≤ 6) (hc : cc < 2 ^ 31) (hcc : nu 0 = cc) (hw : IA 41 (dp + 1) = nI w) (hw2 : 2 ≤ w) (hw8 : w ≤ 8) (hU : nuM IA SC vc nu) (hM : ¬ (IA 40 (dp + 1) = 0 → plN nu vc)) : pm_call (d + 5) 126 [.ref 36, .int (nI cc), .int 2] (N, HP IA LA RA SC dr tl τ) (.inl (some (.int (-3)))) (N, HP IA LA RA (thr SC 0) dr tl τ) 0 0 := by
  refine m_rec_P128 hD hd hc hcc hw hw2 hw8 hU (fun z => absurd z hM) (fun _ => ?_)
  refine pm_go 1 (pc1 := 145) rfl ?_
  exact pm_iret rfl rfl rfl rfl
theorem m_pl_loop (hU : nuM IA SC vc nu) (hE : τ.2 < 3000) {ev bv cv : Int32}
    (kx : pm_X (pm_call (d + 4)) jm_126 7 (some .int) (d + 4) 0 0 228 [(0, .ref 36), (3, .int bv), (5, .int ev)] [] 0 0 (N, HP IA LA RA SC dr tl (mPk τ nu vc)) r h') : ∀ (j k : Nat), k + j = vc →
    pm_X (pm_call (d + 4)) jm_126 7 (some .int) (d + 4) 0 0 190 [(0, .ref 36), (3, .int bv), (5, .int ev), (6, .int (nI k))] [] 0 0 (N, HP IA LA RA SC dr tl (mPk τ nu k)) r h' := by
  have u1 := hU.1
  have u2 := hU.2.1
  have u4 := hU.2.2.2
  intro j
  induction j with
  | zero =>
    intro k hk
    have e : k = vc := by omega
    subst e
    refine pm_go 2 (pc1 := 193) rfl ?_
    refine pm_getf rfl rfl rfl ?_
    refine pm_nm (y := nI k) u1 ?_
    refine pm_icmp rfl (fun _ => ?_) (fun z => absurd ((nI_leI (by omega) (by omega)).mpr (Nat.le_refl _)) z)
    refine pm_go 1 (pc1 := 228) rfl ?_
    exact pm_lv [(0, .ref 36), (3, .int bv), (5, .int ev)] rfl rfl kx
  | succ j ih =>
    intro k hk
    have hb := mPk_b (τ := τ) (nu := nu) k (fun i hi => nuM_b hU i (by omega))
    refine pm_go 2 (pc1 := 193) rfl ?_
    refine pm_getf rfl rfl rfl ?_
    refine pm_nm (y := nI vc) u1 ?_
    refine pm_icmp rfl (fun z => absurd ((nI_leI (by omega) (by omega)).mp z) (by omega)) (fun _ => ?_)
    refine pm_go 2 (pc1 := 201) rfl ?_
    refine pm_getf rfl rfl rfl ?_
    refine pm_go 1 (pc1 := 206) rfl ?_
    refine pm_iald (j := k) (N := 16) rfl rfl (cw_ti (by omega)) (by omega) ?_
    refine pm_nm (y := nI (nu (k + 1))) (u4 k (by omega)).1 ?_
    refine pm_go 1 (pc1 := 209) rfl ?_
    refine pm_cV [.int (nI (nu (k + 1))), .int (nI 6)] rfl rfl rfl rfl rfl rfl (Nat.zero_le _) (Nat.zero_le _) (p_chunks (by omega) (u4 k (by omega)).2 (by omega) (by omega)) ?_
    refine pm_go 2 (pc1 := 190) rfl ?_
    rw [nI_1]
    exact pm_lv [(0, .ref 36), (3, .int bv), (5, .int ev), (6, .int (nI (k + 1)))] rfl rfl (ih (k + 1) (by omega))
theorem m_rec_P228 (hD : IA 39 0 = nI (dp + 1)) (hd : dp + 1 ≤ 6) (hc : cc < 2 ^ 31) (hcc : nu 0 = cc) (hw : IA 41 (dp + 1) = nI w) (hw2 : 2 ≤ w) (hw8 : w ≤ 8) (hU : nuM IA SC vc nu) (hM : IA 40 (dp + 1) = 0 → plN nu vc) (hE : τ.2 ≤ 2048)
    (k : pm_X (pm_call (d + 4)) jm_126 7 (some .int) (d + 4) 0 0 228 [(0, .ref 36), (3, .int (nI (dp + 1))), (5, .int (nI τ.2))] [] 0 0 (N, HP IA LA RA (thr SC 0) dr tl (mPl (mP τ (nI 2) w) nu (vc + 1))) r h') : pm_call (d + 5) 126 [.ref 36, .int (nI cc), .int 2] (N, HP IA LA RA SC dr tl τ) r h' 0 0 := by
  have u2 := hU.2.1
  obtain ⟨a1, a2, -⟩ := mC_b (τ := mP τ (nI 2) w) (x := nu 0) (w := 6) hU.2.2.1 (by omega) (by omega)
  obtain ⟨b1, b2, -⟩ := mC_b (τ := mC (mP τ (nI 2) w) (nu 0) 6) (x := vc) (w := 6) (by omega) (by omega) (by omega)
  have e1 : (mP τ (nI 2) w).2 = τ.2 + w := rfl
  refine m_rec_P128 hD hd hc hcc hw hw2 hw8 hU (fun _ => ?_) (fun z => absurd hM z)
  refine pm_go 2 (pc1 := 130) rfl ?_
  refine pm_icmp rfl (fun _ => ?_) (fun z => absurd (show (2 : Int32) ≤ 2 by decide) z)
  refine pm_go 1 (pc1 := 147) rfl ?_
  refine pm_getf rfl rfl rfl ?_
  refine pm_go 1 (pc1 := 151) rfl ?_
  refine pm_iald (j := 0) rfl rfl rfl (by omega) ?_
  refine pm_nm (y := nI τ.2) rfl ?_
  refine pm_go 4 (pc1 := 157) rfl ?_
  refine pm_getf rfl rfl rfl ?_
  refine pm_go 1 (pc1 := 161) rfl ?_
  refine pm_iald (j := dp + 1) (N := 14) rfl rfl (cw_ti (by omega)) (by omega) ?_
  refine pm_nm (y := nI w) hw ?_
  refine pm_cV [.int (nI 2), .int (nI w)] rfl rfl rfl rfl rfl rfl (Nat.zero_le _) (Nat.zero_le _) (p_bits (by omega) (by omega)) ?_
  refine pm_go 2 (pc1 := 167) rfl ?_
  refine pm_icmp rfl (fun z => absurd rfl z) (fun _ => ?_)
  refine pm_go 3 (pc1 := 174) rfl ?_
  have hc1 := p_chunks (d := d + 2) (N := N) (IA := IA) (LA := LA) (RA := RA) (SC := thr SC 0) (dr := dr) (tl := tl) (τ := mP τ (nI 2) w) (x := nu 0) (w := 6) (by omega) hU.2.2.1 (by omega) (by omega)
  rw [hcc] at hc1
  refine pm_cV [.int (nI cc), .int (nI 6)] rfl rfl rfl rfl rfl rfl (Nat.zero_le _) (Nat.zero_le _) hc1 ?_
  refine pm_go 2 (pc1 := 179) rfl ?_
  refine pm_getf rfl rfl rfl ?_
  refine pm_nm (y := nI vc) hU.1 ?_
  refine pm_go 1 (pc1 := 184) rfl ?_
  refine pm_cV [.int (nI vc), .int (nI 6)] rfl rfl rfl rfl rfl rfl (Nat.zero_le _) (Nat.zero_le _) (p_chunks (by rw [hcc] at a1; omega) (by omega) (by omega) (by omega)) ?_
  refine pm_go 2 (pc1 := 190) rfl ?_
  refine pm_lv [(0, .ref 36), (3, .int (nI (dp + 1))), (5, .int (nI τ.2)), (6, .int (nI 0))] rfl rfl ?_
  rw [← hcc]
  exact m_pl_loop (SC := thr SC 0) (cv := 0) (τ := mC (mC (mP τ (nI 2) w) (nu 0) 6) vc 6) hU (by omega) k vc 0 (by omega)
end MH2
