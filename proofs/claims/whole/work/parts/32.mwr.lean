/-! THE MODEL'S WRITER: align, widthNow, inInfo, fits -/
section MWR
variable {IA : Nat → Nat → Int32} {LA : Nat → Nat → Int64} {RA : Nat → Nat → Option Nat} {SC : Nat → Nat → Int32} {dr : Nat} {tl : Nat → va_E} {N d : Nat}
theorem m_align {p : Nat} (hP : IA 38 0 = nI p) (hp : p < 8000) : pm_call (d + 1) 103 [.ref 36, .int (nI 0)] (N, HC IA LA RA SC dr tl) (.inl none) (N, HC (va_up IA 38 (upd (IA 38) 0 (nI ((p + 31) / 32 * 32)))) LA RA SC dr tl) 0 0 := by
  refine pm_callX jm_103 [(0, .ref 36), (1, .int (nI 0))] rfl rfl rfl ?_
  refine pm_go 1 (pc1 := 1) rfl ?_
  refine pm_getf rfl rfl rfl ?_
  refine pm_go 2 (pc1 := 6) rfl ?_
  refine pm_getf rfl rfl rfl ?_
  refine pm_go 1 (pc1 := 10) rfl ?_
  refine pm_iald (j := 0) rfl rfl rfl (by decide) ?_
  rw [hP]
  refine pm_go 2 (pc1 := 14) rfl ?_
  rw [show nI p + 31 = nI (p + 31) from nI_add p 31]
  refine pm_go 2 (pc1 := 17) rfl ?_
  rw [cw_di (by omega)]
  refine pm_go 2 (pc1 := 20) rfl ?_
  rw [show nI ((p + 31) / 32) * 32 = nI ((p + 31) / 32 * 32) from pk_mul _ 32]
  refine pm_iastU (j := 0) rfl rfl rfl (by decide) (hi_38 ..) ?_
  exact pm_vret rfl rfl rfl rfl
theorem m_ix {s dp : Nat} : (7 : Int32) * nI s + nI dp = nI (7 * s + dp) := by
  rw [show (7 : Int32) = nI 7 from rfl, pk_mul, nI_add]
theorem m_widthNow {s dp : Nat} (hs : s < 2) (hD : IA 39 s = nI dp) (hd : dp ≤ 6) : pm_call (d + 1) 104 [.ref 36, .int (nI s)] (N, HC IA LA RA SC dr tl) (.inl (some (.int (if dp = 0 then 2 else IA 41 (7 * s + dp))))) (N, HC IA LA RA SC dr tl) 0 0 := by
  refine pm_callX jm_104 [(0, .ref 36), (1, .int (nI s))] rfl rfl rfl ?_
  refine pm_go 1 (pc1 := 1) rfl ?_
  refine pm_getf rfl rfl rfl ?_
  refine pm_go 1 (pc1 := 5) rfl ?_
  refine pm_iald (j := s) rfl rfl (cw_ti (by omega)) hs ?_
  rw [hD]
  refine pm_if rfl (fun h => ?_) (fun h => ?_)
  · have h0 : dp ≠ 0 := fun z => h (by rw [z]; rfl)
    refine pm_go 1 (pc1 := 14) rfl ?_
    refine pm_getf rfl rfl rfl ?_
    refine pm_go 4 (pc1 := 22) rfl ?_
    refine pm_getf rfl rfl rfl ?_
    refine pm_go 1 (pc1 := 26) rfl ?_
    refine pm_iald (j := s) rfl rfl (cw_ti (by omega)) hs ?_
    rw [hD]
    refine pm_go 1 (pc1 := 28) rfl ?_
    rw [m_ix]
    refine pm_iald (j := 7 * s + dp) rfl rfl (cw_ti (by omega)) (by omega) ?_
    exact pm_iret rfl rfl (by rw [if_neg h0]) rfl
  · have h0 : dp = 0 := by
      rcases Nat.eq_zero_or_pos dp with z | z
      · exact z
      · exact absurd (nI_ne0 z (by omega)) h
    refine pm_go 2 (pc1 := 29) rfl ?_
    exact pm_iret rfl rfl (by rw [if_pos h0]) rfl
theorem m_inInfo {s dp : Nat} (hs : s < 2) (hD : IA 39 s = nI dp) (hd : dp ≤ 6) : pm_call (d + 1) 106 [.ref 36, .int (nI s)] (N, HC IA LA RA SC dr tl) (.inl (some (.int (if 0 < dp ∧ IA 40 (7 * s + dp) = 0 then 1 else 0)))) (N, HC IA LA RA SC dr tl) 0 0 := by
  refine pm_callX jm_106 [(0, .ref 36), (1, .int (nI s))] rfl rfl rfl ?_
  refine pm_go 1 (pc1 := 1) rfl ?_
  refine pm_getf rfl rfl rfl ?_
  refine pm_go 1 (pc1 := 5) rfl ?_
  refine pm_iald (j := s) rfl rfl (cw_ti (by omega)) hs ?_
  rw [hD]
  refine pm_if rfl (fun h => ?_) (fun h => ?_)
  · have h0 : dp ≤ 0 := (nI_leI (a := dp) (b := 0) (by omega) (by omega)).mp h
    refine pm_go 1 (pc1 := 33) rfl ?_
    exact pm_iret rfl rfl (by rw [if_neg (by omega)]) rfl
  · have h0 : 0 < dp := Nat.not_le.mp fun z => h ((nI_leI (a := dp) (b := 0) (by omega) (by omega)).mpr z)
    refine pm_go 1 (pc1 := 10) rfl ?_
    refine pm_getf rfl rfl rfl ?_
    refine pm_go 4 (pc1 := 18) rfl ?_
    refine pm_getf rfl rfl rfl ?_
    refine pm_go 1 (pc1 := 22) rfl ?_
    refine pm_iald (j := s) rfl rfl (cw_ti (by omega)) hs ?_
    rw [hD]
    refine pm_go 1 (pc1 := 24) rfl ?_
    rw [m_ix]
    refine pm_iald (j := 7 * s + dp) rfl rfl (cw_ti (by omega)) (by omega) ?_
    refine pm_if rfl (fun h => ?_) (fun h => ?_)
    · refine pm_go 1 (pc1 := 33) rfl ?_
      exact pm_iret rfl rfl (by rw [if_neg (fun z => h z.2)]) rfl
    · refine pm_go 2 (pc1 := 33) rfl ?_
      exact pm_iret rfl rfl (by rw [if_pos ⟨h0, Classical.byContradiction fun z => h z⟩]) rfl
/-- where the stream would end if the blocks d .. 1 were left -/
def md_lv (wd : Nat → Int32) : Nat → Nat → Nat
  | 0, p => p
  | k + 1, p => md_lv wd k ((p + (wd (k + 1)).toInt.toNat + 31) / 32 * 32)
/-- bits from b on cleared, n of them -/
def md_cl (S : Nat → Int32) (b : Nat) : Nat → Nat → Int32
  | 0 => S
  | n + 1 => upd (md_cl S b n) ((b + n) / 32) (md_cl S b n ((b + n) / 32) &&& ((1 : Int32) <<< (nI ((b + n) % 32) &&& 31) ^^^ (-1)))
theorem m_fits_1 {b : Int32} {r : pm_V} {h' : pm_H} : ∀ (k q : Nat), k ≤ 6 → q + 100 * k < 9000 → (∀ i, 1 ≤ i → i ≤ k → ∃ z, z ≤ 8 ∧ IA 41 i = nI z) → (∀ lv2, lv2 = [(0, .ref 36), (1, .int b), (2, .int (nI (md_lv (IA 41) k q)))] → pm_X (pm_call d) jm_105 4 (some .boolean) d 0 0 42 lv2 [] 0 0 (N, HC IA LA RA SC dr tl) r h') →
    pm_X (pm_call d) jm_105 4 (some .boolean) d 0 0 14 [(0, .ref 36), (1, .int b), (2, .int (nI q)), (3, .int (nI k))] [] 0 0 (N, HC IA LA RA SC dr tl) r h' := by
  intro k
  induction k with
  | zero =>
    intro q hk hq hw kk
    refine pm_go 1 (pc1 := 15) rfl ?_
    refine pm_if rfl (fun _ => ?_) (fun h => absurd (show nI 0 ≤ 0 by decide +kernel) h)
    refine pm_lv [(0, .ref 36), (1, .int b), (2, .int (nI q))] rfl rfl ?_
    exact kk _ rfl
  | succ k ih =>
    intro q hk hq hw kk
    obtain ⟨z, hz, hwz⟩ := hw (k + 1) (by omega) (Nat.le_refl _)
    refine pm_go 1 (pc1 := 15) rfl ?_
    refine pm_if rfl (fun h => absurd ((nI_leI (a := k + 1) (b := 0) (by omega) (by omega)).mp h) (by omega)) (fun _ => ?_)
    refine pm_go 2 (pc1 := 20) rfl ?_
    refine pm_getf rfl rfl rfl ?_
    refine pm_go 1 (pc1 := 24) rfl ?_
    refine pm_iald (j := k + 1) rfl rfl (cw_ti (by omega)) (by omega) ?_
    rw [hwz]
    refine pm_go 3 (pc1 := 29) rfl ?_
    rw [nI_add, show nI (q + z) + 31 = nI (q + z + 31) from nI_add _ 31]
    refine pm_go 2 (pc1 := 32) rfl ?_
    rw [cw_di (by omega)]
    refine pm_go 2 (pc1 := 35) rfl ?_
    rw [show nI ((q + z + 31) / 32) * 32 = nI ((q + z + 31) / 32 * 32) from pk_mul _ 32]
    refine pm_go 3 (pc1 := 14) rfl ?_
    rw [pk_m1]
    refine pm_lv [(0, .ref 36), (1, .int b), (2, .int (nI ((q + z + 31) / 32 * 32))), (3, .int (nI k))] rfl rfl ?_
    refine ih _ (by omega) (by omega) (fun i h1 h2 => hw i h1 (by omega)) ?_
    intro lv2 hl2
    refine kk lv2 ?_
    rw [hl2]
    show _ = [(0, Value.ref 36), (1, Value.int b), (2, Value.int (nI (md_lv (IA 41) k ((q + (IA 41 (k + 1)).toInt.toNat + 31) / 32 * 32))))]
    rw [hwz, nI_toInt (show z < 2 ^ 31 by omega)]
    rfl
theorem m_fits_2 {b p : Nat} (hbp : b ≤ p) (hp : p < 8000) (hP : IA 38 0 = nI p) {r : pm_V} {h' : pm_H} : ∀ (n q : Nat), q + n = p → b ≤ q → r = .inl (some (.int 0)) → h' = (N, HC (va_up (va_up IA 37 (md_cl (IA 37) b (p - b))) 38 (upd (IA 38) 0 (nI b))) LA RA SC dr tl) →
    pm_X (pm_call d) jm_105 4 (some .boolean) d 0 0 53 [(0, .ref 36), (1, .int (nI b)), (3, .int (nI q))] [] 0 0 (N, HC (va_up IA 37 (md_cl (IA 37) b (q - b))) LA RA SC dr tl) r h' := by
  intro n
  induction n with
  | zero =>
    intro q hq hbq er eh
    have hq : q = p := by omega
    subst hq
    refine pm_go 2 (pc1 := 55) rfl ?_
    refine pm_getf rfl rfl rfl ?_
    refine pm_go 1 (pc1 := 59) rfl ?_
    refine pm_iald (j := 0) rfl rfl rfl (by decide) ?_
    rw [va_up_ne _ _ (show (38 : Nat) ≠ 37 by decide), hP]
    refine pm_icmp rfl (fun _ => ?_) (fun h => absurd (nI_le (Nat.le_refl q) (by omega)) h)
    refine pm_go 1 (pc1 := 97) rfl ?_
    refine pm_getf rfl rfl rfl ?_
    refine pm_go 2 (pc1 := 102) rfl ?_
    refine pm_iastU (j := 0) rfl rfl rfl (by decide) (hi_38 ..) ?_
    refine pm_go 1 (pc1 := 104) rfl ?_
    rw [va_up_ne _ _ (show (38 : Nat) ≠ 37 by decide)]
    exact pm_iret rfl rfl er eh
  | succ n ih =>
    intro q hq hbq er eh
    have hdv : q / 32 ≤ q := Nat.div_le_self _ _
    refine pm_go 2 (pc1 := 55) rfl ?_
    refine pm_getf rfl rfl rfl ?_
    refine pm_go 1 (pc1 := 59) rfl ?_
    refine pm_iald (j := 0) rfl rfl rfl (by decide) ?_
    rw [va_up_ne _ _ (show (38 : Nat) ≠ 37 by decide), hP]
    refine pm_icmp rfl (fun h => absurd ((nI_leI (a := p) (b := q) (by omega) (by omega)).mp h) (by omega)) (fun _ => ?_)
    refine pm_go 1 (pc1 := 64) rfl ?_
    refine pm_getf rfl rfl rfl ?_
    refine pm_go 3 (pc1 := 71) rfl ?_
    rw [cw_di (by omega)]
    refine pm_go 1 (pc1 := 72) rfl ?_
    refine pm_getf rfl rfl rfl ?_
    refine pm_go 3 (pc1 := 79) rfl ?_
    rw [cw_di (by omega)]
    refine pm_iald (j := q / 32) rfl rfl (cw_ti (by omega)) (by omega) ?_
    rw [va_up_self]
    refine pm_go 4 (pc1 := 85) rfl ?_
    rw [cw_re (by omega)]
    refine pm_go 4 (pc1 := 89) rfl ?_
    refine pm_iastU (j := q / 32) rfl rfl (cw_ti (by omega)) (by omega) (hi_37 ..) ?_
    rw [va_up_self, bx_uu]
    refine pm_go 2 (pc1 := 53) rfl ?_
    rw [nI_1]
    refine pm_lv [(0, .ref 36), (1, .int (nI b)), (3, .int (nI (q + 1)))] rfl rfl ?_
    have e1 : md_cl (IA 37) b (q + 1 - b) = upd (md_cl (IA 37) b (q - b)) (q / 32) (md_cl (IA 37) b (q - b) (q / 32) &&& ((1 : Int32) <<< (nI (q % 32) &&& 31) ^^^ (-1))) := by
      rw [show q + 1 - b = (q - b) + 1 by omega]
      show upd _ ((b + (q - b)) / 32) _ = _
      rw [show b + (q - b) = q by omega]
    have := ih (q + 1) (by omega) (by omega) er eh
    rw [e1] at this
    exact this
theorem m_fits {b p dp : Nat} (hP : IA 38 0 = nI p) (hbp : b ≤ p) (hp : p < 4000) (hD : IA 39 0 = nI dp) (hd : dp ≤ 6) (hw : ∀ i, 1 ≤ i → i ≤ dp → ∃ z, z ≤ 8 ∧ IA 41 i = nI z) (hlv : md_lv (IA 41) dp p < 100000) :
    pm_call (d + 1) 105 [.ref 36, .int (nI b)] (N, HC IA LA RA SC dr tl) (.inl (some (.int (if md_lv (IA 41) dp p ≤ 2048 then 1 else 0))))
      (N, HC (if md_lv (IA 41) dp p ≤ 2048 then IA else va_up (va_up IA 37 (md_cl (IA 37) b (p - b))) 38 (upd (IA 38) 0 (nI b))) LA RA SC dr tl) 0 0 := by
  refine pm_callX jm_105 [(0, .ref 36), (1, .int (nI b))] rfl rfl rfl ?_
  refine pm_go 1 (pc1 := 1) rfl ?_
  refine pm_getf rfl rfl rfl ?_
  refine pm_go 1 (pc1 := 5) rfl ?_
  refine pm_iald (j := 0) rfl rfl rfl (by decide) ?_
  rw [hP]
  refine pm_go 2 (pc1 := 8) rfl ?_
  refine pm_getf rfl rfl rfl ?_
  refine pm_go 1 (pc1 := 12) rfl ?_
  refine pm_iald (j := 0) rfl rfl rfl (by decide) ?_
  rw [hD]
  refine pm_go 1 (pc1 := 14) rfl ?_
  refine pm_lv [(0, .ref 36), (1, .int (nI b)), (2, .int (nI p)), (3, .int (nI dp))] rfl rfl ?_
  refine m_fits_1 dp p hd (by omega) hw ?_
  intro lv2 hl2
  subst hl2
  refine pm_go 2 (pc1 := 46) rfl ?_
  refine pm_icmp rfl (fun h => ?_) (fun h => ?_)
  · have hgt : 2048 < md_lv (IA 41) dp p := (nI_ltI (a := 2048) (by omega) (by omega)).mp h
    rw [if_neg (by omega), if_neg (by omega)]
    refine pm_go 2 (pc1 := 53) rfl ?_
    refine pm_lv [(0, .ref 36), (1, .int (nI b)), (3, .int (nI b))] rfl rfl ?_
    have h0 := m_fits_2 (N := N) (d := d) (IA := IA) (LA := LA) (RA := RA) (SC := SC) (dr := dr) (tl := tl) hbp (by omega) hP (p - b) b (by omega) (Nat.le_refl _) rfl rfl
    rw [Nat.sub_self] at h0
    rw [show va_up IA 37 (md_cl (IA 37) b 0) = IA from cw_id IA 37] at h0
    exact h0
  · have hle : md_lv (IA 41) dp p ≤ 2048 := Nat.not_lt.mp fun z => h ((nI_ltI (a := 2048) (by omega) (by omega)).mpr z)
    rw [if_pos hle, if_pos hle]
    refine pm_go 1 (pc1 := 50) rfl ?_
    exact pm_iret rfl rfl rfl rfl
end MWR
