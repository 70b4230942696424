/-! THE MODEL: a record by a form, written; whether it fits -/
def ixN (kk : Nat → Nat) (n k : Nat) : Nat := if k < sgN kk n then k else n - 1
abbrev fitN (kk vv : Nat → Nat) (n : Nat) (nu : Nat → Nat) (m : Nat) : Prop := sgN kk n ≤ m ∧ (m ≤ sgN kk n ∨ rwN kk n) ∧ ∀ k, k < m → mtN (kk (ixN kk n k)) (vv (ixN kk n k)) (nu k)
section MG2
variable {IA : Nat → Nat → Int32} {LA : Nat → Nat → Int64} {RA : Nat → Nat → Option Nat} {SC : Nat → Nat → Int32} {dr : Nat} {tl : Nat → va_E} {N d dp n f vc S : Nat} {τ : (Nat → Int32) × Nat} {kk vv nu : Nat → Nat} {r : pm_V} {h' : pm_H} {h : pm_H}
theorem p_byForm (hU : nuM IA SC vc nu) (hB : fmB n kk vv) (hOk : fmOkN kk n) (hC : IA 49 f = nI n) (hO : opsAt (LA 48) (8 * f) n kk vv) (hf : f + 1 ≤ 300) (hn : n ≤ 8) (hT : sgN kk n ≤ vc + 1) (hE : τ.2 < 2100) : pm_call (d + 4) 125 [.ref 36, .int (nI (nu 0)), .int (nI f)] (N, HP IA LA RA SC dr tl τ) (.inl none) (N, HP IA LA RA SC dr tl (mF n kk vv τ nu (vc + 1))) 0 0 := by
  have hSn : sgN kk n ≤ n := sgN_le
  have hv16 := hU.2.1
  have hb1 := mSk_b (τ := τ) (nu := nu) hB (sgN kk n) hSn (fun i hi => nuM_b hU i (by omega))
  refine pm_callX jm_125 [(0, .ref 36), (1, .int (nI (nu 0))), (2, .int (nI f))] rfl rfl rfl ?_
  refine pm_go 1 (pc1 := 1) rfl ?_
  refine pm_getf rfl rfl rfl ?_
  refine pm_go 1 (pc1 := 5) rfl ?_
  refine pm_iald (j := f) rfl rfl (cw_ti (by omega)) (by omega) ?_
  refine pm_nm (y := nI n) hC ?_
  refine pm_go 3 (pc1 := 9) rfl ?_
  have hend : ∀ {rv : Int32}, rv = (if rwN kk n then 1 else 0) → pm_X (pm_call (d + 3)) jm_125 7 none (d + 3) 0 0 37 [(3, .int (nI n)), (0, .ref 36), (1, .int (nI (nu 0))), (2, .int (nI f))] [.int rv] 0 0 (N, HP IA LA RA SC dr tl τ) (.inl none) (N, HP IA LA RA SC dr tl (mF n kk vv τ nu (vc + 1))) := by
    intro rv hrv
    refine pm_go 2 (pc1 := 41) rfl ?_
    subst hrv
    unfold mF
    by_cases hR : rwN kk n
    · rw [if_pos hR, if_pos hR]
      obtain ⟨a1, a2, -⟩ := mC_b (τ := mSk kk vv τ nu (sgN kk n)) (x := vc + 1 - sgN kk n) (w := 6) (by omega) (by omega) (by omega)
      refine pm_if rfl (fun z => absurd (show (1 : Int32) = 0 from z) (by decide)) (fun _ => ?_)
      refine pm_go 4 (pc1 := 51) rfl ?_
      rw [show nI n - (2 : Int32) = nI (sgN kk n) from by unfold sgN; rw [if_pos hR]; exact pk_sub (b := 2) hR.1]
      refine pm_go 3 (pc1 := 56) rfl ?_
      refine pm_lv [(0, .ref 36), (1, .int (nI (nu 0))), (2, .int (nI f)), (3, .int (nI n)), (4, .int 1), (5, .int (nI (sgN kk n))), (6, .int (nI 0))] rfl rfl (m_bf_1 hU rfl hB hO hf hn hSn hT (by omega) ?_ (sgN kk n) 0 (by omega))
      refine pm_go 1 (pc1 := 94) rfl ?_
      refine pm_if rfl (fun _ => ?_) (fun z => absurd (show ¬ (1 : Int32) = 0 by decide) z)
      refine pm_go 2 (pc1 := 100) rfl ?_
      refine pm_getf rfl rfl rfl ?_
      refine pm_nm (y := nI vc) hU.1 ?_
      refine pm_go 2 (pc1 := 105) rfl ?_
      rw [nI_1]
      refine pm_go 2 (pc1 := 108) rfl ?_
      rw [show nI (vc + 1) - nI (sgN kk n) = nI (vc + 1 - sgN kk n) from pk_sub hT]
      refine pm_go 1 (pc1 := 110) rfl ?_
      refine pm_cV [.int (nI (vc + 1 - sgN kk n)), .int (nI 6)] rfl rfl rfl rfl rfl rfl (Nat.zero_le _) (Nat.zero_le _) (p_chunks (by omega) (by omega) (by omega) (by omega)) ?_
      refine pm_go 2 (pc1 := 117) rfl ?_
      exact pm_lv [(0, .ref 36), (1, .int (nI (nu 0))), (2, .int (nI f)), (3, .int (nI n)), (6, .int (nI (sgN kk n + 0)))] rfl rfl (m_bf_2 (τ := mC (mSk kk vv τ nu (sgN kk n)) (vc + 1 - sgN kk n) 6) hU hB hO hf hn hOk.1 hT (by omega) (vc + 1 - sgN kk n) 0 (by omega))
    · rw [if_neg hR, if_neg hR]
      refine pm_if rfl (fun _ => ?_) (fun z => absurd rfl z)
      refine pm_go 4 (pc1 := 56) rfl ?_
      have hs : sgN kk n = n := by unfold sgN; rw [if_neg hR]
      refine pm_lv [(0, .ref 36), (1, .int (nI (nu 0))), (2, .int (nI f)), (3, .int (nI n)), (4, .int 0), (5, .int (nI n)), (6, .int (nI 0))] rfl rfl ?_
      rw [hs] at hT ⊢
      refine m_bf_1 hU rfl hB hO hf hn (Nat.le_refl _) hT (by omega) ?_ n 0 (by omega)
      refine pm_go 1 (pc1 := 94) rfl ?_
      refine pm_if rfl (fun z => absurd rfl z) (fun _ => ?_)
      exact pm_vret rfl rfl rfl rfl
  refine pm_icmp rfl (fun z => ?_) (fun z => ?_)
  · have h1 : n ≤ 1 := (nI_leI (by omega) (by omega)).mp (show nI n ≤ nI 1 from z)
    exact pm_go 1 (pc1 := 37) rfl (hend (by rw [if_neg (fun h => absurd h.1 (by omega))]))
  · have h1 : ¬ n ≤ 1 := fun h => z (show nI n ≤ nI 1 from (nI_leI (by omega) (by omega)).mpr h)
    refine pm_go 1 (pc1 := 13) rfl ?_
    refine pm_getf rfl rfl rfl ?_
    refine pm_go 7 (pc1 := 24) rfl ?_
    rw [show (8 : Int32) * nI f + nI n = nI (8 * f + n) from ixm 8 f n, show nI (8 * f + n) - (2 : Int32) = nI (8 * f + (n - 2)) from by rw [show 8 * f + (n - 2) = 8 * f + n - 2 by omega]; exact pk_sub (b := 2) (by omega)]
    refine pm_lald (j := 8 * f + (n - 2)) rfl rfl (cw_ti (by omega)) (by omega) ?_
    obtain ⟨o1, o2, o3⟩ := hO (n - 2) (by omega)
    rw [o1]
    refine pm_cS [.long (opL (kk (n - 2)) (vv (n - 2)))] rfl rfl rfl rfl rfl (Nat.zero_le _) (Nat.zero_le _) (m_kindOf (by omega) o3) ?_
    refine pm_go 1 (pc1 := 29) rfl ?_
    refine pm_icmp rfl (fun z => ?_) (fun z => ?_)
    · exact pm_go 1 (pc1 := 37) rfl (hend (by rw [if_neg (fun h => z (show nI (kk (n - 2)) = 3 by rw [h.2]; rfl))]))
    · have h3 : kk (n - 2) = 3 := (nI_eqI (b := 3) (by omega) (by omega)).mp (Classical.not_not.mp z)
      exact pm_go 2 (pc1 := 37) rfl (hend (by rw [if_pos ⟨by omega, h3⟩]))
theorem m_ff_loop {rwv : Int32} (hU : nuM IA SC vc nu) (hB : fmB n kk vv) (hOk : fmOkN kk n) (hO : opsAt (LA 48) (8 * f) n kk vv) (hf : f + 1 ≤ 300) (hn : n ≤ 8) (hT : sgN kk n ≤ vc + 1) (hR : vc + 1 ≤ sgN kk n ∨ rwN kk n) : ∀ (j k : Nat), k + j = vc + 1 → (∀ i, i < k → mtN (kk (ixN kk n i)) (vv (ixN kk n i)) (nu i)) →
    pm_X (pm_call (d + 2)) jm_123 8 (some .boolean) (d + 2) 0 0 88 [(0, .ref 36), (1, .int (nI (nu 0))), (2, .int (nI f)), (3, .int (nI n)), (4, .int (nI (vc + 1))), (5, .int rwv), (6, .int (nI (sgN kk n))), (7, .int (nI k))] [] 0 0 (N, HP IA LA RA SC dr tl τ) (.inl (some (.int (if fitN kk vv n nu (vc + 1) then 1 else 0)))) (N, HP IA LA RA SC dr tl τ) := by
  have hSn : sgN kk n ≤ n := sgN_le
  have hv16 := hU.2.1
  have h0 := hOk.1
  intro j
  induction j with
  | zero =>
    intro k hk hall
    have e : k = vc + 1 := by omega
    subst e
    refine pm_go 2 (pc1 := 92) rfl ?_
    refine pm_icmp rfl (fun _ => ?_) (fun z => absurd ((nI_leI (by omega) (by omega)).mpr (Nat.le_refl _)) z)
    refine pm_go 1 (pc1 := 142) rfl ?_
    rw [if_pos ⟨hT, hR, hall⟩]
    exact pm_iret rfl rfl rfl rfl
  | succ j ih =>
    intro k hk hall
    have hix : ixN kk n k < n := by unfold ixN; split <;> omega
    have hk3 : ¬ kk (ixN kk n k) = 3 := by
      unfold ixN
      split
      · rename_i hlt
        exact sgN_3 hOk k hlt
      · rename_i hlt
        exact sgN_last hOk (hR.resolve_left (by omega))
    obtain ⟨e3, e4, e5, e6⟩ := hB _ hix
    refine pm_go 2 (pc1 := 92) rfl ?_
    refine pm_icmp rfl (fun z => absurd ((nI_leI (by omega) (by omega)).mp z) (by omega)) (fun _ => ?_)
    refine pm_go 1 (pc1 := 96) rfl ?_
    refine pm_getf rfl rfl rfl ?_
    refine pm_go 5 (pc1 := 107) rfl ?_
    have hend : pm_X (pm_call (d + 2)) jm_123 8 (some .boolean) (d + 2) 0 0 118 [(0, .ref 36), (1, .int (nI (nu 0))), (2, .int (nI f)), (3, .int (nI n)), (4, .int (nI (vc + 1))), (5, .int rwv), (6, .int (nI (sgN kk n))), (7, .int (nI k))] [.int (nI (ixN kk n k)), .int ((8 : Int32) * nI f), .ref 48] 0 0 (N, HP IA LA RA SC dr tl τ) (.inl (some (.int (if fitN kk vv n nu (vc + 1) then 1 else 0)))) (N, HP IA LA RA SC dr tl τ) := by
      refine pm_go 1 (pc1 := 119) rfl ?_
      rw [show (8 : Int32) * nI f + nI (ixN kk n k) = nI (8 * f + ixN kk n k) from ixm 8 f _]
      refine pm_lald (j := 8 * f + ixN kk n k) rfl rfl (cw_ti (by omega)) (by omega) ?_
      rw [(hO _ hix).1]
      refine pm_go 3 (pc1 := 124) rfl ?_
      refine pm_cV [.int (nI (nu 0)), .int (nI k)] rfl rfl rfl rfl rfl rfl (Nat.zero_le _) (Nat.zero_le _) (p_part hU (by omega)) ?_
      refine pm_cS [.long (opL (kk (ixN kk n k)) (vv (ixN kk n k))), .int (nI (nu k))] rfl rfl rfl rfl rfl (Nat.zero_le _) (Nat.zero_le _) (m_matches (by omega) e4 (fun z => (e5 z).2) (nuM_b hU k (by omega))) ?_
      by_cases hm : mtN (kk (ixN kk n k)) (vv (ixN kk n k)) (nu k)
      · rw [if_pos hm]
        refine pm_if rfl (fun _ => ?_) (fun z => absurd (show ¬ (1 : Int32) = 0 by decide) z)
        refine pm_go 2 (pc1 := 88) rfl ?_
        rw [nI_1]
        refine pm_lv [(0, .ref 36), (1, .int (nI (nu 0))), (2, .int (nI f)), (3, .int (nI n)), (4, .int (nI (vc + 1))), (5, .int rwv), (6, .int (nI (sgN kk n))), (7, .int (nI (k + 1)))] rfl rfl (ih (k + 1) (by omega) (fun i hi => ?_))
        by_cases e : i = k
        · rw [e]; exact hm
        · exact hall i (by omega)
      · rw [if_neg hm]
        refine pm_if rfl (fun z => absurd rfl z) (fun _ => ?_)
        refine pm_go 1 (pc1 := 134) rfl ?_
        rw [if_neg (fun h => hm (h.2.2 k (by omega)))]
        exact pm_iret rfl rfl rfl rfl
    by_cases hlt : k < sgN kk n
    · refine pm_icmp rfl (fun z => absurd ((nI_leI (by omega) (by omega)).mp z) (by omega)) (fun _ => ?_)
      refine pm_go 2 (pc1 := 118) rfl ?_
      rw [show ixN kk n k = k from by unfold ixN; rw [if_pos hlt]] at hend
      exact hend
    · refine pm_icmp rfl (fun _ => ?_) (fun z => absurd ((nI_leI (by omega) (by omega)).mpr (by omega)) z)
      refine pm_go 3 (pc1 := 118) rfl ?_
      rw [show nI n - (1 : Int32) = nI (n - 1) from pk_sub (b := 1) (by omega)]
      rw [show ixN kk n k = n - 1 from by unfold ixN; rw [if_neg hlt]] at hend
      exact hend
theorem p_fitsForm (hU : nuM IA SC vc nu) (hB : fmB n kk vv) (hOk : fmOkN kk n) (hC : IA 49 f = nI n) (hO : opsAt (LA 48) (8 * f) n kk vv) (hf : f + 1 ≤ 300) (hn : n ≤ 8) : pm_call (d + 3) 123 [.ref 36, .int (nI (nu 0)), .int (nI f)] (N, HP IA LA RA SC dr tl τ) (.inl (some (.int (if fitN kk vv n nu (vc + 1) then 1 else 0)))) (N, HP IA LA RA SC dr tl τ) 0 0 := by
  have hSn : sgN kk n ≤ n := sgN_le
  have hv16 := hU.2.1
  refine pm_callX jm_123 [(0, .ref 36), (1, .int (nI (nu 0))), (2, .int (nI f))] rfl rfl rfl ?_
  refine pm_go 1 (pc1 := 1) rfl ?_
  refine pm_getf rfl rfl rfl ?_
  refine pm_go 1 (pc1 := 5) rfl ?_
  refine pm_iald (j := f) rfl rfl (cw_ti (by omega)) (by omega) ?_
  refine pm_nm (y := nI n) hC ?_
  refine pm_go 2 (pc1 := 8) rfl ?_
  refine pm_getf rfl rfl rfl ?_
  refine pm_nm (y := nI vc) hU.1 ?_
  refine pm_go 2 (pc1 := 13) rfl ?_
  rw [nI_1]
  refine pm_go 3 (pc1 := 17) rfl ?_
  have hend : ∀ {rv : Int32}, rv = (if rwN kk n then 1 else 0) → pm_X (pm_call (d + 2)) jm_123 8 (some .boolean) (d + 2) 0 0 45 [(4, .int (nI (vc + 1))), (3, .int (nI n)), (0, .ref 36), (1, .int (nI (nu 0))), (2, .int (nI f))] [.int rv] 0 0 (N, HP IA LA RA SC dr tl τ) (.inl (some (.int (if fitN kk vv n nu (vc + 1) then 1 else 0)))) (N, HP IA LA RA SC dr tl τ) := by
    intro rv hrv
    refine pm_go 2 (pc1 := 49) rfl ?_
    subst hrv
    by_cases hR : rwN kk n
    · rw [if_pos hR]
      refine pm_if rfl (fun z => absurd (show (1 : Int32) = 0 from z) (by decide)) (fun _ => ?_)
      refine pm_go 4 (pc1 := 59) rfl ?_
      rw [show nI n - (2 : Int32) = nI (sgN kk n) from by unfold sgN; rw [if_pos hR]; exact pk_sub (b := 2) hR.1]
      refine pm_go 2 (pc1 := 63) rfl ?_
      refine pm_if rfl (fun z => absurd (show (1 : Int32) = 0 from z) (by decide)) (fun _ => ?_)
      refine pm_go 2 (pc1 := 70) rfl ?_
      refine pm_icmp rfl (fun z => ?_) (fun z => ?_)
      · have hT : sgN kk n ≤ vc + 1 := (nI_leI (by omega) (by omega)).mp z
        refine pm_go 2 (pc1 := 88) rfl ?_
        exact pm_lv [(0, .ref 36), (1, .int (nI (nu 0))), (2, .int (nI f)), (3, .int (nI n)), (4, .int (nI (vc + 1))), (5, .int 1), (6, .int (nI (sgN kk n))), (7, .int (nI 0))] rfl rfl (m_ff_loop hU hB hOk hO hf hn hT (Or.inr hR) (vc + 1) 0 (by omega) (fun i hi => absurd hi (by omega)))
      · refine pm_go 2 (pc1 := 84) rfl ?_
        rw [if_neg (fun h => z ((nI_leI (by omega) (by omega)).mpr h.1))]
        exact pm_iret rfl rfl rfl rfl
    · rw [if_neg hR]
      have hs : sgN kk n = n := by unfold sgN; rw [if_neg hR]
      refine pm_if rfl (fun _ => ?_) (fun z => absurd rfl z)
      refine pm_go 3 (pc1 := 63) rfl ?_
      refine pm_if rfl (fun _ => ?_) (fun z => absurd rfl z)
      refine pm_go 2 (pc1 := 80) rfl ?_
      refine pm_icmp rfl (fun z => ?_) (fun z => ?_)
      · have hT : vc + 1 = n := (nI_eqI (by omega) (by omega)).mp z
        refine pm_go 2 (pc1 := 88) rfl ?_
        refine pm_lv [(0, .ref 36), (1, .int (nI (nu 0))), (2, .int (nI f)), (3, .int (nI n)), (4, .int (nI (vc + 1))), (5, .int 0), (6, .int (nI n)), (7, .int (nI 0))] rfl rfl ?_
        have hl := m_ff_loop (d := d) (N := N) (LA := LA) (RA := RA) (dr := dr) (tl := tl) (τ := τ) (rwv := 0) hU hB hOk hO hf hn (by omega) (Or.inl (by omega)) (vc + 1) 0 (by omega) (fun i hi => absurd hi (by omega))
        rw [show nI (sgN kk n) = nI n by rw [hs]] at hl
        exact hl
      · refine pm_go 1 (pc1 := 84) rfl ?_
        rw [if_neg (fun h => z (show nI (vc + 1) = nI n by rw [show vc + 1 = n by have := h.2.1.resolve_right hR; have := h.1; omega]))]
        exact pm_iret rfl rfl rfl rfl
  refine pm_icmp rfl (fun z => ?_) (fun z => ?_)
  · have h1 : n ≤ 1 := (nI_leI (by omega) (by omega)).mp (show nI n ≤ nI 1 from z)
    exact pm_go 1 (pc1 := 45) rfl (hend (by rw [if_neg (fun h => absurd h.1 (by omega))]))
  · have h1 : ¬ n ≤ 1 := fun h => z (show nI n ≤ nI 1 from (nI_leI (by omega) (by omega)).mpr h)
    refine pm_go 1 (pc1 := 21) rfl ?_
    refine pm_getf rfl rfl rfl ?_
    refine pm_go 7 (pc1 := 32) rfl ?_
    rw [show (8 : Int32) * nI f + nI n = nI (8 * f + n) from ixm 8 f n, show nI (8 * f + n) - (2 : Int32) = nI (8 * f + (n - 2)) from by rw [show 8 * f + (n - 2) = 8 * f + n - 2 by omega]; exact pk_sub (b := 2) (by omega)]
    refine pm_lald (j := 8 * f + (n - 2)) rfl rfl (cw_ti (by omega)) (by omega) ?_
    obtain ⟨o1, o2, o3⟩ := hO (n - 2) (by omega)
    rw [o1]
    refine pm_cS [.long (opL (kk (n - 2)) (vv (n - 2)))] rfl rfl rfl rfl rfl (Nat.zero_le _) (Nat.zero_le _) (m_kindOf (by omega) o3) ?_
    refine pm_go 1 (pc1 := 37) rfl ?_
    refine pm_icmp rfl (fun z => ?_) (fun z => ?_)
    · exact pm_go 1 (pc1 := 45) rfl (hend (by rw [if_neg (fun h => z (show nI (kk (n - 2)) = 3 by rw [h.2]; rfl))]))
    · have h3 : kk (n - 2) = 3 := (nI_eqI (b := 3) (by omega) (by omega)).mp (Classical.not_not.mp z)
      exact pm_go 2 (pc1 := 45) rfl (hend (by rw [if_pos ⟨by omega, h3⟩]))
end MG2
