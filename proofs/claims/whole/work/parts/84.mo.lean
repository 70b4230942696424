/-! THE MODEL: ops as longs, forms -/
abbrev opL (k v : Nat) : Int64 := lN (k * 4294967296 + v)
section MO
variable {h : pm_H} {d : Nat}
theorem m_kindOf {k v : Nat} (hk : k ≤ 7) (hv : v < 2 ^ 31) : pm_call (d + 1) 112 [.long (opL k v)] h (.inl (some (.int (nI k)))) h 0 0 := by
  refine pm_callX jm_112 [(0, .long (opL k v))] rfl rfl rfl ?_
  refine pm_go 3 (pc1 := 4) rfl ?_
  rw [pf_shr (D := (32 : Int32).toInt64 &&& 63) (d := 32) (by decide) (by omega), show (k * 4294967296 + v) / 2 ^ 32 = k by omega]
  refine pm_go 1 (pc1 := 5) rfl ?_
  rw [lN_i]
  exact pm_iret rfl rfl rfl rfl
theorem m_numberOf {k v : Nat} (hk : k ≤ 7) (hv : v < 2 ^ 31) : pm_call (d + 1) 113 [.long (opL k v)] h (.inl (some (.int (nI v)))) h 0 0 := by
  refine pm_callX jm_113 [(0, .long (opL k v))] rfl rfl rfl ?_
  refine pm_go 3 (pc1 := 5) rfl ?_
  rw [show lN (k * 4294967296 + v) &&& lN 4294967295 = lN ((k * 4294967296 + v) % 2 ^ 32) from wb_mask (k := 32) (by omega) (by omega), show (k * 4294967296 + v) % 2 ^ 32 = v by omega]
  refine pm_go 1 (pc1 := 6) rfl ?_
  rw [lN_i]
  exact pm_iret rfl rfl rfl rfl
theorem m_opOf {k vn : Nat} {v : Int32} (hk : k ≤ 7) (hv : ¬ k = 3 → v = nI vn) (h3 : k = 3 → vn = 0) (hvn : vn < 2 ^ 31) : pm_call (d + 1) 111 [.int (nI k), .int v] h (.inl (some (.long (opL k vn)))) h 0 0 := by
  refine pm_callX jm_111 [(0, .int (nI k)), (1, .int v)] rfl rfl rfl ?_
  refine pm_go 2 (pc1 := 2) rfl ?_
  rw [nI_l (by omega)]
  refine pm_go 2 (pc1 := 6) rfl ?_
  rw [show lN k * lN 4294967296 = lN (k * 4294967296) from lN_mul k 4294967296]
  refine pm_go 2 (pc1 := 8) rfl ?_
  refine pm_icmp rfl (fun z => ?_) (fun z => ?_)
  · have hk3 : ¬ k = 3 := fun e => z (show nI k = 3 by rw [e]; rfl)
    refine pm_go 1 (pc1 := 16) rfl ?_
    rw [hv hk3]
    refine pm_go 1 (pc1 := 17) rfl ?_
    rw [nI_l hvn]
    refine pm_go 1 (pc1 := 18) rfl ?_
    rw [lN_add]
    exact pm_lret rfl rfl rfl rfl
  · have hk3 : k = 3 := (nI_eqI (b := 3) (by omega) (by omega)).mp (Classical.not_not.mp z)
    refine pm_go 2 (pc1 := 16) rfl ?_
    refine pm_go 1 (pc1 := 17) rfl ?_
    refine pm_go 1 (pc1 := 18) rfl ?_
    rw [show lN (k * 4294967296) + (0 : Int32).toInt64 = lN (k * 4294967296 + 0) from lN_add (k * 4294967296) 0, ← h3 hk3]
    exact pm_lret rfl rfl rfl rfl
theorem m_opOfA {k v : Int32} : ∃ x, pm_call (d + 1) 111 [.int k, .int v] h (.inl (some (.long x))) h 0 0 := by
  by_cases hk : k = 3
  · refine ⟨k.toInt64 * lN 4294967296 + (0 : Int32).toInt64, pm_callX jm_111 [(0, .int k), (1, .int v)] rfl rfl rfl ?_⟩
    refine pm_go 6 (pc1 := 8) rfl ?_
    refine pm_icmp rfl (fun z => absurd hk z) (fun _ => ?_)
    refine pm_go 4 (pc1 := 18) rfl ?_
    exact pm_lret rfl rfl rfl rfl
  · refine ⟨k.toInt64 * lN 4294967296 + v.toInt64, pm_callX jm_111 [(0, .int k), (1, .int v)] rfl rfl rfl ?_⟩
    refine pm_go 6 (pc1 := 8) rfl ?_
    refine pm_icmp rfl (fun _ => ?_) (fun z => absurd (Classical.not_not.mp z) hk)
    refine pm_go 3 (pc1 := 18) rfl ?_
    exact pm_lret rfl rfl rfl rfl
theorem i32_rng {v a b : Int32} : (a ≤ v ∧ v ≤ b) ↔ (a.toInt ≤ v.toInt ∧ v.toInt ≤ b.toInt) := by
  rw [Int32.le_iff_toInt_le, Int32.le_iff_toInt_le]
end MO
section MO2
variable {IA : Nat → Nat → Int32} {LA : Nat → Nat → Int64} {RA : Nat → Nat → Option Nat} {SC : Nat → Nat → Int32} {dr : Nat} {tl : Nat → va_E} {N d : Nat}
theorem m_isOp {k v : Int32} : pm_call (d + 2) 110 [.int k, .int v] (N, HC IA LA RA SC dr tl) (.inl (some (.int (if opOk k.toInt v.toInt then 1 else 0)))) (N, HC IA LA RA SC dr tl) 0 0 := by
  have e0 : ∀ {x : Int32}, k = x ↔ k.toInt = x.toInt := Int32.toInt_inj.symm
  refine pm_callX jm_110 [(0, .int k), (1, .int v)] rfl rfl rfl ?_
  have hT : opOk k.toInt v.toInt → pm_X (pm_call (d + 1)) jm_110 2 (some .boolean) (d + 1) 0 0 43 [(0, .int k), (1, .int v)] [] 0 0 (N, HC IA LA RA SC dr tl) (.inl (some (.int (if opOk k.toInt v.toInt then 1 else 0)))) (N, HC IA LA RA SC dr tl) := by
    intro ho
    rw [if_pos ho]
    refine pm_go 2 (pc1 := 48) rfl ?_
    exact pm_iret rfl rfl rfl rfl
  have h38 : ¬ (k.toInt = 0 ∧ 0 ≤ v.toInt) → ¬ (k.toInt = 1 ∧ 1 ≤ v.toInt ∧ v.toInt ≤ 31) → ¬ (k.toInt = 2 ∧ 2 ≤ v.toInt ∧ v.toInt ≤ 31) → pm_X (pm_call (d + 1)) jm_110 2 (some .boolean) (d + 1) 0 0 38 [(0, .int k), (1, .int v)] [] 0 0 (N, HC IA LA RA SC dr tl) (.inl (some (.int (if opOk k.toInt v.toInt then 1 else 0)))) (N, HC IA LA RA SC dr tl) := by
    intro n0 n1 n2
    refine pm_go 2 (pc1 := 40) rfl ?_
    refine pm_icmp rfl (fun z => ?_) (fun z => hT (.inr (.inr (.inr (e0.mp (Classical.not_not.mp z))))))
    rw [if_neg (fun h => by
      rcases h with h | h | h | h
      · exact n0 h
      · exact n1 h
      · exact n2 h
      · exact z (e0.mpr h))]
    refine pm_go 1 (pc1 := 48) rfl ?_
    exact pm_iret rfl rfl rfl rfl
  have h23 : ¬ (k.toInt = 0 ∧ 0 ≤ v.toInt) → ¬ (k.toInt = 1 ∧ 1 ≤ v.toInt ∧ v.toInt ≤ 31) → pm_X (pm_call (d + 1)) jm_110 2 (some .boolean) (d + 1) 0 0 23 [(0, .int k), (1, .int v)] [] 0 0 (N, HC IA LA RA SC dr tl) (.inl (some (.int (if opOk k.toInt v.toInt then 1 else 0)))) (N, HC IA LA RA SC dr tl) := by
    intro n0 n1
    refine pm_go 2 (pc1 := 25) rfl ?_
    refine pm_icmp rfl (fun z => h38 n0 n1 (fun h => z (e0.mpr h.1))) (fun z => ?_)
    have hk := e0.mp (Classical.not_not.mp z)
    refine pm_go 3 (pc1 := 32) rfl ?_
    refine pm_cS [.int v, .int 2, .int 31] rfl rfl rfl rfl rfl (Nat.zero_le _) (Nat.zero_le _) m_within ?_
    by_cases hv : (2 : Int32) ≤ v ∧ v ≤ 31
    · rw [if_pos hv]
      exact pm_if rfl (fun _ => hT (.inr (.inr (.inl ⟨hk, i32_rng.mp hv⟩)))) (fun z => absurd (show ¬ (1 : Int32) = 0 by decide) z)
    · rw [if_neg hv]
      exact pm_if rfl (fun z => absurd rfl z) (fun _ => h38 n0 n1 (fun h => hv (i32_rng.mpr h.2)))
  have h8 : ¬ (k.toInt = 0 ∧ 0 ≤ v.toInt) → pm_X (pm_call (d + 1)) jm_110 2 (some .boolean) (d + 1) 0 0 8 [(0, .int k), (1, .int v)] [] 0 0 (N, HC IA LA RA SC dr tl) (.inl (some (.int (if opOk k.toInt v.toInt then 1 else 0)))) (N, HC IA LA RA SC dr tl) := by
    intro n0
    refine pm_go 2 (pc1 := 10) rfl ?_
    refine pm_icmp rfl (fun z => h23 n0 (fun h => z (e0.mpr h.1))) (fun z => ?_)
    have hk := e0.mp (Classical.not_not.mp z)
    refine pm_go 3 (pc1 := 17) rfl ?_
    refine pm_cS [.int v, .int 1, .int 31] rfl rfl rfl rfl rfl (Nat.zero_le _) (Nat.zero_le _) m_within ?_
    by_cases hv : (1 : Int32) ≤ v ∧ v ≤ 31
    · rw [if_pos hv]
      exact pm_if rfl (fun _ => hT (.inr (.inl ⟨hk, i32_rng.mp hv⟩))) (fun z => absurd (show ¬ (1 : Int32) = 0 by decide) z)
    · rw [if_neg hv]
      exact pm_if rfl (fun z => absurd rfl z) (fun _ => h23 n0 (fun h => hv (i32_rng.mpr h.2)))
  refine pm_go 1 (pc1 := 1) rfl ?_
  refine pm_if rfl (fun z => h8 (fun h => z (e0.mpr h.1))) (fun z => ?_)
  have hk := e0.mp (Classical.not_not.mp z)
  refine pm_go 1 (pc1 := 5) rfl ?_
  refine pm_if rfl (fun z => hT (.inl ⟨hk, Int32.le_iff_toInt_le.mp z⟩)) (fun z => h8 (fun h => z (Int32.le_iff_toInt_le.mpr h.2)))
end MO2
abbrev fmOkN (kk : Nat → Nat) (n : Nat) : Prop := 0 < n ∧ ∀ k, k < n → kk k = 3 → k + 2 = n ∧ (kk (k + 1) = 1 ∨ kk (k + 1) = 2)
theorem fmOk_iff {K V : Nat → Int32} {n : Nat} {kk vv : Nat → Nat} (hN : fmN K V n kk vv) : fmOk K n ↔ fmOkN kk n := by
  have hc : ∀ k, k < n → ∀ x, x ≤ 3 → (K k = nI x ↔ kk k = x) := by
    intro k hk x hx
    obtain ⟨e1, _, e3, _⟩ := hN k hk
    rw [e1, nI_eqI (by omega) (by omega)]
  constructor
  · intro h
    refine ⟨h.1, fun k hk e => ?_⟩
    have h2 := h.2 k hk ((hc k hk 3 (by omega)).mpr e)
    refine ⟨h2.1, h2.2.imp (fun z => (hc (k + 1) (by omega) 1 (by omega)).mp z) (fun z => (hc (k + 1) (by omega) 2 (by omega)).mp z)⟩
  · intro h
    refine ⟨h.1, fun k hk e => ?_⟩
    have h2 := h.2 k hk ((hc k hk 3 (by omega)).mp e)
    refine ⟨h2.1, h2.2.imp (fun z => (hc (k + 1) (by omega) 1 (by omega)).mpr z) (fun z => (hc (k + 1) (by omega) 2 (by omega)).mpr z)⟩
/-- the ops at a place of an array of longs -/
abbrev opsAt (G : Nat → Int64) (at0 n : Nat) (kk vv : Nat → Nat) : Prop := ∀ j, j < n → G (at0 + j) = opL (kk j) (vv j) ∧ kk j ≤ 3 ∧ vv j < 2 ^ 31
section MO3
variable {f : Nat → va_E} {N d a at0 ln n : Nat} {G : Nat → Int64} {kk vv : Nat → Nat}
theorem m_isForm_loop (ha : f a = .inl (1, ln, .inr (.inl G))) (hO : opsAt G at0 n kk vv) (hl : at0 + n ≤ ln) (hl2 : ln < 100000) (hn : n ≤ 8) (hn0 : 0 < n) : ∀ (j k : Nat), k + j = n → (∀ i, i < k → kk i = 3 → i + 2 = n ∧ (kk (i + 1) = 1 ∨ kk (i + 1) = 2)) →
    pm_X (pm_call (d + 1)) jm_117 5 (some .boolean) (d + 1) 0 0 15 [(0, .ref a), (1, .int (nI at0)), (2, .int (nI n)), (3, .int (nI k))] [] 0 0 (N, f) (.inl (some (.int (if fmOkN kk n then 1 else 0)))) (N, f) := by
  intro j
  induction j with
  | zero =>
    intro k hk hI
    have e : k = n := by omega
    subst e
    refine pm_go 2 (pc1 := 17) rfl ?_
    refine pm_icmp rfl (fun _ => ?_) (fun z => absurd ((nI_leI (by omega) (by omega)).mpr (Nat.le_refl _)) z)
    rw [if_pos ⟨hn0, hI⟩]
    refine pm_go 1 (pc1 := 77) rfl ?_
    exact pm_iret rfl rfl rfl rfl
  | succ j ih =>
    intro k hk hI
    obtain ⟨g1, g2, g3⟩ := hO k (by omega)
    have hnext : (kk k = 3 → k + 2 = n ∧ (kk (k + 1) = 1 ∨ kk (k + 1) = 2)) → pm_X (pm_call (d + 1)) jm_117 5 (some .boolean) (d + 1) 0 0 70 [(0, .ref a), (1, .int (nI at0)), (2, .int (nI n)), (3, .int (nI k))] [] 0 0 (N, f) (.inl (some (.int (if fmOkN kk n then 1 else 0)))) (N, f) := by
      intro hkk
      refine pm_go 2 (pc1 := 15) rfl ?_
      rw [nI_1]
      refine pm_lv [(0, .ref a), (1, .int (nI at0)), (2, .int (nI n)), (3, .int (nI (k + 1)))] rfl rfl (ih (k + 1) (by omega) (fun i hi => ?_))
      by_cases e : i = k
      · subst e; exact hkk
      · exact hI i (by omega)
    refine pm_go 2 (pc1 := 17) rfl ?_
    refine pm_icmp rfl (fun z => absurd ((nI_leI (by omega) (by omega)).mp z) (by omega)) (fun _ => ?_)
    refine pm_go 4 (pc1 := 24) rfl ?_
    rw [nI_add]
    refine pm_lald (j := at0 + k) rfl ha (cw_ti (by omega)) (by omega) ?_
    rw [g1]
    refine pm_cS [.long (opL (kk k) (vv k))] rfl rfl rfl rfl rfl (Nat.zero_le _) (Nat.zero_le _) (m_kindOf (by omega) g3) ?_
    refine pm_go 1 (pc1 := 29) rfl ?_
    refine pm_icmp rfl (fun z => ?_) (fun z => ?_)
    · have hk3 : kk k = 3 := (nI_eqI (b := 3) (by omega) (by omega)).mp z
      refine pm_go 4 (pc1 := 39) rfl ?_
      refine pm_icmp rfl (fun z => ?_) (fun z => ?_)
      · have hk2 : k + 2 = n := by
          have z2 := congrArg Int32.toInt (show nI k = nI n - 2 from z)
          rw [cw_ti (by omega), fm_m2 hn] at z2
          omega
        obtain ⟨l1, l2, l3⟩ := hO (k + 1) (by omega)
        refine pm_go 6 (pc1 := 50) rfl ?_
        rw [nI_add, show nI (at0 + n) - 1 = nI (at0 + (k + 1)) from by rw [show at0 + (k + 1) = at0 + n - 1 by omega]; exact pk_sub (b := 1) (by omega)]
        refine pm_lald (j := at0 + (k + 1)) rfl ha (cw_ti (by omega)) (by omega) ?_
        rw [l1]
        refine pm_cS [.long (opL (kk (k + 1)) (vv (k + 1)))] rfl rfl rfl rfl rfl (Nat.zero_le _) (Nat.zero_le _) (m_kindOf (by omega) l3) ?_
        refine pm_go 3 (pc1 := 59) rfl ?_
        refine pm_icmp rfl (fun z => ?_) (fun z => ?_)
        · have e1 := (nI_eqI (b := 1) (by omega) (by omega)).mp z
          exact pm_lv [(0, .ref a), (1, .int (nI at0)), (2, .int (nI n)), (3, .int (nI k))] rfl rfl (hnext (fun _ => ⟨hk2, .inl e1⟩))
        · refine pm_go 2 (pc1 := 65) rfl ?_
          refine pm_icmp rfl (fun z2 => ?_) (fun z2 => ?_)
          · have e2 := (nI_eqI (b := 2) (by omega) (by omega)).mp z2
            exact pm_lv [(0, .ref a), (1, .int (nI at0)), (2, .int (nI n)), (3, .int (nI k))] rfl rfl (hnext (fun _ => ⟨hk2, .inr e2⟩))
          · rw [if_neg (fun h => by
              rcases (h.2 k (by omega) hk3).2 with e | e
              · exact z (show nI (kk (k + 1)) = 1 by rw [e]; rfl)
              · exact z2 (show nI (kk (k + 1)) = 2 by rw [e]; rfl))]
            refine pm_go 1 (pc1 := 69) rfl ?_
            exact pm_iret rfl rfl rfl rfl
      · rw [if_neg (fun h => z (by
          have := (h.2 k (by omega) hk3).1
          show nI k = nI n - 2
          rw [show nI n - 2 = nI (n - 2) from pk_sub (b := 2) (by omega), show n - 2 = k by omega]))]
        refine pm_go 1 (pc1 := 43) rfl ?_
        exact pm_iret rfl rfl rfl rfl
    · refine pm_go 1 (pc1 := 70) rfl ?_
      exact hnext (fun e => absurd (show nI (kk k) = 3 by rw [e]; rfl) z)
theorem m_isForm (ha : f a = .inl (1, ln, .inr (.inl G))) (hO : opsAt G at0 n kk vv) (hl : at0 + n ≤ ln) (hl2 : ln < 100000) (hn : n ≤ 8) : pm_call (d + 2) 117 [.ref a, .int (nI at0), .int (nI n)] (N, f) (.inl (some (.int (if fmOkN kk n then 1 else 0)))) (N, f) 0 0 := by
  refine pm_callX jm_117 [(0, .ref a), (1, .int (nI at0)), (2, .int (nI n))] rfl rfl rfl ?_
  refine pm_go 2 (pc1 := 2) rfl ?_
  by_cases hn0 : 0 < n
  · refine pm_icmp rfl (fun z => absurd ((nI_ltI (b := 1) (by omega) (by omega)).mp z) (by omega)) (fun _ => ?_)
    refine pm_go 2 (pc1 := 8) rfl ?_
    refine pm_icmp rfl (fun _ => ?_) (fun z => absurd ((nI_leI (b := 8) (by omega) (by omega)).mpr hn) z)
    refine pm_go 2 (pc1 := 15) rfl ?_
    exact pm_lv [(0, .ref a), (1, .int (nI at0)), (2, .int (nI n)), (3, .int (nI 0))] rfl rfl (m_isForm_loop ha hO hl hl2 hn hn0 n 0 (by omega) (fun i hi => absurd hi (by omega)))
  · refine pm_icmp rfl (fun _ => ?_) (fun z => absurd ((nI_ltI (b := 1) (by omega) (by omega)).mpr (by omega)) z)
    rw [if_neg (fun h => hn0 h.1)]
    refine pm_go 1 (pc1 := 12) rfl ?_
    exact pm_iret rfl rfl rfl rfl
end MO3
