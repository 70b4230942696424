/-! THE MODEL: records written -/
def mB (kk vv : Nat → Nat) (τ : (Nat → Int32) × Nat) (k x : Nat) : (Nat → Int32) × Nat := if kk k = 1 then mP τ (nI x) (vv k) else if kk k = 2 then mC τ x (vv k) else τ
/-- op k matches the number x -/
abbrev mtN (k v x : Nat) : Prop := (k = 0 → x = v) ∧ (k = 1 → x / 2 ^ v = 0)
section MF2
variable {IA : Nat → Nat → Int32} {LA : Nat → Nat → Int64} {RA : Nat → Nat → Option Nat} {SC : Nat → Nat → Int32} {dr : Nat} {tl : Nat → va_E} {N d dp n f vc S : Nat} {τ : (Nat → Int32) × Nat} {kk vv nu : Nat → Nat} {r : pm_V} {h' : pm_H} {h : pm_H}
theorem m_matches {k v x : Nat} (hk : k ≤ 2) (hv : v < 2 ^ 31) (h1 : k = 1 → v ≤ 31) (hx : x < 2 ^ 31) : pm_call (d + 2) 121 [.long (opL k v), .int (nI x)] h (.inl (some (.int (if mtN k v x then 1 else 0)))) h 0 0 := by
  refine pm_callX jm_121 [(0, .long (opL k v)), (2, .int (nI x))] rfl rfl rfl ?_
  refine pm_go 1 (pc1 := 1) rfl ?_
  refine pm_cS [.long (opL k v)] rfl rfl rfl rfl rfl (Nat.zero_le _) (Nat.zero_le _) (m_kindOf (by omega) hv) ?_
  have hret1 : pm_X (pm_call (d + 1)) jm_121 3 (some .boolean) (d + 1) 0 0 45 [(0, .long (opL k v)), (2, .int (nI x))] [.int 1] 0 0 h (.inl (some (.int 1))) h := pm_iret rfl rfl rfl rfl
  have hret0 : pm_X (pm_call (d + 1)) jm_121 3 (some .boolean) (d + 1) 0 0 45 [(0, .long (opL k v)), (2, .int (nI x))] [.int 0] 0 0 h (.inl (some (.int 0))) h := pm_iret rfl rfl rfl rfl
  by_cases k0 : k = 0
  · refine pm_if rfl (fun z => absurd (show nI k = 0 by rw [k0]; rfl) z) (fun _ => ?_)
    refine pm_go 2 (pc1 := 9) rfl ?_
    refine pm_cS [.long (opL k v)] rfl rfl rfl rfl rfl (Nat.zero_le _) (Nat.zero_le _) (m_numberOf (by omega) hv) ?_
    refine pm_icmp rfl (fun z => ?_) (fun z => ?_)
    · rw [if_neg (fun h => z (show nI x = nI v by rw [h.1 k0]))]
      exact pm_go 2 (pc1 := 45) rfl hret0
    · rw [if_pos ⟨fun _ => (nI_eqI hx hv).mp (Classical.not_not.mp z), fun e => absurd e (by omega)⟩]
      exact pm_go 2 (pc1 := 45) rfl hret1
  · refine pm_if rfl (fun _ => ?_) (fun z => absurd (fun h => k0 ((nI_eqI (b := 0) (by omega) (by omega)).mp h)) z)
    refine pm_go 1 (pc1 := 24) rfl ?_
    refine pm_cS [.long (opL k v)] rfl rfl rfl rfl rfl (Nat.zero_le _) (Nat.zero_le _) (m_kindOf (by omega) hv) ?_
    refine pm_go 1 (pc1 := 28) rfl ?_
    by_cases k2 : k = 2
    · rw [if_pos ⟨fun e => absurd e k0, fun e => absurd e (by omega)⟩]
      refine pm_icmp rfl (fun _ => pm_go 2 (pc1 := 45) rfl hret1) (fun z => absurd (show nI k = 2 by rw [k2]; rfl) z)
    · have k1 : k = 1 := by omega
      refine pm_icmp rfl (fun z => absurd ((nI_eqI (b := 2) (by omega) (by omega)).mp z) k2) (fun _ => ?_)
      refine pm_go 2 (pc1 := 33) rfl ?_
      refine pm_cS [.long (opL k v)] rfl rfl rfl rfl rfl (Nat.zero_le _) (Nat.zero_le _) (m_numberOf (by omega) hv) ?_
      refine pm_go 1 (pc1 := 37) rfl ?_
      rw [ny_sar (by have := h1 k1; omega) hx]
      have hlt : x / 2 ^ v < 2 ^ 31 := Nat.lt_of_le_of_lt (Nat.div_le_self _ _) hx
      refine pm_if rfl (fun z => ?_) (fun z => ?_)
      · rw [if_neg (fun h => z (show nI (x / 2 ^ v) = 0 by rw [h.2 k1]; rfl))]
        exact pm_go 1 (pc1 := 45) rfl hret0
      · rw [if_pos ⟨fun e => absurd e k0, fun _ => (nI_eqI (b := 0) hlt (by omega)).mp (Classical.not_not.mp z)⟩]
        exact pm_go 2 (pc1 := 45) rfl hret1
/-- the numbers of a record, as the model has them -/
abbrev nuM (IA SC : Nat → Nat → Int32) (vc : Nat) (nu : Nat → Nat) : Prop := SC 36 18 = nI vc ∧ vc ≤ 16 ∧ nu 0 < 2 ^ 31 ∧ ∀ j, j < vc → IA 52 j = nI (nu (j + 1)) ∧ nu (j + 1) < 2 ^ 31
theorem nuM_b (hU : nuM IA SC vc nu) : ∀ i, i < vc + 1 → nu i < 2 ^ 31 := by
  intro i hi
  by_cases e : i = 0
  · rw [e]; exact hU.2.2.1
  · have := (hU.2.2.2 (i - 1) (by omega)).2
    rw [show i - 1 + 1 = i by omega] at this
    exact this
theorem p_part {k : Nat} (hU : nuM IA SC vc nu) (hk : k < vc + 1) : pm_call (d + 1) 122 [.ref 36, .int (nI (nu 0)), .int (nI k)] (N, HP IA LA RA SC dr tl τ) (.inl (some (.int (nI (nu k))))) (N, HP IA LA RA SC dr tl τ) 0 0 := by
  obtain ⟨u1, u2, u3, u4⟩ := hU
  refine pm_callX jm_122 [(0, .ref 36), (1, .int (nI (nu 0))), (2, .int (nI k))] rfl rfl rfl ?_
  refine pm_go 1 (pc1 := 1) rfl ?_
  by_cases k0 : k = 0
  · refine pm_if rfl (fun z => absurd (show nI k = 0 by rw [k0]; rfl) z) (fun _ => ?_)
    refine pm_go 2 (pc1 := 16) rfl ?_
    rw [k0]
    exact pm_iret rfl rfl rfl rfl
  · refine pm_if rfl (fun _ => ?_) (fun z => absurd (fun h => k0 ((nI_eqI (b := 0) (by omega) (by omega)).mp h)) z)
    refine pm_go 1 (pc1 := 9) rfl ?_
    refine pm_getf rfl rfl rfl ?_
    refine pm_go 3 (pc1 := 15) rfl ?_
    rw [show nI k - (1 : Int32) = nI (k - 1) from pk_sub (b := 1) (by omega)]
    refine pm_iald (j := k - 1) (N := 16) rfl rfl (cw_ti (by omega)) (by omega) ?_
    refine pm_nm (y := nI (nu k)) (by have := (u4 (k - 1) (by omega)).1; rw [show k - 1 + 1 = k by omega] at this; exact this) ?_
    exact pm_iret rfl rfl rfl rfl
theorem mB_b {k x : Nat} (hB : fmB n kk vv) (hk : k < n) (hx : x < 2 ^ 31) : τ.2 ≤ (mB kk vv τ k x).2 ∧ (mB kk vv τ k x).2 ≤ τ.2 + 93 := by
  obtain ⟨e3, e4, e5, e6⟩ := hB k hk
  unfold mB
  split
  · rename_i e
    have : (mP τ (nI x) (vv k)).2 = τ.2 + vv k := rfl
    have := e5 e
    omega
  · split
    · rename_i e
      obtain ⟨a1, a2, -⟩ := mC_b (τ := τ) hx (e6 e).1 (e6 e).2
      exact ⟨a2, a1⟩
    · omega
theorem p_byOp {k x : Nat} (hB : fmB n kk vv) (hk : k < n) (hx : x < 2 ^ 31) (hE : τ.2 < 6000) : pm_call (d + 3) 124 [.ref 36, .long (opL (kk k) (vv k)), .int (nI x)] (N, HP IA LA RA SC dr tl τ) (.inl none) (N, HP IA LA RA SC dr tl (mB kk vv τ k x)) 0 0 := by
  obtain ⟨e3, e4, e5, e6⟩ := hB k hk
  unfold mB
  refine pm_callX jm_124 [(0, .ref 36), (1, .long (opL (kk k) (vv k))), (3, .int (nI x))] rfl rfl rfl ?_
  refine pm_go 1 (pc1 := 1) rfl ?_
  refine pm_cS [.long (opL (kk k) (vv k))] rfl rfl rfl rfl rfl (Nat.zero_le _) (Nat.zero_le _) (m_kindOf (by omega) e4) ?_
  refine pm_go 1 (pc1 := 5) rfl ?_
  by_cases k1 : kk k = 1
  · rw [if_pos k1]
    refine pm_icmp rfl (fun z => absurd (show nI (kk k) = 1 by rw [k1]; rfl) z) (fun _ => ?_)
    refine pm_go 3 (pc1 := 11) rfl ?_
    refine pm_cS [.long (opL (kk k) (vv k))] rfl rfl rfl rfl rfl (Nat.zero_le _) (Nat.zero_le _) (m_numberOf (by omega) e4) ?_
    refine pm_cV [.int (nI x), .int (nI (vv k))] rfl rfl rfl rfl rfl rfl (Nat.zero_le _) (Nat.zero_le _) (p_bits (by have := e5 k1; omega) (by have := e5 k1; omega)) ?_
    refine pm_go 1 (pc1 := 18) rfl ?_
    refine pm_cS [.long (opL (kk k) (vv k))] rfl rfl rfl rfl rfl (Nat.zero_le _) (Nat.zero_le _) (m_kindOf (by omega) e4) ?_
    refine pm_go 1 (pc1 := 22) rfl ?_
    refine pm_icmp rfl (fun _ => ?_) (fun z => absurd (fun h => absurd ((nI_eqI (b := 2) (by omega) (by omega)).mp h) (by omega)) z)
    exact pm_vret rfl rfl rfl rfl
  · rw [if_neg k1]
    refine pm_icmp rfl (fun _ => ?_) (fun z => absurd (fun h => k1 ((nI_eqI (b := 1) (by omega) (by omega)).mp h)) z)
    refine pm_go 1 (pc1 := 18) rfl ?_
    refine pm_cS [.long (opL (kk k) (vv k))] rfl rfl rfl rfl rfl (Nat.zero_le _) (Nat.zero_le _) (m_kindOf (by omega) e4) ?_
    refine pm_go 1 (pc1 := 22) rfl ?_
    by_cases k2 : kk k = 2
    · rw [if_pos k2]
      refine pm_icmp rfl (fun z => absurd (show nI (kk k) = 2 by rw [k2]; rfl) z) (fun _ => ?_)
      refine pm_go 3 (pc1 := 28) rfl ?_
      refine pm_cS [.long (opL (kk k) (vv k))] rfl rfl rfl rfl rfl (Nat.zero_le _) (Nat.zero_le _) (m_numberOf (by omega) e4) ?_
      refine pm_cV [.int (nI x), .int (nI (vv k))] rfl rfl rfl rfl rfl rfl (Nat.zero_le _) (Nat.zero_le _) (p_chunks (by omega) hx (e6 k2).1 (e6 k2).2) ?_
      exact pm_vret rfl rfl rfl rfl
    · rw [if_neg k2]
      refine pm_icmp rfl (fun _ => ?_) (fun z => absurd (fun h => k2 ((nI_eqI (b := 2) (by omega) (by omega)).mp h)) z)
      exact pm_vret rfl rfl rfl rfl
def mSk (kk vv : Nat → Nat) (τ : (Nat → Int32) × Nat) (nu : Nat → Nat) : Nat → (Nat → Int32) × Nat
  | 0 => τ
  | k + 1 => mB kk vv (mSk kk vv τ nu k) k (nu k)
def mRk (kk vv : Nat → Nat) (l S : Nat) (τ : (Nat → Int32) × Nat) (nu : Nat → Nat) : Nat → (Nat → Int32) × Nat
  | 0 => τ
  | k + 1 => mB kk vv (mRk kk vv l S τ nu k) l (nu (S + k))
def mF (n : Nat) (kk vv : Nat → Nat) (τ : (Nat → Int32) × Nat) (nu : Nat → Nat) (tot : Nat) : (Nat → Int32) × Nat := if rwN kk n then mRk kk vv (n - 1) (sgN kk n) (mC (mSk kk vv τ nu (sgN kk n)) (tot - sgN kk n) 6) nu (tot - sgN kk n) else mSk kk vv τ nu (sgN kk n)
theorem mSk_b (hB : fmB n kk vv) : ∀ k, k ≤ n → (∀ i, i < k → nu i < 2 ^ 31) → τ.2 ≤ (mSk kk vv τ nu k).2 ∧ (mSk kk vv τ nu k).2 ≤ τ.2 + 93 * k
  | 0, _, _ => ⟨Nat.le_refl _, Nat.le_refl _⟩
  | k + 1, hk, h => by
    have h1 := mSk_b hB k (by omega) (fun i hi => h i (by omega))
    have h2 := mB_b (τ := mSk kk vv τ nu k) hB (show k < n by omega) (h k (by omega))
    refine ⟨?_, ?_⟩
    · show _ ≤ (mB kk vv (mSk kk vv τ nu k) k (nu k)).2
      omega
    · show (mB kk vv (mSk kk vv τ nu k) k (nu k)).2 ≤ _
      omega
theorem mRk_b (hB : fmB n kk vv) (hn : 0 < n) : ∀ k, (∀ i, i < S + k → nu i < 2 ^ 31) → τ.2 ≤ (mRk kk vv (n - 1) S τ nu k).2 ∧ (mRk kk vv (n - 1) S τ nu k).2 ≤ τ.2 + 93 * k
  | 0, _ => ⟨Nat.le_refl _, Nat.le_refl _⟩
  | k + 1, h => by
    have h1 := mRk_b hB hn k (fun i hi => h i (by omega))
    have h2 := mB_b (τ := mRk kk vv (n - 1) S τ nu k) hB (show n - 1 < n by omega) (h (S + k) (by omega))
    refine ⟨?_, ?_⟩
    · show _ ≤ (mB kk vv (mRk kk vv (n - 1) S τ nu k) (n - 1) (nu (S + k))).2
      omega
    · show (mB kk vv (mRk kk vv (n - 1) S τ nu k) (n - 1) (nu (S + k))).2 ≤ _
      omega
theorem m_bf_1 {cv rwv : Int32} (hU : nuM IA SC vc nu) (hcv : cv = nI (nu 0)) (hB : fmB n kk vv) (hO : opsAt (LA 48) (8 * f) n kk vv) (hf : f + 1 ≤ 300) (hn : n ≤ 8) (hS : S ≤ n) (hT : S ≤ vc + 1) (hE : τ.2 < 3000)
    (kt : pm_X (pm_call (d + 3)) jm_125 7 none (d + 3) 0 0 92 [(0, .ref 36), (1, .int cv), (2, .int (nI f)), (3, .int (nI n)), (4, .int rwv), (5, .int (nI S))] [] 0 0 (N, HP IA LA RA SC dr tl (mSk kk vv τ nu S)) r h') : ∀ (j k : Nat), k + j = S →
    pm_X (pm_call (d + 3)) jm_125 7 none (d + 3) 0 0 56 [(0, .ref 36), (1, .int cv), (2, .int (nI f)), (3, .int (nI n)), (4, .int rwv), (5, .int (nI S)), (6, .int (nI k))] [] 0 0 (N, HP IA LA RA SC dr tl (mSk kk vv τ nu k)) r h' := by
  subst hcv
  intro j
  induction j with
  | zero =>
    intro k hk
    have e : k = S := by omega
    subst e
    refine pm_go 2 (pc1 := 60) rfl ?_
    refine pm_icmp rfl (fun _ => ?_) (fun z => absurd ((nI_leI (by omega) (by omega)).mpr (Nat.le_refl _)) z)
    exact pm_lv [(0, .ref 36), (1, .int (nI (nu 0))), (2, .int (nI f)), (3, .int (nI n)), (4, .int rwv), (5, .int (nI k))] rfl rfl kt
  | succ j ih =>
    intro k hk
    have hb := mSk_b (τ := τ) (nu := nu) hB k (by omega) (fun i hi => nuM_b hU i (by omega))
    refine pm_go 2 (pc1 := 60) rfl ?_
    refine pm_icmp rfl (fun z => absurd ((nI_leI (by omega) (by omega)).mp z) (by omega)) (fun _ => ?_)
    refine pm_go 2 (pc1 := 65) rfl ?_
    refine pm_getf rfl rfl rfl ?_
    refine pm_go 5 (pc1 := 75) rfl ?_
    rw [show (8 : Int32) * nI f + nI k = nI (8 * f + k) from ixm 8 f k]
    refine pm_lald (j := 8 * f + k) rfl rfl (cw_ti (by omega)) (by omega) ?_
    rw [(hO k (by omega)).1]
    refine pm_go 3 (pc1 := 80) rfl ?_
    refine pm_cV [.int (nI (nu 0)), .int (nI k)] rfl rfl rfl rfl rfl rfl (Nat.zero_le _) (Nat.zero_le _) (p_part hU (by omega)) ?_
    refine pm_cV [.long (opL (kk k) (vv k)), .int (nI (nu k))] rfl rfl rfl rfl rfl rfl (Nat.zero_le _) (Nat.zero_le _) (p_byOp hB (by omega) (nuM_b hU k (by omega)) (by omega)) ?_
    refine pm_go 2 (pc1 := 56) rfl ?_
    rw [nI_1]
    exact pm_lv [(0, .ref 36), (1, .int (nI (nu 0))), (2, .int (nI f)), (3, .int (nI n)), (4, .int rwv), (5, .int (nI S)), (6, .int (nI (k + 1)))] rfl rfl (ih (k + 1) (by omega))
theorem m_bf_2 (hU : nuM IA SC vc nu) (hB : fmB n kk vv) (hO : opsAt (LA 48) (8 * f) n kk vv) (hf : f + 1 ≤ 300) (hn : n ≤ 8) (hn0 : 0 < n) (hT : S ≤ vc + 1) (hE : τ.2 < 3000) : ∀ (j k : Nat), S + k + j = vc + 1 →
    pm_X (pm_call (d + 3)) jm_125 7 none (d + 3) 0 0 117 [(0, .ref 36), (1, .int (nI (nu 0))), (2, .int (nI f)), (3, .int (nI n)), (6, .int (nI (S + k)))] [] 0 0 (N, HP IA LA RA SC dr tl (mRk kk vv (n - 1) S τ nu k)) (.inl none) (N, HP IA LA RA SC dr tl (mRk kk vv (n - 1) S τ nu (vc + 1 - S))) := by
  intro j
  induction j with
  | zero =>
    intro k hk
    have e : k = vc + 1 - S := by omega
    subst e
    refine pm_go 2 (pc1 := 120) rfl ?_
    refine pm_getf rfl rfl rfl ?_
    refine pm_nm (y := nI vc) hU.1 ?_
    refine pm_icmp rfl (fun _ => ?_) (fun z => absurd ((nI_ltI (by have := hU.2.1; omega) (by have := hU.2.1; omega)).mpr (by omega)) z)
    exact pm_vret rfl rfl rfl rfl
  | succ j ih =>
    intro k hk
    have hv16 := hU.2.1
    have hb := mRk_b (τ := τ) (nu := nu) (S := S) hB hn0 k (fun i hi => nuM_b hU i (by omega))
    refine pm_go 2 (pc1 := 120) rfl ?_
    refine pm_getf rfl rfl rfl ?_
    refine pm_nm (y := nI vc) hU.1 ?_
    refine pm_icmp rfl (fun z => absurd ((nI_ltI (by omega) (by omega)).mp z) (by omega)) (fun _ => ?_)
    refine pm_go 2 (pc1 := 128) rfl ?_
    refine pm_getf rfl rfl rfl ?_
    refine pm_go 7 (pc1 := 139) rfl ?_
    rw [show (8 : Int32) * nI f + nI n = nI (8 * f + n) from ixm 8 f n, show nI (8 * f + n) - (1 : Int32) = nI (8 * f + (n - 1)) from by rw [show 8 * f + (n - 1) = 8 * f + n - 1 by omega]; exact pk_sub (b := 1) (by omega)]
    refine pm_lald (j := 8 * f + (n - 1)) rfl rfl (cw_ti (by omega)) (by omega) ?_
    rw [(hO (n - 1) (by omega)).1]
    refine pm_go 3 (pc1 := 144) rfl ?_
    refine pm_cV [.int (nI (nu 0)), .int (nI (S + k))] rfl rfl rfl rfl rfl rfl (Nat.zero_le _) (Nat.zero_le _) (p_part hU (by omega)) ?_
    refine pm_cV [.long (opL (kk (n - 1)) (vv (n - 1))), .int (nI (nu (S + k)))] rfl rfl rfl rfl rfl rfl (Nat.zero_le _) (Nat.zero_le _) (p_byOp hB (by omega) (nuM_b hU (S + k) (by omega)) (by omega)) ?_
    refine pm_go 2 (pc1 := 117) rfl ?_
    rw [nI_1]
    exact pm_lv [(0, .ref 36), (1, .int (nI (nu 0))), (2, .int (nI f)), (3, .int (nI n)), (6, .int (nI (S + (k + 1))))] rfl rfl (ih (k + 1) (by omega))
end MF2
