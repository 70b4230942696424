/-! BOTH STREAMS: taken back; an op; room -/
theorem sb_clb (S : Nat → Int32) (p : Nat) (j : Nat) : sb (upd S (p / 32) (S (p / 32) &&& ((1 : Int32) <<< (nI (p % 32) &&& 31) ^^^ (-1)))) j = (sb S j && !(decide (j = p))) := by
  rw [sb_upd]
  by_cases h : j / 32 = p / 32
  · rw [if_pos h, b_and, b_xor, b_shl (p % 32) (Nat.mod_lt _ (by omega)) _ (Nat.mod_lt _ (by omega)), bt_1, b_m1 _ (Nat.mod_lt _ (by omega)), ← h]
    show (sb S j && _) = _
    congr 1
    by_cases hj : j = p
    · subst hj; simp
    · have h3 : ¬ (p % 32 ≤ j % 32 ∧ j % 32 - p % 32 = 0) := by omega
      simp only [hj, decide_false, Bool.not_false]
      cases h1 : decide (p % 32 ≤ j % 32) <;> cases h2 : decide (j % 32 - p % 32 = 0) <;> simp_all
  · rw [if_neg h]
    have hj : ¬ j = p := fun z => h (by rw [z])
    simp [hj]
theorem sb_md_cl (S : Nat → Int32) (b j : Nat) : ∀ n, sb (md_cl S b n) j = (sb S j && !(decide (b ≤ j ∧ j < b + n)))
  | 0 => by
    have h : ¬ (b ≤ j ∧ j < b + 0) := by omega
    show sb S j = _
    simp only [h, decide_false, Bool.not_false, Bool.and_true]
  | n + 1 => by
    show sb (upd (md_cl S b n) ((b + n) / 32) _) j = _
    rw [sb_clb, sb_md_cl S b j n]
    by_cases h1 : j = b + n
    · have h2 : b ≤ j ∧ j < b + (n + 1) := by omega
      simp [h1]
    · by_cases h2 : b ≤ j ∧ j < b + n
      · have h3 : b ≤ j ∧ j < b + (n + 1) := by omega
        simp [h2, h3]
      · have h3 : ¬ (b ≤ j ∧ j < b + (n + 1)) := by omega
        simp only [h1, h2, h3, decide_false, Bool.not_false, Bool.and_true]
theorem md_cl_hi {S : Nat → Int32} {b j : Nat} (hj : 128 ≤ j) : ∀ n, b + n ≤ 4096 → md_cl S b n j = S j
  | 0, _ => rfl
  | n + 1, h => by
    show upd _ _ _ j = _
    rw [upd_ne (by omega), md_cl_hi hj n (by omega)]
theorem sb_cut (g : Nat → Int32) (m : Nat) {j : Nat} (hj : j < 2048) : sb (cw_cut g m) j = (sb g j && decide (j < m)) := by
  unfold sb cw_cut cw_cutk
  by_cases h1 : m / 32 ≤ j / 32
  · rw [if_pos ⟨h1, by omega⟩]
    by_cases h2 : j / 32 = m / 32
    · rw [if_pos h2, b_and]
      congr 1
      unfold cw_msk
      rw [bt_msk _ (Nat.mod_lt _ (by omega)) _ (Nat.mod_lt _ (by omega))]
      exact decide_eq_decide.mpr (by omega)
    · rw [if_neg h2, b_0, decide_eq_false (by omega)]
      simp
  · rw [if_neg (fun z => h1 z.1), decide_eq_true (by omega)]
    simp
theorem RP_cut {T : Nat → Int32} {σ τ : (Nat → Int32) × Nat} {b : Nat} (h : RP T σ τ) (hb : b ≤ σ.2) (hE : σ.2 ≤ 4096) : RP T (cw_cut σ.1 b, b) (md_cl τ.1 b (τ.2 - b), b) := by
  obtain ⟨h1, h2, h3⟩ := h
  rw [h1]
  refine ⟨rfl, ⟨fun i hi => b_ext fun k hk => ?_, fun j a c => ?_⟩, fun j hj => ?_⟩
  · have e1 : ∀ g : Nat → Int32, sb g (32 * i + k) = bt (g i) k := fun g => by unfold sb; rw [show (32 * i + k) / 32 = i by omega, show (32 * i + k) % 32 = k by omega]
    have hj : 32 * i + k < 2048 := by omega
    show bt (cw_cut σ.1 b i) k = bt (md_cl τ.1 b (σ.2 - b) i) k
    rw [← e1, ← e1, sb_cut _ _ hj, sb_md_cl, RS_sb h2 hj]
    by_cases c1 : 32 * i + k < b
    · have c2 : ¬ (b ≤ 32 * i + k ∧ 32 * i + k < b + (σ.2 - b)) := by omega
      simp only [c1, c2, decide_true, decide_false, Bool.not_false]
    · by_cases c2 : 32 * i + k < σ.2
      · have c3 : b ≤ 32 * i + k ∧ 32 * i + k < b + (σ.2 - b) := by omega
        simp only [c1, c3, decide_false, and_self, decide_true, Bool.not_true]
      · rw [h2.2 _ (by omega) (by omega)]
        simp
  · have a : b ≤ j := a
    show sb (md_cl τ.1 b (σ.2 - b)) j = false
    rw [sb_md_cl]
    by_cases c2 : j < σ.2
    · have c3 : b ≤ j ∧ j < b + (σ.2 - b) := by omega
      simp [c3]
    · rw [h2.2 j (by omega) c]
      simp
  · show md_cl τ.1 b (σ.2 - b) j = _
    rw [md_cl_hi hj _ (by omega), h3 j hj]
/-- an op's beginning: a bit 0 and three bits, or four bits at once -/
theorem md_op {S : Nat → Int32} {p k : Nat} (h1 : 1 ≤ k) (h3 : k ≤ 3) : md_bits (md_bits S p (nI 0) 1) (p + 1) (nI k) 3 = md_bits S p (nI (2 * k)) 4 := by
  have hk : k = 1 ∨ k = 2 ∨ k = 3 := by omega
  show md_bit (md_bit (md_bit (md_bit S (p + 0) (md_tb (nI 0) 0)) (p + 1 + 0) (md_tb (nI k) 0)) (p + 1 + 1) (md_tb (nI k) 1)) (p + 1 + 2) (md_tb (nI k) 2) = md_bit (md_bit (md_bit (md_bit S (p + 0) (md_tb (nI (2 * k)) 0)) (p + 1) (md_tb (nI (2 * k)) 1)) (p + 2) (md_tb (nI (2 * k)) 2)) (p + 3) (md_tb (nI (2 * k)) 3)
  rw [tb_nI (by omega), tb_nI (by omega), tb_nI (by omega), tb_nI (by omega), tb_nI (by omega), tb_nI (by omega), tb_nI (by omega), tb_nI (by omega)]
  rcases hk with rfl | rfl | rfl <;> rfl
def mOp (τ : (Nat → Int32) × Nat) (k x : Nat) : (Nat → Int32) × Nat := if k = 0 then mC (mP τ (nI 1) 1) x 8 else if k = 3 then mP τ (nI (2 * k)) 4 else mC (mP τ (nI (2 * k)) 4) x 5
theorem RP_op {T : Nat → Int32} {σ τ : (Nat → Int32) × Nat} {k x : Nat} (h : RP T σ τ) (hk : k ≤ 3) (hx : x < 2 ^ 31) (hE : σ.2 + 97 ≤ 4096) : RP T (wOp σ k x) (mOp τ k x) := by
  unfold wOp mOp
  by_cases k0 : k = 0
  · rw [if_pos k0, if_pos k0]
    exact RP_C (RP_P (y := 1) h (by omega) (by omega) (by omega)) hx (by omega) (by omega) (by show σ.2 + 1 + 93 ≤ _; omega)
  · rw [if_neg k0, if_neg k0]
    have h2 : RP T (wP (wP σ 0 1) (nI k) 3) (mP τ (nI (2 * k)) 4) := by
      have h3 := RP_P (y := k) (n := 3) (RP_P (y := 0) (n := 1) h (by omega) (by omega) (by omega)) (by omega) (by omega) (by show σ.2 + 1 + 3 ≤ _; omega)
      have e : mP (mP τ (nI 0) 1) (nI k) 3 = mP τ (nI (2 * k)) 4 := by
        show (md_bits (md_bits τ.1 τ.2 (nI 0) 1) (τ.2 + 1) (nI k) 3, τ.2 + 1 + 3) = (md_bits τ.1 τ.2 (nI (2 * k)) 4, τ.2 + 4)
        rw [md_op (by omega) hk]
      rw [e] at h3
      exact h3
    by_cases k3 : k = 3
    · rw [if_pos k3, if_pos k3]
      exact h2
    · rw [if_neg k3, if_neg k3]
      exact RP_C h2 hx (by omega) (by omega) (by show σ.2 + 1 + 3 + 93 ≤ _; omega)
/-- room for leaving all open blocks -/
theorem md_lv_al {wd : Nat → Int32} : ∀ (k a : Nat), (∀ i, 1 ≤ i → i ≤ k → ∃ z, 1 ≤ z ∧ z ≤ 32 ∧ wd i = nI z) → md_lv wd k (32 * a) = 32 * (a + k)
  | 0, _, _ => rfl
  | k + 1, a, h => by
    obtain ⟨z, z1, z2, e⟩ := h (k + 1) (by omega) (by omega)
    show md_lv wd k ((32 * a + (wd (k + 1)).toInt.toNat + 31) / 32 * 32) = _
    rw [e, nI_toInt (by omega), show (32 * a + ((z : Int)).toNat + 31) / 32 * 32 = 32 * (a + 1) by rw [Int.toNat_natCast]; omega, md_lv_al k (a + 1) (fun i h1 h2 => h i h1 (by omega))]
    omega
theorem md_lv_s {wd : Nat → Int32} {k p w : Nat} (hw : wd (k + 1) = nI w) (hw8 : w ≤ 8) (h : ∀ i, 1 ≤ i → i ≤ k → ∃ z, 1 ≤ z ∧ z ≤ 32 ∧ wd i = nI z) : md_lv wd (k + 1) p = 32 * ((p + w + 31) / 32 + k) := by
  show md_lv wd k ((p + (wd (k + 1)).toInt.toNat + 31) / 32 * 32) = _
  rw [hw, nI_toInt (by omega), Int.toNat_natCast, Nat.mul_comm, md_lv_al k _ h]
