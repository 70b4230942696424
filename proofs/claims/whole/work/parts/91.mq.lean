/-! THE MODEL'S STREAM AS A PAIR; both streams together -/
abbrev mP (τ : (Nat → Int32) × Nat) (v : Int32) (n : Nat) : (Nat → Int32) × Nat := (md_bits τ.1 τ.2 v n, τ.2 + n)
abbrev mC (τ : (Nat → Int32) × Nat) (x w : Nat) : (Nat → Int32) × Nat := md_ch 32 τ.1 τ.2 x w
abbrev HP (IA : Nat → Nat → Int32) (LA : Nat → Nat → Int64) (RA : Nat → Nat → Option Nat) (SC : Nat → Nat → Int32) (dr : Nat) (tl : Nat → va_E) (τ : (Nat → Int32) × Nat) : Nat → va_E := HC (va_up (va_up IA 37 τ.1) 38 (upd (IA 38) 0 (nI τ.2))) LA RA SC dr tl
theorem md_bit_hi {S : Nat → Int32} {p : Nat} {b : Bool} (hp : p < 4096) {j : Nat} (hj : 128 ≤ j) : md_bit S p b j = S j := by
  unfold md_bit
  split
  · exact upd_ne (by omega)
  · rfl
theorem md_bits_hi {S : Nat → Int32} {p : Nat} {v : Int32} {j : Nat} (hj : 128 ≤ j) : ∀ n, p + n ≤ 4096 → md_bits S p v n j = S j
  | 0, _ => rfl
  | n + 1, h => by
    show md_bit _ _ _ j = _
    rw [md_bit_hi (by omega) hj, md_bits_hi hj n (by omega)]
theorem md_ch_t {w : Nat} (hw : 2 ≤ w) : ∀ (t k : Nat) (S : Nat → Int32) (E x : Nat), x < 2 ^ (k * (w - 1)) → 1 ≤ k → (md_ch t S E x w).2 ≤ E + k * w ∧ E ≤ (md_ch t S E x w).2 ∧ (E + k * w ≤ 4096 → ∀ j, 128 ≤ j → (md_ch t S E x w).1 j = S j)
  | 0, _, _, E, _, _, _ => ⟨Nat.le_add_right _ _, Nat.le_refl _, fun _ _ _ => rfl⟩
  | t + 1, k, S, E, x, hx, hk => by
    unfold md_ch
    have h1 : w ≤ k * w := Nat.le_mul_of_pos_left w hk
    split
    · refine ⟨?_, ?_, fun hh j hj => ?_⟩
      · show E + w ≤ _
        omega
      · show E ≤ E + w
        omega
      · show md_bits _ _ _ _ j = _
        rw [md_bits_hi hj _ (by omega), md_bits_hi hj _ (by omega)]
    · rename_i hz
      have hk2 : 2 ≤ k := by
        refine Nat.le_of_not_lt fun hl => hz ?_
        have : k = 1 := by omega
        subst this
        rw [Nat.one_mul] at hx
        exact Nat.div_eq_of_lt hx
      have hx2 : x / 2 ^ (w - 1) < 2 ^ ((k - 1) * (w - 1)) := by
        rw [Nat.div_lt_iff_lt_mul (Nat.two_pow_pos _), ← Nat.pow_add]
        have : (k - 1) * (w - 1) + (w - 1) = k * (w - 1) := by
          rw [← Nat.succ_mul, show (k - 1).succ = k by omega]
        rw [this]
        exact hx
      obtain ⟨a1, a2, a3⟩ := md_ch_t hw t (k - 1) (md_bits (md_bits S E (nI x) (w - 1)) (E + (w - 1)) 1 1) (E + w) (x / 2 ^ (w - 1)) hx2 (by omega)
      have h2 : (k - 1) * w + w = k * w := by rw [← Nat.succ_mul, show (k - 1).succ = k by omega]
      refine ⟨by omega, by omega, fun hh j hj => ?_⟩
      rw [a3 (by omega) j hj, md_bits_hi hj _ (by omega), md_bits_hi hj _ (by omega)]
theorem mC_b {τ : (Nat → Int32) × Nat} {x w : Nat} (hx : x < 2 ^ 31) (hw2 : 2 ≤ w) (hw : w ≤ 31) : (mC τ x w).2 ≤ τ.2 + 93 ∧ τ.2 ≤ (mC τ x w).2 ∧ (τ.2 + 93 ≤ 4096 → ∀ j, 128 ≤ j → (mC τ x w).1 j = τ.1 j) := by
  obtain ⟨h1, h2⟩ := cw_k93 w (by omega) hw2
  obtain ⟨a1, a2, a3⟩ := md_ch_t hw2 32 (31 / (w - 1) + 1) τ.1 τ.2 x (Nat.lt_of_lt_of_le hx (Nat.pow_le_pow_right (by decide) h1)) (Nat.le_add_left 1 _)
  refine ⟨?_, a2, fun h j hj => a3 (by omega) j hj⟩
  show (md_ch 32 τ.1 τ.2 x w).2 ≤ _
  omega
theorem pm_h2 {d M : Nat} {As : List Value} {h : pm_H} {r : pm_V} {N : Nat} {f f1 : Nat → va_E} {bc bs : Nat} (e : f = f1) (hh : pm_call d M As h r (N, f) bc bs) : pm_call d M As h r (N, f1) bc bs := e ▸ hh
section MQ
variable {IA : Nat → Nat → Int32} {LA : Nat → Nat → Int64} {RA : Nat → Nat → Option Nat} {SC : Nat → Nat → Int32} {dr : Nat} {tl : Nat → va_E} {N d : Nat} {τ : (Nat → Int32) × Nat}
theorem HP_self {E : Nat} (hE : IA 38 0 = nI E) : HP IA LA RA SC dr tl (IA 37, E) = HC IA LA RA SC dr tl := by
  refine congrArg (fun z => HC z LA RA SC dr tl) ?_
  show va_up (va_up IA 37 (IA 37)) 38 (upd (IA 38) 0 (nI E)) = IA
  rw [upd_id hE, cw_id]
  exact cw_id IA 38
theorem HP_fold {S : Nat → Int32} {x : Nat} : HC (va_up (va_up (va_up (va_up IA 37 τ.1) 38 (upd (IA 38) 0 (nI τ.2))) 37 S) 38 (upd (upd (IA 38) 0 (nI τ.2)) 0 (nI x))) LA RA SC dr tl = HP IA LA RA SC dr tl (S, x) := by
  refine congrArg (fun z => HC z LA RA SC dr tl) ?_
  rw [va_up4 _ (by decide), cw_uu]
theorem p_bits {v : Int32} {n : Nat} (hn : n ≤ 32) (hp : τ.2 + n < 8000) : pm_call (d + 1) 101 [.ref 36, .int v, .int (nI n)] (N, HP IA LA RA SC dr tl τ) (.inl none) (N, HP IA LA RA SC dr tl (mP τ v n)) 0 0 := by
  have h := m_bits (IA := va_up (va_up IA 37 τ.1) 38 (upd (IA 38) 0 (nI τ.2))) (LA := LA) (RA := RA) (SC := SC) (dr := dr) (tl := tl) (N := N) (d := d) (v := v) (n := n) (p := τ.2) rfl hn hp
  exact pm_h2 (HP_fold (τ := τ)) h
theorem p_chunks {x w : Nat} (hp : τ.2 < 6800) (hx : x < 2 ^ 31) (hw2 : 2 ≤ w) (hw : w ≤ 31) : pm_call (d + 2) 102 [.ref 36, .int (nI x), .int (nI w)] (N, HP IA LA RA SC dr tl τ) (.inl none) (N, HP IA LA RA SC dr tl (mC τ x w)) 0 0 := by
  have h := m_chunks (IA := va_up (va_up IA 37 τ.1) 38 (upd (IA 38) 0 (nI τ.2))) (LA := LA) (RA := RA) (SC := SC) (dr := dr) (tl := tl) (N := N) (d := d) (x := x) (w := w) (p := τ.2) rfl hp hx hw2 hw
  exact pm_h2 (HP_fold (τ := τ) (S := (mC τ x w).1) (x := (mC τ x w).2)) h
theorem p_align (hp : τ.2 < 8000) : pm_call (d + 1) 103 [.ref 36, .int (nI 0)] (N, HP IA LA RA SC dr tl τ) (.inl none) (N, HP IA LA RA SC dr tl (τ.1, (τ.2 + 31) / 32 * 32)) 0 0 := by
  have h := m_align (IA := va_up (va_up IA 37 τ.1) 38 (upd (IA 38) 0 (nI τ.2))) (LA := LA) (RA := RA) (SC := SC) (dr := dr) (tl := tl) (N := N) (d := d) (p := τ.2) rfl hp
  refine cast (congrArg (fun z => pm_call (d + 1) 103 [.ref 36, .int (nI 0)] (N, HP IA LA RA SC dr tl τ) (.inl none) (N, HC z LA RA SC dr tl) 0 0) ?_) h
  rw [va_up2]
  show va_up (va_up IA 37 τ.1) 38 (upd (upd (IA 38) 0 (nI τ.2)) 0 _) = _
  rw [cw_uu]
theorem p_fits {b dp : Nat} (hbp : b ≤ τ.2) (hp : τ.2 < 4000) (hD : IA 39 0 = nI dp) (hd : dp ≤ 6) (hw : ∀ i, 1 ≤ i → i ≤ dp → ∃ z, z ≤ 8 ∧ IA 41 i = nI z) (hlv : md_lv (IA 41) dp τ.2 < 100000) :
    pm_call (d + 1) 105 [.ref 36, .int (nI b)] (N, HP IA LA RA SC dr tl τ) (.inl (some (.int (if md_lv (IA 41) dp τ.2 ≤ 2048 then 1 else 0)))) (N, HP IA LA RA SC dr tl (if md_lv (IA 41) dp τ.2 ≤ 2048 then τ else (md_cl τ.1 b (τ.2 - b), b))) 0 0 := by
  have h := m_fits (IA := va_up (va_up IA 37 τ.1) 38 (upd (IA 38) 0 (nI τ.2))) (LA := LA) (RA := RA) (SC := SC) (dr := dr) (tl := tl) (N := N) (d := d) (b := b) (p := τ.2) (dp := dp) rfl hbp hp hD hd hw hlv
  have e41 : va_up (va_up IA 37 τ.1) 38 (upd (IA 38) 0 (nI τ.2)) 41 = IA 41 := rfl
  rw [e41] at h
  by_cases hf : md_lv (IA 41) dp τ.2 ≤ 2048
  · rw [if_pos hf, if_pos hf] at h
    rw [if_pos hf, if_pos hf]
    exact h
  · rw [if_neg hf, if_neg hf] at h
    rw [if_neg hf, if_neg hf]
    exact pm_h2 (HP_fold (τ := τ)) h
theorem HP_st {k n : Nat} {g : Nat → Int32} (e : ∀ (IA SC : Nat → Nat → Int32), va_up (HC IA LA RA SC dr tl) k (.inl (0, n, .inl g)) = HC (va_up IA k g) LA RA SC dr tl) (h37 : k ≠ 37) (h38 : k ≠ 38) : va_up (HP IA LA RA SC dr tl τ) k (.inl (0, n, .inl g)) = HP (va_up IA k g) LA RA SC dr tl τ := by
  show va_up (HC _ LA RA SC dr tl) k _ = _
  rw [e]
  refine congrArg (fun z => HC z LA RA SC dr tl) ?_
  funext j
  have h1 : va_up IA k g 38 = IA 38 := va_up_ne IA g (Ne.symm h38)
  show (if j = k then g else if j = 38 then upd (IA 38) 0 (nI τ.2) else if j = 37 then τ.1 else IA j) = (if j = 38 then upd (va_up IA k g 38) 0 (nI τ.2) else if j = 37 then τ.1 else if j = k then g else IA j)
  rw [h1]
  by_cases a : j = k
  · subst a
    rw [if_pos rfl, if_neg h38, if_neg h37, if_pos rfl]
  · rw [if_neg a, if_neg a]
end MQ
/-- both streams, as pairs: the same, and the reader's words as in T -/
def RP (T : Nat → Int32) (σ τ : (Nat → Int32) × Nat) : Prop := τ.2 = σ.2 ∧ RS σ.1 τ.1 σ.2 ∧ ∀ j, 128 ≤ j → τ.1 j = T j
section RPS
variable {T : Nat → Int32} {σ τ : (Nat → Int32) × Nat}
theorem bt_lt {y n : Nat} (h : y < 2 ^ n) : ∀ k, n ≤ k → bt (nI y) k = false := by
  intro k hk
  by_cases hk2 : k < 32
  · rw [bt_nI _ _ hk2]
    exact Nat.testBit_lt_two_pow (Nat.lt_of_lt_of_le h (Nat.pow_le_pow_right (by omega) hk))
  · exact b_big (by omega)
theorem RP_P {y n : Nat} (h : RP T σ τ) (hn : n ≤ 32) (hy : y < 2 ^ n) (hE : σ.2 + n ≤ 4096) : RP T (wP σ (nI y) n) (mP τ (nI y) n) := by
  obtain ⟨h1, h2, h3⟩ := h
  refine ⟨by show τ.2 + n = σ.2 + n; rw [h1], ?_, fun j hj => ?_⟩
  · show RS (cw_put σ.1 σ.2 (nI y) n) (md_bits τ.1 τ.2 (nI y) n) (σ.2 + n)
    rw [h1]
    exact RS_put h2 hn (bt_lt hy)
  · show md_bits τ.1 τ.2 (nI y) n j = _
    rw [md_bits_hi hj n (by omega), h3 j hj]
theorem RP_C {x w : Nat} (h : RP T σ τ) (hx : x < 2 ^ 31) (hw2 : 2 ≤ w) (hw : w ≤ 31) (hE : σ.2 + 93 ≤ 4096) : RP T (wC σ x w) (mC τ x w) := by
  obtain ⟨h1, h2, h3⟩ := h
  have hc := RS_chunks hw2 hw hx h2
  rw [← h1] at hc
  refine ⟨?_, ?_, fun j hj => ?_⟩
  · show (md_ch 32 τ.1 τ.2 x w).2 = (cw_ch 31 σ.1 σ.2 x w).2
    rw [← h1]
    exact hc.2
  · show RS (cw_ch 31 σ.1 σ.2 x w).1 (md_ch 32 τ.1 τ.2 x w).1 (cw_ch 31 σ.1 σ.2 x w).2
    rw [← h1]
    exact hc.1
  · rw [(mC_b hx hw2 hw).2.2 (by omega) j hj, h3 j hj]
theorem RP_al {a : Nat} (h : RP T σ τ) (ha : σ.2 ≤ a) : RP T (σ.1, a) (τ.1, a) := ⟨rfl, ⟨h.2.1.1, fun j h1 h2 => h.2.1.2 j (Nat.le_trans ha h1) h2⟩, h.2.2⟩
theorem RP_set {k : Nat} {x : Int32} (h : RP T σ τ) (hk : 32 * (k + 1) ≤ σ.2) (hk2 : k < 64) : RP T (cw_set σ.1 k x, σ.2) (upd τ.1 k x, τ.2) := by
  obtain ⟨h1, h2, h3⟩ := h
  refine ⟨h1, ⟨fun i hi => ?_, fun j a b => ?_⟩, fun j hj => ?_⟩
  · show cw_set σ.1 k x i = upd τ.1 k x i
    unfold cw_set
    rw [if_pos hk2]
    by_cases e : i = k
    · subst e; rw [upd_at, upd_at]
    · rw [upd_ne e, upd_ne e]; exact h2.1 i hi
  · have a : σ.2 ≤ j := a
    show sb (upd τ.1 k x) j = false
    rw [sb_upd, if_neg (by omega)]
    exact h2.2 j a b
  · show upd τ.1 k x j = _
    rw [upd_ne (by omega)]
    exact h3 j hj
end RPS
