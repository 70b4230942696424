/-! NUMBERS IN BITS; the class's chunks -/
theorem nx_or (a b : Nat) : nI a ||| nI b = nI (a ||| b) := by
  refine Int32.toBitVec_inj.mp ?_
  rw [Int32.toBitVec_or]
  show BitVec.ofNat 32 a ||| BitVec.ofNat 32 b = BitVec.ofNat 32 (a ||| b)
  exact (BitVec.ofNat_or).symm
theorem ny_pow {k : Nat} (hk : k ≤ 30) : (1 : Int32) <<< (nI k &&& 31) = nI (2 ^ k) := by
  have hp : 2 ^ k ≤ 2 ^ 30 := Nat.pow_le_pow_right (by omega) hk
  have h := pk_shlN (n := 1) (nI k &&& 31) k (s_l k (by omega)) (by omega)
  rw [Nat.one_mul] at h
  exact h
theorem ny_mask {x k : Nat} (hk : k ≤ 30) (hx : x < 2 ^ 31) : nI x &&& ((1 : Int32) <<< (nI k &&& 31) - 1) = nI (x % 2 ^ k) := by
  have hp : 2 ^ k ≤ 2 ^ 30 := Nat.pow_le_pow_right (by omega) hk
  have hp1 : 1 ≤ 2 ^ k := Nat.one_le_two_pow
  rw [ny_pow hk, show (1 : Int32) = nI 1 from rfl, pk_sub hp1]
  exact pk_andN (by omega) k (pk_tn (by omega))
theorem ny_shr {x k : Nat} (hk : k < 32) (hx : x < 2 ^ 31) : ((nI x).toUInt32 >>> ((nI k).toUInt32 &&& Int32.toUInt32 31)).toInt32 = nI (x / 2 ^ k) := pk_ushrN (by omega) (nI k) k (s_u k hk)
theorem ny_or {a k : Nat} (ha : a < 2 ^ k) : nI a ||| nI (2 ^ k) = nI (a + 2 ^ k) := by
  rw [nx_or]
  congr 1
  rw [Nat.or_comm, Nat.add_comm]
  have h := Nat.two_pow_add_eq_or_of_lt ha 1
  rw [Nat.mul_one] at h
  exact h.symm
/-- the row and its end behind a number in chunks of w; t turns at most -/
def cw_ch : Nat → (Nat → Int32) → Nat → Nat → Nat → (Nat → Int32) × Nat
  | 0, g, E, _, _ => (g, E)
  | t + 1, g, E, x, w => if x / 2 ^ (w - 1) = 0 then (cw_put g E (nI x) w, E + w) else cw_ch t (cw_put g E (nI (x % 2 ^ (w - 1) + 2 ^ (w - 1))) w) (E + w) (x / 2 ^ (w - 1)) w
theorem cw_ch_end : ∀ (t : Nat) (g : Nat → Int32) (E x w : Nat), (cw_ch t g E x w).2 ≤ E + t * w
  | 0, _, E, _, _ => Nat.le_add_right _ _
  | t + 1, g, E, x, w => by
    unfold cw_ch
    have hm : (t + 1) * w = t * w + w := Nat.succ_mul t w
    split
    · show E + w ≤ _
      omega
    · have := cw_ch_end t (cw_put g E (nI (x % 2 ^ (w - 1) + 2 ^ (w - 1))) w) (E + w) (x / 2 ^ (w - 1)) w
      omega
theorem cw_uu (f : Nat → Int32) (k : Nat) (a b : Int32) : upd (upd f k a) k b = upd f k b := by
  funext j
  by_cases h : j = k
  · subst h; rw [pk_us, pk_us]
  · rw [pk_un h, pk_un h, pk_un h]
section CHUNKS
variable {LA : Nat → Nat → Int64} {RA : Nat → Nat → Option Nat} {dr : Nat} {tl : Nat → va_E} {N d : Nat}
theorem c_putChunks_loop {w : Nat} {v0 : Value} (hw2 : 2 ≤ w) (hw : w ≤ 31) : ∀ (n t : Nat), t + n = 31 → ∀ (x E : Nat) (IA : Nat → Nat → Int32) (SC : Nat → Nat → Int32) (r : pm_V) (h' : pm_H), x < 2 ^ 31 → SC 2 1 = nI E → E + n * w < 40000 →
    r = .inl none → h' = (N, HC (va_up IA 3 (cw_ch n (IA 3) E x w).1) LA RA (va_up SC 2 (upd (SC 2) 1 (nI (cw_ch n (IA 3) E x w).2))) dr tl) →
    pm_X (pm_call (d + 2)) jm_5 7 none (d + 2) 0 0 10 [(0, .ref 2), (2, .int (nI w)), (3, .int (nI (w - 1))), (4, .int (nI x)), (5, .int (nI t))] [] 0 0 (N, HC IA LA RA SC dr tl) r h' := by
  intro n
  induction n with
  | zero =>
    intro t ht x E IA SC r h' hx hE hb er eh
    refine pm_go 2 (pc1 := 14) rfl ?_
    refine pm_icmp rfl (fun h => ?_) (fun h => absurd ((nI_leI (a := 31) (b := t) (by omega) (by omega)).mpr (by omega)) h)
    refine pm_vret rfl rfl er ?_
    rw [eh]
    show (N, HC (va_up IA 3 (IA 3)) LA RA (va_up SC 2 (upd (SC 2) 1 (nI E))) dr tl) = _
    have h9 : upd (SC 2) 1 (nI E) = SC 2 := by
      funext j
      by_cases hj : j = 1
      · subst hj; rw [pk_us, hE]
      · exact pk_un hj
    rw [h9, cw_id, cw_id]
  | succ n ih =>
    intro t ht x E IA SC r h' hx hE hb er eh
    have hmw : (n + 1) * w = n * w + w := Nat.succ_mul n w
    have hpw : 2 ^ (w - 1) ≤ 2 ^ 30 := Nat.pow_le_pow_right (by omega) (by omega)
    have hp1 : 0 < 2 ^ (w - 1) := Nat.two_pow_pos _
    have hml : x % 2 ^ (w - 1) < 2 ^ (w - 1) := Nat.mod_lt _ hp1
    have hdl : x / 2 ^ (w - 1) ≤ x := Nat.div_le_self _ _
    refine pm_go 2 (pc1 := 14) rfl ?_
    refine pm_icmp rfl (fun h => absurd ((nI_leI (a := 31) (b := t) (by omega) (by omega)).mp h) (by omega)) (fun h => ?_)
    refine pm_go 7 (pc1 := 25) rfl ?_
    rw [ny_mask (by omega) hx]
    refine pm_go 4 (pc1 := 31) rfl ?_
    rw [ny_shr (by omega) hx]
    refine pm_go 3 (pc1 := 36) rfl ?_
    refine pm_if rfl (fun h => ?_) (fun h => ?_)
    · have hr0 : x / 2 ^ (w - 1) ≠ 0 := fun z => h (by rw [z]; rfl)
      refine pm_go 4 (pc1 := 49) rfl ?_
      rw [ny_pow (by omega)]
      refine pm_go 1 (pc1 := 50) rfl ?_
      rw [ny_or hml]
      refine pm_go 1 (pc1 := 51) rfl ?_
      refine pm_cV [.int (nI (x % 2 ^ (w - 1) + 2 ^ (w - 1))), .int (nI w)] rfl rfl rfl rfl rfl rfl (Nat.le_refl _) (Nat.le_refl _) (c_put hE (by omega) (by omega)) ?_
      refine pm_go 1 (pc1 := 56) rfl ?_
      refine pm_if rfl (fun _ => ?_) (fun z => absurd (fun q => h q) z)
      refine pm_go 2 (pc1 := 10) rfl ?_
      rw [nI_1]
      refine pm_lv [(0, .ref 2), (2, .int (nI w)), (3, .int (nI (w - 1))), (4, .int (nI (x / 2 ^ (w - 1)))), (5, .int (nI (t + 1)))] rfl rfl ?_
      refine ih (t + 1) (by omega) (x / 2 ^ (w - 1)) (E + w) _ _ r h' (by omega) (by rw [va_up_self, pk_us]) (by omega) er ?_
      rw [eh]
      unfold cw_ch
      rw [if_neg hr0, va_up_self, va_up_self, bx_uu, bx_uu, cw_uu]
      cases n <;> rfl
    · have hr0 : x / 2 ^ (w - 1) = 0 := by
        by_cases hz : x / 2 ^ (w - 1) = 0
        · exact hz
        · exact absurd (show ¬ nI (x / 2 ^ (w - 1)) = 0 from nI_ne0 (Nat.pos_of_ne_zero hz) (by omega)) h
      have hxm : x % 2 ^ (w - 1) = x := Nat.mod_eq_of_lt (by
        rcases Nat.div_eq_zero_iff.mp hr0 with z | z
        · omega
        · exact z)
      refine pm_go 3 (pc1 := 51) rfl ?_
      rw [hxm]
      refine pm_cV [.int (nI x), .int (nI w)] rfl rfl rfl rfl rfl rfl (Nat.le_refl _) (Nat.le_refl _) (c_put hE (by omega) (by omega)) ?_
      refine pm_go 1 (pc1 := 56) rfl ?_
      rw [hr0]
      refine pm_if rfl (fun z => absurd rfl z) (fun _ => ?_)
      refine pm_vret rfl rfl er ?_
      rw [eh]
      unfold cw_ch
      rw [if_pos hr0]
end CHUNKS
