/-! BITS READ: n bits of a row from bit p on, as a number; a number in chunks -/
def rdN (g : Nat → Int32) (p : Nat) : Nat → Nat
  | 0 => 0
  | n + 1 => rdN g p n + if sb g (p + n) = true then 2 ^ n else 0
theorem rdN_s (g : Nat → Int32) (p n : Nat) : rdN g p (n + 1) = rdN g p n + if sb g (p + n) = true then 2 ^ n else 0 := rfl
theorem rdN_lt (g : Nat → Int32) (p : Nat) : ∀ n, rdN g p n < 2 ^ n
  | 0 => Nat.one_pos
  | n + 1 => by
    have h := rdN_lt g p n
    unfold rdN
    rw [Nat.pow_succ]
    split <;> omega
theorem rdN_tb (g : Nat → Int32) (p : Nat) : ∀ (n k : Nat), (rdN g p n).testBit k = (decide (k < n) && sb g (p + k))
  | 0, k => by simp [rdN]
  | n + 1, k => by
    have h := rdN_lt g p n
    have ih := rdN_tb g p n k
    unfold rdN
    by_cases hb : sb g (p + n) = true
    · rw [if_pos hb, Nat.add_comm, show 2 ^ n + rdN g p n = 2 ^ n * 1 + rdN g p n by omega, Nat.two_pow_add_eq_or_of_lt h, Nat.testBit_or, ih, Nat.mul_one, Nat.testBit_two_pow]
      rcases Nat.lt_trichotomy k n with h1 | h1 | h1
      · simp [h1, show ¬ n = k by omega, show k < n + 1 by omega]
      · subst h1; simp [hb]
      · simp [show ¬ k < n by omega, show ¬ n = k by omega, show ¬ k < n + 1 by omega]
    · rw [if_neg hb, Nat.add_zero, ih]
      rcases Nat.lt_trichotomy k n with h1 | h1 | h1
      · simp [h1, show k < n + 1 by omega]
      · subst h1; simp [hb]
      · simp [show ¬ k < n by omega, show ¬ k < n + 1 by omega]
theorem rdN_1 {g : Nat → Int32} {p : Nat} : rdN g p 1 = if sb g p = true then 1 else 0 := by
  show 0 + (if sb g (p + 0) = true then 2 ^ 0 else 0) = _
  rw [Nat.zero_add, Nat.add_zero]
theorem bt_msk : ∀ n, n < 32 → ∀ k, k < 32 → bt ((1 : Int32) <<< (nI n &&& 31) - 1) k = decide (k < n) := by decide +kernel
theorem tk_rdN (g : Nat → Int32) (p n : Nat) (hn : n ≤ 32) : tk g p n = nI (rdN g p n) := by
  have hp : p % 32 < 32 := Nat.mod_lt _ (by omega)
  apply b_ext
  intro k hk
  rw [bt_nI _ _ hk, rdN_tb]
  have h0 : p % 32 + k < 32 → bt (g (p / 32)) (p % 32 + k) = sb g (p + k) := by
    intro h
    unfold sb
    rw [show (p + k) / 32 = p / 32 by omega, show (p + k) % 32 = p % 32 + k by omega]
  have hx : ∀ x : Int32, x = (if p % 32 + n ≤ 32 then ((g (p / 32)).toUInt32 >>> ((nI (p % 32)).toUInt32 &&& Int32.toUInt32 31)).toInt32 else ((g (p / 32)).toUInt32 >>> ((nI (p % 32)).toUInt32 &&& Int32.toUInt32 31)).toInt32 ||| g (p / 32 + 1) <<< (nI (32 - p % 32) &&& 31)) → k < n → bt x k = sb g (p + k) := by
    intro x ex hkn
    rw [ex]
    by_cases h : p % 32 + n ≤ 32
    · rw [if_pos h, b_ushr _ hp, h0 (by omega)]
    · rw [if_neg h, b_or, b_ushr _ hp, b_shl _ (by omega) _ hk]
      by_cases h2 : p % 32 + k < 32
      · rw [h0 h2, decide_eq_false (by omega)]; simp
      · rw [b_big (by omega), decide_eq_true (show 32 - p % 32 ≤ k by omega)]
        unfold sb
        rw [show (p + k) / 32 = p / 32 + 1 by omega, show (p + k) % 32 = k - (32 - p % 32) by omega]
        simp
  unfold tk
  by_cases h : 32 ≤ n
  · rw [if_pos h, decide_eq_true (show k < n by omega), hx _ rfl (by omega)]; simp
  · rw [if_neg h, b_and, bt_msk n (by omega) k hk]
    by_cases hkn : k < n
    · rw [hx _ rfl hkn, decide_eq_true hkn]; simp
    · rw [decide_eq_false hkn]; simp
/-- the number in chunks of w from bit p on, of a stream of m words: so far x, in sh bits -/
def gc (g : Nat → Int32) (m w : Nat) : Nat → Nat → Nat → Nat → Option (Nat × Nat)
  | 0, _, _, _ => none
  | f + 1, p, sh, x => if p + w ≤ 32 * m then
      if 2 ^ 31 ≤ x + rdN g p w % 2 ^ (w - 1) * 2 ^ sh then none
      else if rdN g p w / 2 ^ (w - 1) = 0 then some (x + rdN g p w % 2 ^ (w - 1) * 2 ^ sh, p + w)
      else gc g m w f (p + w) (sh + (w - 1)) (x + rdN g p w % 2 ^ (w - 1) * 2 ^ sh)
    else none
abbrev gC (g : Nat → Int32) (m w p : Nat) : Option (Nat × Nat) := gc g m w 2048 p 0 0
theorem gc_b {g : Nat → Int32} {m w : Nat} : ∀ (f p sh x : Nat) {v q : Nat}, gc g m w f p sh x = some (v, q) → v < 2 ^ 31 ∧ p + w ≤ q ∧ q ≤ 32 * m
  | 0, _, _, _, _, _, h => by cases h
  | f + 1, p, sh, x, v, q, h => by
    unfold gc at h
    split at h
    · split at h
      · cases h
      · split at h
        · cases h; omega
        · have := gc_b f _ _ _ h; omega
    · cases h
theorem gC_b {g : Nat → Int32} {m w p v q : Nat} (h : gC g m w p = some (v, q)) : v < 2 ^ 31 ∧ p + w ≤ q ∧ q ≤ 32 * m := gc_b _ _ _ _ h
theorem lc_0 {x y : Int64} : lg_cmp x y = 0 ↔ x = y := by
  unfold lg_cmp
  constructor
  · intro h
    split at h
    · exact absurd h (by decide)
    · split at h
      · assumption
      · exact absurd h (by decide)
  · intro h
    subst h
    rw [if_neg (fun h => Int64.lt_irrefl h), if_pos rfl]
theorem lc_le {x y : Int64} : lg_cmp x y ≤ 0 ↔ ¬ y < x := by
  unfold lg_cmp
  by_cases h : x > y
  · rw [if_pos h]; exact ⟨fun z => absurd z (by decide), fun z => absurd h z⟩
  · rw [if_neg h]
    refine ⟨fun _ => h, fun _ => ?_⟩
    split <;> decide
theorem pm_hp {S : Nat → List Value → pm_H → pm_V → pm_H → Nat → Nat → Prop} {J : Nat → pm_I} {nL : Nat} {rt : Option FieldType} {d bc bs pc : Nat} {lv : List (Nat × Value)} {st : List Value} {c s N : Nat} {f f1 : Nat → va_E} {r : pm_V} {h' : pm_H} (e : f = f1) (kk : pm_X S J nL rt d bc bs pc lv st c s (N, f1) r h') : pm_X S J nL rt d bc bs pc lv st c s (N, f) r h' := e ▸ kk
