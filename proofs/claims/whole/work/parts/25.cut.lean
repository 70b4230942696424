/-! THE CLASS'S BITS: chunks whole, align, cutTo -/
def cw_msk (m : Nat) : Int32 := (1 : Int32) <<< (nI (m % 32) &&& 31) - 1
/-- the row cut from word f on, done as far as word i -/
def cw_cutk (g : Nat → Int32) (f : Nat) (mk : Int32) (i : Nat) : Nat → Int32 := fun j => if f ≤ j ∧ j < i then (if j = f then g j &&& mk else 0) else g j
def cw_cut (g : Nat → Int32) (m : Nat) : Nat → Int32 := cw_cutk g (m / 32) (cw_msk m) 64
theorem cw_cutk_0 (g : Nat → Int32) (f : Nat) (mk : Int32) : cw_cutk g f mk f = g := by
  funext j
  unfold cw_cutk
  rw [if_neg (by omega)]
theorem cw_cutk_at {g : Nat → Int32} {f : Nat} {mk : Int32} {i : Nat} : cw_cutk g f mk i i = g i := by
  unfold cw_cutk
  rw [if_neg (by omega)]
theorem cw_cutk_s {g : Nat → Int32} {f : Nat} {mk : Int32} {i : Nat} (hi : f ≤ i) : upd (cw_cutk g f mk i) i (if i = f then g i &&& mk else 0) = cw_cutk g f mk (i + 1) := by
  funext j
  by_cases h : j = i
  · subst h
    rw [pk_us]
    unfold cw_cutk
    rw [if_pos (show f ≤ j ∧ j < j + 1 by omega)]
  · rw [pk_un h]
    unfold cw_cutk
    by_cases h2 : f ≤ j ∧ j < i
    · rw [if_pos h2, if_pos (show f ≤ j ∧ j < i + 1 by omega)]
    · rw [if_neg h2, if_neg (by omega)]
section CUT
variable {IA : Nat → Nat → Int32} {LA : Nat → Nat → Int64} {RA : Nat → Nat → Option Nat} {SC : Nat → Nat → Int32} {dr : Nat} {tl : Nat → va_E} {N d E : Nat}
theorem c_putChunks {x w : Nat} (hE : SC 2 1 = nI E) (hE2 : E < 39000) (hx : x < 2 ^ 31) (hw2 : 2 ≤ w) (hw : w ≤ 31) : pm_call (d + 3) 5 [.ref 2, .int (nI x), .int (nI w)] (N, HC IA LA RA SC dr tl) (.inl none) (N, HC (va_up IA 3 (cw_ch 31 (IA 3) E x w).1) LA RA (va_up SC 2 (upd (SC 2) 1 (nI (cw_ch 31 (IA 3) E x w).2))) dr tl) 0 0 := by
  refine pm_callX jm_5 [(0, .ref 2), (1, .int (nI x)), (2, .int (nI w))] rfl rfl rfl ?_
  refine pm_go 3 (pc1 := 3) rfl ?_
  rw [show nI w - 1 = nI (w - 1) from pk_sub (b := 1) (by omega)]
  refine pm_go 5 (pc1 := 10) rfl ?_
  refine pm_lv [(0, .ref 2), (2, .int (nI w)), (3, .int (nI (w - 1))), (4, .int (nI x)), (5, .int (nI 0))] rfl rfl ?_
  exact c_putChunks_loop (v0 := .null) hw2 hw 31 0 rfl x E IA SC _ _ hx hE (by omega) rfl rfl
theorem c_align (hE : SC 2 1 = nI E) (hE2 : E < 50000) : pm_call (d + 2) 6 [.ref 2] (N, HC IA LA RA SC dr tl) (.inl none) (N, HC IA LA RA (va_up SC 2 (upd (SC 2) 1 (nI ((E + 31) / 32 * 32)))) dr tl) 0 0 := by
  refine pm_callX jm_6 [(0, .ref 2)] rfl rfl rfl ?_
  refine pm_go 2 (pc1 := 2) rfl ?_
  refine pm_cV [] rfl rfl rfl rfl rfl rfl (Nat.le_refl _) (Nat.le_refl _) (c_wordCount hE (by omega)) ?_
  refine pm_go 2 (pc1 := 8) rfl ?_
  rw [show nI ((E + 31) / 32) * 32 = nI ((E + 31) / 32 * 32) from pk_mul _ 32]
  refine pm_putU rfl rfl rfl rfl (hs_2_1 ..) ?_
  exact pm_vret rfl rfl rfl rfl
theorem c_cutTo_loop {m : Nat} (hm : m ≤ 2048) (g : Nat → Int32) (S1 : Nat → Nat → Int32) : ∀ (n i : Nat), i + n = 64 → m / 32 ≤ i → ∀ (r : pm_V) (h' : pm_H), r = .inl none → h' = (N, HC (va_up IA 3 (cw_cut g m)) LA RA (va_up SC 2 (upd (SC 2) 1 (nI m))) dr tl) →
    pm_X (pm_call d) jm_7 5 none d 0 0 17 [(0, .ref 2), (1, .int (nI m)), (2, .int (nI (m / 32))), (3, .int (cw_msk m)), (4, .int (nI i))] [] 0 0 (N, HC (va_up IA 3 (cw_cutk g (m / 32) (cw_msk m) i)) LA RA SC dr tl) r h' := by
  intro n
  induction n with
  | zero =>
    intro i hi hf r h' er eh
    have hi : i = 64 := by omega
    subst hi
    refine pm_go 2 (pc1 := 20) rfl ?_
    refine pm_getf rfl rfl rfl ?_
    refine pm_alen rfl rfl (Or.inl rfl) ?_
    refine pm_icmp rfl (fun h => ?_) (fun h => absurd (show nI 64 ≤ nI 64 from nI_le (Nat.le_refl _) (by omega)) h)
    refine pm_go 2 (pc1 := 61) rfl ?_
    refine pm_putU rfl rfl rfl rfl (hs_2_1 ..) ?_
    exact pm_vret rfl rfl er eh
  | succ n ih =>
    intro i hi hf r h' er eh
    have hi2 : i < 64 := by omega
    refine pm_go 2 (pc1 := 20) rfl ?_
    refine pm_getf rfl rfl rfl ?_
    refine pm_alen rfl rfl (Or.inl rfl) ?_
    refine pm_icmp rfl (fun h => absurd ((nI_leI (a := 64) (b := i) (by omega) (by omega)).mp h) (by omega)) (fun h => ?_)
    refine pm_go 1 (pc1 := 28) rfl ?_
    refine pm_getf rfl rfl rfl ?_
    refine pm_go 3 (pc1 := 36) rfl ?_
    refine pm_icmp rfl (fun h => ?_) (fun h => ?_)
    · have hne : i ≠ m / 32 := fun z => h (by rw [z])
      refine pm_go 1 (pc1 := 52) rfl ?_
      refine pm_iastU (j := i) rfl rfl (cw_ti (by omega)) hi2 (hi_3 ..) ?_
      refine pm_go 2 (pc1 := 17) rfl ?_
      rw [nI_1, bx_uu, va_up_self]
      have hz := cw_cutk_s (g := g) (mk := cw_msk m) hf
      rw [if_neg hne] at hz
      rw [hz]
      refine pm_lv [(0, .ref 2), (1, .int (nI m)), (2, .int (nI (m / 32))), (3, .int (cw_msk m)), (4, .int (nI (i + 1)))] rfl rfl ?_
      exact ih (i + 1) (by omega) (by omega) r h' er eh
    · have hne : i = m / 32 := by
        have : nI i = nI (m / 32) := Classical.byContradiction fun z => h z
        exact (nI_eq (by omega) (by omega)).mp this
      refine pm_go 1 (pc1 := 40) rfl ?_
      refine pm_getf rfl rfl rfl ?_
      refine pm_go 1 (pc1 := 45) rfl ?_
      refine pm_iald (j := i) rfl rfl (cw_ti (by omega)) hi2 ?_
      refine pm_go 3 (pc1 := 52) rfl ?_
      refine pm_iastU (j := i) rfl rfl (cw_ti (by omega)) hi2 (hi_3 ..) ?_
      refine pm_go 2 (pc1 := 17) rfl ?_
      rw [nI_1, bx_uu, va_up_self, cw_cutk_at]
      have hz := cw_cutk_s (g := g) (mk := cw_msk m) hf
      rw [if_pos hne] at hz
      rw [hz]
      refine pm_lv [(0, .ref 2), (1, .int (nI m)), (2, .int (nI (m / 32))), (3, .int (cw_msk m)), (4, .int (nI (i + 1)))] rfl rfl ?_
      exact ih (i + 1) (by omega) (by omega) r h' er eh
theorem c_cutTo {m : Nat} (hm : m ≤ 2048) : pm_call (d + 1) 7 [.ref 2, .int (nI m)] (N, HC IA LA RA SC dr tl) (.inl none) (N, HC (va_up IA 3 (cw_cut (IA 3) m)) LA RA (va_up SC 2 (upd (SC 2) 1 (nI m))) dr tl) 0 0 := by
  refine pm_callX jm_7 [(0, .ref 2), (1, .int (nI m))] rfl rfl rfl ?_
  refine pm_go 3 (pc1 := 4) rfl ?_
  rw [cw_di (by omega)]
  refine pm_go 5 (pc1 := 10) rfl ?_
  rw [cw_re (by omega)]
  refine pm_go 6 (pc1 := 17) rfl ?_
  refine pm_lv [(0, .ref 2), (1, .int (nI m)), (2, .int (nI (m / 32))), (3, .int (cw_msk m)), (4, .int (nI (m / 32)))] rfl rfl ?_
  have h0 := c_cutTo_loop (N := N) (d := d) (IA := IA) (LA := LA) (RA := RA) (SC := SC) (dr := dr) (tl := tl) hm (IA 3) SC (64 - m / 32) (m / 32) (by omega) (Nat.le_refl _) _ _ rfl rfl
  rw [cw_cutk_0, cw_id] at h0
  exact h0
end CUT
