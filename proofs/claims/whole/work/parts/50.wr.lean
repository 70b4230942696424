/-! THE WRITER: what it puts, as steps of a pair: the row and its end -/
abbrev wP (σ : (Nat → Int32) × Nat) (v : Int32) (n : Nat) : (Nat → Int32) × Nat := (cw_put σ.1 σ.2 v n, σ.2 + n)
abbrev wC (σ : (Nat → Int32) × Nat) (x w : Nat) : (Nat → Int32) × Nat := cw_ch 31 σ.1 σ.2 x w
abbrev HW (IA : Nat → Nat → Int32) (LA : Nat → Nat → Int64) (RA : Nat → Nat → Option Nat) (SC : Nat → Nat → Int32) (dr : Nat) (tl : Nat → va_E) (σ : (Nat → Int32) × Nat) : Nat → va_E := HC (va_up IA 3 σ.1) LA RA (va_up SC 2 (upd (SC 2) 1 (nI σ.2))) dr tl
theorem cw_ch_tight {w : Nat} (hw : 2 ≤ w) : ∀ (t k : Nat) (g : Nat → Int32) (E x : Nat), x < 2 ^ (k * (w - 1)) → 1 ≤ k → (cw_ch t g E x w).2 ≤ E + k * w
  | 0, _, _, E, _, _, _ => Nat.le_add_right _ _
  | t + 1, k, g, E, x, hx, hk => by
    unfold cw_ch
    have h1 : w ≤ k * w := Nat.le_mul_of_pos_left w hk
    split
    · show E + w ≤ _
      omega
    · rename_i hz
      have hk2 : 2 ≤ k := by
        refine Nat.le_of_not_lt fun hl => hz ?_
        have : k = 1 := by omega
        subst this
        rw [Nat.one_mul] at hx
        exact Nat.div_eq_of_lt hx
      have hx2 : x / 2 ^ (w - 1) < 2 ^ ((k - 1) * (w - 1)) := by
        rw [Nat.div_lt_iff_lt_mul (Nat.two_pow_pos _), ← Nat.pow_add]
        have : (k - 1) * (w - 1) + (w - 1) = k * (w - 1) := by
          rw [← Nat.succ_mul, show (k - 1).succ = k by omega]
        rw [this]
        exact hx
      have := cw_ch_tight hw t (k - 1) (cw_put g E (nI (x % 2 ^ (w - 1) + 2 ^ (w - 1))) w) (E + w) (x / 2 ^ (w - 1)) hx2 (by omega)
      have h2 : (k - 1) * w + w = k * w := by rw [← Nat.succ_mul, show (k - 1).succ = k by omega]
      omega
theorem cw_k93 : ∀ w, w < 32 → 2 ≤ w → 31 ≤ (31 / (w - 1) + 1) * (w - 1) ∧ (31 / (w - 1) + 1) * w ≤ 93 := by decide
theorem wC_end {σ : (Nat → Int32) × Nat} {x w : Nat} (hx : x < 2 ^ 31) (hw2 : 2 ≤ w) (hw : w ≤ 31) : (wC σ x w).2 ≤ σ.2 + 93 := by
  obtain ⟨h1, h2⟩ := cw_k93 w (by omega) hw2
  have := cw_ch_tight hw2 31 (31 / (w - 1) + 1) σ.1 σ.2 x (Nat.lt_of_lt_of_le hx (Nat.pow_le_pow_right (by decide) h1)) (Nat.le_add_left 1 _)
  show (cw_ch 31 σ.1 σ.2 x w).2 ≤ _
  omega
section WR
variable {IA : Nat → Nat → Int32} {LA : Nat → Nat → Int64} {RA : Nat → Nat → Option Nat} {SC : Nat → Nat → Int32} {dr : Nat} {tl : Nat → va_E} {N d : Nat} {σ : (Nat → Int32) × Nat}
theorem w_put {v : Int32} {n : Nat} (hE : σ.2 < 50000) (hn : n ≤ 32) : pm_call (d + 2) 4 [.ref 2, .int v, .int (nI n)] (N, HW IA LA RA SC dr tl σ) (.inl none) (N, HW IA LA RA SC dr tl (wP σ v n)) 0 0 := by
  have h := c_put (IA := va_up IA 3 σ.1) (SC := va_up SC 2 (upd (SC 2) 1 (nI σ.2))) (LA := LA) (RA := RA) (dr := dr) (tl := tl) (N := N) (d := d) (v := v) (E := σ.2) (by rw [va_up_self, pk_us]) hE hn
  simp only [va_up_self, va_up2, cw_uu] at h
  exact h
theorem w_chunks {x w : Nat} (hE : σ.2 < 39000) (hx : x < 2 ^ 31) (hw2 : 2 ≤ w) (hw : w ≤ 31) : pm_call (d + 3) 5 [.ref 2, .int (nI x), .int (nI w)] (N, HW IA LA RA SC dr tl σ) (.inl none) (N, HW IA LA RA SC dr tl (wC σ x w)) 0 0 := by
  have h := c_putChunks (IA := va_up IA 3 σ.1) (SC := va_up SC 2 (upd (SC 2) 1 (nI σ.2))) (LA := LA) (RA := RA) (dr := dr) (tl := tl) (N := N) (d := d) (x := x) (E := σ.2) (by rw [va_up_self, pk_us]) hE hx hw2 hw
  simp only [va_up_self, va_up2, cw_uu] at h
  exact h
theorem w_align (hE : σ.2 < 50000) : pm_call (d + 2) 6 [.ref 2] (N, HW IA LA RA SC dr tl σ) (.inl none) (N, HW IA LA RA SC dr tl (σ.1, (σ.2 + 31) / 32 * 32)) 0 0 := by
  have h := c_align (IA := va_up IA 3 σ.1) (SC := va_up SC 2 (upd (SC 2) 1 (nI σ.2))) (LA := LA) (RA := RA) (dr := dr) (tl := tl) (N := N) (d := d) (E := σ.2) (by rw [va_up_self, pk_us]) hE
  simp only [va_up_self, va_up2, cw_uu] at h
  exact h
theorem w_cut {m : Nat} (hm : m ≤ 2048) : pm_call (d + 1) 7 [.ref 2, .int (nI m)] (N, HW IA LA RA SC dr tl σ) (.inl none) (N, HW IA LA RA SC dr tl (cw_cut σ.1 m, m)) 0 0 := by
  have h := c_cutTo (IA := va_up IA 3 σ.1) (SC := va_up SC 2 (upd (SC 2) 1 (nI σ.2))) (LA := LA) (RA := RA) (dr := dr) (tl := tl) (N := N) (d := d) (m := m) hm
  simp only [va_up_self, va_up2, cw_uu] at h
  exact h
theorem w_set {k : Nat} {x : Int32} (hk : k < 100000) : pm_call (d + 1) 3 [.ref 2, .int (nI k), .int x] (N, HW IA LA RA SC dr tl σ) (.inl none) (N, HW IA LA RA SC dr tl (cw_set σ.1 k x, σ.2)) 0 0 := by
  have h := c_setWord (IA := va_up IA 3 σ.1) (SC := va_up SC 2 (upd (SC 2) 1 (nI σ.2))) (LA := LA) (RA := RA) (dr := dr) (tl := tl) (N := N) (d := d) (k := k) (x := x) hk
  simp only [va_up_self, va_up2] at h
  exact h
theorem w_count (hE : σ.2 < 100000) : pm_call (d + 1) 1 [.ref 2] (N, HW IA LA RA SC dr tl σ) (.inl (some (.int (nI ((σ.2 + 31) / 32))))) (N, HW IA LA RA SC dr tl σ) 0 0 :=
  c_wordCount (by rw [va_up_self, pk_us]) hE
theorem w_room {w o : Nat} (hE : σ.2 < 50000) (hw : w < 100) (ho : o < 100) : pm_call (d + 1) 69 [.ref 1, .int (nI w), .int (nI o)] (N, HW IA LA RA SC dr tl σ) (.inl (some (.int (if (σ.2 + w + 31) / 32 + o ≤ 64 then 1 else 0)))) (N, HW IA LA RA SC dr tl σ) 0 0 := by
  refine pm_callX jm_69 [(0, .ref 1), (1, .int (nI w)), (2, .int (nI o))] rfl rfl rfl ?_
  refine pm_go 1 (pc1 := 1) rfl ?_
  refine pm_getf rfl rfl rfl ?_
  refine pm_getf rfl rfl rfl ?_
  refine pm_nm (y := nI σ.2) (by rw [va_up_self, pk_us]) ?_
  refine pm_go 8 (pc1 := 17) rfl ?_
  rw [nI_add, cw_wc (by omega)]
  refine pm_go 3 (pc1 := 21) rfl ?_
  rw [nI_add]
  refine pm_icmp rfl (fun z => ?_) (fun z => ?_)
  · have hz : 64 < (σ.2 + w + 31) / 32 + o := (nI_ltI (a := 64) (by omega) (by omega)).mp z
    refine pm_go 1 (pc1 := 29) rfl ?_
    exact pm_iret rfl rfl (by rw [if_neg (by omega)]) rfl
  · have hz : ¬ 64 < (σ.2 + w + 31) / 32 + o := fun y => z ((nI_ltI (a := 64) (by omega) (by omega)).mpr y)
    refine pm_go 2 (pc1 := 29) rfl ?_
    exact pm_iret rfl rfl (by rw [if_pos (by omega)]) rfl
/-- an op of a form, put -/
def wOp (σ : (Nat → Int32) × Nat) (k x : Nat) : (Nat → Int32) × Nat := if k = 0 then wC (wP σ 1 1) x 8 else if k = 3 then wP (wP σ 0 1) (nI k) 3 else wC (wP (wP σ 0 1) (nI k) 3) x 5
theorem wOp_end {k x : Nat} (hx : x < 2 ^ 31) : (wOp σ k x).2 ≤ σ.2 + 97 := by
  unfold wOp
  split
  · have := wC_end (σ := wP σ 1 1) (x := x) (w := 8) hx (by decide) (by decide)
    have : (wP σ 1 1).2 = σ.2 + 1 := rfl
    omega
  · have e : (wP (wP σ 0 1) (nI k) 3).2 = σ.2 + 1 + 3 := rfl
    split
    · omega
    · have := wC_end (σ := wP (wP σ 0 1) (nI k) 3) (x := x) (w := 5) hx (by decide) (by decide)
      omega
theorem w_op {k x : Nat} {v : Int32} (hE : σ.2 < 30000) (hk : k ≤ 3) (hx : x < 2 ^ 31) (hv : ¬ k = 3 → v = nI x) : pm_call (d + 4) 71 [.ref 1, .int (nI k), .int v] (N, HW IA LA RA SC dr tl σ) (.inl none) (N, HW IA LA RA SC dr tl (wOp σ k x)) 0 0 := by
  refine pm_callX jm_71 [(0, .ref 1), (1, .int (nI k)), (2, .int v)] rfl rfl rfl ?_
  refine pm_go 1 (pc1 := 1) rfl ?_
  refine pm_if rfl (fun z => ?_) (fun z => ?_)
  · have hk0 : k ≠ 0 := fun e => z (by subst e; rfl)
    refine pm_go 1 (pc1 := 25) rfl ?_
    refine pm_getf rfl rfl rfl ?_
    refine pm_go 2 (pc1 := 30) rfl ?_
    refine pm_cV [.int 0, .int (nI 1)] rfl rfl rfl rfl rfl rfl (Nat.le_refl _) (Nat.le_refl _) (w_put (by omega) (by omega)) ?_
    refine pm_go 1 (pc1 := 34) rfl ?_
    refine pm_getf rfl rfl rfl ?_
    refine pm_go 2 (pc1 := 39) rfl ?_
    refine pm_cV [.int (nI k), .int (nI 3)] rfl rfl rfl rfl rfl rfl (Nat.le_refl _) (Nat.le_refl _) (w_put (show σ.2 + 1 < 50000 by omega) (by omega)) ?_
    refine pm_go 2 (pc1 := 44) rfl ?_
    refine pm_icmp rfl (fun y => ?_) (fun y => ?_)
    · have hk3 : k = 3 := by
        have := congrArg Int32.toInt (show nI k = 3 from y)
        rw [nI_toInt (by omega)] at this
        exact Int.ofNat.inj this
      exact pm_vret rfl rfl rfl (by unfold wOp; rw [if_neg hk0, if_pos hk3])
    · have hk3 : k ≠ 3 := fun e => y (by subst e; rfl)
      have hv2 := hv hk3
      subst hv2
      refine pm_go 1 (pc1 := 48) rfl ?_
      refine pm_getf rfl rfl rfl ?_
      refine pm_go 2 (pc1 := 53) rfl ?_
      refine pm_cV [.int (nI x), .int (nI 5)] rfl rfl rfl rfl rfl rfl (Nat.le_refl _) (Nat.le_refl _) (w_chunks (show σ.2 + 1 + 3 < 39000 by omega) hx (by omega) (by omega)) ?_
      exact pm_vret rfl rfl rfl (by unfold wOp; rw [if_neg hk0, if_neg hk3])
  · have hk0 : k = 0 := by
      have := congrArg Int32.toInt (show nI k = 0 from Classical.byContradiction fun y => z y)
      rw [nI_toInt (by omega)] at this
      exact Int.ofNat.inj this
    have hv2 := hv (by omega)
    subst hv2
    refine pm_go 1 (pc1 := 5) rfl ?_
    refine pm_getf rfl rfl rfl ?_
    refine pm_go 2 (pc1 := 10) rfl ?_
    refine pm_cV [.int 1, .int (nI 1)] rfl rfl rfl rfl rfl rfl (Nat.le_refl _) (Nat.le_refl _) (w_put (by omega) (by omega)) ?_
    refine pm_go 1 (pc1 := 14) rfl ?_
    refine pm_getf rfl rfl rfl ?_
    refine pm_go 2 (pc1 := 20) rfl ?_
    refine pm_cV [.int (nI x), .int (nI 8)] rfl rfl rfl rfl rfl rfl (Nat.le_refl _) (Nat.le_refl _) (w_chunks (show σ.2 + 1 < 39000 by omega) hx (by omega) (by omega)) ?_
    exact pm_vret rfl rfl rfl (by unfold wOp; rw [if_pos hk0])
end WR
