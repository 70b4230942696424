/-! THE WRITER: records plain and by form, forms -/
/-- a form's numbers, as natural numbers -/
def fmW (K V : Nat → Int32) (n : Nat) (kk vv : Nat → Nat) : Prop := ∀ k, k < n → K k = nI (kk k) ∧ (¬ kk k = 3 → V k = nI (vv k)) ∧ kk k ≤ 3 ∧ vv k < 2 ^ 31 ∧ (kk k = 1 → 1 ≤ vv k ∧ vv k ≤ 31) ∧ (kk k = 2 → 2 ≤ vv k ∧ vv k ≤ 31)
/-- the same, a ROW's number too -/
def fmN (K V : Nat → Int32) (n : Nat) (kk vv : Nat → Nat) : Prop := ∀ k, k < n → K k = nI (kk k) ∧ V k = nI (vv k) ∧ kk k ≤ 3 ∧ vv k < 2 ^ 31 ∧ (kk k = 1 → 1 ≤ vv k ∧ vv k ≤ 31) ∧ (kk k = 2 → 2 ≤ vv k ∧ vv k ≤ 31)
theorem fmN_W {K V : Nat → Int32} {n : Nat} {kk vv : Nat → Nat} (h : fmN K V n kk vv) : fmW K V n kk vv := fun k hk => ⟨(h k hk).1, fun _ => (h k hk).2.1, (h k hk).2.2⟩
def wB (kk vv : Nat → Nat) (σ : (Nat → Int32) × Nat) (k x : Nat) : (Nat → Int32) × Nat := if kk k = 1 then wP σ (nI x) (vv k) else if kk k = 2 then wC σ x (vv k) else σ
theorem nI_eqI {a b : Nat} (ha : a < 2 ^ 31) (hb : b < 2 ^ 31) : nI a = nI b ↔ a = b := by
  refine ⟨fun h => ?_, fun h => by rw [h]⟩
  have := congrArg Int32.toInt h
  rw [nI_toInt ha, nI_toInt hb] at this
  exact Int.ofNat.inj this
section WR2
variable {IA : Nat → Nat → Int32} {LA : Nat → Nat → Int64} {RA : Nat → Nat → Option Nat} {SC : Nat → Nat → Int32} {dr : Nat} {tl : Nat → va_E} {N d : Nat} {σ : (Nat → Int32) × Nat} {y n : Nat} {K V : Nat → Int32} {kk vv : Nat → Nat}
theorem wB_end {k x : Nat} (hN : fmW K V n kk vv) (hk : k < n) (hx : x < 2 ^ 31) : (wB kk vv σ k x).2 ≤ σ.2 + 93 := by
  obtain ⟨_, _, _, _, h1, h2⟩ := hN k hk
  unfold wB
  split
  · rename_i e
    have : (wP σ (nI x) (vv k)).2 = σ.2 + vv k := rfl
    have := h1 e
    omega
  · split
    · rename_i e
      exact wC_end hx (h2 e).1 (h2 e).2
    · omega
theorem w_byOp {k x : Nat} (hF : ∀ σ, fmAt (HW IA LA RA SC dr tl σ) y n K V) (hN : fmW K V n kk vv) (hk : k < n) (hE : σ.2 < 30000) (hx : x < 2 ^ 31) : pm_call (d + 4) 74 [.ref 1, .ref y, .int (nI k), .int (nI x)] (N, HW IA LA RA SC dr tl σ) (.inl none) (N, HW IA LA RA SC dr tl (wB kk vv σ k x)) 0 0 := by
  obtain ⟨e1, e2, e3, e4, e5, e6⟩ := hN k hk
  have hn := (hF σ).2.2.2
  have hki : (nI k).toInt = (k : Int) := nI_toInt (by omega)
  refine pm_callX jm_74 [(0, .ref 1), (1, .ref y), (2, .int (nI k)), (3, .int (nI x))] rfl rfl rfl ?_
  refine pm_go 2 (pc1 := 2) rfl ?_
  refine pm_cV [.int (nI k)] rfl rfl rfl rfl (hF σ).1 rfl (Nat.le_refl _) (Nat.le_refl _) (c_kindAt (hF σ)) ?_
  rw [hki, fmK_at hk, e1]
  refine pm_go 1 (pc1 := 6) rfl ?_
  refine pm_icmp rfl (fun z => ?_) (fun z => ?_)
  · have hk1 : ¬ kk k = 1 := fun e => z (by rw [e]; rfl)
    refine pm_go 2 (pc1 := 27) rfl ?_
    refine pm_cV [.int (nI k)] rfl rfl rfl rfl (hF σ).1 rfl (Nat.le_refl _) (Nat.le_refl _) (c_kindAt (hF σ)) ?_
    rw [hki, fmK_at hk, e1]
    refine pm_go 1 (pc1 := 31) rfl ?_
    refine pm_icmp rfl (fun z => ?_) (fun z => ?_)
    · have hk2 : ¬ kk k = 2 := fun e => z (by rw [e]; rfl)
      exact pm_vret rfl rfl rfl (by unfold wB; rw [if_neg hk1, if_neg hk2])
    · have hk2 : kk k = 2 := (nI_eqI (b := 2) (by omega) (by omega)).mp (Classical.byContradiction fun w => z w)
      refine pm_go 1 (pc1 := 35) rfl ?_
      refine pm_getf rfl rfl rfl ?_
      refine pm_go 3 (pc1 := 41) rfl ?_
      refine pm_cV [.int (nI k)] rfl rfl rfl rfl (hF σ).1 rfl (Nat.le_refl _) (Nat.le_refl _) (c_numberAt (hF σ)) ?_
      rw [hki, fmV_at hk, e2 (by omega)]
      refine pm_cV [.int (nI x), .int (nI (vv k))] rfl rfl rfl rfl rfl rfl (Nat.le_refl _) (Nat.le_refl _) (w_chunks (by omega) hx (e6 hk2).1 (e6 hk2).2) ?_
      exact pm_vret rfl rfl rfl (by unfold wB; rw [if_neg hk1, if_pos hk2])
  · have hk1 : kk k = 1 := (nI_eqI (b := 1) (by omega) (by omega)).mp (Classical.byContradiction fun w => z w)
    refine pm_go 1 (pc1 := 10) rfl ?_
    refine pm_getf rfl rfl rfl ?_
    refine pm_go 3 (pc1 := 16) rfl ?_
    refine pm_cV [.int (nI k)] rfl rfl rfl rfl (hF σ).1 rfl (Nat.le_refl _) (Nat.le_refl _) (c_numberAt (hF σ)) ?_
    rw [hki, fmV_at hk, e2 (by omega)]
    refine pm_cV [.int (nI x), .int (nI (vv k))] rfl rfl rfl rfl rfl rfl (Nat.le_refl _) (Nat.le_refl _) (w_put (by omega) (by have := e5 hk1; omega)) ?_
    refine pm_go 1 (pc1 := 47) rfl ?_
    exact pm_vret rfl rfl rfl (by unfold wB; rw [if_pos hk1])
/-- the values, in chunks of 6, as far as k of them -/
def wPk (σ : (Nat → Int32) × Nat) (nu : Nat → Nat) : Nat → (Nat → Int32) × Nat
  | 0 => σ
  | k + 1 => wC (wPk σ nu k) (nu (k + 1)) 6
/-- the numbers that stand ready: tot of them, the code first -/
def nuAt (IA SC : Nat → Nat → Int32) (tot : Nat) (nu : Nat → Nat) : Prop := SC 1 4 = nI tot ∧ 1 ≤ tot ∧ tot ≤ 17 ∧ ∀ i, i < tot → IA 19 i = nI (nu i) ∧ nu i < 2 ^ 31
theorem w_plain_loop {tot : Nat} {nu : Nat → Nat} (hU : nuAt IA SC tot nu) : ∀ (j k : Nat), k + 1 + j = tot → (wPk σ nu k).2 ≤ σ.2 + 93 * k → σ.2 < 20000 →
    pm_X (pm_call (d + 3)) jm_72 2 none (d + 3) 0 0 32 [(0, .ref 1), (1, .int (nI (k + 1)))] [] 0 0 (N, HW IA LA RA SC dr tl (wPk σ nu k)) (.inl none) (N, HW IA LA RA SC dr tl (wPk σ nu (tot - 1))) := by
  obtain ⟨u1, u2, u3, u4⟩ := hU
  intro j
  induction j with
  | zero =>
    intro k hk hb hE
    have hk : k + 1 = tot := by omega
    subst hk
    refine pm_go 2 (pc1 := 34) rfl ?_
    refine pm_getf rfl rfl rfl ?_
    refine pm_nm (y := nI (k + 1)) u1 ?_
    refine pm_icmp rfl (fun _ => ?_) (fun z => absurd (nI_le (Nat.le_refl (k + 1)) (by omega)) z)
    exact pm_vret rfl rfl rfl rfl
  | succ j ih =>
    intro k hk hb hE
    obtain ⟨v1, v2⟩ := u4 (k + 1) (by omega)
    have hend := wC_end (σ := wPk σ nu k) (w := 6) v2 (by omega) (by omega)
    refine pm_go 2 (pc1 := 34) rfl ?_
    refine pm_getf rfl rfl rfl ?_
    refine pm_nm (y := nI tot) u1 ?_
    refine pm_icmp rfl (fun z => absurd ((nI_leI (a := tot) (b := k + 1) (by omega) (by omega)).mp z) (by omega)) (fun _ => ?_)
    refine pm_go 1 (pc1 := 41) rfl ?_
    refine pm_getf rfl rfl rfl ?_
    refine pm_go 1 (pc1 := 45) rfl ?_
    refine pm_getf rfl rfl rfl ?_
    refine pm_go 1 (pc1 := 49) rfl ?_
    refine pm_iald (j := k + 1) rfl rfl (cw_ti (by omega)) (by omega) ?_
    refine pm_nm (y := nI (nu (k + 1))) v1 ?_
    refine pm_go 1 (pc1 := 52) rfl ?_
    refine pm_cV [.int (nI (nu (k + 1))), .int (nI 6)] rfl rfl rfl rfl rfl rfl (Nat.le_refl _) (Nat.le_refl _) (w_chunks (by omega) v2 (by omega) (by omega)) ?_
    refine pm_go 2 (pc1 := 32) rfl ?_
    rw [nI_1]
    refine pm_lv [(0, .ref 1), (1, .int (nI (k + 1 + 1)))] rfl rfl ?_
    exact ih (k + 1) (by omega) (by show (wC (wPk σ nu k) (nu (k + 1)) 6).2 ≤ _; omega) hE
def wPl (σ : (Nat → Int32) × Nat) (nu : Nat → Nat) (tot : Nat) : (Nat → Int32) × Nat := wPk (wC (wC σ (nu 0) 6) (tot - 1) 6) nu (tot - 1)
theorem w_plain {tot : Nat} {nu : Nat → Nat} (hU : nuAt IA SC tot nu) (hE : σ.2 < 10000) : pm_call (d + 4) 72 [.ref 1] (N, HW IA LA RA SC dr tl σ) (.inl none) (N, HW IA LA RA SC dr tl (wPl σ nu tot)) 0 0 := by
  have hU2 := hU
  obtain ⟨u1, u2, u3, u4⟩ := hU2
  obtain ⟨v1, v2⟩ := u4 0 (by omega)
  have h1 := wC_end (σ := σ) (w := 6) v2 (by omega) (by omega)
  have h2 := wC_end (σ := wC σ (nu 0) 6) (x := tot - 1) (w := 6) (by omega) (by omega) (by omega)
  refine pm_callX jm_72 [(0, .ref 1)] rfl rfl rfl ?_
  refine pm_go 1 (pc1 := 1) rfl ?_
  refine pm_getf rfl rfl rfl ?_
  refine pm_go 1 (pc1 := 5) rfl ?_
  refine pm_getf rfl rfl rfl ?_
  refine pm_go 1 (pc1 := 9) rfl ?_
  refine pm_iald (j := 0) rfl rfl rfl (by omega) ?_
  refine pm_nm (y := nI (nu 0)) v1 ?_
  refine pm_go 1 (pc1 := 12) rfl ?_
  refine pm_cV [.int (nI (nu 0)), .int (nI 6)] rfl rfl rfl rfl rfl rfl (Nat.le_refl _) (Nat.le_refl _) (w_chunks (by omega) v2 (by omega) (by omega)) ?_
  refine pm_go 1 (pc1 := 16) rfl ?_
  refine pm_getf rfl rfl rfl ?_
  refine pm_go 1 (pc1 := 20) rfl ?_
  refine pm_getf rfl rfl rfl ?_
  refine pm_nm (y := nI tot) u1 ?_
  refine pm_go 2 (pc1 := 25) rfl ?_
  rw [show nI tot - 1 = nI (tot - 1) from pk_sub (b := 1) (by omega)]
  refine pm_go 1 (pc1 := 27) rfl ?_
  refine pm_cV [.int (nI (tot - 1)), .int (nI 6)] rfl rfl rfl rfl rfl rfl (Nat.le_refl _) (Nat.le_refl _) (w_chunks (by omega) (by omega) (by omega) (by omega)) ?_
  refine pm_go 2 (pc1 := 32) rfl ?_
  refine pm_lv [(0, .ref 1), (1, .int (nI (0 + 1)))] rfl rfl ?_
  exact w_plain_loop (σ := wC (wC σ (nu 0) 6) (tot - 1) 6) hU (tot - 1) 0 (by omega) (by show (wC (wC σ (nu 0) 6) (tot - 1) 6).2 ≤ _; omega) (by omega)
end WR2
