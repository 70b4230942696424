/-! THE WRITER: records by form, forms; what may be written -/
def wSk (kk vv : Nat → Nat) (σ : (Nat → Int32) × Nat) (nu : Nat → Nat) : Nat → (Nat → Int32) × Nat
  | 0 => σ
  | k + 1 => wB kk vv (wSk kk vv σ nu k) k (nu k)
def wRk (kk vv : Nat → Nat) (l S : Nat) (σ : (Nat → Int32) × Nat) (nu : Nat → Nat) : Nat → (Nat → Int32) × Nat
  | 0 => σ
  | k + 1 => wB kk vv (wRk kk vv l S σ nu k) l (nu (S + k))
def wF (K : Nat → Int32) (n : Nat) (kk vv : Nat → Nat) (σ : (Nat → Int32) × Nat) (nu : Nat → Nat) (tot : Nat) : (Nat → Int32) × Nat := if fmR K n then wRk kk vv (n - 1) (fmS K n) (wC (wSk kk vv σ nu (fmS K n)) (tot - fmS K n) 6) nu (tot - fmS K n) else wSk kk vv σ nu (fmS K n)
/-- the ops of a form, put as far as k of them -/
def wFk (kk vv : Nat → Nat) (σ : (Nat → Int32) × Nat) : Nat → (Nat → Int32) × Nat
  | 0 => σ
  | k + 1 => wOp (wFk kk vv σ k) (kk k) (vv k)
section WR3
variable {IA : Nat → Nat → Int32} {LA : Nat → Nat → Int64} {RA : Nat → Nat → Option Nat} {SC : Nat → Nat → Int32} {dr : Nat} {tl : Nat → va_E} {N d : Nat} {σ : (Nat → Int32) × Nat} {y n : Nat} {K V : Nat → Int32} {kk vv : Nat → Nat}
theorem w_form_1 {tot S : Nat} {nu : Nat → Nat} (hU : nuAt IA SC tot nu) (hF : ∀ σ, fmAt (HW IA LA RA SC dr tl σ) y n K V) (hN : fmW K V n kk vv) (hS : S ≤ n) (hT : S ≤ tot) (hE : σ.2 < 20000) {r : pm_V} {h' : pm_H}
    (kt : (wSk kk vv σ nu S).2 ≤ σ.2 + 93 * S → pm_X (pm_call (d + 4)) jm_73 4 none (d + 4) 0 0 30 [(0, .ref 1), (1, .ref y), (2, .int (nI S))] [] 0 0 (N, HW IA LA RA SC dr tl (wSk kk vv σ nu S)) r h') : ∀ (j k : Nat), k + j = S → (wSk kk vv σ nu k).2 ≤ σ.2 + 93 * k →
    pm_X (pm_call (d + 4)) jm_73 4 none (d + 4) 0 0 7 [(0, .ref 1), (1, .ref y), (2, .int (nI S)), (3, .int (nI k))] [] 0 0 (N, HW IA LA RA SC dr tl (wSk kk vv σ nu k)) r h' := by
  obtain ⟨u1, u2, u3, u4⟩ := hU
  have hn := (hF σ).2.2.2
  intro j
  induction j with
  | zero =>
    intro k hk hb
    have hk : k = S := by omega
    subst hk
    refine pm_go 2 (pc1 := 9) rfl ?_
    refine pm_icmp rfl (fun _ => ?_) (fun z => absurd (nI_le (Nat.le_refl k) (by omega)) z)
    exact pm_lv [(0, .ref 1), (1, .ref y), (2, .int (nI k))] rfl rfl (kt hb)
  | succ j ih =>
    intro k hk hb
    obtain ⟨v1, v2⟩ := u4 k (by omega)
    have hend := wB_end (σ := wSk kk vv σ nu k) hN (show k < n by omega) v2
    refine pm_go 2 (pc1 := 9) rfl ?_
    refine pm_icmp rfl (fun z => absurd ((nI_leI (a := S) (b := k) (by omega) (by omega)).mp z) (by omega)) (fun _ => ?_)
    refine pm_go 4 (pc1 := 16) rfl ?_
    refine pm_getf rfl rfl rfl ?_
    refine pm_go 1 (pc1 := 20) rfl ?_
    refine pm_iald (j := k) rfl rfl (cw_ti (by omega)) (by omega) ?_
    refine pm_nm (y := nI (nu k)) v1 ?_
    refine pm_cV [.ref y, .int (nI k), .int (nI (nu k))] rfl rfl rfl rfl rfl rfl (Nat.le_refl _) (Nat.le_refl _) (w_byOp hF hN (by omega) (by omega) v2) ?_
    refine pm_go 2 (pc1 := 7) rfl ?_
    rw [nI_1]
    refine pm_lv [(0, .ref 1), (1, .ref y), (2, .int (nI S)), (3, .int (nI (k + 1)))] rfl rfl ?_
    exact ih (k + 1) (by omega) (by show (wB kk vv (wSk kk vv σ nu k) k (nu k)).2 ≤ _; omega)
theorem w_form_2 {tot S : Nat} {nu : Nat → Nat} (hU : nuAt IA SC tot nu) (hF : ∀ σ, fmAt (HW IA LA RA SC dr tl σ) y n K V) (hN : fmW K V n kk vv) (hn0 : 0 < n) (hT : S ≤ tot) (hE : σ.2 < 20000) : ∀ (j k : Nat), S + k + j = tot → (wRk kk vv (n - 1) S σ nu k).2 ≤ σ.2 + 93 * k →
    pm_X (pm_call (d + 4)) jm_73 4 none (d + 4) 0 0 55 [(0, .ref 1), (1, .ref y), (3, .int (nI (S + k)))] [] 0 0 (N, HW IA LA RA SC dr tl (wRk kk vv (n - 1) S σ nu k)) (.inl none) (N, HW IA LA RA SC dr tl (wRk kk vv (n - 1) S σ nu (tot - S))) := by
  obtain ⟨u1, u2, u3, u4⟩ := hU
  have hn := (hF σ).2.2.2
  intro j
  induction j with
  | zero =>
    intro k hk hb
    have hk : k = tot - S := by omega
    refine pm_go 2 (pc1 := 57) rfl ?_
    refine pm_getf rfl rfl rfl ?_
    refine pm_nm (y := nI tot) u1 ?_
    refine pm_icmp rfl (fun _ => ?_) (fun z => absurd (nI_le (show tot ≤ S + k by omega) (by omega)) z)
    exact pm_vret rfl rfl rfl (by rw [hk])
  | succ j ih =>
    intro k hk hb
    obtain ⟨v1, v2⟩ := u4 (S + k) (by omega)
    have hend := wB_end (σ := wRk kk vv (n - 1) S σ nu k) hN (show n - 1 < n by omega) v2
    refine pm_go 2 (pc1 := 57) rfl ?_
    refine pm_getf rfl rfl rfl ?_
    refine pm_nm (y := nI tot) u1 ?_
    refine pm_icmp rfl (fun z => absurd ((nI_leI (a := tot) (b := S + k) (by omega) (by omega)).mp z) (by omega)) (fun _ => ?_)
    refine pm_go 3 (pc1 := 66) rfl ?_
    refine pm_getf rfl (hF _).1 rfl ?_
    refine pm_go 2 (pc1 := 71) rfl ?_
    rw [show nI n - 1 = nI (n - 1) from pk_sub (b := 1) (by omega)]
    refine pm_go 1 (pc1 := 72) rfl ?_
    refine pm_getf rfl rfl rfl ?_
    refine pm_go 1 (pc1 := 76) rfl ?_
    refine pm_iald (j := S + k) rfl rfl (cw_ti (by omega)) (by omega) ?_
    refine pm_nm (y := nI (nu (S + k))) v1 ?_
    refine pm_cV [.ref y, .int (nI (n - 1)), .int (nI (nu (S + k)))] rfl rfl rfl rfl rfl rfl (Nat.le_refl _) (Nat.le_refl _) (w_byOp hF hN (by omega) (by omega) v2) ?_
    refine pm_go 2 (pc1 := 55) rfl ?_
    rw [nI_1]
    refine pm_lv [(0, .ref 1), (1, .ref y), (3, .int (nI (S + (k + 1))))] rfl rfl ?_
    exact ih (k + 1) (by omega) (by show (wB kk vv (wRk kk vv (n - 1) S σ nu k) (n - 1) (nu (S + k))).2 ≤ _; omega)
theorem w_form {tot : Nat} {nu : Nat → Nat} (hU : nuAt IA SC tot nu) (hF : ∀ σ, fmAt (HW IA LA RA SC dr tl σ) y n K V) (hN : fmW K V n kk vv) (hT : fmS K n ≤ tot) (hE : σ.2 < 10000) : pm_call (d + 5) 73 [.ref 1, .ref y] (N, HW IA LA RA SC dr tl σ) (.inl none) (N, HW IA LA RA SC dr tl (wF K n kk vv σ nu tot)) 0 0 := by
  have hn := (hF σ).2.2.2
  have hSn := fmS_le (K := K) (n := n)
  have hU2 := hU
  obtain ⟨u1, u2, u3, u4⟩ := hU2
  refine pm_callX jm_73 [(0, .ref 1), (1, .ref y)] rfl rfl rfl ?_
  refine pm_go 1 (pc1 := 1) rfl ?_
  refine pm_cV [] rfl rfl rfl rfl (hF σ).1 rfl (Nat.le_refl _) (Nat.le_refl _) (c_singles (hF σ)) ?_
  refine pm_go 3 (pc1 := 7) rfl ?_
  refine pm_lv [(0, .ref 1), (1, .ref y), (2, .int (nI (fmS K n))), (3, .int (nI 0))] rfl rfl ?_
  refine w_form_1 hU hF hN hSn hT (by omega) (fun hb => ?_) (fmS K n) 0 (by omega) (Nat.le_add_right _ _)
  refine pm_go 1 (pc1 := 31) rfl ?_
  refine pm_cV [] rfl rfl rfl rfl (hF _).1 rfl (Nat.le_refl _) (Nat.le_refl _) (c_hasRow (hF _)) ?_
  by_cases hR : fmR K n
  · rw [if_pos hR]
    refine pm_if rfl (fun _ => ?_) (fun z => absurd (fun w => absurd (show (1 : Int32) = 0 from w) (by decide)) z)
    refine pm_go 1 (pc1 := 39) rfl ?_
    refine pm_getf rfl rfl rfl ?_
    refine pm_go 1 (pc1 := 43) rfl ?_
    refine pm_getf rfl rfl rfl ?_
    refine pm_nm (y := nI tot) u1 ?_
    refine pm_go 2 (pc1 := 48) rfl ?_
    rw [show nI tot - nI (fmS K n) = nI (tot - fmS K n) from pk_sub hT]
    refine pm_go 1 (pc1 := 50) rfl ?_
    have hend := wC_end (σ := wSk kk vv σ nu (fmS K n)) (x := tot - fmS K n) (w := 6) (by omega) (by omega) (by omega)
    refine pm_cV [.int (nI (tot - fmS K n)), .int (nI 6)] rfl rfl rfl rfl rfl rfl (Nat.le_refl _) (Nat.le_refl _) (w_chunks (by omega) (by omega) (by omega) (by omega)) ?_
    refine pm_go 2 (pc1 := 55) rfl ?_
    refine pm_lv [(0, .ref 1), (1, .ref y), (3, .int (nI (fmS K n + 0)))] rfl rfl ?_
    have hl := w_form_2 (N := N) (d := d) (σ := wC (wSk kk vv σ nu (fmS K n)) (tot - fmS K n) 6) hU hF hN (by have := hR.1; omega) hT (by omega) (tot - fmS K n) 0 (by omega) (Nat.le_add_right _ _)
    have e : wF K n kk vv σ nu tot = wRk kk vv (n - 1) (fmS K n) (wC (wSk kk vv σ nu (fmS K n)) (tot - fmS K n) 6) nu (tot - fmS K n) := by unfold wF; rw [if_pos hR]
    rw [e]
    exact hl
  · rw [if_neg hR]
    refine pm_if rfl (fun z => absurd rfl z) (fun _ => ?_)
    exact pm_vret rfl rfl rfl (by unfold wF; rw [if_neg hR])
theorem w_putForm_loop (hF : ∀ σ, fmAt (HW IA LA RA SC dr tl σ) y n K V) (hN : fmW K V n kk vv) (hE : σ.2 < 20000) : ∀ (j k : Nat), k + j = n → (wFk kk vv σ k).2 ≤ σ.2 + 97 * k →
    pm_X (pm_call (d + 4)) jm_70 3 none (d + 4) 0 0 32 [(0, .ref 1), (1, .ref y), (2, .int (nI k))] [] 0 0 (N, HW IA LA RA SC dr tl (wFk kk vv σ k)) (.inl none) (N, HW IA LA RA SC dr tl (wFk kk vv σ n)) := by
  have hn := (hF σ).2.2.2
  intro j
  induction j with
  | zero =>
    intro k hk hb
    have hk : k = n := by omega
    subst hk
    refine pm_go 2 (pc1 := 34) rfl ?_
    refine pm_getf rfl (hF _).1 rfl ?_
    refine pm_icmp rfl (fun _ => ?_) (fun z => absurd (nI_le (Nat.le_refl k) (by omega)) z)
    exact pm_vret rfl rfl rfl rfl
  | succ j ih =>
    intro k hk hb
    obtain ⟨e1, e2, e3, e4, e5, e6⟩ := hN k (by omega)
    have hki : (nI k).toInt = (k : Int) := nI_toInt (by omega)
    have hend := wOp_end (σ := wFk kk vv σ k) (k := kk k) e4
    refine pm_go 2 (pc1 := 34) rfl ?_
    refine pm_getf rfl (hF _).1 rfl ?_
    refine pm_icmp rfl (fun z => absurd ((nI_leI (a := n) (b := k) (by omega) (by omega)).mp z) (by omega)) (fun _ => ?_)
    refine pm_go 3 (pc1 := 43) rfl ?_
    refine pm_cV [.int (nI k)] rfl rfl rfl rfl (hF _).1 rfl (Nat.le_refl _) (Nat.le_refl _) (c_kindAt (hF _)) ?_
    rw [hki, fmK_at (by omega), e1]
    refine pm_go 2 (pc1 := 48) rfl ?_
    refine pm_cV [.int (nI k)] rfl rfl rfl rfl (hF _).1 rfl (Nat.le_refl _) (Nat.le_refl _) (c_numberAt (hF _)) ?_
    rw [hki, fmV_at (by omega)]
    refine pm_cV [.int (nI (kk k)), .int (V k)] rfl rfl rfl rfl rfl rfl (Nat.le_refl _) (Nat.le_refl _) (w_op (by omega) e3 e4 e2) ?_
    refine pm_go 2 (pc1 := 32) rfl ?_
    rw [nI_1]
    refine pm_lv [(0, .ref 1), (1, .ref y), (2, .int (nI (k + 1)))] rfl rfl ?_
    exact ih (k + 1) (by omega) (by show (wOp (wFk kk vv σ k) (kk k) (vv k)).2 ≤ _; omega)
theorem w_putForm {dp w : Nat} {B : Nat → Nat → Int32} {L R : Nat → Option Nat} {G : Nat → Int32} (hQ : ∀ σ, nsAt (HW IA LA RA SC dr tl σ) 4 dp B L R G) (hB : B dp 1 = nI w) (hw : w ≤ 8) (hF : ∀ σ, fmAt (HW IA LA RA SC dr tl σ) y n K V) (hN : fmW K V n kk vv) (hE : σ.2 < 10000) : pm_call (d + 5) 70 [.ref 1, .ref y] (N, HW IA LA RA SC dr tl σ) (.inl none) (N, HW IA LA RA SC dr tl (wFk kk vv (wC (wP σ 3 w) n 5) n)) 0 0 := by
  have hn := (hF σ).2.2.2
  have hd := (hQ σ).2.2.2.2
  have h1 := wC_end (σ := wP σ 3 w) (x := n) (w := 5) (by omega) (by omega) (by omega)
  have h2 : (wP σ 3 w).2 = σ.2 + w := rfl
  refine pm_callX jm_70 [(0, .ref 1), (1, .ref y)] rfl rfl rfl ?_
  refine pm_go 1 (pc1 := 1) rfl ?_
  refine pm_getf rfl rfl rfl ?_
  refine pm_go 2 (pc1 := 6) rfl ?_
  refine pm_getf rfl rfl rfl ?_
  refine pm_cV [] rfl rfl rfl rfl rfl rfl (Nat.le_refl _) (Nat.le_refl _) (c_inner (hQ σ)) ?_
  refine pm_getf rfl ((hQ σ).2.2.1 dp (by omega)).2 rfl ?_
  refine pm_nm (y := nI w) hB ?_
  refine pm_cV [.int 3, .int (nI w)] rfl rfl rfl rfl rfl rfl (Nat.le_refl _) (Nat.le_refl _) (w_put (by omega) (by omega)) ?_
  refine pm_go 1 (pc1 := 19) rfl ?_
  refine pm_getf rfl rfl rfl ?_
  refine pm_go 1 (pc1 := 23) rfl ?_
  refine pm_getf rfl (hF _).1 rfl ?_
  refine pm_go 1 (pc1 := 27) rfl ?_
  refine pm_cV [.int (nI n), .int (nI 5)] rfl rfl rfl rfl rfl rfl (Nat.le_refl _) (Nat.le_refl _) (w_chunks (by omega) (by omega) (by omega) (by omega)) ?_
  refine pm_go 2 (pc1 := 32) rfl ?_
  refine pm_lv [(0, .ref 1), (1, .ref y), (2, .int (nI 0))] rfl rfl ?_
  exact w_putForm_loop (σ := wC (wP σ 3 w) n 5) hF hN (by omega) n 0 (by omega) (Nat.le_add_right _ _)
abbrev nmT (W : Nat → Int32) (m : Nat) : Prop := m = 2 ∧ W 0 = 1 ∧ 0 < (W 1).toInt ∧ (W 1).toInt < 64
theorem c_namesTarget {f : Nat → va_E} {ln m : Nat} {W : Nat → Int32} (hy : f y = .inl (0, ln, .inl W)) (hl : ln < 2 ^ 31) (hl2 : 2 ≤ ln) (hm : m < 2 ^ 31) : pm_call (d + 1) 97 [.ref y, .int (nI m)] (N, f) (.inl (some (.int (if nmT W m then 1 else 0)))) (N, f) 0 0 := by
  refine pm_callX jm_97 [(0, .ref y), (1, .int (nI m))] rfl rfl rfl ?_
  have hno : ¬ nmT W m → pm_X (pm_call d) jm_97 2 (some .boolean) d 0 0 36 [(0, .ref y), (1, .int (nI m))] [] 0 0 (N, f) (.inl (some (.int (if nmT W m then 1 else 0)))) (N, f) := by
    intro z
    refine pm_go 1 (pc1 := 37) rfl ?_
    exact pm_iret rfl rfl (by rw [if_neg z]) rfl
  refine pm_go 2 (pc1 := 2) rfl ?_
  refine pm_icmp rfl (fun z => hno fun w => z (by rw [w.1]; rfl)) (fun z => ?_)
  have z1 : m = 2 := (nI_eqI (b := 2) hm (by omega)).mp (Classical.byContradiction fun w => z w)
  refine pm_go 1 (pc1 := 6) rfl ?_
  refine pm_alen rfl hy (Or.inl rfl) ?_
  refine pm_go 1 (pc1 := 8) rfl ?_
  refine pm_icmp rfl (fun z => absurd ((nI_ltI (a := ln) (b := 2) (by omega) (by omega)).mp z) (by omega)) (fun _ => ?_)
  refine pm_go 2 (pc1 := 13) rfl ?_
  refine pm_iald (j := 0) rfl hy rfl (by omega) ?_
  refine pm_go 1 (pc1 := 15) rfl ?_
  refine pm_icmp rfl (fun z => hno fun w => z w.2.1) (fun z => ?_)
  have z2 : W 0 = 1 := Classical.byContradiction fun w => z w
  refine pm_go 2 (pc1 := 20) rfl ?_
  refine pm_iald (j := 1) rfl hy rfl (by omega) ?_
  refine pm_if rfl (fun z => hno fun w => ?_) (fun z => ?_)
  · have hz : (W 1).toInt ≤ 0 := Int32.le_iff_toInt_le.mp z
    omega
  have z3 : ¬ (W 1).toInt ≤ 0 := fun w => z (Int32.le_iff_toInt_le.mpr w)
  refine pm_go 2 (pc1 := 26) rfl ?_
  refine pm_iald (j := 1) rfl hy rfl (by omega) ?_
  refine pm_go 1 (pc1 := 29) rfl ?_
  refine pm_icmp rfl (fun z => hno fun w => ?_) (fun z => ?_)
  · have hz : ((64 : Nat) : Int) ≤ (W 1).toInt := (i32_le (n := 64) (by omega)).mp z
    omega
  have z4 : ¬ ((64 : Nat) : Int) ≤ (W 1).toInt := fun w => z ((i32_le (n := 64) (by omega)).mpr w)
  refine pm_go 2 (pc1 := 37) rfl ?_
  exact pm_iret rfl rfl (by rw [if_pos ⟨z1, z2, by omega, by omega⟩]) rfl
end WR3
