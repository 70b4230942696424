/-! THE WRITER: blocks -/
theorem va_up_comm {α : Type} (f : Nat → α) {i j : Nat} (h : i ≠ j) (a b : α) : va_up (va_up f i a) j b = va_up (va_up f j b) i a := by
  funext k
  by_cases hi : k = i
  · subst hi
    rw [va_up_ne _ _ h, va_up_self, va_up_self]
  · rw [va_up_ne _ _ hi]
    by_cases hj : k = j
    · subst hj
      rw [va_up_self, va_up_self]
    · rw [va_up_ne _ _ hj, va_up_ne _ _ hj, va_up_ne _ _ hi]
section WR5
variable {IA : Nat → Nat → Int32} {LA : Nat → Nat → Int64} {RA : Nat → Nat → Option Nat} {SC : Nat → Nat → Int32} {dr : Nat} {tl : Nat → va_E} {N d : Nat} {σ : (Nat → Int32) × Nat} {dp : Nat}
theorem HW_self {E : Nat} (hE : SC 2 1 = nI E) : HW IA LA RA SC dr tl (IA 3, E) = HC IA LA RA SC dr tl := by
  show HC (va_up IA 3 (IA 3)) LA RA (va_up SC 2 (upd (SC 2) 1 (nI E))) dr tl = _
  rw [va_up_id IA 3 _ rfl, upd_id hE, va_up_id SC 2 _ rfl]
theorem HW_d {k : Nat} : nsD (HW IA LA RA SC dr tl σ) 4 k = HW IA LA RA (va_up SC 4 (upd (SC 4) 2 (nI k))) dr tl σ := by
  unfold nsD
  refine (hs_4_2 ..).trans ?_
  show HC (va_up IA 3 σ.1) LA RA (va_up (va_up SC 2 (upd (SC 2) 1 (nI σ.2))) 4 (upd (SC 4) 2 (nI k))) dr tl = HC (va_up IA 3 σ.1) LA RA (va_up (va_up SC 4 (upd (SC 4) 2 (nI k))) 2 (upd (SC 2) 1 (nI σ.2))) dr tl
  rw [va_up_comm SC (by decide)]
/-- the stream behind a LEAVE of width w, before its length is set -/
def wL (σ : (Nat → Int32) × Nat) (w : Nat) : (Nat → Int32) × Nat := ((wP σ 0 w).1, ((wP σ 0 w).2 + 31) / 32 * 32)
theorem c_close0 (hD : SC 4 2 = nI 0) : pm_call (d + 1) 65 [.ref 1] (N, HW IA LA RA SC dr tl σ) (.inl (some (.int (-1)))) (N, HW IA LA RA SC dr tl σ) 0 0 := by
  refine pm_callX jm_65 [(0, .ref 1)] rfl rfl rfl ?_
  refine pm_go 1 (pc1 := 1) rfl ?_
  refine pm_getf rfl rfl rfl ?_
  refine pm_getf rfl rfl rfl ?_
  refine pm_nm (y := nI 0) hD ?_
  refine pm_if rfl (fun z => absurd rfl z) (fun _ => ?_)
  refine pm_go 1 (pc1 := 11) rfl ?_
  exact pm_iret rfl rfl rfl rfl
theorem c_close {w s : Nat} (hD : SC 4 2 = nI (dp + 1)) (hd : dp + 1 ≤ 6) (hL : ∀ i, i < 7 → RA 5 i = some (9 + i)) (hw : SC (9 + (dp + 1)) 1 = nI w) (hw8 : w ≤ 8) (hs : SC (9 + (dp + 1)) 3 = nI s) (hs1 : 1 ≤ s) (hE : σ.2 < 10000) (hs2 : s ≤ ((wL σ w).2 + 31) / 32) : pm_call (d + 3) 65 [.ref 1] (N, HW IA LA RA SC dr tl σ) (.inl (some (.int (nI (((wL σ w).2 + 31) / 32 - s))))) (N, HW IA LA RA (va_up SC 4 (upd (SC 4) 2 (nI dp))) dr tl (cw_set (wL σ w).1 (s - 1) (nI (((wL σ w).2 + 31) / 32 - s)), (wL σ w).2)) 0 0 := by
  have hQ := ns_HW (IA := IA) (LA := LA) (dr := dr) (tl := tl) hD hd hL
  have hB := fun τ => ((hQ τ).2.2.1 (dp + 1) (by omega)).2
  have h2 : (wP σ 0 w).2 = σ.2 + w := rfl
  have h3 : (wL σ w).2 = (σ.2 + w + 31) / 32 * 32 := rfl
  refine pm_callX jm_65 [(0, .ref 1)] rfl rfl rfl ?_
  refine pm_go 1 (pc1 := 1) rfl ?_
  refine pm_getf rfl rfl rfl ?_
  refine pm_getf rfl rfl rfl ?_
  refine pm_nm (y := nI (dp + 1)) hD ?_
  refine pm_if rfl (fun _ => ?_) (fun z => absurd (fun w => absurd ((nI_eqI (a := dp + 1) (b := 0) (by omega) (by omega)).mp w) (by omega)) z)
  refine pm_go 1 (pc1 := 13) rfl ?_
  refine pm_getf rfl rfl rfl ?_
  refine pm_cV [] rfl rfl rfl rfl rfl rfl (Nat.le_refl _) (Nat.le_refl _) (c_inner (hQ _)) ?_
  refine pm_go 2 (pc1 := 21) rfl ?_
  refine pm_getf rfl rfl rfl ?_
  refine pm_go 2 (pc1 := 26) rfl ?_
  refine pm_getf rfl (hB _) rfl ?_
  refine pm_nm (y := nI w) hw ?_
  refine pm_cV [.int 0, .int (nI w)] rfl rfl rfl rfl rfl rfl (Nat.le_refl _) (Nat.le_refl _) (w_put (by omega) (by omega)) ?_
  refine pm_go 1 (pc1 := 33) rfl ?_
  refine pm_getf rfl rfl rfl ?_
  refine pm_cV [] rfl rfl rfl rfl rfl rfl (Nat.le_refl _) (Nat.le_refl _) (w_align (by omega)) ?_
  refine pm_go 1 (pc1 := 40) rfl ?_
  refine pm_getf rfl rfl rfl ?_
  refine pm_cV [] rfl rfl rfl rfl rfl rfl (Nat.le_refl _) (Nat.le_refl _) (w_count (σ := wL σ w) (by omega)) ?_
  refine pm_go 1 (pc1 := 47) rfl ?_
  refine pm_getf rfl (hB _) rfl ?_
  refine pm_nm (y := nI s) hs ?_
  refine pm_go 1 (pc1 := 51) rfl ?_
  rw [show nI (((wL σ w).2 + 31) / 32) - nI s = nI (((wL σ w).2 + 31) / 32 - s) from pk_sub hs2]
  refine pm_go 2 (pc1 := 53) rfl ?_
  refine pm_getf rfl rfl rfl ?_
  refine pm_go 1 (pc1 := 57) rfl ?_
  refine pm_getf rfl (hB _) rfl ?_
  refine pm_nm (y := nI s) hs ?_
  refine pm_go 2 (pc1 := 62) rfl ?_
  rw [show nI s - 1 = nI (s - 1) from pk_sub (b := 1) hs1]
  refine pm_go 1 (pc1 := 63) rfl ?_
  refine pm_cV [.int (nI (s - 1)), .int (nI (((wL σ w).2 + 31) / 32 - s))] rfl rfl rfl rfl rfl rfl (Nat.le_refl _) (Nat.le_refl _) (w_set (σ := wL σ w) (by omega)) ?_
  refine pm_go 1 (pc1 := 67) rfl ?_
  refine pm_getf rfl rfl rfl ?_
  refine pm_cV [] rfl rfl rfl rfl rfl rfl (Nat.le_refl _) (Nat.le_refl _) (c_pop (hQ _)) ?_
  rw [HW_d]
  refine pm_go 1 (pc1 := 74) rfl ?_
  exact pm_iret rfl rfl rfl rfl
theorem c_open1 {i w : Int32} {h : pm_H} (ho : ¬ ((0 ≤ i.toInt ∧ i.toInt < 64) ∧ 2 ≤ w.toInt ∧ w.toInt ≤ 8)) : pm_call (d + 2) 64 [.ref 1, .int i, .int w] h (.inl (some (.int (-1)))) h 0 0 := by
  refine pm_callX jm_64 [(0, .ref 1), (1, .int i), (2, .int w)] rfl rfl rfl ?_
  refine pm_go 2 (pc1 := 2) rfl ?_
  refine pm_cS [.int i, .int w] rfl rfl rfl rfl rfl (Nat.le_refl _) (Nat.le_refl _) c_isBlockHead ?_
  rw [if_neg ho]
  refine pm_if rfl (fun z => absurd rfl z) (fun _ => ?_)
  refine pm_go 1 (pc1 := 9) rfl ?_
  exact pm_iret rfl rfl rfl rfl
/-- the stream behind an ENTER, in a block of width w0 -/
def wE (σ : (Nat → Int32) × Nat) (w0 i w : Nat) : (Nat → Int32) × Nat := wP ((wC (wC (wP σ 1 w0) i 6) w 4).1, ((wC (wC (wP σ 1 w0) i 6) w 4).2 + 31) / 32 * 32) 0 32
theorem wE_end {w0 i w : Nat} (h0 : w0 ≤ 8) (hi : i < 64) (hw : w ≤ 8) : (wE σ w0 i w).2 ≤ σ.2 + 300 := by
  have h1 := wC_end (σ := wP σ 1 w0) (x := i) (w := 6) (by omega) (by omega) (by omega)
  have h2 := wC_end (σ := wC (wP σ 1 w0) i 6) (x := w) (w := 4) (by omega) (by omega) (by omega)
  have h3 : (wP σ 1 w0).2 = σ.2 + w0 := rfl
  have h4 : (wE σ w0 i w).2 = ((wC (wC (wP σ 1 w0) i 6) w 4).2 + 31) / 32 * 32 + 32 := rfl
  omega
theorem c_open2 {i w : Nat} (hD : SC 4 2 = nI 6) (hL : ∀ i, i < 7 → RA 5 i = some (9 + i)) (hi : i < 64) (hw : 2 ≤ w ∧ w ≤ 8) : pm_call (d + 2) 64 [.ref 1, .int (nI i), .int (nI w)] (N, HW IA LA RA SC dr tl σ) (.inl (some (.int (-2)))) (N, HW IA LA RA SC dr tl σ) 0 0 := by
  have hQ := ns_HW (IA := IA) (LA := LA) (dr := dr) (tl := tl) hD (by omega) hL
  refine pm_callX jm_64 [(0, .ref 1), (1, .int (nI i)), (2, .int (nI w))] rfl rfl rfl ?_
  refine pm_go 2 (pc1 := 2) rfl ?_
  refine pm_cS [.int (nI i), .int (nI w)] rfl rfl rfl rfl rfl (Nat.le_refl _) (Nat.le_refl _) c_isBlockHead ?_
  rw [if_pos (by rw [nI_toInt (by omega), nI_toInt (by omega)]; omega)]
  refine pm_if rfl (fun _ => ?_) (fun z => absurd (fun w => absurd (show (1 : Int32) = 0 from w) (by decide)) z)
  refine pm_go 1 (pc1 := 11) rfl ?_
  refine pm_getf rfl rfl rfl ?_
  refine pm_cV [] rfl rfl rfl rfl rfl rfl (Nat.le_refl _) (Nat.le_refl _) (c_isDeepest (hQ _)) ?_
  rw [if_pos rfl]
  refine pm_if rfl (fun z => absurd (show (1 : Int32) = 0 from z) (by decide)) (fun _ => ?_)
  refine pm_go 1 (pc1 := 22) rfl ?_
  exact pm_iret rfl rfl rfl rfl
theorem c_open3 {i w : Nat} (hD : SC 4 2 = nI dp) (hd : dp < 6) (hL : ∀ i, i < 7 → RA 5 i = some (9 + i)) (hi : i < 64) (hw : 2 ≤ w ∧ w ≤ 8) (hI : SC (9 + dp) 0 = 0) : pm_call (d + 3) 64 [.ref 1, .int (nI i), .int (nI w)] (N, HW IA LA RA SC dr tl σ) (.inl (some (.int (-3)))) (N, HW IA LA RA SC dr tl σ) 0 0 := by
  have hQ := ns_HW (IA := IA) (LA := LA) (dr := dr) (tl := tl) hD (by omega) hL
  refine pm_callX jm_64 [(0, .ref 1), (1, .int (nI i)), (2, .int (nI w))] rfl rfl rfl ?_
  refine pm_go 2 (pc1 := 2) rfl ?_
  refine pm_cS [.int (nI i), .int (nI w)] rfl rfl rfl rfl rfl (Nat.le_refl _) (Nat.le_refl _) c_isBlockHead ?_
  rw [if_pos (by rw [nI_toInt (by omega), nI_toInt (by omega)]; omega)]
  refine pm_if rfl (fun _ => ?_) (fun z => absurd (fun w => absurd (show (1 : Int32) = 0 from w) (by decide)) z)
  refine pm_go 1 (pc1 := 11) rfl ?_
  refine pm_getf rfl rfl rfl ?_
  refine pm_cV [] rfl rfl rfl rfl rfl rfl (Nat.le_refl _) (Nat.le_refl _) (c_isDeepest (hQ _)) ?_
  rw [if_neg (by omega)]
  refine pm_if rfl (fun _ => ?_) (fun z => absurd rfl z)
  refine pm_go 1 (pc1 := 24) rfl ?_
  refine pm_getf rfl rfl rfl ?_
  refine pm_cV [] rfl rfl rfl rfl rfl rfl (Nat.le_refl _) (Nat.le_refl _) (c_isInInfo (hQ _)) ?_
  rw [if_pos hI]
  refine pm_if rfl (fun z => absurd (show (1 : Int32) = 0 from z) (by decide)) (fun _ => ?_)
  refine pm_go 1 (pc1 := 35) rfl ?_
  exact pm_iret rfl rfl rfl rfl
theorem c_open_pre {i w w0 : Nat} (hD : SC 4 2 = nI dp) (hd : dp < 6) (hL : ∀ i, i < 7 → RA 5 i = some (9 + i)) (hi : i < 64) (hw : 2 ≤ w ∧ w ≤ 8) (hI : SC (9 + dp) 0 ≠ 0) (hw0 : SC (9 + dp) 1 = nI w0) (hw8 : w0 ≤ 8) (hE : σ.2 < 10000) {r : pm_V} {h' : pm_H}
    (kk : pm_X (pm_call (d + 3)) jm_64 4 (some .int) (d + 3) 0 0 110 [(0, .ref 1), (1, .int (nI i)), (2, .int (nI w)), (3, .int (nI σ.2))] [.int (if ((wE σ w0 i w).2 + w + 31) / 32 + dp ≤ 64 then 1 else 0)] 0 0 (N, HW IA LA RA SC dr tl (wE σ w0 i w)) r h') : pm_call (d + 4) 64 [.ref 1, .int (nI i), .int (nI w)] (N, HW IA LA RA SC dr tl σ) r h' 0 0 := by
  have hQ := ns_HW (IA := IA) (LA := LA) (dr := dr) (tl := tl) hD (by omega) hL
  have h1 := wC_end (σ := wP σ 1 w0) (x := i) (w := 6) (by omega) (by omega) (by omega)
  have h2 := wC_end (σ := wC (wP σ 1 w0) i 6) (x := w) (w := 4) (by omega) (by omega) (by omega)
  have h3 : (wP σ 1 w0).2 = σ.2 + w0 := rfl
  have h4 := wE_end (σ := σ) hw8 hi hw.2
  refine pm_callX jm_64 [(0, .ref 1), (1, .int (nI i)), (2, .int (nI w))] rfl rfl rfl ?_
  refine pm_go 2 (pc1 := 2) rfl ?_
  refine pm_cS [.int (nI i), .int (nI w)] rfl rfl rfl rfl rfl (Nat.le_refl _) (Nat.le_refl _) c_isBlockHead ?_
  rw [if_pos (by rw [nI_toInt (by omega), nI_toInt (by omega)]; omega)]
  refine pm_if rfl (fun _ => ?_) (fun z => absurd (fun w => absurd (show (1 : Int32) = 0 from w) (by decide)) z)
  refine pm_go 1 (pc1 := 11) rfl ?_
  refine pm_getf rfl rfl rfl ?_
  refine pm_cV [] rfl rfl rfl rfl rfl rfl (Nat.le_refl _) (Nat.le_refl _) (c_isDeepest (hQ _)) ?_
  rw [if_neg (by omega)]
  refine pm_if rfl (fun _ => ?_) (fun z => absurd rfl z)
  refine pm_go 1 (pc1 := 24) rfl ?_
  refine pm_getf rfl rfl rfl ?_
  refine pm_cV [] rfl rfl rfl rfl rfl rfl (Nat.le_refl _) (Nat.le_refl _) (c_isInInfo (hQ _)) ?_
  rw [if_neg hI]
  refine pm_if rfl (fun _ => ?_) (fun z => absurd rfl z)
  refine pm_go 1 (pc1 := 37) rfl ?_
  refine pm_getf rfl rfl rfl ?_
  refine pm_getf rfl rfl rfl ?_
  refine pm_nm (y := nI σ.2) (by rw [va_up_self, pk_us]) ?_
  refine pm_go 2 (pc1 := 45) rfl ?_
  refine pm_getf rfl rfl rfl ?_
  refine pm_go 2 (pc1 := 50) rfl ?_
  refine pm_getf rfl rfl rfl ?_
  refine pm_cV [] rfl rfl rfl rfl rfl rfl (Nat.le_refl _) (Nat.le_refl _) (c_inner (hQ _)) ?_
  refine pm_getf rfl ((hQ _).2.2.1 dp (by omega)).2 rfl ?_
  refine pm_nm (y := nI w0) hw0 ?_
  refine pm_cV [.int 1, .int (nI w0)] rfl rfl rfl rfl rfl rfl (Nat.le_refl _) (Nat.le_refl _) (w_put (by omega) (by omega)) ?_
  refine pm_go 1 (pc1 := 63) rfl ?_
  refine pm_getf rfl rfl rfl ?_
  refine pm_go 2 (pc1 := 69) rfl ?_
  refine pm_cV [.int (nI i), .int (nI 6)] rfl rfl rfl rfl rfl rfl (Nat.le_refl _) (Nat.le_refl _) (w_chunks (by omega) (by omega) (by omega) (by omega)) ?_
  refine pm_go 1 (pc1 := 73) rfl ?_
  refine pm_getf rfl rfl rfl ?_
  refine pm_go 2 (pc1 := 78) rfl ?_
  refine pm_cV [.int (nI w), .int (nI 4)] rfl rfl rfl rfl rfl rfl (Nat.le_refl _) (Nat.le_refl _) (w_chunks (by omega) (by omega) (by omega) (by omega)) ?_
  refine pm_go 1 (pc1 := 82) rfl ?_
  refine pm_getf rfl rfl rfl ?_
  refine pm_cV [] rfl rfl rfl rfl rfl rfl (Nat.le_refl _) (Nat.le_refl _) (w_align (σ := wC (wC (wP σ 1 w0) i 6) w 4) (by omega)) ?_
  refine pm_go 1 (pc1 := 89) rfl ?_
  refine pm_getf rfl rfl rfl ?_
  refine pm_go 2 (pc1 := 95) rfl ?_
  refine pm_cV [.int 0, .int (nI 32)] rfl rfl rfl rfl rfl rfl (Nat.le_refl _) (Nat.le_refl _) (w_put (σ := ((wC (wC (wP σ 1 w0) i 6) w 4).1, ((wC (wC (wP σ 1 w0) i 6) w 4).2 + 31) / 32 * 32)) (show ((wC (wC (wP σ 1 w0) i 6) w 4).2 + 31) / 32 * 32 < 50000 by omega) (by omega)) ?_
  refine pm_go 3 (pc1 := 101) rfl ?_
  refine pm_getf rfl rfl rfl ?_
  refine pm_getf rfl rfl rfl ?_
  refine pm_nm (y := nI dp) hD ?_
  refine pm_cV [.int (nI w), .int (nI dp)] rfl rfl rfl rfl rfl rfl (Nat.le_refl _) (Nat.le_refl _) (w_room (σ := wE σ w0 i w) (by omega) (by omega) (by omega)) ?_
  exact pm_lv [(0, .ref 1), (1, .int (nI i)), (2, .int (nI w)), (3, .int (nI σ.2))] rfl rfl kk
theorem c_open4 {i w w0 : Nat} (hD : SC 4 2 = nI dp) (hd : dp < 6) (hL : ∀ i, i < 7 → RA 5 i = some (9 + i)) (hi : i < 64) (hw : 2 ≤ w ∧ w ≤ 8) (hI : SC (9 + dp) 0 ≠ 0) (hw0 : SC (9 + dp) 1 = nI w0) (hw8 : w0 ≤ 8) (hE : σ.2 ≤ 2048) (hR : ¬ ((wE σ w0 i w).2 + w + 31) / 32 + dp ≤ 64) : pm_call (d + 4) 64 [.ref 1, .int (nI i), .int (nI w)] (N, HW IA LA RA SC dr tl σ) (.inl (some (.int (-4)))) (N, HW IA LA RA SC dr tl (cw_cut (wE σ w0 i w).1 σ.2, σ.2)) 0 0 := by
  refine c_open_pre hD hd hL hi hw hI hw0 hw8 (by omega) ?_
  rw [if_neg hR]
  refine pm_if rfl (fun z => absurd rfl z) (fun _ => ?_)
  refine pm_go 1 (pc1 := 114) rfl ?_
  refine pm_getf rfl rfl rfl ?_
  refine pm_go 1 (pc1 := 118) rfl ?_
  refine pm_cV [.int (nI σ.2)] rfl rfl rfl rfl rfl rfl (Nat.le_refl _) (Nat.le_refl _) (w_cut hE) ?_
  refine pm_go 1 (pc1 := 123) rfl ?_
  exact pm_iret rfl rfl rfl rfl
theorem c_open0 {i w w0 m : Nat} (hD : SC 4 2 = nI dp) (hd : dp < 6) (hL : ∀ i, i < 7 → RA 5 i = some (9 + i)) (hi : i < 64) (hw : 2 ≤ w ∧ w ≤ 8) (hI : SC (9 + dp) 0 ≠ 0) (hw0 : SC (9 + dp) 1 = nI w0) (hw8 : w0 ≤ 8) (hE : σ.2 ≤ 2048) (hR : ((wE σ w0 i w).2 + w + 31) / 32 + dp ≤ 64) (hG : IA 8 i = nI m) (hm : m ≤ 8) (hF : ∀ j, j < m → ∃ y fs, RA 7 (8 * i + j) = some y ∧ HW IA LA RA SC dr tl (wE σ w0 i w) y = .inr (2, fs)) : pm_call (d + 4) 64 [.ref 1, .int (nI i), .int (nI w)] (N, HW IA LA RA SC dr tl σ) (.inl (some (.int 0))) (N, nsPush (HW IA LA RA SC dr tl (wE σ w0 i w)) 4 dp (RA 7) (IA 8) i (nI w) (nI (((wE σ w0 i w).2 + 31) / 32)) 0 m) 0 0 := by
  have hQ := ns_HW (IA := IA) (LA := LA) (dr := dr) (tl := tl) hD (by omega) hL
  have h4 := wE_end (σ := σ) hw8 hi hw.2
  refine c_open_pre hD hd hL hi hw hI hw0 hw8 (by omega) ?_
  rw [if_pos hR]
  refine pm_if rfl (fun _ => ?_) (fun z => absurd (fun w => absurd (show (1 : Int32) = 0 from w) (by decide)) z)
  refine pm_go 1 (pc1 := 125) rfl ?_
  refine pm_getf rfl rfl rfl ?_
  refine pm_go 3 (pc1 := 131) rfl ?_
  refine pm_getf rfl rfl rfl ?_
  refine pm_cV [] rfl rfl rfl rfl rfl rfl (Nat.le_refl _) (Nat.le_refl _) (w_count (by omega)) ?_
  refine pm_go 1 (pc1 := 138) rfl ?_
  refine pm_cV [.int (nI i), .int (nI w), .int (nI (((wE σ w0 i w).2 + 31) / 32)), .int 0] rfl rfl rfl rfl rfl rfl (Nat.le_refl _) (Nat.le_refl _) (c_push (hQ _) hd hi (by rw [nI_toInt (by omega)]; omega) hG hm hF) ?_
  refine pm_go 1 (pc1 := 142) rfl ?_
  exact pm_iret rfl rfl rfl rfl
end WR5
