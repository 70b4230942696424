/-! THE WRITER: records written, the beginning -/
theorem i32_nat {x : Int32} (h : 0 ≤ x.toInt) : x = nI x.toInt.toNat := by
  have hx := Int32.toInt_lt x
  refine Int32.toInt_inj.mp ?_
  rw [nI_toInt (by omega)]
  omega
/-- the form that number x names in a row of m -/
def fnd (R : Nat → Option Nat) (ro m : Nat) (x : Int32) : Option Nat := if 4 ≤ x.toInt ∧ x.toInt < 4 + (m : Int) then R (8 * ro + (x.toInt.toNat - 4)) else none
section WR8
variable {IA : Nat → Nat → Int32} {LA : Nat → Nat → Int64} {RA : Nat → Nat → Option Nat} {SC : Nat → Nat → Int32} {dr : Nat} {tl : Nat → va_E} {N d : Nat} {σ τ : (Nat → Int32) × Nat} {dp n bc bs : Nat} {K V : Nat → Int32} {kk vv : Nat → Nat} {r : pm_V} {h' : pm_H}
theorem c_findI {f : Nat → va_E} {a ro m : Nat} {R : Nat → Option Nat} {G : Nat → Int32} {x : Int32} (h : frAt f a R G) (hr : ro < 71) (hG : G ro = nI m) (hm : m ≤ 8) : pm_call (d + 2) 24 [.ref a, .int (nI ro), .int x] (N, f) (.inl (some (va_rf (fnd R ro m x)))) (N, f) 0 0 := by
  by_cases hx : 0 ≤ x.toInt
  · have hlt := Int32.toInt_lt x
    have hc := c_find (N := N) (d := d) (x := x.toInt.toNat) h hr hG hm (by omega)
    rw [← i32_nat hx] at hc
    unfold fnd
    by_cases hi : 4 ≤ x.toInt ∧ x.toInt < 4 + (m : Int)
    · rw [if_pos hi]
      rw [if_pos (by omega)] at hc
      exact hc
    · rw [if_neg hi]
      rw [if_neg (by omega)] at hc
      exact hc
  · unfold fnd
    rw [if_neg (by omega)]
    refine pm_callX jm_24 [(0, .ref a), (1, .int (nI ro)), (2, .int x)] rfl rfl rfl ?_
    refine pm_go 1 (pc1 := 1) rfl ?_
    refine pm_cS [.int (nI ro)] rfl rfl rfl rfl rfl (Nat.le_refl _) (Nat.le_refl _) c_isRow ?_
    rw [if_pos (frIn_nI hr)]
    refine pm_if rfl (fun z => absurd (show (1 : Int32) = 0 from z) (by decide)) (fun _ => ?_)
    refine pm_go 2 (pc1 := 9) rfl ?_
    refine pm_icmp rfl (fun _ => ?_) (fun z => absurd (Int32.lt_iff_toInt_lt.mpr (show x.toInt < 4 by omega)) z)
    refine pm_go 1 (pc1 := 25) rfl ?_
    exact pm_aret rfl rfl rfl rfl rfl
theorem c_nestFindI {f : Nat → va_E} {p m : Nat} {B : Nat → Nat → Int32} {L R : Nat → Option Nat} {G : Nat → Int32} {x : Int32} (h : nsAt f p dp B L R G) (hG : G (64 + dp) = nI m) (hm : m ≤ 8) : pm_call (d + 3) 35 [.ref p, .int x] (N, f) (.inl (some (va_rf (fnd R (64 + dp) m x)))) (N, f) 0 0 := by
  have hh := h
  obtain ⟨h0, h1, h2, h3, h4⟩ := hh
  refine pm_callX jm_35 [(0, .ref p), (1, .int x)] rfl rfl rfl ?_
  refine pm_go 1 (pc1 := 1) rfl ?_
  refine pm_getf rfl h0 rfl ?_
  refine pm_go 1 (pc1 := 5) rfl ?_
  refine pm_cV [] rfl rfl rfl rfl h0 rfl (Nat.le_refl _) (Nat.le_refl _) (c_ownRow h) ?_
  refine pm_go 1 (pc1 := 9) rfl ?_
  refine pm_cV [.int (nI (64 + dp)), .int x] rfl rfl rfl rfl h3.1 rfl (Nat.le_refl _) (Nat.le_refl _) (c_findI h3 (by omega) hG hm) ?_
  generalize fnd R (64 + dp) m x = o
  refine pm_aret rfl ?_ ?_ rfl rfl
  · cases o <;> rfl
  · cases o <;> rfl
theorem c_rec1 {c x : Int32} (hD : SC 4 2 = nI 0) : pm_call (d + 1) 67 [.ref 1, .int c, .int x] (N, HW IA LA RA SC dr tl σ) (.inl (some (.int (-1)))) (N, HW IA LA RA SC dr tl σ) 0 0 := by
  refine pm_callX jm_67 [(0, .ref 1), (1, .int c), (2, .int x)] rfl rfl rfl ?_
  refine pm_go 1 (pc1 := 1) rfl ?_
  refine pm_getf rfl rfl rfl ?_
  refine pm_getf rfl rfl rfl ?_
  refine pm_nm (y := nI 0) hD ?_
  refine pm_if rfl (fun _ => ?_) (fun z => absurd rfl z)
  refine pm_go 1 (pc1 := 15) rfl ?_
  exact pm_iret rfl rfl rfl rfl
theorem c_rec1c {c x : Int32} (hD : SC 4 2 = nI (dp + 1)) (hd : dp + 1 ≤ 6) (hc : c < 0) : pm_call (d + 1) 67 [.ref 1, .int c, .int x] (N, HW IA LA RA SC dr tl σ) (.inl (some (.int (-1)))) (N, HW IA LA RA SC dr tl σ) 0 0 := by
  refine pm_callX jm_67 [(0, .ref 1), (1, .int c), (2, .int x)] rfl rfl rfl ?_
  refine pm_go 1 (pc1 := 1) rfl ?_
  refine pm_getf rfl rfl rfl ?_
  refine pm_getf rfl rfl rfl ?_
  refine pm_nm (y := nI (dp + 1)) hD ?_
  refine pm_if rfl (fun z => absurd ((nI_eqI (a := dp + 1) (b := 0) (by omega) (by omega)).mp z) (by omega)) (fun _ => ?_)
  refine pm_go 1 (pc1 := 11) rfl ?_
  refine pm_if rfl (fun z => ?_) (fun _ => ?_)
  · have h1 : (0 : Int) ≤ c.toInt := Int32.le_iff_toInt_le.mp z
    have h2 := i32_lt0.mp hc
    omega
  · refine pm_go 1 (pc1 := 15) rfl ?_
    exact pm_iret rfl rfl rfl rfl
theorem c_rec_pre {cc m : Nat} {x : Int32} (hD : SC 4 2 = nI (dp + 1)) (hd : dp + 1 ≤ 6) (hL : ∀ i, i < 7 → RA 5 i = some (9 + i)) (hc : cc < 2 ^ 31) (hG : IA 8 (64 + (dp + 1)) = nI m) (hm : m ≤ 8)
    (k : pm_X (pm_call (d + 5)) jm_67 6 (some .int) (d + 5) bc bs 36 [(0, .ref 1), (1, .int (nI cc)), (2, .int x), (3, .ref (9 + (dp + 1))), (4, va_rf (fnd (RA 7) (64 + (dp + 1)) m x))] [.int 2, .int x] 0 0 (N, HW IA LA RA SC dr tl σ) r h') : pm_call (d + 6) 67 [.ref 1, .int (nI cc), .int x] (N, HW IA LA RA SC dr tl σ) r h' bc bs := by
  have hQ := ns_HW (IA := IA) (LA := LA) (dr := dr) (tl := tl) hD hd hL
  refine pm_callX jm_67 [(0, .ref 1), (1, .int (nI cc)), (2, .int x)] rfl rfl rfl ?_
  refine pm_go 1 (pc1 := 1) rfl ?_
  refine pm_getf rfl rfl rfl ?_
  refine pm_getf rfl rfl rfl ?_
  refine pm_nm (y := nI (dp + 1)) hD ?_
  refine pm_if rfl (fun z => absurd ((nI_eqI (a := dp + 1) (b := 0) (by omega) (by omega)).mp z) (by omega)) (fun _ => ?_)
  refine pm_go 1 (pc1 := 11) rfl ?_
  refine pm_if rfl (fun _ => ?_) (fun z => absurd (nI_le (Nat.zero_le cc) hc) z)
  refine pm_go 1 (pc1 := 17) rfl ?_
  refine pm_getf rfl rfl rfl ?_
  refine pm_cV [] rfl rfl rfl rfl rfl rfl (Nat.zero_le _) (Nat.zero_le _) (c_inner (hQ _)) ?_
  refine pm_go 2 (pc1 := 25) rfl ?_
  refine pm_getf rfl rfl rfl ?_
  refine pm_go 1 (pc1 := 29) rfl ?_
  refine pm_cV [.int x] rfl rfl rfl rfl rfl rfl (Nat.zero_le _) (Nat.zero_le _) (c_nestFindI (hQ _) hG hm) ?_
  revert k
  generalize fnd (RA 7) (64 + (dp + 1)) m x = o
  cases o with
  | none =>
    intro k
    refine pm_go 3 (pc1 := 36) rfl ?_
    exact pm_lv [(0, .ref 1), (1, .int (nI cc)), (2, .int x), (3, .ref (9 + (dp + 1))), (4, .null)] rfl rfl k
  | some y =>
    intro k
    refine pm_go 3 (pc1 := 36) rfl ?_
    exact pm_lv [(0, .ref 1), (1, .int (nI cc)), (2, .int x), (3, .ref (9 + (dp + 1))), (4, .ref y)] rfl rfl k
theorem c_rec2 {cc m : Nat} {x : Int32} (hD : SC 4 2 = nI (dp + 1)) (hd : dp + 1 ≤ 6) (hL : ∀ i, i < 7 → RA 5 i = some (9 + i)) (hc : cc < 2 ^ 31) (hG : IA 8 (64 + (dp + 1)) = nI m) (hm : m ≤ 8) (hx : x ≠ 2) (hf : fnd (RA 7) (64 + (dp + 1)) m x = none) : pm_call (d + 6) 67 [.ref 1, .int (nI cc), .int x] (N, HW IA LA RA SC dr tl σ) (.inl (some (.int (-2)))) (N, HW IA LA RA SC dr tl σ) 0 0 := by
  refine c_rec_pre hD hd hL hc hG hm ?_
  rw [hf]
  refine pm_icmp rfl (fun z => absurd (show x = 2 from z) hx) (fun _ => ?_)
  refine pm_go 1 (pc1 := 41) rfl ?_
  refine pm_ifn (q := none) rfl (fun _ => ?_) (fun k z => by cases z)
  refine pm_go 1 (pc1 := 56) rfl ?_
  exact pm_iret rfl rfl rfl rfl
end WR8
