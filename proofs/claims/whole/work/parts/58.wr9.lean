/-! THE WRITER: records written whole -/
theorem cw_ch_ge : ∀ (t : Nat) (g : Nat → Int32) (E x w : Nat), E ≤ (cw_ch t g E x w).2
  | 0, _, E, _, _ => Nat.le_refl _
  | t + 1, g, E, x, w => by
    unfold cw_ch
    split
    · exact Nat.le_add_right _ _
    · exact Nat.le_trans (Nat.le_add_right E w) (cw_ch_ge t _ (E + w) _ w)
section WR9
variable {IA : Nat → Nat → Int32} {LA : Nat → Nat → Int64} {RA : Nat → Nat → Option Nat} {SC : Nat → Nat → Int32} {dr : Nat} {tl : Nat → va_E} {N d : Nat} {σ τ : (Nat → Int32) × Nat} {dp n bc bs : Nat} {K V : Nat → Int32} {kk vv : Nat → Nat} {r : pm_V} {h' : pm_H} {nu : Nat → Nat}
theorem wC_ge {x w : Nat} : σ.2 ≤ (wC σ x w).2 := cw_ch_ge ..
theorem wPk_b : ∀ k, (∀ i, i ≤ k → nu i < 2 ^ 31) → σ.2 ≤ (wPk σ nu k).2 ∧ (wPk σ nu k).2 ≤ σ.2 + 93 * k
  | 0, _ => ⟨Nat.le_refl _, Nat.le_refl _⟩
  | k + 1, h => by
    have h1 := wPk_b k (fun i hi => h i (by omega))
    have h2 := wC_end (σ := wPk σ nu k) (w := 6) (h (k + 1) (by omega)) (by omega) (by omega)
    have h3 := wC_ge (σ := wPk σ nu k) (x := nu (k + 1)) (w := 6)
    refine ⟨?_, ?_⟩
    · show _ ≤ (wC (wPk σ nu k) (nu (k + 1)) 6).2
      omega
    · show (wC (wPk σ nu k) (nu (k + 1)) 6).2 ≤ _
      omega
theorem wPl_b {tot : Nat} (h1 : 1 ≤ tot) (h2 : tot ≤ 17) (h : ∀ i, i < tot → nu i < 2 ^ 31) : σ.2 ≤ (wPl σ nu tot).2 ∧ (wPl σ nu tot).2 ≤ σ.2 + 1700 := by
  have a1 := wC_end (σ := σ) (w := 6) (h 0 (by omega)) (by omega) (by omega)
  have a2 := wC_ge (σ := σ) (x := nu 0) (w := 6)
  have b1 := wC_end (σ := wC σ (nu 0) 6) (x := tot - 1) (w := 6) (by omega) (by omega) (by omega)
  have b2 := wC_ge (σ := wC σ (nu 0) 6) (x := tot - 1) (w := 6)
  have c := wPk_b (σ := wC (wC σ (nu 0) 6) (tot - 1) 6) (nu := nu) (tot - 1) (fun i hi => h i (by omega))
  unfold wPl
  omega
theorem w_mayNull {tot : Nat} (hU : nuAt IA SC tot nu) (hD : SC 4 2 = nI dp) (hd : dp ≤ 6) (hL : ∀ i, i < 7 → RA 5 i = some (9 + i)) : pm_call (d + 3) 68 [.ref 1, .null] (N, HW IA LA RA SC dr tl σ) (.inl (some (.int (if SC (9 + dp) 0 = 0 → nmT (IA 19) tot then 1 else 0)))) (N, HW IA LA RA SC dr tl σ) 0 0 := by
  have h := c_mayNull (IA := va_up IA 3 σ.1) (LA := LA) (RA := RA) (SC := va_up SC 2 (upd (SC 2) 1 (nI σ.2))) (dr := dr) (tl := tl) (N := N) (d := d) (tot := tot) (nu := nu) (dp := dp) hU hD hd hL
  have e : va_up SC 2 (upd (SC 2) 1 (nI σ.2)) (9 + dp) = SC (9 + dp) := va_up_ne _ _ (by omega)
  simp only [e] at h
  exact h
/-- the numbers with the code in front -/
abbrev IAc (IA : Nat → Nat → Int32) (cc : Nat) : Nat → Nat → Int32 := va_up IA 19 (upd (IA 19) 0 (nI cc))
theorem c_recP_pre {cc m tot : Nat} (hD : SC 4 2 = nI (dp + 1)) (hd : dp + 1 ≤ 6) (hL : ∀ i, i < 7 → RA 5 i = some (9 + i)) (hc : cc < 2 ^ 31) (hG : IA 8 (64 + (dp + 1)) = nI m) (hm : m ≤ 8) (hU : nuAt (IAc IA cc) SC tot nu)
    (k : pm_X (pm_call (d + 5)) jm_67 6 (some .int) (d + 5) bc bs 70 [(0, .ref 1), (2, .int 2), (3, .ref (9 + (dp + 1))), (4, .null)] [.int (if SC (9 + (dp + 1)) 0 = 0 → nmT (IAc IA cc 19) tot then 1 else 0)] 0 0 (N, HW (IAc IA cc) LA RA SC dr tl σ) r h') : pm_call (d + 6) 67 [.ref 1, .int (nI cc), .int 2] (N, HW IA LA RA SC dr tl σ) r h' bc bs := by
  have hf : fnd (RA 7) (64 + (dp + 1)) m 2 = none := by
    unfold fnd
    rw [if_neg (fun w => absurd w.1 (by decide))]
  refine c_rec_pre hD hd hL hc hG hm ?_
  rw [hf]
  refine pm_icmp rfl (fun _ => ?_) (fun z => absurd rfl z)
  refine pm_go 1 (pc1 := 58) rfl ?_
  refine pm_getf rfl rfl rfl ?_
  refine pm_go 2 (pc1 := 63) rfl ?_
  refine pm_iastU (j := 0) rfl rfl rfl (by omega) HW_19 ?_
  refine pm_go 2 (pc1 := 67) rfl ?_
  refine pm_cV [.null] rfl rfl rfl rfl rfl rfl (Nat.zero_le _) (Nat.zero_le _) (w_mayNull hU hD hd hL) ?_
  exact pm_lv [(0, .ref 1), (2, .int 2), (3, .ref (9 + (dp + 1))), (4, .null)] rfl rfl k
theorem c_recP3 {cc m tot : Nat} (hD : SC 4 2 = nI (dp + 1)) (hd : dp + 1 ≤ 6) (hL : ∀ i, i < 7 → RA 5 i = some (9 + i)) (hc : cc < 2 ^ 31) (hG : IA 8 (64 + (dp + 1)) = nI m) (hm : m ≤ 8) (hU : nuAt (IAc IA cc) SC tot nu) (hM : ¬ (SC (9 + (dp + 1)) 0 = 0 → nmT (IAc IA cc 19) tot)) : pm_call (d + 6) 67 [.ref 1, .int (nI cc), .int 2] (N, HW IA LA RA SC dr tl σ) (.inl (some (.int (-3)))) (N, HW (IAc IA cc) LA RA SC dr tl σ) 0 0 := by
  refine c_recP_pre hD hd hL hc hG hm hU ?_
  rw [if_neg hM]
  refine pm_if rfl (fun z => absurd rfl z) (fun _ => ?_)
  refine pm_go 1 (pc1 := 75) rfl ?_
  exact pm_iret rfl rfl rfl rfl
theorem c_recP_pre2 {cc m tot w : Nat} (hD : SC 4 2 = nI (dp + 1)) (hd : dp + 1 ≤ 6) (hL : ∀ i, i < 7 → RA 5 i = some (9 + i)) (hc : cc < 2 ^ 31) (hG : IA 8 (64 + (dp + 1)) = nI m) (hm : m ≤ 8) (hU : nuAt (IAc IA cc) SC tot nu) (hM : SC (9 + (dp + 1)) 0 = 0 → nmT (IAc IA cc 19) tot) (hw : SC (9 + (dp + 1)) 1 = nI w) (hw8 : w ≤ 8) (hE : σ.2 < 5000)
    (k : pm_X (pm_call (d + 5)) jm_67 6 (some .int) (d + 5) bc bs 115 [(0, .ref 1), (3, .ref (9 + (dp + 1))), (5, .int (nI σ.2))] [] 0 0 (N, HW (IAc IA cc) LA RA SC dr tl (wPl (wP σ 2 w) nu tot)) r h') : pm_call (d + 6) 67 [.ref 1, .int (nI cc), .int 2] (N, HW IA LA RA SC dr tl σ) r h' bc bs := by
  have hQ := ns_HW (IA := IAc IA cc) (LA := LA) (dr := dr) (tl := tl) hD hd hL
  have h2 : (wP σ 2 w).2 = σ.2 + w := rfl
  refine c_recP_pre hD hd hL hc hG hm hU ?_
  rw [if_pos hM]
  refine pm_if rfl (fun _ => ?_) (fun z => absurd (fun w => absurd (show (1 : Int32) = 0 from w) (by decide)) z)
  refine pm_go 1 (pc1 := 77) rfl ?_
  refine pm_getf rfl rfl rfl ?_
  refine pm_getf rfl rfl rfl ?_
  refine pm_nm (y := nI σ.2) (by rw [va_up_self, pk_us]) ?_
  refine pm_go 2 (pc1 := 86) rfl ?_
  refine pm_getf rfl rfl rfl ?_
  refine pm_go 2 (pc1 := 91) rfl ?_
  refine pm_getf rfl ((hQ _).2.2.1 (dp + 1) (by omega)).2 rfl ?_
  refine pm_nm (y := nI w) hw ?_
  refine pm_cV [.int 2, .int (nI w)] rfl rfl rfl rfl rfl rfl (Nat.zero_le _) (Nat.zero_le _) (w_put (by omega) (by omega)) ?_
  refine pm_go 1 (pc1 := 99) rfl ?_
  refine pm_ifnn (q := none) rfl (fun _ => ?_) (fun k z => by cases z)
  refine pm_go 1 (pc1 := 103) rfl ?_
  refine pm_cV [] rfl rfl rfl rfl rfl rfl (Nat.zero_le _) (Nat.zero_le _) (w_plain hU (by omega)) ?_
  refine pm_go 1 (pc1 := 115) rfl ?_
  exact pm_lv [(0, .ref 1), (3, .ref (9 + (dp + 1))), (5, .int (nI σ.2))] rfl rfl k
theorem c_recP5 {cc m tot w : Nat} (hD : SC 4 2 = nI (dp + 1)) (hd : dp + 1 ≤ 6) (hL : ∀ i, i < 7 → RA 5 i = some (9 + i)) (hc : cc < 2 ^ 31) (hG : IA 8 (64 + (dp + 1)) = nI m) (hm : m ≤ 8) (hU : nuAt (IAc IA cc) SC tot nu) (hM : SC (9 + (dp + 1)) 0 = 0 → nmT (IAc IA cc 19) tot) (hw : SC (9 + (dp + 1)) 1 = nI w) (hw8 : w ≤ 8) (hE : σ.2 ≤ 2048) (hR : ¬ ((wPl (wP σ 2 w) nu tot).2 + w + 31) / 32 + dp ≤ 64) : pm_call (d + 6) 67 [.ref 1, .int (nI cc), .int 2] (N, HW IA LA RA SC dr tl σ) (.inl (some (.int (-5)))) (N, HW (IAc IA cc) LA RA SC dr tl (cw_cut (wPl (wP σ 2 w) nu tot).1 σ.2, σ.2)) 0 0 := by
  have hb := wPl_b (σ := wP σ 2 w) hU.2.1 hU.2.2.1 (fun i hi => (hU.2.2.2 i hi).2)
  have h2 : (wP σ 2 w).2 = σ.2 + w := rfl
  exact c_recP_pre2 hD hd hL hc hG hm hU hM hw hw8 (by omega) (c_rec_t5 (d := d + 3) hD hd hL hw hw8 (by omega) hE hR)
theorem c_recP0 {cc m tot w : Nat} (hD : SC 4 2 = nI (dp + 1)) (hd : dp + 1 ≤ 6) (hL : ∀ i, i < 7 → RA 5 i = some (9 + i)) (hc : cc < 2 ^ 31) (hG : IA 8 (64 + (dp + 1)) = nI m) (hm : m ≤ 8) (hU : nuAt (IAc IA cc) SC tot nu) (hM : SC (9 + (dp + 1)) 0 = 0 → nmT (IAc IA cc 19) tot) (hw : SC (9 + (dp + 1)) 1 = nI w) (hw8 : w ≤ 8) (hE : σ.2 ≤ 2048) (hR : ((wPl (wP σ 2 w) nu tot).2 + w + 31) / 32 + dp ≤ 64) : pm_call (d + 6) 67 [.ref 1, .int (nI cc), .int 2] (N, HW IA LA RA SC dr tl σ) (.inl (some (.int (nI ((wPl (wP σ 2 w) nu tot).2 - σ.2))))) (N, HW (IAc IA cc) LA RA (va_up (if SC (9 + (dp + 1)) 0 = 0 then va_up SC (9 + (dp + 1)) (upd (SC (9 + (dp + 1))) 2 (IAc IA cc 19 1)) else SC) 1 (upd (SC 1) 4 1)) dr tl (wPl (wP σ 2 w) nu tot)) 0 0 := by
  have hb := wPl_b (σ := wP σ 2 w) hU.2.1 hU.2.2.1 (fun i hi => (hU.2.2.2 i hi).2)
  have h2 : (wP σ 2 w).2 = σ.2 + w := rfl
  exact c_recP_pre2 hD hd hL hc hG hm hU hM hw hw8 (by omega) (c_rec_t0 (d := d + 3) hD hd hL hw hw8 (by omega) (by omega) hR)
end WR9
