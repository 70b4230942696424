/-! THE WRITER: records by form written whole -/
section WRA
variable {IA : Nat → Nat → Int32} {LA : Nat → Nat → Int64} {RA : Nat → Nat → Option Nat} {SC : Nat → Nat → Int32} {dr : Nat} {tl : Nat → va_E} {N d : Nat} {σ τ : (Nat → Int32) × Nat} {dp n y bc bs : Nat} {K V : Nat → Int32} {kk vv : Nat → Nat} {r : pm_V} {h' : pm_H} {nu : Nat → Nat}
theorem wB_ge {k x : Nat} : σ.2 ≤ (wB kk vv σ k x).2 := by
  unfold wB
  split
  · exact Nat.le_add_right _ _
  · split
    · exact wC_ge
    · exact Nat.le_refl _
theorem wSk_b (hN : fmW K V n kk vv) : ∀ k, k ≤ n → (∀ i, i < k → nu i < 2 ^ 31) → σ.2 ≤ (wSk kk vv σ nu k).2 ∧ (wSk kk vv σ nu k).2 ≤ σ.2 + 93 * k
  | 0, _, _ => ⟨Nat.le_refl _, Nat.le_refl _⟩
  | k + 1, hk, h => by
    have h1 := wSk_b hN k (by omega) (fun i hi => h i (by omega))
    have h2 := wB_end (σ := wSk kk vv σ nu k) hN (show k < n by omega) (h k (by omega))
    have h3 := wB_ge (kk := kk) (vv := vv) (σ := wSk kk vv σ nu k) (k := k) (x := nu k)
    refine ⟨?_, ?_⟩
    · show _ ≤ (wB kk vv (wSk kk vv σ nu k) k (nu k)).2
      omega
    · show (wB kk vv (wSk kk vv σ nu k) k (nu k)).2 ≤ _
      omega
theorem wRk_b {S : Nat} (hN : fmW K V n kk vv) (hn : 0 < n) : ∀ k, (∀ i, i < S + k → nu i < 2 ^ 31) → σ.2 ≤ (wRk kk vv (n - 1) S σ nu k).2 ∧ (wRk kk vv (n - 1) S σ nu k).2 ≤ σ.2 + 93 * k
  | 0, _ => ⟨Nat.le_refl _, Nat.le_refl _⟩
  | k + 1, h => by
    have h1 := wRk_b (S := S) hN hn k (fun i hi => h i (by omega))
    have h2 := wB_end (σ := wRk kk vv (n - 1) S σ nu k) hN (show n - 1 < n by omega) (h (S + k) (by omega))
    have h3 := wB_ge (kk := kk) (vv := vv) (σ := wRk kk vv (n - 1) S σ nu k) (k := n - 1) (x := nu (S + k))
    refine ⟨?_, ?_⟩
    · show _ ≤ (wB kk vv (wRk kk vv (n - 1) S σ nu k) (n - 1) (nu (S + k))).2
      omega
    · show (wB kk vv (wRk kk vv (n - 1) S σ nu k) (n - 1) (nu (S + k))).2 ≤ _
      omega
theorem wF_b {tot : Nat} (hN : fmW K V n kk vv) (hn8 : n ≤ 8) (h2 : tot ≤ 17) (hT : fmS K n ≤ tot) (h : ∀ i, i < tot → nu i < 2 ^ 31) : σ.2 ≤ (wF K n kk vv σ nu tot).2 ∧ (wF K n kk vv σ nu tot).2 ≤ σ.2 + 1700 := by
  have hSn := fmS_le (K := K) (n := n)
  have a := wSk_b (σ := σ) (nu := nu) hN (fmS K n) hSn (fun i hi => h i (by omega))
  have b1 := wC_end (σ := wSk kk vv σ nu (fmS K n)) (x := tot - fmS K n) (w := 6) (by omega) (by omega) (by omega)
  have b2 := wC_ge (σ := wSk kk vv σ nu (fmS K n)) (x := tot - fmS K n) (w := 6)
  by_cases hR : fmR K n
  · have c := wRk_b (σ := wC (wSk kk vv σ nu (fmS K n)) (tot - fmS K n) 6) (nu := nu) (S := fmS K n) hN (by have := hR.1; omega) (tot - fmS K n) (fun i hi => h i (by omega))
    unfold wF
    rw [if_pos hR]
    omega
  · unfold wF
    rw [if_neg hR]
    omega
theorem c_recF_pre0 {cc m xx w : Nat} (hD : SC 4 2 = nI (dp + 1)) (hd : dp + 1 ≤ 6) (hL : ∀ i, i < 7 → RA 5 i = some (9 + i)) (hc : cc < 2 ^ 31) (hG : IA 8 (64 + (dp + 1)) = nI m) (hm : m ≤ 8) (hx4 : 4 ≤ xx) (hx : xx < 2 ^ 31) (hf : fnd (RA 7) (64 + (dp + 1)) m (nI xx) = some y) (hw : SC (9 + (dp + 1)) 1 = nI w) (hw8 : w ≤ 8)
    (k : pm_X (pm_call (d + 5)) jm_67 6 (some .int) (d + 5) bc bs 51 [(0, .ref 1), (1, .int (nI cc)), (2, .int (nI xx)), (3, .ref (9 + (dp + 1))), (4, .ref y)] [.int (nI (2 ^ w)), .int (nI xx)] 0 0 (N, HW IA LA RA SC dr tl σ) r h') : pm_call (d + 6) 67 [.ref 1, .int (nI cc), .int (nI xx)] (N, HW IA LA RA SC dr tl σ) r h' bc bs := by
  have hQ := ns_HW (IA := IA) (LA := LA) (dr := dr) (tl := tl) hD hd hL
  refine c_rec_pre hD hd hL hc hG hm ?_
  rw [hf]
  refine pm_icmp rfl (fun z => absurd ((nI_eqI (b := 2) hx (by omega)).mp z) (by omega)) (fun _ => ?_)
  refine pm_go 1 (pc1 := 41) rfl ?_
  refine pm_ifn (q := some y) rfl (fun z => by cases z) (fun _ _ => ?_)
  refine pm_go 3 (pc1 := 47) rfl ?_
  refine pm_getf rfl ((hQ _).2.2.1 (dp + 1) (by omega)).2 rfl ?_
  refine pm_nm (y := nI w) hw ?_
  refine pm_go 1 (pc1 := 51) rfl ?_
  rw [ny_pow (by omega)]
  exact k
theorem c_recF2 {cc m xx w : Nat} (hD : SC 4 2 = nI (dp + 1)) (hd : dp + 1 ≤ 6) (hL : ∀ i, i < 7 → RA 5 i = some (9 + i)) (hc : cc < 2 ^ 31) (hG : IA 8 (64 + (dp + 1)) = nI m) (hm : m ≤ 8) (hx4 : 4 ≤ xx) (hx : xx < 2 ^ 31) (hf : fnd (RA 7) (64 + (dp + 1)) m (nI xx) = some y) (hw : SC (9 + (dp + 1)) 1 = nI w) (hw8 : w ≤ 8) (hxw : 2 ^ w ≤ xx) : pm_call (d + 6) 67 [.ref 1, .int (nI cc), .int (nI xx)] (N, HW IA LA RA SC dr tl σ) (.inl (some (.int (-2)))) (N, HW IA LA RA SC dr tl σ) 0 0 := by
  refine c_recF_pre0 hD hd hL hc hG hm hx4 hx hf hw hw8 ?_
  refine pm_icmp rfl (fun z => absurd ((nI_ltI hx (by omega)).mp z) (by omega)) (fun _ => ?_)
  refine pm_go 1 (pc1 := 56) rfl ?_
  exact pm_iret rfl rfl rfl rfl
theorem c_recF_pre {cc m xx w tot : Nat} (hD : SC 4 2 = nI (dp + 1)) (hd : dp + 1 ≤ 6) (hL : ∀ i, i < 7 → RA 5 i = some (9 + i)) (hc : cc < 2 ^ 31) (hG : IA 8 (64 + (dp + 1)) = nI m) (hm : m ≤ 8) (hx4 : 4 ≤ xx) (hx : xx < 2 ^ 31) (hf : fnd (RA 7) (64 + (dp + 1)) m (nI xx) = some y) (hw : SC (9 + (dp + 1)) 1 = nI w) (hw8 : w ≤ 8) (hxw : xx < 2 ^ w) (hU : nuAt (IAc IA cc) SC tot nu) (hq : okq y) (hT : fmAt tl y n K V)
    (k : pm_X (pm_call (d + 5)) jm_67 6 (some .int) (d + 5) bc bs 70 [(0, .ref 1), (2, .int (nI xx)), (3, .ref (9 + (dp + 1))), (4, .ref y)] [.int (if fmFit K V n (IAc IA cc 19) 17 tot then 1 else 0)] 0 0 (N, HW (IAc IA cc) LA RA SC dr tl σ) r h') : pm_call (d + 6) 67 [.ref 1, .int (nI cc), .int (nI xx)] (N, HW IA LA RA SC dr tl σ) r h' bc bs := by
  have hp : 2 ^ w ≤ 2 ^ 8 := Nat.pow_le_pow_right (by decide) hw8
  refine c_recF_pre0 hD hd hL hc hG hm hx4 hx hf hw hw8 ?_
  refine pm_icmp rfl (fun _ => ?_) (fun z => absurd ((nI_ltI hx (by omega)).mpr hxw) z)
  refine pm_go 1 (pc1 := 58) rfl ?_
  refine pm_getf rfl rfl rfl ?_
  refine pm_go 2 (pc1 := 63) rfl ?_
  refine pm_iastU (j := 0) rfl rfl rfl (by omega) HW_19 ?_
  refine pm_go 2 (pc1 := 67) rfl ?_
  have hM := c_mayForm (IA := va_up (IAc IA cc) 3 σ.1) (LA := LA) (RA := RA) (SC := va_up SC 2 (upd (SC 2) 1 (nI σ.2))) (dr := dr) (tl := tl) (N := N) (d := d) (tot := tot) (nu := nu) hU (fm_HC hq hT)
  refine pm_cV [.ref y] rfl rfl rfl rfl rfl rfl (Nat.zero_le _) (Nat.zero_le _) hM ?_
  exact pm_lv [(0, .ref 1), (2, .int (nI xx)), (3, .ref (9 + (dp + 1))), (4, .ref y)] rfl rfl k
theorem c_recF3 {cc m xx w tot : Nat} (hD : SC 4 2 = nI (dp + 1)) (hd : dp + 1 ≤ 6) (hL : ∀ i, i < 7 → RA 5 i = some (9 + i)) (hc : cc < 2 ^ 31) (hG : IA 8 (64 + (dp + 1)) = nI m) (hm : m ≤ 8) (hx4 : 4 ≤ xx) (hx : xx < 2 ^ 31) (hf : fnd (RA 7) (64 + (dp + 1)) m (nI xx) = some y) (hw : SC (9 + (dp + 1)) 1 = nI w) (hw8 : w ≤ 8) (hxw : xx < 2 ^ w) (hU : nuAt (IAc IA cc) SC tot nu) (hq : okq y) (hT : fmAt tl y n K V) (hM : ¬ fmFit K V n (IAc IA cc 19) 17 tot) : pm_call (d + 6) 67 [.ref 1, .int (nI cc), .int (nI xx)] (N, HW IA LA RA SC dr tl σ) (.inl (some (.int (-3)))) (N, HW (IAc IA cc) LA RA SC dr tl σ) 0 0 := by
  refine c_recF_pre hD hd hL hc hG hm hx4 hx hf hw hw8 hxw hU hq hT ?_
  rw [if_neg hM]
  refine pm_if rfl (fun z => absurd rfl z) (fun _ => ?_)
  refine pm_go 1 (pc1 := 75) rfl ?_
  exact pm_iret rfl rfl rfl rfl
theorem c_recF_pre2 {cc m xx w tot : Nat} (hD : SC 4 2 = nI (dp + 1)) (hd : dp + 1 ≤ 6) (hL : ∀ i, i < 7 → RA 5 i = some (9 + i)) (hc : cc < 2 ^ 31) (hG : IA 8 (64 + (dp + 1)) = nI m) (hm : m ≤ 8) (hx4 : 4 ≤ xx) (hx : xx < 2 ^ 31) (hf : fnd (RA 7) (64 + (dp + 1)) m (nI xx) = some y) (hw : SC (9 + (dp + 1)) 1 = nI w) (hw8 : w ≤ 8) (hxw : xx < 2 ^ w) (hU : nuAt (IAc IA cc) SC tot nu) (hq : okq y) (hT : fmAt tl y n K V) (hN : fmW K V n kk vv) (hM : fmFit K V n (IAc IA cc 19) 17 tot) (hE : σ.2 < 5000)
    (k : pm_X (pm_call (d + 5)) jm_67 6 (some .int) (d + 5) bc bs 115 [(0, .ref 1), (3, .ref (9 + (dp + 1))), (5, .int (nI σ.2))] [] 0 0 (N, HW (IAc IA cc) LA RA SC dr tl (wF K n kk vv (wP σ (nI xx) w) nu tot)) r h') : pm_call (d + 6) 67 [.ref 1, .int (nI cc), .int (nI xx)] (N, HW IA LA RA SC dr tl σ) r h' bc bs := by
  have hQ := ns_HW (IA := IAc IA cc) (LA := LA) (dr := dr) (tl := tl) hD hd hL
  have hF : ∀ σ, fmAt (HW (IAc IA cc) LA RA SC dr tl σ) y n K V := fun σ => fm_HC hq hT
  have h2 : (wP σ (nI xx) w).2 = σ.2 + w := rfl
  refine c_recF_pre hD hd hL hc hG hm hx4 hx hf hw hw8 hxw hU hq hT ?_
  rw [if_pos hM]
  refine pm_if rfl (fun _ => ?_) (fun z => absurd (fun w => absurd (show (1 : Int32) = 0 from w) (by decide)) z)
  refine pm_go 1 (pc1 := 77) rfl ?_
  refine pm_getf rfl rfl rfl ?_
  refine pm_getf rfl rfl rfl ?_
  refine pm_nm (y := nI σ.2) (by rw [va_up_self, pk_us]) ?_
  refine pm_go 2 (pc1 := 86) rfl ?_
  refine pm_getf rfl rfl rfl ?_
  refine pm_go 2 (pc1 := 91) rfl ?_
  refine pm_getf rfl ((hQ _).2.2.1 (dp + 1) (by omega)).2 rfl ?_
  refine pm_nm (y := nI w) hw ?_
  refine pm_cV [.int (nI xx), .int (nI w)] rfl rfl rfl rfl rfl rfl (Nat.zero_le _) (Nat.zero_le _) (w_put (by omega) (by omega)) ?_
  refine pm_go 1 (pc1 := 99) rfl ?_
  refine pm_ifnn (q := some y) rfl (fun z => by cases z) (fun _ _ => ?_)
  refine pm_go 2 (pc1 := 112) rfl ?_
  refine pm_cV [.ref y] rfl rfl rfl rfl rfl rfl (Nat.zero_le _) (Nat.zero_le _) (w_form hU hF hN hM.2.1 (by omega)) ?_
  exact pm_lv [(0, .ref 1), (3, .ref (9 + (dp + 1))), (5, .int (nI σ.2))] rfl rfl k
theorem c_recF5 {cc m xx w tot : Nat} (hD : SC 4 2 = nI (dp + 1)) (hd : dp + 1 ≤ 6) (hL : ∀ i, i < 7 → RA 5 i = some (9 + i)) (hc : cc < 2 ^ 31) (hG : IA 8 (64 + (dp + 1)) = nI m) (hm : m ≤ 8) (hx4 : 4 ≤ xx) (hx : xx < 2 ^ 31) (hf : fnd (RA 7) (64 + (dp + 1)) m (nI xx) = some y) (hw : SC (9 + (dp + 1)) 1 = nI w) (hw8 : w ≤ 8) (hxw : xx < 2 ^ w) (hU : nuAt (IAc IA cc) SC tot nu) (hq : okq y) (hT : fmAt tl y n K V) (hN : fmW K V n kk vv) (hM : fmFit K V n (IAc IA cc 19) 17 tot) (hE : σ.2 ≤ 2048) (hR : ¬ ((wF K n kk vv (wP σ (nI xx) w) nu tot).2 + w + 31) / 32 + dp ≤ 64) : pm_call (d + 6) 67 [.ref 1, .int (nI cc), .int (nI xx)] (N, HW IA LA RA SC dr tl σ) (.inl (some (.int (-5)))) (N, HW (IAc IA cc) LA RA SC dr tl (cw_cut (wF K n kk vv (wP σ (nI xx) w) nu tot).1 σ.2, σ.2)) 0 0 := by
  have hb := wF_b (σ := wP σ (nI xx) w) hN hT.2.2.2 hU.2.2.1 hM.2.1 (fun i hi => (hU.2.2.2 i hi).2)
  have h2 : (wP σ (nI xx) w).2 = σ.2 + w := rfl
  exact c_recF_pre2 hD hd hL hc hG hm hx4 hx hf hw hw8 hxw hU hq hT hN hM (by omega) (c_rec_t5 (d := d + 3) hD hd hL hw hw8 (by omega) hE hR)
theorem c_recF0 {cc m xx w tot : Nat} (hD : SC 4 2 = nI (dp + 1)) (hd : dp + 1 ≤ 6) (hL : ∀ i, i < 7 → RA 5 i = some (9 + i)) (hc : cc < 2 ^ 31) (hG : IA 8 (64 + (dp + 1)) = nI m) (hm : m ≤ 8) (hx4 : 4 ≤ xx) (hx : xx < 2 ^ 31) (hf : fnd (RA 7) (64 + (dp + 1)) m (nI xx) = some y) (hw : SC (9 + (dp + 1)) 1 = nI w) (hw8 : w ≤ 8) (hxw : xx < 2 ^ w) (hU : nuAt (IAc IA cc) SC tot nu) (hq : okq y) (hT : fmAt tl y n K V) (hN : fmW K V n kk vv) (hM : fmFit K V n (IAc IA cc 19) 17 tot) (hE : σ.2 ≤ 2048) (hR : ((wF K n kk vv (wP σ (nI xx) w) nu tot).2 + w + 31) / 32 + dp ≤ 64) : pm_call (d + 6) 67 [.ref 1, .int (nI cc), .int (nI xx)] (N, HW IA LA RA SC dr tl σ) (.inl (some (.int (nI ((wF K n kk vv (wP σ (nI xx) w) nu tot).2 - σ.2))))) (N, HW (IAc IA cc) LA RA (va_up (if SC (9 + (dp + 1)) 0 = 0 then va_up SC (9 + (dp + 1)) (upd (SC (9 + (dp + 1))) 2 (IAc IA cc 19 1)) else SC) 1 (upd (SC 1) 4 1)) dr tl (wF K n kk vv (wP σ (nI xx) w) nu tot)) 0 0 := by
  have hb := wF_b (σ := wP σ (nI xx) w) hN hT.2.2.2 hU.2.2.1 hM.2.1 (fun i hi => (hU.2.2.2 i hi).2)
  have h2 : (wP σ (nI xx) w).2 = σ.2 + w := rfl
  exact c_recF_pre2 hD hd hL hc hG hm hx4 hx hf hw hw8 hxw hU hq hT hN hM (by omega) (c_rec_t0 (d := d + 3) hD hd hL hw hw8 (by omega) (by omega) hR)
end WRA
