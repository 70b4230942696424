/-! THE LAW'S HEAP: its forms, its nests; THE WRITER: what is prepared -/
def okq (q : Nat) : Prop := q = 16 ∨ 56 ≤ q
section WR4
variable {IA : Nat → Nat → Int32} {LA : Nat → Nat → Int64} {RA : Nat → Nat → Option Nat} {SC : Nat → Nat → Int32} {dr : Nat} {tl : Nat → va_E} {N d : Nat} {σ : (Nat → Int32) × Nat} {y n q : Nat} {K V : Nat → Int32} {kk vv : Nat → Nat}
theorem fm_HC (hq : okq q) (h : fmAt tl q n K V) : fmAt (HC IA LA RA SC dr tl) q n K V := by
  obtain ⟨h0, h1, h2, h3⟩ := h
  rcases hq with e | e
  · subst e
    exact ⟨h0, h1, h2, h3⟩
  · refine ⟨?_, ?_, ?_, h3⟩
    · rw [hc_big _ _ _ _ _ _ e]; exact h0
    · rw [hc_big _ _ _ _ _ _ (by omega)]; exact h1
    · rw [hc_big _ _ _ _ _ _ (by omega)]; exact h2
theorem ht_q {e : va_E} (hq : okq q) : va_up (HC IA LA RA SC dr tl) q e = HC IA LA RA SC dr (va_up tl q e) := by
  rcases hq with z | z
  · subst z; exact ht_16 ..
  · exact ht_big _ _ _ _ _ _ _ z
theorem ht_q1 {e : va_E} (hq : okq q) : va_up (HC IA LA RA SC dr tl) (q + 1) e = HC IA LA RA SC dr (va_up tl (q + 1) e) := by
  rcases hq with z | z
  · subst z; exact ht_17 ..
  · exact ht_big _ _ _ _ _ _ _ (by omega)
theorem ht_q2 {e : va_E} (hq : okq q) : va_up (HC IA LA RA SC dr tl) (q + 2) e = HC IA LA RA SC dr (va_up tl (q + 2) e) := by
  rcases hq with z | z
  · subst z; exact ht_18 ..
  · exact ht_big _ _ _ _ _ _ _ (by omega)
theorem ns_HC {dp : Nat} (hD : SC 4 2 = nI dp) (hd : dp ≤ 6) (hL : ∀ i, i < 7 → RA 5 i = some (9 + i)) : nsAt (HC IA LA RA SC dr tl) 4 dp (fun i => SC (9 + i)) (RA 5) (RA 7) (IA 8) := by
  refine ⟨?_, rfl, ?_, ⟨rfl, rfl, rfl⟩, hd⟩
  · show (Sum.inr (4, [.ref 5, .ref 6, .int (SC 4 2)]) : va_E) = _
    rw [hD]
  · intro i hi
    refine ⟨hL i hi, ?_⟩
    match i, hi with
    | 0, _ => rfl
    | 1, _ => rfl
    | 2, _ => rfl
    | 3, _ => rfl
    | 4, _ => rfl
    | 5, _ => rfl
    | 6, _ => rfl
theorem ns_HW {dp : Nat} (hD : SC 4 2 = nI dp) (hd : dp ≤ 6) (hL : ∀ i, i < 7 → RA 5 i = some (9 + i)) (σ : (Nat → Int32) × Nat) : nsAt (HW IA LA RA SC dr tl σ) 4 dp (fun i => SC (9 + i)) (RA 5) (RA 7) (IA 8) := by
  have h := ns_HC (IA := va_up IA 3 σ.1) (LA := LA) (RA := RA) (SC := va_up SC 2 (upd (SC 2) 1 (nI σ.2))) (dr := dr) (tl := tl) (dp := dp) hD hd hL
  have e : (fun i => va_up SC 2 (upd (SC 2) 1 (nI σ.2)) (9 + i)) = fun i => SC (9 + i) := by
    funext i
    rw [va_up_ne _ _ (by omega)]
  rw [e] at h
  exact h
abbrev opOk (k v : Int) : Prop := (k = 0 ∧ 0 ≤ v) ∨ (k = 1 ∧ 1 ≤ v ∧ v ≤ 31) ∨ (k = 2 ∧ 2 ≤ v ∧ v ≤ 31) ∨ k = 3
theorem c_isOp {k v : Int32} {h : pm_H} : pm_call (d + 1) 96 [.int k, .int v] h (.inl (some (.int (if opOk k.toInt v.toInt then 1 else 0)))) h 0 0 := by
  refine pm_callX jm_96 [(0, .int k), (1, .int v)] rfl rfl rfl ?_
  refine pm_go 1 (pc1 := 1) rfl ?_
  by_cases k0 : k.toInt = 0
  · refine pm_tbl (off := 31) (tgt := 32) rfl (Or.inr ⟨by omega, by omega, by rw [k0]; rfl⟩) rfl ?_
    refine pm_go 1 (pc1 := 33) rfl ?_
    refine pm_if rfl (fun z => ?_) (fun z => ?_)
    · have hz := i32_lt0.mp z
      refine pm_go 1 (pc1 := 41) rfl ?_
      exact pm_iret rfl rfl (by rw [if_neg (by omega)]) rfl
    · have hz : ¬ v.toInt < 0 := fun w => z (i32_lt0.mpr w)
      refine pm_go 2 (pc1 := 41) rfl ?_
      exact pm_iret rfl rfl (by rw [if_pos (by omega)]) rfl
  by_cases k1 : k.toInt = 1
  · refine pm_tbl (off := 41) (tgt := 42) rfl (Or.inr ⟨by omega, by omega, by rw [k1]; rfl⟩) rfl ?_
    refine pm_go 2 (pc1 := 44) rfl ?_
    refine pm_icmp rfl (fun z => ?_) (fun z => ?_)
    · have hz : v.toInt < 1 := Int32.lt_iff_toInt_lt.mp z
      refine pm_go 1 (pc1 := 58) rfl ?_
      exact pm_iret rfl rfl (by rw [if_neg (by omega)]) rfl
    · have hz : ¬ v.toInt < 1 := fun w => z (Int32.lt_iff_toInt_lt.mpr w)
      refine pm_go 2 (pc1 := 50) rfl ?_
      refine pm_icmp rfl (fun z => ?_) (fun z => ?_)
      · have hz : (31 : Int) < v.toInt := Int32.lt_iff_toInt_lt.mp z
        refine pm_go 1 (pc1 := 58) rfl ?_
        exact pm_iret rfl rfl (by rw [if_neg (by omega)]) rfl
      · have hz2 : ¬ (31 : Int) < v.toInt := fun w => z (Int32.lt_iff_toInt_lt.mpr w)
        refine pm_go 2 (pc1 := 58) rfl ?_
        exact pm_iret rfl rfl (by rw [if_pos (by omega)]) rfl
  by_cases k2 : k.toInt = 2
  · refine pm_tbl (off := 58) (tgt := 59) rfl (Or.inr ⟨by omega, by omega, by rw [k2]; rfl⟩) rfl ?_
    refine pm_go 2 (pc1 := 61) rfl ?_
    refine pm_icmp rfl (fun z => ?_) (fun z => ?_)
    · have hz : v.toInt < 2 := Int32.lt_iff_toInt_lt.mp z
      refine pm_go 1 (pc1 := 75) rfl ?_
      exact pm_iret rfl rfl (by rw [if_neg (by omega)]) rfl
    · have hz : ¬ v.toInt < 2 := fun w => z (Int32.lt_iff_toInt_lt.mpr w)
      refine pm_go 2 (pc1 := 67) rfl ?_
      refine pm_icmp rfl (fun z => ?_) (fun z => ?_)
      · have hz : (31 : Int) < v.toInt := Int32.lt_iff_toInt_lt.mp z
        refine pm_go 1 (pc1 := 75) rfl ?_
        exact pm_iret rfl rfl (by rw [if_neg (by omega)]) rfl
      · have hz2 : ¬ (31 : Int) < v.toInt := fun w => z (Int32.lt_iff_toInt_lt.mpr w)
        refine pm_go 2 (pc1 := 75) rfl ?_
        exact pm_iret rfl rfl (by rw [if_pos (by omega)]) rfl
  by_cases k3 : k.toInt = 3
  · refine pm_tbl (off := 75) (tgt := 76) rfl (Or.inr ⟨by omega, by omega, by rw [k3]; rfl⟩) rfl ?_
    refine pm_go 1 (pc1 := 77) rfl ?_
    exact pm_iret rfl rfl (by rw [if_pos (by omega)]) rfl
  · refine pm_tbl (off := 77) (tgt := 78) rfl (Or.inl ⟨by omega, rfl⟩) rfl ?_
    refine pm_go 1 (pc1 := 79) rfl ?_
    exact pm_iret rfl rfl (by rw [if_neg (by omega)]) rfl
theorem c_forget (hq : okq dr) (h : fmAt tl dr n K V) : pm_call (d + 1) 61 [.ref 1] (N, HC IA LA RA SC dr tl) (.inl none) (N, HC IA LA RA (va_up SC 1 (upd (SC 1) 4 1)) dr (va_up tl dr (.inr (2, [.ref (dr + 1), .ref (dr + 2), .int 0])))) 0 0 := by
  refine pm_callX jm_61 [(0, .ref 1)] rfl rfl rfl ?_
  refine pm_go 1 (pc1 := 1) rfl ?_
  refine pm_getf rfl rfl rfl ?_
  refine pm_go 1 (pc1 := 5) rfl ?_
  refine pm_putU rfl (fm_HC hq h).1 rfl rfl (ht_q hq) ?_
  refine pm_go 2 (pc1 := 10) rfl ?_
  refine pm_putU rfl rfl rfl rfl (hs_1_4 ..) ?_
  exact pm_vret rfl rfl rfl rfl
theorem c_prepareValue {v : Int32} {tot : Nat} (hT : SC 1 4 = nI tot) (ht : 1 ≤ tot) (ht2 : tot ≤ 17) : pm_call (d + 1) 63 [.ref 1, .int v] (N, HC IA LA RA SC dr tl) (.inl (some (.int (if v < 0 then -1 else if tot = 17 then -2 else nI tot)))) (N, if v < 0 ∨ tot = 17 then HC IA LA RA SC dr tl else HC (va_up IA 19 (upd (IA 19) tot v)) LA RA (va_up SC 1 (upd (SC 1) 4 (nI (tot + 1)))) dr tl) 0 0 := by
  refine pm_callX jm_63 [(0, .ref 1), (1, .int v)] rfl rfl rfl ?_
  refine pm_go 1 (pc1 := 1) rfl ?_
  refine pm_if rfl (fun z => ?_) (fun z => ?_)
  · have hz : ¬ v < 0 := fun w => absurd (Int32.lt_iff_toInt_lt.mp w) (by have := Int32.le_iff_toInt_le.mp z; omega)
    refine pm_go 1 (pc1 := 7) rfl ?_
    refine pm_getf rfl rfl rfl ?_
    refine pm_nm (y := nI tot) hT ?_
    refine pm_go 1 (pc1 := 12) rfl ?_
    refine pm_icmp rfl (fun z => ?_) (fun z => ?_)
    · have ht3 : tot < 17 := (nI_ltI (b := 17) (by omega) (by omega)).mp z
      rw [if_neg hz, if_neg (by omega), if_neg (by rintro (e | e); exact hz e; omega)]
      refine pm_go 1 (pc1 := 19) rfl ?_
      refine pm_getf rfl rfl rfl ?_
      refine pm_go 1 (pc1 := 23) rfl ?_
      refine pm_getf rfl rfl rfl ?_
      refine pm_nm (y := nI tot) hT ?_
      refine pm_go 1 (pc1 := 27) rfl ?_
      refine pm_iastU (j := tot) rfl rfl (cw_ti (by omega)) ht3 (hi_19 ..) ?_
      refine pm_go 2 (pc1 := 30) rfl ?_
      refine pm_getf rfl rfl rfl ?_
      refine pm_nm (y := nI tot) hT ?_
      refine pm_go 2 (pc1 := 35) rfl ?_
      rw [nI_1]
      refine pm_putU rfl rfl rfl rfl (hs_1_4 ..) ?_
      refine pm_go 1 (pc1 := 39) rfl ?_
      refine pm_getf rfl rfl rfl ?_
      refine pm_nm (y := nI (tot + 1)) (by rw [va_up_self, pk_us]) ?_
      refine pm_go 2 (pc1 := 44) rfl ?_
      rw [show nI (tot + 1) - 1 = nI tot from pk_sub (a := tot + 1) (b := 1) (by omega)]
      exact pm_iret rfl rfl rfl rfl
    · have ht3 : ¬ tot < 17 := fun w => z ((nI_ltI (b := 17) (by omega) (by omega)).mpr w)
      rw [if_neg hz, if_pos (by omega), if_pos (Or.inr (by omega))]
      refine pm_go 1 (pc1 := 17) rfl ?_
      exact pm_iret rfl rfl rfl rfl
  · have hz : v < 0 := Int32.lt_iff_toInt_lt.mpr (Int.not_le.mp fun w => z (Int32.le_iff_toInt_le.mpr w))
    rw [if_pos hz, if_pos (Or.inl hz)]
    refine pm_go 1 (pc1 := 5) rfl ?_
    exact pm_iret rfl rfl rfl rfl
/-- the heap after an op is added to a form -/
def fmAdd (f : Nat → va_E) (q n : Nat) (K V : Nat → Int32) (k v : Int32) : Nat → va_E := va_up (va_up (va_up f (q + 1) (.inl (0, 8, .inl (upd K n k)))) (q + 2) (.inl (0, 8, .inl (upd V n v)))) q (.inr (2, [.ref (q + 1), .ref (q + 2), .int (nI (n + 1))]))
theorem fmAdd_HC {k v : Int32} (hq : okq q) : fmAdd (HC IA LA RA SC dr tl) q n K V k v = HC IA LA RA SC dr (fmAdd tl q n K V k v) := by
  unfold fmAdd
  rw [ht_q1 hq, ht_q2 hq, ht_q hq]
theorem fmAdd_at {f : Nat → va_E} {k v : Int32} (hn8 : n < 8) : fmAt (fmAdd f q n K V k v) q (n + 1) (upd K n k) (upd V n v) := by
  unfold fmAdd
  refine ⟨va_up_self _ _ _, ?_, ?_, by omega⟩
  · rw [va_up_ne _ _ (by omega), va_up_ne _ _ (by omega), va_up_self]
  · rw [va_up_ne _ _ (by omega), va_up_self]
theorem fmAdd_ne {f : Nat → va_E} {k v : Int32} {j : Nat} (a : j ≠ q) (b : j ≠ q + 1) (e : j ≠ q + 2) : fmAdd f q n K V k v j = f j := by
  unfold fmAdd
  rw [va_up_ne _ _ a, va_up_ne _ _ e, va_up_ne _ _ b]
theorem c_addOpX {f : Nat → va_E} {k v : Int32} (h : fmAt f q n K V) (hn8 : n < 8) : pm_call (d + 2) 11 [.ref q, .int k, .int v] (N, f) (.inl none) (N, fmAdd f q n K V k v) 0 0 := by
  have hh := h
  obtain ⟨h0, h1, h2, hn⟩ := hh
  have e1 : ∀ e, va_up f (q + 1) e q = f q := fun e => va_up_ne f e (by omega)
  have e2 : ∀ (g : Nat → va_E) e, va_up g (q + 2) e q = g q := fun g e => va_up_ne g e (by omega)
  have e3 : ∀ e, va_up f (q + 1) e (q + 2) = f (q + 2) := fun e => va_up_ne f e (by omega)
  refine pm_callX jm_11 [(0, .ref q), (1, .int k), (2, .int v)] rfl rfl rfl ?_
  refine pm_go 1 (pc1 := 1) rfl ?_
  refine pm_cV [] rfl rfl rfl rfl h0 rfl (Nat.le_refl _) (Nat.le_refl _) (c_isFull h) ?_
  rw [if_neg (by omega)]
  refine pm_if rfl (fun _ => ?_) (fun z => absurd rfl z)
  refine pm_go 1 (pc1 := 9) rfl ?_
  refine pm_getf rfl h0 rfl ?_
  refine pm_go 1 (pc1 := 13) rfl ?_
  refine pm_getf rfl h0 rfl ?_
  refine pm_go 1 (pc1 := 17) rfl ?_
  refine pm_iastU (j := n) rfl h1 (cw_ti (by omega)) hn8 rfl ?_
  refine pm_go 1 (pc1 := 19) rfl ?_
  refine pm_getf rfl ((e1 _).trans h0) rfl ?_
  refine pm_go 1 (pc1 := 23) rfl ?_
  refine pm_getf rfl ((e1 _).trans h0) rfl ?_
  refine pm_go 1 (pc1 := 27) rfl ?_
  refine pm_iastU (j := n) rfl ((e3 _).trans h2) (cw_ti (by omega)) hn8 rfl ?_
  refine pm_go 2 (pc1 := 30) rfl ?_
  refine pm_getf rfl (((e2 _ _).trans (e1 _)).trans h0) rfl ?_
  refine pm_go 2 (pc1 := 35) rfl ?_
  rw [nI_1]
  refine pm_putU rfl (((e2 _ _).trans (e1 _)).trans h0) rfl rfl rfl ?_
  exact pm_vret rfl rfl rfl rfl
theorem c_prepareOp {k v : Int32} (hq : okq dr) (h : fmAt tl dr n K V) : pm_call (d + 3) 62 [.ref 1, .int k, .int v] (N, HC IA LA RA SC dr tl) (.inl (some (.int (if opOk k.toInt v.toInt then if n = 8 then -2 else nI (n + 1) else -1)))) (N, if opOk k.toInt v.toInt ∧ n < 8 then HC IA LA RA SC dr (fmAdd tl dr n K V k v) else HC IA LA RA SC dr tl) 0 0 := by
  have hn := h.2.2.2
  have hF := fm_HC (IA := IA) (LA := LA) (RA := RA) (SC := SC) (dr := dr) hq h
  refine pm_callX jm_62 [(0, .ref 1), (1, .int k), (2, .int v)] rfl rfl rfl ?_
  refine pm_go 2 (pc1 := 2) rfl ?_
  refine pm_cS [.int k, .int v] rfl rfl rfl rfl rfl (Nat.le_refl _) (Nat.le_refl _) c_isOp ?_
  by_cases ho : opOk k.toInt v.toInt
  · rw [if_pos ho, if_pos ho]
    refine pm_if rfl (fun _ => ?_) (fun z => absurd (fun w => absurd (show (1 : Int32) = 0 from w) (by decide)) z)
    refine pm_go 1 (pc1 := 11) rfl ?_
    refine pm_getf rfl rfl rfl ?_
    refine pm_cV [] rfl rfl rfl rfl hF.1 rfl (Nat.le_refl _) (Nat.le_refl _) (c_isFull hF) ?_
    by_cases h8 : n = 8
    · rw [if_pos h8, if_pos h8, if_neg (by omega)]
      refine pm_if rfl (fun z => absurd (show (1 : Int32) = 0 from z) (by decide)) (fun _ => ?_)
      refine pm_go 1 (pc1 := 22) rfl ?_
      exact pm_iret rfl rfl rfl rfl
    · rw [if_neg h8, if_neg h8, if_pos ⟨ho, by omega⟩]
      refine pm_if rfl (fun _ => ?_) (fun z => absurd rfl z)
      refine pm_go 1 (pc1 := 24) rfl ?_
      refine pm_getf rfl rfl rfl ?_
      refine pm_go 2 (pc1 := 29) rfl ?_
      refine pm_cV [.int k, .int v] rfl rfl rfl rfl hF.1 rfl (Nat.le_refl _) (Nat.le_refl _) (c_addOpX hF (by omega)) ?_
      rw [fmAdd_HC hq]
      refine pm_go 1 (pc1 := 33) rfl ?_
      refine pm_getf rfl rfl rfl ?_
      refine pm_getf rfl (fm_HC hq (fmAdd_at (by omega))).1 rfl ?_
      exact pm_iret rfl rfl rfl rfl
  · rw [if_neg ho, if_neg ho, if_neg (fun w => ho w.1)]
    refine pm_if rfl (fun z => absurd rfl z) (fun _ => ?_)
    refine pm_go 1 (pc1 := 9) rfl ?_
    exact pm_iret rfl rfl rfl rfl
theorem c_mayNull {tot : Nat} {nu : Nat → Nat} {dp : Nat} (hU : nuAt IA SC tot nu) (hD : SC 4 2 = nI dp) (hd : dp ≤ 6) (hL : ∀ i, i < 7 → RA 5 i = some (9 + i)) : pm_call (d + 3) 68 [.ref 1, .null] (N, HC IA LA RA SC dr tl) (.inl (some (.int (if SC (9 + dp) 0 = 0 → nmT (IA 19) tot then 1 else 0)))) (N, HC IA LA RA SC dr tl) 0 0 := by
  obtain ⟨u1, u2, u3, u4⟩ := hU
  have hQ := ns_HC (IA := IA) (LA := LA) (dr := dr) (tl := tl) hD hd hL
  refine pm_callX jm_68 [(0, .ref 1), (1, .null)] rfl rfl rfl ?_
  refine pm_go 1 (pc1 := 1) rfl ?_
  refine pm_ifnn (q := none) rfl (fun _ => ?_) (fun k z => by cases z)
  refine pm_go 1 (pc1 := 5) rfl ?_
  refine pm_getf rfl rfl rfl ?_
  refine pm_cV [] rfl rfl rfl rfl rfl rfl (Nat.le_refl _) (Nat.le_refl _) (c_isInInfo hQ) ?_
  by_cases hi : SC (9 + dp) 0 = 0
  · rw [if_pos hi]
    refine pm_if rfl (fun z => absurd (show (1 : Int32) = 0 from z) (by decide)) (fun _ => ?_)
    refine pm_go 1 (pc1 := 15) rfl ?_
    refine pm_getf rfl rfl rfl ?_
    refine pm_go 1 (pc1 := 19) rfl ?_
    refine pm_getf rfl rfl rfl ?_
    refine pm_nm (y := nI tot) u1 ?_
    refine pm_cS [.ref 19, .int (nI tot)] rfl rfl rfl rfl rfl (Nat.le_refl _) (Nat.le_refl _) (c_namesTarget (W := IA 19) (ln := 17) rfl (by omega) (by omega) (by omega)) ?_
    by_cases hT : nmT (IA 19) tot
    · rw [if_pos hT, if_pos (fun _ => hT)]
      refine pm_if rfl (fun z => absurd (show (1 : Int32) = 0 from z) (by decide)) (fun _ => ?_)
      refine pm_go 2 (pc1 := 33) rfl ?_
      exact pm_iret rfl rfl rfl rfl
    · rw [if_neg hT, if_neg (fun w => hT (w hi))]
      refine pm_if rfl (fun _ => ?_) (fun z => absurd rfl z)
      refine pm_go 1 (pc1 := 33) rfl ?_
      exact pm_iret rfl rfl rfl rfl
  · rw [if_neg hi, if_pos (fun w => absurd w hi)]
    refine pm_if rfl (fun _ => ?_) (fun z => absurd rfl z)
    refine pm_go 2 (pc1 := 33) rfl ?_
    exact pm_iret rfl rfl rfl rfl
theorem c_mayForm {tot : Nat} {nu : Nat → Nat} (hU : nuAt IA SC tot nu) (hF : fmAt (HC IA LA RA SC dr tl) y n K V) : pm_call (d + 5) 68 [.ref 1, .ref y] (N, HC IA LA RA SC dr tl) (.inl (some (.int (if fmFit K V n (IA 19) 17 tot then 1 else 0)))) (N, HC IA LA RA SC dr tl) 0 0 := by
  obtain ⟨u1, u2, u3, u4⟩ := hU
  refine pm_callX jm_68 [(0, .ref 1), (1, .ref y)] rfl rfl rfl ?_
  refine pm_go 1 (pc1 := 1) rfl ?_
  refine pm_ifnn (q := some y) rfl (fun z => by cases z) (fun k z => ?_)
  refine pm_go 2 (pc1 := 36) rfl ?_
  refine pm_getf rfl rfl rfl ?_
  refine pm_go 1 (pc1 := 40) rfl ?_
  refine pm_getf rfl rfl rfl ?_
  refine pm_nm (y := nI tot) u1 ?_
  refine pm_cV [.ref 19, .int (nI tot)] rfl rfl rfl rfl hF.1 rfl (Nat.le_refl _) (Nat.le_refl _) (c_isFitFor (y := 19) (W := IA 19) (ln := 17) hF rfl (by omega) (by omega)) ?_
  by_cases hT : fmFit K V n (IA 19) 17 tot
  · rw [if_pos hT]
    exact pm_iret rfl rfl rfl rfl
  · rw [if_neg hT]
    exact pm_iret rfl rfl rfl rfl
end WR4
