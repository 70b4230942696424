/-! THE READER: zeros, a block's end and its beginning -/
section RE
variable {IA : Nat → Nat → Int32} {LA : Nat → Nat → Int64} {RA : Nat → Nat → Option Nat} {SC : Nat → Nat → Int32} {dr : Nat} {tl : Nat → va_E} {N d m p dp : Nat} {fr : Nat → Int32}
theorem zN_le (hm : p ≤ 32 * m) : p + zN p ≤ 32 * m := by unfold zN; omega
theorem r_zeros (hS : SC 20 2 = nI m) (hm : m ≤ 64) (hp : p ≤ 32 * m) (hz : rdN (IA 33) p (zN p) = 0) : pm_call (d + 10) 58 [.ref 20] (N, HR IA LA RA SC dr tl p fr) (.inl none) (N, HR IA LA RA SC dr tl (p + zN p) fr) 0 0 := by
  have hz2 : zN p = (32 - p % 32) % 32 := rfl
  refine c_zeros_pre (p := p) rfl (by omega) ?_
  by_cases h0 : zN p = 0
  · rw [h0]
    refine pm_if rfl (fun _ => ?_) (fun z => absurd (nI_le (Nat.le_refl 0) (by omega)) z)
    exact pm_vret rfl rfl rfl rfl
  · refine pm_if rfl (fun z => absurd ((nI_leI (a := zN p) (b := 0) (by omega) (by omega)).mp z) (by omega)) (fun _ => ?_)
    refine pm_go 2 (pc1 := 20) rfl ?_
    refine pm_cV [.int (nI (zN p))] rfl rfl rfl rfl rfl rfl (Nat.zero_le _) (Nat.zero_le _) (r_take hS hm hp (by omega) (by omega) (zN_le hp)) ?_
    rw [hz]
    refine pm_if rfl (fun _ => ?_) (fun z => absurd rfl z)
    exact pm_vret rfl rfl rfl rfl
theorem r_zerosX (hS : SC 20 2 = nI m) (hm : m ≤ 64) (hp : p ≤ 32 * m) (hz : ¬ rdN (IA 33) p (zN p) = 0) : pm_call (d + 10) 58 [.ref 20] (N, HR IA LA RA SC dr tl p fr) (.inr 0) (N, HR IA LA RA SC dr tl (p + zN p) fr) 1 6 := by
  have hz2 : zN p = (32 - p % 32) % 32 := rfl
  have h0 : ¬ zN p = 0 := fun h => hz (by rw [h]; rfl)
  have hlt := rdN_lt (IA 33) p (zN p)
  have hlt2 : 2 ^ zN p ≤ 2 ^ 31 := Nat.pow_le_pow_right (by omega) (by omega)
  refine c_zeros_pre (p := p) rfl (by omega) ?_
  refine pm_if rfl (fun z => absurd ((nI_leI (a := zN p) (b := 0) (by omega) (by omega)).mp z) (by omega)) (fun _ => ?_)
  refine pm_go 2 (pc1 := 20) rfl ?_
  refine pm_cV [.int (nI (zN p))] rfl rfl rfl rfl rfl rfl (Nat.zero_le _) (Nat.zero_le _) (r_take hS hm hp (by omega) (by omega) (zN_le hp)) ?_
  refine pm_if rfl (fun z => absurd ((nI_eqI (b := 0) (by omega) (by omega)).mp z) hz) (fun _ => ?_)
  exact pm_thr rfl rfl (by omega) rfl (by decide) (by decide) rfl rfl
theorem push_r {i mm : Nat} {w s t : Int32} (hd : dp + 1 < 7) : nsPush (HC IA LA RA SC dr tl) 21 dp (RA 24) (IA 25) i w s t mm = HC (va_up IA 25 (upd (IA 25) (64 + (dp + 1)) (nI mm))) LA (va_up RA 24 (frCk (RA 24) i (64 + (dp + 1)) mm)) (va_up (va_up SC 21 (upd (SC 21) 2 (nI (dp + 1)))) (26 + (dp + 1)) (bkRow (nI i) w 0 s t)) dr tl := by
  refine (congrArg (fun z => va_up (va_up (va_up z (26 + (dp + 1)) _) 24 _) 25 _) (hs_21_2 ..)).trans ?_
  refine (congrArg (fun z => va_up (va_up z 24 _) 25 _) (hb_r _ _ _ _ _ _ _ hd)).trans ?_
  refine (congrArg (fun z => va_up z 25 _) (hr_24 ..)).trans ?_
  exact hi_25 ..
theorem push_w {i mm : Nat} {w s t : Int32} (hd : dp + 1 < 7) : nsPush (HC IA LA RA SC dr tl) 4 dp (RA 7) (IA 8) i w s t mm = HC (va_up IA 8 (upd (IA 8) (64 + (dp + 1)) (nI mm))) LA (va_up RA 7 (frCk (RA 7) i (64 + (dp + 1)) mm)) (va_up (va_up SC 4 (upd (SC 4) 2 (nI (dp + 1)))) (9 + (dp + 1)) (bkRow (nI i) w 0 s t)) dr tl := by
  refine (congrArg (fun z => va_up (va_up (va_up z (9 + (dp + 1)) _) 7 _) 8 _) (hs_4_2 ..)).trans ?_
  refine (congrArg (fun z => va_up (va_up z 7 _) 8 _) (hb_w _ _ _ _ _ _ _ hd)).trans ?_
  refine (congrArg (fun z => va_up z 8 _) (hr_7 ..)).trans ?_
  exact hi_8 ..
/-- a block's beginning behind its number: id, width, length, where it ends -/
def pE (g : Nat → Int32) (m p : Nat) : Option (Nat × Nat × Nat × Nat) := match gC g m 6 p with
  | none => none
  | some (i, p1) => match gC g m 4 p1 with
    | none => none
    | some (w, p2) => if (i < 64 ∧ 2 ≤ w ∧ w ≤ 8) ∧ rdN g p2 (zN p2) = 0 then match gL g m (p2 + zN p2) with
      | none => none
      | some (l, q) => some (i, w, l, q)
      else none
theorem pE_some {g : Nat → Int32} {i w l q : Nat} (h : pE g m p = some (i, w, l, q)) : ∃ p1 p2, gC g m 6 p = some (i, p1) ∧ gC g m 4 p1 = some (w, p2) ∧ i < 64 ∧ 2 ≤ w ∧ w ≤ 8 ∧ rdN g p2 (zN p2) = 0 ∧ gL g m (p2 + zN p2) = some (l, q) := by
  unfold pE at h
  split at h
  · cases h
  · rename_i i' p1 h1
    split at h
    · cases h
    · rename_i w' p2 h2
      split at h
      · rename_i hc
        split at h
        · cases h
        · rename_i l' q' h3
          cases h
          exact ⟨p1, p2, h1, h2, hc.1.1, hc.1.2.1, hc.1.2.2, hc.2, h3⟩
      · cases h
def enIA (IA : Nat → Nat → Int32) (dp i w l mm : Nat) : Nat → Nat → Int32 := va_up (va_up IA 25 (upd (IA 25) (64 + (dp + 1)) (nI mm))) 35 (upd (upd (upd (IA 35) 0 (nI i)) 1 (nI w)) 2 (nI l))
def enSC (SC : Nat → Nat → Int32) (dp i w l q : Nat) : Nat → Nat → Int32 := va_up (va_up (va_up SC 21 (upd (SC 21) 2 (nI (dp + 1)))) (26 + (dp + 1)) (bkRow (nI i) (nI w) 0 (nI (q / 32)) (nI l))) 20 (upd (SC 20) 7 3)
theorem sc_26 {α : Type} {f : Nat → α} {i : Nat} {b : α} {k : Nat} (hk : k < 26) : va_up f (26 + i) b k = f k := by
  show (if k = 26 + i then b else f k) = f k
  rw [if_neg (by omega)]
theorem r_enter_pre {r : pm_V} {h' : pm_H} {bc bs : Nat} (hD : SC 21 2 = nI dp) (hd : dp < 6) (hL : ∀ i, i < 7 → RA 22 i = some (26 + i)) (hI : ¬ SC (26 + dp) 0 = 0)
    (k : pm_X (pm_call (d + 10)) jm_46 4 (some .int) (d + 10) bc bs 30 [(0, .ref 20)] [] 0 0 (N, HR IA LA RA SC dr tl p fr) r h') : pm_call (d + 11) 46 [.ref 20] (N, HR IA LA RA SC dr tl p fr) r h' bc bs := by
  have hQ := ns_HCr (IA := va_up IA 34 fr) (LA := LA) (dr := dr) (tl := tl) (RA := RA) (SC := va_up SC 20 (upd (SC 20) 3 (nI p))) (dp := dp) hD (by omega) hL
  refine pm_callX jm_46 [(0, .ref 20)] rfl rfl rfl ?_
  refine pm_go 1 (pc1 := 1) rfl ?_
  refine pm_getf rfl rfl rfl ?_
  refine pm_cV [] rfl rfl rfl rfl rfl rfl (Nat.zero_le _) (Nat.zero_le _) (c_isDeepest hQ) ?_
  rw [if_neg (by omega)]
  refine pm_if rfl (fun z => absurd rfl z) (fun _ => ?_)
  refine pm_go 1 (pc1 := 11) rfl ?_
  refine pm_getf rfl rfl rfl ?_
  refine pm_cV [] rfl rfl rfl rfl rfl rfl (Nat.zero_le _) (Nat.zero_le _) (c_isInInfo hQ) ?_
  have hI2 : ¬ (va_up SC 20 (upd (SC 20) 3 (nI p))) (26 + dp) 0 = 0 := by
    show ¬ (if 26 + dp = 20 then _ else SC (26 + dp)) 0 = 0
    rw [if_neg (by omega)]
    exact hI
  rw [if_neg hI2]
  exact pm_if rfl (fun _ => k) (fun z => absurd rfl z)
theorem r_enterD (hD : SC 21 2 = nI dp) (hd : dp ≤ 6) (hL : ∀ i, i < 7 → RA 22 i = some (26 + i)) (hX : dp = 6 ∨ SC (26 + dp) 0 = 0) : pm_call (d + 11) 46 [.ref 20] (N, HR IA LA RA SC dr tl p fr) (.inr 0) (N, HR IA LA RA SC dr tl p fr) 1 6 := by
  have hQ := ns_HCr (IA := va_up IA 34 fr) (LA := LA) (dr := dr) (tl := tl) (RA := RA) (SC := va_up SC 20 (upd (SC 20) 3 (nI p))) (dp := dp) hD (by omega) hL
  refine pm_callX jm_46 [(0, .ref 20)] rfl rfl rfl ?_
  refine pm_go 1 (pc1 := 1) rfl ?_
  refine pm_getf rfl rfl rfl ?_
  refine pm_cV [] rfl rfl rfl rfl rfl rfl (Nat.zero_le _) (Nat.zero_le _) (c_isDeepest hQ) ?_
  by_cases h6 : dp = 6
  · rw [if_pos h6]
    refine pm_if rfl (fun _ => ?_) (fun z => absurd (show ¬ (1 : Int32) = 0 by decide) z)
    exact pm_thr rfl rfl (by omega) rfl (by decide) (by decide) rfl rfl
  · rw [if_neg h6]
    refine pm_if rfl (fun z => absurd rfl z) (fun _ => ?_)
    refine pm_go 1 (pc1 := 11) rfl ?_
    refine pm_getf rfl rfl rfl ?_
    refine pm_cV [] rfl rfl rfl rfl rfl rfl (Nat.zero_le _) (Nat.zero_le _) (c_isInInfo hQ) ?_
    have hI2 : (va_up SC 20 (upd (SC 20) 3 (nI p))) (26 + dp) 0 = 0 := by
      show (if 26 + dp = 20 then _ else SC (26 + dp)) 0 = 0
      rw [if_neg (by omega)]
      exact hX.resolve_left h6
    rw [if_pos hI2]
    refine pm_if rfl (fun z => absurd (show (1 : Int32) = 0 from z) (by decide)) (fun _ => ?_)
    exact pm_thr rfl rfl (by omega) rfl (by decide) (by decide) rfl rfl
theorem r_enter {i w l q mm : Nat} (hS : SC 20 2 = nI m) (hm : m ≤ 64) (hp : p ≤ 32 * m) (hD : SC 21 2 = nI dp) (hd : dp < 6) (hL : ∀ i, i < 7 → RA 22 i = some (26 + i)) (hI : ¬ SC (26 + dp) 0 = 0) (hE : pE (IA 33) m p = some (i, w, l, q)) (hG : IA 25 i = nI mm) (hmm : mm ≤ 8) (hR : ∀ j, j < mm → ∃ y fs, RA 24 (8 * i + j) = some y ∧ HR IA LA RA SC dr tl q fr y = .inr (2, fs)) :
    pm_call (d + 11) 46 [.ref 20] (N, HR IA LA RA SC dr tl p fr) (.inl (some (.int 1))) (N, HC (enIA (va_up IA 34 fr) dp i w l mm) LA (va_up RA 24 (frCk (RA 24) i (64 + (dp + 1)) mm)) (enSC (va_up SC 20 (upd (SC 20) 3 (nI q))) dp i w l q) dr tl) 0 0 := by
  obtain ⟨p1, p2, h1, h2, hi, hw2, hw8, hz, hl⟩ := pE_some hE
  obtain ⟨b1, b2, b3⟩ := gC_b h1
  obtain ⟨c1, c2, c3⟩ := gC_b h2
  obtain ⟨e1, e2, e3⟩ := gL_b hl
  have hQ := ns_HCr (IA := va_up IA 34 fr) (LA := LA) (dr := dr) (tl := tl) (RA := RA) (SC := va_up SC 20 (upd (SC 20) 3 (nI q))) (dp := dp) hD (by omega) hL
  refine r_enter_pre hD hd hL hI ?_
  refine pm_go 2 (pc1 := 33) rfl ?_
  refine pm_cV [.int (nI 6)] rfl rfl rfl rfl rfl rfl (Nat.zero_le _) (Nat.zero_le _) (r_chunks (by omega) (by omega) hS hm hp h1) ?_
  refine pm_go 3 (pc1 := 39) rfl ?_
  refine pm_cV [.int (nI 4)] rfl rfl rfl rfl rfl rfl (Nat.zero_le _) (Nat.zero_le _) (r_chunks (by omega) (by omega) hS hm b3 h2) ?_
  refine pm_go 3 (pc1 := 45) rfl ?_
  refine pm_cS [.int (nI i), .int (nI w)] rfl rfl rfl rfl rfl (Nat.zero_le _) (Nat.zero_le _) c_isBlockHead ?_
  rw [cw_ti (show i < 2 ^ 31 by omega), cw_ti (show w < 2 ^ 31 by omega), if_pos (by omega)]
  refine pm_if rfl (fun _ => ?_) (fun z => absurd (show ¬ (1 : Int32) = 0 by decide) z)
  refine pm_go 1 (pc1 := 62) rfl ?_
  refine pm_cV [] rfl rfl rfl rfl rfl rfl (Nat.zero_le _) (Nat.zero_le _) (r_zeros hS hm c3 hz) ?_
  refine pm_go 1 (pc1 := 66) rfl ?_
  refine pm_cV [] rfl rfl rfl rfl rfl rfl (Nat.zero_le _) (Nat.zero_le _) (r_len hS hm (zN_le c3) hl) ?_
  refine pm_go 2 (pc1 := 71) rfl ?_
  refine pm_getf rfl rfl rfl ?_
  refine pm_go 3 (pc1 := 77) rfl ?_
  refine pm_getf rfl rfl rfl ?_
  refine pm_nm (y := nI q) rfl ?_
  refine pm_go 2 (pc1 := 83) rfl ?_
  rw [cw_di (by omega)]
  refine pm_go 1 (pc1 := 84) rfl ?_
  refine pm_cV [.int (nI i), .int (nI w), .int (nI (q / 32)), .int (nI l)] rfl rfl rfl rfl rfl rfl (Nat.zero_le _) (Nat.zero_le _) (c_push hQ hd hi (by rw [cw_ti (by omega)]; omega) hG hmm hR) ?_
  refine pm_hp (push_r (by omega)) ?_
  refine pm_go 1 (pc1 := 88) rfl ?_
  refine pm_getf rfl rfl rfl ?_
  refine pm_go 2 (pc1 := 93) rfl ?_
  refine pm_iastU (j := 0) rfl rfl rfl (by omega) (hi_35 ..) ?_
  refine pm_go 1 (pc1 := 95) rfl ?_
  refine pm_getf rfl rfl rfl ?_
  refine pm_go 2 (pc1 := 100) rfl ?_
  refine pm_iastU (j := 1) rfl rfl rfl (by omega) (hi_35 ..) ?_
  refine pm_go 1 (pc1 := 102) rfl ?_
  refine pm_getf rfl rfl rfl ?_
  refine pm_go 2 (pc1 := 107) rfl ?_
  refine pm_iastU (j := 2) rfl rfl rfl (by omega) (hi_35 ..) ?_
  refine pm_go 2 (pc1 := 110) rfl ?_
  refine pm_putU rfl rfl rfl rfl (hs_20_7 ..) ?_
  refine pm_go 1 (pc1 := 114) rfl ?_
  refine pm_iret rfl rfl rfl ?_
  simp only [va_up_self, va_up2, enIA, enSC]
  rw [sc_26 (by omega)]
  rfl
theorem r_enterX (hS : SC 20 2 = nI m) (hm : m ≤ 64) (hp : p ≤ 32 * m) (hD : SC 21 2 = nI dp) (hd : dp < 6) (hL : ∀ i, i < 7 → RA 22 i = some (26 + i)) (hI : ¬ SC (26 + dp) 0 = 0) (hE : pE (IA 33) m p = none) : ∃ q, q ≤ 32 * m ∧ pm_call (d + 11) 46 [.ref 20] (N, HR IA LA RA SC dr tl p fr) (.inr 0) (N, HR IA LA RA SC dr tl q fr) 1 6 := by
  unfold pE at hE
  cases h1 : gC (IA 33) m 6 p with
  | none =>
    obtain ⟨q, hq, hX⟩ := r_chunksX (d := d) (LA := LA) (RA := RA) (dr := dr) (tl := tl) (N := N) (fr := fr) (w := 6) (by omega) (by omega) hS hm hp h1
    refine ⟨q, hq, r_enter_pre hD hd hL hI ?_⟩
    refine pm_go 2 (pc1 := 33) rfl ?_
    exact pm_cX [.int (nI 6)] rfl rfl rfl rfl rfl rfl (Nat.le_refl _) (Nat.le_refl _) hX rfl rfl
  | some z =>
    obtain ⟨i, p1⟩ := z
    obtain ⟨b1, b2, b3⟩ := gC_b h1
    rw [h1] at hE
    dsimp only at hE
    cases h2 : gC (IA 33) m 4 p1 with
    | none =>
      obtain ⟨q, hq, hX⟩ := r_chunksX (d := d) (LA := LA) (RA := RA) (dr := dr) (tl := tl) (N := N) (fr := fr) (w := 4) (by omega) (by omega) hS hm b3 h2
      refine ⟨q, hq, r_enter_pre hD hd hL hI ?_⟩
      refine pm_go 2 (pc1 := 33) rfl ?_
      refine pm_cV [.int (nI 6)] rfl rfl rfl rfl rfl rfl (Nat.zero_le _) (Nat.zero_le _) (r_chunks (by omega) (by omega) hS hm hp h1) ?_
      refine pm_go 3 (pc1 := 39) rfl ?_
      exact pm_cX [.int (nI 4)] rfl rfl rfl rfl rfl rfl (Nat.le_refl _) (Nat.le_refl _) hX rfl rfl
    | some z =>
      obtain ⟨w, p2⟩ := z
      obtain ⟨c1, c2, c3⟩ := gC_b h2
      rw [h2] at hE
      dsimp only at hE
      have hpre : ∀ {r : pm_V} {h' : pm_H} {bc bs : Nat}, pm_X (pm_call (d + 10)) jm_46 4 (some .int) (d + 10) bc bs 48 [(2, .int (nI w)), (1, .int (nI i)), (0, .ref 20)] [.int (if (0 ≤ (nI i).toInt ∧ (nI i).toInt < 64) ∧ 2 ≤ (nI w).toInt ∧ (nI w).toInt ≤ 8 then 1 else 0)] 0 0 (N, HR IA LA RA SC dr tl p2 fr) r h' → pm_call (d + 11) 46 [.ref 20] (N, HR IA LA RA SC dr tl p fr) r h' bc bs := by
        intro r h' bc bs hk
        refine r_enter_pre hD hd hL hI ?_
        refine pm_go 2 (pc1 := 33) rfl ?_
        refine pm_cV [.int (nI 6)] rfl rfl rfl rfl rfl rfl (Nat.zero_le _) (Nat.zero_le _) (r_chunks (by omega) (by omega) hS hm hp h1) ?_
        refine pm_go 3 (pc1 := 39) rfl ?_
        refine pm_cV [.int (nI 4)] rfl rfl rfl rfl rfl rfl (Nat.zero_le _) (Nat.zero_le _) (r_chunks (by omega) (by omega) hS hm b3 h2) ?_
        refine pm_go 3 (pc1 := 45) rfl ?_
        refine pm_cS [.int (nI i), .int (nI w)] rfl rfl rfl rfl rfl (Nat.zero_le _) (Nat.zero_le _) c_isBlockHead ?_
        exact hk
      by_cases hh : i < 64 ∧ 2 ≤ w ∧ w ≤ 8
      · have hpre2 : ∀ {r : pm_V} {h' : pm_H} {bc bs : Nat}, pm_X (pm_call (d + 10)) jm_46 4 (some .int) (d + 10) bc bs 62 [(2, .int (nI w)), (1, .int (nI i)), (0, .ref 20)] [.ref 20] 0 0 (N, HR IA LA RA SC dr tl p2 fr) r h' → pm_call (d + 11) 46 [.ref 20] (N, HR IA LA RA SC dr tl p fr) r h' bc bs := by
          intro r h' bc bs hk
          refine hpre ?_
          rw [cw_ti (show i < 2 ^ 31 by omega), cw_ti (show w < 2 ^ 31 by omega), if_pos (by omega)]
          refine pm_if rfl (fun _ => ?_) (fun z => absurd (show ¬ (1 : Int32) = 0 by decide) z)
          exact pm_go 1 (pc1 := 62) rfl hk
        by_cases hz : rdN (IA 33) p2 (zN p2) = 0
        · rw [if_pos ⟨hh, hz⟩] at hE
          cases hl : gL (IA 33) m (p2 + zN p2) with
          | none =>
            obtain ⟨q, hq, hX⟩ := r_lenX (d := d) (LA := LA) (RA := RA) (dr := dr) (tl := tl) (N := N) (fr := fr) hS hm (zN_le c3) hl
            refine ⟨q, hq, hpre2 ?_⟩
            refine pm_cV [] rfl rfl rfl rfl rfl rfl (Nat.zero_le _) (Nat.zero_le _) (r_zeros hS hm c3 hz) ?_
            refine pm_go 1 (pc1 := 66) rfl ?_
            exact pm_cX [] rfl rfl rfl rfl rfl rfl (Nat.le_refl _) (Nat.le_refl _) hX rfl rfl
          | some z =>
            rw [hl] at hE
            cases hE
        · refine ⟨p2 + zN p2, zN_le c3, hpre2 ?_⟩
          exact pm_cX [] rfl rfl rfl rfl rfl rfl (Nat.le_refl _) (Nat.le_refl _) (r_zerosX hS hm c3 hz) rfl rfl
      · refine ⟨p2, c3, hpre ?_⟩
        rw [cw_ti c1, cw_ti b1, if_neg (by omega)]
        refine pm_if rfl (fun z => absurd rfl z) (fun _ => ?_)
        exact pm_thr rfl rfl (by omega) rfl (by decide) (by decide) rfl rfl
theorem r_leave_pre {r : pm_V} {h' : pm_H} {bc bs s : Nat} {ln : Int32} (hS : SC 20 2 = nI m) (hm : m ≤ 64) (hp : p ≤ 32 * m) (hd : dp < 6) (hz : rdN (IA 33) p (zN p) = 0) (hs : SC (26 + (dp + 1)) 3 = nI s) (hl : SC (26 + (dp + 1)) 4 = ln)
    (k : pm_X (pm_call (d + 10)) jm_47 2 (some .int) (d + 10) bc bs 20 [(0, .ref 20), (1, .ref (26 + (dp + 1)))] [.int ln, .int (nI ((p + zN p) / 32) - nI s)] 0 0 (N, HR IA LA RA SC dr tl (p + zN p) fr) r h') : pm_call (d + 11) 47 [.ref 20, .ref (26 + (dp + 1))] (N, HR IA LA RA SC dr tl p fr) r h' bc bs := by
  have hz2 := zN_le hp
  have hb : HR IA LA RA SC dr tl (p + zN p) fr (26 + (dp + 1)) = bkE (SC (26 + (dp + 1))) := by
    match dp, hd with
    | 0, _ => rfl
    | 1, _ => rfl
    | 2, _ => rfl
    | 3, _ => rfl
    | 4, _ => rfl
    | 5, _ => rfl
  refine pm_callX jm_47 [(0, .ref 20), (1, .ref (26 + (dp + 1)))] rfl rfl rfl ?_
  refine pm_go 1 (pc1 := 1) rfl ?_
  refine pm_cV [] rfl rfl rfl rfl rfl rfl (Nat.zero_le _) (Nat.zero_le _) (r_zeros hS hm hp hz) ?_
  refine pm_go 1 (pc1 := 5) rfl ?_
  refine pm_getf rfl rfl rfl ?_
  refine pm_nm (y := nI (p + zN p)) rfl ?_
  refine pm_go 2 (pc1 := 11) rfl ?_
  rw [cw_di (by omega)]
  refine pm_go 1 (pc1 := 12) rfl ?_
  refine pm_getf rfl hb rfl ?_
  refine pm_nm (y := nI s) hs ?_
  refine pm_go 2 (pc1 := 17) rfl ?_
  refine pm_getf rfl hb rfl ?_
  exact pm_nm (y := ln) hl k
def leIA (IA : Nat → Nat → Int32) (x : Int32) : Nat → Nat → Int32 := va_up IA 35 (upd (IA 35) 0 x)
def leSC (SC : Nat → Nat → Int32) (dp : Nat) : Nat → Nat → Int32 := va_up (va_up SC 21 (upd (SC 21) 2 (nI dp))) 20 (upd (SC 20) 7 1)
theorem r_leave {s : Nat} {ln : Int32} (hS : SC 20 2 = nI m) (hm : m ≤ 64) (hp : p ≤ 32 * m) (hD : SC 21 2 = nI (dp + 1)) (hd : dp < 6) (hL : ∀ i, i < 7 → RA 22 i = some (26 + i)) (hz : rdN (IA 33) p (zN p) = 0) (hs : SC (26 + (dp + 1)) 3 = nI s) (hl : SC (26 + (dp + 1)) 4 = ln) (he : nI ((p + zN p) / 32) - nI s = ln) :
    pm_call (d + 11) 47 [.ref 20, .ref (26 + (dp + 1))] (N, HR IA LA RA SC dr tl p fr) (.inl (some (.int 2))) (N, HC (leIA (va_up IA 34 fr) (SC (26 + (dp + 1)) 0)) LA RA (leSC (va_up SC 20 (upd (SC 20) 3 (nI (p + zN p)))) dp) dr tl) 0 0 := by
  have hQ := ns_HCr (IA := va_up IA 34 fr) (LA := LA) (dr := dr) (tl := tl) (RA := RA) (SC := va_up SC 20 (upd (SC 20) 3 (nI (p + zN p)))) (dp := dp + 1) hD (by omega) hL
  refine r_leave_pre hS hm hp hd hz hs hl ?_
  refine pm_icmp rfl (fun _ => ?_) (fun z => absurd he z)
  refine pm_go 1 (pc1 := 34) rfl ?_
  refine pm_getf rfl rfl rfl ?_
  refine pm_cV [] rfl rfl rfl rfl rfl rfl (Nat.zero_le _) (Nat.zero_le _) (c_pop hQ) ?_
  refine pm_hp (hs_21_2 ..) ?_
  refine pm_go 1 (pc1 := 41) rfl ?_
  refine pm_getf rfl rfl rfl ?_
  refine pm_go 2 (pc1 := 46) rfl ?_
  have hb : HC (va_up IA 34 fr) LA RA (va_up (va_up SC 20 (upd (SC 20) 3 (nI (p + zN p)))) 21 (upd ((va_up SC 20 (upd (SC 20) 3 (nI (p + zN p)))) 21) 2 (nI dp))) dr tl (26 + (dp + 1)) = bkE (SC (26 + (dp + 1))) := by
    match dp, hd with
    | 0, _ => rfl
    | 1, _ => rfl
    | 2, _ => rfl
    | 3, _ => rfl
    | 4, _ => rfl
    | 5, _ => rfl
  refine pm_getf rfl hb rfl ?_
  refine pm_iastU (j := 0) rfl rfl rfl (by omega) (hi_35 ..) ?_
  refine pm_go 2 (pc1 := 52) rfl ?_
  refine pm_putU rfl rfl rfl rfl (hs_20_7 ..) ?_
  refine pm_go 1 (pc1 := 56) rfl ?_
  exact pm_iret rfl rfl rfl rfl
theorem r_leaveX {s : Nat} {ln : Int32} (hS : SC 20 2 = nI m) (hm : m ≤ 64) (hp : p ≤ 32 * m) (hd : dp < 6) (hs : SC (26 + (dp + 1)) 3 = nI s) (hl : SC (26 + (dp + 1)) 4 = ln) (hX : ¬ (rdN (IA 33) p (zN p) = 0 ∧ nI ((p + zN p) / 32) - nI s = ln)) :
    pm_call (d + 11) 47 [.ref 20, .ref (26 + (dp + 1))] (N, HR IA LA RA SC dr tl p fr) (.inr 0) (N, HR IA LA RA SC dr tl (p + zN p) fr) 1 6 := by
  by_cases hz : rdN (IA 33) p (zN p) = 0
  · refine r_leave_pre hS hm hp hd hz hs hl ?_
    refine pm_icmp rfl (fun z => absurd ⟨hz, z⟩ hX) (fun _ => ?_)
    exact pm_thr rfl rfl (by omega) rfl (by decide) (by decide) rfl rfl
  · refine pm_callX jm_47 [(0, .ref 20), (1, .ref (26 + (dp + 1)))] rfl rfl rfl ?_
    refine pm_go 1 (pc1 := 1) rfl ?_
    exact pm_cX [] rfl rfl rfl rfl rfl rfl (Nat.le_refl _) (Nat.le_refl _) (r_zerosX hS hm hp hz) rfl rfl
end RE
