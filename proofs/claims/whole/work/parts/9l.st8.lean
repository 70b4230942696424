/-! STEPS: record, what is needed -/
section ST8
variable {T : Nat → Int32} {σ τ : (Nat → Int32) × Nat} {kk vv nu : Nat → Nat} {K V : Nat → Int32} {n S vc : Nat}
theorem fmR_iffW (hN : fmW K V n kk vv) : fmR K n ↔ rwN kk n := by
  constructor
  · intro h
    refine ⟨h.1, ?_⟩
    have h2 := h.2
    have h1 := h.1
    rw [(hN (n - 2) (by omega)).1] at h2
    exact (nI_eqI (b := 3) (by have := (hN (n - 2) (by omega)).2.2.1; omega) (by omega)).mp h2
  · intro h
    have h1 := h.1
    refine ⟨h.1, ?_⟩
    rw [(hN (n - 2) (by omega)).1, h.2]
    rfl
theorem fmS_sgW (hN : fmW K V n kk vv) : fmS K n = sgN kk n := by
  unfold fmS sgN
  by_cases h : rwN kk n
  · rw [if_pos h, if_pos ((fmR_iffW hN).mpr h)]
  · rw [if_neg h, if_neg (fun z => h ((fmR_iffW hN).mp z))]
theorem fmX_iff {k x : Nat} (hN : fmW K V n kk vv) (hk : k < n) (hx : x < 2 ^ 31) : fmX K V k (nI x) ↔ mtN (kk k) (vv k) x := by
  obtain ⟨e1, e2, e3, e4, e5, e6⟩ := hN k hk
  show ((K k = 0 → nI x = V k) ∧ (K k = 1 → ((nI x).toUInt32 >>> ((V k).toUInt32 &&& Int32.toUInt32 31)).toInt32 = 0)) ↔ _
  rw [e1]
  have a0 : nI (kk k) = 0 ↔ kk k = 0 := nI_eqI (b := 0) (by omega) (by omega)
  have a1 : nI (kk k) = 1 ↔ kk k = 1 := nI_eqI (b := 1) (by omega) (by omega)
  constructor
  · rintro ⟨h1, h2⟩
    refine ⟨fun z => ?_, fun z => ?_⟩
    · have := h1 (a0.mpr z)
      rw [e2 (by omega)] at this
      exact (nI_eqI hx e4).mp this
    · have := h2 (a1.mpr z)
      rw [e2 (by omega), ny_shr (by have := e5 z; omega) hx] at this
      exact (nI_eqI (b := 0) (Nat.lt_of_le_of_lt (Nat.div_le_self _ _) hx) (by omega)).mp this
  · rintro ⟨h1, h2⟩
    refine ⟨fun z => ?_, fun z => ?_⟩
    · have z := a0.mp z
      rw [e2 (by omega), h1 z]
    · have z := a1.mp z
      rw [e2 (by omega), ny_shr (by have := e5 z; omega) hx, h2 z]
      rfl
theorem fmFit_iff {W : Nat → Int32} (hN : fmW K V n kk vv) (h0 : 0 < n) (hv : vc ≤ 16) (hW : ∀ i, i < vc + 1 → W i = nI (nu i) ∧ nu i < 2 ^ 31) : fmFit K V n W 17 (vc + 1) ↔ fitN kk vv n nu (vc + 1) := by
  have hS := fmS_sgW hN
  have hSn : sgN kk n ≤ n := sgN_le
  have hI : ∀ k, fmI K n k = ixN kk n k := fun k => by unfold fmI ixN; rw [hS]
  have hix : ∀ k, ixN kk n k < n := fun k => by unfold ixN; split <;> omega
  constructor
  · rintro ⟨h1, h2, h3, h4⟩
    refine ⟨by rw [← hS]; exact h2, h3.imp (fun z => by rw [← hS]; exact z) (fmR_iffW hN).mp, fun k hk => ?_⟩
    have := h4 k hk
    rw [hI, (hW k hk).1] at this
    exact (fmX_iff hN (hix k) (hW k hk).2).mp this
  · rintro ⟨h2, h3, h4⟩
    refine ⟨by omega, by rw [hS]; exact h2, h3.imp (fun z => by rw [hS]; exact z) (fmR_iffW hN).mpr, fun k hk => ?_⟩
    rw [hI, (hW k hk).1]
    exact (fmX_iff hN (hix k) (hW k hk).2).mpr (h4 k hk)
theorem RP_B {k x : Nat} (h : RP T σ τ) (hB : fmB n kk vv) (hk : k < n) (hx : x < 2 ^ 31) (hm : mtN (kk k) (vv k) x) (hE : σ.2 + 93 ≤ 4096) : RP T (wB kk vv σ k x) (mB kk vv τ k x) := by
  obtain ⟨e3, e4, e5, e6⟩ := hB k hk
  unfold wB mB
  by_cases k1 : kk k = 1
  · rw [if_pos k1, if_pos k1]
    have hv := e5 k1
    refine RP_P h (by omega) ?_ (by omega)
    rcases Nat.div_eq_zero_iff.mp (hm.2 k1) with z | z
    · exact absurd z (Nat.ne_of_gt (Nat.two_pow_pos _))
    · exact z
  · rw [if_neg k1, if_neg k1]
    by_cases k2 : kk k = 2
    · rw [if_pos k2, if_pos k2]
      exact RP_C h hx (e6 k2).1 (e6 k2).2 hE
    · rw [if_neg k2, if_neg k2]
      exact h
theorem wB_endB {k x : Nat} (hB : fmB n kk vv) (hk : k < n) (hx : x < 2 ^ 31) : (wB kk vv σ k x).2 ≤ σ.2 + 93 := by
  obtain ⟨e3, e4, e5, e6⟩ := hB k hk
  unfold wB
  split
  · rename_i e
    have : (wP σ (nI x) (vv k)).2 = σ.2 + vv k := rfl
    have := e5 e
    omega
  · split
    · rename_i e
      exact wC_end hx (e6 e).1 (e6 e).2
    · omega
theorem RP_Sk (h : RP T σ τ) (hB : fmB n kk vv) (hS : S ≤ n) (hnu : ∀ i, i < S → nu i < 2 ^ 31 ∧ mtN (kk i) (vv i) (nu i)) (hE : σ.2 + 93 * S ≤ 4096) : ∀ k, k ≤ S → RP T (wSk kk vv σ nu k) (mSk kk vv τ nu k) ∧ (wSk kk vv σ nu k).2 ≤ σ.2 + 93 * k
  | 0, _ => ⟨h, Nat.le_refl _⟩
  | k + 1, hk => by
    obtain ⟨h1, h2⟩ := RP_Sk h hB hS hnu hE k (by omega)
    have h3 := wB_endB (σ := wSk kk vv σ nu k) hB (show k < n by omega) (hnu k (by omega)).1
    refine ⟨RP_B h1 hB (by omega) (hnu k (by omega)).1 (hnu k (by omega)).2 (by omega), ?_⟩
    show (wB kk vv (wSk kk vv σ nu k) k (nu k)).2 ≤ _
    omega
theorem RP_Rk {l : Nat} (h : RP T σ τ) (hB : fmB n kk vv) (h0 : 0 < n) (hnu : ∀ i, i < l → nu (S + i) < 2 ^ 31 ∧ mtN (kk (n - 1)) (vv (n - 1)) (nu (S + i))) (hE : σ.2 + 93 * l ≤ 4096) : ∀ k, k ≤ l → RP T (wRk kk vv (n - 1) S σ nu k) (mRk kk vv (n - 1) S τ nu k) ∧ (wRk kk vv (n - 1) S σ nu k).2 ≤ σ.2 + 93 * k
  | 0, _ => ⟨h, Nat.le_refl _⟩
  | k + 1, hk => by
    obtain ⟨h1, h2⟩ := RP_Rk h hB h0 hnu hE k (by omega)
    have h3 := wB_endB (σ := wRk kk vv (n - 1) S σ nu k) hB (show n - 1 < n by omega) (hnu k (by omega)).1
    refine ⟨RP_B h1 hB (by omega) (hnu k (by omega)).1 (hnu k (by omega)).2 (by omega), ?_⟩
    show (wB kk vv (wRk kk vv (n - 1) S σ nu k) (n - 1) (nu (S + k))).2 ≤ _
    omega
theorem RP_F (h : RP T σ τ) (hN : fmW K V n kk vv) (hB : fmB n kk vv) (h0 : 0 < n) (hn : n ≤ 8) (hv : vc ≤ 16) (hnu : ∀ i, i < vc + 1 → nu i < 2 ^ 31) (hf : fitN kk vv n nu (vc + 1)) (hE : σ.2 ≤ 2100) : RP T (wF K n kk vv σ nu (vc + 1)) (mF n kk vv τ nu (vc + 1)) := by
  obtain ⟨f1, f2, f3⟩ := hf
  have hSn : sgN kk n ≤ n := sgN_le
  obtain ⟨a1, a2⟩ := RP_Sk h hB hSn (fun i hi => ⟨hnu i (by omega), by have := f3 i (by omega); unfold ixN at this; rw [if_pos hi] at this; exact this⟩) (by omega) (sgN kk n) (Nat.le_refl _)
  unfold wF mF
  rw [fmS_sgW hN]
  by_cases hR : rwN kk n
  · rw [if_pos hR, if_pos ((fmR_iffW hN).mpr hR)]
    have b1 := RP_C a1 (x := vc + 1 - sgN kk n) (w := 6) (by omega) (by omega) (by omega) (by omega)
    have b2 := wC_end (σ := wSk kk vv σ nu (sgN kk n)) (x := vc + 1 - sgN kk n) (w := 6) (by omega) (by omega) (by omega)
    exact (RP_Rk b1 hB h0 (fun i hi => ⟨hnu _ (by omega), by have := f3 (sgN kk n + i) (by omega); unfold ixN at this; rw [if_neg (by omega)] at this; exact this⟩) (by omega) (vc + 1 - sgN kk n) (Nat.le_refl _)).1
  · rw [if_neg hR, if_neg (fun z => hR ((fmR_iffW hN).mp z))]
    exact a1
theorem RP_Pk (h : RP T σ τ) (hv : vc ≤ 16) (hnu : ∀ i, i < vc + 1 → nu i < 2 ^ 31) (hE : σ.2 ≤ 2500) : ∀ k, k ≤ vc → RP T (wPk σ nu k) (mPk τ nu k) ∧ (wPk σ nu k).2 ≤ σ.2 + 93 * k
  | 0, _ => ⟨h, Nat.le_refl _⟩
  | k + 1, hk => by
    obtain ⟨h1, h2⟩ := RP_Pk h hv hnu hE k (by omega)
    have h3 := wC_end (σ := wPk σ nu k) (x := nu (k + 1)) (w := 6) (hnu _ (by omega)) (by omega) (by omega)
    refine ⟨RP_C h1 (hnu _ (by omega)) (by omega) (by omega) (by omega), ?_⟩
    show (wC (wPk σ nu k) (nu (k + 1)) 6).2 ≤ _
    omega
theorem RP_Pl (h : RP T σ τ) (hv : vc ≤ 16) (hnu : ∀ i, i < vc + 1 → nu i < 2 ^ 31) (hE : σ.2 ≤ 2100) : RP T (wPl σ nu (vc + 1)) (mPl τ nu (vc + 1)) := by
  have a1 := RP_C h (hnu 0 (by omega)) (w := 6) (by omega) (by omega) (by omega)
  have a2 := wC_end (σ := σ) (x := nu 0) (w := 6) (hnu 0 (by omega)) (by omega) (by omega)
  have b1 := RP_C a1 (x := vc) (w := 6) (by omega) (by omega) (by omega) (by omega)
  have b2 := wC_end (σ := wC σ (nu 0) 6) (x := vc) (w := 6) (by omega) (by omega) (by omega)
  exact (RP_Pk b1 hv hnu (by omega) vc (Nat.le_refl _)).1
theorem nmT_iff {W : Nat → Int32} (hv : vc ≤ 16) (hW : ∀ i, i < vc + 1 → W i = nI (nu i) ∧ nu i < 2 ^ 31) : nmT W (vc + 1) ↔ plN nu vc := by
  constructor
  · rintro ⟨h1, h2, h3, h4⟩
    have hv1 : vc = 1 := by omega
    subst hv1
    obtain ⟨a1, a2⟩ := hW 0 (by omega)
    obtain ⟨b1, b2⟩ := hW 1 (by omega)
    rw [a1] at h2
    rw [b1, nI_toInt b2] at h3 h4
    exact ⟨(nI_eqI (b := 1) a2 (by omega)).mp h2, rfl, by omega, by omega⟩
  · rintro ⟨h1, h2, h3, h4⟩
    subst h2
    obtain ⟨a1, a2⟩ := hW 0 (by omega)
    obtain ⟨b1, b2⟩ := hW 1 (by omega)
    refine ⟨rfl, by rw [a1, h1]; rfl, ?_, ?_⟩
    · rw [b1, nI_toInt b2]; omega
    · rw [b1, nI_toInt b2]; omega
end ST8
section ST8b
variable {IA : Nat → Nat → Int32} {LA : Nat → Nat → Int64} {RA : Nat → Nat → Option Nat} {SC : Nat → Nat → Int32} {dr : Nat} {tl : Nat → va_E} {N E dp pl : Nat}
theorem RR_c19 {cc : Nat} (h : RR IA LA RA SC dr tl N) : RR (IAc IA cc) LA RA SC dr tl N := by
  obtain ⟨h1, h2, h3, h4, ⟨vc, nu, v1, v2, v3, v4⟩, ⟨E, dp, pl, h6⟩, m, dp2, pl2, b, p, sc, h7⟩ := h
  exact ⟨h1, h2, h3, h4, ⟨vc, nu, v1, v2, v3, fun j hj => v4 j hj⟩, ⟨E, dp, pl, WrR_congr h6 rfl rfl rfl (fun _ _ => rfl) rfl rfl rfl rfl (fun _ _ => rfl) (AgS_eq (fun k k1 k2 => va_up_ne _ _ (by omega))) (fun _ _ z => z)⟩, m, dp2, pl2, b, p, sc, RdR_congr h7 rfl rfl rfl (fun _ _ => rfl) rfl rfl rfl rfl rfl rfl rfl rfl rfl (fun _ _ => rfl) (AgS_eq (fun k k1 k2 => va_up_ne _ _ (by omega))) (fun _ _ z => z)⟩
theorem RR_rec {IAr SCr : Nat → Nat → Int32} {σ1 τ1 : (Nat → Int32) × Nat} {w m dp2 pl2 b p sc : Nat} (h1 : 56 ≤ N) (h2 : ∀ i, i < 7 → RA 5 i = some (9 + i)) (h3 : ∀ i, i < 7 → RA 22 i = some (26 + i)) (h4 : DrR tl dr N (SC 36 16) (LA 51)) (hW : WrR IA LA RA SC dr tl N E (dp + 1) pl) (h7 : RdR IA LA RA SC dr tl N m dp2 pl2 b p sc) (hw : IA 41 (dp + 1) = nI w) (hw8 : w ≤ 8)
    (tg : (SCr (9 + (dp + 1)) = SC (9 + (dp + 1)) ∧ IAr 43 = IA 43) ∨ ∃ t9, t9 < 64 ∧ SCr (9 + (dp + 1)) = upd (SC (9 + (dp + 1))) 2 (nI t9) ∧ IAr 43 = upd (IA 43) (dp + 1) (nI t9)) (hI : ∀ k, k ≠ 3 → k ≠ 19 → k ≠ 43 → IAr k = IA k) (i3 : IAr 3 = σ1.1) (hS : ∀ k, k ≠ 1 → k ≠ 9 + (dp + 1) → SCr k = SC k) (s14 : SCr 1 4 = 1) (hrp : RP (IA 37) σ1 τ1) (hge : E ≤ σ1.2) (hR : (σ1.2 + w + 31) / 32 + dp ≤ 64) :
    RR (va_up (va_up IAr 37 τ1.1) 38 (upd (IAr 38) 0 (nI τ1.2))) LA RA (va_up (thr (va_up SCr 2 (upd (SCr 2) 1 (nI σ1.2))) 0) 36 (upd (thr (va_up SCr 2 (upd (SCr 2) 1 (nI σ1.2))) 0 36) 18 0)) dr tl N := by
  obtain ⟨w1, w2, w3, w4, w5, w6, w7, w8, w9, w10⟩ := hW
  have hE1 := hrp.1
  have hd := w10.1
  have hSC : ∀ i, i ≠ 36 → i ≠ 2 → va_up (thr (va_up SCr 2 (upd (SCr 2) 1 (nI σ1.2))) 0) 36 (upd (thr (va_up SCr 2 (upd (SCr 2) 1 (nI σ1.2))) 0 36) 18 0) i = SCr i := fun i h36 hi2 => (va_up_ne _ _ h36).trans ((thr_ne h36).trans (va_up_ne _ _ hi2))
  have e36 : SCr 36 = SC 36 := hS 36 (by omega) (by omega)
  have e38 := hI 38 (by omega) (by omega) (by omega)
  have e49 : IAr 49 = IA 49 := hI 49 (by omega) (by omega) (by omega)
  have e50 : IAr 50 = IA 50 := hI 50 (by omega) (by omega) (by omega)
  have eF : ∀ j, j ≠ 21 → j ≠ 18 → va_up (thr (va_up SCr 2 (upd (SCr 2) 1 (nI σ1.2))) 0) 36 (upd (thr (va_up SCr 2 (upd (SCr 2) 1 (nI σ1.2))) 0 36) 18 0) 36 j = SC 36 j := fun j j1 j2 => by
    show upd (upd (SCr 36) 21 0) 18 0 j = _
    rw [upd_ne j2, upd_ne j1, e36]
  refine ⟨h1, h2, h3, ?_, ⟨0, fun _ => 0, by omega, by rw [hSC 1 (by omega) (by omega)]; exact s14, rfl, fun j hj => absurd hj (by omega)⟩, ⟨σ1.2, dp + 1, pl, ?_⟩, m, dp2, pl2, b, p, sc, ?_⟩
  · rw [eF 16 (by omega) (by omega)]
    exact h4
  · refine ⟨rfl, congrArg nI hE1, by omega, ?_, ?_, fun z => absurd z (by omega), ?_, by omega, fun w9 hd9 hw9 hw98 => ?_, ?_⟩
    · show RS (IAr 3) τ1.1 σ1.2
      rw [i3]
      exact hrp.2.1
    · rw [hSC 4 (by omega) (by omega), hS 4 (by omega) (by omega)]
      exact w5
    · show IAr 50 0 = _
      rw [e50]
      exact w7
    · have hw9 : IAr 41 (dp + 1) = nI w9 := hw9
      rw [hI 41 (by omega) (by omega) (by omega)] at hw9
      have := (nI_eqI (by omega) (by omega)).mp (hw.symm.trans hw9)
      subst this
      omega
    · show SdR 0 (dp + 1) (IAr 8) (RA 7) _ _ (Gd fmW (IAr 49) (LA 48) tl N dr 0 pl) _
      rw [hI 8 (by omega) (by omega) (by omega), e49]
      rcases tg with ⟨t1, t2⟩ | ⟨t9, t0, t1, t2⟩
      · refine SdR_congr w10 rfl rfl (fun i hi => ?_) (AgS_eq (fun k k1 k2 => ?_)) (fun _ _ z => z) (fun _ _ _ _ z => Nat.le_trans z hge)
        · rw [hSC _ (by omega) (by omega)]
          by_cases e : i = dp + 1
          · subst e; exact t1
          · exact hS _ (by omega) (by omega)
        · rw [va_up_ne _ _ (by omega), va_up_ne _ _ (by omega)]
          by_cases e : k = 43
          · subst e; exact t2
          · exact hI k (by omega) (by omega) e
      · have ht := SdR_tgt (s := 0) (t9 := t9) (B' := fun i => va_up (thr (va_up SCr 2 (upd (SCr 2) 1 (nI σ1.2))) 0) 36 (upd (thr (va_up SCr 2 (upd (SCr 2) 1 (nI σ1.2))) 0 36) 18 0) (9 + i)) (IA' := va_up (va_up IAr 37 τ1.1) 38 (upd (IAr 38) 0 (nI τ1.2))) (by omega) w10 (by omega) t0 (fun j hj => ?_) ?_ (fun k k1 k2 k3 => ?_)
        · exact SdR_congr ht rfl rfl (fun _ _ => rfl) (AgS_eq (fun _ _ _ => rfl)) (fun _ _ z => z) (fun _ _ _ _ z => Nat.le_trans z hge)
        · rw [hSC _ (by omega) (by omega)]
          by_cases e : j = dp + 1
          · subst e; rw [if_pos rfl]; exact t1
          · rw [if_neg e]; exact hS _ (by omega) (by omega)
        · rw [Nat.mul_zero, Nat.zero_add]
          exact t2
        · rw [va_up_ne _ _ (by omega), va_up_ne _ _ (by omega)]
          exact hI k (by omega) (by omega) k3
  · refine RdR_congr h7 ?_ (eF 2 (by omega) (by omega)) (hI 33 (by omega) (by omega) (by omega)) hrp.2.2 ?_ (eF 20 (by omega) (by omega)) ?_ ?_ (eF 22 (by omega) (by omega)) (hI 35 (by omega) (by omega) (by omega)) (hI 53 (by omega) (by omega) (by omega)) (hI 25 (by omega) (by omega) (by omega)) rfl (fun i hi => ?_) ?_ (fun y f z => ?_)
    · rw [hSC 20 (by omega) (by omega), hS 20 (by omega) (by omega)]
    · rw [hSC 21 (by omega) (by omega), hS 21 (by omega) (by omega)]
    · show IAr 50 1 = _
      rw [e50]
    · show IAr 38 1 = _
      rw [e38]
    · rw [hSC _ (by omega) (by omega), hS _ (by omega) (by omega)]
    · have q := fun k k1 k2 => hI k k1 k2
      refine ⟨congrFun (hI 39 (by omega) (by omega) (by omega)) _, fun i hi => ⟨congrFun (hI 40 (by omega) (by omega) (by omega)) _, congrFun (hI 41 (by omega) (by omega) (by omega)) _, congrFun (hI 42 (by omega) (by omega) (by omega)) _, ?_, congrFun (hI 44 (by omega) (by omega) (by omega)) _, fun j hj => congrFun (hI 45 (by omega) (by omega) (by omega)) _⟩, fun i hi => ⟨congrFun (hI 46 (by omega) (by omega) (by omega)) _, fun j hj => congrFun (hI 47 (by omega) (by omega) (by omega)) _⟩⟩
      show IAr 43 (7 * 1 + i) = _
      rcases tg with ⟨t1, t2⟩ | ⟨t9, t0, t1, t2⟩
      · rw [t2]
      · rw [t2, upd_ne (by omega)]
    · show Gd fmN (IAr 49) _ _ _ _ _ _ _ _
      rw [e49]
      exact z
end ST8b
