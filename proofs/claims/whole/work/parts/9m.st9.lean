/-! STEPS: record -/
section ST9
variable {h : pm_H}
theorem RR_rec2 {IA : Nat → Nat → Int32} {LA : Nat → Nat → Int64} {RA : Nat → Nat → Option Nat} {SC : Nat → Nat → Int32} {dr : Nat} {tl : Nat → va_E} {N E dp pl : Nat} {σ1 τ1 : (Nat → Int32) × Nat} {cc id w m dp2 pl2 b p sc : Nat} (h1 : 56 ≤ N) (h2 : ∀ i, i < 7 → RA 5 i = some (9 + i)) (h3 : ∀ i, i < 7 → RA 22 i = some (26 + i)) (h4 : DrR tl dr N (SC 36 16) (LA 51)) (hW : WrR IA LA RA SC dr tl N E (dp + 1) pl) (h7 : RdR IA LA RA SC dr tl N m dp2 pl2 b p sc) (hw : IA 41 (dp + 1) = nI w) (hw8 : w ≤ 8) (hid0 : SC (9 + (dp + 1)) 0 = 0 ↔ id = 0) (hid1 : IA 40 (dp + 1) = 0 ↔ id = 0) (ht : id = 0 → ∃ t9, t9 < 64 ∧ IAc IA cc 19 1 = nI t9 ∧ IA 52 0 = nI t9) (hrp : RP (IA 37) σ1 τ1) (hge : E ≤ σ1.2) (hR : (σ1.2 + w + 31) / 32 + dp ≤ 64) :
    RR (va_up (va_up (rcM (va_up (IAc IA cc) 3 σ1.1) dp) 37 τ1.1) 38 (upd (rcM (va_up (IAc IA cc) 3 σ1.1) dp 38) 0 (nI τ1.2))) LA RA (va_up (thr (va_up (va_up (if SC (9 + (dp + 1)) 0 = 0 then va_up SC (9 + (dp + 1)) (upd (SC (9 + (dp + 1))) 2 (IAc IA cc 19 1)) else SC) 1 (upd (SC 1) 4 1)) 2 (upd ((va_up (if SC (9 + (dp + 1)) 0 = 0 then va_up SC (9 + (dp + 1)) (upd (SC (9 + (dp + 1))) 2 (IAc IA cc 19 1)) else SC) 1 (upd (SC 1) 4 1)) 2) 1 (nI σ1.2))) 0) 36 (upd (thr (va_up (va_up (if SC (9 + (dp + 1)) 0 = 0 then va_up SC (9 + (dp + 1)) (upd (SC (9 + (dp + 1))) 2 (IAc IA cc 19 1)) else SC) 1 (upd (SC 1) 4 1)) 2 (upd ((va_up (if SC (9 + (dp + 1)) 0 = 0 then va_up SC (9 + (dp + 1)) (upd (SC (9 + (dp + 1))) 2 (IAc IA cc 19 1)) else SC) 1 (upd (SC 1) 4 1)) 2) 1 (nI σ1.2))) 0 36) 18 0)) dr tl N := by
  by_cases hid : id = 0
  · obtain ⟨t9, t0, t1, t2⟩ := ht hid
    have er : rcM (va_up (IAc IA cc) 3 σ1.1) dp = va_up (va_up (IAc IA cc) 3 σ1.1) 43 (upd (IA 43) (dp + 1) (IA 52 0)) := by
      unfold rcM
      rw [if_pos (show va_up (IAc IA cc) 3 σ1.1 40 (dp + 1) = 0 from hid1.mpr hid)]
      rfl
    rw [er, if_pos (hid0.mpr hid)]
    refine RR_rec h1 h2 h3 h4 hW h7 hw hw8 (Or.inr ⟨t9, t0, ?_, ?_⟩) (fun k k3 k19 k43 => ?_) rfl (fun k k1 k9 => ?_) rfl hrp hge hR
    · rw [va_up_ne _ _ (by omega), va_up_self, t1]
    · rw [va_up_self, t2]
    · exact (va_up_ne _ _ k43).trans ((va_up_ne _ _ k3).trans (va_up_ne _ _ k19))
    · exact (va_up_ne _ _ k1).trans (va_up_ne _ _ k9)
  · have er : rcM (va_up (IAc IA cc) 3 σ1.1) dp = va_up (IAc IA cc) 3 σ1.1 := by
      unfold rcM
      rw [if_neg (show ¬ va_up (IAc IA cc) 3 σ1.1 40 (dp + 1) = 0 from fun z => hid (hid1.mp z))]
    rw [er, if_neg (fun z => hid (hid0.mp z))]
    refine RR_rec h1 h2 h3 h4 hW h7 hw hw8 (Or.inl ⟨va_up_ne _ _ (by omega), rfl⟩) (fun k k3 k19 k43 => ?_) rfl (fun k k1 k9 => va_up_ne _ _ k1) rfl hrp hge hR
    exact (va_up_ne _ _ k3).trans (va_up_ne _ _ k19)
theorem RR_rec5 {IA : Nat → Nat → Int32} {LA : Nat → Nat → Int64} {RA : Nat → Nat → Option Nat} {SC : Nat → Nat → Int32} {dr : Nat} {tl : Nat → va_E} {N E dp pl : Nat} {σ1 τ1 : (Nat → Int32) × Nat} {cc m dp2 pl2 b p sc : Nat} (h1 : 56 ≤ N) (h2 : ∀ i, i < 7 → RA 5 i = some (9 + i)) (h3 : ∀ i, i < 7 → RA 22 i = some (26 + i)) (h4 : DrR tl dr N (SC 36 16) (LA 51)) (h5 : VaR (SC 1 4) (IA 19) (SC 36 18) (IA 52)) (hW : WrR IA LA RA SC dr tl N E (dp + 1) pl) (h7 : RdR IA LA RA SC dr tl N m dp2 pl2 b p sc) (hrp : RP (IA 37) σ1 τ1) (hge : E ≤ σ1.2) (hle : σ1.2 ≤ 4096) :
    RR (va_up (va_up (va_up (IAc IA cc) 3 (cw_cut σ1.1 E)) 37 (md_cl τ1.1 E (τ1.2 - E))) 38 (upd (IA 38) 0 (nI E))) LA RA (thr (va_up SC 2 (upd (SC 2) 1 (nI E))) 0) dr tl N := by
  have hcut := RP_cut hrp hge hle
  have hd := hW.2.2.2.2.2.2.2.2.2.1
  refine RR_wcut h1 h2 h3 h4 h5 hW h7 hcut.2.1 hcut.2.2 rfl rfl (fun k k3 k19 k37 k38 hk => ?_) (AgD_of (AgS_eq (fun k k1 k2 => ?_)) hd) (AgS_eq (fun k k1 k2 => ?_)) (fun _ => rfl) rfl (fun _ _ => rfl) (fun k k1 k2 => (thr_ne k1).trans (va_up_ne _ _ k2)) rfl (fun j hj => upd_ne hj)
  · exact (va_up_ne _ _ k38).trans ((va_up_ne _ _ k37).trans ((va_up_ne _ _ k3).trans (va_up_ne _ _ k19)))
  · exact (va_up_ne _ _ (by omega)).trans ((va_up_ne _ _ (by omega)).trans ((va_up_ne _ _ (by omega)).trans (va_up_ne _ _ (by omega))))
  · exact (va_up_ne _ _ (by omega)).trans ((va_up_ne _ _ (by omega)).trans ((va_up_ne _ _ (by omega)).trans (va_up_ne _ _ (by omega))))
theorem s_record (hs : St h) (cv xv : Int32) : Duo h 82 126 [.int cv, .int xv] isI := by
  obtain ⟨IA, LA, RA, SC, dr, tl, N, rfl, hR⟩ := hs
  have hR0 := hR
  obtain ⟨h1, h2, h3, h4, h5, ⟨E, dp, pl, hW⟩, m, dp2, pl2, b, p, sc, h7⟩ := hR
  have hW0 := hW
  obtain ⟨w1, w2, w3, w4, w5, w6, w7, w8, w9, w10⟩ := hW0
  have hHW := HW_self (IA := IA) (LA := LA) (RA := RA) (dr := dr) (tl := tl) w1
  have hHP : ∀ (IA1 SC1 : Nat → Nat → Int32), IA1 37 = IA 37 → IA1 38 0 = nI E → HP IA1 LA RA SC1 dr tl (IA 37, E) = HC IA1 LA RA SC1 dr tl := fun IA1 SC1 e z => by rw [← e]; exact HP_self z
  cases dp with
  | zero =>
    have hc := c_rec1 (d := 13) (IA := IA) (LA := LA) (RA := RA) (SC := SC) (dr := dr) (tl := tl) (N := N) (σ := (IA 3, E)) (c := cv) (x := xv) w5
    rw [hHW] at hc
    have hm := m_rec1 (d := 14) (IA := IA) (LA := LA) (RA := RA) (SC := SC) (dr := dr) (tl := tl) (N := N) (τ := (IA 37, E)) (cv := cv) (xv := xv) w10.2.1
    rw [hHP IA _ rfl w2, hHP IA _ rfl w2] at hm
    exact ⟨_, _, _, 0, 0, b_record hc, hm, ⟨_, _, _, _, _, _, _, rfl, RR_thr hR0⟩, by omega, by omega, _, rfl⟩
  | succ dp =>
    have hd := w10.1
    have hD := w10.2.1
    by_cases hcv : cv < 0
    · have hc := c_rec1c (d := 13) (IA := IA) (LA := LA) (RA := RA) (SC := SC) (dr := dr) (tl := tl) (N := N) (σ := (IA 3, E)) (c := cv) (x := xv) w5 hd hcv
      rw [hHW] at hc
      have hm := m_rec1c (d := 14) (IA := IA) (LA := LA) (RA := RA) (SC := SC) (dr := dr) (tl := tl) (N := N) (τ := (IA 37, E)) (cv := cv) (xv := xv) hD hd hcv
      rw [hHP IA _ rfl w2, hHP IA _ rfl w2] at hm
      exact ⟨_, _, _, 0, 0, b_record hc, hm, ⟨_, _, _, _, _, _, _, rfl, RR_thr hR0⟩, by omega, by omega, _, rfl⟩
    · obtain ⟨cc, hcc, e⟩ : ∃ k, k < 2 ^ 31 ∧ cv = nI k := ⟨cv.toInt.toNat, by have := Int32.toInt_lt cv; omega, i32_nat (Int.not_lt.mp (fun z => hcv (i32_lt0.mpr z)))⟩
      subst e
      obtain ⟨id, w, t, c, st, ⟨p1, p2, p3⟩, ⟨q1, q2, q3, q4⟩, ⟨u1, u2, u3⟩, -, e1, e2⟩ := w10.2.2.2.2.2 (dp + 1) (by omega) (Nat.le_refl _)
      rw [Nat.mul_zero, Nat.zero_add] at p3 q4 u3
      have p1 : SC (9 + (dp + 1)) 0 = nI id := p1
      have q1 : SC (9 + (dp + 1)) 1 = nI w := q1
      obtain ⟨c1, c2, c3, c4⟩ := e2
      rw [Nat.mul_zero, Nat.zero_add] at c3
      have hwd := SdR_wd w10
      have hid0 : SC (9 + (dp + 1)) 0 = 0 ↔ id = 0 := by rw [p1]; exact nI_eqI (b := 0) (by omega) (by omega)
      have hid1 : IA 40 (dp + 1) = 0 ↔ id = 0 := by rw [p3]; exact nI_eqI (b := 0) (by omega) (by omega)
      obtain ⟨vc, nu0, v1, v2, v3, v4⟩ := h5
      obtain ⟨nu, hn0, hnS⟩ : ∃ nu : Nat → Nat, nu 0 = cc ∧ ∀ j, nu (j + 1) = nu0 j := ⟨fun j => match j with | 0 => cc | j + 1 => nu0 j, rfl, fun _ => rfl⟩
      have hnu : ∀ i, i < vc + 1 → IAc IA cc 19 i = nI (nu i) ∧ nu i < 2 ^ 31 := by
        intro i hi
        cases i with
        | zero => rw [hn0]; exact ⟨rfl, hcc⟩
        | succ j => rw [hnS]; exact ⟨(v4 j (by omega)).1, (v4 j (by omega)).2.2⟩
      have hU : nuAt (IAc IA cc) SC (vc + 1) nu := ⟨v2, by omega, by omega, hnu⟩
      have hUM : ∀ IA1 SC1 : Nat → Nat → Int32, IA1 52 = IA 52 → SC1 36 18 = SC 36 18 → nuM IA1 SC1 vc nu := fun IA1 SC1 z1 z2 => ⟨z2.trans v3, v1, by rw [hn0]; exact hcc, fun j hj => by rw [z1, hnS]; exact (v4 j hj).2⟩
      have hnub : ∀ i, i < vc + 1 → nu i < 2 ^ 31 := fun i hi => (hnu i hi).2
      have h5' : VaR (SC 1 4) (IA 19) (SC 36 18) (IA 52) := ⟨vc, nu0, v1, v2, v3, v4⟩
      by_cases hx2 : xv = 2
      · subst hx2
        have hMi : (SC (9 + (dp + 1)) 0 = 0 → nmT (IAc IA cc 19) (vc + 1)) ↔ (IA 40 (dp + 1) = 0 → plN nu vc) := by
          rw [hid0, hid1, nmT_iff v1 hnu]
        by_cases hM : SC (9 + (dp + 1)) 0 = 0 → nmT (IAc IA cc 19) (vc + 1)
        · have hM2 := hMi.mp hM
          have hb := wPl_b (σ := wP (IA 3, E) 2 w) (nu := nu) (tot := vc + 1) (by omega) (by omega) hnub
          have hbE : (wP (IA 3, E) 2 w).2 = E + w := rfl
          have hrp : RP (IA 37) (wPl (wP (IA 3, E) 2 w) nu (vc + 1)) (mPl (mP (IA 37, E) (nI 2) w) nu (vc + 1)) := RP_Pl (RP_P (y := 2) (RP_self w4) (by omega) (Nat.lt_of_lt_of_le (show 2 < 2 ^ 2 by decide) (Nat.pow_le_pow_right (by omega) q2)) (by show E + w ≤ _; omega)) v1 hnub (by show E + w ≤ _; omega)
          generalize hσ : wPl (wP (IA 3, E) 2 w) nu (vc + 1) = σ1 at hb hrp
          generalize hτ : mPl (mP (IA 37, E) (nI 2) w) nu (vc + 1) = τ1 at hrp
          have hE1 := hrp.1
          have hif36 : (if SC (9 + (dp + 1)) 0 = 0 then va_up SC (9 + (dp + 1)) (upd (SC (9 + (dp + 1))) 2 (IAc IA cc 19 1)) else SC) 36 18 = SC 36 18 := by
            split
            · rw [va_up_ne _ _ (by omega)]
            · rfl
          by_cases hRm : (σ1.2 + w + 31) / 32 + dp ≤ 64
          · have hc := c_recP0 (d := 8) (IA := IA) (LA := LA) (RA := RA) (dr := dr) (tl := tl) (N := N) (σ := (IA 3, E)) w5 hd h2 hcc c2 c1 hU hM q1 q3 w3 (by rw [hσ]; exact hRm)
            rw [hHW, hσ] at hc
            have hk := m_rec_t0 (d := 13) (IA := va_up (IAc IA cc) 3 σ1.1) (LA := LA) (RA := RA) (SC := thr (va_up (va_up (if SC (9 + (dp + 1)) 0 = 0 then va_up SC (9 + (dp + 1)) (upd (SC (9 + (dp + 1))) 2 (IAc IA cc 19 1)) else SC) 1 (upd (SC 1) 4 1)) 2 (upd ((va_up (if SC (9 + (dp + 1)) 0 = 0 then va_up SC (9 + (dp + 1)) (upd (SC (9 + (dp + 1))) 2 (IAc IA cc 19 1)) else SC) 1 (upd (SC 1) 4 1)) 2) 1 (nI σ1.2))) 0) (dr := dr) (tl := tl) (N := N) (τ1 := τ1) (E := E) hD hd hwd q4 q3 (by omega) (by omega) (by rw [hE1]; exact hRm)
            have hm := m_rec_P228 (d := 10) (IA := va_up (IAc IA cc) 3 σ1.1) (LA := LA) (RA := RA) (SC := va_up (va_up (if SC (9 + (dp + 1)) 0 = 0 then va_up SC (9 + (dp + 1)) (upd (SC (9 + (dp + 1))) 2 (IAc IA cc 19 1)) else SC) 1 (upd (SC 1) 4 1)) 2 (upd ((va_up (if SC (9 + (dp + 1)) 0 = 0 then va_up SC (9 + (dp + 1)) (upd (SC (9 + (dp + 1))) 2 (IAc IA cc 19 1)) else SC) 1 (upd (SC 1) 4 1)) 2) 1 (nI σ1.2))) (dr := dr) (tl := tl) (N := N) (τ := (IA 37, E)) hD hd hcc hn0 q4 q2 q3 (hUM _ _ rfl hif36) hM2 w3 (by rw [hτ]; exact hk)
            have hRR := RR_rec2 (cc := cc) h1 h2 h3 h4 hW h7 q4 q3 hid0 hid1 (fun z => ⟨nu 1, by have := (hM2 (hid1.mpr z)).2.2.2; omega, (hnu 1 (by have := (hM2 (hid1.mpr z)).2.1; omega)).1, by have := (v4 0 (by have := (hM2 (hid1.mpr z)).2.1; omega)).2.1; rw [← hnS] at this; exact this⟩) hrp (by omega) hRm
            rw [hHP (va_up (IAc IA cc) 3 σ1.1) _ rfl w2, hE1] at hm
            exact ⟨_, _, _, 0, 0, b_record hc, hm, ⟨_, _, _, _, _, _, _, rfl, hRR⟩, by omega, by omega, _, rfl⟩
          · have hc := c_recP5 (d := 8) (IA := IA) (LA := LA) (RA := RA) (dr := dr) (tl := tl) (N := N) (σ := (IA 3, E)) w5 hd h2 hcc c2 c1 hU hM q1 q3 w3 (by rw [hσ]; exact hRm)
            rw [hHW, hσ] at hc
            have hk := m_rec_t5 (d := 13) (IA := va_up (IAc IA cc) 3 (cw_cut σ1.1 E)) (LA := LA) (RA := RA) (SC := thr (va_up SC 2 (upd (SC 2) 1 (nI E))) 0) (dr := dr) (tl := tl) (N := N) (τ1 := τ1) (E := E) hD hd hwd q4 q3 (by omega) (by omega) (by rw [hE1]; exact hRm)
            have hm := m_rec_P228 (d := 10) (IA := va_up (IAc IA cc) 3 (cw_cut σ1.1 E)) (LA := LA) (RA := RA) (SC := va_up SC 2 (upd (SC 2) 1 (nI E))) (dr := dr) (tl := tl) (N := N) (τ := (IA 37, E)) hD hd hcc hn0 q4 q2 q3 (hUM _ _ rfl rfl) hM2 w3 (by rw [hτ]; exact hk)
            rw [hHP (va_up (IAc IA cc) 3 (cw_cut σ1.1 E)) _ rfl w2] at hm
            exact ⟨_, _, _, 0, 0, b_record hc, hm, ⟨_, _, _, _, _, _, _, rfl, RR_rec5 h1 h2 h3 h4 h5' hW h7 hrp (by omega) (by omega)⟩, by omega, by omega, _, rfl⟩
        · have hc := c_recP3 (d := 8) (IA := IA) (LA := LA) (RA := RA) (dr := dr) (tl := tl) (N := N) (σ := (IA 3, E)) w5 hd h2 hcc c2 c1 hU hM
          rw [hHW] at hc
          have hc := pm_h2 (show HW (IAc IA cc) LA RA SC dr tl (IA 3, E) = HC (IAc IA cc) LA RA SC dr tl from HW_self (IA := IAc IA cc) w1) hc
          have hm := m_recP3 (d := 10) (IA := IAc IA cc) (LA := LA) (RA := RA) (SC := SC) (dr := dr) (tl := tl) (N := N) (τ := (IA 37, E)) hD hd hcc hn0 q4 q2 q3 (hUM _ _ rfl rfl) (fun z => hM (hMi.mpr z))
          rw [hHP (IAc IA cc) _ rfl w2, hHP (IAc IA cc) _ rfl w2] at hm
          exact ⟨_, _, _, 0, 0, b_record hc, hm, ⟨_, _, _, _, _, _, _, rfl, RR_thr (RR_c19 hR0)⟩, by omega, by omega, _, rfl⟩
      · by_cases hf : 4 ≤ xv.toInt ∧ xv.toInt < 4 + (c : Int)
        · obtain ⟨xx, hxx, e⟩ : ∃ k, (4 ≤ k ∧ k < 4 + c) ∧ xv = nI k := ⟨xv.toInt.toNat, by omega, i32_nat (by omega)⟩
          subst e
          obtain ⟨y, f, y1, y2, y3⟩ := c4 (xx - 4) (by omega)
          rw [Nat.mul_zero, Nat.zero_add] at y2
          obtain ⟨g1, g2, g3, g4, g5, n, kk, vv, a1, a2, a3, a4, a5, K, V, a6, a7⟩ := y3
          have hfnd : fnd (RA 7) (64 + (dp + 1)) c (nI xx) = some y := by
            unfold fnd
            rw [nI_toInt (by omega), if_pos (by omega), Int.toNat_natCast]
            exact y1
          by_cases hxw : 2 ^ w ≤ xx
          · have hc := c_recF2 (d := 8) (IA := IA) (LA := LA) (RA := RA) (dr := dr) (tl := tl) (N := N) (σ := (IA 3, E)) w5 hd h2 hcc c2 c1 hxx.1 (by omega) hfnd q1 q3 hxw
            rw [hHW] at hc
            have hm := m_recF2 (d := 10) (IA := IA) (LA := LA) (RA := RA) (SC := SC) (dr := dr) (tl := tl) (N := N) (τ := (IA 37, E)) (cc := cc) hD hd hcc c3 c1 hxx.1 hxx.2 q4 q3 hxw
            rw [hHP IA _ rfl w2, hHP IA _ rfl w2] at hm
            exact ⟨_, _, _, 0, 0, b_record hc, hm, ⟨_, _, _, _, _, _, _, rfl, RR_thr hR0⟩, by omega, by omega, _, rfl⟩
          · have hfit := fmFit_iff a7 a3.1 v1 hnu
            have hid : ¬ id = 0 := fun z => by have := e1 z; omega
            have hf300 : f + 1 ≤ 300 := by omega
            by_cases hM : fmFit K V n (IAc IA cc 19) 17 (vc + 1)
            · have hM2 := hfit.mp hM
              have hb := wF_b (σ := wP (IA 3, E) (nI xx) w) (nu := nu) (tot := vc + 1) a7 a2 (by omega) hM.2.1 hnub
              have hbE : (wP (IA 3, E) (nI xx) w).2 = E + w := rfl
              have hrp : RP (IA 37) (wF K n kk vv (wP (IA 3, E) (nI xx) w) nu (vc + 1)) (mF n kk vv (mP (IA 37, E) (nI xx) w) nu (vc + 1)) := RP_F (RP_P (y := xx) (RP_self w4) (by omega) (by omega) (by show E + w ≤ _; omega)) a7 a4 a3.1 a2 v1 hnub hM2 (by show E + w ≤ _; omega)
              generalize hσ : wF K n kk vv (wP (IA 3, E) (nI xx) w) nu (vc + 1) = σ1 at hb hrp
              generalize hτ : mF n kk vv (mP (IA 37, E) (nI xx) w) nu (vc + 1) = τ1 at hrp
              have hE1 := hrp.1
              have hif36 : (if SC (9 + (dp + 1)) 0 = 0 then va_up SC (9 + (dp + 1)) (upd (SC (9 + (dp + 1))) 2 (IAc IA cc 19 1)) else SC) 36 18 = SC 36 18 := by
                split
                · rw [va_up_ne _ _ (by omega)]
                · rfl
              by_cases hRm : (σ1.2 + w + 31) / 32 + dp ≤ 64
              · have hc := c_recF0 (d := 8) (IA := IA) (LA := LA) (RA := RA) (dr := dr) (tl := tl) (N := N) (σ := (IA 3, E)) w5 hd h2 hcc c2 c1 hxx.1 (by omega) hfnd q1 q3 (by omega) hU g1 a6 a7 hM w3 (by rw [hσ]; exact hRm)
                rw [hHW, hσ] at hc
                have hk := m_rec_t0 (d := 13) (IA := va_up (IAc IA cc) 3 σ1.1) (LA := LA) (RA := RA) (SC := thr (va_up (va_up (if SC (9 + (dp + 1)) 0 = 0 then va_up SC (9 + (dp + 1)) (upd (SC (9 + (dp + 1))) 2 (IAc IA cc 19 1)) else SC) 1 (upd (SC 1) 4 1)) 2 (upd ((va_up (if SC (9 + (dp + 1)) 0 = 0 then va_up SC (9 + (dp + 1)) (upd (SC (9 + (dp + 1))) 2 (IAc IA cc 19 1)) else SC) 1 (upd (SC 1) 4 1)) 2) 1 (nI σ1.2))) 0) (dr := dr) (tl := tl) (N := N) (τ1 := τ1) (E := E) hD hd hwd q4 q3 (by omega) (by omega) (by rw [hE1]; exact hRm)
                have hm := m_rec_F228 (d := 10) (IA := va_up (IAc IA cc) 3 σ1.1) (LA := LA) (RA := RA) (SC := va_up (va_up (if SC (9 + (dp + 1)) 0 = 0 then va_up SC (9 + (dp + 1)) (upd (SC (9 + (dp + 1))) 2 (IAc IA cc 19 1)) else SC) 1 (upd (SC 1) 4 1)) 2 (upd ((va_up (if SC (9 + (dp + 1)) 0 = 0 then va_up SC (9 + (dp + 1)) (upd (SC (9 + (dp + 1))) 2 (IAc IA cc 19 1)) else SC) 1 (upd (SC 1) 4 1)) 2) 1 (nI σ1.2))) (dr := dr) (tl := tl) (N := N) (τ := (IA 37, E)) hD hd hcc hn0 c3 c1 hxx.1 hxx.2 q4 q3 (by omega) y2 (hUM _ _ rfl hif36) a4 a3 a1 a5 hf300 a2 hM2 w3 (by rw [hτ]; exact hk)
                have hRR := RR_rec2 (cc := cc) h1 h2 h3 h4 hW h7 q4 q3 hid0 hid1 (fun z => absurd z hid) hrp (by omega) hRm
                rw [hHP (va_up (IAc IA cc) 3 σ1.1) _ rfl w2, hE1] at hm
                exact ⟨_, _, _, 0, 0, b_record hc, hm, ⟨_, _, _, _, _, _, _, rfl, hRR⟩, by omega, by omega, _, rfl⟩
              · have hc := c_recF5 (d := 8) (IA := IA) (LA := LA) (RA := RA) (dr := dr) (tl := tl) (N := N) (σ := (IA 3, E)) w5 hd h2 hcc c2 c1 hxx.1 (by omega) hfnd q1 q3 (by omega) hU g1 a6 a7 hM w3 (by rw [hσ]; exact hRm)
                rw [hHW, hσ] at hc
                have hk := m_rec_t5 (d := 13) (IA := va_up (IAc IA cc) 3 (cw_cut σ1.1 E)) (LA := LA) (RA := RA) (SC := thr (va_up SC 2 (upd (SC 2) 1 (nI E))) 0) (dr := dr) (tl := tl) (N := N) (τ1 := τ1) (E := E) hD hd hwd q4 q3 (by omega) (by omega) (by rw [hE1]; exact hRm)
                have hm := m_rec_F228 (d := 10) (IA := va_up (IAc IA cc) 3 (cw_cut σ1.1 E)) (LA := LA) (RA := RA) (SC := va_up SC 2 (upd (SC 2) 1 (nI E))) (dr := dr) (tl := tl) (N := N) (τ := (IA 37, E)) hD hd hcc hn0 c3 c1 hxx.1 hxx.2 q4 q3 (by omega) y2 (hUM _ _ rfl rfl) a4 a3 a1 a5 hf300 a2 hM2 w3 (by rw [hτ]; exact hk)
                rw [hHP (va_up (IAc IA cc) 3 (cw_cut σ1.1 E)) _ rfl w2] at hm
                exact ⟨_, _, _, 0, 0, b_record hc, hm, ⟨_, _, _, _, _, _, _, rfl, RR_rec5 h1 h2 h3 h4 h5' hW h7 hrp (by omega) (by omega)⟩, by omega, by omega, _, rfl⟩
            · have hc := c_recF3 (d := 8) (IA := IA) (LA := LA) (RA := RA) (dr := dr) (tl := tl) (N := N) (σ := (IA 3, E)) w5 hd h2 hcc c2 c1 hxx.1 (by omega) hfnd q1 q3 (by omega) hU g1 a6 hM
              rw [hHW] at hc
              have hc := pm_h2 (show HW (IAc IA cc) LA RA SC dr tl (IA 3, E) = HC (IAc IA cc) LA RA SC dr tl from HW_self (IA := IAc IA cc) w1) hc
              have hm := m_recF3 (d := 10) (IA := IAc IA cc) (LA := LA) (RA := RA) (SC := SC) (dr := dr) (tl := tl) (N := N) (τ := (IA 37, E)) hD hd hcc hn0 c3 c1 hxx.1 hxx.2 q4 q3 (by omega) y2 (hUM _ _ rfl rfl) a4 a3 a1 a5 hf300 a2 (fun z => hM (hfit.mpr z))
              rw [hHP (IAc IA cc) _ rfl w2, hHP (IAc IA cc) _ rfl w2] at hm
              exact ⟨_, _, _, 0, 0, b_record hc, hm, ⟨_, _, _, _, _, _, _, rfl, RR_thr (RR_c19 hR0)⟩, by omega, by omega, _, rfl⟩
        · have hc := c_rec2 (d := 8) (IA := IA) (LA := LA) (RA := RA) (dr := dr) (tl := tl) (N := N) (σ := (IA 3, E)) (cc := cc) (x := xv) w5 hd h2 hcc c2 c1 hx2 (by unfold fnd; rw [if_neg hf])
          rw [hHW] at hc
          have hm := m_rec2 (d := 10) (IA := IA) (LA := LA) (RA := RA) (SC := SC) (dr := dr) (tl := tl) (N := N) (τ := (IA 37, E)) (cc := cc) (xv := xv) hD hd hcc c3 c1 hx2 hf
          rw [hHP IA _ rfl w2, hHP IA _ rfl w2] at hm
          exact ⟨_, _, _, 0, 0, b_record hc, hm, ⟨_, _, _, _, _, _, _, rfl, RR_thr hR0⟩, by omega, by omega, _, rfl⟩
end ST9
