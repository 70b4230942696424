/-! STEPS: form, whole -/
section ST7
variable {h : pm_H}
theorem rowX_v {B : Nat → Int32} {id t dp : Nat} (h0 : B 0 = nI id) (hid : id < 64) (h2 : B 2 = nI t) (ht : t < 64) : rowX B dp = if id = 0 then (if t = 0 then -1 else nI t) else nI (64 + dp) := by
  unfold rowX
  rw [h0, h2]
  have e1 : nI id = 0 ↔ id = 0 := nI_eqI (b := 0) (by omega) (by omega)
  have e2 : nI t = 0 ↔ t = 0 := nI_eqI (b := 0) (by omega) (by omega)
  by_cases a : id = 0
  · rw [if_pos (e1.mpr a), if_pos a]
    by_cases c : t = 0
    · rw [if_pos (e2.mpr c), if_pos c]
    · rw [if_neg (fun z => c (e2.mp z)), if_neg c]
  · rw [if_neg (fun z => a (e1.mp z)), if_neg a]
theorem s_form (hs : St h) : Duo h 81 120 [] isI := by
  obtain ⟨IA, LA, RA, SC, dr, tl, N, rfl, hR⟩ := hs
  have hR0 := hR
  obtain ⟨h1, h2, h3, h4, h5, ⟨E, dp, pl, hW⟩, m, dp2, pl2, b, p, sc, h7⟩ := hR
  have hW0 := hW
  have h40 := h4
  obtain ⟨w1, w2, w3, w4, w5, w6, w7, w8, w9, w10⟩ := hW0
  obtain ⟨d1, d2, n, K, V, kk, vv, d3, d4, d5, d6, d7⟩ := h40
  have hHW := HW_self (IA := IA) (LA := LA) (RA := RA) (dr := dr) (tl := tl) w1
  have hHP : ∀ SC1 : Nat → Nat → Int32, HP IA LA RA SC1 dr tl (IA 37, E) = HC IA LA RA SC1 dr tl := fun SC1 => HP_self w2
  cases dp with
  | zero =>
    have hc := c_form1 (d := 13) (IA := IA) (LA := LA) (RA := RA) (SC := SC) (dr := dr) (tl := tl) (N := N) (σ := (IA 3, E)) w5
    rw [hHW] at hc
    have hm := m_form1 (d := 14) (IA := IA) (LA := LA) (RA := RA) (SC := SC) (dr := dr) (tl := tl) (N := N) (τ := (IA 37, E)) w10.2.1
    rw [hHP, hHP] at hm
    exact ⟨_, _, _, 0, 0, b_form hc, hm, ⟨_, _, _, _, _, _, _, rfl, RR_thr hR0⟩, by omega, by omega, _, rfl⟩
  | succ dp =>
    have hd := w10.1
    have hD := w10.2.1
    have hn8 := d3.2.2.2
    by_cases ho : fmOkN kk n
    · have hoK := (fmOk_iffW d4).mpr ho
      obtain ⟨id, w, t, c, st, r1, r2, r3, r4, r5, r6, ⟨q1, q2, q3, q4⟩, r7, r8⟩ := SdR_row w10 (by omega)
      rw [Nat.mul_zero, Nat.zero_add] at r4 q4
      have r5 : SC (9 + (dp + 1)) 0 = nI id := r5
      have r6 : SC (9 + (dp + 1)) 2 = nI t := r6
      have q1 : SC (9 + (dp + 1)) 1 = nI w := q1
      have hrow := rowX_v (dp := dp + 1) r5 r1 r6 r2
      have hwd := SdR_wd w10
      by_cases h00 : id = 0 ∧ t = 0
      · rw [if_pos h00.1, if_pos h00.2] at hrow
        have hc := c_form3 (d := 8) (IA := IA) (LA := LA) (RA := RA) (dr := dr) (tl := tl) (N := N) (σ := (IA 3, E)) w5 hd h2 d1 d3 hoK hrow
        rw [hHW] at hc
        have hm := m_form3 (d := 12) (IA := IA) (LA := LA) (RA := RA) (SC := SC) (dr := dr) (tl := tl) (N := N) (τ := (IA 37, E)) hD hd d6 hn8 d7 ho r4 h00
        rw [hHP, hHP] at hm
        exact ⟨_, _, _, 0, 0, b_form hc, hm, ⟨_, _, _, _, _, _, _, rfl, RR_thr hR0⟩, by omega, by omega, _, rfl⟩
      · obtain ⟨ro, hx, hro, hG, hcase⟩ : ∃ ro, rowX (SC (9 + (dp + 1))) (dp + 1) = nI ro ∧ ro < 71 ∧ IA 8 ro = nI c ∧ ((0 < id ∧ ro = 64 + (dp + 1) ∧ BkR 0 (dp + 1) (IA 8) (RA 7) (SC (9 + (dp + 1))) IA (Gd fmW (IA 49) (LA 48) tl N dr 0 pl) (fun st => 32 * st ≤ E) id w t c st) ∨ (id = 0 ∧ ro = t ∧ 1 ≤ t ∧ t < 64 ∧ IA 8 t = nI c)) := by
          by_cases hid : id = 0
          · have ht : ¬ t = 0 := fun z => h00 ⟨hid, z⟩
            rw [if_pos hid, if_neg ht] at hrow
            exact ⟨t, hrow, by omega, r8 hid, Or.inr ⟨hid, rfl, by omega, r2, r8 hid⟩⟩
          · rw [if_neg hid] at hrow
            obtain ⟨z1, z2⟩ := r7 (by omega)
            exact ⟨64 + (dp + 1), hrow, by omega, z2, Or.inl ⟨by omega, rfl, z1⟩⟩
        by_cases hc8 : c = 8
        · subst hc8
          have hc := c_form4 (d := 8) (IA := IA) (LA := LA) (RA := RA) (dr := dr) (tl := tl) (N := N) (σ := (IA 3, E)) w5 hd h2 d1 d3 hoK hx hro hG
          rw [hHW] at hc
          have hm := m_form4 (d := 12) (IA := IA) (LA := LA) (RA := RA) (SC := SC) (dr := dr) (tl := tl) (N := N) (τ := (IA 37, E)) hD hd d6 hn8 d7 ho r4 h00 rfl
          rw [hHP, hHP] at hm
          exact ⟨_, _, _, 0, 0, b_form hc, hm, ⟨_, _, _, _, _, _, _, rfl, RR_thr hR0⟩, by omega, by omega, _, rfl⟩
        · have hrp := RP_Fo (RP_self w4) d5 hn8 ⟨q2, q3⟩ w3
          have hge := wFo_ge (kk := kk) (vv := vv) (σ := (IA 3, E)) (n := n) q2 ho
          have hle := wFo_end (σ := (IA 3, E)) d4 q3 hn8
          have hE1 := hrp.1
          have hpl : pl < 150 := by omega
          by_cases hRm : ((wFo kk vv (IA 3, E) w n).2 + w + 31) / 32 + dp ≤ 64
          · have hc := c_form0 (d := 8) (IA := IA) (LA := LA) (RA := RA) (dr := dr) (tl := tl) (N := N) (σ := (IA 3, E)) h1 w5 hd h2 d1 d3 d4 hoK hx hro hG (by omega) q1 q3 w3 hRm
            rw [hHW] at hc
            have hm := m_form0 (d := 12) (IA := va_up (va_up IA 8 (upd (IA 8) ro (nI (c + 1)))) 3 (wFo kk vv (IA 3, E) w n).1) (LA := LA) (RA := va_up RA 7 (va_up (RA 7) (8 * ro + c) (some dr))) (SC := va_up SC 2 (upd (SC 2) 1 (nI (wFo kk vv (IA 3, E) w n).2))) (dr := N) (tl := tlNew tl N) (N := N + 3) (τ := (IA 37, E)) hD hd d6 hn8 d7 ho r4 h00 (by omega) w7 hpl hwd q4 q3 w3 (by rw [hE1]; exact hRm)
            have hm := pm_h1 (HP_self (IA := va_up (va_up IA 8 (upd (IA 8) ro (nI (c + 1)))) 3 (wFo kk vv (IA 3, E) w n).1) w2) hm
            rw [show c + 4 = 4 + c by omega] at hm
            exact ⟨_, _, _, 3, 19, b_form hc, hm, ⟨_, _, _, _, _, _, _, rfl, RR_form h1 h2 h3 d1 d2 d3 d4 d5 d7 ho h5 hW h7 q4 q3 (by omega) hcase hrp hge hRm⟩, by omega, by omega, _, rfl⟩
          · have hc := c_form5 (d := 8) (IA := IA) (LA := LA) (RA := RA) (dr := dr) (tl := tl) (N := N) (σ := (IA 3, E)) w5 hd h2 d1 d3 d4 hoK hx hro hG (by omega) q1 q3 w3 hRm
            rw [hHW] at hc
            have hm := m_form5 (d := 12) (IA := va_up IA 3 (cw_cut (wFo kk vv (IA 3, E) w n).1 E)) (LA := LA) (RA := RA) (SC := va_up SC 2 (upd (SC 2) 1 (nI E))) (dr := dr) (tl := tl) (N := N) (τ := (IA 37, E)) hD hd d6 hn8 d7 ho r4 h00 (by omega) w7 hpl hwd q4 q3 w3 (by rw [hE1]; exact hRm)
            have hm := pm_h1 (HP_self (IA := va_up IA 3 (cw_cut (wFo kk vv (IA 3, E) w n).1 E)) w2) hm
            have hcut := RP_cut hrp (b := E) (by have : E + 16 ≤ (wFo kk vv (IA 3, E) w n).2 := hge; omega) (by have : (wFo kk vv (IA 3, E) w n).2 ≤ E + 900 := hle; omega)
            refine ⟨_, _, _, 0, 0, b_form hc, hm, ⟨_, _, _, _, _, _, _, rfl, RR_wcut h1 h2 h3 h4 h5 hW h7 hcut.2.1 hcut.2.2 rfl rfl (fun k k3 k19 k37 k38 hk => ?_) (AgD_of (AgS_eq (fun k k1 k2 => ?_)) hd) (AgS_eq (fun k k1 k2 => ?_)) (fun _ => rfl) rfl (fun j hj => ?_) (fun k k1 k2 => (thr_ne k1).trans (va_up_ne _ _ k2)) rfl (fun j hj => upd_ne hj)⟩, by omega, by omega, _, rfl⟩
            · exact (va_up_ne _ _ k38).trans ((va_up_ne _ _ k37).trans (va_up_ne _ _ k3))
            · exact (va_up_ne _ _ (by omega)).trans ((va_up_ne _ _ (by omega)).trans (va_up_ne _ _ (by omega)))
            · exact (va_up_ne _ _ (by omega)).trans ((va_up_ne _ _ (by omega)).trans (va_up_ne _ _ (by omega)))
            · show opCp (LA 48) (LA 51) (8 * pl) n j = LA 48 j
              unfold opCp
              rw [if_neg (by omega)]
    · have hc := c_form2 (d := 8) (IA := IA) (LA := LA) (RA := RA) (dr := dr) (tl := tl) (N := N) (σ := (IA 3, E)) w5 hd d1 d3 (fun z => ho ((fmOk_iffW d4).mp z))
      rw [hHW] at hc
      have hm := m_form2 (d := 12) (IA := IA) (LA := LA) (RA := RA) (SC := SC) (dr := dr) (tl := tl) (N := N) (τ := (IA 37, E)) hD hd d6 hn8 d7 ho
      rw [hHP, hHP] at hm
      exact ⟨_, _, _, 0, 0, b_form hc, hm, ⟨_, _, _, _, _, _, _, rfl, RR_thr hR0⟩, by omega, by omega, _, rfl⟩
end ST7
