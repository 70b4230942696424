/-! STEPS: leave -/
section ST5
variable {IA : Nat → Nat → Int32} {LA : Nat → Nat → Int64} {RA : Nat → Nat → Option Nat} {SC : Nat → Nat → Int32} {dr : Nat} {tl : Nat → va_E} {N E dp pl : Nat} {h : pm_H}
theorem RR_leave {σ1 τ1 : (Nat → Int32) × Nat} {a m dp2 pl2 b p sc : Nat} (h1 : 56 ≤ N) (h2 : ∀ i, i < 7 → RA 5 i = some (9 + i)) (h3 : ∀ i, i < 7 → RA 22 i = some (26 + i)) (h4 : DrR tl dr N (SC 36 16) (LA 51)) (h5 : VaR (SC 1 4) (IA 19) (SC 36 18) (IA 52)) (hW : WrR IA LA RA SC dr tl N E (dp + 1) pl) (h7 : RdR IA LA RA SC dr tl N m dp2 pl2 b p sc) (hrp : RP (IA 37) σ1 τ1) (ha : σ1.2 = a * 32) (hge : E ≤ σ1.2) (hR : a + dp ≤ 64) :
    RR (va_up (va_up (va_up (va_up IA 3 σ1.1) 39 (upd (IA 39) 0 (nI dp))) 37 τ1.1) 38 (upd (IA 38) 0 (nI τ1.2))) LA RA (thr (va_up (va_up SC 4 (upd (SC 4) 2 (nI dp))) 2 (upd (SC 2) 1 (nI σ1.2))) 0) dr tl N := by
  obtain ⟨w1, w2, w3, w4, w5, w6, w7, w8, w9, w10⟩ := hW
  have hE1 := hrp.1
  have hSC : ∀ i, 9 ≤ i → i ≠ 36 → thr (va_up (va_up SC 4 (upd (SC 4) 2 (nI dp))) 2 (upd (SC 2) 1 (nI σ1.2))) 0 i = SC i := fun i hi h36 => (thr_ne h36).trans ((va_up_ne _ _ (by omega)).trans (va_up_ne _ _ (by omega)))
  refine ⟨h1, h2, h3, h4, h5, ⟨σ1.2, dp, pl, ?_⟩, m, dp2, pl2, b, p, sc, ?_⟩
  · refine ⟨rfl, congrArg nI hE1, by omega, hrp.2.1, rfl, fun _ => by omega, w7, by omega, fun w hd hw hw8 => by omega, ?_⟩
    have hp := SdR_pop (IA' := va_up (va_up (va_up (va_up IA 3 σ1.1) 39 (upd (IA 39) 0 (nI dp))) 37 τ1.1) 38 (upd (IA 38) 0 (nI τ1.2))) w10 rfl (fun k k1 k2 => by rw [va_up_ne _ _ (by omega), va_up_ne _ _ (by omega), va_up_ne _ _ (by omega), va_up_ne _ _ (by omega)])
    exact SdR_congr hp rfl rfl (fun i hi => hSC _ (by omega) (by omega)) (AgS_eq (fun _ _ _ => rfl)) (fun _ _ z => z) (fun _ _ _ _ z => Nat.le_trans z hge)
  · refine RdR_congr h7 rfl rfl rfl hrp.2.2 rfl rfl rfl rfl rfl rfl rfl rfl rfl (fun i hi => hSC _ (by omega) (by omega)) ?_ (fun _ _ z => z)
    exact ⟨rfl, fun _ _ => ⟨rfl, rfl, rfl, rfl, rfl, fun _ _ => rfl⟩, fun _ _ => ⟨rfl, fun _ _ => rfl⟩⟩
theorem s_leave (hs : St h) : Duo h 77 109 [] isI := by
  obtain ⟨IA, LA, RA, SC, dr, tl, N, rfl, hR⟩ := hs
  have hR0 := hR
  obtain ⟨h1, h2, h3, h4, h5, ⟨E, dp, pl, hW⟩, m, dp2, pl2, b, p, sc, h7⟩ := hR
  have hW0 := hW
  obtain ⟨w1, w2, w3, w4, w5, w6, w7, w8, w9, w10⟩ := hW0
  have hHW := HW_self (IA := IA) (LA := LA) (RA := RA) (dr := dr) (tl := tl) w1
  cases dp with
  | zero =>
    have hc := c_close0 (d := 13) (IA := IA) (LA := LA) (RA := RA) (SC := SC) (dr := dr) (tl := tl) (N := N) (σ := (IA 3, E)) w5
    rw [hHW] at hc
    have hm := m_leave0 (d := 14) (IA := IA) (LA := LA) (RA := RA) (SC := SC) (dr := dr) (tl := tl) (N := N) (τ := (IA 37, E)) w10.2.1
    rw [HP_self w2, HP_self w2] at hm
    exact ⟨_, _, _, 0, 0, b_leave hc, hm, ⟨_, _, _, _, _, _, _, rfl, RR_thr hR0⟩, by omega, by omega, _, rfl⟩
  | succ dp =>
    obtain ⟨id, w, t, c, st, ⟨p1, p2, p3⟩, ⟨q1, q2, q3, q4⟩, ⟨u1, u2, u3⟩, ⟨v1, v2, v3, v4⟩, e1, e2⟩ := w10.2.2.2.2.2 (dp + 1) (by omega) (Nat.le_refl _)
    rw [Nat.mul_zero, Nat.zero_add] at p3 q4 u3 v3
    have v4 : 32 * st ≤ E := v4
    have hd := w10.1
    have hroom := w9 w (by omega) q4 q3
    have ea : (wL (IA 3, E) w).2 = (E + w + 31) / 32 * 32 := rfl
    have hc := c_close (d := 11) (IA := IA) (LA := LA) (RA := RA) (dr := dr) (tl := tl) (N := N) (σ := (IA 3, E)) w5 hd h2 q1 q3 v1 v2 (by show E < _; omega) (by rw [ea]; omega)
    rw [hHW, ea, show ((E + w + 31) / 32 * 32 + 31) / 32 = (E + w + 31) / 32 by omega] at hc
    have hm := m_leave (d := 13) (IA := va_up IA 3 (cw_set (wL (IA 3, E) w).1 (st - 1) (nI ((E + w + 31) / 32 - st)))) (LA := LA) (RA := RA) (SC := va_up (va_up SC 4 (upd (SC 4) 2 (nI dp))) 2 (upd (SC 2) 1 (nI ((E + w + 31) / 32 * 32)))) (dr := dr) (tl := tl) (N := N) (τ := (IA 37, E)) (mk := st - 1) (a := (E + w + 31) / 32) w10.2.1 hd q4 q3 v3 (by omega) w3 rfl (by omega)
    rw [show (E + w + 31) / 32 - (st - 1) - 1 = (E + w + 31) / 32 - st by omega] at hm
    have hm := pm_h1 (HP_self (IA := va_up IA 3 (cw_set (wL (IA 3, E) w).1 (st - 1) (nI ((E + w + 31) / 32 - st)))) w2) hm
    have r1 := RP_P (y := 0) (n := w) (RP_self w4) (by omega) (Nat.two_pow_pos _) (by show E + w ≤ _; omega)
    have r2 := RP_al r1 (a := (E + w + 31) / 32 * 32) (by show E + w ≤ _; omega)
    have r3 := RP_set r2 (k := st - 1) (x := nI ((E + w + 31) / 32 - st)) (by show _ ≤ (E + w + 31) / 32 * 32; omega) (by omega)
    exact ⟨_, _, _, 0, 0, b_leave hc, hm, ⟨_, _, _, _, _, _, _, rfl, RR_leave (a := (E + w + 31) / 32) h1 h2 h3 h4 h5 hW h7 r3 rfl (by show E ≤ (E + w + 31) / 32 * 32; omega) (by omega)⟩, by omega, by omega, _, rfl⟩
end ST5
