/-! STEPS: next reads a record by a form; next -/
section NXR3
variable {IA : Nat → Nat → Int32} {LA : Nat → Nat → Int64} {RA : Nat → Nat → Option Nat} {SC : Nat → Nat → Int32} {dr : Nat} {tl : Nat → va_E} {N m dp pl p sc w x : Nat} {h : pm_H}
theorem nx_rec (hR : RR IA LA RA SC dr tl N) (hD : RdR IA LA RA SC dr tl N m (dp + 1) pl 0 p sc) (hw : SC (26 + (dp + 1)) 1 = nI w) (hw2 : 2 ≤ w) (hw8 : w ≤ 8) (hwm : (if dp + 1 = 0 then 2 else IA 41 (7 + (dp + 1))) = nI w) (hx : p + w ≤ 32 * m) (hx1 : rdN (IA 33) p w = x) (hx4 : 4 ≤ x) : NxR (N, HC IA LA RA SC dr tl) := by
  have hD0 := hD
  have hag := RdR_ag hD
  have h3 := hR.2.2.1
  obtain ⟨⟨a1, a2, a3, a4⟩, a5, ⟨a6, a7, a8⟩, ⟨a9, a10⟩, a11, ⟨a12, a13, a14, a15⟩, a16⟩ := hD
  obtain ⟨b1, b2, b3, b4⟩ := a11 rfl
  have hd := a16.1
  have hne : ¬ (dp + 1 = 0 ∧ p = 32 * m) := fun z => absurd z.1 (by omega)
  have hlt := rdN_lt (IA 33) p w
  have hl2 : 2 ^ w ≤ 2 ^ 8 := Nat.pow_le_pow_right (by omega) hw8
  have hx256 : x < 256 := by omega
  have hinf : SC (26 + (dp + 1)) 0 = 0 ↔ (0 < dp + 1 ∧ IA 40 (7 + (dp + 1)) = 0) := SdR_info a16
  obtain ⟨id, w9, t9, c, st, ⟨p1, p2, p3⟩, -, -, -, e1, c1, c2, c3, c4⟩ := a16.2.2.2.2.2 (dp + 1) (by omega) (Nat.le_refl _)
  have p1 : SC (26 + (dp + 1)) 0 = nI id := p1
  have c3 : IA 44 (7 + (dp + 1)) = nI c := c3
  have hw' : SC1 SC (26 + (dp + 1)) 1 = nI w := by rw [SC1_ne (by omega)]; exact hw
  have hi' : SC1 SC (26 + (dp + 1)) = SC (26 + (dp + 1)) := SC1_ne (by omega)
  have hgx : rdN (gR IA) p w = x := by rw [rdN_cg hag w hx]; exact hx1
  have hpre : ∀ {r : pm_V} {h' : pm_H} {bc bs : Nat}, pm_X (pm_call (0 + 12)) jm_45 4 (some .int) (0 + 12) bc bs 80 [(0, .ref 20), (1, .ref (26 + (dp + 1))), (2, .int (nI x))] [va_rf (if x < 4 + c then RA 24 (8 * (64 + (dp + 1)) + (x - 4)) else none), .ref 20] 0 0 (N, HR IA LA RA (SC1 SC) dr tl (p + w) (IA 34)) r h' → pm_call (0 + 13) 45 [.ref 20, .ref (26 + (dp + 1))] (N, HR IA LA RA (SC1 SC) dr tl p (IA 34)) r h' bc bs := fun hX => by
    refine r_it_pre (SC := SC1 SC) a1 a3 b3 hd hw' (by omega) hw8 hx ?_
    rw [hx1]
    exact r_it_n hx256 (by omega) a5 hd (fun z => absurd z (by omega)) (fun _ => r_it_4pre (SC := SC1 SC) hx256 hx4 a5 hd h3 c2 c1 hX)
  by_cases hfd : x < 4 + c
  · have hid : ¬ id = 0 := fun z => by have := e1 z; omega
    have hI0 : ¬ SC (26 + (dp + 1)) 0 = 0 := by rw [p1]; exact fun z => hid ((nI_eqI (b := 0) (by omega) (by omega)).mp z)
    have hI2 : ¬ (0 < dp + 1 ∧ IA 40 (7 + (dp + 1)) = 0) := fun z => hI0 (hinf.mpr z)
    obtain ⟨y, f, y1, y2, y3⟩ := c4 (x - 4) (by omega)
    have y2 : IA 45 (8 * (7 + (dp + 1)) + (x - 4)) = nI f := y2
    obtain ⟨g1, g2, g3, g4, g5, n, kk, vv, o1, o2, o3, o4, o5, K, V, o6, o7⟩ := y3
    have y1 : RA 24 (8 * (64 + (dp + 1)) + (x - 4)) = some y := y1
    rw [if_pos hfd, y1] at hpre
    cases hE : pBF (IA 33) m n kk vv (p + w) with
    | none =>
      obtain ⟨q, fr', hq, hcl⟩ := r_byFormX (d := 0) (IA := IA) (LA := LA) (RA := RA) (SC := SC1 SC) (dr := dr) (tl := tl) (N := N) (fr := IA 34) (p := p + w) a1 a3 hx g1 o6 o7 o3.1 hE
      obtain ⟨v, rd', q', hq', hmm⟩ := m_recordInX (d := 10) (IA := va_up IA 34 fr') (LA := LA) (RA := RA) (SC := thr (SCq SC q) 0) (dr := dr) (tl := tl) (N := N) (p := p + w) (rd := IA 54) (m := m) (dp := dp + 1) (x := x) (v44 := c) a2 a3 hx hx256 hx4 a16.2.1 hd c3 c1 (by omega) hI2 y2 (by omega) o1 o2 o5 o4 o3 (show pBF (gR IA) m n kk vv (p + w) = none by rw [pBF_cg hag]; exact hE)
      refine nx_X (N' := N) (tl' := tl) (q := q) (fr := fr') (rd := rd') (L := LA 48) (c1 := 1) (s1 := 6) hR hD0 hne (Nat.le_refl _) (fun _ _ => rfl) (fun _ _ => rfl) (by omega) (by omega) (hpre (r_it_4X (o := some y) hcl)) ?_
      rw [cw_id LA 48]
      exact mo_bad (d := 9) (IA := va_up IA 34 fr') (SC := SCq SC q) (x := x) (q := q') a16.2.1 hd b2 hwm a2 a3 hw8 hx hgx (Or.inl (by omega)) (Or.inr (Or.inr (Or.inr (Or.inr ⟨hx4, hmm⟩))))
    | some z =>
      obtain ⟨t, nu, q⟩ := z
      have hEg : pBF (gR IA) m n kk vv (p + w) = some (t, nu, q) := by rw [pBF_cg hag]; exact hE
      have hge := pBF_ge hx o4 o3.1 hE
      have hcl := r_byForm (d := 0) (IA := IA) (LA := LA) (RA := RA) (SC := SC1 SC) (dr := dr) (tl := tl) (N := N) (fr := IA 34) (p := p + w) a1 a3 hx g1 o6 o7 o3.1 hE
      obtain ⟨t1, t2, t4, t5, -⟩ := m_recordIn (d := 10) (IA := IA) (LA := LA) (RA := RA) (SC := SC) (dr := dr) (tl := tl) (N := N) (p := p + w) (rd := IA 54) (m := m) (dp := dp + 1) (x := x) (v44 := c) a2 a3 hx hx256 hx4 a16.2.1 hd c3 c1 (by omega) hI2 y2 (by omega) o1 o2 o5 o4 o3 hEg
      have hcl2 := hpre (r_it_4 (o := some y) hcl (r_it_84 (x := x) (SC := SC1 SC) a5 hd h3 t1 t2 (fun z => absurd (by rw [← hi']; exact z) hI0)))
      have e36 : SCr SC (dp + 1) q t (frN (IA 34) nu t 1) 36 = SC 36 := SCr_ne (by omega) (by omega)
      have hS36 : va_up (SCr SC (dp + 1) q t (frN (IA 34) nu t 1)) 20 (upd (SCr SC (dp + 1) q t (frN (IA 34) nu t 1) 20) 4 0) 36 2 = nI m := by
        rw [va_up_ne _ _ (by omega), e36]
        exact a2
      have hnx : (4 : Int32) = nxR x := by unfold nxR; rw [if_neg (by omega), if_neg (by omega), if_neg (by omega)]
      refine nx_G2 (N' := N) (tl' := tl) (x := x) (c1 := 0) (s1 := 0) hR hD0 hne (by omega) (by omega) hnx hcl2 (by show SCr SC (dp + 1) q t (frN (IA 34) nu t 1) 36 20 = 0; rw [e36]; exact a7) (by show SCr SC (dp + 1) q t (frN (IA 34) nu t 1) 36 2 = nI m; rw [e36]; exact a2) a16.2.1 b2 (fun LA2 z1 z2 => ?_)
      obtain ⟨-, -, -, -, rd', hrd, hmm⟩ := m_recordIn (d := 10) (IA := va_up (va_up IA 34 (frN (IA 34) nu t)) 35 (shR (va_up IA 34 (frN (IA 34) nu t)) (nI x) t)) (LA := LA2) (RA := RA) (SC := thr (va_up (SCr SC (dp + 1) q t (frN (IA 34) nu t 1)) 20 (upd (SCr SC (dp + 1) q t (frN (IA 34) nu t 1) 20) 4 0)) 0) (dr := dr) (tl := tl) (N := N) (p := p + w) (rd := IA 54) (m := m) (dp := dp + 1) (x := x) (v44 := c) (kk := kk) (vv := vv) hS36 a3 hx hx256 hx4 a16.2.1 hd c3 c1 (by omega) hI2 y2 (by omega) o1 o2 (by rw [z1]; exact o5) o4 o3 hEg
      refine ⟨_, mo_good (d := 9) (IA := va_up (va_up IA 34 (frN (IA 34) nu t)) 35 (shR (va_up IA 34 (frN (IA 34) nu t)) (nI x) t)) (SC := va_up (SCr SC (dp + 1) q t (frN (IA 34) nu t 1)) 20 (upd (SCr SC (dp + 1) q t (frN (IA 34) nu t 1) 20) 4 0)) (x := x) (q := q) (k := t + 2) a16.2.1 hd b2 hwm hS36 a3 hw8 hx hgx (Or.inl (by omega)) (by omega) (Or.inr (Or.inr (Or.inr (Or.inr ⟨hx4, hmm⟩)))), ⟨_, _, _, _, _, _, _, rfl, RR_nR (t := t) hR hD0 (by omega) t4 t2 (Or.inl ⟨?_, rfl⟩) (fun k k34 k35 k43 => (va_up_ne _ _ k35).trans (va_up_ne _ _ k34)) (shR_rd t1 hrd) (fun k k20 k26 => SCr_ne k20 k26) rfl rfl rfl z1 z2⟩, rfl, m_thrown (d := 14)⟩
      refine (va_up_ne _ _ (by omega)).trans ?_
      rw [if_neg (by rw [hi']; exact hI0)]
      exact SCq_ne (by omega)
  · rw [if_neg hfd] at hpre
    have hmm := m_r_0X (d := 10) (IA := va_up IA 34 (IA 34)) (LA := LA) (RA := RA) (SC := thr (SCq SC (p + w)) 0) (dr := dr) (tl := tl) (N := N) (p := p + w) (rd := IA 54) (dp := dp + 1) (x := x) (v44 := c) hx256 a16.2.1 hd c3 c1 (Or.inl (by omega))
    refine nx_X (N' := N) (tl' := tl) (q := p + w) (fr := IA 34) (rd := IA 54) (L := LA 48) (c1 := 1) (s1 := 6) hR hD0 hne (Nat.le_refl _) (fun _ _ => rfl) (fun _ _ => rfl) (by omega) (by omega) (hpre (r_it_4X (o := none) (r_bfN (d := 0)))) ?_
    rw [cw_id LA 48]
    exact mo_bad (d := 9) (IA := va_up IA 34 (IA 34)) (SC := SCq SC (p + w)) (x := x) (q := p + w) a16.2.1 hd b2 hwm a2 a3 hw8 hx hgx (Or.inl (by omega)) (Or.inr (Or.inr (Or.inr (Or.inr ⟨hx4, hmm⟩))))
theorem s_next (hs : St h) : NxR h := by
  obtain ⟨IA, LA, RA, SC, dr, tl, N, rfl, hR⟩ := hs
  obtain ⟨m, dp, pl, b, p, sc, hD⟩ := hR.2.2.2.2.2.2
  have hb := hD.2.2.1.2.2
  by_cases hb1 : b = 1
  · subst hb1
    exact nx_F hR hD
  · have hb0 : b = 0 := by omega
    subst hb0
    by_cases hne : dp = 0 ∧ p = 32 * m
    · obtain ⟨rfl, rfl⟩ := hne
      exact nx_E hR hD
    · obtain ⟨w, w1, w2, w3, w4⟩ := RdR_w hD
      by_cases hx : p + w ≤ 32 * m
      · by_cases hx1 : rdN (IA 33) p w = 1
        · exact nx_enter hR hD hne w1 w2 w3 w4 hx hx1
        · cases dp with
          | zero =>
            have hw2 : w = 2 := ((nI_eqI (a := 2) (by omega) (by omega)).mp w4).symm
            subst hw2
            exact nx_d0 hR hD hne hx hx1
          | succ dp =>
            by_cases h0 : rdN (IA 33) p w = 0
            · exact nx_leave hR hD w1 w2 w3 w4 hx h0
            · by_cases h2 : rdN (IA 33) p w = 2
              · exact nx_plain hR hD w1 w2 w3 w4 hx h2
              · by_cases h3 : rdN (IA 33) p w = 3
                · exact nx_form hR hD w1 w2 w3 w4 hx h3
                · exact nx_rec hR hD w1 w2 w3 w4 hx rfl (by omega)
      · exact nx_short hR hD hne w1 w3 w4 hx
end NXR3
