/-! STEPS: next reads a FORM, whole -/
section NXF2
variable {IA : Nat → Nat → Int32} {LA : Nat → Nat → Int64} {RA : Nat → Nat → Option Nat} {SC : Nat → Nat → Int32} {dr : Nat} {tl : Nat → va_E} {N m dp pl p sc w : Nat}
theorem nx_form (hR : RR IA LA RA SC dr tl N) (hD : RdR IA LA RA SC dr tl N m (dp + 1) pl 0 p sc) (hw : SC (26 + (dp + 1)) 1 = nI w) (hw2 : 2 ≤ w) (hw8 : w ≤ 8) (hwm : (if dp + 1 = 0 then 2 else IA 41 (7 + (dp + 1))) = nI w) (hx : p + w ≤ 32 * m) (hx1 : rdN (IA 33) p w = 3) : NxR (N, HC IA LA RA SC dr tl) := by
  have hD0 := hD
  have hag := RdR_ag hD
  have h3 := hR.2.2.1
  have h56 := hR.1
  obtain ⟨⟨a1, a2, a3, a4⟩, a5, ⟨a6, a7, a8⟩, ⟨a9, a10⟩, a11, ⟨a12, a13, a14, a15⟩, a16⟩ := hD
  obtain ⟨b1, b2, b3, b4⟩ := a11 rfl
  have hd := a16.1
  have hne : ¬ (dp + 1 = 0 ∧ p = 32 * m) := fun z => absurd z.1 (by omega)
  obtain ⟨id, w9, t, c, st, r1, r2, r3, r4, r5, r6, -, r7, r8⟩ := SdR_row a16 (by omega)
  have r4 : cntB IA 1 (7 + (dp + 1)) id t c := r4
  have r5 : SC (26 + (dp + 1)) 0 = nI id := r5
  have r6 : SC (26 + (dp + 1)) 2 = nI t := r6
  have hw' : SC1 SC (26 + (dp + 1)) 1 = nI w := by rw [SC1_ne (by omega)]; exact hw
  have hrow := rowX_v (dp := dp + 1) r5 r1 r6 r2
  have hrow1 : rowX (SC1 SC (26 + (dp + 1))) (dp + 1) = rowX (SC (26 + (dp + 1))) (dp + 1) := by rw [SC1_ne (by omega)]
  have hgx : rdN (gR IA) p w = 3 := by rw [rdN_cg hag w hx]; exact hx1
  have hpre : ∀ {r : pm_V} {h' : pm_H} {bc bs : Nat}, pm_X (pm_call (0 + 12)) jm_45 4 (some .int) (0 + 12) bc bs 39 [(0, .ref 20), (1, .ref (26 + (dp + 1))), (2, .int (nI 3))] [] 0 0 (N, HR IA LA RA (SC1 SC) dr tl (p + w) (IA 34)) r h' → pm_call (0 + 13) 45 [.ref 20, .ref (26 + (dp + 1))] (N, HR IA LA RA (SC1 SC) dr tl p (IA 34)) r h' bc bs := fun hX => by
    refine r_it_pre (SC := SC1 SC) a1 a3 b3 hd hw' (by omega) hw8 hx ?_
    rw [hx1]
    exact r_it_n (by omega) (by omega) a5 hd (fun z => absurd z (by omega)) (fun _ => hX)
  by_cases hbad : (id = 0 ∧ t = 0) ∨ c = 8
  · have hcx : rowX (SC1 SC (26 + (dp + 1))) (dp + 1) = -1 ∨ ∃ ro, rowX (SC1 SC (26 + (dp + 1))) (dp + 1) = nI ro ∧ ro < 71 ∧ IA 25 ro = nI 8 := by
      rw [hrow1, hrow]
      by_cases h00 : id = 0 ∧ t = 0
      · rw [if_pos h00.1, if_pos h00.2]
        exact Or.inl rfl
      · have hc8 : c = 8 := hbad.resolve_left h00
        subst hc8
        by_cases hid : id = 0
        · rw [if_pos hid, if_neg (fun z => h00 ⟨hid, z⟩)]
          exact Or.inr ⟨t, rfl, by omega, r8 hid⟩
        · rw [if_neg hid]
          exact Or.inr ⟨64 + (dp + 1), rfl, by omega, (r7 (by omega)).2⟩
    obtain ⟨L, q', hq', hL, hmm⟩ := m_formInX (d := 9) (IA := va_up IA 34 (IA 34)) (LA := LA) (RA := RA) (SC := thr (SCq SC (p + w)) 0) (dr := dr) (tl := tl) (N := N) (p := p + w) (rd := IA 54) (m := m) (dp := dp + 1) (pl := pl) a2 a3 hx a16.2.1 hd (by omega) r4 a9 (by omega) (hbad.imp (fun z => z) Or.inl)
    refine nx_X (N' := N) (tl' := tl) (q := p + w) (fr := IA 34) (rd := IA 54) (L := L) (c1 := 4) (s1 := 25) hR hD0 hne (Nat.le_refl _) (fun _ _ => rfl) hL (by omega) (by omega) (hpre (r_it_3X (r_formR (d := 0) (SC := SC1 SC) a5 hd h3 hcx))) ?_
    exact mo_bad (d := 9) (IA := va_up IA 34 (IA 34)) (SC := SCq SC (p + w)) (x := 3) (q := q') a16.2.1 hd b2 hwm a2 a3 hw8 hx hgx (Or.inl (by omega)) (Or.inr (Or.inr (Or.inr (Or.inl ⟨rfl, hmm⟩))))
  · have h00 : ¬ (id = 0 ∧ t = 0) := fun z => hbad (Or.inl z)
    have hc8 : c < 8 := by omega
    obtain ⟨ro, hx9, hro, hG, hcase⟩ : ∃ ro, rowX (SC1 SC (26 + (dp + 1))) (dp + 1) = nI ro ∧ ro < 71 ∧ IA 25 ro = nI c ∧ ((0 < id ∧ ro = 64 + (dp + 1) ∧ BkR 1 (dp + 1) (IA 25) (RA 24) (SC (26 + (dp + 1))) IA (Gd fmN (IA 49) (LA 48) tl N dr 150 (150 + pl)) (fun st => st ≤ m ∧ SC (26 + (dp + 1)) 4 = IA 37 (128 + (st - 1))) id w9 t c st) ∨ (id = 0 ∧ ro = t ∧ 1 ≤ t ∧ t < 64 ∧ IA 25 t = nI c)) := by
      rw [hrow1]
      by_cases hid : id = 0
      · have ht : ¬ t = 0 := fun z => h00 ⟨hid, z⟩
        rw [if_pos hid, if_neg ht] at hrow
        exact ⟨t, hrow, by omega, r8 hid, Or.inr ⟨hid, rfl, by omega, r2, r8 hid⟩⟩
      · rw [if_neg hid] at hrow
        obtain ⟨z1, z2⟩ := r7 (by omega)
        exact ⟨64 + (dp + 1), hrow, by omega, z2, Or.inl ⟨by omega, rfl, z1⟩⟩
    cases hE : pF (IA 33) m (p + w) with
    | none =>
      obtain ⟨N', tl', q, hN1, hN2, hq, ht, hcl⟩ := r_formX (d := 0) (IA := IA) (LA := LA) (RA := RA) (SC := SC1 SC) (dr := dr) (tl := tl) (N := N) (fr := IA 34) (p := p + w) h56 a1 a3 hx a5 hd h3 hx9 hro hG hc8 hE
      obtain ⟨L, q', hq', hL, hmm⟩ := m_formInX (d := 9) (IA := va_up IA 34 (IA 34)) (LA := LA) (RA := RA) (SC := thr (SCq SC q) 0) (dr := dr) (tl := tl') (N := N') (p := p + w) (rd := IA 54) (m := m) (dp := dp + 1) (pl := pl) a2 a3 hx a16.2.1 hd (by omega) r4 a9 (by omega) (Or.inr (Or.inr (show pF (gR IA) m (p + w) = none by rw [pF_cg hag]; exact hE)))
      refine nx_X (N' := N') (tl' := tl') (q := q) (fr := IA 34) (rd := IA 54) (L := L) (c1 := 4) (s1 := 25) hR hD0 hne hN1 ht hL (by omega) (by omega) (hpre (r_it_3X hcl)) ?_
      exact mo_bad (d := 9) (IA := va_up IA 34 (IA 34)) (SC := SCq SC q) (x := 3) (q := q') a16.2.1 hd b2 hwm a2 a3 hw8 hx hgx (Or.inl (by omega)) (Or.inr (Or.inr (Or.inr (Or.inl ⟨rfl, hmm⟩))))
    | some z =>
      obtain ⟨n, kk, vv, q⟩ := z
      obtain ⟨g1, g2, g3, g4, g5⟩ := pF_ge hE
      obtain ⟨tl', hf, ht, hcl⟩ := r_form (d := 0) (IA := IA) (LA := LA) (RA := RA) (SC := SC1 SC) (dr := dr) (tl := tl) (N := N) (fr := IA 34) (p := p + w) h56 a1 a3 hx a5 hd h3 hx9 hro hG hc8 hE
      refine nx_G (N' := N + 3) (tl' := tl') (q := q) (k := 2) (x := 3) (c1 := 3) (s1 := 19) (IAm := fiIA (foIA (va_up IA 34 (IA 34)) ro c n) (dp + 1) id t c pl n) (rd := upd (upd (IA 54) 0 (nI n)) 1 (nI (c + 4))) hR hD0 hne (by omega) (by omega) (by omega) (by omega) rfl (hpre (r_it_3 hcl)) a7 a2 a16.2.1 b2 (fun LA2 z1 z2 => ?_)
      obtain ⟨L, hO, hL, hmm⟩ := m_formIn (d := 9) (IA := foIA (va_up IA 34 (IA 34)) ro c n) (LA := LA2) (RA := va_up RA 24 (va_up (RA 24) (8 * ro + c) (some N))) (SC := thr (va_up (foSC (SCq SC q)) 20 (upd (foSC (SCq SC q) 20) 4 0)) 0) (dr := dr) (tl := tl') (N := N + 3) (p := p + w) (rd := IA 54) (m := m) (dp := dp + 1) (pl := pl) (i := id) (t := t) (c := c) a2 a3 hx a16.2.1 hd (by omega) r4 (fun z => Nat.pos_of_ne_zero (fun z2 => h00 ⟨z, z2⟩)) hc8 a9 (by omega) (show pF (gR IA) m (p + w) = _ by rw [pF_cg hag]; exact hE)
      refine ⟨va_up LA2 48 L, rfl, ?_, RR_nF hR hD0 (by omega) g2 g3 g4 g5 hc8 hcase hf ht hO hL z1 z2⟩
      exact mo_good (d := 9) (IA := foIA (va_up IA 34 (IA 34)) ro c n) (SC := va_up (foSC (SCq SC q)) 20 (upd (foSC (SCq SC q) 20) 4 0)) (x := 3) (q := q) (k := 2) a16.2.1 hd b2 hwm a2 a3 hw8 hx hgx (Or.inl (by omega)) (by omega) (Or.inr (Or.inr (Or.inr (Or.inl ⟨rfl, hmm⟩))))
end NXF2
