/-! STEPS: next reads an ENTER, whole -/
section NXE2
variable {IA : Nat → Nat → Int32} {LA : Nat → Nat → Int64} {RA : Nat → Nat → Option Nat} {SC : Nat → Nat → Int32} {dr : Nat} {tl : Nat → va_E} {N m dp pl p sc w : Nat}
theorem nx_enter (hR : RR IA LA RA SC dr tl N) (hD : RdR IA LA RA SC dr tl N m dp pl 0 p sc) (hne : ¬ (dp = 0 ∧ p = 32 * m)) (hw : SC (26 + dp) 1 = nI w) (hw2 : 2 ≤ w) (hw8 : w ≤ 8) (hwm : (if dp = 0 then 2 else IA 41 (7 + dp)) = nI w) (hx : p + w ≤ 32 * m) (hx1 : rdN (IA 33) p w = 1) : NxR (N, HC IA LA RA SC dr tl) := by
  have hD0 := hD
  have hag := RdR_ag hD
  have h3 := hR.2.2.1
  obtain ⟨⟨a1, a2, a3, a4⟩, a5, ⟨a6, a7, a8⟩, ⟨a9, a10⟩, a11, ⟨a12, a13, a14, a15⟩, a16⟩ := hD
  obtain ⟨b1, b2, b3, b4⟩ := a11 rfl
  have hd := a16.1
  have hinf : SC (26 + dp) 0 = 0 ↔ (0 < dp ∧ IA 40 (7 + dp) = 0) := SdR_info a16
  have hw' : SC1 SC (26 + dp) 1 = nI w := by rw [SC1_ne (by omega)]; exact hw
  have hi' : SC1 SC (26 + dp) 0 = SC (26 + dp) 0 := by rw [SC1_ne (by omega)]
  have hgx : rdN (gR IA) p w = 1 := by rw [rdN_cg hag w hx]; exact hx1
  have hpre : ∀ {r : pm_V} {h' : pm_H} {bc bs : Nat}, pm_X (pm_call (0 + 12)) jm_45 4 (some .int) (0 + 12) bc bs 9 [(0, .ref 20), (1, .ref (26 + dp)), (2, .int (nI 1))] [] 0 0 (N, HR IA LA RA (SC1 SC) dr tl (p + w) (IA 34)) r h' → pm_call (0 + 13) 45 [.ref 20, .ref (26 + dp)] (N, HR IA LA RA (SC1 SC) dr tl p (IA 34)) r h' bc bs := fun hX => by
    refine r_it_pre (SC := SC1 SC) a1 a3 b3 hd hw' (by omega) hw8 hx ?_
    rw [hx1]
    exact hX
  by_cases hbad : dp = 6 ∨ SC (26 + dp) 0 = 0
  · obtain ⟨q', hq', hmm⟩ := m_enterInX (d := 11) (IA := va_up IA 34 (IA 34)) (LA := LA) (RA := RA) (SC := thr (SCq SC (p + w)) 0) (dr := dr) (tl := tl) (N := N) (p := p + w) (rd := IA 54) (m := m) a2 a3 hx a16.2.1 hd (Or.inl (hbad.imp id hinf.mp))
    refine nx_X (N' := N) (tl' := tl) (q := p + w) (fr := IA 34) (rd := IA 54) (L := LA 48) (c1 := 1) (s1 := 6) hR hD0 hne (Nat.le_refl _) (fun _ _ => rfl) (fun _ _ => rfl) (by omega) (by omega) (hpre (r_it_1X (r_enterD (d := 1) (SC := SC1 SC) a5 hd h3 (hbad.imp id (fun z => by rw [hi']; exact z))))) ?_
    rw [cw_id LA 48]
    exact mo_bad (d := 9) (IA := va_up IA 34 (IA 34)) (SC := SCq SC (p + w)) (x := 1) (q := q') a16.2.1 hd b2 hwm a2 a3 hw8 hx hgx (Or.inr rfl) (Or.inr (Or.inl ⟨rfl, hmm⟩))
  · have hd6 : dp < 6 := by omega
    have hI : ¬ SC1 SC (26 + dp) 0 = 0 := fun z => hbad (Or.inr (hi' ▸ z))
    have hI2 : ¬ (0 < dp ∧ IA 40 (7 + dp) = 0) := fun z => hbad (Or.inr (hinf.mpr z))
    cases hE : pE (IA 33) m (p + w) with
    | none =>
      obtain ⟨q, hq, hcl⟩ := r_enterX (d := 1) (IA := IA) (LA := LA) (RA := RA) (SC := SC1 SC) (dr := dr) (tl := tl) (N := N) (fr := IA 34) (p := p + w) a1 a3 hx a5 hd6 h3 hI hE
      obtain ⟨q', hq', hmm⟩ := m_enterInX (d := 11) (IA := va_up IA 34 (IA 34)) (LA := LA) (RA := RA) (SC := thr (SCq SC q) 0) (dr := dr) (tl := tl) (N := N) (p := p + w) (rd := IA 54) (m := m) a2 a3 hx a16.2.1 hd (Or.inr (by rw [show gR (va_up IA 34 (IA 34)) = gR IA from rfl, pE_cg hag]; exact hE))
      refine nx_X (N' := N) (tl' := tl) (q := q) (fr := IA 34) (rd := IA 54) (L := LA 48) (c1 := 1) (s1 := 6) hR hD0 hne (Nat.le_refl _) (fun _ _ => rfl) (fun _ _ => rfl) (by omega) (by omega) (hpre (r_it_1X hcl)) ?_
      rw [cw_id LA 48]
      exact mo_bad (d := 9) (IA := va_up IA 34 (IA 34)) (SC := SCq SC q) (x := 1) (q := q') a16.2.1 hd b2 hwm a2 a3 hw8 hx hgx (Or.inr rfl) (Or.inr (Or.inl ⟨rfl, hmm⟩))
    | some z =>
      obtain ⟨i, wd, l, q⟩ := z
      obtain ⟨p1, p2, g1, g2, hi, hwd2, hwd8, hz, hgl⟩ := pE_some hE
      obtain ⟨t1, t2, t3⟩ := gC_b g1
      obtain ⟨u1, u2, u3⟩ := gC_b g2
      obtain ⟨v1, v2, v3⟩ := gL_b hgl
      have hq0 : q % 32 = 0 := by have := zN_al p2; omega
      have hl : nI l = IA 37 (128 + (q / 32 - 1)) := by
        have e : l = rdN (IA 33) (p2 + zN p2) 32 := by
          unfold gL at hgl
          split at hgl
          · split at hgl
            · cases hgl; rfl
            · cases hgl
          · cases hgl
        rw [e, rdN_word _ (zN_al p2), show (p2 + zN p2) / 32 = q / 32 - 1 by omega]
        exact a4 _ (by omega)
      obtain ⟨mm, hm0, hm8, hmG, hmI, hmF⟩ := a16.2.2.2.2.1 i hi
      have hcl := r_enter (d := 1) (IA := IA) (LA := LA) (RA := RA) (SC := SC1 SC) (dr := dr) (tl := tl) (N := N) (fr := IA 34) (p := p + w) a1 a3 hx a5 hd6 h3 hI hE hmG hm8 (fun j hj => by
        obtain ⟨y, f, q1, q2, q3⟩ := hmF j hj
        obtain ⟨fs, q4⟩ := Gd_HC (IA := va_up IA 34 (IA 34)) (LA := LA) (RA := RA) (SC := SCq SC q) q3
        exact ⟨y, fs, q1, q4⟩)
      have e36 : enSC (SCq SC q) dp i wd l q 36 = SC 36 := by
        unfold enSC
        rw [va_up_ne _ _ (by omega), va_up_ne _ _ (by omega), va_up_ne _ _ (by omega)]
        exact SCq_ne (by omega)
      refine nx_G (N' := N) (tl' := tl) (q := q) (k := 3) (x := 1) (c1 := 0) (s1 := 0) (IAm := bgIA (enIA (va_up IA 34 (IA 34)) dp i wd l mm) 1 dp i (nI wd) (nI (q / 32 - 1)) mm) (rd := enR (IA 54) i wd l) hR hD0 hne (by omega) (by omega) (by omega) (by omega) rfl (hpre (r_it_1 hcl)) (by rw [e36]; exact a7) (by rw [e36]; exact a2) a16.2.1 b2 (fun LA2 z1 z2 => ⟨LA2, rfl, ?_, RR_nE hR hD0 hd6 hi ⟨hwd2, hwd8⟩ (by omega) v3 (by omega) hq0 hl hmG hm8 z1 z2⟩)
      have hS36 : va_up (enSC (SCq SC q) dp i wd l q) 20 (upd (enSC (SCq SC q) dp i wd l q 20) 4 0) 36 2 = nI m := by
        rw [va_up_ne _ _ (by omega), e36]
        exact a2
      have hmm := m_enterIn (d := 11) (IA := enIA (va_up IA 34 (IA 34)) dp i wd l mm) (LA := LA2) (RA := va_up RA 24 (frCk (RA 24) i (64 + (dp + 1)) mm)) (SC := thr (va_up (enSC (SCq SC q) dp i wd l q) 20 (upd (enSC (SCq SC q) dp i wd l q 20) 4 0)) 0) (dr := dr) (tl := tl) (N := N) (p := p + w) (rd := IA 54) (m := m) (dp := dp) hS36 a3 hx a16.2.1 hd6 hI2 (show pE (gR IA) m (p + w) = _ by rw [pE_cg hag]; exact hE) hmI hm8
      exact mo_good (d := 9) (IA := enIA (va_up IA 34 (IA 34)) dp i wd l mm) (SC := va_up (enSC (SCq SC q) dp i wd l q) 20 (upd (enSC (SCq SC q) dp i wd l q 20) 4 0)) (x := 1) (q := q) (k := 3) a16.2.1 hd b2 hwm hS36 a3 hw8 hx hgx (Or.inr rfl) (by omega) (Or.inr (Or.inl ⟨rfl, hmm⟩))
end NXE2
