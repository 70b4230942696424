/-! STEPS: next reads a record, whole; next -/
section NXR2
variable {IA : Nat → Nat → Int32} {LA : Nat → Nat → Int64} {RA : Nat → Nat → Option Nat} {SC : Nat → Nat → Int32} {dr : Nat} {tl : Nat → va_E} {N m dp pl p sc w : Nat}
theorem nmT_fr {fr0 : Nat → Int32} {nu : Nat → Nat} {t : Nat} (hn : ∀ i, i < t → nu i < 2 ^ 31) : nmT (frN fr0 nu t) t ↔ plC nu t := by
  have e : ∀ i, i < t → frN fr0 nu t i = nI (nu i) := fun i hi => by unfold frN; rw [if_pos hi]
  constructor
  · rintro ⟨h1, h2, h3, h4⟩
    subst h1
    rw [e 0 (by omega)] at h2
    rw [e 1 (by omega), nI_toInt (hn 1 (by omega))] at h3 h4
    exact ⟨rfl, (nI_eqI (b := 1) (hn 0 (by omega)) (by omega)).mp h2, by omega, by omega⟩
  · rintro ⟨h1, h2, h3, h4⟩
    subst h1
    refine ⟨rfl, by rw [e 0 (by omega), h2]; rfl, ?_, ?_⟩
    · rw [e 1 (by omega), nI_toInt (hn 1 (by omega))]; omega
    · rw [e 1 (by omega), nI_toInt (hn 1 (by omega))]; omega
/-- the class's numbers after a record -/
abbrev SCr (SC : Nat → Nat → Int32) (dp q t : Nat) (v : Int32) : Nat → Nat → Int32 := va_up (if SC1 SC (26 + dp) 0 = 0 then va_up (SCq SC q) (26 + dp) (upd (SC1 SC (26 + dp)) 2 v) else SCq SC q) 20 (upd (upd (SC1 SC 20) 3 (nI q)) 7 (nI (t + 2)))
theorem SCr_ne {q t k : Nat} {v : Int32} (h : k ≠ 20) (h2 : k ≠ 26 + dp) : SCr SC dp q t v k = SC k := by
  refine (va_up_ne _ _ h).trans ?_
  split
  · rw [va_up_ne _ _ h2]
    exact SCq_ne h
  · exact SCq_ne h
theorem nx_G2 {N' c1 s1 x : Nat} {tl' : Nat → va_E} {v : Int32} {IAc1 : Nat → Nat → Int32} {RAc : Nat → Nat → Option Nat} {SCc : Nat → Nat → Int32} (hR : RR IA LA RA SC dr tl N) (hD : RdR IA LA RA SC dr tl N m dp pl 0 p sc) (hne : ¬ (dp = 0 ∧ p = 32 * m)) (hc1 : c1 ≤ 4) (hs1 : s1 ≤ 25) (hv : v = nxR x)
    (hcl : pm_call (0 + 13) 45 [.ref 20, .ref (26 + dp)] (N, HR IA LA RA (SC1 SC) dr tl p (IA 34)) (.inl (some (.int v))) (N', HC IAc1 LA RAc SCc dr tl') c1 s1)
    (e20 : SCc 36 20 = 0) (e2 : SCc 36 2 = nI m) (e39 : IAc1 39 1 = nI dp) (e38 : IAc1 38 1 = nI p)
    (hmo : ∀ LA2 : Nat → Nat → Int64, LA2 48 = LA 48 → LA2 51 = LA 51 → ∃ h2, pm_X (pm_call (9 + 5)) jm_148 5 (some .int) (9 + 5) 0 0 57 [(0, .ref 36)] [] 0 0 (N', HC IAc1 LA2 RAc (thr (va_up SCc 20 (upd (SCc 20) 4 0)) 0) dr tl') (.inl (some (.int (nxR x)))) h2 ∧ St h2 ∧ h2.2 55 = .inl (1, 1, .inr (.inl (LA2 55))) ∧ pm_call 15 99 [.ref 36] h2 (.inl (some (.int 0))) h2 0 0) : NxR (N, HC IA LA RA SC dr tl) := by
  subst hv
  have h3 := hR.2.2.1
  obtain ⟨⟨a1, a2, a3, a4⟩, a5, ⟨a6, a7, a8⟩, ⟨a9, a10⟩, a11, ⟨a12, a13, a14, a15⟩, a16⟩ := hD
  obtain ⟨b1, b2, b3, b4⟩ := a11 rfl
  refine ⟨_, _, _, _, _, _, _, rfl, _, _, _, _, _, _, c1, s1, b_next (r_on (d := 0) a6 a5 a16.1 h3 a1 a3 b1 b3 hne hcl), hc1, hs1, Or.inl ⟨_, rfl, fun LA2 z1 z2 => ?_⟩⟩
  obtain ⟨h2, hx1, hx2, hx3⟩ := hmo LA2 z1 z2
  exact ⟨_, m_next_0 (d := 14) (dp := dp) (m := m) (p := p) e20 e39 a16.1 e2 a3 e38 b3 (fun z => absurd z hne) (fun _ => hx1), hx2, hx3⟩
theorem nx_plain (hR : RR IA LA RA SC dr tl N) (hD : RdR IA LA RA SC dr tl N m (dp + 1) pl 0 p sc) (hw : SC (26 + (dp + 1)) 1 = nI w) (hw2 : 2 ≤ w) (hw8 : w ≤ 8) (hwm : (if dp + 1 = 0 then 2 else IA 41 (7 + (dp + 1))) = nI w) (hx : p + w ≤ 32 * m) (hx1 : rdN (IA 33) p w = 2) : NxR (N, HC IA LA RA SC dr tl) := by
  have hD0 := hD
  have hag := RdR_ag hD
  have h3 := hR.2.2.1
  obtain ⟨⟨a1, a2, a3, a4⟩, a5, ⟨a6, a7, a8⟩, ⟨a9, a10⟩, a11, ⟨a12, a13, a14, a15⟩, a16⟩ := hD
  obtain ⟨b1, b2, b3, b4⟩ := a11 rfl
  have hd := a16.1
  have hne : ¬ (dp + 1 = 0 ∧ p = 32 * m) := fun z => absurd z.1 (by omega)
  have hinf : SC (26 + (dp + 1)) 0 = 0 ↔ (0 < dp + 1 ∧ IA 40 (7 + (dp + 1)) = 0) := SdR_info a16
  have hw' : SC1 SC (26 + (dp + 1)) 1 = nI w := by rw [SC1_ne (by omega)]; exact hw
  have hi' : SC1 SC (26 + (dp + 1)) = SC (26 + (dp + 1)) := SC1_ne (by omega)
  have hgx : rdN (gR IA) p w = 2 := by rw [rdN_cg hag w hx]; exact hx1
  have hpre : ∀ {r : pm_V} {h' : pm_H} {bc bs : Nat}, pm_X (pm_call (0 + 12)) jm_45 4 (some .int) (0 + 12) bc bs 39 [(0, .ref 20), (1, .ref (26 + (dp + 1))), (2, .int (nI 2))] [] 0 0 (N, HR IA LA RA (SC1 SC) dr tl (p + w) (IA 34)) r h' → pm_call (0 + 13) 45 [.ref 20, .ref (26 + (dp + 1))] (N, HR IA LA RA (SC1 SC) dr tl p (IA 34)) r h' bc bs := fun hX => by
    refine r_it_pre (SC := SC1 SC) a1 a3 b3 hd hw' (by omega) hw8 hx ?_
    rw [hx1]
    exact r_it_n (by omega) (by omega) a5 hd (fun z => absurd z (by omega)) (fun _ => hX)
  cases hE : pPl (IA 33) m (p + w) with
  | none =>
    obtain ⟨q, fr', hq, hcl⟩ := r_plainX (d := 1) (IA := IA) (LA := LA) (RA := RA) (SC := SC1 SC) (dr := dr) (tl := tl) (N := N) (fr := IA 34) (p := p + w) a1 a3 hx hE
    obtain ⟨v, rd', q', hq', hmm⟩ := m_plainInX (d := 11) (IA := va_up IA 34 fr') (LA := LA) (RA := RA) (SC := thr (SCq SC q) 0) (dr := dr) (tl := tl) (N := N) (p := p + w) (rd := IA 54) (m := m) (dp := dp + 1) a2 a3 hx a16.2.1 hd (Or.inl (show pPl (gR IA) m (p + w) = none by rw [pPl_cg hag]; exact hE))
    refine nx_X (N' := N) (tl' := tl) (q := q) (fr := fr') (rd := rd') (L := LA 48) (c1 := 1) (s1 := 6) hR hD0 hne (Nat.le_refl _) (fun _ _ => rfl) (fun _ _ => rfl) (by omega) (by omega) (hpre (r_it_2X hcl)) ?_
    rw [cw_id LA 48]
    exact mo_bad (d := 9) (IA := va_up IA 34 fr') (SC := SCq SC q) (x := 2) (q := q') a16.2.1 hd b2 hwm a2 a3 hw8 hx hgx (Or.inl (by omega)) (Or.inr (Or.inr (Or.inl ⟨rfl, hmm⟩)))
  | some z =>
    obtain ⟨t, nu, q⟩ := z
    obtain ⟨t1, t2, t3, t4, t5⟩ := pPl_b hE
    have hcl := r_plain (d := 1) (IA := IA) (LA := LA) (RA := RA) (SC := SC1 SC) (dr := dr) (tl := tl) (N := N) (fr := IA 34) (p := p + w) a1 a3 hx hE
    have hEg : pPl (gR IA) m (p + w) = some (t, nu, q) := by rw [pPl_cg hag]; exact hE
    have hnm := nmT_fr (fr0 := IA 34) t5
    by_cases hbad : SC (26 + (dp + 1)) 0 = 0 ∧ ¬ plC nu t
    · obtain ⟨v, rd', q', hq', hmm⟩ := m_plainInX (d := 11) (IA := va_up IA 34 (frN (IA 34) nu t)) (LA := LA) (RA := RA) (SC := thr (SCq SC q) 0) (dr := dr) (tl := tl) (N := N) (p := p + w) (rd := IA 54) (m := m) (dp := dp + 1) a2 a3 hx a16.2.1 hd (Or.inr ⟨hinf.mp hbad.1, t, nu, q, hEg, hbad.2⟩)
      refine nx_X (N' := N) (tl' := tl) (q := q) (fr := frN (IA 34) nu t) (rd := rd') (L := LA 48) (c1 := 1) (s1 := 6) hR hD0 hne (Nat.le_refl _) (fun _ _ => rfl) (fun _ _ => rfl) (by omega) (by omega) (hpre (r_it_2 hcl (r_it_84X (SC := SC1 SC) a5 hd h3 t2 (by rw [hi']; exact hbad.1) (fun z => hbad.2 (hnm.mp z))))) ?_
      rw [cw_id LA 48]
      exact mo_bad (d := 9) (IA := va_up IA 34 (frN (IA 34) nu t)) (SC := SCq SC q) (x := 2) (q := q') a16.2.1 hd b2 hwm a2 a3 hw8 hx hgx (Or.inl (by omega)) (Or.inr (Or.inr (Or.inl ⟨rfl, hmm⟩)))
    · have hcl2 := hpre (r_it_2 hcl (r_it_84 (x := 2) (SC := SC1 SC) a5 hd h3 t1 t2 (fun z => hnm.mpr (Classical.byContradiction fun z2 => hbad ⟨by rw [← hi']; exact z, z2⟩))))
      have e36 : SCr SC (dp + 1) q t (frN (IA 34) nu t 1) 36 = SC 36 := SCr_ne (by omega) (by omega)
      have hS36 : va_up (SCr SC (dp + 1) q t (frN (IA 34) nu t 1)) 20 (upd (SCr SC (dp + 1) q t (frN (IA 34) nu t 1) 20) 4 0) 36 2 = nI m := by
        rw [va_up_ne _ _ (by omega), e36]
        exact a2
      by_cases h0 : SC (26 + (dp + 1)) 0 = 0
      · have hpc : plC nu t := Classical.byContradiction fun z => hbad ⟨h0, z⟩
        refine nx_G2 (N' := N) (tl' := tl) (x := 2) (c1 := 0) (s1 := 0) hR hD0 hne (by omega) (by omega) rfl hcl2 (by show SCr SC (dp + 1) q t (frN (IA 34) nu t 1) 36 20 = 0; rw [e36]; exact a7) (by show SCr SC (dp + 1) q t (frN (IA 34) nu t 1) 36 2 = nI m; rw [e36]; exact a2) a16.2.1 b2 (fun LA2 z1 z2 => ?_)
        obtain ⟨rd', hrd, hmm⟩ := m_plainInI (d := 11) (IA := va_up (va_up IA 34 (frN (IA 34) nu t)) 35 (shR (va_up IA 34 (frN (IA 34) nu t)) (nI 2) t)) (LA := LA2) (RA := RA) (SC := thr (va_up (SCr SC (dp + 1) q t (frN (IA 34) nu t 1)) 20 (upd (SCr SC (dp + 1) q t (frN (IA 34) nu t 1) 20) 4 0)) 0) (dr := dr) (tl := tl) (N := N) (p := p + w) (rd := IA 54) (m := m) (dp := dp + 1) hS36 a3 hx a16.2.1 hd (hinf.mp h0) hEg hpc
        have ht2 : t = 2 := hpc.1
        subst ht2
        refine ⟨_, mo_good (d := 9) (IA := va_up (va_up IA 34 (frN (IA 34) nu 2)) 35 (shR (va_up IA 34 (frN (IA 34) nu 2)) (nI 2) 2)) (SC := va_up (SCr SC (dp + 1) q 2 (frN (IA 34) nu 2 1)) 20 (upd (SCr SC (dp + 1) q 2 (frN (IA 34) nu 2 1) 20) 4 0)) (x := 2) (q := q) (k := 2 + 2) a16.2.1 hd b2 hwm hS36 a3 hw8 hx hgx (Or.inl (by omega)) (by omega) (Or.inr (Or.inr (Or.inl ⟨rfl, hmm⟩))), ⟨_, _, _, _, _, _, _, rfl, RR_nR (t := 2) hR hD0 (by omega) t4 (by omega) (Or.inr ⟨nu 1, by have := hpc.2.2.2; omega, ?_, rfl⟩) (fun k k34 k35 k43 => (va_up_ne _ _ k43).trans ((va_up_ne _ _ k35).trans (va_up_ne _ _ k34))) (shR_rd (by omega) hrd) (fun k k20 k26 => SCr_ne k20 k26) rfl rfl rfl z1 z2⟩, rfl, m_thrown (d := 14)⟩
        refine (va_up_ne _ _ (by omega)).trans ?_
        rw [if_pos (by rw [hi']; exact h0), va_up_self, hi']
        rfl
      · refine nx_G2 (N' := N) (tl' := tl) (x := 2) (c1 := 0) (s1 := 0) hR hD0 hne (by omega) (by omega) rfl hcl2 (by show SCr SC (dp + 1) q t (frN (IA 34) nu t 1) 36 20 = 0; rw [e36]; exact a7) (by show SCr SC (dp + 1) q t (frN (IA 34) nu t 1) 36 2 = nI m; rw [e36]; exact a2) a16.2.1 b2 (fun LA2 z1 z2 => ?_)
        obtain ⟨rd', hrd, hmm⟩ := m_plainIn (d := 11) (IA := va_up (va_up IA 34 (frN (IA 34) nu t)) 35 (shR (va_up IA 34 (frN (IA 34) nu t)) (nI 2) t)) (LA := LA2) (RA := RA) (SC := thr (va_up (SCr SC (dp + 1) q t (frN (IA 34) nu t 1)) 20 (upd (SCr SC (dp + 1) q t (frN (IA 34) nu t 1) 20) 4 0)) 0) (dr := dr) (tl := tl) (N := N) (p := p + w) (rd := IA 54) (m := m) (dp := dp + 1) hS36 a3 hx a16.2.1 hd (fun z => h0 (hinf.mpr z)) hEg
        refine ⟨_, mo_good (d := 9) (IA := va_up (va_up IA 34 (frN (IA 34) nu t)) 35 (shR (va_up IA 34 (frN (IA 34) nu t)) (nI 2) t)) (SC := va_up (SCr SC (dp + 1) q t (frN (IA 34) nu t 1)) 20 (upd (SCr SC (dp + 1) q t (frN (IA 34) nu t 1) 20) 4 0)) (x := 2) (q := q) (k := t + 2) a16.2.1 hd b2 hwm hS36 a3 hw8 hx hgx (Or.inl (by omega)) (by omega) (Or.inr (Or.inr (Or.inl ⟨rfl, hmm⟩))), ⟨_, _, _, _, _, _, _, rfl, RR_nR (t := t) hR hD0 (by omega) t4 t2 (Or.inl ⟨?_, rfl⟩) (fun k k34 k35 k43 => (va_up_ne _ _ k35).trans (va_up_ne _ _ k34)) (shR_rd t1 hrd) (fun k k20 k26 => SCr_ne k20 k26) rfl rfl rfl z1 z2⟩, rfl, m_thrown (d := 14)⟩
        refine (va_up_ne _ _ (by omega)).trans ?_
        rw [if_neg (by rw [hi']; exact h0)]
        exact SCq_ne (by omega)
end NXR2
