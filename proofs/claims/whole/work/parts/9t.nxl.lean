/-! STEPS: next reads a LEAVE -/
section NXL
variable {IA : Nat → Nat → Int32} {LA LA2 : Nat → Nat → Int64} {RA : Nat → Nat → Option Nat} {SC : Nat → Nat → Int32} {dr : Nat} {tl : Nat → va_E} {N m dp pl p sc w : Nat}
theorem sub_s {a : Int32} {k : Nat} : a - nI (k + 1) = a - nI k - 1 := by
  rw [← nI_1]
  apply Int32.toBitVec_inj.mp
  simp only [Int32.toBitVec_sub, Int32.toBitVec_add]
  bv_omega
theorem RR_nL {q : Nat} {rd0 : Nat → Int32} (hR : RR IA LA RA SC dr tl N) (hD : RdR IA LA RA SC dr tl N m (dp + 1) pl 0 p sc) (hpq : p ≤ q) (hqm : q ≤ 32 * m) (hid : SC (26 + (dp + 1)) 0 = IA 40 (7 + (dp + 1))) (z1 : LA2 48 = LA 48) (z2 : LA2 51 = LA 51) :
    RR (va_up (va_up (va_up (va_up (leIA (va_up IA 34 (IA 34)) (SC1 SC (26 + (dp + 1)) 0)) 39 (upd (IA 39) 1 (nI dp))) 38 (upd (IA 38) 1 (nI q))) 54 (upd rd0 0 (IA 40 (7 + (dp + 1))))) 53 (mfCk (IA 53) (upd rd0 0 (IA 40 (7 + (dp + 1)))) 0 0 1)) LA2 RA (nxG (va_up (leSC (SCq SC q) dp) 20 (upd (leSC (SCq SC q) dp 20) 4 0)) 1) dr tl N := by
  obtain ⟨⟨a1, a2, a3, a4⟩, a5, ⟨a6, a7, a8⟩, ⟨a9, a10⟩, a11, ⟨a12, a13, a14, a15⟩, a16⟩ := hD
  obtain ⟨b1, b2, b3, b4⟩ := a11 rfl
  have hSc : ∀ k, k ≠ 20 → k ≠ 21 → va_up (leSC (SCq SC q) dp) 20 (upd (leSC (SCq SC q) dp 20) 4 0) k = SC k := fun k k20 k21 => by
    unfold leSC
    exact (va_up_ne _ _ k20).trans ((va_up_ne _ _ k20).trans ((va_up_ne _ _ k21).trans (SCq_ne k20)))
  have hI1 : ∀ k, k ≠ 35 → leIA (va_up IA 34 (IA 34)) (SC1 SC (26 + (dp + 1)) 0) k = IA k := fun k k35 => by
    unfold leIA
    rw [va_up_ne _ _ k35, cw_id]
  refine RR_good hR (Nat.le_refl _) rfl rfl rfl (fun _ _ => rfl) z2 (fun j _ => by rw [z1]) (fun k k25 k34 k35 k38 hk k49 k50 k53 k54 => ?_) rfl rfl (fun _ _ => rfl) ?_ (fun k k20 k21 k36 hk => by rw [nxG_ne k36]; exact hSc k k20 k21) rfl rfl (m' := m) (dp' := dp) (pl' := pl) (b' := 0) (p' := q) (sc' := 1) ⟨⟨a1, a2, a3, a4⟩, rfl, ⟨rfl, a7, by omega⟩, ⟨a9, a10⟩, fun _ => ⟨rfl, rfl, hqm, by omega⟩, ⟨rfl, rfl, by omega, fun j hj => ?_⟩, ?_⟩
  · rw [va_up_ne _ _ k53, va_up_ne _ _ k54, va_up_ne _ _ k38, va_up_ne _ _ (by omega)]
    exact hI1 k k35
  · exact ⟨rfl, fun j hj => ⟨rfl, rfl, rfl, rfl, rfl, fun _ _ => rfl⟩, fun j hj => ⟨rfl, fun _ _ => rfl⟩⟩
  · have e : j = 0 := by omega
    subst e
    show SC1 SC (26 + (dp + 1)) 0 = IA 40 (7 + (dp + 1))
    rw [SC1_ne (by omega)]
    exact hid
  · rw [z1]
    have hd6 := a16.1
    have hp := SdR_pop (IA' := va_up (va_up (va_up (va_up (leIA (va_up IA 34 (IA 34)) (SC1 SC (26 + (dp + 1)) 0)) 39 (upd (IA 39) 1 (nI dp))) 38 (upd (IA 38) 1 (nI q))) 54 (upd rd0 0 (IA 40 (7 + (dp + 1))))) 53 (mfCk (IA 53) (upd rd0 0 (IA 40 (7 + (dp + 1)))) 0 0 1)) a16 rfl (fun k k1 k2 => by
      rw [va_up_ne _ _ (by omega), va_up_ne _ _ (by omega), va_up_ne _ _ (by omega), va_up_ne _ _ (by omega)]
      exact hI1 k (by omega))
    exact SdR_congr hp rfl rfl (fun i hi => by rw [nxG_ne (by omega)]; exact hSc _ (by omega) (by omega)) (AgS_eq (fun _ _ _ => rfl)) (fun _ _ z => z) (fun i st i1 i2 z => ⟨z.1, by rw [nxG_ne (by omega), hSc _ (by omega) (by omega)]; exact z.2⟩)
theorem nx_leave (hR : RR IA LA RA SC dr tl N) (hD : RdR IA LA RA SC dr tl N m (dp + 1) pl 0 p sc) (hw : SC (26 + (dp + 1)) 1 = nI w) (hw2 : 2 ≤ w) (hw8 : w ≤ 8) (hwm : (if dp + 1 = 0 then 2 else IA 41 (7 + (dp + 1))) = nI w) (hx : p + w ≤ 32 * m) (hx1 : rdN (IA 33) p w = 0) : NxR (N, HC IA LA RA SC dr tl) := by
  have hD0 := hD
  have hag := RdR_ag hD
  have h3 := hR.2.2.1
  obtain ⟨⟨a1, a2, a3, a4⟩, a5, ⟨a6, a7, a8⟩, ⟨a9, a10⟩, a11, ⟨a12, a13, a14, a15⟩, a16⟩ := hD
  obtain ⟨b1, b2, b3, b4⟩ := a11 rfl
  have hd := a16.1
  have hne : ¬ (dp + 1 = 0 ∧ p = 32 * m) := fun z => absurd z.1 (by omega)
  obtain ⟨id, w9, t, c, st, ⟨p1, p2, p3⟩, -, -, ⟨v1, v2, v3, v4⟩, -⟩ := a16.2.2.2.2.2 (dp + 1) (by omega) (Nat.le_refl _)
  have v4 : st ≤ m ∧ SC (26 + (dp + 1)) 4 = IA 37 (128 + (st - 1)) := v4
  have hw' : SC1 SC (26 + (dp + 1)) 1 = nI w := by rw [SC1_ne (by omega)]; exact hw
  have hv1 : SC1 SC (26 + (dp + 1)) 3 = nI st := by rw [SC1_ne (by omega)]; exact v1
  have hv4 : SC1 SC (26 + (dp + 1)) 4 = IA 37 (128 + (st - 1)) := by rw [SC1_ne (by omega)]; exact v4.2
  have hgx : rdN (gR IA) p w = 0 := by rw [rdN_cg hag w hx]; exact hx1
  have hzl := zN_le hx
  have hrz : rdN (gR IA) (p + w) (zN (p + w)) = rdN (IA 33) (p + w) (zN (p + w)) := rdN_cg hag _ hzl
  have hpre : ∀ {r : pm_V} {h' : pm_H} {bc bs : Nat}, pm_X (pm_call (0 + 12)) jm_45 4 (some .int) (0 + 12) bc bs 39 [(0, .ref 20), (1, .ref (26 + (dp + 1))), (2, .int (nI 0))] [] 0 0 (N, HR IA LA RA (SC1 SC) dr tl (p + w) (IA 34)) r h' → pm_call (0 + 13) 45 [.ref 20, .ref (26 + (dp + 1))] (N, HR IA LA RA (SC1 SC) dr tl p (IA 34)) r h' bc bs := fun hX => by
    refine r_it_pre (SC := SC1 SC) a1 a3 b3 hd hw' (by omega) hw8 hx ?_
    rw [hx1]
    exact r_it_n (by omega) (by omega) a5 hd (fun z => absurd z (by omega)) (fun _ => hX)
  have hes : nI ((p + w + zN (p + w)) / 32) - nI st = nI ((p + w + zN (p + w)) / 32) - nI (st - 1) - 1 := by
    obtain ⟨s0, rfl⟩ : ∃ s0, st = s0 + 1 := ⟨st - 1, by omega⟩
    exact sub_s
  by_cases hok : rdN (IA 33) (p + w) (zN (p + w)) = 0 ∧ nI ((p + w + zN (p + w)) / 32) - nI st = IA 37 (128 + (st - 1))
  · have hcl := r_leave (d := 1) (IA := IA) (LA := LA) (RA := RA) (SC := SC1 SC) (dr := dr) (tl := tl) (N := N) (fr := IA 34) (p := p + w) (m := m) a1 a3 hx a5 (by omega) h3 hok.1 hv1 hv4 hok.2
    refine nx_G (N' := N) (tl' := tl) (q := p + w + zN (p + w)) (k := 1) (x := 0) (c1 := 0) (s1 := 0) (IAm := va_up (leIA (va_up IA 34 (IA 34)) (SC1 SC (26 + (dp + 1)) 0)) 39 (upd (IA 39) 1 (nI dp))) (rd := upd (IA 54) 0 (IA 40 (7 + (dp + 1)))) hR hD0 hne (by omega) (by omega) (by omega) (by omega) rfl (hpre (r_it_0 hcl)) a7 a2 a16.2.1 b2 (fun LA2 z1 z2 => ⟨LA2, rfl, ?_, RR_nL hR hD0 (by omega) hzl (p1.trans p3.symm) z1 z2⟩)
    have hmm := m_leaveIn (d := 11) (IA := leIA (va_up IA 34 (IA 34)) (SC1 SC (26 + (dp + 1)) 0)) (LA := LA2) (RA := RA) (SC := thr (va_up (leSC (SCq SC (p + w + zN (p + w))) dp) 20 (upd (leSC (SCq SC (p + w + zN (p + w))) dp 20) 4 0)) 0) (dr := dr) (tl := tl) (N := N) (p := p + w) (rd := IA 54) (m := m) (dp := dp) (mk := st - 1) a2 a3 hx a16.2.1 (by omega) v3 (by omega) (show rdN (gR IA) (p + w) (zN (p + w)) = 0 by rw [hrz]; exact hok.1) (show IA 37 (128 + (st - 1)) = _ by rw [← hes]; exact hok.2.symm)
    exact mo_good (d := 9) (IA := leIA (va_up IA 34 (IA 34)) (SC1 SC (26 + (dp + 1)) 0)) (SC := va_up (leSC (SCq SC (p + w + zN (p + w))) dp) 20 (upd (leSC (SCq SC (p + w + zN (p + w))) dp 20) 4 0)) (x := 0) (q := p + w + zN (p + w)) (k := 1) a16.2.1 hd b2 hwm a2 a3 hw8 hx hgx (Or.inl (by omega)) (by omega) (Or.inl ⟨rfl, hmm⟩)
  · have hcl := r_leaveX (d := 1) (IA := IA) (LA := LA) (RA := RA) (SC := SC1 SC) (dr := dr) (tl := tl) (N := N) (fr := IA 34) (p := p + w) (m := m) a1 a3 hx (by omega) hv1 hv4 hok
    obtain ⟨q', hq', hmm⟩ := m_leaveInX (d := 11) (IA := va_up IA 34 (IA 34)) (LA := LA) (RA := RA) (SC := thr (SCq SC (p + w + zN (p + w))) 0) (dr := dr) (tl := tl) (N := N) (p := p + w) (rd := IA 54) (m := m) (dp := dp) (mk := st - 1) a2 a3 hx a16.2.1 (by omega) v3 (by omega) (fun z => hok ⟨hrz.symm.trans z.1, hes.trans z.2.symm⟩)
    refine nx_X (N' := N) (tl' := tl) (q := p + w + zN (p + w)) (fr := IA 34) (rd := IA 54) (L := LA 48) (c1 := 1) (s1 := 6) hR hD0 hne (Nat.le_refl _) (fun _ _ => rfl) (fun _ _ => rfl) (by omega) (by omega) (hpre (r_it_0X hcl)) ?_
    rw [cw_id LA 48]
    exact mo_bad (d := 9) (IA := va_up IA 34 (IA 34)) (SC := SCq SC (p + w + zN (p + w))) (x := 0) (q := q') a16.2.1 hd b2 hwm a2 a3 hw8 hx hgx (Or.inl (by omega)) (Or.inl ⟨rfl, hmm⟩)
end NXL
