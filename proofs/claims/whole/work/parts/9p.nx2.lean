/-! STEPS: next, from the parts to the whole -/
/-- next on both sides -/
def NxR (h : pm_H) : Prop := ∃ IA LA RA SC dr tl N, h = (N, HC IA LA RA SC dr tl) ∧ ∃ r IA' RA' SC' tl' N' c1 s1, pm_call 15 92 [.ref 0] h r (N', HC IA' LA RA' SC' dr tl') c1 s1 ∧ c1 ≤ 4 ∧ s1 ≤ 25 ∧
  ((∃ x, r = .inl (some (.int x)) ∧ ∀ LA2 : Nat → Nat → Int64, LA2 48 = LA 48 → LA2 51 = LA 51 → ∃ h2, pm_call 15 148 [.ref 36] (N', HC IA' LA2 RA' SC' dr tl') (.inl (some (.int x))) h2 0 0 ∧ St h2 ∧ h2.2 55 = .inl (1, 1, .inr (.inl (LA2 55))) ∧ pm_call 15 99 [.ref 36] h2 (.inl (some (.int 0))) h2 0 0) ∨
   (∃ e, r = .inr e ∧ e ≤ 1 ∧ ∃ y h2, pm_call 15 148 [.ref 36] (N', HC IA' LA RA' SC' dr tl') (.inl (some (.int y))) h2 0 0 ∧ St h2 ∧ pm_call 15 99 [.ref 36] h2 (.inl (some (.int (nI (e + 1))))) h2 0 0))
section NX2
variable {IA : Nat → Nat → Int32} {LA LA2 : Nat → Nat → Int64} {RA : Nat → Nat → Option Nat} {SC : Nat → Nat → Int32} {dr : Nat} {tl tl' : Nat → va_E} {N N' m dp pl p sc w c1 s1 : Nat} {h : pm_H}
theorem RR_LA (hR : RR IA LA RA SC dr tl N) (h1 : LA2 48 = LA 48) (h2 : LA2 51 = LA 51) : RR IA LA2 RA SC dr tl N := by
  unfold RR WrR RdR at hR ⊢
  rw [h1, h2]
  exact hR
theorem nx_F (hR : RR IA LA RA SC dr tl N) (hD : RdR IA LA RA SC dr tl N m dp pl 1 p sc) : NxR (N, HC IA LA RA SC dr tl) := by
  obtain ⟨-, -, ⟨a6, a7, -⟩, -⟩ := hD
  exact ⟨_, _, _, _, _, _, _, rfl, _, _, _, _, _, _, 1, 6, b_nextX (r_onF (d := 0) a6), by omega, by omega, Or.inr ⟨1, rfl, by omega, _, _, m_next_F (d := 14) a7, ⟨_, _, _, _, _, _, _, rfl, RR_thr hR⟩, m_thrown (d := 14)⟩⟩
theorem nx_E (hR : RR IA LA RA SC dr tl N) (hD : RdR IA LA RA SC dr tl N m 0 pl 0 (32 * m) sc) : NxR (N, HC IA LA RA SC dr tl) := by
  have hD0 := hD
  obtain ⟨⟨a1, a2, a3, a4⟩, a5, ⟨a6, a7, a8⟩, ⟨a9, a10⟩, a11, ⟨a12, a13, a14, a15⟩, a16⟩ := hD
  obtain ⟨b1, b2, b3, b4⟩ := a11 rfl
  refine ⟨_, _, _, _, _, _, _, rfl, _, _, _, _, _, _, 0, 0, b_next (r_onE (d := 0) a6 a5 a1 b1), by omega, by omega, Or.inl ⟨0, rfl, fun LA2 e1 e2 => ⟨_, m_next_E (d := 14) (m := m) a7 a16.2.1 a2 a3 b2, ⟨_, _, _, _, _, _, _, rfl, RR_LA ?_ e1 e2⟩, rfl, m_thrown (d := 14)⟩⟩⟩
  have hs : ∀ k, k ≠ 20 → k ≠ 36 → va_up (thr (va_up SC 20 (upd (SC 20) 7 0)) 0) 36 (upd (thr (va_up SC 20 (upd (SC 20) 7 0)) 0 36) 22 0) k = SC k := fun k k1 k2 => (va_up_ne _ _ k2).trans ((va_up_ne _ _ k2).trans (va_up_ne _ _ k1))
  refine RR_good hR (Nat.le_refl _) rfl rfl rfl (fun _ _ => rfl) rfl (fun _ _ => rfl) (fun k _ _ _ _ _ _ _ _ _ => rfl) rfl rfl (fun _ _ => rfl) (AgS_eq (fun _ _ _ => rfl)) (fun k k20 k21 k36 _ => hs k k20 k36) rfl rfl (m' := m) (dp' := 0) (pl' := pl) (b' := 0) (p' := 32 * m) (sc' := 0) ⟨⟨a1, a2, a3, a4⟩, a5, ⟨a6, a7, a8⟩, ⟨a9, a10⟩, a11, ⟨rfl, rfl, by omega, fun i hi => absurd hi (by omega)⟩, SdR_congr a16 rfl rfl (fun i hi => hs _ (by omega) (by omega)) (AgS_eq (fun _ _ _ => rfl)) (fun _ _ z => z) (fun i st i1 i2 z => ⟨z.1, by rw [hs _ (by omega) (by omega)]; exact z.2⟩)⟩
/-- a fault in the class and in the model -/
theorem nx_X {q : Nat} {fr rd : Nat → Int32} {L : Nat → Int64} (hR : RR IA LA RA SC dr tl N) (hD : RdR IA LA RA SC dr tl N m dp pl 0 p sc) (hne : ¬ (dp = 0 ∧ p = 32 * m)) (hN : N ≤ N') (ht : ∀ j, j < N → tl' j = tl j) (hL : ∀ j, j < 8 * (150 + pl) → L j = LA 48 j) (hc1 : c1 ≤ 4) (hs1 : s1 ≤ 25)
    (hcl : pm_call (0 + 13) 45 [.ref 20, .ref (26 + dp)] (N, HR IA LA RA (SC1 SC) dr tl p (IA 34)) (.inr 0) (N', HR IA LA RA (SC1 SC) dr tl' q fr) c1 s1)
    (hmo : pm_X (pm_call (9 + 5)) jm_148 5 (some .int) (9 + 5) 0 0 57 [(0, .ref 36)] [] 0 0 (N', HC (va_up IA 34 fr) LA RA (thr (va_up (SC1 SC) 20 (upd (SC1 SC 20) 3 (nI q))) 0) dr tl') (.inl (some (.int 0))) (N', HC (va_up (va_up (va_up IA 34 fr) 38 (upd (IA 38) 1 (nI p))) 54 rd) (va_up LA 48 L) RA (nxF (va_up (SC1 SC) 20 (upd (SC1 SC 20) 3 (nI q)))) dr tl')) : NxR (N, HC IA LA RA SC dr tl) := by
  have h3 := hR.2.2.1
  have hD0 := hD
  obtain ⟨⟨a1, a2, a3, a4⟩, a5, ⟨a6, a7, a8⟩, ⟨a9, a10⟩, a11, ⟨a12, a13, a14, a15⟩, a16⟩ := hD
  obtain ⟨b1, b2, b3, b4⟩ := a11 rfl
  exact ⟨_, _, _, _, _, _, _, rfl, _, _, _, _, _, _, c1, s1, b_nextX (r_onX (d := 0) a6 a5 a16.1 h3 a1 a3 b1 b3 hne hcl), hc1, hs1, Or.inr ⟨0, rfl, by omega, _, _, m_next_0 (d := 14) (dp := dp) (m := m) (p := p) a7 a16.2.1 a16.1 a2 a3 b2 b3 (fun z => absurd z hne) (fun _ => hmo), ⟨_, _, _, _, _, _, _, rfl, RR_fault hR hD0 hN ht hL⟩, m_thrown (d := 14)⟩⟩
/-- a good end in the class and in the model -/
theorem nx_G {q k x : Nat} {v : Int32} {IAc1 IAm : Nat → Nat → Int32} {RAc : Nat → Nat → Option Nat} {SCc : Nat → Nat → Int32} {rd : Nat → Int32} (hR : RR IA LA RA SC dr tl N) (hD : RdR IA LA RA SC dr tl N m dp pl 0 p sc) (hne : ¬ (dp = 0 ∧ p = 32 * m)) (hc1 : c1 ≤ 4) (hs1 : s1 ≤ 25) (hx : x < 256) (hk : k ≤ 20) (hv : v = nxR x)
    (hcl : pm_call (0 + 13) 45 [.ref 20, .ref (26 + dp)] (N, HR IA LA RA (SC1 SC) dr tl p (IA 34)) (.inl (some (.int v))) (N', HC IAc1 LA RAc SCc dr tl') c1 s1)
    (e20 : SCc 36 20 = 0) (e2 : SCc 36 2 = nI m) (e39 : IAc1 39 1 = nI dp) (e38 : IAc1 38 1 = nI p)
    (hmo : ∀ LA2 : Nat → Nat → Int64, LA2 48 = LA 48 → LA2 51 = LA 51 → ∃ LAm : Nat → Nat → Int64, LAm 55 = LA2 55 ∧ pm_X (pm_call (9 + 5)) jm_148 5 (some .int) (9 + 5) 0 0 57 [(0, .ref 36)] [] 0 0 (N', HC IAc1 LA2 RAc (thr (va_up SCc 20 (upd (SCc 20) 4 0)) 0) dr tl') (.inl (some (.int (nxR x)))) (N', HC (va_up (va_up (va_up IAm 38 (upd (IAm 38) 1 (nI q))) 54 rd) 53 (mfCk (IAm 53) rd 0 0 k)) LAm RAc (nxG (va_up SCc 20 (upd (SCc 20) 4 0)) k) dr tl') ∧
      RR (va_up (va_up (va_up IAm 38 (upd (IAm 38) 1 (nI q))) 54 rd) 53 (mfCk (IAm 53) rd 0 0 k)) LAm RAc (nxG (va_up SCc 20 (upd (SCc 20) 4 0)) k) dr tl' N') : NxR (N, HC IA LA RA SC dr tl) := by
  subst hv
  have h3 := hR.2.2.1
  obtain ⟨⟨a1, a2, a3, a4⟩, a5, ⟨a6, a7, a8⟩, ⟨a9, a10⟩, a11, ⟨a12, a13, a14, a15⟩, a16⟩ := hD
  obtain ⟨b1, b2, b3, b4⟩ := a11 rfl
  refine ⟨_, _, _, _, _, _, _, rfl, _, _, _, _, _, _, c1, s1, b_next (r_on (d := 0) a6 a5 a16.1 h3 a1 a3 b1 b3 hne hcl), hc1, hs1, Or.inl ⟨_, rfl, fun LA2 z1 z2 => ?_⟩⟩
  obtain ⟨LAm, h55, hx1, hx2⟩ := hmo LA2 z1 z2
  exact ⟨_, m_next_0 (d := 14) (dp := dp) (m := m) (p := p) e20 e39 a16.1 e2 a3 e38 b3 (fun z => absurd z hne) (fun _ => hx1), ⟨_, _, _, _, _, _, _, rfl, hx2⟩, by show (Sum.inl (1, 1, Sum.inr (Sum.inl (LAm 55))) : va_E) = _; rw [h55], m_thrown (d := 14)⟩
end NX2
