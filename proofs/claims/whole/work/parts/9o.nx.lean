/-! STEPS: next, what stays -/
section NX
variable {IA IA' : Nat → Nat → Int32} {LA LA' : Nat → Nat → Int64} {RA RA' : Nat → Nat → Option Nat} {SC SC' : Nat → Nat → Int32} {dr : Nat} {tl tl' : Nat → va_E} {N N' m dp pl b p sc m' dp' pl' b' p' sc' : Nat}
theorem RR_good (hR : RR IA LA RA SC dr tl N) (hN : N ≤ N') (r5 : RA' 5 = RA 5) (r22 : RA' 22 = RA 22) (r7 : RA' 7 = RA 7) (ht : ∀ j, j < N → tl' j = tl j) (hL : LA' 51 = LA 51) (hL8 : ∀ j, j < 1200 → LA' 48 j = LA 48 j) (hI : ∀ k, k ≠ 25 → k ≠ 34 → k ≠ 35 → k ≠ 38 → (k < 39 ∨ 47 < k) → k ≠ 49 → k ≠ 50 → k ≠ 53 → k ≠ 54 → IA' k = IA k) (i38 : IA' 38 0 = IA 38 0) (i50 : IA' 50 0 = IA 50 0) (i49 : ∀ f, f < 150 → IA' 49 f = IA 49 f) (hA : AgS 0 IA IA') (hS : ∀ k, k ≠ 20 → k ≠ 21 → k ≠ 36 → (k < 26 ∨ 32 < k) → SC' k = SC k) (s16 : SC' 36 16 = SC 36 16) (s18 : SC' 36 18 = SC 36 18) (hD : RdR IA' LA' RA' SC' dr tl' N' m' dp' pl' b' p' sc') : RR IA' LA' RA' SC' dr tl' N' := by
  obtain ⟨h1, h2, h3, ⟨d1, d2, n, K, V, kk, vv, d3, d4, d5, d6, d7⟩, h5, ⟨E, dpw, plw, h6⟩, -⟩ := hR
  have h6' := h6
  obtain ⟨w1, w2, w3, w4, w5, w6, w7, w8, w9, w10⟩ := h6'
  refine ⟨by omega, by rw [r5]; exact h2, by rw [r22]; exact h3, ⟨d1, by omega, n, K, V, kk, vv, ⟨?_, ?_, ?_, d3.2.2.2⟩, d4, d5, s16.trans d6, by rw [hL]; exact d7⟩, ?_, ⟨E, dpw, plw, ?_⟩, m', dp', pl', b', p', sc', hD⟩
  · rw [ht _ (by omega)]; exact d3.1
  · rw [ht _ (by omega)]; exact d3.2.1
  · rw [ht _ (by omega)]; exact d3.2.2.1
  · rw [hS 1 (by omega) (by omega) (by omega) (by omega), hI 19 (by omega) (by omega) (by omega) (by omega) (by omega) (by omega) (by omega) (by omega) (by omega), s18, hI 52 (by omega) (by omega) (by omega) (by omega) (by omega) (by omega) (by omega) (by omega) (by omega)]
    exact h5
  · refine WrR_congr h6 (by rw [hS 2 (by omega) (by omega) (by omega) (by omega)]) i38 (hI 3 (by omega) (by omega) (by omega) (by omega) (by omega) (by omega) (by omega) (by omega) (by omega)) (fun j _ => by rw [hI 37 (by omega) (by omega) (by omega) (by omega) (by omega) (by omega) (by omega) (by omega) (by omega)]) (by rw [hS 4 (by omega) (by omega) (by omega) (by omega)]) i50 (hI 8 (by omega) (by omega) (by omega) (by omega) (by omega) (by omega) (by omega) (by omega) (by omega)) r7 (fun i hi => hS _ (by omega) (by omega) (by omega) (by omega)) hA (fun y f z => ?_)
    exact Gd_mono (fun f _ hf => i49 f (by omega)) (fun j _ hj => hL8 j (by omega)) (fun k hk _ => ht k hk) hN (fun _ _ z => z) (Nat.le_refl _) z
/-- the reader after a fault -/
theorem RdR_fault (h : RdR IA LA RA SC dr tl N m dp pl b p sc) (h1 : SC' 20 2 = SC 20 2) (h2 : SC' 36 2 = SC 36 2) (h3 : IA' 33 = IA 33) (h4 : IA' 37 = IA 37) (h5 : SC' 21 2 = SC 21 2) (h6 : SC' 20 4 = 1) (h6' : SC' 36 20 = 1) (h7 : IA' 50 1 = IA 50 1) (h8 : SC' 20 7 = SC 20 7) (h9 : SC' 36 22 = SC 36 22) (h10 : IA' 35 = IA 35) (h11 : IA' 53 = IA 53) (h12 : IA' 25 = IA 25) (h13 : RA' 24 = RA 24) (h14 : ∀ i, i < 7 → SC' (26 + i) = SC (26 + i)) (h15 : AgS 1 IA IA') (h49 : IA' 49 = IA 49) (hL : ∀ j, j < 8 * (150 + pl) → LA' 48 j = LA 48 j) (hN : N ≤ N') (ht : ∀ j, j < N → tl' j = tl j) : RdR IA' LA' RA' SC' dr tl' N' m dp pl 1 0 sc := by
  obtain ⟨⟨a1, a2, a3, a4⟩, a5, ⟨a6, a7, a8⟩, ⟨a9, a10⟩, a11, ⟨a12, a13, a14, a15⟩, a16⟩ := h
  refine ⟨⟨h1.trans a1, h2.trans a2, a3, fun i hi => by rw [h3, h4]; exact a4 i hi⟩, h5.trans a5, ⟨h6, h6', by omega⟩, ⟨h7.trans a9, a10⟩, fun z => absurd z (by omega), ⟨h8.trans a12, h9.trans a13, a14, fun i hi => by rw [h10, h11]; exact a15 i hi⟩, SdR_congr a16 h12 h13 h14 h15 (fun y f z => ?_) (fun i st i1 i2 z => ⟨z.1, by rw [h14 i (by have := a16.1; omega), h4]; exact z.2⟩)⟩
  rw [h49]
  exact Gd_mono (fun _ _ _ => rfl) (fun j _ hj => hL j hj) (fun k hk _ => ht k hk) hN (fun _ _ z => z) (Nat.le_refl _) z
abbrev SC1 (SC : Nat → Nat → Int32) : Nat → Nat → Int32 := va_up SC 20 (upd (SC 20) 4 1)
/-- all of it after a fault -/
theorem RR_fault {q : Nat} {fr rd : Nat → Int32} {L : Nat → Int64} (hR : RR IA LA RA SC dr tl N) (hD : RdR IA LA RA SC dr tl N m dp pl b p sc) (hN : N ≤ N') (ht : ∀ j, j < N → tl' j = tl j) (hL : ∀ j, j < 8 * (150 + pl) → L j = LA 48 j) :
    RR (va_up (va_up (va_up IA 34 fr) 38 (upd (IA 38) 1 (nI p))) 54 rd) (va_up LA 48 L) RA (nxF (va_up (SC1 SC) 20 (upd (SC1 SC 20) 3 (nI q)))) dr tl' N' := by
  have hk : ∀ k, 39 ≤ k → k ≤ 47 → va_up (va_up (va_up IA 34 fr) 38 (upd (IA 38) 1 (nI p))) 54 rd k = IA k := fun k k1 k2 => (va_up_ne _ _ (by omega)).trans ((va_up_ne _ _ (by omega)).trans (va_up_ne _ _ (by omega)))
  have hs : ∀ k, k ≠ 20 → k ≠ 36 → nxF (va_up (SC1 SC) 20 (upd (SC1 SC 20) 3 (nI q))) k = SC k := fun k k1 k2 => (va_up_ne _ _ k2).trans ((va_up_ne _ _ k2).trans ((va_up_ne _ _ k2).trans ((va_up_ne _ _ k2).trans ((va_up_ne _ _ k1).trans (va_up_ne _ _ k1)))))
  refine RR_good hR hN rfl rfl rfl ht rfl (fun j hj => hL j (by omega)) (fun k k25 k34 k35 k38 hk k49 k50 k53 k54 => (va_up_ne _ _ k54).trans ((va_up_ne _ _ k38).trans (va_up_ne _ _ k34))) rfl rfl (fun _ _ => rfl) (AgS_eq hk) (fun k k20 k21 k36 _ => hs k k20 k36) rfl rfl (RdR_fault hD rfl rfl rfl rfl rfl rfl rfl rfl rfl rfl rfl rfl rfl rfl (fun i hi => hs _ (by omega) (by omega)) (AgS_eq hk) rfl hL hN ht)
end NX
