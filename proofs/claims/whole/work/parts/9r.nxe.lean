/-! STEPS: next reads an ENTER -/
section NXE
variable {IA : Nat → Nat → Int32} {LA LA2 : Nat → Nat → Int64} {RA : Nat → Nat → Option Nat} {SC : Nat → Nat → Int32} {dr : Nat} {tl : Nat → va_E} {N m dp pl p sc w : Nat}
abbrev SCq (SC : Nat → Nat → Int32) (q : Nat) : Nat → Nat → Int32 := va_up (SC1 SC) 20 (upd (SC1 SC 20) 3 (nI q))
theorem SCq_ne {q k : Nat} (h : k ≠ 20) : SCq SC q k = SC k := (va_up_ne _ _ h).trans (va_up_ne _ _ h)
theorem nxG_ne {k j : Nat} (h : j ≠ 36) : nxG SC k j = SC j := (va_up_ne _ _ h).trans ((va_up_ne _ _ h).trans (va_up_ne _ _ h))
theorem nxG_36 {k j : Nat} (h1 : j ≠ 19) (h2 : j ≠ 21) (h3 : j ≠ 22) : nxG SC k 36 j = SC 36 j := by
  show upd (upd (upd (SC 36) 21 0) 19 (nI 0)) 22 (nI k) j = _
  rw [upd_ne h3, upd_ne h1, upd_ne h2]
theorem mfCk_00 {F G : Nat → Int32} {k j : Nat} (h : j < k) : mfCk F G 0 0 k j = G j := by
  unfold mfCk
  rw [if_pos (by omega)]
  congr 1
  omega
theorem RR_nE {i wd l q mm : Nat} {rd0 : Nat → Int32} (hR : RR IA LA RA SC dr tl N) (hD : RdR IA LA RA SC dr tl N m dp pl 0 p sc) (hd : dp < 6) (hi : i < 64) (hwd : 2 ≤ wd ∧ wd ≤ 8) (hpq : p ≤ q) (hqm : q ≤ 32 * m) (hq32 : 32 ≤ q) (hq0 : q % 32 = 0) (hl : nI l = IA 37 (128 + (q / 32 - 1))) (hmm : IA 25 i = nI mm) (hmm8 : mm ≤ 8) (z1 : LA2 48 = LA 48) (z2 : LA2 51 = LA 51) :
    RR (va_up (va_up (va_up (bgIA (enIA (va_up IA 34 (IA 34)) dp i wd l mm) 1 dp i (nI wd) (nI (q / 32 - 1)) mm) 38 (upd (bgIA (enIA (va_up IA 34 (IA 34)) dp i wd l mm) 1 dp i (nI wd) (nI (q / 32 - 1)) mm 38) 1 (nI q))) 54 (enR rd0 i wd l)) 53 (mfCk (bgIA (enIA (va_up IA 34 (IA 34)) dp i wd l mm) 1 dp i (nI wd) (nI (q / 32 - 1)) mm 53) (enR rd0 i wd l) 0 0 3)) LA2 (va_up RA 24 (frCk (RA 24) i (64 + (dp + 1)) mm)) (nxG (va_up (enSC (SCq SC q) dp i wd l q) 20 (upd (enSC (SCq SC q) dp i wd l q 20) 4 0)) 3) dr tl N := by
  obtain ⟨⟨a1, a2, a3, a4⟩, a5, ⟨a6, a7, a8⟩, ⟨a9, a10⟩, a11, ⟨a12, a13, a14, a15⟩, a16⟩ := hD
  obtain ⟨b1, b2, b3, b4⟩ := a11 rfl
  have hSc : ∀ k, k ≠ 20 → k ≠ 21 → k ≠ 26 + (dp + 1) → va_up (enSC (SCq SC q) dp i wd l q) 20 (upd (enSC (SCq SC q) dp i wd l q 20) 4 0) k = SC k := fun k k20 k21 k26 => by
    unfold enSC
    exact (va_up_ne _ _ k20).trans ((va_up_ne _ _ k20).trans ((va_up_ne _ _ k26).trans ((va_up_ne _ _ k21).trans (SCq_ne k20))))
  have hB : ∀ j, j < 7 → nxG (va_up (enSC (SCq SC q) dp i wd l q) 20 (upd (enSC (SCq SC q) dp i wd l q 20) 4 0)) 3 (26 + j) = if j = dp + 1 then bkRow (nI i) (nI wd) 0 (nI (q / 32)) (nI l) else SC (26 + j) := fun j hj => by
    rw [nxG_ne (by omega)]
    by_cases e : j = dp + 1
    · subst e
      rw [if_pos rfl, va_up_ne _ _ (by omega)]
      unfold enSC
      rw [va_up_ne _ _ (by omega), va_up_self]
    · rw [if_neg e]
      exact hSc _ (by omega) (by omega) (by omega)
  have h36 : ∀ j, j ≠ 19 → j ≠ 21 → j ≠ 22 → nxG (va_up (enSC (SCq SC q) dp i wd l q) 20 (upd (enSC (SCq SC q) dp i wd l q 20) 4 0)) 3 36 j = SC 36 j := fun j j1 j2 j3 => by
    rw [nxG_36 j1 j2 j3, hSc 36 (by omega) (by omega) (by omega)]
  have hI1 : ∀ k, k ≠ 25 → k ≠ 35 → enIA (va_up IA 34 (IA 34)) dp i wd l mm k = IA k := fun k k25 k35 => by
    unfold enIA
    rw [va_up_ne _ _ k35, va_up_ne _ _ k25, cw_id]
  have hP : SdR 1 (dp + 1) (upd (IA 25) (64 + (dp + 1)) (nI mm)) (frCk (RA 24) i (64 + (dp + 1)) mm) (fun j => nxG (va_up (enSC (SCq SC q) dp i wd l q) 20 (upd (enSC (SCq SC q) dp i wd l q 20) 4 0)) 3 (26 + j)) (bgIA (enIA (va_up IA 34 (IA 34)) dp i wd l mm) 1 dp i (nI wd) (nI (q / 32 - 1)) mm) (Gd fmN (IA 49) (LA 48) tl N dr 150 (150 + pl)) (fun j st => st ≤ m ∧ nxG (va_up (enSC (SCq SC q) dp i wd l q) 20 (upd (enSC (SCq SC q) dp i wd l q 20) 4 0)) 3 (26 + j) 4 = IA 37 (128 + (st - 1))) := by
    refine SdR_push (s := 1) (st := q / 32) (by omega) (SdR_congr (IA' := enIA (va_up IA 34 (IA 34)) dp i wd l mm) (cG' := IA 25) (cR' := RA 24) (B' := fun i => SC (26 + i)) (G' := Gd fmN (IA 49) (LA 48) tl N dr 150 (150 + pl)) (Y' := fun i st => st ≤ m ∧ SC (26 + i) 4 = IA 37 (128 + (st - 1))) a16 rfl rfl (fun _ _ => rfl) (AgS_eq (fun k k1 k2 => hI1 k (by omega) (by omega))) (fun _ _ z => z) (fun _ _ _ _ z => z)) hd hi hwd (by omega) hmm hmm8 (fun j st j1 j2 z => ⟨z.1, ?_⟩) ⟨by omega, ?_⟩ hB
    · rw [hB j (by omega), if_neg (by omega)]
      exact z.2
    · rw [hB _ (by omega), if_pos rfl]
      exact hl
  refine RR_good hR (Nat.le_refl _) rfl rfl rfl (fun _ _ => rfl) z2 (fun j _ => by rw [z1]) (fun k k25 k34 k35 k38 hk k49 k50 k53 k54 => ?_) rfl rfl (fun _ _ => rfl) ?_ (fun k k20 k21 k36 hk => by rw [nxG_ne k36]; exact hSc k k20 k21 (by omega)) (h36 16 (by omega) (by omega) (by omega)) (h36 18 (by omega) (by omega) (by omega)) (m' := m) (dp' := dp + 1) (pl' := pl) (b' := 0) (p' := q) (sc' := 3) ⟨⟨a1, (h36 2 (by omega) (by omega) (by omega)).trans a2, a3, a4⟩, ?_, ⟨rfl, (h36 20 (by omega) (by omega) (by omega)).trans a7, by omega⟩, ⟨a9, a10⟩, fun _ => ⟨rfl, rfl, hqm, by omega⟩, ⟨rfl, rfl, by omega, fun j hj => ?_⟩, ?_⟩
  · rw [va_up_ne _ _ k53, va_up_ne _ _ k54, va_up_ne _ _ k38]
    unfold bgIA bgI0
    rw [va_up_ne _ _ (by omega), va_up_ne _ _ (by omega), va_up_ne _ _ (by omega), va_up_ne _ _ (by omega), va_up_ne _ _ (by omega), va_up_ne _ _ (by omega), va_up_ne _ _ (by omega)]
    exact hI1 k k25 k35
  · have e := fun k k1 k2 => hI1 k k1 k2
    refine ⟨?_, fun j hj => ⟨?_, ?_, ?_, ?_, ?_, fun t ht => ?_⟩, fun j hj => ⟨rfl, fun t _ => rfl⟩⟩
    · exact congrFun (e 39 (by omega) (by omega)) _
    · exact (upd_ne (by omega)).trans (congrFun (e 40 (by omega) (by omega)) _)
    · exact (upd_ne (by omega)).trans (congrFun (e 41 (by omega) (by omega)) _)
    · exact (upd_ne (by omega)).trans (congrFun (e 42 (by omega) (by omega)) _)
    · exact (upd_ne (by omega)).trans (congrFun (e 43 (by omega) (by omega)) _)
    · exact (upd_ne (by omega)).trans (congrFun (e 44 (by omega) (by omega)) _)
    · show mfCk (IA 45) (IA 47) (8 * (7 * 1 + (dp + 1))) (512 * 1 + 8 * i) mm (8 * (7 * 0 + j) + t) = _
      unfold mfCk
      rw [if_neg (by omega)]
  · rw [nxG_ne (by omega), va_up_ne _ _ (by omega)]
    unfold enSC
    rw [va_up_ne _ _ (by omega), va_up_ne _ _ (by omega)]
    rfl
  · have hj3 : j = 0 ∨ j = 1 ∨ j = 2 := by omega
    rcases hj3 with rfl | rfl | rfl <;> rfl
  · rw [z1]
    exact SdR_congr hP rfl rfl (fun _ _ => rfl) (AgS_eq (fun k k1 k2 => (va_up_ne _ _ (by omega)).trans ((va_up_ne _ _ (by omega)).trans (va_up_ne _ _ (by omega))))) (fun _ _ z => z) (fun _ _ _ _ z => z)
end NXE
