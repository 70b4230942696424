/-! STEPS: next reads a record -/
section NXR
variable {IA : Nat → Nat → Int32} {LA LA2 : Nat → Nat → Int64} {RA : Nat → Nat → Option Nat} {SC : Nat → Nat → Int32} {dr : Nat} {tl : Nat → va_E} {N m dp pl p sc w : Nat}
theorem shR_rd {fr0 rd : Nat → Int32} {nu : Nat → Nat} {x t : Nat} (ht : 1 ≤ t) (h : rdOk rd nu x t) : ∀ j, j < t + 2 → shR (va_up IA 34 (frN fr0 nu t)) (nI x) t j = rd j := by
  obtain ⟨r0, r1, r2, r3⟩ := h
  intro j hj
  have e0 : ∀ k, va_up IA 34 (frN fr0 nu t) 34 k = frN fr0 nu t k := fun _ => rfl
  unfold shR va_cpy
  by_cases h3 : 3 ≤ j
  · rw [if_pos (by omega), e0]
    unfold frN
    rw [if_pos (by omega), show 1 + (j - 3) = j - 2 by omega]
    have := r3 (j - 2) (by omega) (by omega)
    rw [show 2 + (j - 2) = j by omega] at this
    exact this.symm
  · rw [if_neg (by omega)]
    have hj3 : j = 0 ∨ j = 1 ∨ j = 2 := by omega
    rcases hj3 with rfl | rfl | rfl
    · rw [upd_ne (by omega), upd_ne (by omega), upd_at, e0]
      unfold frN
      rw [if_pos (by omega)]
      exact r0.symm
    · rw [upd_ne (by omega), upd_at]
      exact r1.symm
    · rw [upd_at]
      exact r2.symm
theorem RR_nR {q t : Nat} {rd : Nat → Int32} {IAm SCc : Nat → Nat → Int32} (hR : RR IA LA RA SC dr tl N) (hD : RdR IA LA RA SC dr tl N m (dp + 1) pl 0 p sc) (hpq : p ≤ q) (hqm : q ≤ 32 * m) (ht : t ≤ 17) (tg : (SCc (26 + (dp + 1)) = SC (26 + (dp + 1)) ∧ IAm 43 = IA 43) ∨ ∃ t9, t9 < 64 ∧ SCc (26 + (dp + 1)) = upd (SC (26 + (dp + 1))) 2 (nI t9) ∧ IAm 43 = upd (IA 43) (7 + (dp + 1)) (nI t9)) (hI : ∀ k, k ≠ 34 → k ≠ 35 → k ≠ 43 → IAm k = IA k) (h35 : ∀ j, j < t + 2 → IAm 35 j = rd j) (hS : ∀ k, k ≠ 20 → k ≠ 26 + (dp + 1) → SCc k = SC k) (s2 : SCc 20 2 = SC 20 2) (s3 : SCc 20 3 = nI q) (s7 : SCc 20 7 = nI (t + 2)) (z1 : LA2 48 = LA 48) (z2 : LA2 51 = LA 51) :
    RR (va_up (va_up (va_up IAm 38 (upd (IAm 38) 1 (nI q))) 54 rd) 53 (mfCk (IAm 53) rd 0 0 (t + 2))) LA2 RA (nxG (va_up SCc 20 (upd (SCc 20) 4 0)) (t + 2)) dr tl N := by
  obtain ⟨⟨a1, a2, a3, a4⟩, a5, ⟨a6, a7, a8⟩, ⟨a9, a10⟩, a11, ⟨a12, a13, a14, a15⟩, a16⟩ := hD
  obtain ⟨b1, b2, b3, b4⟩ := a11 rfl
  have hd6 := a16.1
  have hSc : ∀ k, k ≠ 20 → k ≠ 36 → nxG (va_up SCc 20 (upd (SCc 20) 4 0)) (t + 2) k = SCc k := fun k k20 k36 => (nxG_ne k36).trans (va_up_ne _ _ k20)
  have e36 : SCc 36 = SC 36 := hS 36 (by omega) (by omega)
  have h36 : ∀ j, j ≠ 19 → j ≠ 21 → j ≠ 22 → nxG (va_up SCc 20 (upd (SCc 20) 4 0)) (t + 2) 36 j = SC 36 j := fun j j1 j2 j3 => by
    rw [nxG_36 j1 j2 j3, va_up_ne _ _ (by omega), e36]
  have h20 : ∀ j, j ≠ 4 → nxG (va_up SCc 20 (upd (SCc 20) 4 0)) (t + 2) 20 j = SCc 20 j := fun j j4 => by
    rw [nxG_ne (by omega), va_up_self, upd_ne j4]
  have e33 : IAm 33 = IA 33 := hI 33 (by omega) (by omega) (by omega)
  have e37 : IAm 37 = IA 37 := hI 37 (by omega) (by omega) (by omega)
  have e38 : IAm 38 = IA 38 := hI 38 (by omega) (by omega) (by omega)
  have e49 : IAm 49 = IA 49 := hI 49 (by omega) (by omega) (by omega)
  have e50 : IAm 50 = IA 50 := hI 50 (by omega) (by omega) (by omega)
  have e25 : IAm 25 = IA 25 := hI 25 (by omega) (by omega) (by omega)
  refine RR_good hR (Nat.le_refl _) rfl rfl rfl (fun _ _ => rfl) z2 (fun j _ => by rw [z1]) (fun k k25 k34 k35 k38 hk k49 k50 k53 k54 => ?_) ?_ ?_ (fun f _ => congrFun e49 f) ?_ (fun k k20 k21 k36 hk => by rw [hSc k k20 k36]; exact hS k k20 (by omega)) (h36 16 (by omega) (by omega) (by omega)) (h36 18 (by omega) (by omega) (by omega)) (m' := m) (dp' := dp + 1) (pl' := pl) (b' := 0) (p' := q) (sc' := t + 2) ⟨⟨?_, (h36 2 (by omega) (by omega) (by omega)).trans a2, a3, fun i hi => ?_⟩, ?_, ⟨rfl, (h36 20 (by omega) (by omega) (by omega)).trans a7, by omega⟩, ⟨?_, a10⟩, fun _ => ⟨?_, rfl, hqm, by omega⟩, ⟨?_, rfl, by omega, fun j hj => ?_⟩, ?_⟩
  · exact (va_up_ne _ _ k53).trans ((va_up_ne _ _ k54).trans ((va_up_ne _ _ k38).trans (hI k k34 k35 (by omega))))
  · show IAm 38 0 = _
    rw [e38]
  · show IAm 50 0 = _
    rw [e50]
  · refine ⟨congrFun (hI 39 (by omega) (by omega) (by omega)) _, fun i hi => ⟨congrFun (hI 40 (by omega) (by omega) (by omega)) _, congrFun (hI 41 (by omega) (by omega) (by omega)) _, congrFun (hI 42 (by omega) (by omega) (by omega)) _, ?_, congrFun (hI 44 (by omega) (by omega) (by omega)) _, fun j hj => congrFun (hI 45 (by omega) (by omega) (by omega)) _⟩, fun i hi => ⟨congrFun (hI 46 (by omega) (by omega) (by omega)) _, fun j hj => congrFun (hI 47 (by omega) (by omega) (by omega)) _⟩⟩
    show IAm 43 (7 * 0 + i) = _
    rcases tg with ⟨t1, t2⟩ | ⟨t9, t0, t1, t2⟩
    · rw [t2]
    · rw [t2, upd_ne (by omega)]
  · rw [h20 2 (by omega), s2]
    exact a1
  · show IAm 33 i = IAm 37 (128 + i)
    rw [e33, e37]
    exact a4 i hi
  · rw [hSc 21 (by omega) (by omega), hS 21 (by omega) (by omega)]
    exact a5
  · show IAm 50 1 = _
    rw [e50]
    exact a9
  · rw [h20 3 (by omega)]
    exact s3
  · rw [h20 7 (by omega)]
    exact s7
  · show IAm 35 j = mfCk (IAm 53) rd 0 0 (t + 2) j
    rw [mfCk_00 hj]
    exact h35 j hj
  · show SdR 1 (dp + 1) (IAm 25) (RA 24) _ _ (Gd fmN (IAm 49) (LA2 48) tl N dr 150 (150 + pl)) (fun i st => st ≤ m ∧ _ = IAm 37 (128 + (st - 1)))
    rw [e25, e49, z1, e37]
    rcases tg with ⟨t1, t2⟩ | ⟨t9, t0, t1, t2⟩
    · have hB : ∀ i, i < 7 → nxG (va_up SCc 20 (upd (SCc 20) 4 0)) (t + 2) (26 + i) = SC (26 + i) := fun i hi => by
        rw [hSc _ (by omega) (by omega)]
        by_cases e : i = dp + 1
        · subst e; exact t1
        · exact hS _ (by omega) (by omega)
      refine SdR_congr a16 rfl rfl hB (AgS_eq (fun k k1 k2 => ?_)) (fun _ _ z => z) (fun i st i1 i2 z => ⟨z.1, by rw [hB i (by omega)]; exact z.2⟩)
      rw [va_up_ne _ _ (by omega), va_up_ne _ _ (by omega), va_up_ne _ _ (by omega)]
      by_cases e : k = 43
      · subst e; exact t2
      · exact hI k (by omega) (by omega) e
    · have hB : ∀ j, j < 7 → nxG (va_up SCc 20 (upd (SCc 20) 4 0)) (t + 2) (26 + j) = if j = dp + 1 then upd (SC (26 + (dp + 1))) 2 (nI t9) else SC (26 + j) := fun j hj => by
        rw [hSc _ (by omega) (by omega)]
        by_cases e : j = dp + 1
        · subst e; rw [if_pos rfl]; exact t1
        · rw [if_neg e]; exact hS _ (by omega) (by omega)
      have hT := SdR_tgt (s := 1) (t9 := t9) (B' := fun i => nxG (va_up SCc 20 (upd (SCc 20) 4 0)) (t + 2) (26 + i)) (IA' := va_up (va_up (va_up IAm 38 (upd (IAm 38) 1 (nI q))) 54 rd) 53 (mfCk (IAm 53) rd 0 0 (t + 2))) (by omega) a16 (by omega) t0 hB t2 (fun k k1 k2 k3 => by
        rw [va_up_ne _ _ (by omega), va_up_ne _ _ (by omega), va_up_ne _ _ (by omega)]
        exact hI k (by omega) (by omega) k3)
      refine SdR_congr hT rfl rfl (fun _ _ => rfl) (AgS_eq (fun _ _ _ => rfl)) (fun _ _ z => z) (fun i st i1 i2 z => ⟨z.1, ?_⟩)
      rw [hB i (by omega)]
      by_cases e : i = dp + 1
      · rw [if_pos e, upd_ne (by omega), ← e]; exact z.2
      · rw [if_neg e]; exact z.2
theorem pPl_b {g : Nat → Int32} {p t q : Nat} {nu : Nat → Nat} (h : pPl g m p = some (t, nu, q)) : 1 ≤ t ∧ t ≤ 17 ∧ p ≤ q ∧ q ≤ 32 * m ∧ ∀ i, i < t → nu i < 2 ^ 31 := by
  unfold pPl at h
  cases h1 : gC g m 6 p with
  | none => rw [h1] at h; cases h
  | some z =>
    obtain ⟨c, p1⟩ := z
    rw [h1] at h
    dsimp only at h
    obtain ⟨b1, b2, b3⟩ := gC_b h1
    cases h2 : gC g m 6 p1 with
    | none => rw [h2] at h; cases h
    | some z =>
      obtain ⟨n, p2⟩ := z
      rw [h2] at h
      dsimp only at h
      obtain ⟨c1, c2, c3⟩ := gC_b h2
      split at h
      · rename_i hn
        cases h3 : pSq (fun _ => gC g m 6) 1 (va_up (fun _ => 0) 0 c) p2 n with
        | none => rw [h3] at h; cases h
        | some z =>
          obtain ⟨nu', q'⟩ := z
          rw [h3] at h
          cases h
          obtain ⟨s1, s2, s3, s4⟩ := pSq_b (n0 := n) (m := m) (F := fun _ => gC g m 6) (fun _ _ _ _ _ _ _ h => by have := gC_b h; omega) c3 (fun i hi => by rw [show i = 0 by omega]; exact b1) n (Nat.le_refl _) h3
          exact ⟨by omega, by omega, by omega, s4, fun i hi => s1 i (by omega)⟩
      · cases h
theorem pBF_ge {g : Nat → Int32} {p t q n : Nat} {kk vv nu : Nat → Nat} (hp : p ≤ 32 * m) (hB : fmB n kk vv) (h0 : 0 < n) (h : pBF g m n kk vv p = some (t, nu, q)) : p ≤ q := by
  have hSn : sgN kk n ≤ n := sgN_le
  unfold pBF at h
  cases h1 : pSq (fun i => pBy g m (kk i) (vv i)) 0 (fun _ => 0) p (sgN kk n) with
  | none => rw [h1] at h; cases h
  | some z =>
    obtain ⟨nu1, p1⟩ := z
    rw [h1] at h
    dsimp only at h
    obtain ⟨s1, s2, s3, s4⟩ := pSq_b (n0 := n) (m := m) (F := fun i => pBy g m (kk i) (vv i)) (fun i p v q h1 h2 hp he => pBy_b hp (hB i (by omega)).2.1 (fun z => ((hB i (by omega)).2.2.1 z).2) he) hp (fun i hi => absurd hi (by omega)) (sgN kk n) hSn h1
    by_cases hR : rwN kk n
    · rw [if_pos hR] at h
      cases h2 : gC g m 6 p1 with
      | none => rw [h2] at h; cases h
      | some z =>
        obtain ⟨l, p2⟩ := z
        rw [h2] at h
        dsimp only at h
        obtain ⟨c1, c2, c3⟩ := gC_b h2
        split at h
        · cases h4 : pSq (fun _ => pBy g m (kk (n - 1)) (vv (n - 1))) (sgN kk n) nu1 p2 l with
          | none => rw [h4] at h; cases h
          | some z =>
            obtain ⟨nu2, q2⟩ := z
            rw [h4] at h
            cases h
            obtain ⟨e3, e4, e5, e6⟩ := hB (n - 1) (by omega)
            obtain ⟨u1, u2, u3, u4⟩ := pSq_b (n0 := l) (m := m) (F := fun _ => pBy g m (kk (n - 1)) (vv (n - 1))) (fun i p v q h1 h2 hp he => pBy_b hp e4 (fun z => (e5 z).2) he) c3 (fun i hi => s1 i (by omega)) l (Nat.le_refl _) h4
            omega
        · cases h
    · rw [if_neg hR] at h
      cases h
      exact s3
end NXR
