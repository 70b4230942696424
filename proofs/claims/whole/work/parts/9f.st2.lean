/-! STEPS: what is prepared; clear; the reader rewound -/
section ST2
variable {IA IA' : Nat → Nat → Int32} {LA LA' : Nat → Nat → Int64} {RA RA' : Nat → Nat → Option Nat} {SC SC' : Nat → Nat → Int32} {dr dr' : Nat} {tl tl' : Nat → va_E} {N N' E dp pl m b p sc : Nat} {h : pm_H}
theorem GdD {P : (Nat → Int32) → (Nat → Int32) → Nat → (Nat → Nat) → (Nat → Nat) → Prop} {O : Nat → Int32} {L : Nat → Int64} {lo hi y f : Nat} (ht : ∀ k, ¬ (dr ≤ k ∧ k < dr + 3) → tl' k = tl k) (z : Gd P O L tl N dr lo hi y f) : Gd P O L tl' N dr lo hi y f :=
  Gd_mono (fun _ _ _ => rfl) (fun _ _ _ => rfl) (fun k _ hk => ht k hk) (Nat.le_refl _) (fun _ _ z => z) (Nat.le_refl _) z
theorem s_drop (hs : St h) : Duo h 80 116 [] (fun v => v = none) := by
  obtain ⟨IA, LA, RA, SC, dr, tl, N, rfl, h1, h2, h3, ⟨d1, d2, n, K, V, kk, vv, d3, d4, d5, d6, d7⟩, h5, ⟨E, dp, pl, h6⟩, m, dp2, pl2, b, p, sc, h7⟩ := hs
  refine ⟨_, _, _, 0, 0, b_drop (c_forget (d := 13) d1 d3), m_drop (d := 14), ⟨_, _, _, _, _, _, _, rfl, h1, h2, h3, ⟨d1, d2, 0, K, V, kk, vv, ⟨va_up_self _ _ _, ?_, ?_, by omega⟩, fun k hk => absurd hk (by omega), fun k hk => absurd hk (by omega), rfl, fun k hk => absurd hk (by omega)⟩, ⟨0, fun _ => 0, by omega, rfl, rfl, fun j hj => absurd hj (by omega)⟩, ⟨E, dp, pl, ?_⟩, m, dp2, pl2, b, p, sc, ?_⟩, by omega, by omega, rfl⟩
  · rw [va_up_ne _ _ (by omega)]; exact d3.2.1
  · rw [va_up_ne _ _ (by omega)]; exact d3.2.2.1
  · exact WrR_congr h6 rfl rfl rfl (fun _ _ => rfl) rfl rfl rfl rfl (fun i hi => (va_up_ne _ _ (by omega)).trans ((va_up_ne _ _ (by omega)).trans ((va_up_ne _ _ (by omega)).trans (va_up_ne _ _ (by omega))))) (AgS_eq (fun _ _ _ => rfl)) (fun _ _ z => GdD (fun k hk => va_up_ne _ _ (by omega)) z)
  · exact RdR_congr h7 rfl rfl rfl (fun _ _ => rfl) rfl rfl rfl rfl rfl rfl rfl rfl rfl (fun i hi => (va_up_ne _ _ (by omega)).trans ((va_up_ne _ _ (by omega)).trans ((va_up_ne _ _ (by omega)).trans (va_up_ne _ _ (by omega))))) (AgS_eq (fun _ _ _ => rfl)) (fun _ _ z => GdD (fun k hk => va_up_ne _ _ (by omega)) z)
theorem s_value (hs : St h) (v : Int32) : Duo h 79 115 [.int v] isI := by
  obtain ⟨IA, LA, RA, SC, dr, tl, N, rfl, hR⟩ := hs
  have hR0 := hR
  obtain ⟨h1, h2, h3, h4, ⟨vc, nu, v1, v2, v3, v4⟩, ⟨E, dp, pl, h6⟩, m, dp2, pl2, b, p, sc, h7⟩ := hR
  have hc := c_prepareValue (d := 13) (IA := IA) (LA := LA) (RA := RA) (dr := dr) (tl := tl) (N := N) (v := v) v2 (by omega) (by omega)
  by_cases hv : v < 0
  · rw [if_pos hv, if_pos (Or.inl hv)] at hc
    have hm := m_value (d := 14) (IA := IA) (LA := LA) (RA := RA) (SC := SC) (dr := dr) (tl := tl) (N := N) (v := v) v3 v1
    rw [if_pos hv, if_pos (Or.inl hv)] at hm
    exact ⟨_, _, _, 0, 0, b_value hc, hm, ⟨_, _, _, _, _, _, _, rfl, RR_thr hR0⟩, by omega, by omega, _, rfl⟩
  · by_cases h16 : vc = 16
    · rw [if_neg hv, if_pos (by omega), if_pos (Or.inr (by omega))] at hc
      have hm := m_value (d := 14) (IA := IA) (LA := LA) (RA := RA) (SC := SC) (dr := dr) (tl := tl) (N := N) (v := v) v3 v1
      rw [if_neg hv, if_pos h16, if_pos (Or.inr h16)] at hm
      exact ⟨_, _, _, 0, 0, b_value hc, hm, ⟨_, _, _, _, _, _, _, rfl, RR_thr hR0⟩, by omega, by omega, _, rfl⟩
    · rw [if_neg hv, if_neg (by omega), if_neg (fun z => z.elim hv (by omega))] at hc
      have hm := m_value (d := 14) (IA := va_up IA 19 (upd (IA 19) (vc + 1) v)) (LA := LA) (RA := RA) (SC := va_up SC 1 (upd (SC 1) 4 (nI (vc + 1 + 1)))) (dr := dr) (tl := tl) (N := N) (v := v) v3 v1
      rw [if_neg hv, if_neg h16, if_neg (fun z => z.elim hv h16)] at hm
      have hv0 : 0 ≤ v.toInt := Int.not_lt.mp (fun z => hv (i32_lt0.mpr z))
      have hx : v.toInt.toNat < 2 ^ 31 := by
        have := Int32.toInt_lt v
        omega
      refine ⟨_, _, _, 0, 0, b_value hc, hm, ⟨_, _, _, _, _, _, _, rfl, h1, h2, h3, h4, ⟨vc + 1, va_up nu vc v.toInt.toNat, by omega, rfl, rfl, fun j hj => ?_⟩, ⟨E, dp, pl, ?_⟩, m, dp2, pl2, b, p, sc, ?_⟩, by omega, by omega, _, rfl⟩
      · show upd (IA 19) (vc + 1) v (j + 1) = _ ∧ upd (IA 52) vc v j = _ ∧ _
        by_cases e : j = vc
        · subst e
          rw [upd_at, upd_at, va_up_self]
          exact ⟨i32_nat hv0, i32_nat hv0, hx⟩
        · rw [upd_ne (by omega), upd_ne e, va_up_ne _ _ e]
          exact v4 j (by omega)
      · exact WrR_congr h6 rfl rfl rfl (fun _ _ => rfl) rfl rfl rfl rfl (fun i hi => (va_up_ne _ _ (by omega)).trans ((va_up_ne _ _ (by omega)).trans (va_up_ne _ _ (by omega)))) (AgS_eq (fun k k1 k2 => by rw [va_up_ne _ _ (by omega), va_up_ne _ _ (by omega)])) (fun _ _ z => z)
      · exact RdR_congr h7 rfl rfl rfl (fun _ _ => rfl) rfl rfl rfl rfl rfl rfl rfl rfl rfl (fun i hi => (va_up_ne _ _ (by omega)).trans ((va_up_ne _ _ (by omega)).trans (va_up_ne _ _ (by omega)))) (AgS_eq (fun k k1 k2 => by rw [va_up_ne _ _ (by omega), va_up_ne _ _ (by omega)])) (fun _ _ z => z)
theorem s_op (hs : St h) (k v : Int32) : Duo h 78 114 [.int k, .int v] isI := by
  obtain ⟨IA, LA, RA, SC, dr, tl, N, rfl, hR⟩ := hs
  have hR0 := hR
  obtain ⟨h1, h2, h3, ⟨d1, d2, n, K, V, kk, vv, d3, d4, d5, d6, d7⟩, h5, ⟨E, dp, pl, h6⟩, m, dp2, pl2, b, p, sc, h7⟩ := hR
  have hn8 := d3.2.2.2
  have hc := c_prepareOp (d := 11) (IA := IA) (LA := LA) (RA := RA) (SC := SC) (N := N) (k := k) (v := v) d1 d3
  have hk : opOk k.toInt v.toInt → k = nI k.toInt.toNat ∧ k.toInt.toNat ≤ 3 ∧ (¬ k.toInt.toNat = 3 → v = nI (if k.toInt.toNat = 3 then 0 else v.toInt.toNat)) ∧ (k.toInt.toNat = 3 → (if k.toInt.toNat = 3 then 0 else v.toInt.toNat) = 0) ∧ (if k.toInt.toNat = 3 then 0 else v.toInt.toNat) < 2 ^ 31 := by
    intro ho
    have hv := Int32.toInt_lt v
    refine ⟨i32_nat (by omega), by omega, fun z => ?_, fun z => by rw [if_pos z], ?_⟩
    · rw [if_neg z]
      exact i32_nat (by omega)
    · split <;> omega
  by_cases hg : opOk k.toInt v.toInt ∧ n < 8
  · rw [if_pos hg.1, if_neg (by omega), if_pos hg] at hc
    have hm := m_op (d := 12) (IA := IA) (LA := LA) (RA := RA) (SC := SC) (dr := dr) (tl := fmAdd tl dr n K V k v) (N := N) (k := k) (v := v) d6 hn8 hk
    rw [if_pos hg.1, if_neg (by omega), if_pos hg] at hm
    obtain ⟨k1, k2, k3, k4, k5⟩ := hk hg.1
    refine ⟨_, _, _, 0, 0, b_op hc, hm, ⟨_, _, _, _, _, _, _, rfl, h1, h2, h3, ⟨d1, d2, n + 1, upd K n k, upd V n v, va_up kk n k.toInt.toNat, va_up vv n (if k.toInt.toNat = 3 then 0 else v.toInt.toNat), fmAdd_at hg.2, fun j hj => ?_, fun j hj => ?_, rfl, fun j hj => ?_⟩, h5, ⟨E, dp, pl, ?_⟩, m, dp2, pl2, b, p, sc, ?_⟩, by omega, by omega, _, rfl⟩
    · by_cases e : j = n
      · subst e
        rw [upd_at, upd_at, va_up_self, va_up_self]
        refine ⟨k1, k3, k2, k5, fun z => ?_, fun z => ?_⟩
        · rw [if_neg (by omega)]; have := hg.1; omega
        · rw [if_neg (by omega)]; have := hg.1; omega
      · rw [upd_ne e, upd_ne e, va_up_ne _ _ e, va_up_ne _ _ e]
        exact d4 j (by omega)
    · by_cases e : j = n
      · subst e
        rw [va_up_self, va_up_self]
        refine ⟨k2, k5, fun z => ?_, fun z => ?_⟩
        · rw [if_neg (by omega)]; have := hg.1; omega
        · rw [if_neg (by omega)]; have := hg.1; omega
      · rw [va_up_ne _ _ e, va_up_ne _ _ e]
        exact d5 j (by omega)
    · show vp_updL (LA 51) n _ (0 + j) = _ ∧ _
      rw [Nat.zero_add]
      by_cases e : j = n
      · subst e
        rw [vl_at, va_up_self, va_up_self]
        exact ⟨rfl, k2, k5⟩
      · rw [vl_ne _ _ e, va_up_ne _ _ e, va_up_ne _ _ e]
        have := d7 j (by omega)
        rw [Nat.zero_add] at this
        exact this
    · exact WrR_congr h6 rfl rfl rfl (fun _ _ => rfl) rfl rfl rfl rfl (fun i hi => (va_up_ne _ _ (by omega)).trans (va_up_ne _ _ (by omega))) (AgS_eq (fun _ _ _ => rfl)) (fun _ _ z => GdD (fun k hk => fmAdd_ne (by omega) (by omega) (by omega)) z)
    · exact RdR_congr h7 rfl rfl rfl (fun _ _ => rfl) rfl rfl rfl rfl rfl rfl rfl rfl rfl (fun i hi => (va_up_ne _ _ (by omega)).trans (va_up_ne _ _ (by omega))) (AgS_eq (fun _ _ _ => rfl)) (fun _ _ z => GdD (fun k hk => fmAdd_ne (by omega) (by omega) (by omega)) z)
  · rw [if_neg hg] at hc
    have hm := m_op (d := 12) (IA := IA) (LA := LA) (RA := RA) (SC := SC) (dr := dr) (tl := tl) (N := N) (k := k) (v := v) d6 hn8 hk
    rw [if_neg hg] at hm
    exact ⟨_, _, _, 0, 0, b_op hc, hm, ⟨_, _, _, _, _, _, _, rfl, RR_thr hR0⟩, by omega, by omega, _, rfl⟩
theorem RS_0 (g S : Nat → Int32) : RS (cw_cut g 0) (fgK S 0 128) 0 := by
  have hz : ∀ i, i < 128 → fgK S 0 128 i = 0 := fun i hi => by unfold fgK; rw [if_pos (by omega)]
  refine ⟨fun i hi => b_ext fun k hk => ?_, fun j _ hj => ?_⟩
  · rw [hz i (by omega), b_0]
    have := sb_cut g 0 (j := 32 * i + k) (by omega)
    unfold sb at this
    rw [show (32 * i + k) / 32 = i by omega, show (32 * i + k) % 32 = k by omega] at this
    rw [this]
    simp
  · unfold sb
    rw [hz _ (by omega), b_0]
theorem AgS1_fg {IA : Nat → Nat → Int32} (hI : ∀ k, 39 ≤ k → k ≤ 47 → IA' k = IA k) : AgS 1 IA (fgIA IA' 0) := by
  refine ⟨?_, fun i hi => ⟨congrFun (hI 40 (by omega) (by omega)) _, congrFun (hI 41 (by omega) (by omega)) _, congrFun (hI 42 (by omega) (by omega)) _, congrFun (hI 43 (by omega) (by omega)) _, congrFun (hI 44 (by omega) (by omega)) _, fun j _ => congrFun (hI 45 (by omega) (by omega)) _⟩, fun i hi => ⟨?_, fun j _ => congrFun (hI 47 (by omega) (by omega)) _⟩⟩
  · show upd (IA' 39) 0 0 1 = _
    rw [upd_ne (by omega), hI 39 (by omega) (by omega)]
  · show fgK (IA' 46) (64 * 0) 64 (64 * 1 + i) = _
    unfold fgK
    rw [if_neg (by omega), hI 46 (by omega) (by omega)]
theorem AgS0_fg {IA : Nat → Nat → Int32} (hI : ∀ k, 39 ≤ k → k ≤ 47 → IA' k = IA k) : AgS 0 IA (fgIA IA' 1) := by
  refine ⟨?_, fun i hi => ⟨congrFun (hI 40 (by omega) (by omega)) _, congrFun (hI 41 (by omega) (by omega)) _, congrFun (hI 42 (by omega) (by omega)) _, congrFun (hI 43 (by omega) (by omega)) _, congrFun (hI 44 (by omega) (by omega)) _, fun j _ => congrFun (hI 45 (by omega) (by omega)) _⟩, fun i hi => ⟨?_, fun j _ => congrFun (hI 47 (by omega) (by omega)) _⟩⟩
  · show upd (IA' 39) 1 0 0 = _
    rw [upd_ne (by omega), hI 39 (by omega) (by omega)]
  · show fgK (IA' 46) (64 * 1) 64 (64 * 0 + i) = _
    unfold fgK
    rw [if_neg (by omega), hI 46 (by omega) (by omega)]
theorem s_clear (hs : St h) : Duo h 86 131 [] (fun v => v = none) := by
  obtain ⟨IA, LA, RA, SC, dr, tl, N, rfl, h1, h2, h3, ⟨d1, d2, n, K, V, kk, vv, d3, d4, d5, d6, d7⟩, h5, ⟨E, dp, pl, h6⟩, m, dp2, pl2, b, p, sc, h7⟩ := hs
  obtain ⟨a1, a2, a3, a4, a5, a6, a7, a8, a9, a10⟩ := h6
  refine ⟨_, _, _, 0, 0, b_clear (c_writerAnew (d := 11) a10.1 a5 h2 d1 d3), m_clear (d := 13), ⟨_, _, _, _, _, _, _, rfl, h1, h2, h3, ⟨d1, d2, 0, K, V, kk, vv, ⟨va_up_self _ _ _, ?_, ?_, by omega⟩, fun k hk => absurd hk (by omega), fun k hk => absurd hk (by omega), rfl, fun k hk => absurd hk (by omega)⟩, ⟨0, fun _ => 0, by omega, rfl, rfl, fun j hj => absurd hj (by omega)⟩, ⟨0, 0, 0, ?_⟩, m, dp2, pl2, b, p, sc, ?_⟩, by omega, by omega, rfl⟩
  · rw [va_up_ne _ _ (by omega)]; exact d3.2.1
  · rw [va_up_ne _ _ (by omega)]; exact d3.2.2.1
  · refine ⟨rfl, rfl, by omega, RS_0 _ _, rfl, fun _ => rfl, rfl, by omega, fun w hw => absurd hw (by omega), ?_⟩
    refine SdR_0 a10.2.2.1 a10.2.2.2.1 rfl (fun i hi => ?_) (fun i hi => ?_)
    · show frZk (IA 8) 71 i = 0
      unfold frZk
      rw [if_pos (by omega)]
    · show fgK (IA 46) (64 * 0) 64 (64 * 0 + i) = 0
      unfold fgK
      rw [if_pos (by omega)]
  · refine RdR_congr h7 rfl rfl rfl (fun j hj => ?_) rfl rfl rfl rfl rfl rfl rfl rfl rfl (fun i hi => (va_up_ne _ _ (by omega)).trans ((va_up_ne _ _ (by omega)).trans ((va_up_ne _ _ (by omega)).trans ((va_up_ne _ _ (by omega)).trans ((va_up_ne _ _ (by omega)).trans (va_up_ne _ _ (by omega))))))) (AgS1_fg (fun k k1 k2 => by rw [va_up_ne _ _ (by omega), va_up_ne _ _ (by omega), va_up_ne _ _ (by omega)])) (fun _ _ z => GdD (fun k hk => va_up_ne _ _ (by omega)) z)
    show fgK (IA 37) 0 128 j = IA 37 j
    unfold fgK
    rw [if_neg (by omega)]
/-- the reader rewound, on both sides -/
theorem RR_rw {IAm : Nat → Nat → Int32} {SCm : Nat → Nat → Int32} (hR : RR IA LA RA SC dr tl N) (hm : m ≤ 64) (hI : ∀ k, k ≠ 25 → k ≠ 33 → k ≠ 37 → IAm k = IA k) (h25 : IAm 25 = frZk (IA 25) 71) (h37 : ∀ j, j < 128 → IAm 37 j = IA 37 j) (hw : ∀ i, i < m → IAm 33 i = IAm 37 (128 + i)) (hS : ∀ k, k ≠ 20 → k ≠ 21 → k ≠ 36 → SCm k = SC k) (s1 : SCm 20 2 = nI m) (s2 : SCm 36 2 = nI m) (s3 : SCm 20 3 = 0) (s4 : SCm 20 4 = 0) (s5 : SCm 20 7 = 0) (s6 : SCm 21 2 = 0) (s7 : SCm 36 16 = SC 36 16) (s8 : SCm 36 18 = SC 36 18) : RR (fgIA IAm 1) LA RA (rwSC SCm) dr tl N := by
  obtain ⟨h1, h2, h3, h4, h5, ⟨E, dp, pl, h6⟩, m9, dp2, pl2, b, p, sc, h7⟩ := hR
  obtain ⟨-, -, -, -, -, -, z1, z2, z3, z4, -⟩ := h7
  have e19 : fgIA IAm 1 19 = IA 19 := hI 19 (by omega) (by omega) (by omega)
  have e52 : fgIA IAm 1 52 = IA 52 := hI 52 (by omega) (by omega) (by omega)
  have e38 := hI 38 (by omega) (by omega) (by omega)
  have e50 := hI 50 (by omega) (by omega) (by omega)
  have e49 : fgIA IAm 1 49 = IA 49 := hI 49 (by omega) (by omega) (by omega)
  refine ⟨h1, h2, h3, ?_, ?_, ⟨E, dp, pl, ?_⟩, m, 0, 0, 0, 0, 0, ?_⟩
  · show DrR tl dr N (SCm 36 16) (LA 51)
    rw [s7]
    exact h4
  · show VaR (SCm 1 4) (fgIA IAm 1 19) (SCm 36 18) (fgIA IAm 1 52)
    rw [e19, e52, s8, hS 1 (by omega) (by omega) (by omega)]
    exact h5
  · refine WrR_congr h6 (show SCm 2 1 = SC 2 1 by rw [hS 2 (by omega) (by omega) (by omega)]) (show upd (IAm 38) 1 0 0 = IA 38 0 by rw [upd_ne (by omega), e38]) (hI 3 (by omega) (by omega) (by omega)) h37 (show SCm 4 2 = SC 4 2 by rw [hS 4 (by omega) (by omega) (by omega)]) (show upd (IAm 50) 1 0 0 = IA 50 0 by rw [upd_ne (by omega), e50]) (hI 8 (by omega) (by omega) (by omega)) rfl (fun i hi => ?_) (AgS0_fg (fun k k1 k2 => hI k (by omega) (by omega) (by omega))) (fun y f z => by rw [e49]; exact z)
    exact (va_up_ne _ _ (by omega)).trans ((va_up_ne _ _ (by omega)).trans ((va_up_ne _ _ (by omega)).trans (hS _ (by omega) (by omega) (by omega))))
  · refine ⟨⟨s1, s2, hm, hw⟩, s6, ⟨s4, rfl, by omega⟩, ⟨rfl, by omega⟩, fun _ => ⟨s3, rfl, by omega, by omega⟩, ⟨s5, rfl, by omega, fun i hi => absurd hi (by omega)⟩, ?_⟩
    have e26 : rwSC SCm (26 + 0) = SC (26 + 0) := hS 26 (by omega) (by omega) (by omega)
    refine SdR_0 (by show rwSC SCm (26 + 0) 0 = -1; rw [e26]; exact z3) (by show rwSC SCm (26 + 0) 1 = 2; rw [e26]; exact z4) rfl (fun i hi => ?_) (fun i hi => ?_)
    · show IAm 25 i = 0
      rw [h25]
      unfold frZk
      rw [if_pos (by omega)]
    · show fgK (IAm 46) (64 * 1) 64 (64 * 1 + i) = 0
      unfold fgK
      rw [if_pos (by omega)]
end ST2
