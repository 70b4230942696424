/-! STEPS: what does not touch a side leaves it; the small calls -/
section STC
variable {IA IA' : Nat → Nat → Int32} {LA LA' : Nat → Nat → Int64} {RA RA' : Nat → Nat → Option Nat} {SC SC' : Nat → Nat → Int32} {dr dr' : Nat} {tl tl' : Nat → va_E} {N N' E dp pl m b p sc : Nat}
theorem RS_congr {g g' S S' : Nat → Int32} (h : RS g S E) (h1 : g' = g) (h2 : ∀ j, j < 128 → S' j = S j) : RS g' S' E := by
  subst h1
  refine ⟨fun i hi => by rw [h2 i (by omega)]; exact h.1 i hi, fun j a c => ?_⟩
  have := h.2 j a c
  unfold sb at this ⊢
  rw [h2 _ (by omega)]
  exact this
theorem WrR_congr (h : WrR IA LA RA SC dr tl N E dp pl) (h1 : SC' 2 1 = SC 2 1) (h2 : IA' 38 0 = IA 38 0) (h3 : IA' 3 = IA 3) (h4 : ∀ j, j < 128 → IA' 37 j = IA 37 j) (h5 : SC' 4 2 = SC 4 2) (h6 : IA' 50 0 = IA 50 0) (h7 : IA' 8 = IA 8) (h8 : RA' 7 = RA 7) (h9 : ∀ i, i < 7 → SC' (9 + i) = SC (9 + i)) (h10 : AgS 0 IA IA') (hG : ∀ y f, Gd fmW (IA 49) (LA 48) tl N dr 0 pl y f → Gd fmW (IA' 49) (LA' 48) tl' N' dr' 0 pl y f) : WrR IA' LA' RA' SC' dr' tl' N' E dp pl := by
  obtain ⟨a1, a2, a3, a4, a5, a6, a7, a8, a9, a10⟩ := h
  refine ⟨h1.trans a1, h2.trans a2, a3, RS_congr a4 h3 h4, h5.trans a5, a6, h6.trans a7, a8, fun w hd hw hw8 => a9 w hd ?_ hw8, SdR_congr a10 h7 h8 h9 h10 hG (fun _ _ _ _ z => z)⟩
  have := (h10.2.1 dp (by have := a10.1; omega)).2.1
  rw [Nat.mul_zero, Nat.zero_add] at this
  rw [← this]
  exact hw
theorem RdR_congr (h : RdR IA LA RA SC dr tl N m dp pl b p sc) (h1 : SC' 20 = SC 20) (h2 : SC' 36 2 = SC 36 2) (h3 : IA' 33 = IA 33) (h4 : ∀ j, 128 ≤ j → IA' 37 j = IA 37 j) (h5 : SC' 21 2 = SC 21 2) (h6 : SC' 36 20 = SC 36 20) (h7 : IA' 50 1 = IA 50 1) (h8 : IA' 38 1 = IA 38 1) (h9 : SC' 36 22 = SC 36 22) (h10 : IA' 35 = IA 35) (h11 : IA' 53 = IA 53) (h12 : IA' 25 = IA 25) (h13 : RA' 24 = RA 24) (h14 : ∀ i, i < 7 → SC' (26 + i) = SC (26 + i)) (h15 : AgS 1 IA IA') (hG : ∀ y f, Gd fmN (IA 49) (LA 48) tl N dr 150 (150 + pl) y f → Gd fmN (IA' 49) (LA' 48) tl' N' dr' 150 (150 + pl) y f) : RdR IA' LA' RA' SC' dr' tl' N' m dp pl b p sc := by
  obtain ⟨⟨a1, a2, a3, a4⟩, a5, ⟨a6, a7, a8⟩, ⟨a9, a10⟩, a11, ⟨a12, a13, a14, a15⟩, a16⟩ := h
  refine ⟨⟨by rw [h1]; exact a1, h2.trans a2, a3, fun i hi => by rw [h3, h4 _ (by omega)]; exact a4 i hi⟩, h5.trans a5, ⟨by rw [h1]; exact a6, h6.trans a7, a8⟩, ⟨h7.trans a9, a10⟩, fun hb => by rw [h1, h8]; exact a11 hb, ⟨by rw [h1]; exact a12, h9.trans a13, a14, fun i hi => by rw [h10, h11]; exact a15 i hi⟩, SdR_congr a16 h12 h13 h14 h15 hG (fun i st i1 i2 z => ⟨z.1, by rw [h14 i (by have := a16.1; omega), h4 _ (by omega)]; exact z.2⟩)⟩
theorem thr_ne {z : Int32} {k : Nat} (h : k ≠ 36) : thr SC z k = SC k := va_up_ne _ _ h
theorem RR_thr {z : Int32} (h : RR IA LA RA SC dr tl N) : RR IA LA RA (thr SC z) dr tl N := by
  obtain ⟨h1, h2, h3, h4, h5, ⟨E, dp, pl, h6⟩, m, dp2, pl2, b, p, sc, h7⟩ := h
  exact ⟨h1, h2, h3, h4, h5, ⟨E, dp, pl, WrR_congr h6 rfl rfl rfl (fun _ _ => rfl) rfl rfl rfl rfl (fun i hi => thr_ne (by omega)) (AgS_eq (fun _ _ _ => rfl)) (fun _ _ z => z)⟩, m, dp2, pl2, b, p, sc, RdR_congr h7 rfl rfl rfl (fun _ _ => rfl) rfl rfl rfl rfl rfl rfl rfl rfl rfl (fun i hi => thr_ne (by omega)) (AgS_eq (fun _ _ _ => rfl)) (fun _ _ z => z)⟩
end STC
/-- a call of the class, the same of the model: the same answer, and all stands as before -/
def Duo (h : pm_H) (M1 M2 : Nat) (As : List Value) (P : Option Value → Prop) : Prop := ∃ v h1 h2 c1 s1, pm_call 15 M1 (.ref 0 :: As) h (.inl v) h1 c1 s1 ∧ pm_call 15 M2 (.ref 36 :: As) h1 (.inl v) h2 0 0 ∧ St h2 ∧ c1 ≤ 4 ∧ s1 ≤ 25 ∧ P v
abbrev isI (v : Option Value) : Prop := ∃ x : Int32, v = some (.int x)
section STS
variable {h : pm_H}
theorem s_words (hs : St h) : Duo h 83 127 [] isI := by
  obtain ⟨IA, LA, RA, SC, dr, tl, N, rfl, hR⟩ := hs
  obtain ⟨E, dp, pl, hW⟩ := hR.2.2.2.2.2.1
  exact ⟨_, _, _, 0, 0, b_words (d := 13) hW.1 (by have := hW.2.2.1; omega), m_words (d := 14) hW.2.1 hW.2.2.1, ⟨_, _, _, _, _, _, _, rfl, RR_thr hR⟩, by omega, by omega, _, rfl⟩
theorem c_wordAtI {IA : Nat → Nat → Int32} {LA : Nat → Nat → Int64} {RA : Nat → Nat → Option Nat} {SC : Nat → Nat → Int32} {dr : Nat} {tl : Nat → va_E} {N d : Nat} {i : Int32} : pm_call (d + 1) 2 [.ref 2, .int i] (N, HC IA LA RA SC dr tl) (.inl (some (.int (if 0 ≤ i.toInt ∧ i.toInt < 64 then IA 3 i.toInt.toNat else 0)))) (N, HC IA LA RA SC dr tl) 0 0 := by
  by_cases h0 : i.toInt < 0
  · rw [if_neg (by omega)]
    refine pm_callX jm_2 [(0, .ref 2), (1, .int i)] rfl rfl rfl ?_
    refine pm_go 1 (pc1 := 1) rfl ?_
    refine pm_if rfl (fun _ => ?_) (fun z => absurd (i32_lt0.mpr h0) z)
    refine pm_go 1 (pc1 := 23) rfl ?_
    exact pm_iret rfl rfl rfl rfl
  · have e : i = nI i.toInt.toNat := i32_nat (by omega)
    refine pm_callX jm_2 [(0, .ref 2), (1, .int i)] rfl rfl rfl ?_
    refine pm_go 1 (pc1 := 1) rfl ?_
    refine pm_if rfl (fun z => absurd (i32_lt0.mp z) h0) (fun _ => ?_)
    refine pm_go 2 (pc1 := 6) rfl ?_
    refine pm_getf rfl rfl rfl ?_
    refine pm_alen rfl rfl (Or.inl rfl) ?_
    by_cases h1 : i.toInt < 64
    · refine pm_icmp rfl (fun z => absurd ((i32_le (by omega)).mp z) (by omega)) (fun _ => ?_)
      refine pm_go 1 (pc1 := 14) rfl ?_
      refine pm_getf rfl rfl rfl ?_
      refine pm_go 1 (pc1 := 18) rfl ?_
      refine pm_iald (j := i.toInt.toNat) rfl rfl (Int.toNat_of_nonneg (by omega)).symm (by omega) ?_
      refine pm_go 1 (pc1 := 23) rfl ?_
      rw [if_pos (by omega)]
      exact pm_iret rfl rfl rfl rfl
    · refine pm_icmp rfl (fun _ => ?_) (fun z => absurd ((i32_le (by omega)).mpr (by omega)) z)
      refine pm_go 1 (pc1 := 23) rfl ?_
      rw [if_neg (by omega)]
      exact pm_iret rfl rfl rfl rfl
theorem b_word {IA : Nat → Nat → Int32} {LA : Nat → Nat → Int64} {RA : Nat → Nat → Option Nat} {SC : Nat → Nat → Int32} {dr : Nat} {tl : Nat → va_E} {N d : Nat} {i : Int32} : pm_call (d + 2) 84 [.ref 0, .int i] (N, HC IA LA RA SC dr tl) (.inl (some (.int (if 0 ≤ i.toInt ∧ i.toInt < 64 then IA 3 i.toInt.toNat else 0)))) (N, HC IA LA RA SC dr tl) 0 0 := by
  refine pm_callX jm_84 [(0, .ref 0), (1, .int i)] rfl rfl rfl ?_
  refine pm_go 1 (pc1 := 1) rfl ?_
  refine pm_getf rfl rfl rfl ?_
  refine pm_getf rfl rfl rfl ?_
  refine pm_go 1 (pc1 := 8) rfl ?_
  refine pm_cV [.int i] rfl rfl rfl rfl rfl rfl (Nat.zero_le _) (Nat.zero_le _) c_wordAtI ?_
  exact pm_iret rfl rfl rfl rfl
theorem s_word (hs : St h) (i : Int32) : Duo h 84 128 [.int i] isI := by
  obtain ⟨IA, LA, RA, SC, dr, tl, N, rfl, hR⟩ := hs
  obtain ⟨E, dp, pl, hW⟩ := hR.2.2.2.2.2.1
  have hRS := hW.2.2.2.1
  have hE := hW.2.2.1
  have e : (if 0 ≤ i.toInt ∧ i.toInt < 64 then IA 3 i.toInt.toNat else 0) = (if 0 ≤ i.toInt ∧ i.toInt < (((E + 31) / 32 : Nat) : Int) then IA 37 i.toInt.toNat else 0) := by
    by_cases h1 : 0 ≤ i.toInt ∧ i.toInt < 64
    · rw [if_pos h1, hRS.1 _ (by omega)]
      by_cases h2 : i.toInt < (((E + 31) / 32 : Nat) : Int)
      · rw [if_pos ⟨h1.1, h2⟩]
      · rw [if_neg (fun z => h2 z.2)]
        refine b_ext fun k hk => ?_
        have := hRS.2 (32 * i.toInt.toNat + k) (by omega) (by omega)
        unfold sb at this
        rw [show (32 * i.toInt.toNat + k) / 32 = i.toInt.toNat by omega, show (32 * i.toInt.toNat + k) % 32 = k by omega] at this
        rw [this, b_0]
    · rw [if_neg h1, if_neg (by omega)]
  have hm := m_word (d := 13) (IA := IA) (LA := LA) (RA := RA) (SC := SC) (dr := dr) (tl := tl) (N := N) (i := i) hW.2.1 hE
  rw [← e] at hm
  exact ⟨_, _, _, 0, 0, b_word (d := 13), hm, ⟨_, _, _, _, _, _, _, rfl, RR_thr hR⟩, by omega, by omega, _, rfl⟩
theorem s_depth (hs : St h) : Duo h 85 129 [] isI := by
  obtain ⟨IA, LA, RA, SC, dr, tl, N, rfl, hR⟩ := hs
  obtain ⟨E, dp, pl, hW⟩ := hR.2.2.2.2.2.1
  have hm := m_depth (d := 14) (IA := IA) (LA := LA) (RA := RA) (SC := SC) (dr := dr) (tl := tl) (N := N)
  rw [show IA 39 0 = SC 4 2 from hW.2.2.2.2.2.2.2.2.2.2.1.trans hW.2.2.2.2.1.symm] at hm
  exact ⟨_, _, _, 0, 0, b_depth (d := 14), hm, ⟨_, _, _, _, _, _, _, rfl, RR_thr hR⟩, by omega, by omega, _, rfl⟩
theorem s_level (hs : St h) : Duo h 94 150 [] isI := by
  obtain ⟨IA, LA, RA, SC, dr, tl, N, rfl, hR⟩ := hs
  obtain ⟨m, dp, pl, b, p, sc, hD⟩ := hR.2.2.2.2.2.2
  have hm := m_level (d := 14) (IA := IA) (LA := LA) (RA := RA) (SC := SC) (dr := dr) (tl := tl) (N := N)
  rw [show IA 39 1 = SC 21 2 from hD.2.2.2.2.2.2.2.1.trans hD.2.1.symm] at hm
  exact ⟨_, _, _, 0, 0, b_level (d := 14), hm, ⟨_, _, _, _, _, _, _, rfl, RR_thr hR⟩, by omega, by omega, _, rfl⟩
theorem s_info (hs : St h) (i : Int32) : Duo h 93 149 [.int i] isI := by
  obtain ⟨IA, LA, RA, SC, dr, tl, N, rfl, hR⟩ := hs
  obtain ⟨m, dp, pl, b, p, sc, hD⟩ := hR.2.2.2.2.2.2
  obtain ⟨s1, s2, s3, s4⟩ := hD.2.2.2.2.2.1
  have hm := m_info (d := 13) (IA := IA) (LA := LA) (RA := RA) (dr := dr) (tl := tl) (N := N) (i := i) s2 s3
  have e : (if 0 ≤ i.toInt ∧ i.toInt < (sc : Int) then IA 53 i.toInt.toNat else -1) = (if 0 ≤ i.toInt ∧ i.toInt < (sc : Int) then IA 35 i.toInt.toNat else -1) := by
    by_cases h1 : 0 ≤ i.toInt ∧ i.toInt < (sc : Int)
    · rw [if_pos h1, if_pos h1, s4 _ (by omega)]
    · rw [if_neg h1, if_neg h1]
  rw [e] at hm
  exact ⟨_, _, _, 0, 0, b_info (c_shownAt (d := 13) s1 s3), hm, ⟨_, _, _, _, _, _, _, rfl, RR_thr hR⟩, by omega, by omega, _, rfl⟩
end STS
