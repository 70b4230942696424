/-! THE READER: words replaced, taken over; a record shown -/
section PMV
variable {S : Nat → List Value → pm_H → pm_V → pm_H → Nat → Nat → Prop} {J : Nat → pm_I} {nL : Nat} {rt : Option FieldType} {d bc bs : Nat} {pc : Nat} {lv : List (Nat × Value)} {c s : Nat} {N : Nat} {f f1 : Nat → va_E} {r : pm_V} {h' : pm_H} {t : List Value}
theorem pm_acpy {i b : Nat} {zz : Int32} {k0 k1 n0 n1 ln sj dj : Nat} {x y z : Int32} {g0 g1 : Nat → Int32} (hi : J pc = (.invokestatic i, 1001, b, zz)) (h0 : f k0 = .inl (0, n0, .inl g0)) (h1 : f k1 = .inl (0, n1, .inl g1)) (hx : x.toInt = (sj : Int)) (hy : y.toInt = (dj : Int)) (hz : z.toInt = (ln : Int)) (a0 : sj + ln ≤ n0) (a1 : dj + ln ≤ n1) (hd : 1 ≤ d) (ht : Nat.ble (pm_cat t) 8 = true) (hu : va_up f k1 (.inl (0, n1, .inl (va_cpy g0 g1 sj dj ln))) = f1) (kk : pm_X S J nL rt d bc bs (pc + 3) lv t c s (N, f1) r h') : pm_X S J nL rt d bc bs pc lv (.int z :: .int y :: .ref k1 :: .int x :: .ref k0 :: t) c s (N, f) r h' := by
  subst hu
  obtain ⟨m, kk⟩ := kk
  refine ⟨m + 1, ?_⟩
  unfold pm_run
  rw [hi]
  exact Or.inl ⟨k0, k1, n0, n1, ln, sj, dj, t, x, y, z, g0, g1, rfl, rfl, h0, h1, hx, hy, hz, a0, a1, hd, Nat.le_of_ble_eq_true ht, kk⟩
end PMV
section RD4
variable {IA : Nat → Nat → Int32} {LA : Nat → Nat → Int64} {RA : Nat → Nat → Option Nat} {SC : Nat → Nat → Int32} {dr : Nat} {tl : Nat → va_E} {N d dp : Nat}
theorem c_replaceN {i v : Int32} {m : Nat} (hS : SC 20 2 = nI m) (hm : m ≤ 64) (hi : ¬ (0 ≤ i.toInt ∧ i.toInt < m)) : pm_call (d + 1) 41 [.ref 20, .int i, .int v] (N, HC IA LA RA SC dr tl) (.inl (some (.int 0))) (N, HC IA LA RA SC dr tl) 0 0 := by
  refine pm_callX jm_41 [(0, .ref 20), (1, .int i), (2, .int v)] rfl rfl rfl ?_
  refine pm_go 1 (pc1 := 1) rfl ?_
  refine pm_if rfl (fun _ => ?_) (fun z => ?_)
  · refine pm_go 1 (pc1 := 13) rfl ?_
    exact pm_iret rfl rfl rfl rfl
  · have hz : ¬ i.toInt < 0 := fun w => z (i32_lt0.mpr w)
    refine pm_go 2 (pc1 := 6) rfl ?_
    refine pm_getf rfl rfl rfl ?_
    refine pm_nm (y := nI m) hS ?_
    refine pm_icmp rfl (fun z => ?_) (fun _ => ?_)
    · have hy := Int32.lt_iff_toInt_lt.mp (show i < nI m from z)
      rw [nI_toInt (by omega)] at hy
      omega
    · refine pm_go 1 (pc1 := 13) rfl ?_
      exact pm_iret rfl rfl rfl rfl
theorem c_replace {v : Int32} {m k : Nat} (hS : SC 20 2 = nI m) (hm : m ≤ 64) (hk : k < m) (hD : SC 21 2 = nI dp) (hd : dp ≤ 6) (hL : ∀ i, i < 7 → RA 22 i = some (26 + i)) : pm_call (d + 4) 41 [.ref 20, .int (nI k), .int v] (N, HC IA LA RA SC dr tl) (.inl (some (.int 1))) (N, HC (va_up (va_up IA 33 (upd (IA 33) k v)) 25 (frZk (IA 25) 71)) LA RA (goSC SC) dr tl) 0 0 := by
  refine pm_callX jm_41 [(0, .ref 20), (1, .int (nI k)), (2, .int v)] rfl rfl rfl ?_
  refine pm_go 1 (pc1 := 1) rfl ?_
  refine pm_if rfl (fun z => absurd z (nI_pos (by omega))) (fun _ => ?_)
  refine pm_go 2 (pc1 := 6) rfl ?_
  refine pm_getf rfl rfl rfl ?_
  refine pm_nm (y := nI m) hS ?_
  refine pm_icmp rfl (fun _ => ?_) (fun z => absurd ((nI_ltI (by omega) (by omega)).mpr hk) z)
  refine pm_go 1 (pc1 := 15) rfl ?_
  refine pm_getf rfl rfl rfl ?_
  refine pm_go 2 (pc1 := 20) rfl ?_
  refine pm_iastU (j := k) rfl rfl (cw_ti (by omega)) (by omega) (hi_33 ..) ?_
  refine pm_go 1 (pc1 := 22) rfl ?_
  refine pm_cV [] rfl rfl rfl rfl rfl rfl (Nat.le_refl _) (Nat.le_refl _) (c_goBack (IA := va_up IA 33 (upd (IA 33) k v)) hD hd hL) ?_
  refine pm_go 1 (pc1 := 26) rfl ?_
  exact pm_iret rfl rfl rfl rfl
theorem c_takeOver {E : Nat} (hE : SC 2 1 = nI E) (hE2 : E ≤ 2048) (hD : SC 21 2 = nI dp) (hd : dp ≤ 6) (hL : ∀ i, i < 7 → RA 22 i = some (26 + i)) : pm_call (d + 4) 39 [.ref 20, .ref 2] (N, HC IA LA RA SC dr tl) (.inl (some (.int (nI ((E + 31) / 32))))) (N, HC (va_up (va_up IA 33 (va_cpy (IA 3) (IA 33) 0 0 64)) 25 (frZk (IA 25) 71)) LA RA (goSC (va_up SC 20 (upd (SC 20) 2 (nI ((E + 31) / 32))))) dr tl) 0 0 := by
  refine pm_callX jm_39 [(0, .ref 20), (1, .ref 2)] rfl rfl rfl ?_
  refine pm_go 1 (pc1 := 1) rfl ?_
  refine pm_getf rfl rfl rfl ?_
  refine pm_go 2 (pc1 := 6) rfl ?_
  refine pm_getf rfl rfl rfl ?_
  refine pm_go 2 (pc1 := 12) rfl ?_
  refine pm_acpy (sj := 0) (dj := 0) (ln := 64) rfl rfl rfl rfl rfl rfl (by omega) (by omega) (by omega) rfl (hi_33 ..) ?_
  refine pm_go 2 (pc1 := 17) rfl ?_
  refine pm_cV [] rfl rfl rfl rfl rfl rfl (Nat.le_refl _) (Nat.le_refl _) (c_wordCount hE (by omega)) ?_
  refine pm_putU rfl rfl rfl rfl (hs_20_2 ..) ?_
  refine pm_go 1 (pc1 := 24) rfl ?_
  refine pm_cV [] rfl rfl rfl rfl rfl rfl (Nat.le_refl _) (Nat.le_refl _) (c_goBack (IA := va_up IA 33 (va_cpy (IA 3) (IA 33) 0 0 64)) (SC := va_up SC 20 (upd (SC 20) 2 (nI ((E + 31) / 32)))) hD hd hL) ?_
  refine pm_go 1 (pc1 := 28) rfl ?_
  refine pm_getf rfl rfl rfl ?_
  refine pm_nm (y := nI ((E + 31) / 32)) rfl ?_
  exact pm_iret rfl rfl rfl rfl
end RD4
