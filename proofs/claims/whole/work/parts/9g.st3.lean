/-! STEPS: rewind, copy, load, alter, wipe -/
section ST3
variable {h : pm_H}
theorem s_rewind (hs : St h) : Duo h 91 132 [] (fun v => v = none) := by
  obtain ⟨IA, LA, RA, SC, dr, tl, N, rfl, hR⟩ := hs
  have hR0 := hR
  obtain ⟨h1, h2, h3, h4, h5, h6, m, dp2, pl2, b, p, sc, ⟨⟨a1, a2, a3, a4⟩, a5, a6, a7, a8, a9, a10⟩⟩ := hR
  exact ⟨_, _, _, 0, 0, b_rewind (c_goBack (d := 11) a5 a10.1 h3), m_rewind (d := 13), ⟨_, _, _, _, _, _, _, rfl, RR_rw (m := m) hR0 a3 (fun k k1 k2 k3 => va_up_ne _ _ k1) rfl (fun _ _ => rfl) a4 (fun k k1 k2 k3 => (va_up_ne _ _ k1).trans (va_up_ne _ _ k2)) a1 a2 rfl rfl rfl rfl rfl rfl⟩, by omega, by omega, rfl⟩
theorem s_wipe (hs : St h) : Duo h 90 136 [] isI := by
  obtain ⟨IA, LA, RA, SC, dr, tl, N, rfl, hR⟩ := hs
  have hR0 := hR
  obtain ⟨h1, h2, h3, h4, h5, h6, m, dp2, pl2, b, p, sc, ⟨⟨a1, a2, a3, a4⟩, a5, a6, a7, a8, a9, a10⟩⟩ := hR
  have hm := m_wipe (d := 12) (IA := va_up IA 25 (frZk (IA 25) 71)) (LA := LA) (RA := RA) (SC := goSC (va_up SC 20 (upd (SC 20) 2 0))) (dr := dr) (tl := tl) (N := N)
  rw [show goSC (va_up SC 20 (upd (SC 20) 2 0)) 36 2 = SC 20 2 from a2.trans a1.symm] at hm
  exact ⟨_, _, _, 0, 0, b_wipe (c_removeAll (d := 10) a5 a10.1 h3), hm, ⟨_, _, _, _, _, _, _, rfl, RR_rw (m := 0) hR0 (by omega) (fun k k1 k2 k3 => va_up_ne _ _ k1) rfl (fun _ _ => rfl) (fun i hi => absurd hi (by omega)) (fun k k1 k2 k3 => (va_up_ne _ _ k3).trans ((va_up_ne _ _ k3).trans ((va_up_ne _ _ k1).trans ((va_up_ne _ _ k2).trans (va_up_ne _ _ k1))))) rfl rfl rfl rfl rfl rfl rfl rfl⟩, by omega, by omega, _, rfl⟩
theorem s_load (hs : St h) (v : Int32) : Duo h 88 134 [.int v] isI := by
  obtain ⟨IA, LA, RA, SC, dr, tl, N, rfl, hR⟩ := hs
  have hR0 := hR
  obtain ⟨h1, h2, h3, h4, h5, h6, m, dp2, pl2, b, p, sc, ⟨⟨a1, a2, a3, a4⟩, a5, a6, a7, a8, a9, a10⟩⟩ := hR
  by_cases h64 : m = 64
  · subst h64
    exact ⟨_, _, _, 0, 0, b_load (c_appendFull (d := 13) a1), m_loadF (d := 14) a2, ⟨_, _, _, _, _, _, _, rfl, RR_thr hR0⟩, by omega, by omega, _, rfl⟩
  · refine ⟨_, _, _, 0, 0, b_load (c_append (d := 10) a1 (by omega) a5 a10.1 h3), m_load (d := 12) (m := m) a2 (by omega), ⟨_, _, _, _, _, _, _, rfl, RR_rw (m := m + 1) hR0 (by omega) (fun k k1 k2 k3 => (va_up_ne _ _ k3).trans ((va_up_ne _ _ k1).trans (va_up_ne _ _ k2))) rfl (fun j hj => upd_ne (by omega)) (fun i hi => ?_) (fun k k1 k2 k3 => (va_up_ne _ _ k3).trans ((va_up_ne _ _ k3).trans ((va_up_ne _ _ k1).trans ((va_up_ne _ _ k2).trans (va_up_ne _ _ k1))))) rfl rfl rfl rfl rfl rfl rfl rfl⟩, by omega, by omega, _, rfl⟩
    show upd (IA 33) m v i = upd (IA 37) (128 + m) v (128 + i)
    by_cases e : i = m
    · subst e; rw [upd_at, upd_at]
    · rw [upd_ne e, upd_ne (by omega)]; exact a4 i (by omega)
theorem s_alter (hs : St h) (i v : Int32) : Duo h 89 135 [.int i, .int v] (fun v => v = some (.int 0) ∨ v = some (.int 1)) := by
  obtain ⟨IA, LA, RA, SC, dr, tl, N, rfl, hR⟩ := hs
  have hR0 := hR
  obtain ⟨h1, h2, h3, h4, h5, h6, m, dp2, pl2, b, p, sc, ⟨⟨a1, a2, a3, a4⟩, a5, a6, a7, a8, a9, a10⟩⟩ := hR
  by_cases hi : 0 ≤ i.toInt ∧ i.toInt < (m : Int)
  · obtain ⟨k, hk, e⟩ : ∃ k, k < m ∧ i = nI k := ⟨i.toInt.toNat, by omega, i32_nat hi.1⟩
    subst e
    refine ⟨_, _, _, 0, 0, b_alter (Or.inr rfl) (c_replace (d := 10) a1 a3 hk a5 a10.1 h3), m_alter (d := 12) a2 a3 hk, ⟨_, _, _, _, _, _, _, rfl, RR_rw (m := m) hR0 a3 (fun k k1 k2 k3 => (va_up_ne _ _ k3).trans ((va_up_ne _ _ k1).trans (va_up_ne _ _ k2))) rfl (fun j hj => upd_ne (by omega)) (fun i hi => ?_) (fun k k1 k2 k3 => (va_up_ne _ _ k3).trans ((va_up_ne _ _ k1).trans (va_up_ne _ _ k2))) a1 a2 rfl rfl rfl rfl rfl rfl⟩, by omega, by omega, Or.inr rfl⟩
    show upd (IA 33) k v i = upd (IA 37) (128 + k) v (128 + i)
    by_cases e : i = k
    · subst e; rw [upd_at, upd_at]
    · rw [upd_ne e, upd_ne (by omega)]; exact a4 i (by omega)
  · exact ⟨_, _, _, 0, 0, b_alter (Or.inl rfl) (c_replaceN (d := 13) a1 a3 hi), m_alterN (d := 13) a2 a3 hi, ⟨_, _, _, _, _, _, _, rfl, RR_thr hR0⟩, by omega, by omega, Or.inl rfl⟩
theorem s_copy (hs : St h) : Duo h 87 133 [] isI := by
  obtain ⟨IA, LA, RA, SC, dr, tl, N, rfl, hR⟩ := hs
  have hR0 := hR
  obtain ⟨h1, h2, h3, h4, h5, ⟨E, dp, pl, w1, w2, w3, w4, w5, w6, w7, w8, w9, w10⟩, m, dp2, pl2, b, p, sc, ⟨⟨a1, a2, a3, a4⟩, a5, a6, a7, a8, a9, a10⟩⟩ := hR
  have hd := w10.1
  cases dp with
  | zero =>
    have hE : (E + 31) / 32 = E / 32 := by have := w6 rfl; omega
    have hc := c_takeOver (d := 10) (IA := IA) (LA := LA) (RA := RA) (dr := dr) (tl := tl) (N := N) w1 w3 a5 a10.1 h3
    rw [hE] at hc
    refine ⟨_, _, _, 0, 0, b_copy w5 hc, m_copy (d := 12) (E := E) w10.2.1 w2 w3, ⟨_, _, _, _, _, _, _, rfl, RR_rw (m := E / 32) hR0 (by omega) (fun k k1 k2 k3 => (va_up_ne _ _ k3).trans ((va_up_ne _ _ k1).trans (va_up_ne _ _ k2))) rfl (fun j hj => ?_) (fun i hi => ?_) (fun k k1 k2 k3 => (va_up_ne _ _ k3).trans ((va_up_ne _ _ k3).trans ((va_up_ne _ _ k1).trans ((va_up_ne _ _ k2).trans (va_up_ne _ _ k1))))) rfl rfl rfl rfl rfl rfl rfl rfl⟩, by omega, by omega, _, rfl⟩
    · show cpK (IA 37) (E / 32) j = IA 37 j
      unfold cpK
      rw [if_neg (by omega)]
    · show va_cpy (IA 3) (IA 33) 0 0 64 i = cpK (IA 37) (E / 32) (128 + i)
      unfold cpK va_cpy
      rw [if_pos (by omega), if_pos (by omega), show 128 + i - 128 = i by omega, ← w4.1 i (by omega)]
      congr 1
      omega
  | succ dp => exact ⟨_, _, _, 0, 0, b_copyN (d := 14) w5 hd, m_copyN (d := 14) w10.2.1 hd, ⟨_, _, _, _, _, _, _, rfl, RR_thr hR0⟩, by omega, by omega, _, rfl⟩
end ST3
