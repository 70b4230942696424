/-! THE LAW'S LOOP -/
section LWL
variable {p : Program} {l : Launch} {e : Env} {s : State} {m : MethodId} {below : List Frame} {meth : Method} {c : Code}
variable {D : va_G} {cy : Nat → ClassId} {b L a1 a2 a3 : Nat} {xs : Nat → Int32}
theorem lw_len {k : Nat} (hL : L ≤ 1536) (hk : k ≤ 1600) (h : ¬ Int32.ofNat L - 3 < nI k) : k + 3 ≤ L := by
  have h1 : (Int32.ofNat L).toInt = (L : Int) := nI_toInt (by omega)
  have h3 : (Int32.ofNat L - 3).toInt = (L : Int) - 3 := by
    rw [Int32.toInt_sub, h1]
    show ((L : Int) - 3).bmod (2 ^ 32) = _
    exact Int.bmod_eq_of_le (by omega) (by omega)
  have h2 : ¬ (Int32.ofNat L - 3).toInt < (nI k).toInt := fun z => h (Int32.lt_iff_toInt_lt.mpr z)
  rw [h3, nI_toInt (by omega)] at h2
  omega
theorem lw_lenT {k : Nat} (hL : L ≤ 1536) (hk : k ≤ 1600) (h : L ≤ k + 2) : Int32.ofNat L - 3 < nI k := by
  refine Classical.byContradiction fun z => ?_
  have := lw_len hL hk z
  omega
set_option maxHeartbeats 1000000 in
theorem lw_loop (hlt : l.stackTraces = false) (hLL : L ≤ 1536) (C : lw_C p s m meth c b L xs D cy) : ∀ (n k cells slots : Nat) (h : pm_H) (H : Heap) (locs : List Loc) (ls : Array Slot), L ≤ k + 3 * n + 2 → k + 3 * n ≤ 1600 → cells + 4 * n ≤ 601024 → slots + 25 * n ≤ 7293034 → lw_L s D cy a1 a2 a3 h H locs → St h → lv_has ls 7 (lw_lv b a1 a2 a3 (nI k)) →
    W p l e room_1 s m #[Value.ref b] below meth c H locs cells slots (lw_Z below #[Value.ref b] s) (F0 m 23 ls []) := by
  intro n
  induction n with
  | zero =>
    intro k cells slots h H locs ls h1 h2 h3 h4 hL hs hl
    obtain ⟨⟨hx, hb, hr, -, -, -, hX, hbl, hlk, -⟩, -⟩ := C
    obtain ⟨ad, -, hS, -⟩ := hL
    refine lv_iload hx hb (show decode code 23 = .ok (.iload 4, 2) by decide +kernel) (lw_lv4 hl) ?_
    refine lv_aload_n hx hb (show decode code 25 = .ok (.aload_n 0, 1) by decide +kernel) rfl (lw_lv0 hl) ?_
    refine va_slen hx hb hX hbl (fun z => absurd hbl (Nat.not_lt.mpr z)) hS (show decode code 26 = .ok (.arraylength, 1) by decide +kernel) ?_
    refine lv_iconst (v := 3) hx hb (show decode code 27 = .ok (.iconst 3, 1) by decide +kernel) rfl ?_
    refine lv_isub hx hb (show decode code 28 = .ok (.isub, 1) by decide +kernel) ?_
    refine lv_icmp_gt (tgt := 550) hx hb (show decode code 29 = .ok (.if_icmp .gt 521, 3) by decide +kernel) rfl (fun _ => ?_) (fun z => absurd (lw_lenT hLL (by omega) (by omega)) z)
    refine lv_iconst (v := 1) hx hb (show decode code 550 = .ok (.iconst 1, 1) by decide +kernel) rfl ?_
    exact va_forget hS.2.2 (W.widen (by omega) (by omega) (lw_ret hx hb hr hlk (show decode code 551 = .ok (.ireturn, 1) by decide +kernel)))
  | succ n ih =>
    intro k cells slots h H locs ls h1 h2 h3 h4 hL hs hl
    have C0 := C
    have hL0 := hL
    obtain ⟨⟨hx, hb, hr, -, -, -, hX, hbl, hlk, -⟩, -⟩ := C0
    obtain ⟨ad, -, hS, -⟩ := hL0
    refine lv_iload hx hb (show decode code 23 = .ok (.iload 4, 2) by decide +kernel) (lw_lv4 hl) ?_
    refine lv_aload_n hx hb (show decode code 25 = .ok (.aload_n 0, 1) by decide +kernel) rfl (lw_lv0 hl) ?_
    refine va_slen hx hb hX hbl (fun z => absurd hbl (Nat.not_lt.mpr z)) hS (show decode code 26 = .ok (.arraylength, 1) by decide +kernel) ?_
    refine lv_iconst (v := 3) hx hb (show decode code 27 = .ok (.iconst 3, 1) by decide +kernel) rfl ?_
    refine lv_isub hx hb (show decode code 28 = .ok (.isub, 1) by decide +kernel) ?_
    refine lv_icmp_gt (tgt := 550) hx hb (show decode code 29 = .ok (.if_icmp .gt 521, 3) by decide +kernel) rfl (fun _ => ?_) (fun z => ?_)
    · refine lv_iconst (v := 1) hx hb (show decode code 550 = .ok (.iconst 1, 1) by decide +kernel) rfl ?_
      exact va_forget hS.2.2 (W.widen (by omega) (by omega) (lw_ret hx hb hr hlk (show decode code 551 = .ok (.ireturn, 1) by decide +kernel)))
    · have hk3 : k + 3 ≤ L := lw_len hLL (by omega) z
      have hi0 : vp_in (nI k) L := nI_in (by omega) (by omega)
      have hi1 : vp_in (nI k + Int32.ofInt 1) L := by
        rw [show nI k + Int32.ofInt 1 = nI (k + 1) from nI_add k 1]
        exact nI_in (by omega) (by omega)
      have hi2 : vp_in (nI k + Int32.ofInt 2) L := by
        rw [show nI k + Int32.ofInt 2 = nI (k + 2) from nI_add k 2]
        exact nI_in (by omega) (by omega)
      have hK : ∀ ls' : Array Slot, lv_has ls' 7 (lw_lv b a1 a2 a3 (nI k)) → lw_K p l e s m below meth c b D cy a1 a2 a3 cells slots (lw_Z below #[Value.ref b] s) ls' := by
        intro ls' hl' h2' H2 locs2 c1 s1 hc1 hs1 hst hL2
        refine lv_iinc (k := 0) (v := nI (k + 3)) (lv' := lw_lv b a1 a2 a3 (nI (k + 3))) hx hb (show decode code 544 = .ok (.iinc 4 3, 3) by decide +kernel) hl' rfl (nI_add k 3) (by omega) rfl (fun ls3 hl3 => ?_)
        refine lv_goto (tgt := 23) hx hb (show decode code 547 = .ok (.goto (-524), 3) by decide +kernel) rfl ?_
        exact ih (k + 3) (cells + c1) (slots + s1) h2' H2 locs2 ls3 (by omega) (by omega) (by omega) (by omega) hL2 hst hl3
      refine lv_aload_n hx hb (show decode code 32 = .ok (.aload_n 0, 1) by decide +kernel) rfl (lw_lv0 hl) ?_
      refine lv_iload hx hb (show decode code 33 = .ok (.iload 4, 2) by decide +kernel) (lw_lv4 hl) ?_
      refine va_sld hx hb hX hbl (fun z => absurd hbl (Nat.not_lt.mpr z)) hS hi0 (show decode code 35 = .ok (.iaload, 1) by decide +kernel) ?_
      refine lv_bipush (v := 31) hx hb (show decode code 36 = .ok (.bipush 31, 2) by decide +kernel) rfl ?_
      refine lv_iand hx hb (show decode code 38 = .ok (.iand, 1) by decide +kernel) ?_
      have d39 : decode code 39 = .ok (.tableswitch 505 0 18 #[89, 126, 139, 176, 201, 212, 225, 262, 275, 300, 313, 324, 337, 362, 399, 412, 423, 467, 492], 89) := by decide +kernel
      generalize (xs (nI k).toNatClampNeg &&& 31) = y
      by_cases hj : 0 ≤ y.toInt ∧ y.toInt ≤ 18
      · obtain ⟨j, hj19, hy⟩ : ∃ j : Nat, j < 19 ∧ y.toInt = (j : Int) := ⟨y.toInt.toNat, by omega, by omega⟩
        match j, hj19 with
        | 0, _ => exact lv_tableIn (off := 89) (tgt := 128) hx hb d39 (by rw [hy]; decide) (by rw [hy]; decide) (by rw [hy]; rfl) rfl (lc_128 hlt C hL hl hs hi1 hi2 (by omega) (by omega) (hK ls hl))
        | 1, _ => exact lv_tableIn (off := 126) (tgt := 165) hx hb d39 (by rw [hy]; decide) (by rw [hy]; decide) (by rw [hy]; rfl) rfl (lc_165 hlt C hL hl hs hi1 hi2 (by omega) (by omega) (hK ls hl))
        | 2, _ => exact lv_tableIn (off := 139) (tgt := 178) hx hb d39 (by rw [hy]; decide) (by rw [hy]; decide) (by rw [hy]; rfl) rfl (lc_178 hlt C hL hl hs hi1 hi2 (by omega) (by omega) (hK ls hl))
        | 3, _ => exact lv_tableIn (off := 176) (tgt := 215) hx hb d39 (by rw [hy]; decide) (by rw [hy]; decide) (by rw [hy]; rfl) rfl (lc_215 hlt C hL hl hs hi1 hi2 (by omega) (by omega) (hK ls hl))
        | 4, _ => exact lv_tableIn (off := 201) (tgt := 240) hx hb d39 (by rw [hy]; decide) (by rw [hy]; decide) (by rw [hy]; rfl) rfl (lc_240 hlt C hL hl hs hi1 hi2 (by omega) (by omega) (hK ls hl))
        | 5, _ => exact lv_tableIn (off := 212) (tgt := 251) hx hb d39 (by rw [hy]; decide) (by rw [hy]; decide) (by rw [hy]; rfl) rfl (lc_251 hlt C hL hl hs hi1 hi2 (by omega) (by omega) (hK ls hl))
        | 6, _ => exact lv_tableIn (off := 225) (tgt := 264) hx hb d39 (by rw [hy]; decide) (by rw [hy]; decide) (by rw [hy]; rfl) rfl (lc_264 hlt C hL hl hs hi1 hi2 (by omega) (by omega) (hK ls hl))
        | 7, _ => exact lv_tableIn (off := 262) (tgt := 301) hx hb d39 (by rw [hy]; decide) (by rw [hy]; decide) (by rw [hy]; rfl) rfl (lc_301 hlt C hL hl hs hi1 hi2 (by omega) (by omega) (hK ls hl))
        | 8, _ => exact lv_tableIn (off := 275) (tgt := 314) hx hb d39 (by rw [hy]; decide) (by rw [hy]; decide) (by rw [hy]; rfl) rfl (lc_314 hlt C hL hl hs hi1 hi2 (by omega) (by omega) (hK ls hl))
        | 9, _ => exact lv_tableIn (off := 300) (tgt := 339) hx hb d39 (by rw [hy]; decide) (by rw [hy]; decide) (by rw [hy]; rfl) rfl (lc_339 hlt C hL hl hs hi1 hi2 (by omega) (by omega) (hK ls hl))
        | 10, _ => exact lv_tableIn (off := 313) (tgt := 352) hx hb d39 (by rw [hy]; decide) (by rw [hy]; decide) (by rw [hy]; rfl) rfl (lc_352 hlt C hL hl hs hi1 hi2 (by omega) (by omega) (hK ls hl))
        | 11, _ => exact lv_tableIn (off := 324) (tgt := 363) hx hb d39 (by rw [hy]; decide) (by rw [hy]; decide) (by rw [hy]; rfl) rfl (lc_363 hlt C hL hl hs hi1 hi2 (by omega) (by omega) (hK ls hl))
        | 12, _ => exact lv_tableIn (off := 337) (tgt := 376) hx hb d39 (by rw [hy]; decide) (by rw [hy]; decide) (by rw [hy]; rfl) rfl (lc_376 hlt C hL hl hs hi1 hi2 (by omega) (by omega) (hK ls hl))
        | 13, _ => exact lv_tableIn (off := 362) (tgt := 401) hx hb d39 (by rw [hy]; decide) (by rw [hy]; decide) (by rw [hy]; rfl) rfl (lc_401 hlt C hL hl hs hi1 hi2 (by omega) (by omega) (hK ls hl))
        | 14, _ => exact lv_tableIn (off := 399) (tgt := 438) hx hb d39 (by rw [hy]; decide) (by rw [hy]; decide) (by rw [hy]; rfl) rfl (lc_438 hlt C hL hl hs hi1 hi2 (by omega) (by omega) (hK ls hl))
        | 15, _ => exact lv_tableIn (off := 412) (tgt := 451) hx hb d39 (by rw [hy]; decide) (by rw [hy]; decide) (by rw [hy]; rfl) rfl (lc_451 hlt C hL hl hs hi1 hi2 (by omega) (by omega) (hK ls hl))
        | 16, _ => exact lv_tableIn (off := 423) (tgt := 462) hx hb d39 (by rw [hy]; decide) (by rw [hy]; decide) (by rw [hy]; rfl) rfl (lc_462 hlt C hL hl hs (by omega) (by omega) hK)
        | 17, _ => exact lv_tableIn (off := 467) (tgt := 506) hx hb d39 (by rw [hy]; decide) (by rw [hy]; decide) (by rw [hy]; rfl) rfl (lc_506 hlt C hL hl hs hi1 hi2 (by omega) (by omega) (hK ls hl))
        | 18, _ => exact lv_tableIn (off := 492) (tgt := 531) hx hb d39 (by rw [hy]; decide) (by rw [hy]; decide) (by rw [hy]; rfl) rfl (lc_531 hlt C hL hl hs hi1 hi2 (by omega) (by omega) (hK ls hl))
        | j + 19, hj => exact absurd hj (by omega)
      · exact lv_tableOut (tgt := 544) hx hb d39 (by omega) rfl (hK ls hl h H locs 0 0 (by omega) (by omega) hs hL)
end LWL
