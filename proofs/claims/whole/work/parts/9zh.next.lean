/-! THE LAW'S STEP OF NEXT -/
section LWN
variable {p : Program} {l : Launch} {e : Env} {s : State} {m : MethodId} {below : List Frame} {meth : Method} {c : Code} {H : Heap} {locs : List Loc} {cells slots : Nat} {Q : State → Prop}
variable {D : va_G} {cy : Nat → ClassId} {h h1 h2 : pm_H} {ls : Array Slot} {pc b L a1 a2 a3 c1 s1 : Nat} {xs : Nat → Int32} {t : List Value} {i : Int32}
set_option maxRecDepth 20000 in
theorem lw_casts : Cond.castable hp_S hp_S ∈ lw_tbl ∧ Cond.castable hp_A hp_A ∈ lw_tbl := by decide +kernel
theorem lw_X (C : lw_C p s m meth c b L xs D cy) : hp_X s := ⟨va_Nw.of rfl (C.1.2.2.2.2.2.1 _ lw_casts.1), va_Nw.of rfl (C.1.2.2.2.2.2.1 _ lw_casts.2), C.2.2.2⟩
theorem hp_GT : GoodIn pm_gw (va_wsS R_law 88 hp_y hp_ws) := by
  intro w hw
  have hm : w ∈ pm_gw := by
    rcases List.mem_append.mp hw with q | q
    · rcases List.mem_cons.mp q with q | q
      · rw [q]; exact pm_in_gw (hp_G _ (List.mem_of_getElem? (i := 6) rfl))
      · rcases List.mem_cons.mp q with q | q
        · rw [q]; exact pm_in_gw (hp_G _ (List.mem_of_getElem? (i := 7) rfl))
        · rcases List.mem_cons.mp q with q | q
          · rw [q]; exact pm_in_gw (hp_G _ (List.mem_of_getElem? (i := 8) rfl))
          · cases q
    · rcases List.mem_cons.mp q with q | q
      · rw [q]; exact pm_in_gw (hp_G _ (List.mem_of_getElem? (i := 9) rfl))
      · exact q
  exact pm_gw_good w hm
theorem lw_help (hlt : l.stackTraces = false) (C : lw_C p s m meth c b L xs D cy) (hL : lw_L s D cy a1 a2 a3 h H locs) (hlz : ls.size = 7) {r : pm_V} {kv : Int32} (hcall : pm_call 15 92 [.ref 0] h r h1 c1 s1)
    (hr : (∃ (x : Int32) (g : Nat → Int64), r = .inl (some (.int x)) ∧ h1.2 55 = .inl (1, 1, .inr (.inl g)) ∧ h2 = (h1.1, va_up h1.2 55 (.inl (1, 1, .inr (.inl (vp_updL g 0 x.toInt64))))) ∧ kv = 0) ∨ (∃ z : Nat, r = .inr z ∧ z ≤ 1 ∧ h2 = h1 ∧ kv = nI (z + 1))) (hcc : cells + c1 ≤ 601024) (hss : slots + s1 ≤ 7293034) (hdg : decode code pc = .ok (.invokestatic 88, 3))
    (kk : ∀ (H1 : Heap) (locs1 : List Loc), lw_L s D cy a1 a2 a3 h2 H1 locs1 → W p l e room_1 s m #[Value.ref b] below meth c H1 locs1 (cells + c1) (slots + s1) Q (F0 m (pc + 3) ls [.int kv])) : W p l e room_1 s m #[Value.ref b] below meth c H locs cells slots Q (F0 m pc ls [.ref a3, .ref a1]) := by
  have hgw := lw_gw C
  have hXs := lw_X C
  obtain ⟨⟨hx, hb, -, hml, hown, hts, -⟩, V, Z, -⟩ := C
  obtain ⟨ad, hW, hS, h55, e1, e2, e3, hf0, hf36⟩ := hL
  have hA : ∀ q, s.heap.size ≤ q → (fun q => s.heap.size ≤ q) q := fun q z => z
  have hkp : Kp h h2 := by
    have k1 := Kp_call _ _ _ _ _ _ _ _ hcall
    rcases hr with ⟨x, g, -, hg, rfl, -⟩ | ⟨z, -, -, rfl, -⟩
    · exact k1.trans (Kp_arr hg)
    · exact k1
  have hm := hp_Met (hp_met (D := D) (cy := cy) hlt h55 hf0 hcall hr ad H.size)
  subst e1
  subst e3
  refine pm_after0 (a := (([.ref 0, .ref 55] : List Value).map (pm_rv ad)).toArray) (h1 := h2) (r1 := .inl (some (.int kv))) (t := []) (c1 := c1) (s1 := s1) hW hS hA (vx_runSW (As := ([.ref 0, .ref 55] : List Value).map (pm_rv ad)) (rest := []) (n := 2) (hh := hp_hh) (bytes := method_3_code) (maxL := 3) (ret := some .int) ⟨hx, hb, hml, hown, hgw⟩ hm (vx_cwSW 2 hgw hp_GT rfl rfl rfl ⟨by decide, by decide, by decide +kernel⟩ ⟨by show 15 + 1 ≤ 16; omega, by show 8 + (3 + 11) + 580 ≤ 622; omega⟩) ⟨hp_blind, fun U hU hw => ⟨pm_give (As := [.ref 0, .ref 55]) V Z hW hS hA U hU hw, hXs.warm hw⟩⟩ rfl rfl hlz rfl (lv_room (Nat.zero_le _)) hdg ⟨hcc, hss⟩) ?_
  intro v1 ad' H1 locs1 hr1 hag hle hsv hW1 hS1
  cases hr1
  exact kk H1 locs1 ⟨ad', hW1, hS1, Nat.lt_of_lt_of_le h55 hle, hag 0 (by omega), by rw [hag 36 (by omega)]; exact e2, hag 55 (by omega), by obtain ⟨f, hf⟩ := hf0; exact hkp.2 0 (by omega) _ _ hf, by obtain ⟨f, hf⟩ := hf36; exact hkp.2 36 (by omega) _ _ hf⟩
theorem lw_lald (C : lw_C p s m meth c b L xs D cy) (hL : lw_L s D cy a1 a2 a3 h H locs) {g : Nat → Int64} (hg : h.2 55 = .inl (1, 1, .inr (.inl g))) (hdg : decode code pc = .ok (.laload, 1))
    (kk : W p l e room_1 s m #[Value.ref b] below meth c H locs cells slots Q (F0 m (pc + 1) ls (.long (g 0) :: t))) : W p l e room_1 s m #[Value.ref b] below meth c H locs cells slots Q (F0 m pc ls (.int 0 :: .ref a3 :: t)) := by
  obtain ⟨⟨hx, hb, -⟩, V, -⟩ := C
  obtain ⟨ad, hW, hS, h55, e1, e2, rfl, -⟩ := hL
  obtain ⟨q1, q2⟩ := pm_jint (i := 0) (j := 0) (N := 1) rfl (by omega)
  have he : (pm_wl cy ad h)[55]? = some (ad 55, .inl (cy 1, 1, .inr (.inl g))) := by rw [pm_wl_at h55, hg]; rfl
  refine va_lald hx hb V.1.1 hW.2.1 55 1 he (pm_tys_1 cy) q1 hdg ?_
  rw [q2]
  exact kk
theorem lw_sub {l1 l2 : List (Nat × Value)} {n : Nat} (h : lv_has ls n (l1 ++ l2)) : lv_has ls n l2 := ⟨h.1, h.2.1, fun q hq => h.2.2 q (List.mem_append_right _ hq)⟩
/-- behind the helper: the model's next, its throw, the comparison -/
theorem lw_nx (hlt : l.stackTraces = false) (C : lw_C p s m meth c b L xs D cy) (hL : lw_L s D cy a1 a2 a3 h H locs) (hl : lv_has ls 7 (lw_lv b a1 a2 a3 i)) {kv y : Int32} (hn : pm_call 15 148 [.ref 36] h (.inl (some (.int y))) h2 0 0) (ht : pm_call 15 99 [.ref 36] h2 (.inl (some (.int kv))) h2 0 0) (hst : St h2) (hcc : cells ≤ 601024) (hss : slots ≤ 7293034)
    (hend : ¬ kv = 0 ∨ (kv = 0 ∧ ∃ g : Nat → Int64, h2.2 55 = .inl (1, 1, .inr (.inl g)) ∧ g 0 = y.toInt64))
    (kk : ∀ ls' : Array Slot, lv_has ls' 7 (lw_lv b a1 a2 a3 i) → ∀ (H2 : Heap) (locs2 : List Loc), lw_L s D cy a1 a2 a3 h2 H2 locs2 → W p l e room_1 s m #[Value.ref b] below meth c H2 locs2 cells slots Q (F0 m 544 ls' [])) : W p l e room_1 s m #[Value.ref b] below meth c H locs cells slots Q (F0 m 467 ls [.int kv]) := by
  have hx := C.1.1
  have hb := C.1.2.1
  refine lv_istore (lv' := (5, .int kv) :: lw_lv b a1 a2 a3 i) hx hb (show decode code 467 = .ok (.istore 5, 2) by decide +kernel) hl (by omega) rfl (fun ls1 hl1 => ?_)
  have hm1 : lv_has ls1 7 (lw_lv b a1 a2 a3 i) := lw_sub (l1 := [(5, .int kv)]) hl1
  refine lv_aload_n hx hb (show decode code 469 = .ok (.aload_n 2, 1) by decide +kernel) rfl (lw_lv2 hm1) ?_
  refine lw_call (As := []) hlt C hL hl1.1 (Or.inr ⟨rfl, rfl, rfl⟩) (show (93, 148) ∈ lw_lk by decide) rfl hn (fun _ => rfl) (Nat.zero_le _) (by omega) (by omega) (show decode code 470 = .ok (.invokevirtual 93, 3) by decide +kernel) (fun H1 locs1 hL1 => ?_)
  refine lv_istore (lv' := (6, .int y) :: (5, .int kv) :: lw_lv b a1 a2 a3 i) hx hb (show decode code 473 = .ok (.istore 6, 2) by decide +kernel) hl1 (by omega) rfl (fun ls2 hl2 => ?_)
  have hm2 : lv_has ls2 7 (lw_lv b a1 a2 a3 i) := lw_sub (l1 := [(6, .int y), (5, .int kv)]) hl2
  have g5 : ls2[5]? = some (.val (.int kv)) := hl2.2.2 (5, .int kv) (List.mem_of_getElem? (i := 1) rfl)
  have g6 : ls2[6]? = some (.val (.int y)) := hl2.2.2 (6, .int y) (List.mem_of_getElem? (i := 0) rfl)
  refine lv_aload_n hx hb (show decode code 475 = .ok (.aload_n 2, 1) by decide +kernel) rfl (lw_lv2 hm2) ?_
  refine lw_call (As := []) hlt C hL1 hl2.1 (Or.inr ⟨rfl, rfl, rfl⟩) (show (94, 99) ∈ lw_lk by decide) rfl ht (fun _ => rfl) (Nat.zero_le _) (by omega) (by omega) (show decode code 476 = .ok (.invokevirtual 94, 3) by decide +kernel) (fun H2 locs2 hL2 => ?_)
  refine lv_iload hx hb (show decode code 479 = .ok (.iload 5, 2) by decide +kernel) g5 ?_
  refine lv_icmp_eq (tgt := 486) hx hb (show decode code 481 = .ok (.if_icmp .eq 5, 3) by decide +kernel) rfl (fun _ => ?_) (fun z => absurd rfl z)
  refine lv_iload hx hb (show decode code 486 = .ok (.iload 5, 2) by decide +kernel) g5 ?_
  have hgo : W p l e room_1 s m #[Value.ref b] below meth c H2 locs2 cells slots Q (F0 m 503 ls2 []) := lv_goto (tgt := 544) hx hb (show decode code 503 = .ok (.goto 41, 3) by decide +kernel) rfl (kk ls2 hm2 H2 locs2 hL2)
  refine lv_if_ne (tgt := 503) hx hb (show decode code 488 = .ok (.ifCond .ne 15, 3) by decide +kernel) rfl (fun _ => hgo) (fun hz => ?_)
  rcases hend with z | ⟨-, g, hg, hgy⟩
  · exact absurd hz z
  refine lv_aload_n hx hb (show decode code 491 = .ok (.aload_n 3, 1) by decide +kernel) rfl (lw_lv3 hm2) ?_
  refine lv_iconst (v := 0) hx hb (show decode code 492 = .ok (.iconst 0, 1) by decide +kernel) rfl ?_
  refine lw_lald C hL2 hg (show decode code 493 = .ok (.laload, 1) by decide +kernel) ?_
  refine lv_iload hx hb (show decode code 494 = .ok (.iload 6, 2) by decide +kernel) g6 ?_
  refine lv_i2l (v := y.toInt64) hx hb (show decode code 496 = .ok (.i2l, 1) by decide +kernel) rfl ?_
  refine W.lcmp hx hb (show decode code 497 = .ok (.lcmp, 1) by decide +kernel) ?_
  rw [hgy]
  refine lv_if_eq (tgt := 503) hx hb (show decode code 498 = .ok (.ifCond .eq 5, 3) by decide +kernel) rfl (fun _ => hgo) (fun hz => absurd ?_ hz)
  unfold lg_cmp
  rw [if_neg (Int64.lt_irrefl (a := y.toInt64)), if_pos rfl]
theorem lc_462 (hlt : l.stackTraces = false) (C : lw_C p s m meth c b L xs D cy) (hL : lw_L s D cy a1 a2 a3 h H locs) (hl : lv_has ls 7 (lw_lv b a1 a2 a3 i)) (hs : St h) (hcc : cells + 4 ≤ 601024) (hss : slots + 25 ≤ 7293034) (kk : ∀ ls' : Array Slot, lv_has ls' 7 (lw_lv b a1 a2 a3 i) → lw_K p l e s m below meth c b D cy a1 a2 a3 cells slots Q ls') : W p l e room_1 s m #[Value.ref b] below meth c H locs cells slots Q (F0 m 462 ls []) := by
  have hx := C.1.1
  have hb := C.1.2.1
  obtain ⟨IA, LA, RA, SC, dr, tl, N, rfl, r, IA', RA', SC', tl', N', c1, s1, hcall, hc1, hs1, hr⟩ := s_next hs
  refine lv_aload_n hx hb (show decode code 462 = .ok (.aload_n 1, 1) by decide +kernel) rfl (lw_lv1 hl) ?_
  refine lv_aload_n hx hb (show decode code 463 = .ok (.aload_n 3, 1) by decide +kernel) rfl (lw_lv3 hl) ?_
  have d464 : decode code 464 = .ok (.invokestatic 88, 3) := by decide +kernel
  rcases hr with ⟨x, rfl, hmo⟩ | ⟨z, rfl, hz, y, h2, k1, hst, k2⟩
  · obtain ⟨h2, k1, hst, h55, k2⟩ := hmo (va_up LA 55 (vp_updL (LA 55) 0 x.toInt64)) rfl rfl
    refine lw_help (h2 := (N', HC IA' (va_up LA 55 (vp_updL (LA 55) 0 x.toInt64)) RA' SC' dr tl')) (kv := 0) hlt C hL hl.1 hcall (Or.inl ⟨x, LA 55, rfl, rfl, by rw [hl_55], rfl⟩) (by omega) (by omega) d464 (fun H1 locs1 hL1 => ?_)
    exact lw_nx hlt C hL1 hl k1 k2 hst (by omega) (by omega) (Or.inr ⟨rfl, _, h55, rfl⟩) (fun ls' hl' H2 locs2 hL2 => kk ls' hl' h2 H2 locs2 c1 s1 hc1 hs1 hst hL2)
  · refine lw_help (h2 := (N', HC IA' LA RA' SC' dr tl')) (kv := nI (z + 1)) hlt C hL hl.1 hcall (Or.inr ⟨z, rfl, hz, rfl, rfl⟩) (by omega) (by omega) d464 (fun H1 locs1 hL1 => ?_)
    exact lw_nx hlt C hL1 hl k1 k2 hst (by omega) (by omega) (Or.inl (nI_ne0 (by omega) (by omega))) (fun ls' hl' H2 locs2 hL2 => kk ls' hl' h2 H2 locs2 c1 s1 hc1 hs1 hst hL2)
end LWN
