/-! THE LAW'S CALLS -/
/-- the law's links: the pool's place, the method -/
def lw_lk : List (Nat × Nat) := [(21, 76), (25, 108), (26, 77), (29, 109), (30, 78), (33, 114), (34, 79), (38, 115), (39, 80), (42, 116), (43, 81), (46, 120), (47, 82), (50, 126), (51, 83), (54, 127), (55, 84), (58, 128), (59, 85), (62, 129), (63, 86), (66, 131), (67, 87), (70, 133), (71, 88), (74, 134), (75, 89), (79, 135), (80, 90), (83, 136), (84, 91), (87, 132), (93, 148), (94, 99), (97, 93), (100, 149), (101, 94), (104, 150)]
def lw_lw (e : Nat × Nat) : List Cond := [.methodLink R_law e.1 (pm_Y e.2), .instanceMethod (pm_Y e.2), .selects (pm_R (pm_O e.2)) (pm_Y e.2) (pm_Y e.2), .initialized (pm_R (pm_O e.2))]
set_option maxRecDepth 20000 in
theorem lw_lkG : GoodIn lw_tbl (lw_lk.flatMap lw_lw) := goodIn_sub (by decide +kernel) (by decide +kernel)
theorem lw_lkN : ∀ e ∈ lw_lk, e.2 < pm_nM ∧ pm_L e.2 ≤ 100 := by decide +kernel
/-- what stands fast while the law runs -/
def lw_C (p : Program) (s : State) (m : MethodId) (meth : Method) (c : Code) (b L : Nat) (xs : Nat → Int32) (D : va_G) (cy : Nat → ClassId) : Prop := lw_At p s m meth c b L xs ∧ pm_Eq D cy s ∧ pm_St (fun q => s.heap.size ≤ q) s s.heap ∧ va_Nc "java/lang/IllegalStateException" "java/lang/IllegalArgumentException" s
/-- the law's world: the class's object at a1, the model's at a2, the row at a3 -/
def lw_L (s : State) (D : va_G) (cy : Nat → ClassId) (a1 a2 a3 : Nat) (h : pm_H) (H : Heap) (locs : List Loc) : Prop := ∃ ad : Nat → Nat, pm_Wd D cy (fun q => s.heap.size ≤ q) ad h H ∧ va_S (fun q => s.heap.size ≤ q) s.heap H locs ∧ 55 < h.1 ∧ ad 0 = a1 ∧ ad 36 = a2 ∧ ad 55 = a3 ∧ (∃ fs, h.2 0 = .inr (7, fs)) ∧ ∃ fs, h.2 36 = .inr (8, fs)
section LWC
variable {p : Program} {l : Launch} {e : Env} {s : State} {m : MethodId} {below : List Frame} {meth : Method} {c : Code} {H : Heap} {locs : List Loc} {cells slots : Nat} {Q : State → Prop}
variable {D : va_G} {cy : Nat → ClassId} {h h1 : pm_H} {ls : Array Slot} {pc b L a1 a2 a3 c1 s1 : Nat} {xs : Nat → Int32} {t : List Value}
theorem lw_gw (C : lw_C p s m meth c b L xs D cy) : ∀ w ∈ pm_gw, w.before #[Value.ref b] s = true := fun w hw => C.1.2.2.2.2.2.1 w (List.mem_filter.mp hw).1
theorem lw_call (hlt : l.stackTraces = false) (C : lw_C p s m meth c b L xs D cy) (hL : lw_L s D cy a1 a2 a3 h H locs) (hlz : ls.size = 7) {i M k a : Nat} {As : List Int32} {v : Option Value} (hk : (k = 0 ∧ a = a1 ∧ pm_O M = 7) ∨ (k = 36 ∧ a = a2 ∧ pm_O M = 8)) (hmem : (i, M) ∈ lw_lk) (hn : As.length = pm_na M) (hcall : pm_call 15 M (.ref k :: As.map .int) h (.inl v) h1 c1 s1) (hv : ∀ ad : Nat → Nat, v.map (pm_rv ad) = v) (ht : pm_cat t ≤ 8) (hcc : cells + c1 ≤ 601024) (hss : slots + s1 ≤ 7293034) (hdg : decode code pc = .ok (.invokevirtual i, 3))
    (kk : ∀ (H1 : Heap) (locs1 : List Loc), lw_L s D cy a1 a2 a3 h1 H1 locs1 → W p l e room_1 s m #[Value.ref b] below meth c H1 locs1 (cells + c1) (slots + s1) Q (F0 m (pc + 3) ls (v.toList ++ t))) : W p l e room_1 s m #[Value.ref b] below meth c H locs cells slots Q (F0 m pc ls ((As.map Value.int).reverse ++ .ref a :: t)) := by
  have hgw := lw_gw C
  obtain ⟨⟨hx, hb, -, hml, hown, hts, -⟩, V, Z, -⟩ := C
  obtain ⟨ad, hW, hS, h55, e1, e2, e3, hf0, hf36⟩ := hL
  obtain ⟨hM, hpL⟩ := lw_lkN _ hmem
  have hM : M < pm_nM := hM
  obtain ⟨-, -, -, hcls, hO⟩ := pm_all M hM
  have hkp := Kp_call _ _ _ _ _ _ _ _ hcall
  have hk1 : k < h.1 ∧ a = ad k ∧ ∃ fs, h.2 k = .inr (pm_O M, fs) := by
    rcases hk with ⟨rfl, rfl, hq⟩ | ⟨rfl, rfl, hq⟩
    · exact ⟨by omega, e1.symm, by rw [hq]; exact hf0⟩
    · exact ⟨by omega, e2.symm, by rw [hq]; exact hf36⟩
  obtain ⟨hk2, rfl, fs, hc⟩ := hk1
  have he : (pm_wl cy ad h)[k]? = some (ad k, .inr (pm_O M, fs.map (pm_rv ad))) := by rw [pm_wl_at hk2, hc]; rfl
  have hw : ∀ w ∈ lw_lw (i, M), w.before #[Value.ref b] s = true := fun w hw => pm_of hgw lw_lkG (List.mem_flatMap.mpr ⟨_, hmem, hw⟩)
  have hsk : pm_sk h.1 (.ref k :: As.map .int) := by
    intro w hw
    rcases List.mem_cons.mp hw with q | q
    · rw [q]; exact hk2
    · obtain ⟨x, -, rfl⟩ := List.mem_map.mp q
      trivial
  have hmp : (As.map Value.int).map (pm_rv ad) = As.map Value.int := by
    rw [List.map_map]
    exact List.map_congr_left fun x _ => rfl
  have hA : ∀ q, s.heap.size ≤ q → (fun q => s.heap.size ≤ q) q := fun q z => z
  have hm : pm_Met l D cy 14 M (.ref k :: As.map .int) h (.inl v) h1 c1 s1 ad H.size := pm_sound l hlt D cy 15 14 rfl M _ h _ h1 c1 s1 hM hsk hcall ad H.size
  have hcb : CallB room_1 s #[Value.ref b] R_law i (pm_Y M) (pm_B M) (pm_L M) (pm_T M) (pm_ws M) (pm_rm 14 c1 s1) c1 s1 (pm_na M) := by
    refine callB_of (pm_na M) hgw (pm_gin hM) rfl rfl rfl (by rw [hcls]; exact hw _ (List.mem_of_getElem? (i := 3) rfl)) (hw _ (List.mem_of_getElem? (i := 0) rfl)) (pm_na_at hM) ⟨by show 14 + 1 ≤ 16; omega, ?_⟩
    show 8 + (pm_L M + 11) + 32 * 14 ≤ 622
    have : pm_L M ≤ 100 := hpL
    omega
  refine pm_after (a := (Value.ref (ad k) :: (As.map Value.int).map (pm_rv ad)).toArray) (g := F0 m pc ls []) (h1 := h1) (r1 := .inl v) hW hS hA (vx_runV (As := (As.map Value.int).map (pm_rv ad)) (b := ad k) (C := pm_R (pm_O M)) (n := pm_na M) ⟨hx, hb, hml, hown, hgw⟩ hm ⟨hcb, hw _ (List.mem_of_getElem? (i := 1) rfl), hw _ (List.mem_of_getElem? (i := 2) rfl)⟩ ⟨pm_blind, va_recv V.1.1 hW.2.1 (pm_cl_at _ hO) he, pm_give V Z hW hS hA⟩ rfl (by rw [List.length_map, List.length_map, hn]) hlz ?_ (lv_room ht) hdg ⟨hcc, hss⟩) ?_ ?_
  · rw [hmp]
  · intro v1 ad' H1 locs1 hr hag hle hsv hW1 hS1
    cases hr
    rw [hv]
    exact kk H1 locs1 ⟨ad', hW1, hS1, Nat.lt_of_lt_of_le h55 hle, by rw [hag 0 (by omega)]; exact e1, by rw [hag 36 (by omega)]; exact e2, by rw [hag 55 (by omega)]; exact e3, by obtain ⟨f, hf⟩ := hf0; exact hkp.2 0 (by omega) _ _ hf, by obtain ⟨f, hf⟩ := hf36; exact hkp.2 36 (by omega) _ _ hf⟩
  · intro k1 ad' H1 locs1 q9 ce hr
    cases hr
end LWC
