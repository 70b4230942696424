/-! ONE STEP OF THE LAW -/
def lw_lv (b a1 a2 a3 : Nat) (i : Int32) : List (Nat × Value) := [(4, .int i), (3, .ref a3), (2, .ref a2), (1, .ref a1), (0, .ref b)]
theorem lw_lv0 {b a1 a2 a3 : Nat} {i : Int32} {ls : Array Slot} (hl : lv_has ls 7 (lw_lv b a1 a2 a3 i)) : ls[0]? = some (.val (.ref b)) := hl.2.2 (0, .ref b) (List.mem_of_getElem? (i := 4) rfl)
theorem lw_lv1 {b a1 a2 a3 : Nat} {i : Int32} {ls : Array Slot} (hl : lv_has ls 7 (lw_lv b a1 a2 a3 i)) : ls[1]? = some (.val (.ref a1)) := hl.2.2 (1, .ref a1) (List.mem_of_getElem? (i := 3) rfl)
theorem lw_lv2 {b a1 a2 a3 : Nat} {i : Int32} {ls : Array Slot} (hl : lv_has ls 7 (lw_lv b a1 a2 a3 i)) : ls[2]? = some (.val (.ref a2)) := hl.2.2 (2, .ref a2) (List.mem_of_getElem? (i := 2) rfl)
theorem lw_lv3 {b a1 a2 a3 : Nat} {i : Int32} {ls : Array Slot} (hl : lv_has ls 7 (lw_lv b a1 a2 a3 i)) : ls[3]? = some (.val (.ref a3)) := hl.2.2 (3, .ref a3) (List.mem_of_getElem? (i := 1) rfl)
theorem lw_lv4 {b a1 a2 a3 : Nat} {i : Int32} {ls : Array Slot} (hl : lv_has ls 7 (lw_lv b a1 a2 a3 i)) : ls[4]? = some (.val (.int i)) := hl.2.2 (4, .int i) (List.mem_of_getElem? (i := 0) rfl)
/-- reading an argument: script[i + k] at q -/
def lw_d (q : Nat) (k : Int) : Prop := decode code q = .ok (.aload_n 0, 1) ∧ decode code (q + 1) = .ok (.iload 4, 2) ∧ decode code (q + 3) = .ok (.iconst k, 1) ∧ decode code (q + 4) = .ok (.iadd, 1) ∧ decode code (q + 5) = .ok (.iaload, 1)
section LWS
variable {p : Program} {l : Launch} {e : Env} {s : State} {m : MethodId} {below : List Frame} {meth : Method} {c : Code} {H : Heap} {locs : List Loc} {cells slots : Nat} {Q : State → Prop}
variable {D : va_G} {cy : Nat → ClassId} {h h1 : pm_H} {ls : Array Slot} {pc b L a1 a2 a3 c1 s1 : Nat} {xs : Nat → Int32} {t : List Value} {i : Int32}
theorem lw_arg (C : lw_C p s m meth c b L xs D cy) (hL : lw_L s D cy a1 a2 a3 h H locs) (hl : lv_has ls 7 (lw_lv b a1 a2 a3 i)) {q : Nat} {k : Int} (hd : lw_d q k) (hin : vp_in (i + Int32.ofInt k) L)
    (kk : W p l e room_1 s m #[Value.ref b] below meth c H locs cells slots Q (F0 m (q + 6) ls (.int (xs (i + Int32.ofInt k).toNatClampNeg) :: t))) : W p l e room_1 s m #[Value.ref b] below meth c H locs cells slots Q (F0 m q ls t) := by
  obtain ⟨⟨hx, hb, -, -, -, -, hX, hbl, -⟩, -⟩ := C
  obtain ⟨ad, -, hS, -⟩ := hL
  obtain ⟨d0, d1, d3, d4, d5⟩ := hd
  refine lv_aload_n hx hb d0 rfl (lw_lv0 hl) ?_
  refine lv_iload hx hb d1 (lw_lv4 hl) ?_
  refine lv_iconst hx hb d3 rfl ?_
  refine lv_iadd hx hb d4 ?_
  exact va_sld hx hb hX hbl (fun z => absurd hbl (Nat.not_lt.mpr z)) hS hin d5 kk
/-- a call of the class, the same of the model: to the model's answer -/
theorem lw_duo (hlt : l.stackTraces = false) (C : lw_C p s m meth c b L xs D cy) (hL : lw_L s D cy a1 a2 a3 h H locs) (hl : lv_has ls 7 (lw_lv b a1 a2 a3 i)) {p0 w i1 M1 i2 M2 : Nat} {As : List Int32} {P : Option Value → Prop} (hP : ∀ v, P v → ∀ ad : Nat → Nat, v.map (pm_rv ad) = v) (hP8 : ∀ v, P v → pm_cat v.toList ≤ 8)
    (d1 : decode code p0 = .ok (.aload_n 1, 1)) (d2 : decode code (p0 + 1 + w) = .ok (.invokevirtual i1, 3)) (d3 : decode code (p0 + 1 + w + 3) = .ok (.aload_n 2, 1)) (d4 : decode code (p0 + 1 + w + 3 + 1 + w) = .ok (.invokevirtual i2, 3))
    (m1 : (i1, M1) ∈ lw_lk) (m2 : (i2, M2) ∈ lw_lk) (o1 : pm_O M1 = 7) (o2 : pm_O M2 = 8) (n1 : As.length = pm_na M1) (n2 : As.length = pm_na M2)
    (rd : ∀ (q : Nat), q = p0 + 1 ∨ q = p0 + 1 + w + 3 + 1 → ∀ (h : pm_H) (H : Heap) (locs : List Loc) (cells slots : Nat) (t : List Value), lw_L s D cy a1 a2 a3 h H locs → W p l e room_1 s m #[Value.ref b] below meth c H locs cells slots Q (F0 m (q + w) ls ((As.map Value.int).reverse ++ t)) → W p l e room_1 s m #[Value.ref b] below meth c H locs cells slots Q (F0 m q ls t))
    (hD : Duo h M1 M2 (As.map Value.int) P) (hcc : cells + 4 ≤ 601024) (hss : slots + 25 ≤ 7293034)
    (kk : ∀ (v : Option Value) (h2 : pm_H) (H2 : Heap) (locs2 : List Loc) (c1 s1 : Nat), P v → c1 ≤ 4 → s1 ≤ 25 → St h2 → lw_L s D cy a1 a2 a3 h2 H2 locs2 → W p l e room_1 s m #[Value.ref b] below meth c H2 locs2 (cells + c1) (slots + s1) Q (F0 m (p0 + 1 + w + 3 + 1 + w + 3) ls (v.toList ++ v.toList))) : W p l e room_1 s m #[Value.ref b] below meth c H locs cells slots Q (F0 m p0 ls []) := by
  obtain ⟨v, h1, h2, c1, s1, k1, k2, hst, hc1, hs1, hv⟩ := hD
  have hx := C.1.1
  have hb := C.1.2.1
  refine lv_aload_n hx hb d1 rfl (lw_lv1 hl) ?_
  refine rd (p0 + 1) (Or.inl rfl) h H locs cells slots [.ref a1] hL ?_
  refine lw_call hlt C hL hl.1 (Or.inl ⟨rfl, rfl, o1⟩) m1 n1 k1 (hP v hv) (Nat.zero_le _) (by omega) (by omega) d2 (fun H1 locs1 hL1 => ?_)
  rw [List.append_nil]
  refine lv_aload_n hx hb d3 rfl (lw_lv2 hl) ?_
  refine rd (p0 + 1 + w + 3 + 1) (Or.inr rfl) h1 H1 locs1 _ _ (.ref a2 :: v.toList) hL1 ?_
  exact lw_call hlt C hL1 hl.1 (Or.inr ⟨rfl, rfl, o2⟩) m2 n2 k2 (hP v hv) (hP8 v hv) (by omega) (by omega) d4 (fun H2 locs2 hL2 => kk v h2 H2 locs2 c1 s1 hv hc1 hs1 hst hL2)
/-- the same, with an answer that the law compares -/
theorem lw_case (hlt : l.stackTraces = false) (C : lw_C p s m meth c b L xs D cy) (hL : lw_L s D cy a1 a2 a3 h H locs) (hl : lv_has ls 7 (lw_lv b a1 a2 a3 i)) {p0 w i1 M1 i2 M2 : Nat} {off : Int} {As : List Int32} {P : Option Value → Prop} (hP : ∀ v, P v → isI v)
    (d1 : decode code p0 = .ok (.aload_n 1, 1)) (d2 : decode code (p0 + 1 + w) = .ok (.invokevirtual i1, 3)) (d3 : decode code (p0 + 1 + w + 3) = .ok (.aload_n 2, 1)) (d4 : decode code (p0 + 1 + w + 3 + 1 + w) = .ok (.invokevirtual i2, 3)) (d5 : decode code (p0 + 1 + w + 3 + 1 + w + 3) = .ok (.if_icmp .eq off, 3)) (ho : ((p0 + 1 + w + 3 + 1 + w + 3 : Nat) : Int) + off = ((544 : Nat) : Int))
    (m1 : (i1, M1) ∈ lw_lk) (m2 : (i2, M2) ∈ lw_lk) (o1 : pm_O M1 = 7) (o2 : pm_O M2 = 8) (n1 : As.length = pm_na M1) (n2 : As.length = pm_na M2)
    (rd : ∀ (q : Nat), q = p0 + 1 ∨ q = p0 + 1 + w + 3 + 1 → ∀ (h : pm_H) (H : Heap) (locs : List Loc) (cells slots : Nat) (t : List Value), lw_L s D cy a1 a2 a3 h H locs → W p l e room_1 s m #[Value.ref b] below meth c H locs cells slots Q (F0 m (q + w) ls ((As.map Value.int).reverse ++ t)) → W p l e room_1 s m #[Value.ref b] below meth c H locs cells slots Q (F0 m q ls t))
    (hD : Duo h M1 M2 (As.map Value.int) P) (hcc : cells + 4 ≤ 601024) (hss : slots + 25 ≤ 7293034)
    (kk : ∀ (h2 : pm_H) (H2 : Heap) (locs2 : List Loc) (c1 s1 : Nat), c1 ≤ 4 → s1 ≤ 25 → St h2 → lw_L s D cy a1 a2 a3 h2 H2 locs2 → W p l e room_1 s m #[Value.ref b] below meth c H2 locs2 (cells + c1) (slots + s1) Q (F0 m 544 ls [])) : W p l e room_1 s m #[Value.ref b] below meth c H locs cells slots Q (F0 m p0 ls []) := by
  refine lw_duo hlt C hL hl (fun v hv ad => ?_) (fun v hv => ?_) d1 d2 d3 d4 m1 m2 o1 o2 n1 n2 rd hD hcc hss (fun v h2 H2 locs2 c1 s1 hv hc1 hs1 hst hL2 => ?_)
  · obtain ⟨x, rfl⟩ := hP v hv
    rfl
  · obtain ⟨x, rfl⟩ := hP v hv
    show (1 : Nat) ≤ 8
    omega
  · obtain ⟨x, rfl⟩ := hP v hv
    exact lv_icmp_eq C.1.1 C.1.2.1 d5 ho (fun _ => kk h2 H2 locs2 c1 s1 hc1 hs1 hst hL2) (fun z => absurd rfl z)
/-- the same, with no answer -/
theorem lw_caseV (hlt : l.stackTraces = false) (C : lw_C p s m meth c b L xs D cy) (hL : lw_L s D cy a1 a2 a3 h H locs) (hl : lv_has ls 7 (lw_lv b a1 a2 a3 i)) {p0 i1 M1 i2 M2 : Nat} {off : Int}
    (d1 : decode code p0 = .ok (.aload_n 1, 1)) (d2 : decode code (p0 + 1) = .ok (.invokevirtual i1, 3)) (d3 : decode code (p0 + 1 + 3) = .ok (.aload_n 2, 1)) (d4 : decode code (p0 + 1 + 3 + 1) = .ok (.invokevirtual i2, 3)) (d5 : decode code (p0 + 1 + 3 + 1 + 3) = .ok (.goto off, 3)) (ho : ((p0 + 1 + 3 + 1 + 3 : Nat) : Int) + off = ((544 : Nat) : Int))
    (m1 : (i1, M1) ∈ lw_lk) (m2 : (i2, M2) ∈ lw_lk) (o1 : pm_O M1 = 7) (o2 : pm_O M2 = 8) (n1 : 0 = pm_na M1) (n2 : 0 = pm_na M2)
    (hD : Duo h M1 M2 [] (fun v => v = none)) (hcc : cells + 4 ≤ 601024) (hss : slots + 25 ≤ 7293034)
    (kk : ∀ (h2 : pm_H) (H2 : Heap) (locs2 : List Loc) (c1 s1 : Nat), c1 ≤ 4 → s1 ≤ 25 → St h2 → lw_L s D cy a1 a2 a3 h2 H2 locs2 → W p l e room_1 s m #[Value.ref b] below meth c H2 locs2 (cells + c1) (slots + s1) Q (F0 m 544 ls [])) : W p l e room_1 s m #[Value.ref b] below meth c H locs cells slots Q (F0 m p0 ls []) := by
  refine lw_duo (w := 0) (As := []) hlt C hL hl (fun v hv ad => ?_) (fun v hv => ?_) d1 d2 d3 d4 m1 m2 o1 o2 n1 n2 (fun q _ h H locs cells slots t _ k => k) hD hcc hss (fun v h2 H2 locs2 c1 s1 hv hc1 hs1 hst hL2 => ?_)
  · cases hv
    rfl
  · cases hv
    decide
  · cases hv
    exact lv_goto C.1.1 C.1.2.1 d5 ho (kk h2 H2 locs2 c1 s1 hc1 hs1 hst hL2)
end LWS
