/-! THE LAW'S START -/
section LWB
variable {p : Program} {l : Launch} {e : Env} {s : State} {m : MethodId} {below : List Frame} {meth : Method} {c : Code} {H : Heap} {locs : List Loc} {cells slots : Nat} {Q : State → Prop}
variable {D : va_G} {cy : Nat → ClassId} {h h1 : pm_H} {ls : Array Slot} {pc b L c1 s1 : Nat} {xs : Nat → Int32} {t : List Value} {ad : Nat → Nat}
set_option maxRecDepth 20000 in
theorem lw_nG : GoodIn lw_tbl ([.classLink R_law 8 (pm_R 7), .instantiable (pm_R 7) (pm_N 7), .initialized (pm_R 7), .methodLink R_law 17 (pm_Y 75), .instanceMethod (pm_Y 75), .classLink R_law 18 (pm_R 8), .instantiable (pm_R 8) (pm_N 8), .initialized (pm_R 8), .methodLink R_law 20 (pm_Y 98), .instanceMethod (pm_Y 98)] : List Cond) := goodIn_sub (by decide +kernel) (by decide +kernel)
theorem lw_w (C : lw_C p s m meth c b L xs D cy) (j : Nat) {w : Cond} (h : ([.classLink R_law 8 (pm_R 7), .instantiable (pm_R 7) (pm_N 7), .initialized (pm_R 7), .methodLink R_law 17 (pm_Y 75), .instanceMethod (pm_Y 75), .classLink R_law 18 (pm_R 8), .instantiable (pm_R 8) (pm_N 8), .initialized (pm_R 8), .methodLink R_law 20 (pm_Y 98), .instanceMethod (pm_Y 98)] : List Cond)[j]? = some w) : w.before #[Value.ref b] s = true := pm_of (lw_gw C) lw_nG (List.mem_of_getElem? h)
theorem lw_new (C : lw_C p s m meth c b L xs D cy) (hW : pm_Wd D cy (fun q => s.heap.size ≤ q) ad h H) (hS : va_S (fun q => s.heap.size ≤ q) s.heap H locs) {i r1 : Nat} (hr1 : r1 < pm_nC) (hw0 : (Cond.classLink R_law i (pm_R r1)).before #[Value.ref b] s = true) (hw1 : (Cond.instantiable (pm_R r1) (pm_N r1)).before #[Value.ref b] s = true) (hw2 : (Cond.initialized (pm_R r1)).before #[Value.ref b] s = true) (hcc : cells + 1 ≤ 601024) (hss : slots + pm_N r1 ≤ 7293034) (hdg : decode code pc = .ok (.new i, 3))
    (kk : ∀ (ad' : Nat → Nat) (H1 : Heap), (∀ k, k < h.1 → ad' k = ad k) → pm_Wd D cy (fun q => s.heap.size ≤ q) ad' (h.1 + 1, va_up h.2 h.1 (.inr (r1, (List.range (pm_N r1)).map (fun k => pm_df (pm_G r1 k))))) H1 → va_S (fun q => s.heap.size ≤ q) s.heap H1 locs → W p l e room_1 s m #[Value.ref b] below meth c H1 locs (cells + 1) (slots + pm_N r1) Q (F0 m (pc + 3) ls (.ref (ad' h.1) :: t))) : W p l e room_1 s m #[Value.ref b] below meth c H locs cells slots Q (F0 m pc ls t) := by
  have hgw := lw_gw C
  obtain ⟨⟨hx, hb, -, hml, hown, hts, -⟩, V, Z, -⟩ := C
  have hse : pm_se h.1 (.inr (r1, (List.range (pm_N r1)).map (fun k => pm_df (pm_G r1 k)))) := by
    intro v hv
    obtain ⟨k, -, rfl⟩ := List.mem_map.mp hv
    exact pm_df_sv _ _
  have hmp : ((List.range (pm_N r1)).map (fun k => pm_df (pm_G r1 k))).map (pm_rv ad) = (List.range (pm_N r1)).map (fun k => pm_df (pm_G r1 k)) := by
    rw [List.map_map]
    exact List.map_congr_left fun k _ => pm_df_rv ad _
  refine va_new hx hb hgw (pm_u_in hr1) (pm_G r1) (pm_ty_ok r1 hr1) hown hw0 hw1 hw2 V.1.1 hW.2.1 hW.2.2 hS (fun q z => z) (pm_cl_at r1 hr1) (fs := (List.range (pm_N r1)).map (fun k => pm_df (pm_G r1 k))) ?_ hcc hss hdg (fun q H1 hP hD hS1 => ?_)
  · intro j hj
    rw [pm_df_ok r1 hr1 j hj]
    unfold vp_V
    rw [List.getD_eq_getElem?_getD, List.getElem?_map, List.getElem?_range hj]
    rfl
  · have hx2 : ∀ k, k < h.1 → va_up ad h.1 q k = ad k := fun k hk => va_up_ne ad q (Nat.ne_of_lt hk)
    have hz := kk (va_up ad h.1 q) H1 hx2 (ps_push hW hse (by show _ = (q, (.inr (r1, _) : va_E)); rw [hmp]) hP hD) hS1
    rw [va_up_self] at hz
    exact hz
theorem lw_newl (C : lw_C p s m meth c b L xs D cy) (hW : pm_Wd D cy (fun q => s.heap.size ≤ q) ad h H) (hS : va_S (fun q => s.heap.size ≤ q) s.heap H locs) (hcc : cells + 1 ≤ 601024) (hss : slots + 1 ≤ 7293034) (hdg : decode code pc = .ok (.newarray .long, 2))
    (kk : ∀ (ad' : Nat → Nat) (H1 : Heap), (∀ k, k < h.1 → ad' k = ad k) → pm_Wd D cy (fun q => s.heap.size ≤ q) ad' (h.1 + 1, va_up h.2 h.1 (.inl (1, 1, .inr (.inl (fun _ => 0))))) H1 → va_S (fun q => s.heap.size ≤ q) s.heap H1 locs → W p l e room_1 s m #[Value.ref b] below meth c H1 locs (cells + 1) (slots + 1) Q (F0 m (pc + 2) ls (.ref (ad' h.1) :: t))) : W p l e room_1 s m #[Value.ref b] below meth c H locs cells slots Q (F0 m pc ls (.int 1 :: t)) := by
  have hgw := lw_gw C
  obtain ⟨⟨hx, hb, -, hml, hown, hts, -⟩, V, Z, -⟩ := C
  obtain ⟨h1, h2⟩ := pm_jint (i := 1) (j := 1) (N := 100000) rfl (by omega)
  refine va_newa hx hb (pm_of hgw pf_ar (List.mem_cons_of_mem _ List.mem_cons_self)) (ty := .long) rfl V.1.1 hW.2.1 hW.2.2 hS (fun q z => z) (a0 := (1, .inr (.inl (fun _ => 0)))) (fun _ => rfl) (fun z => h1 (Or.inl z)) h2 (by decide) hcc hss hdg (fun q cA H1 hK hP hD hS1 => ?_)
  have hca : cy 1 = cA := pm_cy_int hK (i := 1) (by rfl) (j := (pm_tys cy).length) (by rw [List.getElem?_append_right (Nat.le_refl _), Nat.sub_self]; rfl)
  subst hca
  have hx2 : ∀ k, k < h.1 → va_up ad h.1 q k = ad k := fun k hk => va_up_ne ad q (Nat.ne_of_lt hk)
  have hz := kk (va_up ad h.1 q) H1 hx2 (ps_push hW trivial rfl hP hD) hS1
  rw [va_up_self] at hz
  exact hz
theorem lw_init (hlt : l.stackTraces = false) (C : lw_C p s m meth c b L xs D cy) (hW : pm_Wd D cy (fun q => s.heap.size ≤ q) ad h H) (hS : va_S (fun q => s.heap.size ≤ q) s.heap H locs) (hlz : ls.size = 7) {i M k : Nat} (hk : k < h.1) (hM : M < pm_nM) (hpL : pm_L M ≤ 100) (hn : 0 = pm_na M) (hini : (pm_Y M).name = "<init>") (hrt : pm_T M = none) (hw0 : (Cond.methodLink R_law i (pm_Y M)).before #[Value.ref b] s = true) (hw1 : (Cond.instanceMethod (pm_Y M)).before #[Value.ref b] s = true) (hw2 : (Cond.initialized (pm_R (pm_O M))).before #[Value.ref b] s = true) (ht : pm_cat t ≤ 8)
    (hcall : pm_call 15 M [.ref k] h (.inl none) h1 c1 s1) (hcc : cells + c1 ≤ 601024) (hss : slots + s1 ≤ 7293034) (hdg : decode code pc = .ok (.invokespecial i, 3))
    (kk : ∀ (ad' : Nat → Nat) (H1 : Heap) (locs1 : List Loc), (∀ k, k < h.1 → ad' k = ad k) → pm_Wd D cy (fun q => s.heap.size ≤ q) ad' h1 H1 → va_S (fun q => s.heap.size ≤ q) s.heap H1 locs1 → W p l e room_1 s m #[Value.ref b] below meth c H1 locs1 (cells + c1) (slots + s1) Q (F0 m (pc + 3) ls t)) : W p l e room_1 s m #[Value.ref b] below meth c H locs cells slots Q (F0 m pc ls (.ref (ad k) :: t)) := by
  have hgw := lw_gw C
  obtain ⟨⟨hx, hb, -, hml, hown, hts, -⟩, V, Z, -⟩ := C
  obtain ⟨-, -, -, hcls, hO⟩ := pm_all M hM
  have hsk : pm_sk h.1 [.ref k] := by
    intro w hw
    rcases List.mem_cons.mp hw with q | q
    · rw [q]; exact hk
    · cases q
  have hA : ∀ q, s.heap.size ≤ q → (fun q => s.heap.size ≤ q) q := fun q z => z
  have hm : pm_Met l D cy 14 M [.ref k] h (.inl none) h1 c1 s1 ad H.size := pm_sound l hlt D cy 15 14 rfl M _ h _ h1 c1 s1 hM hsk hcall ad H.size
  have hcb : CallB room_1 s #[Value.ref b] R_law i (pm_Y M) (pm_B M) (pm_L M) none (pm_ws M) (pm_rm 14 c1 s1) c1 s1 (pm_na M) := by
    rw [← hrt]
    refine callB_of (pm_na M) hgw (pm_gin hM) rfl rfl rfl (by rw [hcls]; exact hw2) hw0 (pm_na_at hM) ⟨by show 14 + 1 ≤ 16; omega, ?_⟩
    show 8 + (pm_L M + 11) + 32 * 14 ≤ 622
    omega
  refine pm_after0 (a := (Value.ref (ad k) :: []).toArray) (h1 := h1) (r1 := .inl none) (t := t) (c1 := c1) (s1 := s1) hW hS hA (va_runI (As := []) (b := ad k) (n := pm_na M) ⟨hx, hb, hml, hown, hgw⟩ hm.ret ⟨hcb, hini, hw1⟩ ⟨pm_blind, pm_give (As := [.ref k]) V Z hW hS hA⟩ rfl hn hlz rfl (lv_room ht) hdg ⟨hcc, hss⟩) ?_
  intro v1 ad' H1 locs1 hr1 hag hle hsv hW1 hS1
  cases hr1
  exact kk ad' H1 locs1 hag hW1 hS1
end LWB
