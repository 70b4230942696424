/-! CONTRACTS OF THE PURE MACHINE'S CALLS -/
/-- what the tables say beside the good words -/
def pm_Eq (D : va_G) (cy : Nat → ClassId) (s : State) : Prop := pm_Ev D cy s ∧ (∀ w ∈ pm_xw, va_Nw w s) ∧ (∀ z ∈ pm_sx, ∃ a : Nat, vk_R (pm_R z.1) z.2.1 z.2.2 a s)
/-- the two statics that a new exception reads lie outside A -/
def pm_St (A : Nat → Prop) (s : State) (H : Heap) : Prop := vx_Zq Jvm.Bundle.tN "UNASSIGNED_STACK" Jvm.Bundle.steD A s H ∧ vx_Zq Jvm.Bundle.tN "SUPPRESSED_SENTINEL" Jvm.Bundle.listD A s H
theorem pm_nw_warm {s U : State} (hW : s.WarmedH U.vm) : ∀ w ∈ pm_nw, va_Nw w s → va_Nw w U := by
  intro w hw h
  rcases List.mem_append.mp hw with q | q
  · obtain ⟨e, -, rfl⟩ := List.mem_map.mp q
    exact va_Nw.warmF hW h
  · obtain ⟨e, -, rfl⟩ := List.mem_map.mp q
    exact va_Nw.warmM hW h
theorem pm_xw_warm {s U : State} (hW : s.WarmedH U.vm) : ∀ w ∈ pm_xw, va_Nw w s → va_Nw w U := by
  intro w hw h
  have hk := List.all_eq_true.mp pm_xw_kind w hw
  cases w with
  | castable a b => exact va_Nw.warmC hW h
  | declares x => exact va_Nw.warmD hW h
  | _ => cases hk
theorem pm_Ev.warm {D : va_G} {cy : Nat → ClassId} {s U : State} (hW : s.WarmedH U.vm) (V : pm_Ev D cy s) : pm_Ev D cy U := ⟨va_K.moved hW.alike V.1, fun w hw => pm_nw_warm hW w hw (V.2.1 w hw), fun q hq => va_AO.moved hW.alike (V.2.2 q hq)⟩
theorem pm_Eq.warm {D : va_G} {cy : Nat → ClassId} {s U : State} (hW : s.WarmedH U.vm) (V : pm_Eq D cy s) : pm_Eq D cy U := ⟨V.1.warm hW, fun w hw => pm_xw_warm hW w hw (V.2.1 w hw), fun z hz => by obtain ⟨a, ha⟩ := V.2.2 z hz; exact ⟨a, vk_R.warm hW ha⟩⟩
theorem pm_St.move {A B : Nat → Prop} {s U : State} {H H1 : Heap} (hvm : s.vm.Alike U.vm) (hq : ∀ a : Nat, a < H.size → ¬ A a → H1[a]? = H[a]?) (hAB : ∀ q, B q → A q) (Z : pm_St A s H) : pm_St B U H1 := ⟨((Z.1.kept hq).narrow hAB).moved hvm, ((Z.2.kept hq).narrow hAB).moved hvm⟩
def pm_rm (d bc bs : Nat) : Room := { frames := d, cells := bc, slots := bs, locals := 32 * d }
/-- the addresses that a run may touch: those of the places, and new ones -/
def pm_A (ad : Nat → Nat) (n sz : Nat) : Nat → Prop := fun q => (∃ k, k < n ∧ q = ad k) ∨ sz ≤ q
def pm_Pc (D : va_G) (cy : Nat → ClassId) (ad : Nat → Nat) (As : List Value) (h : pm_H) (sz : Nat) : Array Value → State → Prop := va_Pc (As.map (pm_rv ad)) (fun U => U.heap.size = sz ∧ pm_Wd D cy (fun _ => True) ad h U.heap ∧ pm_Eq D cy U ∧ pm_St (pm_A ad h.1 sz) U U.heap)
def pm_Qc (D : va_G) (cy : Nat → ClassId) (ad : Nat → Nat) (n sz : Nat) (r : pm_V) (h' : pm_H) : Array Value → State → Outcome → State → Prop := fun _ st o t => ∃ (v : Option Value) (ad' : Nat → Nat), r = .inl v ∧ o = .returned (v.map (pm_rv ad')) ∧ (∀ k, k < n → ad' k = ad k) ∧ n ≤ h'.1 ∧ (∀ w, v = some w → pm_sv h'.1 w) ∧ pm_Wd D cy (pm_A ad n sz) ad' h' t.heap ∧ va_F (pm_A ad n sz) st t
def pm_Xc (D : va_G) (cy : Nat → ClassId) (ad : Nat → Nat) (n sz : Nat) (r : pm_V) (h' : pm_H) : String → State → State → Prop := fun E st t => ∃ (k : Nat) (ad' : Nat → Nat), r = .inr k ∧ E = pm_xn k ∧ (∀ k, k < n → ad' k = ad k) ∧ n ≤ h'.1 ∧ pm_Wd D cy (pm_A ad n sz) ad' h' t.heap ∧ va_F (pm_A ad n sz) st t
def pm_Met (l : Launch) (D : va_G) (cy : Nat → ClassId) (d M : Nat) (As : List Value) (h : pm_H) (r : pm_V) (h' : pm_H) (bc bs : Nat) (ad : Nat → Nat) (sz : Nat) : Prop :=
  vx_Met l (pm_Y M) (pm_ws M) (pm_rm d bc bs) (pm_Pc D cy ad As h sz) (pm_Qc D cy ad h.1 sz r h') (pm_Xc D cy ad h.1 sz r h') bc bs (pm_A ad h.1 sz)
theorem pm_blind {D : va_G} {cy : Nat → ClassId} {ad : Nat → Nat} {As : List Value} {h : pm_H} {sz : Nat} : FrameBlind (pm_Pc D cy ad As h sz) := by
  intro a U g mk q
  obtain ⟨q0, q1, q2, q3, q4⟩ := q
  exact ⟨q0, q1, q2, q3.warm (s := U) (U := U.calling g mk a) (State.WarmedH.refl U), pm_St.move (s := U) (U := U.calling g mk a) (Vm.Alike.refl U.vm) (fun _ _ _ => rfl) (fun _ z => z) q4⟩
theorem pm_Met.ret {l : Launch} {D : va_G} {cy : Nat → ClassId} {d M : Nat} {As : List Value} {h : pm_H} {v : Option Value} {h' : pm_H} {bc bs : Nat} {ad : Nat → Nat} {sz : Nat} (hm : pm_Met l D cy d M As h (.inl v) h' bc bs ad sz) :
    Met l (pm_Y M) (pm_ws M) (pm_rm d bc bs) (pm_Pc D cy ad As h sz) (pm_Qc D cy ad h.1 sz (.inl v) h') bc bs (pm_A ad h.1 sz) := by
  intro p e a1 a2 a3 s m args below b1 b2 b3 b4
  obtain ⟨n, o, c1, c2, c3, c4⟩ := hm p e a1 a2 a3 s m args below b1 b2 b3 b4
  refine ⟨n, o, c1, c2, c3, ?_⟩
  rcases c4 with z | ⟨q, -, E, ce, L, ⟨k, ad', hr, -⟩, -⟩
  · exact z
  · cases hr
theorem pm_word {M : Nat} (hM : M < pm_nM) : pm_cw M ∈ pm_gw := List.mem_filter.mpr ⟨pm_codes M hM, rfl⟩
theorem pm_gin {M : Nat} (hM : M < pm_nM) : GoodIn pm_gw (pm_ws M) := by
  intro w hw
  rcases List.mem_cons.mp hw with e | e
  · rw [e]; exact pm_gw_good _ (pm_word hM)
  · exact pm_gw_good _ e
theorem pm_na_at {M : Nat} (hM : M < pm_nM) : (pm_Y M).cls ≠ "java/lang/invoke/MethodHandle" ∧ (pm_Y M).cls ≠ "java/lang/invoke/VarHandle" ∧ (parseMethodDescriptor (pm_Y M).desc).map (fun d => d.parameters.length) = some (pm_na M) := by
  have h := List.all_eq_true.mp pm_na_ok M (List.mem_range.mpr hM)
  simp only [Bool.and_eq_true, decide_eq_true_eq] at h
  exact ⟨h.1.1, h.1.2, h.2⟩
section PSC
variable {p : Program} {l : Launch} {e : Env} {R : Room} {s : State} {m : MethodId} {args : Array Value} {below : List Frame} {meth : Method} {c : Code} {H : Heap} {locs : List Loc} {cells slots : Nat} {Q : State → Prop}
variable {D : va_G} {cy : Nat → ClassId} {A0 : Nat → Prop} {M : Nat} {ad : Nat → Nat} {h h1 : pm_H} {r1 : pm_V} {ls : Array Slot} {pc : Nat} {t : List Value} {d bc bs c1 s1 M' : Nat}
/-- what goes to a callee -/
theorem pm_give (V : pm_Eq D cy s) (Z : pm_St A0 s s.heap) (hW : pm_Wd D cy A0 ad h H) (hS : va_S A0 s.heap H locs) (hA : ∀ q, s.heap.size ≤ q → A0 q) {As : List Value} : ∀ U : State, U.heap = H → s.WarmedH U.vm → pm_Pc D cy ad As h H.size (As.map (pm_rv ad)).toArray U := by
  intro U hU hw
  subst hU
  have hin : ∀ q, pm_A ad h.1 U.heap.size q → A0 q := by
    rintro q (⟨k, hk, rfl⟩ | z)
    · exact hW.2.2.2 k _ (pm_wl_at hk)
    · exact hA q (Nat.le_trans hS.1 z)
  exact ⟨rfl, rfl, ⟨hW.1, hW.2.1, hW.2.2.weaken (fun _ _ _ _ => trivial)⟩, V.warm hw, Z.move hw.alike (fun a h1 h2 => hS.2.1 a h1 h2) hin⟩
/-- the rest of a caller, behind a call that may throw -/
theorem pm_after {a : Array Value} {g : JFrame} {rest : List Value} (hW : pm_Wd D cy A0 ad h H) (hS : va_S A0 s.heap H locs) (hA : ∀ q, s.heap.size ≤ q → A0 q)
    (hr : vx_Run p l e R s m args below meth c H locs cells slots c1 s1 (F0 m pc ls rest) t (pm_Qc D cy ad h.1 H.size r1 h1 a) (pm_Xc D cy ad h.1 H.size r1 h1) (pm_A ad h.1 H.size))
    (kr : ∀ (v : Option Value) (ad' : Nat → Nat) (H1 : Heap) (locs1 : List Loc), r1 = .inl v → (∀ k, k < h.1 → ad' k = ad k) → h.1 ≤ h1.1 → (∀ w, v = some w → pm_sv h1.1 w) → pm_Wd D cy A0 ad' h1 H1 → va_S A0 s.heap H1 locs1 → W p l e R s m args below meth c H1 locs1 (cells + c1) (slots + s1) Q (F0 m (pc + 3) ls ((v.map (pm_rv ad')).toList ++ t)))
    (kx : ∀ (k : Nat) (ad' : Nat → Nat) (H1 : Heap) (locs1 : List Loc) (q9 : Addr) (ce : Cell), r1 = .inr k → (∀ k, k < h.1 → ad' k = ad k) → h.1 ≤ h1.1 → pm_Wd D cy A0 ad' h1 H1 → va_S A0 s.heap H1 locs1 → H1[q9]? = some ce → ce.vm = .none → s.vm.findClass (pm_xn k) = some ce.cls → vx_W p l e R s m args below meth c H1 locs1 (cells + c1) (slots + s1) Q (F0 m pc ls t) q9) :
    W p l e R s m args below meth c H locs cells slots Q (F0 m pc ls rest) := by
  have hin : ∀ q, pm_A ad h.1 H.size q → A0 q := by
    rintro q (⟨k, hk, rfl⟩ | z)
    · exact hW.2.2.2 k _ (pm_wl_at hk)
    · exact hA q (Nat.le_trans hS.1 z)
  intro T hT X
  rcases hr T hT X with ⟨v, st₀, t1, T', L, h0, X', hL, e1, e2, ⟨v1, ad', hr1, hv, hag, hle, hsv, hWd, hF⟩, st⟩ | ⟨q, st₀, t1, T', L, E, ce, h0, X', hL, e1, e2, ⟨k, ad', hr1, hE, hag, hle, hWd, hF⟩, hce, hcv, hcl, st⟩
  · obtain ⟨-, -, k3⟩ := vx_keep h0 e1 hS (fun q _ z => hin q z) hin hL hF
    obtain ⟨t2, a1, b1⟩ := kr v1 ad' T'.heap (locs ++ L) hr1 hag hle hsv ⟨hWd.1, by rw [e1]; exact hWd.2.1, hWd.2.2.weaken (fun _ _ _ z => hin _ z)⟩ k3 T' rfl X'
    cases hv
    exact ⟨t2, st t2 a1, b1⟩
  · obtain ⟨-, -, k3⟩ := vx_keep h0 e1 hS (fun q _ z => hin q z) hin hL hF
    subst hE
    obtain ⟨t2, a1, b1⟩ := kx k ad' T'.heap (locs ++ L) q ce hr1 hag hle ⟨hWd.1, by rw [e1]; exact hWd.2.1, hWd.2.2.weaken (fun _ _ _ z => hin _ z)⟩ k3 (by rw [e1]; exact hce) hcv hcl T' rfl X'
    exact ⟨t2, st.trans a1, b1⟩
/-- the rest of a caller, behind a call that returns -/
theorem pm_after0 {a : Array Value} {rest : List Value} (hW : pm_Wd D cy A0 ad h H) (hS : va_S A0 s.heap H locs) (hA : ∀ q, s.heap.size ≤ q → A0 q)
    (hr : va_Run p l e R s m args below meth c H locs cells slots c1 s1 (F0 m pc ls rest) t (pm_Qc D cy ad h.1 H.size r1 h1 a) (pm_A ad h.1 H.size))
    (kr : ∀ (v : Option Value) (ad' : Nat → Nat) (H1 : Heap) (locs1 : List Loc), r1 = .inl v → (∀ k, k < h.1 → ad' k = ad k) → h.1 ≤ h1.1 → (∀ w, v = some w → pm_sv h1.1 w) → pm_Wd D cy A0 ad' h1 H1 → va_S A0 s.heap H1 locs1 → W p l e R s m args below meth c H1 locs1 (cells + c1) (slots + s1) Q (F0 m (pc + 3) ls ((v.map (pm_rv ad')).toList ++ t))) :
    W p l e R s m args below meth c H locs cells slots Q (F0 m pc ls rest) := by
  have hin : ∀ q, pm_A ad h.1 H.size q → A0 q := by
    rintro q (⟨k, hk, rfl⟩ | z)
    · exact hW.2.2.2 k _ (pm_wl_at hk)
    · exact hA q (Nat.le_trans hS.1 z)
  intro T hT X
  obtain ⟨v, st₀, t1, T', L, h0, X', hL, e1, e2, ⟨v1, ad', hr1, hv, hag, hle, hsv, hWd, hF⟩, st⟩ := hr T hT X
  obtain ⟨-, -, k3⟩ := vx_keep h0 e1 hS (fun q _ z => hin q z) hin hL hF
  obtain ⟨t2, a1, b1⟩ := kr v1 ad' T'.heap (locs ++ L) hr1 hag hle hsv ⟨hWd.1, by rw [e1]; exact hWd.2.1, hWd.2.2.weaken (fun _ _ _ z => hin _ z)⟩ k3 T' rfl X'
  cases hv
  exact ⟨t2, st t2 a1, b1⟩
/-- the words and the room of a call through a plain link -/
theorem pm_cb (X : pm_Cx p s m args meth c M) (hM' : M' < pm_nM) {i : Nat} (hl : (Cond.methodLink (pm_R (pm_O M)) i (pm_Y M')).before args s = true) (hini : (Cond.initialized (pm_R (pm_O M'))).before args s = true) : CallB (pm_rm (d + 1) bc bs) s args (pm_R (pm_O M)) i (pm_Y M') (pm_B M') (pm_L M') (pm_T M') (pm_ws M') (pm_rm d c1 s1) c1 s1 (pm_na M') := by
  obtain ⟨hM, hx, hb, hml, hown, hts, -⟩ := X
  obtain ⟨-, hL, -, hcls, -⟩ := pm_all M' hM'
  refine callB_of (pm_na M') hts (pm_gin hM') rfl rfl rfl (by rw [hcls]; exact hini) hl (pm_na_at hM') ⟨Nat.le_refl _, ?_⟩
  show 8 + (pm_L M' + 11) + 32 * d ≤ 32 * (d + 1)
  omega
theorem ps_callV (X : pm_Cx p s m args meth c M) (V : pm_Eq D cy s) (Z : pm_St A0 s s.heap) (hW : pm_Wd D cy A0 ad h H) (hS : va_S A0 s.heap H locs) (hA : ∀ q, s.heap.size ≤ q → A0 q) (hlz : ls.size = pm_L M) {i nA b : Nat} {kz : Int32} {As fs : List Value} (hI : pm_J M pc = (.invokevirtual i, M', nA, kz)) (hM' : M' < pm_nM) (hn : As.length = nA) (hk : b < h.1) (hc : h.2 b = .inr (pm_O M', fs)) (ht : pm_cat t ≤ 8) (hcc : cells + c1 ≤ bc) (hss : slots + s1 ≤ bs) (hm : pm_Met l D cy d M' (.ref b :: As) h r1 h1 c1 s1 ad H.size)
    (kr : ∀ (v : Option Value) (ad' : Nat → Nat) (H1 : Heap) (locs1 : List Loc), r1 = .inl v → (∀ k, k < h.1 → ad' k = ad k) → h.1 ≤ h1.1 → (∀ w, v = some w → pm_sv h1.1 w) → pm_Wd D cy A0 ad' h1 H1 → va_S A0 s.heap H1 locs1 → W p l e (pm_rm (d + 1) bc bs) s m args below meth c H1 locs1 (cells + c1) (slots + s1) Q (F0 m (pc + 3) ls ((v.map (pm_rv ad')).toList ++ t.map (pm_rv ad))))
    (kx : ∀ (k : Nat) (ad' : Nat → Nat) (H1 : Heap) (locs1 : List Loc) (q9 : Addr) (ce : Cell), r1 = .inr k → (∀ k, k < h.1 → ad' k = ad k) → h.1 ≤ h1.1 → pm_Wd D cy A0 ad' h1 H1 → va_S A0 s.heap H1 locs1 → H1[q9]? = some ce → ce.vm = .none → s.vm.findClass (pm_xn k) = some ce.cls → vx_W p l e (pm_rm (d + 1) bc bs) s m args below meth c H1 locs1 (cells + c1) (slots + s1) Q (F0 m pc ls (t.map (pm_rv ad))) q9) :
    W p l e (pm_rm (d + 1) bc bs) s m args below meth c H locs cells slots Q (F0 m pc ls ((As.reverse ++ .ref b :: t).map (pm_rv ad))) := by
  have X0 := X
  obtain ⟨hM, hx, hb, hml, hown, hts, hr, hlk, hnm, hex⟩ := X
  obtain ⟨hdg, hok⟩ := pm_at hM hI (fun z => by cases z)
  unfold pm_ok at hok
  rw [hI] at hok
  have hok2 := pm_all2 M hM pc
  unfold pm_ok2 at hok2
  rw [hI] at hok2
  have hna : nA = pm_na M' := of_decide_eq_true hok2
  have hv := List.contains_iff_mem.mp hok
  have hw : ∀ w ∈ pm_vw (pm_O M, i, M'), w.before args s = true := fun w hw => pm_of hts pf_v (List.mem_flatMap.mpr ⟨_, hv, hw⟩)
  obtain ⟨-, -, -, hcls, hO⟩ := pm_all M' hM'
  have he : (pm_wl cy ad h)[b]? = some (ad b, .inr (pm_O M', fs.map (pm_rv ad))) := by rw [pm_wl_at hk, hc]; rfl
  refine pm_after (a := (Value.ref (ad b) :: As.map (pm_rv ad)).toArray) (g := F0 m pc ls []) hW hS hA (vx_runV (As := As.map (pm_rv ad)) (b := ad b) (C := pm_R (pm_O M')) (n := pm_na M') ⟨hx, hb, hml, hown, hts⟩ hm ⟨pm_cb X0 hM' (hw _ (List.mem_of_getElem? (i := 0) rfl)) (hw _ (List.mem_of_getElem? (i := 3) rfl)), hw _ (List.mem_of_getElem? (i := 1) rfl), hw _ (List.mem_of_getElem? (i := 2) rfl)⟩ ⟨pm_blind, va_recv V.1.1 hW.2.1 (pm_cl_at _ hO) he, pm_give V Z hW hS hA⟩ rfl (by rw [List.length_map, hn, hna]) hlz ?_ (lv_room (by rw [pm_cat_map]; exact ht)) hdg ⟨hcc, hss⟩) kr kx
  show (As.reverse ++ Value.ref b :: t).map (pm_rv ad) = _
  rw [List.map_append, List.map_reverse]
  rfl
theorem ps_callS (X : pm_Cx p s m args meth c M) (V : pm_Eq D cy s) (Z : pm_St A0 s s.heap) (hW : pm_Wd D cy A0 ad h H) (hS : va_S A0 s.heap H locs) (hA : ∀ q, s.heap.size ≤ q → A0 q) (hlz : ls.size = pm_L M) {i nA : Nat} {kz : Int32} {As : List Value} {v1 : Option Value} (hI : pm_J M pc = (.invokestatic i, M', nA, kz)) (hM' : M' < pm_nM) (hn : As.length = nA) (ht : pm_cat t ≤ 8) (hcc : cells + c1 ≤ bc) (hss : slots + s1 ≤ bs) (hm : pm_Met l D cy d M' As h (.inl v1) h1 c1 s1 ad H.size)
    (kr : ∀ (v : Option Value) (ad' : Nat → Nat) (H1 : Heap) (locs1 : List Loc), (.inl v1 : pm_V) = .inl v → (∀ k, k < h.1 → ad' k = ad k) → h.1 ≤ h1.1 → (∀ w, v = some w → pm_sv h1.1 w) → pm_Wd D cy A0 ad' h1 H1 → va_S A0 s.heap H1 locs1 → W p l e (pm_rm (d + 1) bc bs) s m args below meth c H1 locs1 (cells + c1) (slots + s1) Q (F0 m (pc + 3) ls ((v.map (pm_rv ad')).toList ++ t.map (pm_rv ad)))) :
    W p l e (pm_rm (d + 1) bc bs) s m args below meth c H locs cells slots Q (F0 m pc ls ((As.reverse ++ t).map (pm_rv ad))) := by
  have X0 := X
  obtain ⟨hM, hx, hb, hml, hown, hts, hr, hlk, hnm, hex⟩ := X
  obtain ⟨hdg, hok⟩ := pm_at hM hI (fun z => by cases z)
  unfold pm_ok at hok
  rw [hI] at hok
  have hok2 := pm_all2 M hM pc
  unfold pm_ok2 at hok2
  rw [hI] at hok2
  have hna : nA = pm_na M' := by
    rcases Bool.or_eq_true_iff.mp hok2 with q | q
    · exact absurd hM' (Nat.not_lt.mpr (show pm_nM ≤ M' from of_decide_eq_true q))
    · exact of_decide_eq_true q
  obtain ⟨-, hL, -, hcls, hO⟩ := pm_all M' hM'
  have hst : (F0 m pc ls ((As.reverse ++ t).map (pm_rv ad))).stack = (As.map (pm_rv ad)).reverse ++ t.map (pm_rv ad) := by
    show (As.reverse ++ t).map (pm_rv ad) = _
    rw [List.map_append, List.map_reverse]
  rcases Bool.or_eq_true_iff.mp hok with q | q
  · have q1 : M' = 1001 := of_decide_eq_true (Bool.and_eq_true_iff.mp q).1
    rw [q1] at hM'
    exact absurd hM' (by decide)
  · rcases Bool.or_eq_true_iff.mp (Bool.and_eq_true_iff.mp q).2 with q | q
    · have hv := List.contains_iff_mem.mp q
      have hw : ∀ w ∈ pm_sw (pm_O M, i, M'), w.before args s = true := fun w hw => pm_of hts pf_s (List.mem_flatMap.mpr ⟨_, hv, hw⟩)
      exact pm_after0 (a := (As.map (pm_rv ad)).toArray) hW hS hA (va_runS (As := As.map (pm_rv ad)) (n := pm_na M') ⟨hx, hb, hml, hown, hts⟩ hm.ret ⟨pm_cb X0 hM' (hw _ (List.mem_of_getElem? (i := 0) rfl)) (hw _ (List.mem_of_getElem? (i := 2) rfl)), hw _ (List.mem_of_getElem? (i := 1) rfl)⟩ ⟨pm_blind, pm_give V Z hW hS hA⟩ rfl (by rw [List.length_map, hn, hna]) hlz hst (lv_room (by rw [pm_cat_map]; exact ht)) hdg ⟨hcc, hss⟩) kr
    · have hv := List.contains_iff_mem.mp q
      have hw : ∀ w ∈ pm_nsw (pm_O M, i, M'), w.before args s = true := fun w hw => pm_of hts pf_ns (List.mem_flatMap.mpr ⟨_, hv, hw⟩)
      have hnl : va_Nw (.methodLinkNest (pm_R (pm_O M)) i (pm_Y M') pm_host) s := V.1.2.1 _ (List.mem_append_right _ (List.mem_map.mpr ⟨_, List.mem_append_left _ hv, rfl⟩))
      refine pm_after0 (a := (As.map (pm_rv ad)).toArray) hW hS hA (va_runSN (As := As.map (pm_rv ad)) (n := pm_na M') (Ts := pm_gw) ⟨hx, hb, hml, hown, hts⟩ hm.ret ⟨va_cnB (pm_na M') hts (pm_gin hM') rfl rfl rfl hnl (by rw [hcls]; exact hw _ (List.mem_of_getElem? (i := 1) rfl)) (pm_na_at hM') ⟨Nat.le_refl _, ?_⟩, hw _ (List.mem_of_getElem? (i := 0) rfl), trivial⟩ ⟨pm_blind, pm_give V Z hW hS hA⟩ rfl (by rw [List.length_map, hn, hna]) hlz hst (lv_room (by rw [pm_cat_map]; exact ht)) hdg ⟨hcc, hss⟩) kr
      show 8 + (pm_L M' + 11) + 32 * d ≤ 32 * (d + 1)
      omega
theorem ps_callI (X : pm_Cx p s m args meth c M) (V : pm_Eq D cy s) (Z : pm_St A0 s s.heap) (hW : pm_Wd D cy A0 ad h H) (hS : va_S A0 s.heap H locs) (hA : ∀ q, s.heap.size ≤ q → A0 q) (hlz : ls.size = pm_L M) {i nA b : Nat} {kz : Int32} {As : List Value} {v1 : Option Value} (hI : pm_J M pc = (.invokespecial i, M', nA, kz)) (hM' : M' < pm_nM) (hn : As.length = nA) (ht : pm_cat t ≤ 8) (hcc : cells + c1 ≤ bc) (hss : slots + s1 ≤ bs) (hm : pm_Met l D cy d M' (.ref b :: As) h (.inl v1) h1 c1 s1 ad H.size)
    (hini : (pm_Y M').name = "<init>") (hrt : pm_T M' = none)
    (kr : ∀ (v : Option Value) (ad' : Nat → Nat) (H1 : Heap) (locs1 : List Loc), (.inl v1 : pm_V) = .inl v → (∀ k, k < h.1 → ad' k = ad k) → h.1 ≤ h1.1 → (∀ w, v = some w → pm_sv h1.1 w) → pm_Wd D cy A0 ad' h1 H1 → va_S A0 s.heap H1 locs1 → W p l e (pm_rm (d + 1) bc bs) s m args below meth c H1 locs1 (cells + c1) (slots + s1) Q (F0 m (pc + 3) ls ((v.map (pm_rv ad')).toList ++ t.map (pm_rv ad)))) :
    W p l e (pm_rm (d + 1) bc bs) s m args below meth c H locs cells slots Q (F0 m pc ls ((As.reverse ++ .ref b :: t).map (pm_rv ad))) := by
  have X0 := X
  obtain ⟨hM, hx, hb, hml, hown, hts, hr, hlk, hnm, hex⟩ := X
  obtain ⟨hdg, hok⟩ := pm_at hM hI (fun z => by cases z)
  unfold pm_ok at hok
  rw [hI] at hok
  have hok2 := pm_all2 M hM pc
  unfold pm_ok2 at hok2
  rw [hI] at hok2
  have hna : nA = pm_na M' := by
    rcases Bool.or_eq_true_iff.mp hok2 with q | q
    · exact absurd hM' (Nat.not_lt.mpr (show pm_nM ≤ M' from of_decide_eq_true q))
    · exact of_decide_eq_true q
  obtain ⟨-, hL, -, hcls, hO⟩ := pm_all M' hM'
  have hst : (F0 m pc ls ((As.reverse ++ Value.ref b :: t).map (pm_rv ad))).stack = (As.map (pm_rv ad)).reverse ++ Value.ref (ad b) :: t.map (pm_rv ad) := by
    show (As.reverse ++ Value.ref b :: t).map (pm_rv ad) = _
    rw [List.map_append, List.map_reverse]
    rfl
  rcases Bool.or_eq_true_iff.mp hok with q | q
  · exfalso
    rcases Bool.or_eq_true_iff.mp q with q | q
    · have q1 : M' = 1000 := of_decide_eq_true (Bool.and_eq_true_iff.mp q).1
      rw [q1] at hM'
      exact absurd hM' (by decide)
    · have q1 : 1001 < M' := of_decide_eq_true q
      exact absurd (Nat.lt_trans q1 hM') (by decide)
  · rcases Bool.or_eq_true_iff.mp (Bool.and_eq_true_iff.mp q).2 with q | q
    · have hv := List.contains_iff_mem.mp q
      have hw : ∀ w ∈ pm_iw (pm_O M, i, M'), w.before args s = true := fun w hw => pm_of hts pf_i (List.mem_flatMap.mpr ⟨_, hv, hw⟩)
      have hcb : CallB (pm_rm (d + 1) bc bs) s args (pm_R (pm_O M)) i (pm_Y M') (pm_B M') (pm_L M') none (pm_ws M') (pm_rm d c1 s1) c1 s1 (pm_na M') := by
        rw [← hrt]
        exact pm_cb X0 hM' (hw _ (List.mem_of_getElem? (i := 0) rfl)) (hw _ (List.mem_of_getElem? (i := 2) rfl))
      exact pm_after0 (a := (Value.ref (ad b) :: As.map (pm_rv ad)).toArray) hW hS hA (va_runI (As := As.map (pm_rv ad)) (b := ad b) (n := pm_na M') ⟨hx, hb, hml, hown, hts⟩ hm.ret ⟨hcb, hini, hw _ (List.mem_of_getElem? (i := 1) rfl)⟩ ⟨pm_blind, pm_give V Z hW hS hA⟩ rfl (by rw [List.length_map, hn, hna]) hlz hst (lv_room (by rw [pm_cat_map]; exact ht)) hdg ⟨hcc, hss⟩) kr
    · have hv := List.contains_iff_mem.mp q
      have hw : ∀ w ∈ pm_niw (pm_O M, i, M'), w.before args s = true := fun w hw => pm_of hts pf_ni (List.mem_flatMap.mpr ⟨_, hv, hw⟩)
      have hnl : va_Nw (.methodLinkNest (pm_R (pm_O M)) i (pm_Y M') pm_host) s := V.1.2.1 _ (List.mem_append_right _ (List.mem_map.mpr ⟨_, List.mem_append_right _ hv, rfl⟩))
      have hcn : va_CN (pm_rm (d + 1) bc bs) s args (pm_R (pm_O M)) i (pm_Y M') pm_host (pm_B M') (pm_L M') none (pm_ws M') (pm_rm d c1 s1) c1 s1 (pm_na M') := by
        rw [← hrt]
        refine va_cnB (pm_na M') hts (pm_gin hM') rfl rfl rfl hnl (by rw [hcls]; exact hw _ (List.mem_of_getElem? (i := 1) rfl)) (pm_na_at hM') ⟨Nat.le_refl _, ?_⟩
        show 8 + (pm_L M' + 11) + 32 * d ≤ 32 * (d + 1)
        omega
      exact pm_after0 (a := (Value.ref (ad b) :: As.map (pm_rv ad)).toArray) hW hS hA (va_runIN (As := As.map (pm_rv ad)) (b := ad b) (n := pm_na M') (Ts := pm_gw) ⟨hx, hb, hml, hown, hts⟩ hm.ret ⟨hcn, hini, hw _ (List.mem_of_getElem? (i := 0) rfl)⟩ ⟨pm_blind, pm_give V Z hW hS hA⟩ rfl (by rw [List.length_map, hn, hna]) hlz hst (lv_room (by rw [pm_cat_map]; exact ht)) hdg ⟨hcc, hss⟩) kr
end PSC
