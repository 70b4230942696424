/-! THE PURE MACHINE IS SOUND: fields and arrays -/
theorem pm_cl_at : ∀ k, k < pm_nC → vwCl[k]? = some (pm_R k, pm_F k, pm_N k) := by
  intro k hk
  have : k = 0 ∨ k = 1 ∨ k = 2 ∨ k = 3 ∨ k = 4 ∨ k = 5 ∨ k = 6 ∨ k = 7 ∨ k = 8 := by
    have : k < 9 := hk
    omega
  rcases this with rfl | rfl | rfl | rfl | rfl | rfl | rfl | rfl | rfl <;> rfl
theorem pm_ty_ok : ∀ k, k < pm_nC → ∀ j, j < pm_N k → parseFieldDescriptor (pm_F k j).2.2.1 = some (pm_G k j) := by
  intro k hk
  have : k = 0 ∨ k = 1 ∨ k = 2 ∨ k = 3 ∨ k = 4 ∨ k = 5 ∨ k = 6 ∨ k = 7 ∨ k = 8 := by
    have : k < 9 := hk
    omega
  rcases this with rfl | rfl | rfl | rfl | rfl | rfl | rfl | rfl | rfl
  · exact tyX0_ok
  · exact tyX1_ok
  · exact tyX2_ok
  · exact tyX3_ok
  · exact tyX4_ok
  · exact tyX5_ok
  · exact tyX6_ok
  · exact tyX7_ok
  · exact tyX8_ok
theorem pm_nm_ok : ∀ k, k < pm_nC → ∀ a, a < pm_N k → ∀ b, b < pm_N k → a ≠ b → (pm_F k a).2.1 ≠ (pm_F k b).2.1 := by
  intro k hk
  have : k = 0 ∨ k = 1 ∨ k = 2 ∨ k = 3 ∨ k = 4 ∨ k = 5 ∨ k = 6 ∨ k = 7 ∨ k = 8 := by
    have : k < 9 := hk
    omega
  rcases this with rfl | rfl | rfl | rfl | rfl | rfl | rfl | rfl | rfl
  · exact nmX0
  · exact nmX1
  · exact nmX2
  · exact nmX3
  · exact nmX4
  · exact nmX5
  · exact nmX6
  · exact nmX7
  · exact nmX8
theorem pm_u_in {k : Nat} (hk : k < pm_nC) : ∀ w ∈ u_ws (pm_R k) (pm_F k) (pm_N k), w ∈ pm_gw := fun w hw => pm_in_gw (pf_u w (List.mem_flatMap.mpr ⟨k, List.mem_range.mpr hk, hw⟩))
theorem pm_fl_ok : ∀ e ∈ pm_fl, e.2.2.1 < pm_nC ∧ e.2.2.2.1 < pm_N e.2.2.1 := by decide +kernel
theorem pm_fit_spec {ty : FieldType} {v : Value} (ad : Nat → Nat) (h : pm_fit ty v = true) : narrow ty (pm_rv ad v) = pm_rv ad v ∧ fits ty (pm_rv ad v) = true := by
  cases ty <;> cases v <;> first
    | exact ⟨rfl, rfl⟩
    | (rcases of_decide_eq_true h with rfl | rfl <;> exact ⟨rfl, rfl⟩)
    | cases h
/-- what stands fast while a method runs -/
def pm_Cx (p : Program) (s : State) (m : MethodId) (args : Array Value) (meth : Method) (c : Code) (M : Nat) : Prop :=
  M < pm_nM ∧ p.tables.exec = Jvm.exec ∧ c.code = pm_B M ∧ c.maxLocals = pm_L M ∧ s.vm.findClass (pm_R (pm_O M)) = some m.cls ∧ (∀ w ∈ pm_gw, w.before args s = true) ∧ meth.sig.returnType = pm_T M ∧ meth.locks = false ∧ meth.name = (pm_Y M).name ∧ (∀ x ∈ c.exceptionTable.toList, False)
/-- the types of the arrays that there are -/
def pm_tys (cy : Nat → ClassId) : List (ClassId × FieldType) := [(cy 0, .int), (cy 1, .long)] ++ pm_qa.map (fun q => (cy (2 + q), .object (pm_R q)))
/-- what holds of the tables beside the good words -/
def pm_Ev (D : va_G) (cy : Nat → ClassId) (s : State) : Prop := va_K D vwCl (pm_tys cy) s ∧ (∀ w ∈ pm_nw, va_Nw w s) ∧ (∀ q ∈ pm_qa, va_AO (pm_R q) s)
theorem pm_tys_0 (cy : Nat → ClassId) : (pm_tys cy)[0]? = some (cy 0, .int) := rfl
theorem pm_tys_1 (cy : Nat → ClassId) : (pm_tys cy)[1]? = some (cy 1, .long) := rfl
theorem pm_tys_q (cy : Nat → ClassId) {q : Nat} (hq : q ∈ pm_qa) : ∃ t0 : Nat, (pm_tys cy)[t0]? = some (cy (2 + q), .object (pm_R q)) := List.getElem?_of_mem (List.mem_append_right _ (List.mem_map.mpr ⟨q, hq, rfl⟩))
theorem pm_tys_c (cy : Nat → ClassId) {q : Nat} (hq : pm_tc q) : ∃ (t0 : Nat) (ty : FieldType), (pm_tys cy)[t0]? = some (cy q, ty) := by
  rcases hq with rfl | rfl | ⟨z, hz, rfl⟩
  · exact ⟨0, _, pm_tys_0 cy⟩
  · exact ⟨1, _, pm_tys_1 cy⟩
  · obtain ⟨t0, h⟩ := pm_tys_q cy hz
    exact ⟨t0, _, h⟩
section PSH
variable {p : Program} {l : Launch} {e : Env} {R : Room} {s : State} {m : MethodId} {args : Array Value} {below : List Frame} {meth : Method} {c : Code} {H : Heap} {locs : List Loc} {cells slots : Nat} {Q : State → Prop}
variable {D : va_G} {cy : Nat → ClassId} {A : Nat → Prop} {H0 : Heap} {M : Nat} {ad : Nat → Nat} {h : pm_H} {ls : Array Slot} {pc : Nat} {t : List Value}
theorem ps_getf (X : pm_Cx p s m args meth c M) (V : pm_Ev D cy s) (hW : pm_Wd D cy A ad h H) {i r1 r2 k : Nat} {kz : Int32} {fs : List Value} {v : Value} (hI : pm_J M pc = (.getfield i, r1, r2, kz)) (hk : k < h.1) (hc : h.2 k = .inr (r1, fs)) (hv : fs[r2]? = some v)
    (kk : W p l e R s m args below meth c H locs cells slots Q (F0 m (pc + 3) ls (pm_rv ad v :: t))) : W p l e R s m args below meth c H locs cells slots Q (F0 m pc ls (.ref (ad k) :: t)) := by
  obtain ⟨hM, hx, hb, hml, hown, hts, hr, hlk, hnm, hex⟩ := X
  obtain ⟨hdg, hok⟩ := pm_at hM hI (fun z => by cases z)
  unfold pm_ok at hok
  rw [hI] at hok
  have he : (pm_wl cy ad h)[k]? = some (ad k, .inr (r1, fs.map (pm_rv ad))) := by rw [pm_wl_at hk, hc]; rfl
  have hv2 : (fs.map (pm_rv ad))[r2]? = some (pm_rv ad v) := by rw [List.getElem?_map, hv]; rfl
  rcases Bool.or_eq_true_iff.mp hok with q | q
  · have q := List.contains_iff_mem.mp q
    obtain ⟨h1, h2⟩ := pm_fl_ok _ q
    exact va_get hx hb hts (pm_u_in h1) hown V.1 hW.2.1 k he (pm_cl_at r1 h1) r2 h2 (pm_of hts pf_f (List.mem_map.mpr ⟨_, List.mem_filter.mpr ⟨q, rfl⟩, rfl⟩)) (fun _ h9 => h9) hv2 hdg kk
  · have q := List.contains_iff_mem.mp q
    obtain ⟨h1, h2⟩ := pm_fl_ok _ q
    exact va_getN hx hb hts (pm_u_in h1) hown V.1 hW.2.1 k he (pm_cl_at r1 h1) r2 h2 (va_Nw.use rfl (V.2.1 _ (List.mem_append_left _ (List.mem_map.mpr ⟨_, List.mem_filter.mpr ⟨q, rfl⟩, rfl⟩)))) (fun _ h9 => h9) hv2 hdg kk
theorem ps_set {k : Nat} {e1 : va_E} {H1 : Heap} {we : Nat × va_E} (hW : pm_Wd D cy A ad h H) (hk : k < h.1) (he : pm_se h.1 e1) (hwe : we = (ad k, pm_rc cy ad e1)) (hP : va_P D vwCl ((pm_wl cy ad h).set k we) H1) (hD : va_D A ((pm_wl cy ad h).set k we)) : pm_Wd D cy A ad (h.1, va_up h.2 k e1) H1 := by
  subst hwe
  rw [pm_wl_set hk] at hP hD
  exact ⟨pm_sh_set hW.1 he, hP, hD⟩
theorem ps_putf (X : pm_Cx p s m args meth c M) (V : pm_Ev D cy s) (hW : pm_Wd D cy A ad h H) (hS : va_S A H0 H locs) {i r1 r2 k : Nat} {kz : Int32} {fs : List Value} {v : Value} (hI : pm_J M pc = (.putfield i, r1, r2, kz)) (hk : k < h.1) (hc : h.2 k = .inr (r1, fs)) (hlt : r2 < fs.length) (hf : pm_fit (pm_G r1 r2) v = true) (hv : pm_sv h.1 v)
    (kk : ∀ (H1 : Heap) (locs1 : List Loc), pm_Wd D cy A ad (h.1, va_up h.2 k (.inr (r1, fs.set r2 v))) H1 → va_S A H0 H1 locs1 → W p l e R s m args below meth c H1 locs1 cells slots Q (F0 m (pc + 3) ls t)) : W p l e R s m args below meth c H locs cells slots Q (F0 m pc ls (pm_rv ad v :: .ref (ad k) :: t)) := by
  obtain ⟨hM, hx, hb, hml, hown, hts, hr, hlk, hnm, hex⟩ := X
  obtain ⟨hdg, hok⟩ := pm_at hM hI (fun z => by cases z)
  unfold pm_ok at hok
  rw [hI] at hok
  have he : (pm_wl cy ad h)[k]? = some (ad k, .inr (r1, fs.map (pm_rv ad))) := by rw [pm_wl_at hk, hc]; rfl
  have hlen : r2 < (fs.map (pm_rv ad)).length := by rw [List.length_map]; exact hlt
  have hse : pm_se h.1 (.inr (r1, fs.set r2 v)) := by
    have h0 : pm_se h.1 (.inr (r1, fs)) := by rw [← hc]; exact hW.1 k hk
    intro w hw
    rcases List.mem_or_eq_of_mem_set hw with z | z
    · exact h0 w z
    · rw [z]; exact hv
  have hwe : (ad k, (.inr (r1, (fs.map (pm_rv ad)).set r2 (pm_rv ad v)) : va_E)) = (ad k, pm_rc cy ad (.inr (r1, fs.set r2 v))) := by
    show _ = (ad k, (.inr (r1, (fs.set r2 v).map (pm_rv ad)) : va_E))
    rw [List.map_set]
  obtain ⟨hn, hft⟩ := pm_fit_spec ad hf
  have hfin : ∀ (H1 : Heap) (locs1 : List Loc), va_P D vwCl ((pm_wl cy ad h).set k (ad k, .inr (r1, (fs.map (pm_rv ad)).set r2 (pm_rv ad v)))) H1 → va_D A ((pm_wl cy ad h).set k (ad k, .inr (r1, (fs.map (pm_rv ad)).set r2 (pm_rv ad v)))) → va_S A H0 H1 locs1 → W p l e R s m args below meth c H1 locs1 cells slots Q (F0 m (pc + 3) ls t) := fun H1 locs1 hP hD hS1 => kk H1 locs1 (ps_set hW hk hse hwe hP hD) hS1
  rcases Bool.or_eq_true_iff.mp hok with q | q
  · obtain ⟨q, q2⟩ := Bool.and_eq_true_iff.mp q
    have q := List.contains_iff_mem.mp q
    obtain ⟨h1, h2⟩ := pm_fl_ok _ q
    have hln := pm_of hts pf_f (List.mem_map.mpr ⟨_, List.mem_filter.mpr ⟨q, rfl⟩, rfl⟩)
    rcases Bool.or_eq_true_iff.mp q2 with z | z
    · exact va_put hx hb hts (pm_u_in h1) (pm_G r1) (pm_ty_ok r1 h1) (pm_nm_ok r1 h1) hown V.1 hW.2.1 hW.2.2 hS k he (pm_cl_at r1 h1) r2 h2 hln (fun _ h9 => h9) (by simpa using z) (pm_ty_ok r1 h1 r2 h2) hn hft hlen hdg hfin
    · by_cases hfl : (pm_F r1 r2).2.2.2 = true
      · obtain ⟨z1, z2⟩ := Bool.and_eq_true_iff.mp z
        exact va_putF hx hb hts (pm_u_in h1) (pm_G r1) (pm_ty_ok r1 h1) (pm_nm_ok r1 h1) hown V.1 hW.2.1 hW.2.2 hS k he (pm_cl_at r1 h1) r2 h2 hln (fun _ h9 => h9) hfl (hnm.trans (of_decide_eq_true z1)) (of_decide_eq_true z2) (pm_ty_ok r1 h1 r2 h2) hn hft hlen hdg hfin
      · exact va_put hx hb hts (pm_u_in h1) (pm_G r1) (pm_ty_ok r1 h1) (pm_nm_ok r1 h1) hown V.1 hW.2.1 hW.2.2 hS k he (pm_cl_at r1 h1) r2 h2 hln (fun _ h9 => h9) (by simpa using hfl) (pm_ty_ok r1 h1 r2 h2) hn hft hlen hdg hfin
  · obtain ⟨q, q2⟩ := Bool.and_eq_true_iff.mp q
    have q := List.contains_iff_mem.mp q
    obtain ⟨h1, h2⟩ := pm_fl_ok _ q
    exact va_putN hx hb hts (pm_u_in h1) (pm_G r1) (pm_ty_ok r1 h1) (pm_nm_ok r1 h1) hown V.1 hW.2.1 hW.2.2 hS k he (pm_cl_at r1 h1) r2 h2 (va_Nw.use rfl (V.2.1 _ (List.mem_append_left _ (List.mem_map.mpr ⟨_, List.mem_filter.mpr ⟨q, rfl⟩, rfl⟩)))) (fun _ h9 => h9) (by simpa using q2) (pm_ty_ok r1 h1 r2 h2) hn hft hlen hdg hfin
theorem ps_iald (X : pm_Cx p s m args meth c M) (V : pm_Ev D cy s) (hW : pm_Wd D cy A ad h H) {k j N : Nat} {i : Int32} {g : Nat → Int32} {a b : Nat} {kz : Int32} (hI : pm_J M pc = (.iaload, a, b, kz)) (hk : k < h.1) (hc : h.2 k = .inl (0, N, .inl g)) (hj : i.toInt = (j : Int)) (hN : j < N)
    (kk : W p l e R s m args below meth c H locs cells slots Q (F0 m (pc + 1) ls (.int (g j) :: t))) : W p l e R s m args below meth c H locs cells slots Q (F0 m pc ls (.int i :: .ref (ad k) :: t)) := by
  obtain ⟨hM, hx, hb, -⟩ := X
  obtain ⟨hdg, -⟩ := pm_at hM hI (fun z => by cases z)
  obtain ⟨h1, h2⟩ := pm_jint hj hN
  have he : (pm_wl cy ad h)[k]? = some (ad k, .inl (cy 0, N, .inl g)) := by rw [pm_wl_at hk, hc]; rfl
  refine va_iald hx hb V.1 hW.2.1 k 0 he (pm_tys_0 cy) h1 hdg ?_
  rw [h2]
  exact kk
theorem ps_iast (X : pm_Cx p s m args meth c M) (V : pm_Ev D cy s) (hW : pm_Wd D cy A ad h H) (hS : va_S A H0 H locs) {k j N : Nat} {i x : Int32} {g : Nat → Int32} {a b : Nat} {kz : Int32} (hI : pm_J M pc = (.iastore, a, b, kz)) (hk : k < h.1) (hc : h.2 k = .inl (0, N, .inl g)) (hj : i.toInt = (j : Int)) (hN : j < N)
    (kk : ∀ (H1 : Heap) (locs1 : List Loc), pm_Wd D cy A ad (h.1, va_up h.2 k (.inl (0, N, .inl (upd g j x)))) H1 → va_S A H0 H1 locs1 → W p l e R s m args below meth c H1 locs1 cells slots Q (F0 m (pc + 1) ls t)) : W p l e R s m args below meth c H locs cells slots Q (F0 m pc ls (.int x :: .int i :: .ref (ad k) :: t)) := by
  obtain ⟨hM, hx, hb, -⟩ := X
  obtain ⟨hdg, -⟩ := pm_at hM hI (fun z => by cases z)
  obtain ⟨h1, h2⟩ := pm_jint hj hN
  have he : (pm_wl cy ad h)[k]? = some (ad k, .inl (cy 0, N, .inl g)) := by rw [pm_wl_at hk, hc]; rfl
  refine va_iast hx hb V.1 hW.2.1 hW.2.2 hS k 0 he (pm_tys_0 cy) h1 hdg (fun H1 locs1 hP hD hS1 => ?_)
  rw [h2] at hP hD
  exact kk H1 locs1 (ps_set hW hk trivial rfl hP hD) hS1
theorem ps_lald (X : pm_Cx p s m args meth c M) (V : pm_Ev D cy s) (hW : pm_Wd D cy A ad h H) {k j N : Nat} {i : Int32} {g : Nat → Int64} {a b : Nat} {kz : Int32} (hI : pm_J M pc = (.laload, a, b, kz)) (hk : k < h.1) (hc : h.2 k = .inl (1, N, .inr (.inl g))) (hj : i.toInt = (j : Int)) (hN : j < N)
    (kk : W p l e R s m args below meth c H locs cells slots Q (F0 m (pc + 1) ls (.long (g j) :: t))) : W p l e R s m args below meth c H locs cells slots Q (F0 m pc ls (.int i :: .ref (ad k) :: t)) := by
  obtain ⟨hM, hx, hb, -⟩ := X
  obtain ⟨hdg, -⟩ := pm_at hM hI (fun z => by cases z)
  obtain ⟨h1, h2⟩ := pm_jint hj hN
  have he : (pm_wl cy ad h)[k]? = some (ad k, .inl (cy 1, N, .inr (.inl g))) := by rw [pm_wl_at hk, hc]; rfl
  refine va_lald hx hb V.1 hW.2.1 k 1 he (pm_tys_1 cy) h1 hdg ?_
  rw [h2]
  exact kk
theorem ps_last (X : pm_Cx p s m args meth c M) (V : pm_Ev D cy s) (hW : pm_Wd D cy A ad h H) (hS : va_S A H0 H locs) {k j N : Nat} {i : Int32} {x : Int64} {g : Nat → Int64} {a b : Nat} {kz : Int32} (hI : pm_J M pc = (.lastore, a, b, kz)) (hk : k < h.1) (hc : h.2 k = .inl (1, N, .inr (.inl g))) (hj : i.toInt = (j : Int)) (hN : j < N)
    (kk : ∀ (H1 : Heap) (locs1 : List Loc), pm_Wd D cy A ad (h.1, va_up h.2 k (.inl (1, N, .inr (.inl (vp_updL g j x))))) H1 → va_S A H0 H1 locs1 → W p l e R s m args below meth c H1 locs1 cells slots Q (F0 m (pc + 1) ls t)) : W p l e R s m args below meth c H locs cells slots Q (F0 m pc ls (.long x :: .int i :: .ref (ad k) :: t)) := by
  obtain ⟨hM, hx, hb, -⟩ := X
  obtain ⟨hdg, -⟩ := pm_at hM hI (fun z => by cases z)
  obtain ⟨h1, h2⟩ := pm_jint hj hN
  have he : (pm_wl cy ad h)[k]? = some (ad k, .inl (cy 1, N, .inr (.inl g))) := by rw [pm_wl_at hk, hc]; rfl
  refine va_last hx hb V.1 hW.2.1 hW.2.2 hS k 1 he (pm_tys_1 cy) h1 hdg (fun H1 locs1 hP hD hS1 => ?_)
  rw [h2] at hP hD
  exact kk H1 locs1 (ps_set hW hk trivial rfl hP hD) hS1
theorem pm_rv_rf (ad : Nat → Nat) (x : Option Nat) : va_rf (x.map ad) = pm_rv ad (va_rf x) := by cases x <;> rfl
theorem ps_aald (X : pm_Cx p s m args meth c M) (V : pm_Ev D cy s) (hW : pm_Wd D cy A ad h H) {k j N q : Nat} {i : Int32} {g : Nat → Option Nat} {a b : Nat} {kz : Int32} (hI : pm_J M pc = (.aaload, a, b, kz)) (hk : k < h.1) (hc : h.2 k = .inl (2 + q, N, .inr (.inr (.inr (.inr g))))) (hq : q ∈ pm_qa) (hj : i.toInt = (j : Int)) (hN : j < N)
    (kk : W p l e R s m args below meth c H locs cells slots Q (F0 m (pc + 1) ls (pm_rv ad (va_rf (g j)) :: t))) : W p l e R s m args below meth c H locs cells slots Q (F0 m pc ls (.int i :: .ref (ad k) :: t)) := by
  obtain ⟨hM, hx, hb, -⟩ := X
  obtain ⟨hdg, -⟩ := pm_at hM hI (fun z => by cases z)
  obtain ⟨h1, h2⟩ := pm_jint hj hN
  obtain ⟨t0, ht0⟩ := pm_tys_q cy hq
  have he : (pm_wl cy ad h)[k]? = some (ad k, .inl (cy (2 + q), N, .inr (.inr (.inr (.inr (fun j => (g j).map ad)))))) := by rw [pm_wl_at hk, hc]; rfl
  refine va_aldq hx hb V.1 hW.2.1 k t0 he ht0 h1 hdg ?_
  rw [h2, pm_rv_rf]
  exact kk
theorem ps_aast (X : pm_Cx p s m args meth c M) (V : pm_Ev D cy s) (hW : pm_Wd D cy A ad h H) (hS : va_S A H0 H locs) {k j N q y : Nat} {i : Int32} {fs : List Value} {g : Nat → Option Nat} {a b : Nat} {kz : Int32} (hI : pm_J M pc = (.aastore, a, b, kz)) (hk : k < h.1) (hy : y < h.1) (hc : h.2 k = .inl (2 + q, N, .inr (.inr (.inr (.inr g))))) (hcy : h.2 y = .inr (q, fs)) (hq : q ∈ pm_qa) (hqn : q < pm_nC) (hj : i.toInt = (j : Int)) (hN : j < N)
    (kk : ∀ (H1 : Heap) (locs1 : List Loc), pm_Wd D cy A ad (h.1, va_up h.2 k (.inl (2 + q, N, .inr (.inr (.inr (.inr (va_up g j (some y)))))))) H1 → va_S A H0 H1 locs1 → W p l e R s m args below meth c H1 locs1 cells slots Q (F0 m (pc + 1) ls t)) : W p l e R s m args below meth c H locs cells slots Q (F0 m pc ls (.ref (ad y) :: .int i :: .ref (ad k) :: t)) := by
  obtain ⟨hM, hx, hb, -⟩ := X
  obtain ⟨hdg, -⟩ := pm_at hM hI (fun z => by cases z)
  obtain ⟨h1, h2⟩ := pm_jint hj hN
  obtain ⟨t0, ht0⟩ := pm_tys_q cy hq
  have he : (pm_wl cy ad h)[k]? = some (ad k, .inl (cy (2 + q), N, .inr (.inr (.inr (.inr (fun j => (g j).map ad)))))) := by rw [pm_wl_at hk, hc]; rfl
  have he2 : (pm_wl cy ad h)[y]? = some (ad y, .inr (q, fs.map (pm_rv ad))) := by rw [pm_wl_at hy, hcy]; rfl
  refine va_astq hx hb V.1 hW.2.1 hW.2.2 hS k t0 y q (r := (pm_R q, pm_F q, pm_N q)) he ht0 he2 (pm_cl_at q hqn) h1 hdg (fun H1 locs1 hP hD hS1 => ?_)
  rw [h2] at hP hD
  have hse : pm_se h.1 (.inl (2 + q, N, .inr (.inr (.inr (.inr (va_up g j (some y))))))) := by
    have h0 : pm_se h.1 (.inl (2 + q, N, .inr (.inr (.inr (.inr g))))) := by rw [← hc]; exact hW.1 k hk
    intro a b hab
    by_cases hz : a = j
    · subst hz
      rw [va_up_self] at hab
      cases hab
      exact hy
    · rw [va_up_ne _ _ hz] at hab
      exact h0 a b hab
  have hg : va_up (fun j => (g j).map ad) j (some (ad y)) = fun z => (va_up g j (some y) z).map ad := by
    funext z
    by_cases hz : z = j
    · subst hz; simp [va_up]
    · simp [va_up, hz]
  refine kk H1 locs1 (ps_set (e1 := .inl (2 + q, N, .inr (.inr (.inr (.inr (va_up g j (some y))))))) hW hk hse ?_ hP hD) hS1
  rw [hg]
  rfl
theorem ps_alen (X : pm_Cx p s m args meth c M) (V : pm_Ev D cy s) (hW : pm_Wd D cy A ad h H) {k q N : Nat} {x : (Nat → Int32) ⊕ (Nat → Int64) ⊕ (Nat → UInt32) ⊕ (Nat → UInt64) ⊕ (Nat → Option Nat)} {a b : Nat} {kz : Int32} (hI : pm_J M pc = (.arraylength, a, b, kz)) (hk : k < h.1) (hc : h.2 k = .inl (q, N, x)) (hq : pm_tc q)
    (kk : W p l e R s m args below meth c H locs cells slots Q (F0 m (pc + 1) ls (.int (nI N) :: t))) : W p l e R s m args below meth c H locs cells slots Q (F0 m pc ls (.ref (ad k) :: t)) := by
  obtain ⟨hM, hx, hb, -⟩ := X
  obtain ⟨hdg, -⟩ := pm_at hM hI (fun z => by cases z)
  obtain ⟨t0, ty, ht0⟩ := pm_tys_c cy hq
  have he : ∃ x' : vp_A, x'.1 = N ∧ (pm_wl cy ad h)[k]? = some (ad k, .inl (cy q, x')) := by
    rw [pm_wl_at hk, hc]
    rcases x with x | x | x | x | x
    · exact ⟨(N, .inl x), rfl, rfl⟩
    · exact ⟨(N, .inr (.inl x)), rfl, rfl⟩
    · exact ⟨(N, .inr (.inr (.inl x))), rfl, rfl⟩
    · exact ⟨(N, .inr (.inr (.inr (.inl x)))), rfl, rfl⟩
    · exact ⟨(N, .inr (.inr (.inr (.inr (fun j => (x j).map ad))))), rfl, rfl⟩
  obtain ⟨x', hx', he⟩ := he
  exact va_alen hx hb V.1 hW.2.1 k t0 he ht0 (v := nI N) (by rw [hx']; rfl) hdg kk
end PSH
