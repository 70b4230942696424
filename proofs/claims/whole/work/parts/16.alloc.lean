/-! THE PURE MACHINE IS SOUND: new cells, arraycopy, branches, Object's constructor -/
theorem pm_df_ok : ∀ k, k < pm_nC → ∀ j, j < pm_N k → defaultValue (pm_G k j) = pm_df (pm_G k j) := by decide +kernel
theorem pm_df_rv (ad : Nat → Nat) (ty : FieldType) : pm_rv ad (pm_df ty) = pm_df ty := by cases ty <;> rfl
theorem pm_df_sv (n : Nat) (ty : FieldType) : pm_sv n (pm_df ty) := by cases ty <;> trivial
theorem pm_ql_ok : ∀ e ∈ pm_ql, e.2.2 ∈ pm_qa := by decide +kernel
theorem pm_cl_ok : ∀ e ∈ pm_cl, e.2.2 < pm_nC := by decide +kernel
theorem pm_cy_int {D : va_G} {cl : List vw_C} {tys : List (ClassId × FieldType)} {s : State} {c1 c2 : ClassId} {ty : FieldType} (hK : va_K D cl tys s) {i j : Nat} (h1 : tys[i]? = some (c1, ty)) (h2 : tys[j]? = some (c2, ty)) : c1 = c2 := by
  have k1 := (hK.2 i _ h1).2
  have k2 := (hK.2 j _ h2).2
  cases ty with
  | object C =>
    obtain ⟨_, _, _, _, _, z1⟩ := k1
    obtain ⟨_, _, _, _, _, z2⟩ := k2
    exact Option.some.inj (z1.symm.trans z2)
  | _ => exact Option.some.inj (k1.symm.trans k2)
section PSA
variable {p : Program} {l : Launch} {e : Env} {R : Room} {s : State} {m : MethodId} {args : Array Value} {below : List Frame} {meth : Method} {c : Code} {H : Heap} {locs : List Loc} {cells slots : Nat} {Q : State → Prop}
variable {D : va_G} {cy : Nat → ClassId} {A : Nat → Prop} {H0 : Heap} {M : Nat} {ad : Nat → Nat} {h : pm_H} {ls : Array Slot} {pc : Nat} {t : List Value}
theorem ps_push {q : Nat} {e1 : va_E} {H1 : Heap} {we : Nat × va_E} (hW : pm_Wd D cy A ad h H) (he : pm_se h.1 e1) (hwe : we = (q, pm_rc cy ad e1)) (hP : va_P D vwCl (pm_wl cy ad h ++ [we]) H1) (hD : va_D A (pm_wl cy ad h ++ [we])) : pm_Wd D cy A (va_up ad h.1 q) (h.1 + 1, va_up h.2 h.1 e1) H1 := by
  subst hwe
  rw [pm_wl_push hW.1 q he] at hP hD
  exact ⟨pm_sh_push hW.1 he, hP, hD⟩
theorem ps_new (X : pm_Cx p s m args meth c M) (V : pm_Ev D cy s) (hW : pm_Wd D cy A ad h H) (hS : va_S A H0 H locs) (hA : ∀ q, H0.size ≤ q → A q) {i r1 r2 : Nat} {kz : Int32} (hI : pm_J M pc = (.new i, r1, r2, kz)) (hr1 : r1 < pm_nC) (hcc : cells + 1 ≤ R.cells) (hss : slots + r2 ≤ R.slots)
    (kk : ∀ (ad' : Nat → Nat) (H1 : Heap), (∀ k, k < h.1 → ad' k = ad k) → pm_Wd D cy A ad' (h.1 + 1, va_up h.2 h.1 (.inr (r1, (List.range r2).map (fun k => pm_df (pm_G r1 k))))) H1 → va_S A H0 H1 locs → W p l e R s m args below meth c H1 locs (cells + 1) (slots + r2) Q (F0 m (pc + 3) ls (.ref (ad' h.1) :: t))) : W p l e R s m args below meth c H locs cells slots Q (F0 m pc ls t) := by
  obtain ⟨hM, hx, hb, hml, hown, hts, hr, hlk, hnm, hex⟩ := X
  obtain ⟨hdg, hok⟩ := pm_at hM hI (fun z => by cases z)
  unfold pm_ok at hok
  rw [hI] at hok
  have hnb : ¬ 100 ≤ r1 := fun z => absurd (Nat.lt_of_le_of_lt z hr1) (by decide)
  rcases Bool.or_eq_true_iff.mp hok with q | q
  · obtain ⟨q, -⟩ := Bool.and_eq_true_iff.mp q
    obtain ⟨q, q2⟩ := Bool.and_eq_true_iff.mp q
    have q := List.contains_iff_mem.mp q
    have hr2 : r2 = pm_N r1 := of_decide_eq_true q2
    have hw : ∀ w ∈ pm_cnw (pm_O M, i, r1), w.before args s = true := fun w hw => pm_of hts pf_c (List.mem_flatMap.mpr ⟨_, q, hw⟩)
    have hse : pm_se h.1 (.inr (r1, (List.range r2).map (fun k => pm_df (pm_G r1 k)))) := by
      intro v hv
      obtain ⟨k, -, rfl⟩ := List.mem_map.mp hv
      exact pm_df_sv _ _
    have hmp : ((List.range r2).map (fun k => pm_df (pm_G r1 k))).map (pm_rv ad) = (List.range r2).map (fun k => pm_df (pm_G r1 k)) := by
      rw [List.map_map]
      exact List.map_congr_left fun k _ => pm_df_rv ad _
    refine va_new hx hb hts (pm_u_in hr1) (pm_G r1) (pm_ty_ok r1 hr1) hown (hw _ (List.mem_of_getElem? (i := 0) rfl)) (hw _ (List.mem_of_getElem? (i := 1) rfl)) (hw _ (List.mem_of_getElem? (i := 2) rfl)) V.1 hW.2.1 hW.2.2 hS hA (pm_cl_at r1 hr1) (fs := (List.range r2).map (fun k => pm_df (pm_G r1 k))) ?_ hcc (by rw [← hr2]; exact hss) hdg (fun q H1 hP hD hS1 => ?_)
    · intro j hj
      rw [pm_df_ok r1 hr1 j hj]
      unfold vp_V
      rw [List.getD_eq_getElem?_getD, List.getElem?_map, List.getElem?_range (by rw [hr2]; exact hj)]
      rfl
    · have hx2 : ∀ k, k < h.1 → va_up ad h.1 q k = ad k := fun k hk => va_up_ne ad q (Nat.ne_of_lt hk)
      have hz := kk (va_up ad h.1 q) H1 hx2 (ps_push hW hse (by show _ = (q, (.inr (r1, _) : va_E)); rw [hmp]) hP hD) hS1
      rw [va_up_self] at hz
      rw [← hr2]
      exact hz
  · split at q
    · obtain ⟨q, -⟩ := Bool.and_eq_true_iff.mp q
      exact absurd (of_decide_eq_true q) hnb
    · cases q
theorem ps_newa (X : pm_Cx p s m args meth c M) (V : pm_Ev D cy s) (hW : pm_Wd D cy A ad h H) (hS : va_S A H0 H locs) (hA : ∀ q, H0.size ≤ q → A q) {a b N : Nat} {i kz : Int32} (hI : pm_J M pc = (.newarray .int, a, b, kz)) (hi : i.toInt = (N : Int)) (hN : N < 100000) (hcc : cells + 1 ≤ R.cells) (hss : slots + N ≤ R.slots)
    (kk : ∀ (ad' : Nat → Nat) (H1 : Heap), (∀ k, k < h.1 → ad' k = ad k) → pm_Wd D cy A ad' (h.1 + 1, va_up h.2 h.1 (.inl (0, N, .inl (fun _ => 0)))) H1 → va_S A H0 H1 locs → W p l e R s m args below meth c H1 locs (cells + 1) (slots + N) Q (F0 m (pc + 2) ls (.ref (ad' h.1) :: t))) : W p l e R s m args below meth c H locs cells slots Q (F0 m pc ls (.int i :: t)) := by
  obtain ⟨hM, hx, hb, hml, hown, hts, hr, hlk, hnm, hex⟩ := X
  obtain ⟨hdg, -⟩ := pm_at hM hI (fun z => by cases z)
  obtain ⟨h1, h2⟩ := pm_jint (N := 100000) hi hN
  refine va_newa hx hb (pm_of hts pf_ar List.mem_cons_self) (ty := .int) rfl V.1 hW.2.1 hW.2.2 hS hA (a0 := (N, .inl (fun _ => 0))) (fun _ => rfl) (fun z => h1 (Or.inl z)) h2 (by show N * 4 ≤ _; omega) hcc hss hdg (fun q cA H1 hK hP hD hS1 => ?_)
  have hca : cy 0 = cA := pm_cy_int hK (i := 0) (by rfl) (j := (pm_tys cy).length) (by rw [List.getElem?_append_right (Nat.le_refl _), Nat.sub_self]; rfl)
  subst hca
  have hx2 : ∀ k, k < h.1 → va_up ad h.1 q k = ad k := fun k hk => va_up_ne ad q (Nat.ne_of_lt hk)
  have hz := kk (va_up ad h.1 q) H1 hx2 (ps_push hW trivial rfl hP hD) hS1
  rw [va_up_self] at hz
  exact hz
theorem ps_newl (X : pm_Cx p s m args meth c M) (V : pm_Ev D cy s) (hW : pm_Wd D cy A ad h H) (hS : va_S A H0 H locs) (hA : ∀ q, H0.size ≤ q → A q) {a b N : Nat} {i kz : Int32} (hI : pm_J M pc = (.newarray .long, a, b, kz)) (hi : i.toInt = (N : Int)) (hN : N < 100000) (hcc : cells + 1 ≤ R.cells) (hss : slots + N ≤ R.slots)
    (kk : ∀ (ad' : Nat → Nat) (H1 : Heap), (∀ k, k < h.1 → ad' k = ad k) → pm_Wd D cy A ad' (h.1 + 1, va_up h.2 h.1 (.inl (1, N, .inr (.inl (fun _ => 0))))) H1 → va_S A H0 H1 locs → W p l e R s m args below meth c H1 locs (cells + 1) (slots + N) Q (F0 m (pc + 2) ls (.ref (ad' h.1) :: t))) : W p l e R s m args below meth c H locs cells slots Q (F0 m pc ls (.int i :: t)) := by
  obtain ⟨hM, hx, hb, hml, hown, hts, hr, hlk, hnm, hex⟩ := X
  obtain ⟨hdg, -⟩ := pm_at hM hI (fun z => by cases z)
  obtain ⟨h1, h2⟩ := pm_jint (N := 100000) hi hN
  refine va_newa hx hb (pm_of hts pf_ar (List.mem_cons_of_mem _ List.mem_cons_self)) (ty := .long) rfl V.1 hW.2.1 hW.2.2 hS hA (a0 := (N, .inr (.inl (fun _ => 0)))) (fun _ => rfl) (fun z => h1 (Or.inl z)) h2 (by show N * 8 ≤ _; omega) hcc hss hdg (fun q cA H1 hK hP hD hS1 => ?_)
  have hca : cy 1 = cA := pm_cy_int hK (i := 1) (by rfl) (j := (pm_tys cy).length) (by rw [List.getElem?_append_right (Nat.le_refl _), Nat.sub_self]; rfl)
  subst hca
  have hx2 : ∀ k, k < h.1 → va_up ad h.1 q k = ad k := fun k hk => va_up_ne ad q (Nat.ne_of_lt hk)
  have hz := kk (va_up ad h.1 q) H1 hx2 (ps_push hW trivial rfl hP hD) hS1
  rw [va_up_self] at hz
  exact hz
theorem ps_newq (X : pm_Cx p s m args meth c M) (V : pm_Ev D cy s) (hW : pm_Wd D cy A ad h H) (hS : va_S A H0 H locs) (hA : ∀ q, H0.size ≤ q → A q) {i0 r1 b N : Nat} {i kz : Int32} (hI : pm_J M pc = (.anewarray i0, r1, b, kz)) (hi : i.toInt = (N : Int)) (hN : N < 100000) (hcc : cells + 1 ≤ R.cells) (hss : slots + N ≤ R.slots)
    (kk : ∀ (ad' : Nat → Nat) (H1 : Heap), (∀ k, k < h.1 → ad' k = ad k) → pm_Wd D cy A ad' (h.1 + 1, va_up h.2 h.1 (.inl (2 + r1, N, .inr (.inr (.inr (.inr (fun _ => none))))))) H1 → va_S A H0 H1 locs → W p l e R s m args below meth c H1 locs (cells + 1) (slots + N) Q (F0 m (pc + 3) ls (.ref (ad' h.1) :: t))) : W p l e R s m args below meth c H locs cells slots Q (F0 m pc ls (.int i :: t)) := by
  obtain ⟨hM, hx, hb, hml, hown, hts, hr, hlk, hnm, hex⟩ := X
  obtain ⟨hdg, hok⟩ := pm_at hM hI (fun z => by cases z)
  unfold pm_ok at hok
  rw [hI] at hok
  obtain ⟨q1, q2⟩ := Bool.and_eq_true_iff.mp hok
  have q1 := List.contains_iff_mem.mp q1
  have q2 : r1 ∈ pm_qa := List.contains_iff_mem.mp q2
  obtain ⟨h1, h2⟩ := pm_jint (N := 100000) hi hN
  obtain ⟨t0, ht0⟩ := pm_tys_q cy q2
  refine va_newq hx hb hown (pm_of hts pf_q (List.mem_map.mpr ⟨_, q1, rfl⟩)) (V.2.2 r1 q2) V.1 hW.2.1 hW.2.2 hS hA (fun z => h1 (Or.inl z)) h2 (by omega) hcc hss hdg (fun q cA H1 hK hP hD hS1 => ?_)
  have hca : cy (2 + r1) = cA := pm_cy_int hK (i := t0) (by rw [List.getElem?_append_left (List.getElem?_eq_some_iff.mp ht0).1]; exact ht0) (j := (pm_tys cy).length) (by rw [List.getElem?_append_right (Nat.le_refl _), Nat.sub_self]; rfl)
  subst hca
  have hx2 : ∀ k, k < h.1 → va_up ad h.1 q k = ad k := fun k hk => va_up_ne ad q (Nat.ne_of_lt hk)
  have hz := kk (va_up ad h.1 q) H1 hx2 (ps_push (e1 := .inl (2 + r1, N, .inr (.inr (.inr (.inr (fun _ => none)))))) hW (fun _ _ z => by cases z) rfl hP hD) hS1
  rw [va_up_self] at hz
  exact hz
theorem ps_copy (X : pm_Cx p s m args meth c M) (V : pm_Ev D cy s) (hW : pm_Wd D cy A ad h H) (hS : va_S A H0 H locs) (hlz : ls.size = pm_L M) {i0 b k0 k1 n0 n1 ln sj dj : Nat} {x y z kz : Int32} {f g : Nat → Int32} (hI : pm_J M pc = (.invokestatic i0, 1001, b, kz)) (hk0 : k0 < h.1) (hk1 : k1 < h.1) (hc0 : h.2 k0 = .inl (0, n0, .inl f)) (hc1 : h.2 k1 = .inl (0, n1, .inl g)) (hsx : x.toInt = (sj : Int)) (hdx : y.toInt = (dj : Int)) (hlx : z.toInt = (ln : Int)) (h4 : sj + ln ≤ n0) (h5 : dj + ln ≤ n1) (hfr : 1 ≤ R.frames) (hlo : (t.map fun v => v.category).sum + (nativeFrameWords "java/lang/System" "arraycopy" 5 + 11) ≤ R.locals)
    (kk : ∀ (H1 : Heap) (locs1 : List Loc), pm_Wd D cy A ad (h.1, va_up h.2 k1 (.inl (0, n1, .inl (va_cpy f g sj dj ln)))) H1 → va_S A H0 H1 locs1 → W p l e R s m args below meth c H1 locs1 cells slots Q (F0 m (pc + 3) ls t)) : W p l e R s m args below meth c H locs cells slots Q (F0 m pc ls (.int z :: .int y :: .ref (ad k1) :: .int x :: .ref (ad k0) :: t)) := by
  obtain ⟨hM, hx, hb, hml, hown, hts, hr, hlk, hnm, hex⟩ := X
  obtain ⟨hdg, hok⟩ := pm_at hM hI (fun z => by cases z)
  unfold pm_ok at hok
  rw [hI] at hok
  have hal : (pm_O M, i0) ∈ pm_al := by
    rcases Bool.or_eq_true_iff.mp hok with q | q
    · exact List.contains_iff_mem.mp (Bool.and_eq_true_iff.mp q).2
    · exact absurd (show 1001 < pm_nM from of_decide_eq_true (Bool.and_eq_true_iff.mp q).1) (by decide)
  have nn : ∀ {v : Int32} {j : Nat}, v.toInt = (j : Int) → ¬ v < 0 ∧ v.toNatClampNeg = j := by
    intro v j hv
    refine ⟨fun q => ?_, ?_⟩
    · have : v.toInt < 0 := Int32.lt_iff_toInt_lt.mp q
      omega
    · show v.toInt.toNat = j
      rw [hv]; rfl
  obtain ⟨a1, a2⟩ := nn hsx
  obtain ⟨b1, b2⟩ := nn hdx
  obtain ⟨c1, c2⟩ := nn hlx
  have he0 : (pm_wl cy ad h)[k0]? = some (ad k0, .inl (cy 0, n0, .inl f)) := by rw [pm_wl_at hk0, hc0]; rfl
  have he1 : (pm_wl cy ad h)[k1]? = some (ad k1, .inl (cy 0, n1, .inl g)) := by rw [pm_wl_at hk1, hc1]; rfl
  refine va_copyi hx hb (hml.trans hlz.symm) hown (pm_of hts pf_a (List.mem_append_left _ (List.mem_map.mpr ⟨_, hal, rfl⟩))) (pm_of hts pf_a (List.mem_append_right _ (List.mem_of_getElem? (i := 0) rfl))) (pm_of hts pf_a (List.mem_append_right _ (List.mem_of_getElem? (i := 1) rfl))) (pm_of hts pf_a (List.mem_append_right _ (List.mem_of_getElem? (i := 2) rfl))) V.1 hW.2.1 hW.2.2 hS k0 k1 0 0 he0 he1 (pm_tys_0 cy) (pm_tys_0 cy) rfl a1 b1 c1 (by rw [a2, c2]; exact h4) (by rw [b2, c2]; exact h5) (fun _ _ => rfl) hfr hlo hdg (fun H1 locs1 hP hD hS1 => ?_)
  rw [a2, b2, c2] at hP hD
  exact kk H1 locs1 (ps_set hW hk1 trivial rfl hP hD) hS1
theorem ps_obj (X : pm_Cx p s m args meth c M) (hlz : ls.size = pm_L M) {i0 b a : Nat} {kz : Int32} (hI : pm_J M pc = (.invokespecial i0, 1000, b, kz)) (hfr : 1 ≤ R.frames) (hlo : (t.map fun v => v.category).sum + 12 ≤ R.locals)
    (kk : W p l e R s m args below meth c H locs cells slots Q (F0 m (pc + 3) ls t)) : W p l e R s m args below meth c H locs cells slots Q (F0 m pc ls (.ref a :: t)) := by
  obtain ⟨hM, hx, hb, hml, hown, hts, hr, hlk, hnm, hex⟩ := X
  obtain ⟨hdg, hok⟩ := pm_at hM hI (fun z => by cases z)
  unfold pm_ok at hok
  rw [hI] at hok
  have hol : (pm_O M, i0) ∈ pm_ol := by
    rcases Bool.or_eq_true_iff.mp hok with q | q
    · rcases Bool.or_eq_true_iff.mp q with q | q
      · exact List.contains_iff_mem.mp (Bool.and_eq_true_iff.mp q).2
      · exact absurd (show 1001 < 1000 from of_decide_eq_true q) (by decide)
    · exact absurd (show 1000 < pm_nM from of_decide_eq_true (Bool.and_eq_true_iff.mp q).1) (by decide)
  exact W.objInit hx hb hown (pm_of hts pf_o (List.mem_append_left _ (List.mem_map.mpr ⟨_, hol, rfl⟩))) (pm_of hts pf_o (List.mem_append_right _ (List.mem_of_getElem? (i := 0) rfl))) (pm_of hts pf_o (List.mem_append_right _ (List.mem_of_getElem? (i := 1) rfl))) rfl (by rw [hml]; exact hlz) rfl hdg hfr (by show 2 * 0 + _ + 12 ≤ _; omega) kk
theorem ps_icmp (X : pm_Cx p s m args meth c M) {k : Jvm.ClassFile.Cond} {o : Int} {r1 b : Nat} {kz x y : Int32} (hI : pm_J M pc = (.if_icmp k o, r1, b, kz)) (kt : pm_cmp k x y → W p l e R s m args below meth c H locs cells slots Q (F0 m r1 ls t)) (kf : ¬ pm_cmp k x y → W p l e R s m args below meth c H locs cells slots Q (F0 m (pc + 3) ls t)) : W p l e R s m args below meth c H locs cells slots Q (F0 m pc ls (.int y :: .int x :: t)) := by
  obtain ⟨hM, hx, hb, -⟩ := X
  obtain ⟨hdg, hok⟩ := pm_at hM hI (fun z => by cases z)
  unfold pm_ok at hok
  rw [hI] at hok
  have ht := of_decide_eq_true hok
  cases k with
  | eq => exact lv_icmp_eq hx hb hdg ht kt kf
  | ne => exact lv_icmp_ne hx hb hdg ht kt (fun z => kf (fun q => q z))
  | lt => exact lv_icmp_lt hx hb hdg ht kt kf
  | ge => exact lv_icmp_ge hx hb hdg ht kt kf
  | gt => exact lv_icmp_gt hx hb hdg ht kt kf
  | le => exact lv_icmp_le hx hb hdg ht kt kf
theorem ps_if (X : pm_Cx p s m args meth c M) {k : Jvm.ClassFile.Cond} {o : Int} {r1 b : Nat} {kz x : Int32} (hI : pm_J M pc = (.ifCond k o, r1, b, kz)) (kt : pm_cmp k x 0 → W p l e R s m args below meth c H locs cells slots Q (F0 m r1 ls t)) (kf : ¬ pm_cmp k x 0 → W p l e R s m args below meth c H locs cells slots Q (F0 m (pc + 3) ls t)) : W p l e R s m args below meth c H locs cells slots Q (F0 m pc ls (.int x :: t)) := by
  obtain ⟨hM, hx, hb, -⟩ := X
  obtain ⟨hdg, hok⟩ := pm_at hM hI (fun z => by cases z)
  unfold pm_ok at hok
  rw [hI] at hok
  have ht := of_decide_eq_true hok
  cases k with
  | eq => exact lv_if_eq hx hb hdg ht kt kf
  | ne => exact lv_if_ne hx hb hdg ht kt (fun z => kf (fun q => q z))
  | lt => exact lv_if_lt hx hb hdg ht kt kf
  | ge => exact lv_if_ge hx hb hdg ht kt kf
  | gt => exact lv_if_gt hx hb hdg ht kt kf
  | le => exact lv_if_le hx hb hdg ht kt kf
end PSA
