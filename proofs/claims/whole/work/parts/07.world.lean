/-! FROM PLACES TO ADDRESSES -/
def pm_rv (ad : Nat → Nat) : Value → Value
  | .ref k => .ref (ad k)
  | v => v
def pm_rc (cy : Nat → ClassId) (ad : Nat → Nat) : va_E → va_E
  | .inl (t, N, .inr (.inr (.inr (.inr g)))) => .inl (cy t, N, .inr (.inr (.inr (.inr (fun j => (g j).map ad)))))
  | .inl (t, x) => .inl (cy t, x)
  | .inr (k, fs) => .inr (k, fs.map (pm_rv ad))
def pm_wl (cy : Nat → ClassId) (ad : Nat → Nat) (h : pm_H) : va_W := (List.range h.1).map (fun k => (ad k, pm_rc cy ad (h.2 k)))
def pm_rl (ad : Nat → Nat) (lv : List (Nat × Value)) : List (Nat × Value) := lv.map (fun q => (q.1, pm_rv ad q.2))
/-- a value's place is there -/
def pm_sv (n : Nat) : Value → Prop
  | .ref k => k < n
  | _ => True
def pm_se (n : Nat) : va_E → Prop
  | .inl (_, _, .inr (.inr (.inr (.inr g)))) => ∀ j k : Nat, g j = some k → k < n
  | .inl _ => True
  | .inr (_, fs) => ∀ v ∈ fs, pm_sv n v
def pm_sh (h : pm_H) : Prop := ∀ k, k < h.1 → pm_se h.1 (h.2 k)
def pm_sk (n : Nat) (st : List Value) : Prop := ∀ v ∈ st, pm_sv n v
def pm_sq (n : Nat) (lv : List (Nat × Value)) : Prop := ∀ q ∈ lv, pm_sv n q.2
theorem pm_rv_cat (ad : Nat → Nat) (v : Value) : (pm_rv ad v).category = v.category := by cases v <;> rfl
theorem pm_rv_ext {ad ad' : Nat → Nat} {n : Nat} (h : ∀ k, k < n → ad' k = ad k) {v : Value} (hv : pm_sv n v) : pm_rv ad' v = pm_rv ad v := by
  cases v with
  | ref k => exact congrArg Value.ref (h k hv)
  | _ => rfl
theorem pm_rs_ext {ad ad' : Nat → Nat} {n : Nat} (h : ∀ k, k < n → ad' k = ad k) {st : List Value} (hv : pm_sk n st) : st.map (pm_rv ad') = st.map (pm_rv ad) := List.map_congr_left fun v hm => pm_rv_ext h (hv v hm)
theorem pm_rl_ext {ad ad' : Nat → Nat} {n : Nat} (h : ∀ k, k < n → ad' k = ad k) {lv : List (Nat × Value)} (hv : pm_sq n lv) : pm_rl ad' lv = pm_rl ad lv := List.map_congr_left fun q hm => by rw [pm_rv_ext h (hv q hm)]
theorem pm_rc_ext {cy : Nat → ClassId} {ad ad' : Nat → Nat} {n : Nat} (h : ∀ k, k < n → ad' k = ad k) {e : va_E} (he : pm_se n e) : pm_rc cy ad' e = pm_rc cy ad e := by
  rcases e with ⟨t, N, x⟩ | ⟨k, fs⟩
  · rcases x with x | x | x | x | g
    · rfl
    · rfl
    · rfl
    · rfl
    · have hg : (fun j => (g j).map ad') = (fun j => (g j).map ad) := by
        funext j
        cases hg : g j with
        | none => rfl
        | some k => exact congrArg some (h k (he j k hg))
      show Sum.inl (cy t, N, Sum.inr (Sum.inr (Sum.inr (Sum.inr (fun j => (g j).map ad'))))) = Sum.inl (cy t, N, Sum.inr (Sum.inr (Sum.inr (Sum.inr (fun j => (g j).map ad)))))
      rw [hg]
  · show Sum.inr (k, _) = Sum.inr (k, _)
    rw [pm_rs_ext h he]
theorem pm_sv_mono {n n' : Nat} (h : n ≤ n') {v : Value} (hv : pm_sv n v) : pm_sv n' v := by
  cases v with
  | ref k => exact Nat.lt_of_lt_of_le hv h
  | _ => trivial
theorem pm_sk_mono {n n' : Nat} (h : n ≤ n') {st : List Value} (hv : pm_sk n st) : pm_sk n' st := fun v hm => pm_sv_mono h (hv v hm)
theorem pm_sq_mono {n n' : Nat} (h : n ≤ n') {lv : List (Nat × Value)} (hv : pm_sq n lv) : pm_sq n' lv := fun v hm => pm_sv_mono h (hv v hm)
theorem pm_se_mono {n n' : Nat} (h : n ≤ n') {e : va_E} (he : pm_se n e) : pm_se n' e := by
  rcases e with ⟨t, N, x⟩ | ⟨k, fs⟩
  · rcases x with x | x | x | x | g
    · trivial
    · trivial
    · trivial
    · trivial
    · exact fun j k hg => Nat.lt_of_lt_of_le (he j k hg) h
  · exact fun v hm => pm_sv_mono h (he v hm)
theorem pm_wl_at {cy : Nat → ClassId} {ad : Nat → Nat} {h : pm_H} {k : Nat} (hk : k < h.1) : (pm_wl cy ad h)[k]? = some (ad k, pm_rc cy ad (h.2 k)) := by
  unfold pm_wl
  rw [List.getElem?_map, List.getElem?_range hk]
  rfl
theorem pm_wl_len {cy : Nat → ClassId} {ad : Nat → Nat} {h : pm_H} : (pm_wl cy ad h).length = h.1 := by simp [pm_wl]
theorem pm_wl_set {cy : Nat → ClassId} {ad : Nat → Nat} {h : pm_H} {k : Nat} (hk : k < h.1) (e : va_E) : (pm_wl cy ad h).set k (ad k, pm_rc cy ad e) = pm_wl cy ad (h.1, va_up h.2 k e) := by
  refine List.ext_getElem? fun j => ?_
  rw [List.getElem?_set]
  by_cases hj : k = j
  · subst hj
    rw [if_pos rfl, pm_wl_len, if_pos hk, pm_wl_at (h := (h.1, va_up h.2 k e)) hk]
    simp [va_up]
  · rw [if_neg hj]
    by_cases hl : j < h.1
    · rw [pm_wl_at hl, pm_wl_at (h := (h.1, va_up h.2 k e)) hl]
      have hj' : ¬ j = k := fun z => hj z.symm
      simp [va_up, hj']
    · rw [List.getElem?_eq_none (by rw [pm_wl_len]; omega), List.getElem?_eq_none (by rw [pm_wl_len]; exact Nat.not_lt.mp hl)]
theorem pm_wl_push {cy : Nat → ClassId} {ad : Nat → Nat} {h : pm_H} (hs : pm_sh h) (q : Nat) {e : va_E} (he : pm_se h.1 e) : pm_wl cy ad h ++ [(q, pm_rc cy ad e)] = pm_wl cy (va_up ad h.1 q) (h.1 + 1, va_up h.2 h.1 e) := by
  have hx : ∀ k, k < h.1 → va_up ad h.1 q k = ad k := fun k hk => va_up_ne ad q (Nat.ne_of_lt hk)
  unfold pm_wl
  rw [List.range_succ, List.map_append]
  congr 1
  · refine List.map_congr_left fun k hk => ?_
    have hk : k < h.1 := List.mem_range.mp hk
    show (ad k, pm_rc cy ad (h.2 k)) = (va_up ad h.1 q k, pm_rc cy (va_up ad h.1 q) (va_up h.2 h.1 e k))
    rw [hx k hk, va_up_ne h.2 e (Nat.ne_of_lt hk), pm_rc_ext hx (hs k hk)]
  · simp only [List.map_cons, List.map_nil, va_up_self]
    rw [pm_rc_ext hx he]
theorem pm_sh_set {h : pm_H} (hs : pm_sh h) {k : Nat} {e : va_E} (he : pm_se h.1 e) : pm_sh (h.1, va_up h.2 k e) := by
  intro j hj
  by_cases hq : j = k
  · subst hq
    show pm_se h.1 (va_up h.2 j e j)
    rw [va_up_self]
    exact he
  · show pm_se h.1 (va_up h.2 k e j)
    rw [va_up_ne _ _ hq]
    exact hs j hj
theorem pm_sh_push {h : pm_H} (hs : pm_sh h) {e : va_E} (he : pm_se h.1 e) : pm_sh (h.1 + 1, va_up h.2 h.1 e) := by
  intro j hj
  have hj : j < h.1 + 1 := hj
  by_cases hq : j = h.1
  · subst hq
    show pm_se (h.1 + 1) (va_up h.2 h.1 e h.1)
    rw [va_up_self]
    exact pm_se_mono (Nat.le_succ _) he
  · show pm_se (h.1 + 1) (va_up h.2 h.1 e j)
    rw [va_up_ne _ _ hq]
    exact pm_se_mono (Nat.le_succ _) (hs j (by omega))
/-- the places of a pure heap lie in a heap, apart, in A -/
def pm_Wd (D : va_G) (cy : Nat → ClassId) (A : Nat → Prop) (ad : Nat → Nat) (h : pm_H) (H : Heap) : Prop := pm_sh h ∧ va_P D vwCl (pm_wl cy ad h) H ∧ va_D A (pm_wl cy ad h)
theorem pm_get_mem : ∀ {lv : List (Nat × Value)} {i : Nat} {v : Value}, pm_get lv i = some v → (i, v) ∈ lv
  | [], _, _, h => by cases h
  | (j, w) :: l, i, v, h => by
    unfold pm_get at h
    split at h
    · rename_i hq
      cases h
      subst hq
      exact List.mem_cons_self
    · exact List.mem_cons_of_mem _ (pm_get_mem h)
theorem pm_get_ls {ad : Nat → Nat} {ls : Array Slot} {nL : Nat} {lv : List (Nat × Value)} (hl : lv_has ls nL (pm_rl ad lv)) {i : Nat} {v : Value} (h : pm_get lv i = some v) : ls[i]? = some (.val (pm_rv ad v)) :=
  hl.2.2 (i, pm_rv ad v) (List.mem_map.mpr ⟨(i, v), pm_get_mem h, rfl⟩)
theorem pm_rl_put (ad : Nat → Nat) (lv : List (Nat × Value)) (i : Nat) (v : Value) : (i, pm_rv ad v) :: (pm_rl ad lv).filter (fun q => !(q.1 == i) && !(q.1 + 1 == i && q.2.category == 2)) = pm_rl ad (pm_put lv i v) := by
  unfold pm_put pm_rl
  rw [List.map_cons, List.filter_map]
  congr 2
  refine List.filter_congr fun q _ => ?_
  simp only [Function.comp, pm_rv_cat]
theorem pm_rl_put2 (ad : Nat → Nat) (lv : List (Nat × Value)) (i : Nat) (v : Value) : (i, pm_rv ad v) :: (pm_rl ad lv).filter (fun q => !(q.1 == i) && (!(q.1 == i + 1) && !(q.1 + 1 == i && q.2.category == 2))) = pm_rl ad (pm_put2 lv i v) := by
  unfold pm_put2 pm_rl
  rw [List.map_cons, List.filter_map]
  congr 2
  refine List.filter_congr fun q _ => ?_
  simp only [Function.comp, pm_rv_cat]
theorem pm_sq_put {n : Nat} {lv : List (Nat × Value)} (h : pm_sq n lv) {i : Nat} {v : Value} (hv : pm_sv n v) : pm_sq n (pm_put lv i v) := by
  intro q hq
  rcases List.mem_cons.mp hq with e | e
  · rw [e]; exact hv
  · exact h q (List.mem_filter.mp e).1
theorem pm_sq_put2 {n : Nat} {lv : List (Nat × Value)} (h : pm_sq n lv) {i : Nat} {v : Value} (hv : pm_sv n v) : pm_sq n (pm_put2 lv i v) := by
  intro q hq
  rcases List.mem_cons.mp hq with e | e
  · rw [e]; exact hv
  · exact h q (List.mem_filter.mp e).1
theorem pm_sk_cons {n : Nat} {v : Value} {t : List Value} (hv : pm_sv n v) (ht : pm_sk n t) : pm_sk n (v :: t) := fun w hw => by
  rcases List.mem_cons.mp hw with e | e
  · rw [e]; exact hv
  · exact ht w e
theorem pm_sk_hd {n : Nat} {v : Value} {t : List Value} (h : pm_sk n (v :: t)) : pm_sv n v := h v List.mem_cons_self
theorem pm_sk_tl {n : Nat} {v : Value} {t : List Value} (h : pm_sk n (v :: t)) : pm_sk n t := fun w hw => h w (List.mem_cons_of_mem _ hw)
theorem pm_args_rl (ad : Nat → Nat) : ∀ (i : Nat) (vs : List Value), lv_args i (vs.map (pm_rv ad)) = pm_rl ad (lv_args i vs)
  | _, [] => rfl
  | i, v :: vs => by
    show (i, pm_rv ad v) :: lv_args (if (pm_rv ad v).category = 2 then i + 2 else i + 1) (vs.map (pm_rv ad)) = (i, pm_rv ad v) :: pm_rl ad (lv_args (if v.category = 2 then i + 2 else i + 1) vs)
    rw [pm_rv_cat, pm_args_rl ad _ vs]
theorem pm_args_sq (n : Nat) : ∀ (i : Nat) (vs : List Value), pm_sk n vs → pm_sq n (lv_args i vs)
  | _, [], _ => fun q hq => by cases hq
  | i, v :: vs, h => fun q hq => by
    have hq : q ∈ (i, v) :: lv_args (if v.category = 2 then i + 2 else i + 1) vs := hq
    rcases List.mem_cons.mp hq with e | e
    · rw [e]; exact pm_sk_hd h
    · exact pm_args_sq n _ vs (pm_sk_tl h) q e
theorem pm_sl_len (ad : Nat → Nat) (vs : List Value) : (lg_sl (vs.map (pm_rv ad))).length = (lg_sl vs).length := by
  unfold lg_sl
  induction vs with
  | nil => rfl
  | cons v t ih => simp only [List.map_cons, List.flatMap_cons, List.length_append, pm_rv_cat, ih]; split <;> rfl
theorem pm_cat_map (ad : Nat → Nat) (t : List Value) : ((t.map (pm_rv ad)).map fun v => v.category).sum = pm_cat t := by
  unfold pm_cat
  rw [List.map_map]
  congr 1
  exact List.map_congr_left fun v _ => pm_rv_cat ad v
theorem pm_jint {i : Int32} {j N : Nat} (hj : i.toInt = (j : Int)) (hN : j < N) : vp_in i N ∧ i.toNatClampNeg = j := by
  have h1 : vp_in i N := vp_in_iff.mpr ⟨by omega, by omega⟩
  refine ⟨h1, ?_⟩
  have h2 : i.toNatClampNeg = i.toInt.toNat := rfl
  rw [h2, hj]
  rfl
