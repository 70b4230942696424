/-! THE PURE MACHINE IS SOUND -/
theorem pm_ini_ok : ∀ e ∈ pm_il ++ pm_nil, (pm_Y e.2.2).name = "<init>" ∧ pm_T e.2.2 = none := by decide +kernel
theorem pm_ini {M pc i M' nA : Nat} {kz : Int32} (hM : M < pm_nM) (hI : pm_J M pc = (.invokespecial i, M', nA, kz)) (hM' : M' < pm_nM) : (pm_Y M').name = "<init>" ∧ pm_T M' = none := by
  obtain ⟨-, hok⟩ := pm_at hM hI (fun z => by cases z)
  unfold pm_ok at hok
  rw [hI] at hok
  rcases Bool.or_eq_true_iff.mp hok with q | q
  · exfalso
    rcases Bool.or_eq_true_iff.mp q with q | q
    · have q1 : M' = 1000 := of_decide_eq_true (Bool.and_eq_true_iff.mp q).1
      rw [q1] at hM'
      exact absurd hM' (by decide)
    · have q1 : 1001 < M' := of_decide_eq_true q
      exact absurd (Nat.lt_trans q1 hM') (by decide)
  · rcases Bool.or_eq_true_iff.mp (Bool.and_eq_true_iff.mp q).2 with q | q
    · exact pm_ini_ok _ (List.mem_append_left _ (List.contains_iff_mem.mp q))
    · exact pm_ini_ok _ (List.mem_append_right _ (List.contains_iff_mem.mp q))
theorem pm_qa_ok : ∀ q ∈ pm_qa, q < pm_nC := by decide +kernel
theorem pm_s_sc {n nL pc : Nat} {I : pm_I} {lv : List (Nat × Value)} {st : List Value} {q : Nat × List (Nat × Value) × List Value} (hs : pm_s nL I pc lv st = some q) (h1 : pm_sq n lv) (h2 : pm_sk n st) : pm_sq n q.2.1 ∧ pm_sk n q.2.2 := by
  obtain ⟨ins, r1, r2, kz⟩ := I
  have hld : ∀ {i : Nat} {ok : Value → Bool} {pc : Nat}, pm_ld lv st i ok pc = some q → pm_sq n q.2.1 ∧ pm_sk n q.2.2 := fun z => by
    obtain ⟨v, hg, -, rfl⟩ := pm_ld_spec z
    exact ⟨h1, pm_sk_cons (h1 _ (pm_get_mem hg)) h2⟩
  have hst : ∀ {i : Nat} {ok : Value → Bool} {pc : Nat}, pm_sto nL lv st i ok pc = some q → pm_sq n q.2.1 ∧ pm_sk n q.2.2 := fun z => by
    obtain ⟨v, t, rfl, -, -, rfl⟩ := pm_sto_spec z
    exact ⟨pm_sq_put h1 (pm_sk_hd h2), pm_sk_tl h2⟩
  have hst2 : ∀ {i : Nat} {ok : Value → Bool} {pc : Nat}, pm_sto2 nL lv st i ok pc = some q → pm_sq n q.2.1 ∧ pm_sk n q.2.2 := fun z => by
    obtain ⟨v, t, rfl, -, -, rfl⟩ := pm_sto2_spec z
    exact ⟨pm_sq_put2 h1 (pm_sk_hd h2), pm_sk_tl h2⟩
  cases ins with
  | iconst _ => cases hs; exact ⟨h1, pm_sk_cons trivial h2⟩
  | bipush _ => cases hs; exact ⟨h1, pm_sk_cons trivial h2⟩
  | sipush _ => cases hs; exact ⟨h1, pm_sk_cons trivial h2⟩
  | lconst _ => cases hs; exact ⟨h1, pm_sk_cons trivial h2⟩
  | ldc2_w _ => cases hs; exact ⟨h1, pm_sk_cons trivial h2⟩
  | aconst_null => cases hs; exact ⟨h1, pm_sk_cons trivial h2⟩
  | iload i => exact hld hs
  | iload_n i => exact hld hs
  | lload i => exact hld hs
  | lload_n i => exact hld hs
  | aload i => exact hld hs
  | aload_n i => exact hld hs
  | istore i => exact hst hs
  | istore_n i => exact hst hs
  | astore i => exact hst hs
  | astore_n i => exact hst hs
  | lstore i => exact hst2 hs
  | lstore_n i => exact hst2 hs
  | iinc i k =>
    simp only [pm_s] at hs
    split at hs
    · split at hs
      · cases hs; exact ⟨pm_sq_put h1 trivial, h2⟩
      · cases hs
    · cases hs
  | iadd =>
    simp only [pm_s] at hs
    split at hs
    · cases hs; exact ⟨h1, pm_sk_cons trivial (pm_sk_tl (pm_sk_tl h2))⟩
    · cases hs
  | isub =>
    simp only [pm_s] at hs
    split at hs
    · cases hs; exact ⟨h1, pm_sk_cons trivial (pm_sk_tl (pm_sk_tl h2))⟩
    · cases hs
  | imul =>
    simp only [pm_s] at hs
    split at hs
    · cases hs; exact ⟨h1, pm_sk_cons trivial (pm_sk_tl (pm_sk_tl h2))⟩
    · cases hs
  | iand =>
    simp only [pm_s] at hs
    split at hs
    · cases hs; exact ⟨h1, pm_sk_cons trivial (pm_sk_tl (pm_sk_tl h2))⟩
    · cases hs
  | ior =>
    simp only [pm_s] at hs
    split at hs
    · cases hs; exact ⟨h1, pm_sk_cons trivial (pm_sk_tl (pm_sk_tl h2))⟩
    · cases hs
  | ixor =>
    simp only [pm_s] at hs
    split at hs
    · cases hs; exact ⟨h1, pm_sk_cons trivial (pm_sk_tl (pm_sk_tl h2))⟩
    · cases hs
  | ishl =>
    simp only [pm_s] at hs
    split at hs
    · cases hs; exact ⟨h1, pm_sk_cons trivial (pm_sk_tl (pm_sk_tl h2))⟩
    · cases hs
  | ishr =>
    simp only [pm_s] at hs
    split at hs
    · cases hs; exact ⟨h1, pm_sk_cons trivial (pm_sk_tl (pm_sk_tl h2))⟩
    · cases hs
  | iushr =>
    simp only [pm_s] at hs
    split at hs
    · cases hs; exact ⟨h1, pm_sk_cons trivial (pm_sk_tl (pm_sk_tl h2))⟩
    · cases hs
  | ladd =>
    simp only [pm_s] at hs
    split at hs
    · cases hs; exact ⟨h1, pm_sk_cons trivial (pm_sk_tl (pm_sk_tl h2))⟩
    · cases hs
  | lmul =>
    simp only [pm_s] at hs
    split at hs
    · cases hs; exact ⟨h1, pm_sk_cons trivial (pm_sk_tl (pm_sk_tl h2))⟩
    · cases hs
  | land =>
    simp only [pm_s] at hs
    split at hs
    · cases hs; exact ⟨h1, pm_sk_cons trivial (pm_sk_tl (pm_sk_tl h2))⟩
    · cases hs
  | lor =>
    simp only [pm_s] at hs
    split at hs
    · cases hs; exact ⟨h1, pm_sk_cons trivial (pm_sk_tl (pm_sk_tl h2))⟩
    · cases hs
  | lshl =>
    simp only [pm_s] at hs
    split at hs
    · cases hs; exact ⟨h1, pm_sk_cons trivial (pm_sk_tl (pm_sk_tl h2))⟩
    · cases hs
  | lshr =>
    simp only [pm_s] at hs
    split at hs
    · cases hs; exact ⟨h1, pm_sk_cons trivial (pm_sk_tl (pm_sk_tl h2))⟩
    · cases hs
  | i2l =>
    simp only [pm_s] at hs
    split at hs
    · cases hs; exact ⟨h1, pm_sk_cons trivial (pm_sk_tl h2)⟩
    · cases hs
  | l2i =>
    simp only [pm_s] at hs
    split at hs
    · cases hs; exact ⟨h1, pm_sk_cons trivial (pm_sk_tl h2)⟩
    · cases hs
  | lcmp =>
    simp only [pm_s] at hs
    split at hs
    · cases hs; exact ⟨h1, pm_sk_cons trivial (pm_sk_tl (pm_sk_tl h2))⟩
    · cases hs
  | idiv =>
    simp only [pm_s] at hs
    split at hs
    · split at hs
      · cases hs
      · cases hs; exact ⟨h1, pm_sk_cons trivial (pm_sk_tl (pm_sk_tl h2))⟩
    · cases hs
  | irem =>
    simp only [pm_s] at hs
    split at hs
    · split at hs
      · cases hs
      · cases hs; exact ⟨h1, pm_sk_cons trivial (pm_sk_tl (pm_sk_tl h2))⟩
    · cases hs
  | dup =>
    simp only [pm_s] at hs
    split at hs
    · split at hs
      · cases hs; exact ⟨h1, pm_sk_cons (pm_sk_hd h2) h2⟩
      · cases hs
    · cases hs
  | pop =>
    simp only [pm_s] at hs
    split at hs
    · split at hs
      · cases hs; exact ⟨h1, pm_sk_tl h2⟩
      · cases hs
    · cases hs
  | dup2 =>
    simp only [pm_s] at hs
    split at hs
    · split at hs
      · cases hs; exact ⟨h1, pm_sk_cons (pm_sk_hd h2) (pm_sk_cons (pm_sk_hd (pm_sk_tl h2)) h2)⟩
      · cases hs
    · cases hs
  | goto _ => cases hs; exact ⟨h1, h2⟩
  | _ => cases hs
theorem pm_sk_app {n : Nat} {a b : List Value} (h : pm_sk n (a ++ b)) : pm_sk n a ∧ pm_sk n b := ⟨fun v hv => h v (List.mem_append_left _ hv), fun v hv => h v (List.mem_append_right _ hv)⟩
theorem pm_sk_rev {n : Nat} {a : List Value} (h : pm_sk n a.reverse) : pm_sk n a := fun v hv => h v (List.mem_reverse.mpr hv)
theorem pm_sk_opt {n : Nat} {v : Option Value} {t : List Value} (hv : ∀ w, v = some w → pm_sv n w) (ht : pm_sk n t) : pm_sk n (v.toList ++ t) := by
  cases v with
  | none => exact ht
  | some w => exact pm_sk_cons (hv w rfl) ht
theorem pm_opt_map {ad ad' : Nat → Nat} {n : Nat} {v : Option Value} {t : List Value} (hag : ∀ k, k < n → ad' k = ad k) (ht : pm_sk n t) : (v.map (pm_rv ad')).toList ++ t.map (pm_rv ad) = (v.toList ++ t).map (pm_rv ad') := by
  rw [← pm_rs_ext hag ht]
  cases v <;> rfl
/-- what calls one level down are known to do -/
def pm_IH (l : Launch) (D : va_G) (cy : Nat → ClassId) (d : Nat) : Prop := ∀ d', d = d' + 1 → ∀ (M : Nat) (As : List Value) (h : pm_H) (r : pm_V) (h' : pm_H) (bc bs : Nat), M < pm_nM → pm_sk h.1 As → pm_call d M As h r h' bc bs → ∀ (ad : Nat → Nat) (sz : Nat), pm_Met l D cy d' M As h r h' bc bs ad sz
section PSM
variable {p : Program} {l : Launch} {e : Env} {s : State} {m : MethodId} {args : Array Value} {below : List Frame} {meth : Method} {c : Code}
variable {D : va_G} {cy : Nat → ClassId} {M : Nat} {ad0 : Nat → Nat} {n0 : Nat} {bc bs d : Nat} {r : pm_V} {h' : pm_H}
theorem ps_throw (hlt : l.stackTraces = false) (X : pm_Cx p s m args meth c M) (V : pm_Eq D cy s) (Z : pm_St (pm_A ad0 n0 s.heap.size) s s.heap) {ad : Nat → Nat} {h : pm_H} {H : Heap} {locs : List Loc} {cells slots : Nat} {ls : Array Slot} {pc i r1 r2 : Nat} {kz : Int32} {t : List Value} (hI : pm_J M pc = (.new i, r1, r2, kz)) (h100 : 100 ≤ r1) (hd : 8 ≤ d) (hcat : pm_cat t ≤ 8) (hcc : cells + 1 ≤ bc) (hss : slots + 6 ≤ bs)
    (hag : ∀ k, k < n0 → ad k = ad0 k) (hle : n0 ≤ h.1) (hW : pm_Wd D cy (pm_A ad0 n0 s.heap.size) ad h H) (hS : va_S (pm_A ad0 n0 s.heap.size) s.heap H locs) (hlz : ls.size = pm_L M) (hr : r = .inr (r1 - 100)) (hh : h' = h) :
    W p l e (pm_rm d bc bs) s m args below meth c H locs cells slots (vx_MQ below (pm_Qc D cy ad0 n0 s.heap.size r h') (pm_Xc D cy ad0 n0 s.heap.size r h') args s bc bs (pm_A ad0 n0 s.heap.size)) (F0 m pc ls (t.map (pm_rv ad))) := by
  obtain ⟨hM, hx, hb, hml, hown, hts, hrt, hlk, hnm, hex⟩ := X
  obtain ⟨hdg, hok⟩ := pm_at hM hI (fun z => by cases z)
  unfold pm_ok at hok
  rw [hI] at hok
  have hok : (match (pm_J M (pc + 3)).1, (pm_J M (pc + 4)).1, (pm_J M (pc + 6)).1, (pm_J M (pc + 9)).1 with
    | .dup, .ldc x, .invokespecial y, .athrow => decide (100 ≤ r1) && pm_xl.contains (pm_O M, i, x, y, r1 - 100)
    | _, _, _, _ => false) = true := by
    rcases Bool.or_eq_true_iff.mp hok with q | q
    · have q1 : r1 < pm_nC := of_decide_eq_true (Bool.and_eq_true_iff.mp q).2
      exact absurd (Nat.lt_of_le_of_lt h100 q1) (by decide)
    · exact q
  split at hok
  · rename_i x y e3 e4 e6 e9
    have hxl := List.contains_iff_mem.mp (Bool.and_eq_true_iff.mp hok).2
    obtain ⟨hxk, hxc, z, hz, hz1, hz2⟩ := pm_xl_ok _ hxl
    have hdec : ∀ {q : Nat} {ins : Instr}, (pm_J M q).1 = ins → ins ≠ .nop → ∃ r, decode (pm_B M) q = .ok (ins, pm_len ins r) := by
      intro q ins hq hn
      rcases hJ : pm_J M q with ⟨i9, a9, b9, c9⟩
      rw [hJ] at hq
      subst hq
      exact ⟨_, (pm_at hM hJ hn).1⟩
    obtain ⟨_, d3⟩ := hdec e3 (fun z => by cases z)
    obtain ⟨_, d4⟩ := hdec e4 (fun z => by cases z)
    obtain ⟨_, d6⟩ := hdec e6 (fun z => by cases z)
    obtain ⟨_, d9⟩ := hdec e9 (fun z => by cases z)
    obtain ⟨sa, hsa⟩ := V.2.2 z hz
    rw [hz1, hz2] at hsa
    have hwk : ∀ w ∈ ([.classLink (pm_R (pm_O M)) i (pm_xn (r1 - 100)), .initialized (pm_xn (r1 - 100))] : List Cond), w.before args s = true := fun w hw => pm_of hts pf_xk (List.mem_flatMap.mpr ⟨_, hxk, hw⟩)
    have hat : ∀ w ∈ vx_atS (pm_R (pm_O M)) y (pm_xn (r1 - 100)) pm_xs, w.before args s = true := by
      intro w hw
      have hw2 : w ∈ pm_xc.flatMap (fun e => vx_atS (pm_R e.1) e.2.1 (pm_xn e.2.2) pm_xs) := List.mem_flatMap.mpr ⟨_, hxc, hw⟩
      by_cases hg : goodWord w = true
      · exact hts w (List.mem_filter.mpr ⟨pf_x w (List.mem_filter.mpr ⟨hw2, hg⟩), hg⟩)
      · have hx9 : w ∈ pm_xw := List.mem_filter.mpr ⟨hw2, by simpa using hg⟩
        have ho : w.onTables = true := by
          have hk := List.all_eq_true.mp pm_xw_kind w hx9
          cases w <;> first | rfl | cases hk
        exact va_Nw.use ho (V.2.1 w hx9)
    have hgood : ∀ w ∈ Cond.classLink (pm_R (pm_O M)) i (pm_xn (r1 - 100)) :: Cond.initialized (pm_xn (r1 - 100)) :: vx_atS (pm_R (pm_O M)) y (pm_xn (r1 - 100)) pm_xs, vx_ot w = true := by
      intro w hw
      rcases List.mem_cons.mp hw with q | hw
      · rw [q]; rfl
      · rcases List.mem_cons.mp hw with q | hw
        · rw [q]; rfl
        · exact List.all_eq_true.mp pm_x_ot w (List.mem_flatMap.mpr ⟨_, hxc, hw⟩)
    refine vx_throwS hx hb hlt hown (pm_x_fit.1 _ (pm_xc_2 _ hxc)) pm_x_fit.2 (hwk _ List.mem_cons_self) (hwk _ (List.mem_cons_of_mem _ List.mem_cons_self)) hsa hat hgood Z.1 Z.2 hS (hlz.trans hml.symm) hdg d3 d4 d6 d9 (fun x hx => (hex x hx).elim) ?_ ?_ hcc hss hlk (fun t1 _ hz1 hz2 => ?_) hS.2.2 hcc hss
    · show 2 + 3 < d
      omega
    · rw [pm_cat_map]
      show pm_cat t + (13 * (2 + 1) + 43) ≤ 32 * d
      omega
    · refine ⟨r1 - 100, ad, hr, rfl, hag, by rw [hh]; exact hle, ?_, Nat.le_trans hS.1 hz1, fun q h1 h2 => (hz2 q (Nat.lt_of_lt_of_le h1 hS.1)).trans (hS.2.1 q h1 h2)⟩
      rw [hh]
      exact ⟨hW.1, hW.2.1.kept (fun k x hx => hz2 x.1 ((hW.2.1 k x hx).lt)), hW.2.2⟩
  · cases hok
/-- the end of a method that returns -/
theorem ps_ret {ad : Nat → Nat} {h : pm_H} {H : Heap} {locs : List Loc} {v : Option Value} (hag : ∀ k, k < n0 → ad k = ad0 k) (hle : n0 ≤ h.1) (hW : pm_Wd D cy (pm_A ad0 n0 s.heap.size) ad h H) (hS : va_S (pm_A ad0 n0 s.heap.size) s.heap H locs) (hsv : ∀ w, v = some w → pm_sv h.1 w) (hr : r = .inl v) (hh : h' = h) : ∀ t : State, t.heap = H → s.WarmedH t.vm → pm_Qc D cy ad0 n0 s.heap.size r h' args s (.returned (v.map (pm_rv ad))) t := by
  intro t ht _
  rw [hh]
  exact ⟨v, ad, hr, rfl, hag, hle, hsv, by rw [ht]; exact hW, hS.F ht⟩
set_option maxHeartbeats 8000000 in
theorem pm_run_sound (hlt : l.stackTraces = false) (ih : pm_IH l D cy d) (X : pm_Cx p s m args meth c M) (V : pm_Eq D cy s) (Z : pm_St (pm_A ad0 n0 s.heap.size) s s.heap) :
    ∀ (n pc : Nat) (lv : List (Nat × Value)) (st : List Value) (cells slots : Nat) (h : pm_H) (ad : Nat → Nat) (H : Heap) (locs : List Loc) (ls : Array Slot), pm_run (pm_call d) (pm_J M) (pm_L M) (pm_T M) d bc bs n pc lv st cells slots h r h' → (∀ k, k < n0 → ad k = ad0 k) → n0 ≤ h.1 → pm_sq h.1 lv → pm_sk h.1 st → pm_Wd D cy (pm_A ad0 n0 s.heap.size) ad h H → va_S (pm_A ad0 n0 s.heap.size) s.heap H locs → lv_has ls (pm_L M) (pm_rl ad lv) → cells ≤ bc → slots ≤ bs →
      W p l e (pm_rm d bc bs) s m args below meth c H locs cells slots (vx_MQ below (pm_Qc D cy ad0 n0 s.heap.size r h') (pm_Xc D cy ad0 n0 s.heap.size r h') args s bc bs (pm_A ad0 n0 s.heap.size)) (F0 m pc ls (st.map (pm_rv ad))) := by
  have hA : ∀ q, s.heap.size ≤ q → pm_A ad0 n0 s.heap.size q := fun q hq => Or.inr hq
  have X0 := X
  obtain ⟨hM, hx, hb, hml, hown, hts, hrt, hlk, hnm, hex⟩ := X0
  intro n
  induction n with
  | zero => intro pc lv st cells slots h ad H locs ls hr; exact hr.elim
  | succ n ihn =>
    intro pc lv st cells slots h ad H locs ls hr hag hle hsq hsk hW hS hl hcl hsl
    have hlz : ls.size = pm_L M := hl.1
    have hdef : (∃ q : Nat × List (Nat × Value) × List Value, pm_s (pm_L M) (pm_J M pc) pc lv st = some q ∧ pm_run (pm_call d) (pm_J M) (pm_L M) (pm_T M) d bc bs n q.1 q.2.1 q.2.2 cells slots h r h') → W p l e (pm_rm d bc bs) s m args below meth c H locs cells slots (vx_MQ below (pm_Qc D cy ad0 n0 s.heap.size r h') (pm_Xc D cy ad0 n0 s.heap.size r h') args s bc bs (pm_A ad0 n0 s.heap.size)) (F0 m pc ls (st.map (pm_rv ad))) := by
      rintro ⟨q, hs, hr⟩
      obtain ⟨z1, z2⟩ := pm_s_sc hs hsq hsk
      exact ps_simple hM hx hb hown hts hl hs (fun ls' hl' => ihn _ _ _ _ _ _ _ _ _ _ hr hag hle z1 z2 hW hS hl' hcl hsl)
    unfold pm_run at hr
    rcases hI : pm_J M pc with ⟨ins, r1, r2, kz⟩
    rw [hI] at hr hdef
    cases ins with
    | getfield i =>
      obtain ⟨k, t, fs, v, rfl, hk, hv, hr⟩ := hr
      have hk1 : k < h.1 := pm_sk_hd hsk
      have hse : pm_se h.1 (.inr (r1, fs)) := by rw [← hk]; exact hW.1 k hk1
      exact ps_getf X V.1 hW hI hk1 hk hv (ihn _ _ _ _ _ _ _ _ _ _ hr hag hle hsq (pm_sk_cons (hse v (List.mem_of_getElem? hv)) (pm_sk_tl hsk)) hW hS hl hcl hsl)
    | putfield i =>
      obtain ⟨k, t, fs, v, rfl, hk, hlen, hf, hr⟩ := hr
      have hk1 : k < h.1 := pm_sk_hd (pm_sk_tl hsk)
      exact ps_putf X V.1 hW hS hI hk1 hk hlen hf (pm_sk_hd hsk) (fun H1 locs1 hW1 hS1 => ihn _ _ _ _ _ _ _ _ _ _ hr hag hle hsq (pm_sk_tl (pm_sk_tl hsk)) hW1 hS1 hl hcl hsl)
    | iaload =>
      obtain ⟨k, j, N, i, t, g, rfl, hj, hk, hN, hr⟩ := hr
      exact ps_iald X V.1 hW hI (pm_sk_hd (pm_sk_tl hsk)) hk hj hN (ihn _ _ _ _ _ _ _ _ _ _ hr hag hle hsq (pm_sk_cons trivial (pm_sk_tl (pm_sk_tl hsk))) hW hS hl hcl hsl)
    | iastore =>
      obtain ⟨k, j, N, i, x, t, g, rfl, hj, hk, hN, hr⟩ := hr
      exact ps_iast X V.1 hW hS hI (pm_sk_hd (pm_sk_tl (pm_sk_tl hsk))) hk hj hN (fun H1 locs1 hW1 hS1 => ihn _ _ _ _ _ _ _ _ _ _ hr hag hle hsq (pm_sk_tl (pm_sk_tl (pm_sk_tl hsk))) hW1 hS1 hl hcl hsl)
    | laload =>
      obtain ⟨k, j, N, i, t, g, rfl, hj, hk, hN, hr⟩ := hr
      exact ps_lald X V.1 hW hI (pm_sk_hd (pm_sk_tl hsk)) hk hj hN (ihn _ _ _ _ _ _ _ _ _ _ hr hag hle hsq (pm_sk_cons trivial (pm_sk_tl (pm_sk_tl hsk))) hW hS hl hcl hsl)
    | lastore =>
      obtain ⟨k, j, N, i, x, t, g, rfl, hj, hk, hN, hr⟩ := hr
      exact ps_last X V.1 hW hS hI (pm_sk_hd (pm_sk_tl (pm_sk_tl hsk))) hk hj hN (fun H1 locs1 hW1 hS1 => ihn _ _ _ _ _ _ _ _ _ _ hr hag hle hsq (pm_sk_tl (pm_sk_tl (pm_sk_tl hsk))) hW1 hS1 hl hcl hsl)
    | aaload =>
      obtain ⟨k, j, N, q, i, t, g, rfl, hj, hk, hq, hN, hr⟩ := hr
      have hk1 : k < h.1 := pm_sk_hd (pm_sk_tl hsk)
      have hse : pm_se h.1 (.inl (2 + q, N, .inr (.inr (.inr (.inr g))))) := by rw [← hk]; exact hW.1 k hk1
      have hsv : pm_sv h.1 (va_rf (g j)) := by
        cases hg : g j with
        | none => trivial
        | some y => exact hse j y hg
      exact ps_aald X V.1 hW hI hk1 hk hq hj hN (ihn _ _ _ _ _ _ _ _ _ _ hr hag hle hsq (pm_sk_cons hsv (pm_sk_tl (pm_sk_tl hsk))) hW hS hl hcl hsl)
    | aastore =>
      obtain ⟨k, j, N, q, y, i, t, fs, g, rfl, hj, hk, hy, hq, hN, hr⟩ := hr
      exact ps_aast X V.1 hW hS hI (pm_sk_hd (pm_sk_tl (pm_sk_tl hsk))) (pm_sk_hd hsk) hk hy hq (pm_qa_ok q hq) hj hN (fun H1 locs1 hW1 hS1 => ihn _ _ _ _ _ _ _ _ _ _ hr hag hle hsq (pm_sk_tl (pm_sk_tl (pm_sk_tl hsk))) hW1 hS1 hl hcl hsl)
    | arraylength =>
      obtain ⟨k, q, N, t, x, rfl, hk, hq, hr⟩ := hr
      exact ps_alen X V.1 hW hI (pm_sk_hd hsk) hk hq (ihn _ _ _ _ _ _ _ _ _ _ hr hag hle hsq (pm_sk_cons trivial (pm_sk_tl hsk)) hW hS hl hcl hsl)
    | newarray a =>
      obtain ⟨N, i, t, rfl, hi, hN, hcc, hss, hr⟩ := hr
      rcases hr with ⟨rfl, hr⟩ | ⟨rfl, hr⟩
      · refine ps_newa X V.1 hW hS hA hI hi hN hcc hss (fun ad' H1 hag' hW1 hS1 => ?_)
        have hl1 : lv_has ls (pm_L M) (pm_rl ad' lv) := by rw [pm_rl_ext hag' hsq]; exact hl
        have hz := ihn _ _ _ _ _ _ ad' _ _ _ hr (fun k hk => (hag' k (Nat.lt_of_lt_of_le hk hle)).trans (hag k hk)) (Nat.le_succ_of_le hle) (pm_sq_mono (Nat.le_succ _) hsq) (pm_sk_cons (Nat.lt_succ_self _) (pm_sk_mono (Nat.le_succ _) (pm_sk_tl hsk))) hW1 hS1 hl1 hcc hss
        rw [List.map_cons, pm_rs_ext hag' (pm_sk_tl hsk)] at hz
        exact hz
      · refine ps_newl X V.1 hW hS hA hI hi hN hcc hss (fun ad' H1 hag' hW1 hS1 => ?_)
        have hl1 : lv_has ls (pm_L M) (pm_rl ad' lv) := by rw [pm_rl_ext hag' hsq]; exact hl
        have hz := ihn _ _ _ _ _ _ ad' _ _ _ hr (fun k hk => (hag' k (Nat.lt_of_lt_of_le hk hle)).trans (hag k hk)) (Nat.le_succ_of_le hle) (pm_sq_mono (Nat.le_succ _) hsq) (pm_sk_cons (Nat.lt_succ_self _) (pm_sk_mono (Nat.le_succ _) (pm_sk_tl hsk))) hW1 hS1 hl1 hcc hss
        rw [List.map_cons, pm_rs_ext hag' (pm_sk_tl hsk)] at hz
        exact hz
    | anewarray i0 =>
      obtain ⟨N, i, t, rfl, hi, hN, hcc, hss, hr⟩ := hr
      refine ps_newq X V.1 hW hS hA hI hi hN hcc hss (fun ad' H1 hag' hW1 hS1 => ?_)
      have hl1 : lv_has ls (pm_L M) (pm_rl ad' lv) := by rw [pm_rl_ext hag' hsq]; exact hl
      have hz := ihn _ _ _ _ _ _ ad' _ _ _ hr (fun k hk => (hag' k (Nat.lt_of_lt_of_le hk hle)).trans (hag k hk)) (Nat.le_succ_of_le hle) (pm_sq_mono (Nat.le_succ _) hsq) (pm_sk_cons (Nat.lt_succ_self _) (pm_sk_mono (Nat.le_succ _) (pm_sk_tl hsk))) hW1 hS1 hl1 hcc hss
      rw [List.map_cons, pm_rs_ext hag' (pm_sk_tl hsk)] at hz
      exact hz
    | new i =>
      rcases hr with ⟨h100, hd8, hcat, hcc, hss, hr, hh⟩ | ⟨hr1, hcc, hss, hr⟩
      · exact ps_throw hlt X V Z hI h100 hd8 hcat hcc hss hag hle hW hS hlz hr hh
      · refine ps_new X V.1 hW hS hA hI hr1 hcc hss (fun ad' H1 hag' hW1 hS1 => ?_)
        have hl1 : lv_has ls (pm_L M) (pm_rl ad' lv) := by rw [pm_rl_ext hag' hsq]; exact hl
        have hz := ihn _ _ _ _ _ _ ad' _ _ _ hr (fun k hk => (hag' k (Nat.lt_of_lt_of_le hk hle)).trans (hag k hk)) (Nat.le_succ_of_le hle) (pm_sq_mono (Nat.le_succ _) hsq) (pm_sk_cons (Nat.lt_succ_self _) (pm_sk_mono (Nat.le_succ _) hsk)) hW1 hS1 hl1 hcc hss
        rw [List.map_cons, pm_rs_ext hag' hsk] at hz
        exact hz
    | invokespecial i =>
      rcases hr with ⟨k, t, h1000, rfl, hd1, hcat, hr⟩ | ⟨b, As, t, h1, c1, s1, hM', rfl, hn, hcat, hcc, hss, hcall, hr⟩
      · have h1000 : r1 = 1000 := h1000
        subst h1000
        refine ps_obj X hlz hI hd1 ?_ (ihn _ _ _ _ _ _ _ _ _ _ hr hag hle hsq (pm_sk_tl hsk) hW hS hl hcl hsl)
        rw [pm_cat_map]
        show pm_cat t + 12 ≤ 32 * d
        omega
      · cases d with
        | zero => exact hcall.elim
        | succ d =>
          obtain ⟨g1, g2⟩ := pm_ini hM hI hM'
          obtain ⟨k1, k2⟩ := pm_sk_app hsk
          refine ps_callI X V Z hW hS hA hlz hI hM' hn hcat hcc hss (ih d rfl r1 (.ref b :: As) h (.inl none) h1 c1 s1 hM' (pm_sk_cons (pm_sk_hd k2) (pm_sk_rev k1)) hcall ad H.size) g1 g2 (fun v ad' H1 locs1 hv hag' hle' hsv hW1 hS1 => ?_)
          cases hv
          have hl1 : lv_has ls (pm_L M) (pm_rl ad' lv) := by rw [pm_rl_ext hag' hsq]; exact hl
          have hz := ihn _ _ _ _ _ _ ad' _ _ _ hr (fun k hk => (hag' k (Nat.lt_of_lt_of_le hk hle)).trans (hag k hk)) (Nat.le_trans hle hle') (pm_sq_mono hle' hsq) (pm_sk_mono hle' (pm_sk_tl k2)) hW1 hS1 hl1 hcc hss
          rw [pm_rs_ext hag' (pm_sk_tl k2)] at hz
          exact hz
    | invokevirtual i =>
      obtain ⟨b, As, t, fs, rr, h1, c1, s1, hM', rfl, hn, hk, hcat, hcc, hss, hcall, hr⟩ := hr
      cases d with
      | zero => exact hcall.elim
      | succ d =>
        obtain ⟨k1, k2⟩ := pm_sk_app hsk
        refine ps_callV X V Z hW hS hA hlz hI hM' hn (pm_sk_hd k2) hk hcat hcc hss (ih d rfl r1 (.ref b :: As) h rr h1 c1 s1 hM' (pm_sk_cons (pm_sk_hd k2) (pm_sk_rev k1)) hcall ad H.size) (fun v ad' H1 locs1 hv hag' hle' hsv hW1 hS1 => ?_) (fun k ad' H1 locs1 q9 ce hv hag' hle' hW1 hS1 hce hcv hcls => ?_)
        · subst hv
          have hr : pm_run (pm_call (d + 1)) (pm_J M) (pm_L M) (pm_T M) (d + 1) bc bs n (pc + 3) lv (v.toList ++ t) (cells + c1) (slots + s1) h1 r h' := hr
          have hl1 : lv_has ls (pm_L M) (pm_rl ad' lv) := by rw [pm_rl_ext hag' hsq]; exact hl
          have hz := ihn _ _ _ _ _ _ ad' _ _ _ hr (fun k hk => (hag' k (Nat.lt_of_lt_of_le hk hle)).trans (hag k hk)) (Nat.le_trans hle hle') (pm_sq_mono hle' hsq) (pm_sk_opt hsv (pm_sk_mono hle' (pm_sk_tl k2))) hW1 hS1 hl1 hcc hss
          rw [← pm_opt_map hag' (pm_sk_tl k2)] at hz
          exact hz
        · subst hv
          obtain ⟨hr1, hh1⟩ : r = .inr k ∧ h' = h1 := hr
          refine vx_out (fun x hx => (hex x hx).elim) hlk hce hcv hcls (fun t1 ht1 _ => ?_) hS1.2.2 hcc hss
          refine ⟨k, ad', hr1, rfl, fun k hk => (hag' k (Nat.lt_of_lt_of_le hk hle)).trans (hag k hk), by rw [hh1]; exact Nat.le_trans hle hle', by rw [hh1, ht1]; exact hW1, hS1.F ht1⟩
    | invokestatic i =>
      rcases hr with ⟨k0, k1, n0', n1, ln, sj, dj, t, x, y, z, f, g, h1001, rfl, hc0, hc1, hsx, hdx, hlx, h4, h5, hd1, hcat, hr⟩ | ⟨As, t, v1, h1, c1, s1, hM', rfl, hn, hcat, hcc, hss, hcall, hr⟩
      · have h1001 : r1 = 1001 := h1001
        subst h1001
        refine ps_copy X V.1 hW hS hlz hI (pm_sk_hd (pm_sk_tl (pm_sk_tl (pm_sk_tl (pm_sk_tl hsk))))) (pm_sk_hd (pm_sk_tl (pm_sk_tl hsk))) hc0 hc1 hsx hdx hlx h4 h5 hd1 ?_ (fun H1 locs1 hW1 hS1 => ihn _ _ _ _ _ _ _ _ _ _ hr hag hle hsq (pm_sk_tl (pm_sk_tl (pm_sk_tl (pm_sk_tl (pm_sk_tl hsk))))) hW1 hS1 hl hcl hsl)
        rw [pm_cat_map]
        have hnf : nativeFrameWords "java/lang/System" "arraycopy" 5 + 11 ≤ 24 := by decide +kernel
        show pm_cat t + (nativeFrameWords "java/lang/System" "arraycopy" 5 + 11) ≤ 32 * d
        omega
      · cases d with
        | zero => exact hcall.elim
        | succ d =>
          obtain ⟨k1, k2⟩ := pm_sk_app hsk
          refine ps_callS X V Z hW hS hA hlz hI hM' hn hcat hcc hss (ih d rfl r1 As h (.inl v1) h1 c1 s1 hM' (pm_sk_rev k1) hcall ad H.size) (fun v ad' H1 locs1 hv hag' hle' hsv hW1 hS1 => ?_)
          cases hv
          have hl1 : lv_has ls (pm_L M) (pm_rl ad' lv) := by rw [pm_rl_ext hag' hsq]; exact hl
          have hz := ihn _ _ _ _ _ _ ad' _ _ _ hr (fun k hk => (hag' k (Nat.lt_of_lt_of_le hk hle)).trans (hag k hk)) (Nat.le_trans hle hle') (pm_sq_mono hle' hsq) (pm_sk_opt hsv (pm_sk_mono hle' k2)) hW1 hS1 hl1 hcc hss
          rw [← pm_opt_map hag' k2] at hz
          exact hz
    | if_icmp k o =>
      obtain ⟨x, y, t, rfl, hr⟩ := hr
      refine ps_icmp X hI (fun hc => ?_) (fun hc => ?_)
      · rcases hr with ⟨-, hr⟩ | ⟨h9, -⟩
        · exact ihn _ _ _ _ _ _ _ _ _ _ hr hag hle hsq (pm_sk_tl (pm_sk_tl hsk)) hW hS hl hcl hsl
        · exact absurd hc h9
      · rcases hr with ⟨h9, -⟩ | ⟨-, hr⟩
        · exact absurd h9 hc
        · exact ihn _ _ _ _ _ _ _ _ _ _ hr hag hle hsq (pm_sk_tl (pm_sk_tl hsk)) hW hS hl hcl hsl
    | ifCond k o =>
      obtain ⟨x, t, rfl, hr⟩ := hr
      refine ps_if X hI (fun hc => ?_) (fun hc => ?_)
      · rcases hr with ⟨-, hr⟩ | ⟨h9, -⟩
        · exact ihn _ _ _ _ _ _ _ _ _ _ hr hag hle hsq (pm_sk_tl hsk) hW hS hl hcl hsl
        · exact absurd hc h9
      · rcases hr with ⟨h9, -⟩ | ⟨-, hr⟩
        · exact absurd h9 hc
        · exact ihn _ _ _ _ _ _ _ _ _ _ hr hag hle hsq (pm_sk_tl hsk) hW hS hl hcl hsl
    | ifnull o =>
      obtain ⟨v, t, rfl, hr⟩ := hr
      obtain ⟨hdg, hok⟩ := pm_at hM hI (fun z => by cases z)
      unfold pm_ok at hok
      rw [hI] at hok
      rcases hr with ⟨rfl, hr⟩ | ⟨k, rfl, hr⟩
      · exact lv_ifnullN hx hb hdg (of_decide_eq_true hok) (ihn _ _ _ _ _ _ _ _ _ _ hr hag hle hsq (pm_sk_tl hsk) hW hS hl hcl hsl)
      · exact lv_ifnull hx hb hdg (ihn _ _ _ _ _ _ _ _ _ _ hr hag hle hsq (pm_sk_tl hsk) hW hS hl hcl hsl)
    | ifnonnull o =>
      obtain ⟨v, t, rfl, hr⟩ := hr
      obtain ⟨hdg, hok⟩ := pm_at hM hI (fun z => by cases z)
      unfold pm_ok at hok
      rw [hI] at hok
      rcases hr with ⟨rfl, hr⟩ | ⟨k, rfl, hr⟩
      · exact lv_ifnonnullN hx hb hdg (ihn _ _ _ _ _ _ _ _ _ _ hr hag hle hsq (pm_sk_tl hsk) hW hS hl hcl hsl)
      · exact lv_ifnonnull hx hb hdg (of_decide_eq_true hok) (ihn _ _ _ _ _ _ _ _ _ _ hr hag hle hsq (pm_sk_tl hsk) hW hS hl hcl hsl)
    | tableswitch df lo hi offs =>
      obtain ⟨x, off, tgt, t, rfl, hcase, htg, hr⟩ := hr
      obtain ⟨hdg, -⟩ := pm_at hM hI (fun z => by cases z)
      rcases hcase with ⟨h9, rfl⟩ | ⟨h8, h9, hoff⟩
      · exact lv_tableOut hx hb hdg h9 htg (ihn _ _ _ _ _ _ _ _ _ _ hr hag hle hsq (pm_sk_tl hsk) hW hS hl hcl hsl)
      · exact lv_tableIn hx hb hdg h8 h9 hoff htg (ihn _ _ _ _ _ _ _ _ _ _ hr hag hle hsq (pm_sk_tl hsk) hW hS hl hcl hsl)
    | lookupswitch df ps =>
      obtain ⟨x, tgt, t, rfl, hps, htg, hr⟩ := hr
      obtain ⟨hdg, -⟩ := pm_at hM hI (fun z => by cases z)
      exact lv_lookup hx hb hdg hps rfl htg (ihn _ _ _ _ _ _ _ _ _ _ hr hag hle hsq (pm_sk_tl hsk) hW hS hl hcl hsl)
    | ireturn =>
      obtain ⟨x, rfl, hf, hr, hh⟩ := hr
      obtain ⟨hdg, -⟩ := pm_at hM hI (fun z => by cases z)
      have hq := ps_ret (args := args) hag hle hW hS (v := some (.int x)) (fun w hw => by cases hw; trivial) hr hh
      have : ∃ ty, pm_T M = some ty ∧ narrow ty (.int x) = .int x := by
        cases hT : pm_T M with
        | none => rw [hT] at hf; cases hf
        | some ty =>
          rw [hT] at hf
          refine ⟨ty, rfl, ?_⟩
          cases ty <;> first | rfl | (rcases of_decide_eq_true hf with rfl | rfl <;> rfl) | cases hf
      obtain ⟨ty, hT, hnar⟩ := this
      exact vx_ret (W.widen hcl hsl (W.zret hx hb (hrt.trans hT) hnar hq hS.2.2 hdg hlk))
    | lreturn =>
      obtain ⟨x, rfl, hf, hr, hh⟩ := hr
      obtain ⟨hdg, -⟩ := pm_at hM hI (fun z => by cases z)
      have hq := ps_ret (args := args) hag hle hW hS (v := some (.long x)) (fun w hw => by cases hw; trivial) hr hh
      have hT : pm_T M = some .long := by
        cases hT : pm_T M with
        | none => rw [hT] at hf; cases hf
        | some ty => rw [hT] at hf; cases ty <;> first | rfl | cases hf
      exact vx_ret (W.widen hcl hsl (W.lret hx hb (hrt.trans hT) hq hS.2.2 hdg hlk))
    | areturn =>
      obtain ⟨v, rfl, hR, hf, hr, hh⟩ := hr
      obtain ⟨hdg, -⟩ := pm_at hM hI (fun z => by cases z)
      have hq := ps_ret (args := args) hag hle hW hS (v := some v) (fun w hw => by cases hw; exact pm_sk_hd hsk) hr hh
      have : ∃ nm, pm_T M = some (.object nm) ∧ (pm_rv ad v = .null ∨ ∃ a, pm_rv ad v = .ref a) := by
        cases hT : pm_T M with
        | none => rw [hT] at hf; cases v <;> cases hf
        | some ty =>
          rw [hT] at hf
          clear hdef hq hr; cases ty <;> cases v <;> first | exact ⟨_, rfl, Or.inl rfl⟩ | exact ⟨_, rfl, Or.inr ⟨_, rfl⟩⟩ | (exfalso; clear ihn hI; simp [pm_rfit, pm_isR] at hf hR; done)
      obtain ⟨nm, hT, hv⟩ := this
      exact vx_ret (W.widen hcl hsl (W.aret hx hb (hrt.trans hT) (Or.inl ⟨nm, rfl⟩) hv hq hS.2.2 hdg hlk))
    | return_ =>
      obtain ⟨rfl, hf, hr, hh⟩ := hr
      obtain ⟨hdg, -⟩ := pm_at hM hI (fun z => by cases z)
      have hq := ps_ret (args := args) hag hle hW hS (v := none) (fun w hw => by cases hw) hr hh
      exact vx_ret (W.widen hcl hsl (W.vret hx hb (hrt.trans hf) hq hS.2.2 hdg hlk))
    | _ => exact hdef hr
end PSM
/-- every call of the pure machine is met by the machine -/
theorem pm_sound (l : Launch) (hlt : l.stackTraces = false) (D : va_G) (cy : Nat → ClassId) : ∀ d, pm_IH l D cy d := by
  intro d
  induction d with
  | zero => intro d' hd; cases hd
  | succ d ih =>
    intro d' hd M As h r h' bc bs hM hsk hcall ad sz
    cases hd
    obtain ⟨hlen, n, hr⟩ := hcall
    obtain ⟨-, hL, hpl, hcls, hO⟩ := pm_all M hM
    refine vx_ofW (cc := pm_B M) (maxL := pm_L M) (ret := pm_T M) hpl rfl ?_
    intro p e s m args below meth c s₁ B hml hex hv
    obtain ⟨rfl, hsz, hW, hE, hZ⟩ := hv
    subst hsz
    have hts := atoms_spec (ws := pm_ws M) B.pre
    have hown : s.vm.findClass (pm_R (pm_O M)) = some m.cls := by rw [← hcls]; exact findClass_of_methodNamed B.named
    have X : pm_Cx p s m (As.map (pm_rv ad)).toArray meth c M := ⟨hM, B.exec, B.bytes, hml, hown, fun w hw => hts w (List.mem_cons_of_mem _ hw), B.returns, B.notSynchronized, (name_of_methodNamed B.named B.method).1, hex⟩
    have hD : va_D (pm_A ad h.1 s.heap.size) (pm_wl cy ad h) := by
      refine ⟨hW.2.2.1, fun k q hk => ?_⟩
      have hk1 : k < h.1 := by
        have := (List.getElem?_eq_some_iff.mp hk).1
        rw [pm_wl_len] at this
        exact this
      rw [pm_wl_at hk1] at hk
      cases hk
      exact Or.inl ⟨k, hk1, rfl⟩
    have hl := lv_entry (As.map (pm_rv ad)) (n := pm_L M) (by rw [pm_sl_len]; exact hlen)
    rw [pm_args_rl] at hl
    rw [lg_entry_eq]
    exact pm_run_sound hlt ih X hE hZ n 0 (lv_args 0 As) [] 0 0 h ad s.heap [] _ hr (fun _ _ => rfl) (Nat.le_refl _) (pm_args_sq _ _ _ hsk) (fun v hv => by cases hv) ⟨hW.1, hW.2.1, hD⟩ va_S.rf hl (Nat.zero_le _) (Nat.zero_le _)
