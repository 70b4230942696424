/-! THE PURE MACHINE IS SOUND: the instructions that touch neither heap nor calls -/
theorem pm_in_gw {w : Cond} (h : w ∈ lw_tbl ∧ ((w.onTables && w.keeps) = true ∨ ∃ ty, w = .arrayClass ty)) : w ∈ pm_gw := by
  refine List.mem_filter.mpr ⟨h.1, ?_⟩
  rcases h.2 with h | ⟨ty, rfl⟩
  · cases w <;> first | rfl | exact h
  · rfl
theorem pm_gw_good : GoodIn pm_gw pm_gw := fun w hw => ⟨hw, good_of_word (List.mem_filter.mp hw).2⟩
theorem pm_of {ws : List Cond} {args : Array Value} {s : State} (hts : ∀ w ∈ pm_gw, w.before args s = true) (hG : GoodIn lw_tbl ws) {w : Cond} (hw : w ∈ ws) : w.before args s = true := hts w (pm_in_gw (hG w hw))
theorem pm_ld_spec {lv : List (Nat × Value)} {st : List Value} {i : Nat} {ok : Value → Bool} {pc : Nat} {q : Nat × List (Nat × Value) × List Value} (h : pm_ld lv st i ok pc = some q) : ∃ v, pm_get lv i = some v ∧ ok v = true ∧ q = (pc, lv, v :: st) := by
  unfold pm_ld at h
  split at h
  · rename_i v hv
    split at h
    · rename_i ho
      cases h
      exact ⟨v, hv, ho, rfl⟩
    · cases h
  · cases h
theorem pm_sto_spec {nL : Nat} {lv : List (Nat × Value)} {st : List Value} {i : Nat} {ok : Value → Bool} {pc : Nat} {q : Nat × List (Nat × Value) × List Value} (h : pm_sto nL lv st i ok pc = some q) : ∃ v t, st = v :: t ∧ ok v = true ∧ i < nL ∧ q = (pc, pm_put lv i v, t) := by
  unfold pm_sto at h
  split at h
  · rename_i v t
    split at h
    · rename_i ho
      cases h
      exact ⟨v, t, rfl, ho.1, ho.2, rfl⟩
    · cases h
  · cases h
theorem pm_sto2_spec {nL : Nat} {lv : List (Nat × Value)} {st : List Value} {i : Nat} {ok : Value → Bool} {pc : Nat} {q : Nat × List (Nat × Value) × List Value} (h : pm_sto2 nL lv st i ok pc = some q) : ∃ v t, st = v :: t ∧ ok v = true ∧ i + 1 < nL ∧ q = (pc, pm_put2 lv i v, t) := by
  unfold pm_sto2 at h
  split at h
  · rename_i v t
    split at h
    · rename_i ho
      cases h
      exact ⟨v, t, rfl, ho.1, ho.2, rfl⟩
    · cases h
  · cases h
theorem pm_isI_spec {v : Value} (h : pm_isI v = true) : ∃ x, v = .int x := by cases v <;> first | exact ⟨_, rfl⟩ | cases h
theorem pm_isL_spec {v : Value} (h : pm_isL v = true) : ∃ x, v = .long x := by cases v <;> first | exact ⟨_, rfl⟩ | cases h
theorem pm_isR_spec {v : Value} (h : pm_isR v = true) : v = .null ∨ ∃ x, v = .ref x := by cases v <;> first | exact Or.inl rfl | exact Or.inr ⟨_, rfl⟩ | cases h
/-- what the table says at a place that holds an instruction -/
theorem pm_at {M : Nat} (hM : M < pm_nM) {pc : Nat} {ins : Instr} {r1 r2 : Nat} {k : Int32} (hI : pm_J M pc = (ins, r1, r2, k)) (hn : ins ≠ .nop) : decode (pm_B M) pc = .ok (ins, pm_len ins r2) ∧ pm_ok (pm_O M) (decide ((pm_Y M).name = "<init>")) (pm_J M) pc = true := by
  have h := (pm_all M hM).1 pc (by rw [hI]; exact hn)
  unfold pm_chk at h
  rw [hI] at h
  simp only [Bool.or_eq_true, Bool.and_eq_true, decide_eq_true_eq] at h
  exact h.elim (fun z => absurd z hn) id
section PSS
variable {p : Program} {l : Launch} {e : Env} {R : Room} {s : State} {m : MethodId} {args : Array Value} {below : List Frame} {meth : Method} {c : Code} {H : Heap} {locs : List Loc} {cells slots : Nat} {Q : State → Prop}
set_option maxHeartbeats 4000000 in
theorem ps_simple {M : Nat} (hM : M < pm_nM) (hx : p.tables.exec = Jvm.exec) (hb : c.code = pm_B M) (hown : s.vm.findClass (pm_R (pm_O M)) = some m.cls) (hts : ∀ w ∈ pm_gw, w.before args s = true) {ad : Nat → Nat} {ls : Array Slot} {lv : List (Nat × Value)} {st : List Value} {pc : Nat} {q : Nat × List (Nat × Value) × List Value}
    (hl : lv_has ls (pm_L M) (pm_rl ad lv)) (hs : pm_s (pm_L M) (pm_J M pc) pc lv st = some q)
    (kk : ∀ ls' : Array Slot, lv_has ls' (pm_L M) (pm_rl ad q.2.1) → W p l e R s m args below meth c H locs cells slots Q (F0 m q.1 ls' (q.2.2.map (pm_rv ad)))) : W p l e R s m args below meth c H locs cells slots Q (F0 m pc ls (st.map (pm_rv ad))) := by
  rcases hI : pm_J M pc with ⟨ins, r1, r2, kz⟩
  have hn : ins ≠ .nop := fun z => by rw [hI, z] at hs; cases hs
  obtain ⟨hdg, hok⟩ := pm_at hM hI hn
  unfold pm_ok at hok
  rw [hI] at hok hs
  cases ins with
  | iconst n => cases hs; exact lv_iconst hx hb hdg (of_decide_eq_true hok) (kk ls hl)
  | bipush n => cases hs; exact lv_bipush hx hb hdg (of_decide_eq_true hok) (kk ls hl)
  | sipush n => cases hs; exact lv_sipush hx hb hdg (of_decide_eq_true hok) (kk ls hl)
  | lconst n => cases hs; exact lv_lconst hx hb hdg (by have h9 : n.val = r1 := of_decide_eq_true hok; rw [← h9]; rfl) (kk ls hl)
  | ldc2_w i => cases hs; exact lv_ldc2 hx hb hown (pm_of hts pf_k (List.mem_map.mpr ⟨(pm_O M, i, r1), List.contains_iff_mem.mp hok, rfl⟩)) hdg (kk ls hl)
  | aconst_null => cases hs; exact lv_null hx hb hdg (kk ls hl)
  | iload i =>
    obtain ⟨v, hg, ho, rfl⟩ := pm_ld_spec hs
    obtain ⟨x, rfl⟩ := pm_isI_spec ho
    exact lv_iload hx hb hdg (pm_get_ls hl hg) (kk ls hl)
  | iload_n i =>
    obtain ⟨v, hg, ho, rfl⟩ := pm_ld_spec hs
    obtain ⟨x, rfl⟩ := pm_isI_spec ho
    exact lv_iload_n hx hb hdg rfl (pm_get_ls hl hg) (kk ls hl)
  | lload i =>
    obtain ⟨v, hg, ho, rfl⟩ := pm_ld_spec hs
    obtain ⟨x, rfl⟩ := pm_isL_spec ho
    exact lv_lload hx hb hdg (pm_get_ls hl hg) (kk ls hl)
  | lload_n i =>
    obtain ⟨v, hg, ho, rfl⟩ := pm_ld_spec hs
    obtain ⟨x, rfl⟩ := pm_isL_spec ho
    exact lv_lload_n hx hb hdg rfl (pm_get_ls hl hg) (kk ls hl)
  | aload i =>
    obtain ⟨v, hg, ho, rfl⟩ := pm_ld_spec hs
    rcases pm_isR_spec ho with rfl | ⟨x, rfl⟩
    · exact lv_aloadN hx hb hdg (pm_get_ls hl hg) (kk ls hl)
    · exact lv_aload hx hb hdg (pm_get_ls hl hg) (kk ls hl)
  | aload_n i =>
    obtain ⟨v, hg, ho, rfl⟩ := pm_ld_spec hs
    rcases pm_isR_spec ho with rfl | ⟨x, rfl⟩
    · exact lv_aload_nN hx hb hdg rfl (pm_get_ls hl hg) (kk ls hl)
    · exact lv_aload_n hx hb hdg rfl (pm_get_ls hl hg) (kk ls hl)
  | istore i =>
    obtain ⟨v, t, rfl, ho, hi, rfl⟩ := pm_sto_spec hs
    obtain ⟨x, rfl⟩ := pm_isI_spec ho
    exact lv_istore hx hb hdg hl hi (pm_rl_put ad lv i (.int x)) kk
  | istore_n i =>
    obtain ⟨v, t, rfl, ho, hi, rfl⟩ := pm_sto_spec hs
    obtain ⟨x, rfl⟩ := pm_isI_spec ho
    exact lv_istore_n hx hb hdg rfl hl hi (pm_rl_put ad lv i.val (.int x)) kk
  | astore i =>
    obtain ⟨v, t, rfl, ho, hi, rfl⟩ := pm_sto_spec hs
    rcases pm_isR_spec ho with rfl | ⟨x, rfl⟩
    · exact lv_astoreN hx hb hdg hl hi (pm_rl_put ad lv i .null) kk
    · exact lv_astore hx hb hdg hl hi (pm_rl_put ad lv i (.ref x)) kk
  | astore_n i =>
    obtain ⟨v, t, rfl, ho, hi, rfl⟩ := pm_sto_spec hs
    rcases pm_isR_spec ho with rfl | ⟨x, rfl⟩
    · exact lv_astore_nN hx hb hdg rfl hl hi (pm_rl_put ad lv i.val .null) kk
    · exact lv_astore_n hx hb hdg rfl hl hi (pm_rl_put ad lv i.val (.ref x)) kk
  | lstore i =>
    obtain ⟨v, t, rfl, ho, hi, rfl⟩ := pm_sto2_spec hs
    obtain ⟨x, rfl⟩ := pm_isL_spec ho
    exact lv_lstore hx hb hdg hl hi (pm_rl_put2 ad lv i (.long x)) kk
  | lstore_n i =>
    obtain ⟨v, t, rfl, ho, hi, rfl⟩ := pm_sto2_spec hs
    obtain ⟨x, rfl⟩ := pm_isL_spec ho
    exact lv_lstore_n hx hb hdg rfl hl hi (pm_rl_put2 ad lv i.val (.long x)) kk
  | iinc i n =>
    simp only [pm_s] at hs
    split at hs
    · rename_i x hg
      split at hs
      · rename_i hi
        cases hs
        obtain ⟨j, hj⟩ := List.getElem?_of_mem (show (i, Value.int x) ∈ pm_rl ad lv from List.mem_map.mpr ⟨(i, .int x), pm_get_mem hg, rfl⟩)
        exact lv_iinc hx hb hdg hl hj (by rw [of_decide_eq_true hok]) hi (pm_rl_put ad lv i (.int (x + kz))) kk
      · cases hs
    · cases hs
  | iadd =>
    simp only [pm_s] at hs
    split at hs
    · cases hs; exact lv_iadd hx hb hdg (kk ls hl)
    · cases hs
  | isub =>
    simp only [pm_s] at hs
    split at hs
    · cases hs; exact lv_isub hx hb hdg (kk ls hl)
    · cases hs
  | imul =>
    simp only [pm_s] at hs
    split at hs
    · cases hs; exact lv_imul hx hb hdg (kk ls hl)
    · cases hs
  | iand =>
    simp only [pm_s] at hs
    split at hs
    · cases hs; exact lv_iand hx hb hdg (kk ls hl)
    · cases hs
  | ior =>
    simp only [pm_s] at hs
    split at hs
    · cases hs; exact lv_ior hx hb hdg (kk ls hl)
    · cases hs
  | ixor =>
    simp only [pm_s] at hs
    split at hs
    · cases hs; exact lv_ixor hx hb hdg (kk ls hl)
    · cases hs
  | ishl =>
    simp only [pm_s] at hs
    split at hs
    · cases hs; exact lv_ishl hx hb hdg (kk ls hl)
    · cases hs
  | ishr =>
    simp only [pm_s] at hs
    split at hs
    · cases hs; exact lv_ishr hx hb hdg (kk ls hl)
    · cases hs
  | iushr =>
    simp only [pm_s] at hs
    split at hs
    · cases hs; exact lv_iushr hx hb hdg rfl (kk ls hl)
    · cases hs
  | ladd =>
    simp only [pm_s] at hs
    split at hs
    · cases hs; exact lv_ladd hx hb hdg (kk ls hl)
    · cases hs
  | lmul =>
    simp only [pm_s] at hs
    split at hs
    · cases hs; exact lv_lmul hx hb hdg (kk ls hl)
    · cases hs
  | land =>
    simp only [pm_s] at hs
    split at hs
    · cases hs; exact lv_land hx hb hdg (kk ls hl)
    · cases hs
  | lor =>
    simp only [pm_s] at hs
    split at hs
    · cases hs; exact lv_lor hx hb hdg (kk ls hl)
    · cases hs
  | lshl =>
    simp only [pm_s] at hs
    split at hs
    · cases hs; exact lv_lshl hx hb hdg rfl (kk ls hl)
    · cases hs
  | lshr =>
    simp only [pm_s] at hs
    split at hs
    · cases hs; exact lv_lshr hx hb hdg rfl (kk ls hl)
    · cases hs
  | i2l =>
    simp only [pm_s] at hs
    split at hs
    · cases hs; exact lv_i2l hx hb hdg rfl (kk ls hl)
    · cases hs
  | l2i =>
    simp only [pm_s] at hs
    split at hs
    · cases hs; exact lv_l2i hx hb hdg rfl (kk ls hl)
    · cases hs
  | lcmp =>
    simp only [pm_s] at hs
    split at hs
    · cases hs; exact W.lcmp hx hb hdg (kk ls hl)
    · cases hs
  | idiv =>
    simp only [pm_s] at hs
    split at hs
    · split at hs
      · cases hs
      · rename_i hy; cases hs; exact lv_idiv hx hb hdg hy (kk ls hl)
    · cases hs
  | irem =>
    simp only [pm_s] at hs
    split at hs
    · split at hs
      · cases hs
      · rename_i hy; cases hs; exact lv_irem hx hb hdg hy (kk ls hl)
    · cases hs
  | dup =>
    simp only [pm_s] at hs
    split at hs
    · rename_i v t
      split at hs
      · rename_i hv; cases hs; exact lv_dup hx hb hdg (by rw [pm_rv_cat]; exact hv) (kk ls hl)
      · cases hs
    · cases hs
  | pop =>
    simp only [pm_s] at hs
    split at hs
    · rename_i v t
      split at hs
      · rename_i hv; cases hs; exact lv_pop hx hb hdg (by rw [pm_rv_cat]; exact hv) (kk ls hl)
      · cases hs
    · cases hs
  | dup2 =>
    simp only [pm_s] at hs
    split at hs
    · rename_i v w t
      split at hs
      · rename_i hv; cases hs; exact lv_dup2_11 hx hb hdg (by rw [pm_rv_cat]; exact hv.1) (by rw [pm_rv_cat]; exact hv.2) (kk ls hl)
      · cases hs
    · cases hs
  | goto f => cases hs; exact lv_goto hx hb hdg (of_decide_eq_true hok) (kk ls hl)
  | _ => cases hs
end PSS
