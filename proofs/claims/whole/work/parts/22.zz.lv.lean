/-! FEWER LOCALS: a run with some of the locals is a run with all of them -/
def pm_nd : List (Nat × Value) → Bool
  | [] => true
  | (j, _) :: l => !(l.any (fun q => q.1 == j)) && pm_nd l
def pm_le (l1 l2 : List (Nat × Value)) : Prop := ∀ i v, pm_get l1 i = some v → pm_get l2 i = some v
theorem pm_get_cons (j : Nat) (w : Value) (l : List (Nat × Value)) (i : Nat) : pm_get ((j, w) :: l) i = if j = i then some w else pm_get l i := rfl
theorem pm_get_filt {P : Nat × Value → Bool} : ∀ {l : List (Nat × Value)} {i : Nat} {v : Value}, pm_get l i = some v → P (i, v) = true → pm_get (l.filter P) i = some v
  | [], _, _, h, _ => by cases h
  | (j, w) :: l, i, v, h, hP => by
    rw [pm_get_cons] at h
    split at h
    · rename_i hj
      cases h
      subst hj
      rw [List.filter_cons_of_pos hP, pm_get_cons, if_pos rfl]
    · rename_i hj
      by_cases hp : P (j, w) = true
      · rw [List.filter_cons_of_pos hp, pm_get_cons, if_neg hj]
        exact pm_get_filt h hP
      · rw [List.filter_cons_of_neg hp]
        exact pm_get_filt h hP
theorem pm_get_nd : ∀ {l : List (Nat × Value)} {i : Nat} {v : Value}, pm_nd l = true → (i, v) ∈ l → pm_get l i = some v
  | [], _, _, _, h => by cases h
  | (j, w) :: l, i, v, hn, h => by
    unfold pm_nd at hn
    obtain ⟨h1, h2⟩ := Bool.and_eq_true_iff.mp hn
    rw [pm_get_cons]
    rcases List.mem_cons.mp h with e | e
    · cases e; rw [if_pos rfl]
    · rw [if_neg ?_]
      · exact pm_get_nd h2 e
      · intro z
        subst z
        have : l.any (fun q => q.1 == j) = true := List.any_eq_true.mpr ⟨_, e, by simp⟩
        rw [this] at h1
        cases h1
theorem pm_nd_filt {P : Nat × Value → Bool} : ∀ {l : List (Nat × Value)}, pm_nd l = true → pm_nd (l.filter P) = true
  | [], _ => rfl
  | (j, w) :: l, hn => by
    unfold pm_nd at hn
    obtain ⟨h1, h2⟩ := Bool.and_eq_true_iff.mp hn
    by_cases hp : P (j, w) = true
    · rw [List.filter_cons_of_pos hp]
      unfold pm_nd
      refine Bool.and_eq_true_iff.mpr ⟨?_, pm_nd_filt h2⟩
      cases ha : (l.filter P).any (fun q => q.1 == j) with
      | false => rfl
      | true =>
        obtain ⟨q, hq, hq2⟩ := List.any_eq_true.mp ha
        have : l.any (fun q => q.1 == j) = true := List.any_eq_true.mpr ⟨q, (List.mem_filter.mp hq).1, hq2⟩
        rw [this] at h1
        cases h1
    · rw [List.filter_cons_of_neg hp]
      exact pm_nd_filt h2
theorem pm_nd_put {P : Nat × Value → Bool} {l : List (Nat × Value)} {i : Nat} {v : Value} (hP : ∀ w, P (i, w) = false) (hn : pm_nd l = true) : pm_nd ((i, v) :: l.filter P) = true := by
  unfold pm_nd
  refine Bool.and_eq_true_iff.mpr ⟨?_, pm_nd_filt hn⟩
  cases ha : (l.filter P).any (fun q => q.1 == i) with
  | false => rfl
  | true =>
    obtain ⟨⟨a, b⟩, hq, hq2⟩ := List.any_eq_true.mp ha
    have e : a = i := by simpa using hq2
    subst e
    have := (List.mem_filter.mp hq).2
    rw [hP b] at this
    cases this
theorem pm_le_put {P : Nat × Value → Bool} {l1 l2 : List (Nat × Value)} {i : Nat} {v : Value} (hn : pm_nd l1 = true) (h : pm_le l1 l2) : pm_le ((i, v) :: l1.filter P) ((i, v) :: l2.filter P) := by
  intro j w hj
  rw [pm_get_cons] at hj ⊢
  split
  · rename_i e
    rw [if_pos e] at hj
    exact hj
  · rename_i e
    rw [if_neg e] at hj
    have hm := List.mem_filter.mp (pm_get_mem hj)
    exact pm_get_filt (h j w (pm_get_nd hn hm.1)) hm.2
theorem pm_s_lv {nL pc : Nat} {I : pm_I} {l1 l2 : List (Nat × Value)} {st : List Value} {q : Nat × List (Nat × Value) × List Value} (hn : pm_nd l1 = true) (h : pm_le l1 l2) (hs : pm_s nL I pc l1 st = some q) : ∃ l2', pm_s nL I pc l2 st = some (q.1, l2', q.2.2) ∧ pm_nd q.2.1 = true ∧ pm_le q.2.1 l2' := by
  obtain ⟨ins, r1, r2, kz⟩ := I
  have hld : ∀ {i : Nat} {ok : Value → Bool} {pc : Nat}, pm_ld l1 st i ok pc = some q → ∃ l2', pm_ld l2 st i ok pc = some (q.1, l2', q.2.2) ∧ pm_nd q.2.1 = true ∧ pm_le q.2.1 l2' := fun z => by
    obtain ⟨v, hg, ho, rfl⟩ := pm_ld_spec z
    refine ⟨l2, ?_, hn, h⟩
    unfold pm_ld
    rw [h _ _ hg]
    simp [ho]
  have hst : ∀ {i : Nat} {ok : Value → Bool} {pc : Nat}, pm_sto nL l1 st i ok pc = some q → ∃ l2', pm_sto nL l2 st i ok pc = some (q.1, l2', q.2.2) ∧ pm_nd q.2.1 = true ∧ pm_le q.2.1 l2' := fun {i ok pc} z => by
    obtain ⟨v, t, rfl, ho, hi, rfl⟩ := pm_sto_spec z
    refine ⟨pm_put l2 i v, ?_, pm_nd_put (fun w => by simp) hn, pm_le_put hn h⟩
    unfold pm_sto
    simp [ho, hi]
  have hst2 : ∀ {i : Nat} {ok : Value → Bool} {pc : Nat}, pm_sto2 nL l1 st i ok pc = some q → ∃ l2', pm_sto2 nL l2 st i ok pc = some (q.1, l2', q.2.2) ∧ pm_nd q.2.1 = true ∧ pm_le q.2.1 l2' := fun {i ok pc} z => by
    obtain ⟨v, t, rfl, ho, hi, rfl⟩ := pm_sto2_spec z
    refine ⟨pm_put2 l2 i v, ?_, pm_nd_put (fun w => by simp) hn, pm_le_put hn h⟩
    unfold pm_sto2
    simp [ho, hi]
  cases ins with
  | iload i => exact hld hs
  | iload_n i => exact hld hs
  | lload i => exact hld hs
  | lload_n i => exact hld hs
  | aload i => exact hld hs
  | aload_n i => exact hld hs
  | istore i => exact hst hs
  | istore_n i => exact hst hs
  | astore i => exact hst hs
  | astore_n i => exact hst hs
  | lstore i => exact hst2 hs
  | lstore_n i => exact hst2 hs
  | iinc i k =>
    simp only [pm_s] at hs ⊢
    split at hs
    · rename_i x hg
      split at hs
      · rename_i hi
        cases hs
        rw [h _ _ hg]
        exact ⟨pm_put l2 i (.int (x + kz)), by simp [hi], pm_nd_put (fun w => by simp) hn, pm_le_put hn h⟩
      · cases hs
    · cases hs
  | _ =>
    simp only [pm_s] at hs ⊢
    first
      | (cases hs; done)
      | (cases hs; exact ⟨l2, rfl, hn, h⟩)
      | (split at hs
         · first
           | (cases hs; exact ⟨l2, rfl, hn, h⟩)
           | (split at hs
              · first
                | (cases hs; done)
                | (rename_i hc; cases hs; exact ⟨l2, by simp [hc], hn, h⟩)
              · first
                | (cases hs; done)
                | (rename_i hc; cases hs; exact ⟨l2, by simp [hc], hn, h⟩))
         · cases hs)
set_option maxHeartbeats 4000000 in
theorem pm_run_lv {S : Nat → List Value → pm_H → pm_V → pm_H → Nat → Nat → Prop} {J : Nat → pm_I} {nL : Nat} {rt : Option FieldType} {d bc bs : Nat} {r : pm_V} {h' : pm_H} : ∀ (n pc : Nat) (l1 l2 : List (Nat × Value)) (st : List Value) (c s : Nat) (h : pm_H), pm_nd l1 = true → pm_le l1 l2 → pm_run S J nL rt d bc bs n pc l1 st c s h r h' → pm_run S J nL rt d bc bs n pc l2 st c s h r h' := by
  intro n
  induction n with
  | zero => intro pc l1 l2 st c s h _ _ hr; exact hr
  | succ n ih =>
    intro pc l1 l2 st c s h hn hle hr
    unfold pm_run at hr ⊢
    cases hi : (J pc).1 with
    | getfield i => rw [hi] at hr; obtain ⟨k, t, fs, v, a1, a2, a3, hr⟩ := hr; exact ⟨k, t, fs, v, a1, a2, a3, ih _ _ _ _ _ _ _ hn hle hr⟩
    | putfield i => rw [hi] at hr; obtain ⟨k, t, fs, v, a1, a2, a3, a4, hr⟩ := hr; exact ⟨k, t, fs, v, a1, a2, a3, a4, ih _ _ _ _ _ _ _ hn hle hr⟩
    | iaload => rw [hi] at hr; obtain ⟨k, j, N, i, t, g, a1, a2, a3, a4, hr⟩ := hr; exact ⟨k, j, N, i, t, g, a1, a2, a3, a4, ih _ _ _ _ _ _ _ hn hle hr⟩
    | iastore => rw [hi] at hr; obtain ⟨k, j, N, i, x, t, g, a1, a2, a3, a4, hr⟩ := hr; exact ⟨k, j, N, i, x, t, g, a1, a2, a3, a4, ih _ _ _ _ _ _ _ hn hle hr⟩
    | laload => rw [hi] at hr; obtain ⟨k, j, N, i, t, g, a1, a2, a3, a4, hr⟩ := hr; exact ⟨k, j, N, i, t, g, a1, a2, a3, a4, ih _ _ _ _ _ _ _ hn hle hr⟩
    | lastore => rw [hi] at hr; obtain ⟨k, j, N, i, x, t, g, a1, a2, a3, a4, hr⟩ := hr; exact ⟨k, j, N, i, x, t, g, a1, a2, a3, a4, ih _ _ _ _ _ _ _ hn hle hr⟩
    | aaload => rw [hi] at hr; obtain ⟨k, j, N, q, i, t, g, a1, a2, a3, a4, a5, hr⟩ := hr; exact ⟨k, j, N, q, i, t, g, a1, a2, a3, a4, a5, ih _ _ _ _ _ _ _ hn hle hr⟩
    | aastore => rw [hi] at hr; obtain ⟨k, j, N, q, y, i, t, fs, g, a1, a2, a3, a4, a5, a6, hr⟩ := hr; exact ⟨k, j, N, q, y, i, t, fs, g, a1, a2, a3, a4, a5, a6, ih _ _ _ _ _ _ _ hn hle hr⟩
    | arraylength => rw [hi] at hr; obtain ⟨k, q, N, t, x, a1, a2, a3, hr⟩ := hr; exact ⟨k, q, N, t, x, a1, a2, a3, ih _ _ _ _ _ _ _ hn hle hr⟩
    | newarray a =>
      rw [hi] at hr
      obtain ⟨N, i, t, a1, a2, a3, a4, a5, hr⟩ := hr
      refine ⟨N, i, t, a1, a2, a3, a4, a5, ?_⟩
      rcases hr with ⟨b1, hr⟩ | ⟨b1, hr⟩
      · exact Or.inl ⟨b1, ih _ _ _ _ _ _ _ hn hle hr⟩
      · exact Or.inr ⟨b1, ih _ _ _ _ _ _ _ hn hle hr⟩
    | anewarray i => rw [hi] at hr; obtain ⟨N, i, t, a1, a2, a3, a4, a5, hr⟩ := hr; exact ⟨N, i, t, a1, a2, a3, a4, a5, ih _ _ _ _ _ _ _ hn hle hr⟩
    | new i =>
      rw [hi] at hr
      rcases hr with hr | ⟨a1, a2, a3, hr⟩
      · exact Or.inl hr
      · exact Or.inr ⟨a1, a2, a3, ih _ _ _ _ _ _ _ hn hle hr⟩
    | invokespecial i =>
      rw [hi] at hr
      rcases hr with ⟨k, t, a1, a2, a3, a4, hr⟩ | ⟨b, As, t, h1, c1, s1, a1, a2, a3, a4, a5, a6, a7, hr⟩
      · exact Or.inl ⟨k, t, a1, a2, a3, a4, ih _ _ _ _ _ _ _ hn hle hr⟩
      · exact Or.inr ⟨b, As, t, h1, c1, s1, a1, a2, a3, a4, a5, a6, a7, ih _ _ _ _ _ _ _ hn hle hr⟩
    | invokevirtual i =>
      rw [hi] at hr
      obtain ⟨b, As, t, fs, rr, h1, c1, s1, a1, a2, a3, a4, a5, a6, a7, a8, hr⟩ := hr
      refine ⟨b, As, t, fs, rr, h1, c1, s1, a1, a2, a3, a4, a5, a6, a7, a8, ?_⟩
      cases rr with
      | inl v => exact ih _ _ _ _ _ _ _ hn hle hr
      | inr k => exact hr
    | invokestatic i =>
      rw [hi] at hr
      rcases hr with ⟨k0, k1, n0', n1, ln, sj, dj, t, x, y, z, f, g, a1, a2, a3, a4, a5, a6, a7, a8, a9, a10, a11, hr⟩ | ⟨As, t, v1, h1, c1, s1, a1, a2, a3, a4, a5, a6, a7, hr⟩
      · exact Or.inl ⟨k0, k1, n0', n1, ln, sj, dj, t, x, y, z, f, g, a1, a2, a3, a4, a5, a6, a7, a8, a9, a10, a11, ih _ _ _ _ _ _ _ hn hle hr⟩
      · exact Or.inr ⟨As, t, v1, h1, c1, s1, a1, a2, a3, a4, a5, a6, a7, ih _ _ _ _ _ _ _ hn hle hr⟩
    | if_icmp k o =>
      rw [hi] at hr
      obtain ⟨x, y, t, a1, hr⟩ := hr
      exact ⟨x, y, t, a1, hr.imp (fun z => ⟨z.1, ih _ _ _ _ _ _ _ hn hle z.2⟩) (fun z => ⟨z.1, ih _ _ _ _ _ _ _ hn hle z.2⟩)⟩
    | ifCond k o =>
      rw [hi] at hr
      obtain ⟨x, t, a1, hr⟩ := hr
      exact ⟨x, t, a1, hr.imp (fun z => ⟨z.1, ih _ _ _ _ _ _ _ hn hle z.2⟩) (fun z => ⟨z.1, ih _ _ _ _ _ _ _ hn hle z.2⟩)⟩
    | ifnull o =>
      rw [hi] at hr
      obtain ⟨v, t, a1, hr⟩ := hr
      exact ⟨v, t, a1, hr.imp (fun z => ⟨z.1, ih _ _ _ _ _ _ _ hn hle z.2⟩) (fun ⟨k, z⟩ => ⟨k, z.1, ih _ _ _ _ _ _ _ hn hle z.2⟩)⟩
    | ifnonnull o =>
      rw [hi] at hr
      obtain ⟨v, t, a1, hr⟩ := hr
      exact ⟨v, t, a1, hr.imp (fun z => ⟨z.1, ih _ _ _ _ _ _ _ hn hle z.2⟩) (fun ⟨k, z⟩ => ⟨k, z.1, ih _ _ _ _ _ _ _ hn hle z.2⟩)⟩
    | tableswitch df lo hi offs => rw [hi] at hr; obtain ⟨x, off, tgt, t, a1, a2, a3, hr⟩ := hr; exact ⟨x, off, tgt, t, a1, a2, a3, ih _ _ _ _ _ _ _ hn hle hr⟩
    | lookupswitch df ps => rw [hi] at hr; obtain ⟨x, tgt, t, a1, a2, a3, hr⟩ := hr; exact ⟨x, tgt, t, a1, a2, a3, ih _ _ _ _ _ _ _ hn hle hr⟩
    | ireturn => rw [hi] at hr; exact hr
    | lreturn => rw [hi] at hr; exact hr
    | areturn => rw [hi] at hr; exact hr
    | return_ => rw [hi] at hr; exact hr
    | _ =>
      rw [hi] at hr
      obtain ⟨q, hs, hr⟩ := hr
      obtain ⟨l2', e1, e2, e3⟩ := pm_s_lv hn hle hs
      exact ⟨_, e1, ih _ _ _ _ _ _ _ e2 e3 hr⟩
def pm_sub (l1 l2 : List (Nat × Value)) : Prop := ∀ q ∈ l1, pm_get l2 q.1 = some q.2
/-- go on with fewer locals, in any order -/
theorem pm_lv {S : Nat → List Value → pm_H → pm_V → pm_H → Nat → Nat → Prop} {J : Nat → pm_I} {nL : Nat} {rt : Option FieldType} {d bc bs : Nat} {r : pm_V} {h' : pm_H} {pc : Nat} {l2 : List (Nat × Value)} {st : List Value} {c s : Nat} {h : pm_H} (l1 : List (Nat × Value)) (hn : pm_nd l1 = true) (hs : l1.map (fun q => pm_get l2 q.1) = l1.map (fun q => some q.2)) (k : pm_X S J nL rt d bc bs pc l1 st c s h r h') : pm_X S J nL rt d bc bs pc l2 st c s h r h' := by
  obtain ⟨n, k⟩ := k
  refine ⟨n, pm_run_lv n pc l1 l2 st c s h hn (fun i v hg => ?_) k⟩
  obtain ⟨j, hj⟩ := List.getElem?_of_mem (pm_get_mem hg)
  have h1 := congrArg (fun l => l[j]?) hs
  simp only [List.getElem?_map, hj, Option.map_some] at h1
  exact Option.some.inj h1
