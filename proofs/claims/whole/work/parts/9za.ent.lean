/-! THE CLAIM OUT OF ONE WALK OF THE LAW'S BODY. Your part is whole_start (and what it stands on); all else here is the same for every law, but numbers. -/
def R_law : String := "BitBlocksLaw"
def lw_P (b : Addr) (xs : List Int32) (args : Array Value) (s : State) : Prop := args = #[.ref b] ∧ s.IntsAt b xs ∧ xs.length ≤ 1536 ∧ (Jvm.Cond.and given_1 narrow_1).before args s = true
def lw_Q (_ : Array Value) (s : State) (o : Outcome) (t : State) : Prop := o = .returned (some (.int 1)) ∧ Framed s o t [] 601024 7293034
def lw_Z (below : List Frame) (a : Array Value) (s : State) : State → Prop := fun t => ∃ o, t.status = .running ∧ Ended t below o ∧ lw_Q a s o t
/-- the law's own end, with 1 on the stack, nothing written that was there before, its room as the claim has it -/
theorem lw_ret {p : Program} {l : Launch} {e : Env} {s : State} {m : MethodId} {below : List Frame} {meth : Method} {c : Code} {b : Nat} (hx : p.tables.exec = Jvm.exec) (hb : c.code = code) (hr : meth.sig.returnType = ret) (hlocks : meth.locks = false) {pc : Nat} {H : Heap} {ls : Array Slot} (hdg : decode code pc = .ok (.ireturn, 1)) : W p l e room_1 s m #[Value.ref b] below meth c H [] 601024 7293034 (lw_Z below #[Value.ref b] s) (F0 m pc ls [.int 1]) := by
  intro T hT X
  obtain ⟨fs, hret, hrun, hended, hW, hframe⟩ := X.leave (v := some (.int 1)) (hlocks := hlocks) (fun h => by rw [hr] at h; cases h)
  have hmeth' : T.vm.method? m = some meth := X.method'
  refine ⟨T.setFrames fs, ?_, .returned (some (.int 1)), hrun, hended, rfl, ⟨_, rfl⟩, hW, hframe⟩
  jvm_step X.here [X.here.top, hx, hb, hdg, hmeth', hr, ret, narrow_b1]
  (try refine ⟨rfl, ?_⟩); (try refine ⟨rfl, ?_⟩)
  first | (intro acts; rw [hret _ acts rfl rfl rfl]) | rw [hret _ _ rfl rfl rfl]
  exact Steps.refl _
/-- what holds at the law's entry: the machine, the code, the tables' words (any of lw_tbl by 'hts w (by decide +kernel)'), the script of L ints xs at the cell b, what the Statement gives of the start (any of its parts by flat_of_before) -/
def lw_At (p : Program) (s : State) (m : MethodId) (meth : Method) (c : Code) (b L : Nat) (xs : Nat → Int32) : Prop :=
  p.tables.exec = Jvm.exec ∧ c.code = code ∧ meth.sig.returnType = ret ∧ c.maxLocals = 7 ∧ s.vm.findClass R_law = some m.cls ∧ (∀ w ∈ lw_tbl, w.before #[Value.ref b] s = true) ∧ va_X b L xs s s.heap ∧ b < s.heap.size ∧ meth.locks = false ∧ (Jvm.Cond.and given_1 narrow_1).before #[Value.ref b] s = true

/-! THE LAW'S ENTRY: what the tables give -/
set_option maxRecDepth 20000 in
theorem lw_inst : ∀ k ∈ List.range 9, Cond.instantiable (pm_R k) (pm_N k) ∈ lw_tbl := by decide +kernel
set_option maxRecDepth 20000 in
theorem lw_over : ∀ q ∈ pm_qa, Cond.arrayOver (.object (pm_R q)) ∈ lw_tbl := by decide +kernel
set_option maxRecDepth 20000 in
theorem lw_strs : ∀ z ∈ pm_sx, Cond.stringRef (pm_R z.1) z.2.1 z.2.2 ∈ lw_tbl := by decide +kernel
set_option maxRecDepth 20000 in
theorem lw_nws : ∀ w ∈ pm_nw, w ∈ lw_tbl := by decide +kernel
set_option maxRecDepth 20000 in
theorem lw_stat : Cond.laysStatic Jvm.Bundle.tN "UNASSIGNED_STACK" Jvm.Bundle.steD ∈ lw_tbl ∧ Cond.laysStatic Jvm.Bundle.tN "SUPPRESSED_SENTINEL" Jvm.Bundle.listD ∈ lw_tbl ∧ Cond.initialized Jvm.Bundle.tN ∈ lw_tbl := by decide +kernel
theorem lw_nwot : ∀ w ∈ pm_nw, w.onTables = true := by
  intro w hw
  rcases List.mem_append.mp hw with q | q
  · obtain ⟨e, -, rfl⟩ := List.mem_map.mp q
    rfl
  · obtain ⟨e, -, rfl⟩ := List.mem_map.mp q
    rfl
theorem lw_xwot : ∀ w ∈ pm_xw, w.onTables = true := by
  intro w hw
  have hk := List.all_eq_true.mp pm_xw_kind w hw
  cases w <;> first | rfl | cases hk
theorem lw_Eq {s : State} {a : Array Value} (hts : ∀ w ∈ lw_tbl, w.before a s = true) : ∃ (D : va_G) (cy : Nat → ClassId), pm_Eq D cy s := by
  have hg : ∀ w ∈ pm_gw, w.before a s = true := fun w hw => hts w (List.mem_filter.mp hw).1
  have hk : ∀ k : Nat, ∃ q : ClassId × (Nat → Nat), k < 9 → u_Kn s (pm_R k) (pm_F k) (pm_N k) q.1 q.2 := by
    intro k
    by_cases h : k < 9
    · obtain ⟨cC, iS, hu⟩ := u_known hg (pm_u_in (k := k) h) (hts _ (lw_inst k (List.mem_range.mpr h)))
      exact ⟨(cC, iS), fun _ => hu⟩
    · exact ⟨(0, fun _ => 0), fun z => absurd z h⟩
  have hy : ∀ k : Nat, ∃ cA : ClassId, (k = 0 → ArrOfT s cA .int ∧ va_RA s cA .int) ∧ (k = 1 → ArrOfT s cA .long ∧ va_RA s cA .long) ∧ (k = 3 → ArrOfT s cA (.object (pm_R 1)) ∧ va_RA s cA (.object (pm_R 1))) ∧ (k = 4 → ArrOfT s cA (.object (pm_R 2)) ∧ va_RA s cA (.object (pm_R 2))) := by
    intro k
    obtain ⟨c0, k0, p0, a1, a2, a3⟩ := Cond.arrayClass_spec (hg _ (pm_in_gw (pf_ar _ List.mem_cons_self)))
    obtain ⟨c1, k1, p1, b1, b2, b3⟩ := Cond.arrayClass_spec (hg _ (pm_in_gw (pf_ar _ (List.mem_cons_of_mem _ List.mem_cons_self))))
    obtain ⟨p3, c3, k3, d1, -, d2, d3, d4⟩ := Cond.arrayOver_spec (hts _ (lw_over 1 List.mem_cons_self))
    obtain ⟨p4, c4, k4, e1, -, e2, e3, e4⟩ := Cond.arrayOver_spec (hts _ (lw_over 2 (List.mem_cons_of_mem _ List.mem_cons_self)))
    by_cases h0 : k = 0
    · exact ⟨c0, fun _ => ⟨fun n z => ⟨fun k h => (by cases h), k0, a2, p0, a3⟩, a1⟩, fun z => by omega, fun z => by omega, fun z => by omega⟩
    · by_cases h1 : k = 1
      · exact ⟨c1, fun z => by omega, fun _ => ⟨fun n z => ⟨fun k h => (by cases h), k1, b2, p1, b3⟩, b1⟩, fun z => by omega, fun z => by omega⟩
      · by_cases h3 : k = 3
        · exact ⟨c3, fun z => by omega, fun z => by omega, fun _ => ⟨fun n z => ⟨fun k h => (by cases h), k3, d2, p3, d3⟩, k3, p3, d2, d3, d1, d4⟩, fun z => by omega⟩
        · exact ⟨c4, fun z => by omega, fun z => by omega, fun z => by omega, fun _ => ⟨fun n z => ⟨fun k h => (by cases h), k4, e2, p4, e3⟩, k4, p4, e2, e3, e1, e4⟩⟩
  obtain ⟨f, hf⟩ := Classical.axiomOfChoice hk
  obtain ⟨cy, hcy⟩ := Classical.axiomOfChoice hy
  refine ⟨(fun k => (f k).1, fun k => (f k).2), cy, ⟨⟨fun c q hq => ?_, fun k q hq => ?_⟩, fun w hw => va_Nw.of (lw_nwot w hw) (hts w (lw_nws w hw)), fun q hq => va_AO.of (hts _ (lw_over q hq))⟩, fun w hw => va_Nw.of (lw_xwot w hw) (hts w (pf_xw w hw)), fun z hz => ?_⟩
  · have hc : c < 9 := (List.getElem?_eq_some_iff.mp hq).1
    rw [pm_cl_at c hc] at hq
    cases hq
    exact hf c hc
  · have hc : k < 4 := (List.getElem?_eq_some_iff.mp hq).1
    match k, hc with
    | 0, _ => cases hq; exact (hcy 0).1 rfl
    | 1, _ => cases hq; exact (hcy 1).2.1 rfl
    | 2, _ => cases hq; exact (hcy 3).2.2.1 rfl
    | 3, _ => cases hq; exact (hcy 4).2.2.2 rfl
  · have hw := hts _ (lw_strs z hz)
    cases hc : s.vm.findClass (pm_R z.1) with
    | none => simp [Cond.before, Cond.holds, Cond.value, hc] at hw
    | some cc =>
      obtain ⟨-, -, -, q, -, -, -, -, -, h2⟩ := Cond.stringRef_spec hc hw
      exact ⟨q, vk_R.of hw h2⟩
