/-! THE LAW'S HELPER: the class's next, its throw told as a number -/
section HPC
/-- an entry whose class can be resolved: the search through it is the search behind its resolution -/
theorem hp_warm {E : CtlPost} {e : Env} {d : Bool} {acts : List Action} {S : State} {f : JFrame} {a : Addr} {Q : Handler → Pre} {x : ExceptionTableEntry} {t : List ExceptionTableEntry} {k : ClassId} (hl : S.vm.ClassLinks e.platform f.method.cls x.catchType k) (hx : covers x f.pc = true) (h0 : x.catchType ≠ 0) :
    wp (findHandler.go f a (x :: t)) Q E e d acts S ↔ wp (findHandler.go f a (x :: t)) Q E e d acts (S.setVm (S.vm.noted f.method.cls x.catchType (.cls k))) := by
  obtain ⟨k1, hk1, hr1⟩ := hl.ready
  obtain ⟨hA1, hA2⟩ := (resolveClass_links e.toSetting hl).op (op := VmOp.resolveClass f.method.cls x.catchType) rfl
  obtain ⟨hB1, hB2⟩ := resolveClass_memo e hk1 hr1
  simp only [covers] at hx
  simp [findHandler.go, hx, h0, hA1, hA2, hB1, hB2, VmOp.dirties, VmOp.acts, State.setVm_setVm]
/-- so it answers as the resolved one does, and the tables stay warm -/
theorem hp_look {e : Env} {s S : State} {f : JFrame} {a : Addr} {x : ExceptionTableEntry} (t : List ExceptionTableEntry) {k : ClassId} {ce : Cell} (hW : s.WarmedH S.vm) (hl : s.vm.ClassLinks e.platform f.method.cls x.catchType k) (hx : covers x f.pc = true) (h0 : x.catchType ≠ 0)
    (hcell : S.heap[a]? = some ce) (hv : ce.vm = .none) (hce : ∃ z, s.vm.classes[ce.cls]? = some z) :
    s.WarmedH (S.vm.noted f.method.cls x.catchType (.cls k)) ∧ ∀ (Q : Handler → Pre) (E : CtlPost) (d : Bool) (acts : List Action), wp (findHandler.go f a (x :: t)) Q E e d acts S ↔
      if s.vm.assignable ce.cls k = true then Q (.found x.handlerPc) d acts (S.setVm (S.vm.noted f.method.cls x.catchType (.cls k))) else wp (findHandler.go f a t) Q E e d acts (S.setVm (S.vm.noted f.method.cls x.catchType (.cls k))) := by
  obtain ⟨z1, -, -, z2, hz1, -, -, -, -, hz2, -, ho⟩ := hl.here
  have hN : s.WarmedH (S.vm.noted f.method.cls x.catchType (.cls k)) := hW.noted hz1 ho (State.rightAt_cls hl)
  refine ⟨hN, fun Q E d acts => ?_⟩
  obtain ⟨z3, hz3⟩ := hce
  obtain ⟨z4, hz4, -⟩ := hN.alike.2.2 _ _ hz3
  obtain ⟨z5, hz5, -⟩ := hN.alike.2.2 _ _ hz2
  have hl1 := hW.classLinks hl
  rw [hp_warm hl1 hx h0, W.findHandler_go_class (s := S.setVm (S.vm.noted f.method.cls x.catchType (.cls k))) hx h0 hl1.ready hcell (fun q hq => by rw [hv] at hq; cases hq) ⟨z4, hz4⟩ ⟨z5, hz5⟩, State.vm_setVm, hN.alike.assignable]
/-- the search ends at the handler pc, with warm tables -/
def hp_Fd (e : Env) (f : JFrame) (a : Addr) (L : List ExceptionTableEntry) (pc : Nat) (s S : State) : Prop :=
  ∃ vm', s.WarmedH vm' ∧ ∀ (Q : Handler → Pre) (E : CtlPost) (d : Bool) (acts : List Action), wp (findHandler.go f a L) Q E e d acts S ↔ Q (.found pc) d acts (S.setVm vm')
theorem hp_hit {e : Env} {s S : State} {f : JFrame} {a : Addr} {x : ExceptionTableEntry} {t : List ExceptionTableEntry} {k : ClassId} {ce : Cell} (hW : s.WarmedH S.vm) (hl : s.vm.ClassLinks e.platform f.method.cls x.catchType k) (hx : covers x f.pc = true) (h0 : x.catchType ≠ 0)
    (hcell : S.heap[a]? = some ce) (hv : ce.vm = .none) (hce : ∃ z, s.vm.classes[ce.cls]? = some z) (hfit : s.vm.assignable ce.cls k = true) : hp_Fd e f a (x :: t) x.handlerPc s S := by
  obtain ⟨hN, hq⟩ := hp_look t hW hl hx h0 hcell hv hce
  exact ⟨_, hN, fun Q E d acts => by rw [hq, if_pos hfit]⟩
theorem hp_miss {e : Env} {s S : State} {f : JFrame} {a : Addr} {x : ExceptionTableEntry} {t : List ExceptionTableEntry} {k : ClassId} {ce : Cell} {pc : Nat} (hW : s.WarmedH S.vm) (hl : s.vm.ClassLinks e.platform f.method.cls x.catchType k) (hx : covers x f.pc = true) (h0 : x.catchType ≠ 0)
    (hcell : S.heap[a]? = some ce) (hv : ce.vm = .none) (hce : ∃ z, s.vm.classes[ce.cls]? = some z) (hno : s.vm.assignable ce.cls k = false) (hrest : ∀ U : State, U.heap = S.heap → s.WarmedH U.vm → hp_Fd e f a t pc s U) : hp_Fd e f a (x :: t) pc s S := by
  obtain ⟨hN, hq⟩ := hp_look t hW hl hx h0 hcell hv hce
  obtain ⟨vm', hW', hr⟩ := hrest (S.setVm (S.vm.noted f.method.cls x.catchType (.cls k))) rfl hN
  exact ⟨vm', hW', fun Q E d acts => by rw [hq, if_neg (by rw [hno]; decide), hr]; rfl⟩
/-- one step of the throw, into the handler -/
theorem hp_step {e : Env} {S : State} {a : Addr} {f : JFrame} {r : List Frame} {pc : Nat} {vm' : Vm} (hfind : ∀ (Q : Handler → Pre) (E : CtlPost) (d : Bool) (acts : List Action), wp (findHandler f a) Q E e d acts S ↔ Q (.found pc) d acts (S.setVm vm')) :
    (stepThrowing e S a (.java f :: r)).1 = (S.setVm vm').setFrames (.java { f with pc := pc, stack := [.ref a] } :: r) := by
  simp only [stepThrowing, searchFrame, vmDo]
  generalize hr : Sem.go _ e false [] S = res
  obtain ⟨as, rfl, -⟩ := Sem.eq_ok_of hr (a := Handler.found pc) (s' := S.setVm vm') (acts' := []) (by simp [hfind _ _ _ _])
  rfl
variable {p : Program} {l : Launch} {e : Env} {R : Room} {s : State} {m : MethodId} {args : Array Value} {below : List Frame} {meth : Method} {c : Code} {H : Heap} {locs : List Loc} {cells slots : Nat} {Q : State → Prop}
theorem hp_caught {pc pc' : Nat} {ls : Array Slot} {rest : List Value} {q : Addr} (hF : ∀ S : State, S.heap = H → s.WarmedH S.vm → hp_Fd e (F0 m pc ls rest) q c.exceptionTable.toList pc' s S)
    (kk : W p l e R s m args below meth c H locs cells slots Q (F0 m pc' ls [.ref q])) : vx_W p l e R s m args below meth c H locs cells slots Q (F0 m pc ls rest) q := by
  intro T hT X
  obtain ⟨vm', hW', hq⟩ := hF ((T.setTop (F0 m pc ls rest)).pushFrame (.throwing q)) (by rw [Stand.throwing_heap]; exact hT) (by rw [Stand.throwing_vm]; exact X.warmed)
  obtain ⟨t, a1, b1⟩ := kk (T.setVm vm') hT (X.noted hW')
  refine ⟨t, ?_, b1⟩
  have hA : At T (F0 m pc ls rest).method c below := X.here
  obtain ⟨hgo, hw⟩ := hA.throwing q
  refine Steps.head hgo hw ?_
  have hm : ((T.setTop (F0 m pc ls rest)).pushFrame (.throwing q)).vm.method? (F0 m pc ls rest).method = some meth := by rw [Stand.throwing_vm]; exact X.method'
  rw [stepThread_throwing (frames_entered hA.top _), hp_step (fun Q E d acts => by rw [W.findHandler_eq hm X.code]; exact hq Q E d acts)]
  obtain ⟨g0, hg0⟩ := Option.isSome_iff_exists.mp hA.top
  obtain ⟨r, hr⟩ := State.topJava?_eq_some.mp hg0
  have hr' : (T.setVm vm').frames = .java g0 :: r := hr
  rw [State.setTop_of_frames _ hr'] at a1
  rw [State.pushFrame, State.setTop_of_frames _ hr, hr, State.setFrames_setFrames]
  show Steps p.tables e below (((T.setVm vm').setFrames _).setFrames _) t
  rw [State.setFrames_setFrames]
  exact a1
end HPC
def hp_A : String := "java/lang/IllegalArgumentException"
def hp_S : String := "java/lang/IllegalStateException"
def hp_y : MethodName := ⟨R_law, "next", "(LBitBlocks;[J)I"⟩
def hp_hh : List (Nat × Nat × Nat × Nat) := [(0, 8, 11, 13), (0, 8, 14, 15)]
def hp_cw : Cond := .codeWith hp_y method_3_code 3 (some .int) hp_hh
def hp_ws : List Cond := hp_cw :: pm_gw
def hp_rm (bc bs : Nat) : Room := { frames := 15, cells := bc, slots := bs, locals := 580 }
def hp_X (U : State) : Prop := va_Nw (.castable hp_S hp_S) U ∧ va_Nw (.castable hp_A hp_A) U ∧ va_Nc hp_S hp_A U
def hp_Pc (D : va_G) (cy : Nat → ClassId) (ad : Nat → Nat) (h : pm_H) (sz : Nat) : Array Value → State → Prop := fun a U => pm_Pc D cy ad [.ref 0, .ref 55] h sz a U ∧ hp_X U
theorem hp_X.warm {s U : State} (hW : s.WarmedH U.vm) (h : hp_X s) : hp_X U := ⟨va_Nw.warmC hW h.1, va_Nw.warmC hW h.2.1, va_Nc.moved hW.alike h.2.2⟩
theorem hp_blind {D : va_G} {cy : Nat → ClassId} {ad : Nat → Nat} {h : pm_H} {sz : Nat} : FrameBlind (hp_Pc D cy ad h sz) := by
  intro a U g mk q
  exact ⟨pm_blind a U g mk q.1, q.2.warm (s := U) (U := U.calling g mk a) (State.WarmedH.refl U)⟩
set_option maxRecDepth 20000 in
theorem hp_G : GoodIn lw_tbl ([.classLink R_law 13 hp_A, .classLink R_law 15 hp_S, .methodLink R_law 7 (pm_Y 92), .instanceMethod (pm_Y 92), .selects (pm_R 7) (pm_Y 92) (pm_Y 92), .initialized (pm_R 7), .methodLink R_law 88 hp_y, .static hp_y, .initialized hp_y.cls, hp_cw] : List Cond) := goodIn_sub (by decide +kernel) (by decide +kernel)
theorem hp_d0 : decode method_3_code 0 = .ok (.aload_n 1, 1) := by decide +kernel
theorem hp_d1 : decode method_3_code 1 = .ok (.iconst 0, 1) := by decide +kernel
theorem hp_d2 : decode method_3_code 2 = .ok (.aload_n 0, 1) := by decide +kernel
theorem hp_d3 : decode method_3_code 3 = .ok (.invokevirtual 7, 3) := by decide +kernel
theorem hp_d6 : decode method_3_code 6 = .ok (.i2l, 1) := by decide +kernel
theorem hp_d7 : decode method_3_code 7 = .ok (.lastore, 1) := by decide +kernel
theorem hp_d8 : decode method_3_code 8 = .ok (.goto 9, 3) := by decide +kernel
theorem hp_d11 : decode method_3_code 11 = .ok (.astore_n 2, 1) := by decide +kernel
theorem hp_d12 : decode method_3_code 12 = .ok (.iconst 1, 1) := by decide +kernel
theorem hp_d13 : decode method_3_code 13 = .ok (.ireturn, 1) := by decide +kernel
theorem hp_d14 : decode method_3_code 14 = .ok (.astore_n 2, 1) := by decide +kernel
theorem hp_d15 : decode method_3_code 15 = .ok (.iconst 2, 1) := by decide +kernel
theorem hp_d16 : decode method_3_code 16 = .ok (.ireturn, 1) := by decide +kernel
theorem hp_d17 : decode method_3_code 17 = .ok (.iconst 0, 1) := by decide +kernel
theorem hp_d18 : decode method_3_code 18 = .ok (.ireturn, 1) := by decide +kernel
set_option maxHeartbeats 1000000 in
theorem hp_met {l : Launch} (hlt : l.stackTraces = false) {D : va_G} {cy : Nat → ClassId} {h h1 h2 : pm_H} {r : pm_V} {c1 s1 : Nat} {kv : Int32} (h55 : 55 < h.1) (hf0 : ∃ fs, h.2 0 = .inr (7, fs)) (hcall : pm_call 15 92 [.ref 0] h r h1 c1 s1)
    (hr : (∃ (x : Int32) (g : Nat → Int64), r = .inl (some (.int x)) ∧ h1.2 55 = .inl (1, 1, .inr (.inl g)) ∧ h2 = (h1.1, va_up h1.2 55 (.inl (1, 1, .inr (.inl (vp_updL g 0 x.toInt64))))) ∧ kv = 0) ∨ (∃ z : Nat, r = .inr z ∧ z ≤ 1 ∧ h2 = h1 ∧ kv = nI (z + 1))) (ad : Nat → Nat) (sz : Nat) :
    vx_Met l hp_y hp_ws (hp_rm c1 s1) (hp_Pc D cy ad h sz) (pm_Qc D cy ad h.1 sz (.inl (some (.int kv))) h2) (fun _ _ _ => False) c1 s1 (pm_A ad h.1 sz) := by
  refine vx_ofWH (cc := method_3_code) (maxL := 3) (ret := some .int) (hh := hp_hh) (by decide) rfl ?_
  intro p e s m args below meth c s₁ B hml hv
  obtain ⟨⟨rfl, hsz, hW, V, Z⟩, hX⟩ := hv
  subst hsz
  have hts := atoms_spec (ws := hp_ws) B.pre
  have hgw : ∀ w ∈ pm_gw, w.before _ s = true := fun w hw => hts w (List.mem_cons_of_mem _ hw)
  have hown : s.vm.findClass R_law = some m.cls := findClass_of_methodNamed B.named
  have htab : c.exceptionTable.toList = tableOf hp_hh := vx_table (x := hp_y) B (hts hp_cw List.mem_cons_self)
  have hx := B.exec
  have hb : c.code = method_3_code := B.bytes
  have hrt := B.returns
  have hlk := B.notSynchronized
  have hD : va_D (pm_A ad h.1 s.heap.size) (pm_wl cy ad h) := by
    refine ⟨hW.2.2.1, fun k q hk => ?_⟩
    have hk1 : k < h.1 := by
      have := (List.getElem?_eq_some_iff.mp hk).1
      rw [pm_wl_len] at this
      exact this
    rw [pm_wl_at hk1] at hk
    cases hk
    exact Or.inl ⟨k, hk1, rfl⟩
  have hWd : pm_Wd D cy (pm_A ad h.1 s.heap.size) ad h s.heap := ⟨hW.1, hW.2.1, hD⟩
  have hS : va_S (pm_A ad h.1 s.heap.size) s.heap s.heap [] := va_S.rf
  have hA : ∀ q, s.heap.size ≤ q → pm_A ad h.1 s.heap.size q := fun q z => Or.inr z
  have hM : 92 < pm_nM := by decide
  obtain ⟨-, -, -, hcls, hO⟩ := pm_all 92 hM
  obtain ⟨fs, hc⟩ := hf0
  have he : (pm_wl cy ad h)[0]? = some (ad 0, .inr (pm_O 92, fs.map (pm_rv ad))) := by rw [pm_wl_at (by omega), hc]; rfl
  have hw := fun w hw => pm_of (w := w) hgw hp_G hw
  have hpl : e.platform.magicAccessors = ({} : Platform).magicAccessors := by rw [B.admits.platform]
  obtain ⟨kA, hcA, hlA⟩ := Cond.classLink_spec hown (hw (.classLink R_law 13 hp_A) (List.mem_of_getElem? (i := 0) rfl)) e.platform hpl
  obtain ⟨kS, hcS, hlS⟩ := Cond.classLink_spec hown (hw (.classLink R_law 15 hp_S) (List.mem_of_getElem? (i := 1) rfl)) e.platform hpl
  have hsk : pm_sk h.1 [.ref 0] := by
    intro w hw
    rcases List.mem_cons.mp hw with q | q
    · rw [q]; show 0 < h.1; omega
    · cases q
  have hm : pm_Met l D cy 14 92 [.ref 0] h r h1 c1 s1 ad s.heap.size := pm_sound l hlt D cy 15 14 rfl 92 _ h _ h1 c1 s1 hM hsk hcall ad s.heap.size
  have hcb : CallB (hp_rm c1 s1) s (([.ref 0, .ref 55] : List Value).map (pm_rv ad)).toArray R_law 7 (pm_Y 92) (pm_B 92) (pm_L 92) (pm_T 92) (pm_ws 92) (pm_rm 14 c1 s1) c1 s1 (pm_na 92) :=
    callB_of (pm_na 92) hgw (pm_gin hM) rfl rfl rfl (by rw [hcls]; exact hw _ (List.mem_of_getElem? (i := 5) rfl)) (hw _ (List.mem_of_getElem? (i := 2) rfl)) (pm_na_at hM) ⟨by show 14 + 1 ≤ 15; omega, by show 8 + (pm_L 92 + 11) + 32 * 14 ≤ 580; decide⟩
  have hl := lv_entry (([.ref 0, .ref 55] : List Value).map (pm_rv ad)) (n := 3) (by show 2 ≤ 3; omega)
  rw [lg_entry_eq]
  revert hl
  generalize (lg_sl _ ++ _).toArray = ls
  intro hl
  show W p l e (hp_rm c1 s1) s m _ below meth c s.heap [] 0 0 _ _
  refine lv_aload_n hx hb hp_d0 rfl (hl.2.2 (1, .ref (ad 55)) (List.mem_of_getElem? (i := 1) rfl)) ?_
  refine lv_iconst (v := 0) hx hb hp_d1 rfl ?_
  refine lv_aload_n hx hb hp_d2 rfl (hl.2.2 (0, .ref (ad 0)) (List.mem_of_getElem? (i := 0) rfl)) ?_
  refine pm_after (a := (Value.ref (ad 0) :: []).toArray) (g := F0 m 3 ls []) (h1 := h1) (r1 := r) (t := [.int 0, .ref (ad 55)]) (c1 := c1) (s1 := s1) hWd hS hA (vx_runV (As := []) (b := ad 0) (C := pm_R (pm_O 92)) (n := pm_na 92) ⟨hx, hb, hml, hown, hgw⟩ hm ⟨hcb, hw _ (List.mem_of_getElem? (i := 3) rfl), hw _ (List.mem_of_getElem? (i := 4) rfl)⟩ ⟨pm_blind, va_recv V.1.1 hWd.2.1 (pm_cl_at _ hO) he, pm_give (As := [.ref 0]) V Z hWd hS hA⟩ rfl rfl hl.1 rfl (lv_room (by show 2 ≤ 8; omega)) hp_d3 ⟨by show 0 + c1 ≤ c1; omega, by show 0 + s1 ≤ s1; omega⟩) ?_ ?_
  · intro v ad' H1 locs1 hr1 hag hle hsv hW1 hS1
    rcases hr with ⟨x, g, rfl, hg, rfl, rfl⟩ | ⟨z, rfl, -⟩
    · cases hr1
      have e55 : ad' 55 = ad 55 := hag 55 h55
      have hle55 : 55 < h1.1 := Nat.lt_of_lt_of_le h55 hle
      show W p l e (hp_rm c1 s1) s m _ below meth c H1 locs1 (0 + c1) (0 + s1) _ (F0 m 6 ls [.int x, .int 0, .ref (ad 55)])
      refine lv_i2l (v := x.toInt64) hx hb hp_d6 rfl ?_
      rw [← e55]
      obtain ⟨q1, q2⟩ := pm_jint (i := 0) (j := 0) (N := 1) rfl (by omega)
      have he1 : (pm_wl cy ad' h1)[55]? = some (ad' 55, .inl (cy 1, 1, .inr (.inl g))) := by rw [pm_wl_at hle55, hg]; rfl
      refine va_last hx hb V.1.1 hW1.2.1 hW1.2.2 hS1 55 1 he1 (pm_tys_1 cy) q1 hp_d7 (fun H2 locs2 hP2 hD2 hS2 => ?_)
      rw [q2] at hP2 hD2
      have hW2 := ps_set (e1 := .inl (1, 1, .inr (.inl (vp_updL g 0 x.toInt64)))) hW1 hle55 trivial rfl hP2 hD2
      refine lv_goto (tgt := 17) hx hb hp_d8 rfl ?_
      refine lv_iconst (v := 0) hx hb hp_d17 rfl ?_
      exact vx_ret (W.widen (show 0 + c1 ≤ c1 by omega) (show 0 + s1 ≤ s1 by omega) (W.zret (ty := .int) hx hb hrt rfl (ps_ret (h := (h1.1, va_up h1.2 55 (.inl (1, 1, .inr (.inl (vp_updL g 0 x.toInt64)))))) hag hle hW2 hS2 (v := some (.int 0)) (fun w hw => by cases hw; trivial) rfl rfl) hS2.2.2 hp_d18 hlk))
    · cases hr1
  · intro k ad' H1 locs1 q9 ce hr1 hag hle hW1 hS1 hce hcv hcl
    rcases hr with ⟨x, g, rfl, -⟩ | ⟨z, rfl, hz, rfl, rfl⟩
    · cases hr1
    · cases hr1
      match k, hz with
      | 0, _ =>
        obtain ⟨k1, k2, hk1, hk2, hasg⟩ := Cond.castable_spec (va_Nw.use rfl hX.2.1 : (Cond.castable hp_A hp_A).before #[] s = true)
        cases Option.some.inj (hk1.symm.trans hcl)
        cases Option.some.inj (hk2.symm.trans hcA)
        refine hp_caught (pc' := 11) (fun S hSH hWS => ?_) ?_
        · rw [htab]
          exact hp_hit (x := ⟨0, 8, 11, 13⟩) hWS hlA rfl (by decide) (by rw [hSH]; exact hce) hcv (Vm.classAt_of_findClass hcl) hasg
        refine lv_astore_n (i := 2) hx hb hp_d11 rfl hl (by omega) rfl (fun ls' hl' => ?_)
        refine lv_iconst (v := 1) hx hb hp_d12 rfl ?_
        exact vx_ret (W.widen (show 0 + c1 ≤ c1 by omega) (show 0 + s1 ≤ s1 by omega) (W.zret (ty := .int) hx hb hrt rfl (ps_ret hag hle hW1 hS1 (v := some (.int 1)) (fun w hw => by cases hw; trivial) rfl rfl) hS1.2.2 hp_d13 hlk))
      | 1, _ =>
        obtain ⟨k1, k2, hk1, hk2, hasg⟩ := Cond.castable_spec (va_Nw.use rfl hX.1 : (Cond.castable hp_S hp_S).before #[] s = true)
        cases Option.some.inj (hk1.symm.trans hcl)
        cases Option.some.inj (hk2.symm.trans hcS)
        obtain ⟨k3, k4, hk3, hk4, hno⟩ := hX.2.2
        cases Option.some.inj (hk3.symm.trans hcl)
        cases Option.some.inj (hk4.symm.trans hcA)
        refine hp_caught (pc' := 14) (fun S hSH hWS => ?_) ?_
        · rw [htab]
          refine hp_miss (x := ⟨0, 8, 11, 13⟩) hWS hlA rfl (by decide) (by rw [hSH]; exact hce) hcv (Vm.classAt_of_findClass hcl) hno (fun U hUH hWU => ?_)
          exact hp_hit (x := ⟨0, 8, 14, 15⟩) hWU hlS rfl (by decide) (by rw [hUH, hSH]; exact hce) hcv (Vm.classAt_of_findClass hcl) hasg
        refine lv_astore_n (i := 2) hx hb hp_d14 rfl hl (by omega) rfl (fun ls' hl' => ?_)
        refine lv_iconst (v := 2) hx hb hp_d15 rfl ?_
        exact vx_ret (W.widen (show 0 + c1 ≤ c1 by omega) (show 0 + s1 ≤ s1 by omega) (W.zret (ty := .int) hx hb hrt rfl (ps_ret hag hle hW1 hS1 (v := some (.int 2)) (fun w hw => by cases hw; trivial) rfl rfl) hS1.2.2 hp_d16 hlk))
      | k + 2, hz => exact absurd hz (by omega)
theorem hp_Met {l : Launch} {D : va_G} {cy : Nat → ClassId} {h h2 : pm_H} {r : pm_V} {c1 s1 : Nat} {ad : Nat → Nat} {sz : Nat} (hm : vx_Met l hp_y hp_ws (hp_rm c1 s1) (hp_Pc D cy ad h sz) (pm_Qc D cy ad h.1 sz r h2) (fun _ _ _ => False) c1 s1 (pm_A ad h.1 sz)) :
    Met l hp_y hp_ws (hp_rm c1 s1) (hp_Pc D cy ad h sz) (pm_Qc D cy ad h.1 sz r h2) c1 s1 (pm_A ad h.1 sz) := by
  intro p e a1 a2 a3 s m args below b1 b2 b3 b4
  obtain ⟨n, o, c1, c2, c3, c4⟩ := hm p e a1 a2 a3 s m args below b1 b2 b3 b4
  refine ⟨n, o, c1, c2, c3, ?_⟩
  rcases c4 with z | ⟨q, -, E, ce, L, hf, -⟩
  · exact z
  · exact hf.elim
