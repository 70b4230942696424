/-! THE LAW FROM ITS ENTRY -/
theorem lw_Wd0 {D : va_G} {cy : Nat → ClassId} {A : Nat → Prop} {ad : Nat → Nat} {f : Nat → va_E} {H : Heap} : pm_Wd D cy A ad (0, f) H := by
  have h0 : pm_wl cy ad (0, f) = [] := rfl
  refine ⟨fun k hk => absurd hk (Nat.not_lt_zero k), ?_, ?_⟩
  · intro k q hq
    rw [h0] at hq
    cases hq
  · refine ⟨fun i j p q hp => ?_, fun k q hq => ?_⟩
    · rw [h0] at hp
      cases hp
    · rw [h0] at hq
      cases hq
theorem lw_St {s : State} {a : Array Value} (hts : ∀ w ∈ lw_tbl, w.before a s = true) (hg : (Jvm.Cond.and given_1 narrow_1).before a s = true) : pm_St (fun q => s.heap.size ≤ q) s s.heap ∧ va_Nc "java/lang/IllegalStateException" "java/lang/IllegalArgumentException" s := by
  have hs := flat_of_before _ hg
  exact ⟨⟨vx_Zqof (hts _ lw_stat.1) (hts _ lw_stat.2.2) (hs _ (by decide +kernel)) (fun a h => Nat.not_le.mpr h), vx_Zqof (hts _ lw_stat.2.1) (hts _ lw_stat.2.2) (hs _ (by decide +kernel)) (fun a h => Nat.not_le.mpr h)⟩, va_Nc.of (hs _ (by decide +kernel))⟩
theorem lw_df7 : (List.range (pm_N 7)).map (fun k => pm_df (pm_G 7 k)) = [.null, .null] := rfl
theorem lw_df8 : (List.range (pm_N 8)).map (fun k => pm_df (pm_G 8 k)) = [.null, .null, .int 0, .null, .null, .null, .null, .null, .null, .null, .null, .null, .null, .null, .null, .null, .int 0, .null, .int 0, .int 0, .int 0, .int 0, .int 0, .null, .null] := rfl
set_option maxHeartbeats 2000000 in
theorem whole_start {p : Program} {e : Env} {s : State} {m : MethodId} {below : List Frame} {meth : Method} {c : Code} (l : Launch) (hlt : l.stackTraces = false) {b L : Nat} {xs : Nat → Int32} (hL : L ≤ 1536) (C0 : lw_At p s m meth c b L xs) : W p l e room_1 s m #[Value.ref b] below meth c s.heap [] 0 0 (lw_Z below #[Value.ref b] s) (entryFrame m ([Value.ref b] : List Value).toArray 7) := by
  obtain ⟨D, cy, V⟩ := lw_Eq C0.2.2.2.2.2.1
  obtain ⟨Z, hNc⟩ := lw_St C0.2.2.2.2.2.1 C0.2.2.2.2.2.2.2.2.2
  have C : lw_C p s m meth c b L xs D cy := ⟨C0, V, Z, hNc⟩
  have hx := C0.1
  have hb := C0.2.1
  have hl := lv_entry ([Value.ref b] : List Value) (n := 7) (by show 1 ≤ 7; omega)
  rw [lg_entry_eq]
  revert hl
  generalize (lg_sl _ ++ _).toArray = ls
  intro hl
  refine lw_new (r1 := 7) (i := 8) (ad := fun _ => 0) (h := (0, fun _ => .inl (0, 0, .inl (fun _ => 0)))) C lw_Wd0 va_S.rf (by decide) (lw_w C 0 rfl) (lw_w C 1 rfl) (lw_w C 2 rfl) (by decide) (by decide) (show decode code 0 = .ok (.new 8, 3) by decide +kernel) (fun ad1 H1 g1 hW1 hS1 => ?_)
  rw [lw_df7] at hW1
  refine lv_dup hx hb (show decode code 3 = .ok (.dup, 1) by decide +kernel) rfl ?_
  refine lw_init (i := 17) (M := 75) (k := 0) hlt C hW1 hS1 hl.1 (by show 0 < 1; omega) (by decide) (by decide) rfl rfl rfl (lw_w C 3 rfl) (lw_w C 4 rfl) (lw_w C 2 rfl) (by show 1 ≤ 8; omega) (c_BB0 rfl) (by decide) (by decide) (show decode code 4 = .ok (.invokespecial 17, 3) by decide +kernel) (fun ad2 H2 locs2 g2 hW2 hS2 => ?_)
  have z2 : ad2 0 = ad1 0 := g2 0 (by show 0 < 1; omega)
  refine lv_astore_n (i := 1) (lv' := [(1, .ref (ad1 0)), (0, .ref b)]) hx hb (show decode code 7 = .ok (.astore_n 1, 1) by decide +kernel) rfl hl (by omega) rfl (fun ls1 hl1 => ?_)
  refine lw_new (r1 := 8) (i := 18) C hW2 hS2 (by decide) (lw_w C 5 rfl) (lw_w C 6 rfl) (lw_w C 7 rfl) (by decide) (by decide) (show decode code 8 = .ok (.new 18, 3) by decide +kernel) (fun ad3 H3 g3 hW3 hS3 => ?_)
  rw [lw_df8] at hW3
  have z3 : ad3 0 = ad2 0 := g3 0 (by show 0 < 36; omega)
  refine lv_dup hx hb (show decode code 11 = .ok (.dup, 1) by decide +kernel) rfl ?_
  refine lw_init (i := 20) (M := 98) (k := 36) hlt C hW3 hS3 hl1.1 (by show 36 < 37; omega) (by decide) (by decide) rfl rfl rfl (lw_w C 8 rfl) (lw_w C 9 rfl) (lw_w C 7 rfl) (by show 1 ≤ 8; omega) (c_MD0 rfl) (by decide) (by decide) (show decode code 12 = .ok (.invokespecial 20, 3) by decide +kernel) (fun ad4 H4 locs4 g4 hW4 hS4 => ?_)
  have z4 : ad4 0 = ad3 0 := g4 0 (by show 0 < 37; omega)
  have y4 : ad4 36 = ad3 36 := g4 36 (by show 36 < 37; omega)
  refine lv_astore_n (i := 2) (lv' := [(2, .ref (ad3 36)), (1, .ref (ad1 0)), (0, .ref b)]) hx hb (show decode code 15 = .ok (.astore_n 2, 1) by decide +kernel) rfl hl1 (by omega) rfl (fun ls2 hl2 => ?_)
  refine lv_iconst (v := 1) hx hb (show decode code 16 = .ok (.iconst 1, 1) by decide +kernel) rfl ?_
  refine lw_newl C hW4 hS4 (by decide) (by decide) (show decode code 17 = .ok (.newarray .long, 2) by decide +kernel) (fun ad5 H5 g5 hW5 hS5 => ?_)
  have z5 : ad5 0 = ad4 0 := g5 0 (by show 0 < 55; omega)
  have y5 : ad5 36 = ad4 36 := g5 36 (by show 36 < 55; omega)
  refine lv_astore_n (i := 3) (lv' := [(3, .ref (ad5 55)), (2, .ref (ad3 36)), (1, .ref (ad1 0)), (0, .ref b)]) hx hb (show decode code 19 = .ok (.astore_n 3, 1) by decide +kernel) rfl hl2 (by omega) rfl (fun ls3 hl3 => ?_)
  refine lv_iconst (v := 0) hx hb (show decode code 20 = .ok (.iconst 0, 1) by decide +kernel) rfl ?_
  refine lv_istore (lv' := lw_lv b (ad1 0) (ad3 36) (ad5 55) 0) hx hb (show decode code 21 = .ok (.istore 4, 2) by decide +kernel) hl3 (by omega) rfl (fun ls4 hl4 => ?_)
  exact lw_loop hlt hL C 512 0 _ _ _ H5 locs4 ls4 (by omega) (by omega) (by decide) (by decide) ⟨ad5, hW5, hS5, by show 55 < 56; omega, z5.trans (z4.trans (z3.trans z2)), y5.trans y4, rfl, ⟨_, rfl⟩, ⟨_, rfl⟩⟩ St_0 hl4
set_option maxHeartbeats 4000000 in
theorem lw_walk (l : Launch) (hlt : l.stackTraces = false) (b : Addr) (xs : List Int32) : MetFree l x (headSpec (Jvm.Cond.code x code maxLocals ret :: tables_1) room_1) (lw_P b xs) (fun _ _ _ _ _ => True) lw_Q := by
  refine MetFree.of_bodyS (code := code) (maxLocals := maxLocals) (ret := ret) (by decide) ?_ ?_
  · intro args s m h hn
    obtain ⟨meth, c, h1, h2, h3, h4, h5, h6, -, -⟩ := Cond.code_spec hn (atoms_spec (ws := Jvm.Cond.code x code maxLocals ret :: tables_1) h _ List.mem_cons_self)
    exact ⟨meth, c, h1, h2, h3, h4, h5, h6⟩
  · intro p e s m args below meth c s₁ B hml0 hP _
    obtain ⟨rfl, hx, hbd, hgv⟩ := hP
    obtain ⟨scr, harrAt, hlist, hof, hsmall⟩ := hx
    obtain ⟨hcb, hkn, -, -⟩ := State.arrayAt?_spec harrAt
    have hown : s.vm.findClass R_law = some m.cls := findClass_of_methodNamed B.named
    have hts0 : ∀ c ∈ (Jvm.Cond.code x code maxLocals ret :: tables_1), c.before #[Value.ref b] s = true := atoms_spec (ws := Jvm.Cond.code x code maxLocals ret :: tables_1) B.pre
    have hts : ∀ w ∈ lw_tbl, w.before #[Value.ref b] s = true := k2_hts_sels lw_privs (fun w hw => hts0 w (List.mem_cons_of_mem _ hw)) lw_privs_ok
    have hml : c.maxLocals = 7 := B.maxLocals_eq (hts0 _ List.mem_cons_self)
    have X₀ : Stand p l e room_1 s m #[Value.ref b] below meth c s₁ [] 0 0 := Stand.of_body B
    have hh0 : s₁.heap = s.heap := by rw [B.state]; rfl
    have hsz : scr.slots.size = xs.length := by rw [← Array.length_toList, hlist, List.length_map]
    have hval : ∀ j : Nat, j < xs.length → scr.slots[j]? = some (.int (xs.getD j 0)) := fun j hj => by
      rw [← Array.getElem?_toList, hlist]
      simp [hj]
    have hbl : b < s.heap.size := (Array.getElem?_eq_some_iff.mp hcb).1
    have hX : va_X b xs.length (fun j => xs.getD j 0) s s.heap := ⟨scr, hcb, hof, hkn, hsz, hval⟩
    have K : W p l e room_1 s m #[Value.ref b] below meth c s₁.heap [] 0 0 (lw_Z below #[Value.ref b] s) (entryFrame m ([Value.ref b] : List Value).toArray 7) := by
      rw [hh0]
      exact whole_start l hlt hbd ⟨B.exec, B.bytes, B.returns, hml, hown, hts, hX, hbl, B.notSynchronized, hgv⟩
    obtain ⟨t, a1, o, b1, b2, b3⟩ := K s₁ rfl X₀
    exact ⟨t, o, a1, b1, b2, b3⟩
theorem lw_pre_spec {args : Array Value} {s : State} (h : (Jvm.Cond.and given_1 narrow_1).before args s = true) (hr : rest_1_c.before args s = true) : ∃ (b : Addr) (xs : List Int32), lw_P b xs args s := by
  have hs := flat_of_before _ h
  have hq := flat_of_before _ hr
  have hc : (Cond.count 1).before args s = true := hs _ (by decide +kernel)
  have harr : (Cond.arrayOf (.arg 0) .int).before args s = true := hs _ (by decide +kernel)
  have hle : (Cond.le (.length (.arg 0)) (.int 1536)).before args s = true := hs _ (by decide +kernel)
  have hlen : (Cond.isInt (.length (.arg 0))).before args s = true := hq _ (by decide +kernel)
  have hall : (Cond.all (.arg 0) (.isInt (.elem (.arg 0) (.index 0)))).before args s = true := hq _ (by decide +kernel)
  obtain ⟨b, xs, hb, hx⟩ := State.ints_of_pre rfl harr hlen hall
  have hsm : xs.length < 2 ^ 31 := hx.choose_spec.2.2.2
  have hev : (Term.length (.arg 0)).eval args s none [] s = some (.int xs.length.toInt32) := hx.length_eval hb
  have hv := Cond.le_ints hev (show (Term.int 1536).eval args s none [] s = some (.int 1536) from rfl)
  have hd : xs.length.toInt32 ≤ 1536 := by
    simpa [Cond.before, Cond.holds, hv] using hle
  have hN : xs.length ≤ 1536 := (Int32.ofNat_le_ofNat hsm (by decide)).mp (show Int32.ofNat xs.length ≤ Int32.ofNat 1536 from hd)
  exact ⟨b, xs, Cond.one_arg hc (show args[0]? = some (.ref b) from hb), hx, hN, h⟩
theorem lw_comes (l : Launch) (hlt : l.stackTraces = false) : Comes l x (Jvm.Cond.code x code maxLocals ret :: tables_1) room_1 (fun tb e args s => Calls_1 tb e args s ∧ rest_1 tb e args s ∧ Pre_1 tb e args s)
    (fun _ _ args s o t => lw_Q args s o t) := by
  intro p e ha hc hk s m args below hf hfit hheap happ hpre
  obtain ⟨b, xs, hP⟩ := lw_pre_spec hpre.2.2 hpre.2.1
  obtain ⟨k, o, h1, h2, h3, hQ⟩ := lw_walk l hlt b xs p e ha hc hk s m args below hf ((Spec.applies_iff_loose hf).mp happ).1 hP trivial
  exact ⟨k, o, h1, h2, h3, hQ⟩
theorem lw_frame {s t : State} {o : Outcome} {args : Array Value} (h : Framed s o t [] 601024 7293034) :
    Framed s o t (fieldLocs frame_1_writes args s ++ arrayLocs frame_1_arrays args s ++ staticLocs frame_1_statics s) 601024 7293034 := h
theorem lw_limb (L : Cond) (hL : ∀ (args : Array Value) (s t : State), L.after args s (.returned (some (.int 1))) t = true) :
    ArmFor flags0 classFile x code maxLocals ret World_1 tables_1 room_1 Calls_1 rest_1 Pre_1
      (fun tb e a s o t => postC L tb e a s o t ∧ Framed s o t (fieldLocs frame_1_writes a s ++ arrayLocs frame_1_arrays a s ++ staticLocs frame_1_statics s) 601024 7293034) := by
  intro l hfl _ _ p e ha hc hk s m args below hf hfit hheap happ hpre
  obtain ⟨k, o, h1, h2, h3, rfl, hF⟩ := lw_comes l (by unfold Launch.stackTraces; rw [hfl]; decide) p e ha hc hk s m args below hf hfit hheap happ hpre
  exact ⟨k, _, h1, h2, h3, hL args s _, lw_frame hF⟩
theorem i_vc : Claimed_1_1 ∧ Claimed_1_2 := ⟨lw_limb limb_1_1 (fun args s t => by simp [limb_1_1, Cond.after, Cond.holds, Cond.value]), lw_limb limb_1_2 (fun args s t => Cond.after_iff.mpr (by
  first | (rw [show limb_1_2 = Cond.eq .result (.int 1) from rfl, Cond.eq_ints (x := 1) (y := 1) rfl rfl]; simp; done) | (simp [limb_1_2, Cond.value, Term.eval]; done)))⟩
