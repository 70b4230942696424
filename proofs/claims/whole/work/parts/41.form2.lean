/-! SWITCHES AND NEW CELLS IN THE PURE MACHINE; forms: matches, addOp, the constructor -/
section PMZ
variable {S : Nat → List Value → pm_H → pm_V → pm_H → Nat → Nat → Prop} {J : Nat → pm_I} {nL : Nat} {rt : Option FieldType} {d bc bs : Nat} {pc : Nat} {lv : List (Nat × Value)} {st : List Value} {c s : Nat} {N : Nat} {f f1 : Nat → va_E} {h h1 : pm_H} {r : pm_V} {h' : pm_H} {t : List Value}
theorem pm_lks {df : Int} {ps : Array (Int × Int)} {a b tgt : Nat} {z x : Int32} (hi : J pc = (.lookupswitch df ps, a, b, z)) (hp : (ps.toList.zip (ps.toList.drop 1)).all (fun (a, next) => a.1 < next.1) = true) (ht : (pc : Int) + Op.lookupswitch.offset ps.toList df x.toInt = (tgt : Int)) (kk : pm_X S J nL rt d bc bs tgt lv t c s h r h') : pm_X S J nL rt d bc bs pc lv (.int x :: t) c s h r h' := by
  obtain ⟨m, kk⟩ := kk
  refine ⟨m + 1, ?_⟩
  unfold pm_run
  rw [hi]
  exact ⟨x, tgt, t, rfl, hp, ht, kk⟩
theorem pm_tbl {df lo hi9 : Int} {offs : Array Int} {a b tgt : Nat} {off : Int} {z x : Int32} (hi : J pc = (.tableswitch df lo hi9 offs, a, b, z)) (hc : ((x.toInt < lo ∨ hi9 < x.toInt) ∧ off = df) ∨ (¬ x.toInt < lo ∧ ¬ hi9 < x.toInt ∧ offs[(x.toInt - lo).toNat]? = some off)) (ht : (pc : Int) + off = (tgt : Int)) (kk : pm_X S J nL rt d bc bs tgt lv t c s h r h') : pm_X S J nL rt d bc bs pc lv (.int x :: t) c s h r h' := by
  obtain ⟨m, kk⟩ := kk
  refine ⟨m + 1, ?_⟩
  unfold pm_run
  rw [hi]
  exact ⟨x, off, tgt, t, rfl, hc, ht, kk⟩
theorem pm_newi {i : Int32} {n : Nat} {a b : Nat} {z : Int32} (hi : J pc = (.newarray .int, a, b, z)) (hn : i.toInt = (n : Int)) (hN : n < 100000) (hc : c + 1 ≤ bc) (hs : s + n ≤ bs) (kk : pm_X S J nL rt d bc bs (pc + 2) lv (.ref N :: t) (c + 1) (s + n) (N + 1, va_up f N (.inl (0, n, .inl (fun _ => 0)))) r h') : pm_X S J nL rt d bc bs pc lv (.int i :: t) c s (N, f) r h' := by
  obtain ⟨m, kk⟩ := kk
  refine ⟨m + 1, ?_⟩
  unfold pm_run
  rw [hi]
  exact ⟨n, i, t, rfl, hn, hN, hc, hs, Or.inl ⟨rfl, kk⟩⟩
theorem pm_new {i a b : Nat} {z : Int32} (hi : J pc = (.new i, a, b, z)) (ha : Nat.ble (a + 1) pm_nC = true) (hc : c + 1 ≤ bc) (hs : s + b ≤ bs) (kk : pm_X S J nL rt d bc bs (pc + 3) lv (.ref N :: st) (c + 1) (s + b) (N + 1, va_up f N (.inr (a, (List.range b).map (fun k => pm_df (pm_G a k))))) r h') : pm_X S J nL rt d bc bs pc lv st c s (N, f) r h' := by
  obtain ⟨m, kk⟩ := kk
  refine ⟨m + 1, ?_⟩
  unfold pm_run
  rw [hi]
  exact Or.inr ⟨Nat.le_of_ble_eq_true ha, hc, hs, kk⟩
end PMZ
section FORM2
variable {f : Nat → va_E} {q n : Nat} {K V : Nat → Int32} {N d : Nat}
/-- op k matches the number v -/
abbrev fmX (K V : Nat → Int32) (k : Nat) (v : Int32) : Prop := (K k = 0 → v = V k) ∧ (K k = 1 → (v.toUInt32 >>> ((V k).toUInt32 &&& Int32.toUInt32 31)).toInt32 = 0)
theorem c_matches {k : Nat} {v : Int32} (h : fmAt f q n K V) (hk : k < n) : pm_call (d + 2) 19 [.ref q, .int (nI k), .int v] (N, f) (.inl (some (.int (if fmX K V k v then 1 else 0)))) (N, f) 0 0 := by
  have hh := h
  obtain ⟨h0, h1, h2, hn⟩ := hh
  have hki : (nI k).toInt = (k : Int) := nI_toInt (by omega)
  refine pm_callX jm_19 [(0, .ref q), (1, .int (nI k)), (2, .int v)] rfl rfl rfl ?_
  refine pm_go 2 (pc1 := 2) rfl ?_
  refine pm_cV [.int (nI k)] rfl rfl rfl rfl h0 rfl (Nat.le_refl _) (Nat.le_refl _) (c_kindAt h) ?_
  rw [hki, fmK_at hk]
  by_cases h00 : K k = 0
  · refine pm_lks (tgt := 32) rfl rfl (by rw [h00]; rfl) ?_
    refine pm_go 3 (pc1 := 35) rfl ?_
    refine pm_cV [.int (nI k)] rfl rfl rfl rfl h0 rfl (Nat.le_refl _) (Nat.le_refl _) (c_numberAt h) ?_
    rw [hki, fmV_at hk]
    refine pm_icmp rfl (fun z => ?_) (fun z => ?_)
    · refine pm_go 1 (pc1 := 46) rfl ?_
      exact pm_iret rfl rfl (by rw [if_neg (fun y => z (y.1 h00))]) rfl
    · refine pm_go 2 (pc1 := 46) rfl ?_
      exact pm_iret rfl rfl (by rw [if_pos ⟨fun _ => Classical.byContradiction fun y => z y, fun y => by rw [h00] at y; exact absurd y (by decide)⟩]) rfl
  · by_cases h01 : K k = 1
    · refine pm_lks (tgt := 47) rfl rfl (by rw [h01]; rfl) ?_
      refine pm_go 3 (pc1 := 50) rfl ?_
      refine pm_cV [.int (nI k)] rfl rfl rfl rfl h0 rfl (Nat.le_refl _) (Nat.le_refl _) (c_numberAt h) ?_
      rw [hki, fmV_at hk]
      refine pm_go 1 (pc1 := 54) rfl ?_
      refine pm_if rfl (fun z => ?_) (fun z => ?_)
      · refine pm_go 1 (pc1 := 62) rfl ?_
        exact pm_iret rfl rfl (by rw [if_neg (fun y => z (y.2 h01))]) rfl
      · refine pm_go 2 (pc1 := 62) rfl ?_
        exact pm_iret rfl rfl (by rw [if_pos ⟨fun y => absurd y h00, fun _ => Classical.byContradiction fun y => z y⟩]) rfl
    · refine pm_lks (tgt := 63) rfl rfl ?_ ?_
      · show ((5 : Nat) : Int) + Op.lookupswitch.offset [((0 : Int32).toInt, 27), ((1 : Int32).toInt, 42)] 58 (K k).toInt = _
        rw [lv_osw h00 rfl, lv_osw h01 rfl]
        rfl
      refine pm_go 1 (pc1 := 64) rfl ?_
      exact pm_iret rfl rfl (by rw [if_pos ⟨fun y => absurd y h00, fun y => absurd y h01⟩]) rfl
theorem c_addOp {k v : Int32} (h : fmAt f q n K V) (hn8 : n < 8) : ∃ f', pm_call (d + 2) 11 [.ref q, .int k, .int v] (N, f) (.inl none) (N, f') 0 0 ∧ fmAt f' q (n + 1) (upd K n k) (upd V n v) ∧ ∀ j, j ≠ q → j ≠ q + 1 → j ≠ q + 2 → f' j = f j := by
  have hh := h
  obtain ⟨h0, h1, h2, hn⟩ := hh
  have e1 : ∀ e, va_up f (q + 1) e q = f q := fun e => va_up_ne f e (by omega)
  have e2 : ∀ (g : Nat → va_E) e, va_up g (q + 2) e q = g q := fun g e => va_up_ne g e (by omega)
  have e3 : ∀ e, va_up f (q + 1) e (q + 2) = f (q + 2) := fun e => va_up_ne f e (by omega)
  refine ⟨va_up (va_up (va_up f (q + 1) (.inl (0, 8, .inl (upd K n k)))) (q + 2) (.inl (0, 8, .inl (upd V n v)))) q (.inr (2, [.ref (q + 1), .ref (q + 2), .int (nI (n + 1))])), ?_, ⟨va_up_self _ _ _, ?_, ?_, by omega⟩, ?_⟩
  · refine pm_callX jm_11 [(0, .ref q), (1, .int k), (2, .int v)] rfl rfl rfl ?_
    refine pm_go 1 (pc1 := 1) rfl ?_
    refine pm_cV [] rfl rfl rfl rfl h0 rfl (Nat.le_refl _) (Nat.le_refl _) (c_isFull h) ?_
    rw [if_neg (by omega)]
    refine pm_if rfl (fun _ => ?_) (fun z => absurd rfl z)
    refine pm_go 1 (pc1 := 9) rfl ?_
    refine pm_getf rfl h0 rfl ?_
    refine pm_go 1 (pc1 := 13) rfl ?_
    refine pm_getf rfl h0 rfl ?_
    refine pm_go 1 (pc1 := 17) rfl ?_
    refine pm_iastU (j := n) rfl h1 (cw_ti (by omega)) hn8 rfl ?_
    refine pm_go 1 (pc1 := 19) rfl ?_
    refine pm_getf rfl ((e1 _).trans h0) rfl ?_
    refine pm_go 1 (pc1 := 23) rfl ?_
    refine pm_getf rfl ((e1 _).trans h0) rfl ?_
    refine pm_go 1 (pc1 := 27) rfl ?_
    refine pm_iastU (j := n) rfl ((e3 _).trans h2) (cw_ti (by omega)) hn8 rfl ?_
    refine pm_go 2 (pc1 := 30) rfl ?_
    refine pm_getf rfl (((e2 _ _).trans (e1 _)).trans h0) rfl ?_
    refine pm_go 2 (pc1 := 35) rfl ?_
    rw [nI_1]
    refine pm_putU rfl (((e2 _ _).trans (e1 _)).trans h0) rfl rfl rfl ?_
    exact pm_vret rfl rfl rfl rfl
  · rw [va_up_ne _ _ (by omega), va_up_ne _ _ (by omega), va_up_self]
  · rw [va_up_ne _ _ (by omega), va_up_self]
  · intro j a b e
    rw [va_up_ne _ _ a, va_up_ne _ _ e, va_up_ne _ _ b]
theorem c_Form_init {z : Int32} (hq : q < N) (hf : f q = .inr (2, [.null, .null, .int z])) : pm_call (d + 2) 9 [.ref q] (N, f) (.inl none) (N + 2, va_up (va_up (va_up f N (.inl (0, 8, .inl (fun _ => 0)))) (N + 1) (.inl (0, 8, .inl (fun _ => 0)))) q (.inr (2, [.ref N, .ref (N + 1), .int 0]))) 2 16 := by
  refine pm_callX jm_9 [(0, .ref q)] rfl rfl rfl ?_
  refine pm_go 1 (pc1 := 1) rfl ?_
  refine pm_obj rfl (by omega) rfl ?_
  refine pm_go 2 (pc1 := 7) rfl ?_
  refine pm_newi (n := 8) rfl rfl (by decide) (by decide) (by decide) ?_
  refine pm_putU rfl ((va_up_ne _ _ (Nat.ne_of_lt hq)).trans hf) rfl rfl rfl ?_
  refine pm_go 2 (pc1 := 15) rfl ?_
  refine pm_newi (n := 8) rfl rfl (by decide) (by decide) (by decide) ?_
  refine pm_putU rfl ((va_up_ne _ _ (show q ≠ N + 1 by omega)).trans (va_up_self _ _ _)) rfl rfl rfl ?_
  refine pm_go 2 (pc1 := 22) rfl ?_
  refine pm_putU rfl (va_up_self _ _ _) rfl rfl rfl ?_
  refine pm_vret rfl rfl rfl ?_
  congr 1
  funext j
  by_cases hj : j = q
  · subst hj
    rw [va_up_self, va_up_self]
    rfl
  · rw [va_up_ne _ _ hj, va_up_ne _ _ hj, va_up_ne _ _ hj]
    by_cases hj2 : j = N + 1
    · subst hj2
      rw [va_up_self, va_up_self]
    · rw [va_up_ne _ _ hj2, va_up_ne _ _ hj2, va_up_ne _ _ hj]
end FORM2
