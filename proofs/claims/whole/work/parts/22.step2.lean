/-! MORE ROWS OF THE PURE MACHINE: stores that name the new heap; calls; the rest -/
section PMY
variable {S : Nat → List Value → pm_H → pm_V → pm_H → Nat → Nat → Prop} {J : Nat → pm_I} {nL : Nat} {rt : Option FieldType} {d bc bs : Nat} {pc : Nat} {lv : List (Nat × Value)} {st : List Value} {c s : Nat} {N : Nat} {f f1 : Nat → va_E} {h h1 : pm_H} {r : pm_V} {h' : pm_H} {t : List Value}
theorem pm_putU {i a b : Nat} {z : Int32} {k : Nat} {fs : List Value} {v : Value} (hi : J pc = (.putfield i, a, b, z)) (hk : f k = .inr (a, fs)) (hb : Nat.ble (b + 1) fs.length = true) (hf : pm_fit (pm_G a b) v = true) (hu : va_up f k (.inr (a, fs.set b v)) = f1) (kk : pm_X S J nL rt d bc bs (pc + 3) lv t c s (N, f1) r h') : pm_X S J nL rt d bc bs pc lv (v :: .ref k :: t) c s (N, f) r h' := by
  subst hu
  exact pm_putf hi hk (Nat.le_of_ble_eq_true hb) hf kk
theorem pm_iastU {k j n : Nat} {i x : Int32} {g : Nat → Int32} (hi : (J pc).1 = .iastore) (hk : f k = .inl (0, n, .inl g)) (hj : i.toInt = (j : Int)) (hn : j < n) (hu : va_up f k (.inl (0, n, .inl (upd g j x))) = f1) (kk : pm_X S J nL rt d bc bs (pc + 1) lv t c s (N, f1) r h') : pm_X S J nL rt d bc bs pc lv (.int x :: .int i :: .ref k :: t) c s (N, f) r h' := by
  subst hu
  exact pm_iast hi hk hj hn kk
theorem pm_lald {k j n : Nat} {i : Int32} {g : Nat → Int64} (hi : (J pc).1 = .laload) (hk : h.2 k = .inl (1, n, .inr (.inl g))) (hj : i.toInt = (j : Int)) (hN : j < n) (kk : pm_X S J nL rt d bc bs (pc + 1) lv (.long (g j) :: t) c s h r h') : pm_X S J nL rt d bc bs pc lv (.int i :: .ref k :: t) c s h r h' := by
  obtain ⟨m, kk⟩ := kk
  refine ⟨m + 1, ?_⟩
  unfold pm_run
  rw [hi]
  exact ⟨k, j, n, i, t, g, rfl, hj, hk, hN, kk⟩
theorem pm_lastU {k j n : Nat} {i : Int32} {x : Int64} {g : Nat → Int64} (hi : (J pc).1 = .lastore) (hk : f k = .inl (1, n, .inr (.inl g))) (hj : i.toInt = (j : Int)) (hn : j < n) (hu : va_up f k (.inl (1, n, .inr (.inl (vp_updL g j x)))) = f1) (kk : pm_X S J nL rt d bc bs (pc + 1) lv t c s (N, f1) r h') : pm_X S J nL rt d bc bs pc lv (.long x :: .int i :: .ref k :: t) c s (N, f) r h' := by
  subst hu
  obtain ⟨m, kk⟩ := kk
  refine ⟨m + 1, ?_⟩
  unfold pm_run
  rw [hi]
  exact ⟨k, j, n, i, x, t, g, rfl, hj, hk, hn, kk⟩
theorem pm_aald {k j n q : Nat} {i : Int32} {g : Nat → Option Nat} (hi : (J pc).1 = .aaload) (hk : h.2 k = .inl (2 + q, n, .inr (.inr (.inr (.inr g))))) (hq : q ∈ pm_qa) (hj : i.toInt = (j : Int)) (hN : j < n) (kk : pm_X S J nL rt d bc bs (pc + 1) lv (va_rf (g j) :: t) c s h r h') : pm_X S J nL rt d bc bs pc lv (.int i :: .ref k :: t) c s h r h' := by
  obtain ⟨m, kk⟩ := kk
  refine ⟨m + 1, ?_⟩
  unfold pm_run
  rw [hi]
  exact ⟨k, j, n, q, i, t, g, rfl, hj, hk, hq, hN, kk⟩
theorem pm_aastU {k j n q y : Nat} {i : Int32} {fs : List Value} {g : Nat → Option Nat} (hi : (J pc).1 = .aastore) (hk : f k = .inl (2 + q, n, .inr (.inr (.inr (.inr g))))) (hy : f y = .inr (q, fs)) (hq : q ∈ pm_qa) (hj : i.toInt = (j : Int)) (hn : j < n) (hu : va_up f k (.inl (2 + q, n, .inr (.inr (.inr (.inr (va_up g j (some y))))))) = f1) (kk : pm_X S J nL rt d bc bs (pc + 1) lv t c s (N, f1) r h') : pm_X S J nL rt d bc bs pc lv (.ref y :: .int i :: .ref k :: t) c s (N, f) r h' := by
  subst hu
  obtain ⟨m, kk⟩ := kk
  refine ⟨m + 1, ?_⟩
  unfold pm_run
  rw [hi]
  exact ⟨k, j, n, q, y, i, t, fs, g, rfl, hj, hk, hy, hq, hn, kk⟩
/-- a virtual call that returns -/
theorem pm_cV {i a b : Nat} {z : Int32} {k : Nat} (As : List Value) {fs : List Value} {v : Option Value} {c1 s1 : Nat} {st0 : List Value} (hi : J pc = (.invokevirtual i, a, b, z)) (hM : Nat.ble (a + 1) pm_nM = true) (hst : st0 = As.reverse ++ .ref k :: t) (hn : As.length = b) (hk : h.2 k = .inr (pm_O a, fs)) (ht : Nat.ble (pm_cat t) 8 = true) (hc : c + c1 ≤ bc) (hs : s + s1 ≤ bs) (hS : S a (.ref k :: As) h (.inl v) h1 c1 s1) (kk : pm_X S J nL rt d bc bs (pc + 3) lv (v.toList ++ t) (c + c1) (s + s1) h1 r h') : pm_X S J nL rt d bc bs pc lv st0 c s h r h' :=
  pm_invV hi (Nat.le_of_ble_eq_true hM) hst hn hk (Nat.le_of_ble_eq_true ht) hc hs hS kk
/-- a virtual call that throws -/
theorem pm_cX {i a b : Nat} {z : Int32} {k : Nat} (As : List Value) {fs : List Value} {x c1 s1 : Nat} {st0 : List Value} (hi : J pc = (.invokevirtual i, a, b, z)) (hM : Nat.ble (a + 1) pm_nM = true) (hst : st0 = As.reverse ++ .ref k :: t) (hn : As.length = b) (hk : h.2 k = .inr (pm_O a, fs)) (ht : Nat.ble (pm_cat t) 8 = true) (hc : c + c1 ≤ bc) (hs : s + s1 ≤ bs) (hS : S a (.ref k :: As) h (.inr x) h1 c1 s1) (e1 : r = .inr x) (e2 : h' = h1) : pm_X S J nL rt d bc bs pc lv st0 c s h r h' := by
  refine ⟨1, ?_⟩
  unfold pm_run
  rw [hi]
  exact ⟨k, As, t, fs, .inr x, h1, c1, s1, Nat.le_of_ble_eq_true hM, hst, hn, hk, Nat.le_of_ble_eq_true ht, hc, hs, hS, e1, e2⟩
theorem pm_cS {i a b : Nat} {z : Int32} (As : List Value) {v : Option Value} {c1 s1 : Nat} {st0 : List Value} (hi : J pc = (.invokestatic i, a, b, z)) (hM : Nat.ble (a + 1) pm_nM = true) (hst : st0 = As.reverse ++ t) (hn : As.length = b) (ht : Nat.ble (pm_cat t) 8 = true) (hc : c + c1 ≤ bc) (hs : s + s1 ≤ bs) (hS : S a As h (.inl v) h1 c1 s1) (kk : pm_X S J nL rt d bc bs (pc + 3) lv (v.toList ++ t) (c + c1) (s + s1) h1 r h') : pm_X S J nL rt d bc bs pc lv st0 c s h r h' := by
  obtain ⟨m, kk⟩ := kk
  refine ⟨m + 1, ?_⟩
  unfold pm_run
  rw [hi]
  exact Or.inr ⟨As, t, v, h1, c1, s1, Nat.le_of_ble_eq_true hM, hst, hn, Nat.le_of_ble_eq_true ht, hc, hs, hS, kk⟩
theorem pm_cI {i a b : Nat} {z : Int32} {k : Nat} (As : List Value) {c1 s1 : Nat} {st0 : List Value} (hi : J pc = (.invokespecial i, a, b, z)) (hM : Nat.ble (a + 1) pm_nM = true) (hst : st0 = As.reverse ++ .ref k :: t) (hn : As.length = b) (ht : Nat.ble (pm_cat t) 8 = true) (hc : c + c1 ≤ bc) (hs : s + s1 ≤ bs) (hS : S a (.ref k :: As) h (.inl none) h1 c1 s1) (kk : pm_X S J nL rt d bc bs (pc + 3) lv t (c + c1) (s + s1) h1 r h') : pm_X S J nL rt d bc bs pc lv st0 c s h r h' := by
  obtain ⟨m, kk⟩ := kk
  refine ⟨m + 1, ?_⟩
  unfold pm_run
  rw [hi]
  exact Or.inr ⟨k, As, t, h1, c1, s1, Nat.le_of_ble_eq_true hM, hst, hn, Nat.le_of_ble_eq_true ht, hc, hs, hS, kk⟩
theorem pm_obj {i b k : Nat} {z : Int32} (hi : J pc = (.invokespecial i, 1000, b, z)) (hd : 1 ≤ d) (ht : Nat.ble (pm_cat t) 8 = true) (kk : pm_X S J nL rt d bc bs (pc + 3) lv t c s h r h') : pm_X S J nL rt d bc bs pc lv (.ref k :: t) c s h r h' := by
  obtain ⟨m, kk⟩ := kk
  refine ⟨m + 1, ?_⟩
  unfold pm_run
  rw [hi]
  exact Or.inl ⟨k, t, rfl, rfl, hd, Nat.le_of_ble_eq_true ht, kk⟩
theorem pm_thr {i a b : Nat} {z : Int32} (hi : J pc = (.new i, a, b, z)) (ha : Nat.ble 100 a = true) (hd : 8 ≤ d) (ht : Nat.ble (pm_cat st) 8 = true) (hc : c + 1 ≤ bc) (hs : s + 6 ≤ bs) (e1 : r = .inr (a - 100)) (e2 : h' = h) : pm_X S J nL rt d bc bs pc lv st c s h r h' := by
  refine ⟨1, ?_⟩
  unfold pm_run
  rw [hi]
  exact Or.inl ⟨Nat.le_of_ble_eq_true ha, hd, Nat.le_of_ble_eq_true ht, hc, hs, e1, e2⟩
theorem pm_ifn {o : Int} {a b : Nat} {z : Int32} {q : Option Nat} (hi : J pc = (.ifnull o, a, b, z)) (kt : q = none → pm_X S J nL rt d bc bs a lv t c s h r h') (kf : ∀ k, q = some k → pm_X S J nL rt d bc bs (pc + 3) lv t c s h r h') : pm_X S J nL rt d bc bs pc lv (va_rf q :: t) c s h r h' := by
  cases q with
  | none =>
    obtain ⟨m, kk⟩ := kt rfl
    refine ⟨m + 1, ?_⟩
    unfold pm_run
    rw [hi]
    exact ⟨.null, t, rfl, Or.inl ⟨rfl, kk⟩⟩
  | some k =>
    obtain ⟨m, kk⟩ := kf k rfl
    refine ⟨m + 1, ?_⟩
    unfold pm_run
    rw [hi]
    exact ⟨.ref k, t, rfl, Or.inr ⟨k, rfl, kk⟩⟩
theorem pm_ifnn {o : Int} {a b : Nat} {z : Int32} {q : Option Nat} (hi : J pc = (.ifnonnull o, a, b, z)) (kf : q = none → pm_X S J nL rt d bc bs (pc + 3) lv t c s h r h') (kt : ∀ k, q = some k → pm_X S J nL rt d bc bs a lv t c s h r h') : pm_X S J nL rt d bc bs pc lv (va_rf q :: t) c s h r h' := by
  cases q with
  | none =>
    obtain ⟨m, kk⟩ := kf rfl
    refine ⟨m + 1, ?_⟩
    unfold pm_run
    rw [hi]
    exact ⟨.null, t, rfl, Or.inl ⟨rfl, kk⟩⟩
  | some k =>
    obtain ⟨m, kk⟩ := kt k rfl
    refine ⟨m + 1, ?_⟩
    unfold pm_run
    rw [hi]
    exact ⟨.ref k, t, rfl, Or.inr ⟨k, rfl, kk⟩⟩
theorem pm_lret {x : Int64} (hi : (J pc).1 = .lreturn) (hr : pm_rfit rt (.long x) = true) (e1 : r = .inl (some (.long x))) (e2 : h' = h) : pm_X S J nL rt d bc bs pc lv [.long x] c s h r h' := by
  refine ⟨1, ?_⟩
  unfold pm_run
  rw [hi]
  exact ⟨x, rfl, hr, e1, e2⟩
theorem pm_aret {v : Value} (hi : (J pc).1 = .areturn) (hv : pm_isR v = true) (hr : pm_rfit rt v = true) (e1 : r = .inl (some v)) (e2 : h' = h) : pm_X S J nL rt d bc bs pc lv [v] c s h r h' := by
  refine ⟨1, ?_⟩
  unfold pm_run
  rw [hi]
  exact ⟨v, rfl, hv, hr, e1, e2⟩
/-- a number of the stack under another name -/
theorem pm_nm {x y : Int32} (e : x = y) (kk : pm_X S J nL rt d bc bs pc lv (.int y :: t) c s h r h') : pm_X S J nL rt d bc bs pc lv (.int x :: t) c s h r h' := by
  subst e
  exact kk
end PMY
theorem pm_toInt0 : (0 : Int32).toInt = ((0 : Nat) : Int) := rfl
theorem pm_nlt {a : Int32} {n : Nat} (h : a = nI n) (hn : n < 2 ^ 31) : ¬ a < 0 := by rw [h]; exact nI_pos hn
