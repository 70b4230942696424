/-! ROWS OF THE PURE MACHINE: a row an instruction; a frame without fuel -/
/-- the run, without its fuel -/
def pm_X (S : Nat → List Value → pm_H → pm_V → pm_H → Nat → Nat → Prop) (J : Nat → pm_I) (nL : Nat) (rt : Option FieldType) (d bc bs : Nat) (pc : Nat) (lv : List (Nat × Value)) (st : List Value) (c s : Nat) (h : pm_H) (r : pm_V) (h' : pm_H) : Prop := ∃ n, pm_run S J nL rt d bc bs n pc lv st c s h r h'
section PMX
variable {S : Nat → List Value → pm_H → pm_V → pm_H → Nat → Nat → Prop} {J : Nat → pm_I} {nL : Nat} {rt : Option FieldType} {d bc bs : Nat} {pc : Nat} {lv : List (Nat × Value)} {st : List Value} {c s : Nat} {h : pm_H} {r : pm_V} {h' : pm_H}
theorem pm_step {q : Nat × List (Nat × Value) × List Value} (hs : pm_s nL (J pc) pc lv st = some q) (k : pm_X S J nL rt d bc bs q.1 q.2.1 q.2.2 c s h r h') : pm_X S J nL rt d bc bs pc lv st c s h r h' := by
  obtain ⟨n, k⟩ := k
  refine ⟨n + 1, ?_⟩
  unfold pm_run
  cases hi : (J pc).1 <;> first | exact ⟨q, hs, k⟩ | (exfalso; simp [pm_s, hi] at hs)
def pm_ss (nL : Nat) (J : Nat → pm_I) : Nat → Nat × List (Nat × Value) × List Value → Option (Nat × List (Nat × Value) × List Value)
  | 0, q => some q
  | n + 1, (pc, lv, st) => match pm_s nL (J pc) pc lv st with
    | some q1 => pm_ss nL J n q1
    | none => none
theorem pm_go : ∀ (k : Nat) {pc : Nat} {lv : List (Nat × Value)} {st : List Value} {pc1 : Nat} {lv1 : List (Nat × Value)} {st1 : List Value}, pm_ss nL J k (pc, lv, st) = some (pc1, lv1, st1) → pm_X S J nL rt d bc bs pc1 lv1 st1 c s h r h' → pm_X S J nL rt d bc bs pc lv st c s h r h' := by
  intro k
  induction k with
  | zero => intro pc lv st pc1 lv1 st1 he kk; cases he; exact kk
  | succ k ih =>
    intro pc lv st pc1 lv1 st1 he kk
    unfold pm_ss at he
    split at he
    · rename_i q1 hq
      exact pm_step hq (ih he kk)
    · cases he
theorem pm_getf {i a b : Nat} {z : Int32} {k : Nat} {t fs : List Value} {v : Value} (hi : J pc = (.getfield i, a, b, z)) (hk : h.2 k = .inr (a, fs)) (hv : fs[b]? = some v) (kk : pm_X S J nL rt d bc bs (pc + 3) lv (v :: t) c s h r h') : pm_X S J nL rt d bc bs pc lv (.ref k :: t) c s h r h' := by
  obtain ⟨n, kk⟩ := kk
  refine ⟨n + 1, ?_⟩
  unfold pm_run
  rw [hi]
  exact ⟨k, t, fs, v, rfl, hk, hv, kk⟩
theorem pm_putf {i a b : Nat} {z : Int32} {k : Nat} {t fs : List Value} {v : Value} (hi : J pc = (.putfield i, a, b, z)) (hk : h.2 k = .inr (a, fs)) (hb : b < fs.length) (hf : pm_fit (pm_G a b) v = true) (kk : pm_X S J nL rt d bc bs (pc + 3) lv t c s (h.1, va_up h.2 k (.inr (a, fs.set b v))) r h') : pm_X S J nL rt d bc bs pc lv (v :: .ref k :: t) c s h r h' := by
  obtain ⟨n, kk⟩ := kk
  refine ⟨n + 1, ?_⟩
  unfold pm_run
  rw [hi]
  exact ⟨k, t, fs, v, rfl, hk, hb, hf, kk⟩
theorem pm_iald {k j N : Nat} {i : Int32} {t : List Value} {g : Nat → Int32} (hi : (J pc).1 = .iaload) (hk : h.2 k = .inl (0, N, .inl g)) (hj : i.toInt = (j : Int)) (hN : j < N) (kk : pm_X S J nL rt d bc bs (pc + 1) lv (.int (g j) :: t) c s h r h') : pm_X S J nL rt d bc bs pc lv (.int i :: .ref k :: t) c s h r h' := by
  obtain ⟨n, kk⟩ := kk
  refine ⟨n + 1, ?_⟩
  unfold pm_run
  rw [hi]
  exact ⟨k, j, N, i, t, g, rfl, hj, hk, hN, kk⟩
theorem pm_iast {k j N : Nat} {i x : Int32} {t : List Value} {g : Nat → Int32} (hi : (J pc).1 = .iastore) (hk : h.2 k = .inl (0, N, .inl g)) (hj : i.toInt = (j : Int)) (hN : j < N) (kk : pm_X S J nL rt d bc bs (pc + 1) lv t c s (h.1, va_up h.2 k (.inl (0, N, .inl (upd g j x)))) r h') : pm_X S J nL rt d bc bs pc lv (.int x :: .int i :: .ref k :: t) c s h r h' := by
  obtain ⟨n, kk⟩ := kk
  refine ⟨n + 1, ?_⟩
  unfold pm_run
  rw [hi]
  exact ⟨k, j, N, i, x, t, g, rfl, hj, hk, hN, kk⟩
theorem pm_alen {k q N : Nat} {t : List Value} {x : (Nat → Int32) ⊕ (Nat → Int64) ⊕ (Nat → UInt32) ⊕ (Nat → UInt64) ⊕ (Nat → Option Nat)} (hi : (J pc).1 = .arraylength) (hk : h.2 k = .inl (q, N, x)) (hq : pm_tc q) (kk : pm_X S J nL rt d bc bs (pc + 1) lv (.int (nI N) :: t) c s h r h') : pm_X S J nL rt d bc bs pc lv (.ref k :: t) c s h r h' := by
  obtain ⟨n, kk⟩ := kk
  refine ⟨n + 1, ?_⟩
  unfold pm_run
  rw [hi]
  exact ⟨k, q, N, t, x, rfl, hk, hq, kk⟩
theorem pm_icmp {k : Jvm.ClassFile.Cond} {o : Int} {a b : Nat} {z x y : Int32} {t : List Value} (hi : J pc = (.if_icmp k o, a, b, z)) (kt : pm_cmp k x y → pm_X S J nL rt d bc bs a lv t c s h r h') (kf : ¬ pm_cmp k x y → pm_X S J nL rt d bc bs (pc + 3) lv t c s h r h') : pm_X S J nL rt d bc bs pc lv (.int y :: .int x :: t) c s h r h' := by
  by_cases hc : pm_cmp k x y
  · obtain ⟨n, kk⟩ := kt hc
    refine ⟨n + 1, ?_⟩
    unfold pm_run
    rw [hi]
    exact ⟨x, y, t, rfl, Or.inl ⟨hc, kk⟩⟩
  · obtain ⟨n, kk⟩ := kf hc
    refine ⟨n + 1, ?_⟩
    unfold pm_run
    rw [hi]
    exact ⟨x, y, t, rfl, Or.inr ⟨hc, kk⟩⟩
theorem pm_if {k : Jvm.ClassFile.Cond} {o : Int} {a b : Nat} {z x : Int32} {t : List Value} (hi : J pc = (.ifCond k o, a, b, z)) (kt : pm_cmp k x 0 → pm_X S J nL rt d bc bs a lv t c s h r h') (kf : ¬ pm_cmp k x 0 → pm_X S J nL rt d bc bs (pc + 3) lv t c s h r h') : pm_X S J nL rt d bc bs pc lv (.int x :: t) c s h r h' := by
  by_cases hc : pm_cmp k x 0
  · obtain ⟨n, kk⟩ := kt hc
    refine ⟨n + 1, ?_⟩
    unfold pm_run
    rw [hi]
    exact ⟨x, t, rfl, Or.inl ⟨hc, kk⟩⟩
  · obtain ⟨n, kk⟩ := kf hc
    refine ⟨n + 1, ?_⟩
    unfold pm_run
    rw [hi]
    exact ⟨x, t, rfl, Or.inr ⟨hc, kk⟩⟩
theorem pm_invV {i a b : Nat} {z : Int32} {k : Nat} {As t fs : List Value} {v : Option Value} {h1 : pm_H} {c1 s1 : Nat} {st0 : List Value} (hi : J pc = (.invokevirtual i, a, b, z)) (hM : a < pm_nM) (hst : st0 = As.reverse ++ .ref k :: t) (hn : As.length = b) (hk : h.2 k = .inr (pm_O a, fs)) (ht : pm_cat t ≤ 8) (hc : c + c1 ≤ bc) (hs : s + s1 ≤ bs) (hS : S a (.ref k :: As) h (.inl v) h1 c1 s1) (kk : pm_X S J nL rt d bc bs (pc + 3) lv (v.toList ++ t) (c + c1) (s + s1) h1 r h') : pm_X S J nL rt d bc bs pc lv st0 c s h r h' := by
  obtain ⟨n, kk⟩ := kk
  refine ⟨n + 1, ?_⟩
  unfold pm_run
  rw [hi]
  exact ⟨k, As, t, fs, .inl v, h1, c1, s1, hM, hst, hn, hk, ht, hc, hs, hS, kk⟩
theorem pm_vret (hi : (J pc).1 = .return_) (hr : rt = none) (e1 : r = .inl none) (e2 : h' = h) : pm_X S J nL rt d bc bs pc lv [] c s h r h' := by
  refine ⟨1, ?_⟩
  unfold pm_run
  rw [hi]
  exact ⟨rfl, hr, e1, e2⟩
theorem pm_iret {x : Int32} (hi : (J pc).1 = .ireturn) (hr : pm_rfit rt (.int x) = true) (e1 : r = .inl (some (.int x))) (e2 : h' = h) : pm_X S J nL rt d bc bs pc lv [.int x] c s h r h' := by
  refine ⟨1, ?_⟩
  unfold pm_run
  rw [hi]
  exact ⟨x, rfl, hr, e1, e2⟩
end PMX
theorem pm_callX {d M : Nat} {As : List Value} {h h' : pm_H} {r : pm_V} {bc bs : Nat} (J : Nat → pm_I) (lv : List (Nat × Value)) (hl : Nat.ble (lg_sl As).length (pm_L M) = true) (hJ : pm_J M = J) (hv : lv_args 0 As = lv) (k : pm_X (pm_call d) J (pm_L M) (pm_T M) d bc bs 0 lv [] 0 0 h r h') : pm_call (d + 1) M As h r h' bc bs := by
  subst hJ
  subst hv
  exact ⟨Nat.le_of_ble_eq_true hl, k⟩
