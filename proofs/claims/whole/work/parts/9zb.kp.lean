/-! AN OBJECT KEEPS ITS CLASS -/
def Kp (h h' : pm_H) : Prop := h.1 ≤ h'.1 ∧ ∀ k, k < h.1 → ∀ c fs, h.2 k = .inr (c, fs) → ∃ fs', h'.2 k = .inr (c, fs')
theorem Kp.refl (h : pm_H) : Kp h h := ⟨Nat.le_refl _, fun _ _ _ fs e => ⟨fs, e⟩⟩
theorem Kp.trans {a b c : pm_H} (h1 : Kp a b) (h2 : Kp b c) : Kp a c := ⟨Nat.le_trans h1.1 h2.1, fun k hk x fs e => by
  obtain ⟨f1, e1⟩ := h1.2 k hk x fs e
  exact h2.2 k (Nat.lt_of_lt_of_le hk h1.1) x f1 e1⟩
theorem Kp_obj {h : pm_H} {k q : Nat} {fs fs1 : List Value} (hc : h.2 k = .inr (q, fs)) : Kp h (h.1, va_up h.2 k (.inr (q, fs1))) := by
  refine ⟨Nat.le_refl _, fun j hj x f e => ?_⟩
  by_cases hq : j = k
  · subst hq
    rw [hc] at e
    cases e
    exact ⟨fs1, va_up_self _ _ _⟩
  · exact ⟨f, by show va_up h.2 k _ j = _; rw [va_up_ne _ _ hq]; exact e⟩
theorem Kp_arr {h : pm_H} {k : Nat} {x y} (hc : h.2 k = .inl x) : Kp h (h.1, va_up h.2 k (.inl y)) := by
  refine ⟨Nat.le_refl _, fun j hj z f e => ?_⟩
  by_cases hq : j = k
  · subst hq
    rw [hc] at e
    cases e
  · exact ⟨f, by show va_up h.2 k _ j = _; rw [va_up_ne _ _ hq]; exact e⟩
theorem Kp_push {h : pm_H} {e1 : va_E} : Kp h (h.1 + 1, va_up h.2 h.1 e1) := by
  refine ⟨Nat.le_succ _, fun j hj z f e => ⟨f, ?_⟩⟩
  show va_up h.2 h.1 _ j = _
  rw [va_up_ne _ _ (Nat.ne_of_lt hj)]
  exact e
set_option maxHeartbeats 4000000 in
theorem Kp_run {S : Nat → List Value → pm_H → pm_V → pm_H → Nat → Nat → Prop} {J : Nat → pm_I} {nL : Nat} {rt : Option FieldType} {d bc bs : Nat} {r : pm_V} {h' : pm_H} (hS : ∀ M As h r h1 c s, S M As h r h1 c s → Kp h h1) : ∀ (n pc : Nat) (lv : List (Nat × Value)) (st : List Value) (c s : Nat) (h : pm_H), pm_run S J nL rt d bc bs n pc lv st c s h r h' → Kp h h' := by
  intro n
  induction n with
  | zero => intro pc lv st c s h hr; cases hr
  | succ n ih =>
    intro pc lv st c s h hr
    rcases hI : J pc with ⟨ins, r1, r2, kz⟩
    unfold pm_run at hr
    rw [hI] at hr
    cases ins with
    | getfield i => obtain ⟨k, t, fs, v, -, -, -, hr⟩ := hr; exact ih _ _ _ _ _ _ hr
    | putfield i => obtain ⟨k, t, fs, v, -, hc, -, -, hr⟩ := hr; exact (Kp_obj hc).trans (ih _ _ _ _ _ _ hr)
    | iaload => obtain ⟨k, j, N, i, t, g, -, -, -, -, hr⟩ := hr; exact ih _ _ _ _ _ _ hr
    | iastore => obtain ⟨k, j, N, i, x, t, g, -, -, hc, -, hr⟩ := hr; exact (Kp_arr hc).trans (ih _ _ _ _ _ _ hr)
    | laload => obtain ⟨k, j, N, i, t, g, -, -, -, -, hr⟩ := hr; exact ih _ _ _ _ _ _ hr
    | lastore => obtain ⟨k, j, N, i, x, t, g, -, -, hc, -, hr⟩ := hr; exact (Kp_arr hc).trans (ih _ _ _ _ _ _ hr)
    | aaload => obtain ⟨k, j, N, q, i, t, g, -, -, -, -, -, hr⟩ := hr; exact ih _ _ _ _ _ _ hr
    | aastore => obtain ⟨k, j, N, q, y, i, t, fs, g, -, -, hc, -, -, -, hr⟩ := hr; exact (Kp_arr hc).trans (ih _ _ _ _ _ _ hr)
    | arraylength => obtain ⟨k, q, N, t, x, -, -, -, hr⟩ := hr; exact ih _ _ _ _ _ _ hr
    | newarray a =>
      obtain ⟨N, i, t, -, -, -, -, -, ⟨-, hr⟩ | ⟨-, hr⟩⟩ := hr
      · exact Kp_push.trans (ih _ _ _ _ _ _ hr)
      · exact Kp_push.trans (ih _ _ _ _ _ _ hr)
    | anewarray a => obtain ⟨N, i, t, -, -, -, -, -, hr⟩ := hr; exact Kp_push.trans (ih _ _ _ _ _ _ hr)
    | new a =>
      rcases hr with ⟨-, -, -, -, -, -, rfl⟩ | ⟨-, -, -, hr⟩
      · exact Kp.refl _
      · exact Kp_push.trans (ih _ _ _ _ _ _ hr)
    | invokespecial a =>
      rcases hr with ⟨k, t, -, -, -, -, hr⟩ | ⟨b, As, t, h1, c1, s1, -, -, -, -, -, -, hS1, hr⟩
      · exact ih _ _ _ _ _ _ hr
      · exact (hS _ _ _ _ _ _ _ hS1).trans (ih _ _ _ _ _ _ hr)
    | invokevirtual a =>
      obtain ⟨b, As, t, fs, rr, h1, c1, s1, -, -, -, -, -, -, -, hS1, hr⟩ := hr
      cases rr with
      | inl v => exact (hS _ _ _ _ _ _ _ hS1).trans (ih _ _ _ _ _ _ hr)
      | inr k => obtain ⟨-, rfl⟩ := hr; exact hS _ _ _ _ _ _ _ hS1
    | invokestatic a =>
      rcases hr with ⟨k0, k1, n0, n1, ln, sj, dj, t, x, y, z, f, g, -, -, -, hc, -, -, -, -, -, -, -, hr⟩ | ⟨As, t, v, h1, c1, s1, -, -, -, -, -, -, hS1, hr⟩
      · exact (Kp_arr hc).trans (ih _ _ _ _ _ _ hr)
      · exact (hS _ _ _ _ _ _ _ hS1).trans (ih _ _ _ _ _ _ hr)
    | if_icmp k o => obtain ⟨x, y, t, -, ⟨-, hr⟩ | ⟨-, hr⟩⟩ := hr <;> exact ih _ _ _ _ _ _ hr
    | ifCond k o => obtain ⟨x, t, -, ⟨-, hr⟩ | ⟨-, hr⟩⟩ := hr <;> exact ih _ _ _ _ _ _ hr
    | ifnull o => obtain ⟨v, t, -, ⟨-, hr⟩ | ⟨k, -, hr⟩⟩ := hr <;> exact ih _ _ _ _ _ _ hr
    | ifnonnull o => obtain ⟨v, t, -, ⟨-, hr⟩ | ⟨k, -, hr⟩⟩ := hr <;> exact ih _ _ _ _ _ _ hr
    | tableswitch a b c1 e => obtain ⟨x, off, tgt, t, -, -, -, hr⟩ := hr; exact ih _ _ _ _ _ _ hr
    | lookupswitch a b => obtain ⟨x, tgt, t, -, -, -, hr⟩ := hr; exact ih _ _ _ _ _ _ hr
    | ireturn => obtain ⟨x, -, -, -, rfl⟩ := hr; exact Kp.refl _
    | lreturn => obtain ⟨x, -, -, -, rfl⟩ := hr; exact Kp.refl _
    | areturn => obtain ⟨x, -, -, -, -, rfl⟩ := hr; exact Kp.refl _
    | return_ => obtain ⟨-, -, -, rfl⟩ := hr; exact Kp.refl _
    | _ => obtain ⟨q, -, hr⟩ := hr; exact ih _ _ _ _ _ _ hr
theorem Kp_call : ∀ (d M : Nat) (As : List Value) (h : pm_H) (r : pm_V) (h' : pm_H) (bc bs : Nat), pm_call d M As h r h' bc bs → Kp h h' := by
  intro d
  induction d with
  | zero => intro M As h r h' bc bs hc; cases hc
  | succ d ih =>
    intro M As h r h' bc bs hc
    obtain ⟨-, n, hr⟩ := hc
    exact Kp_run ih n _ _ _ _ _ _ hr
