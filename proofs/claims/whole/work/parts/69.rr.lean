/-! THE READER: numbers one behind another -/
def pSq (F : Nat → Nat → Option (Nat × Nat)) (a : Nat) (nu : Nat → Nat) (p : Nat) : Nat → Option ((Nat → Nat) × Nat)
  | 0 => some (nu, p)
  | k + 1 => match pSq F a nu p k with
    | none => none
    | some z => match F (a + k) z.2 with
      | none => none
      | some y => some (va_up z.1 (a + k) y.1, y.2)
theorem pSq_pre {F : Nat → Nat → Option (Nat × Nat)} {a : Nat} {nu : Nat → Nat} {p : Nat} : ∀ {n : Nat} {z : (Nat → Nat) × Nat}, pSq F a nu p n = some z → ∀ k, k ≤ n → ∃ y, pSq F a nu p k = some y
  | 0, z, h, k, hk => by
    have e : k = 0 := by omega
    subst e
    exact ⟨z, h⟩
  | n + 1, z, h, k, hk => by
    by_cases e : k = n + 1
    · subst e; exact ⟨z, h⟩
    · unfold pSq at h
      split at h
      · cases h
      · rename_i y hy
        exact pSq_pre hy k (by omega)
theorem pSq_s {F : Nat → Nat → Option (Nat × Nat)} {a : Nat} {nu : Nat → Nat} {p n : Nat} {nu1 : Nat → Nat} {q : Nat} (h : pSq F a nu p n = some (nu1, q)) : pSq F a nu p (n + 1) = match F (a + n) q with | none => none | some y => some (va_up nu1 (a + n) y.1, y.2) := by
  show (match pSq F a nu p n with | none => none | some z => match F (a + n) z.2 with | none => none | some y => some (va_up z.1 (a + n) y.1, y.2)) = _
  rw [h]
abbrev okF (m a n : Nat) (F : Nat → Nat → Option (Nat × Nat)) : Prop := ∀ i p v q, a ≤ i → i < a + n → p ≤ 32 * m → F i p = some (v, q) → v < 2 ^ 31 ∧ p ≤ q ∧ q ≤ 32 * m
theorem pSq_b {m a n0 : Nat} {F : Nat → Nat → Option (Nat × Nat)} (hF : okF m a n0 F) {nu : Nat → Nat} {p : Nat} (hp : p ≤ 32 * m) (hnu : ∀ i, i < a → nu i < 2 ^ 31) : ∀ (n : Nat) {nu1 : Nat → Nat} {q : Nat}, n ≤ n0 → pSq F a nu p n = some (nu1, q) → (∀ i, i < a + n → nu1 i < 2 ^ 31) ∧ (∀ i, i < a → nu1 i = nu i) ∧ p ≤ q ∧ q ≤ 32 * m
  | 0, _, _, _, h => by cases h; exact ⟨hnu, fun _ _ => rfl, Nat.le_refl _, hp⟩
  | n + 1, nu1, q, hn, h => by
    unfold pSq at h
    split at h
    · cases h
    · rename_i z hz
      obtain ⟨nu0, q0⟩ := z
      split at h
      · cases h
      · rename_i y hy
        obtain ⟨v, q1⟩ := y
        cases h
        obtain ⟨i1, i2, i3, i4⟩ := pSq_b hF hp hnu n (by omega) hz
        obtain ⟨c1, c2, c3⟩ := hF _ _ _ _ (by omega) (by omega) i4 hy
        refine ⟨fun i hi => ?_, fun i hi => ?_, ?_, c3⟩
        · show (if i = a + n then v else nu0 i) < 2 ^ 31
          by_cases e : i = a + n
          · rw [if_pos e]; exact c1
          · rw [if_neg e]; exact i1 i (by omega)
        · show (if i = a + n then v else nu0 i) = nu i
          rw [if_neg (by omega)]
          exact i2 i hi
        · dsimp only at c2 ⊢; omega
def frN (fr : Nat → Int32) (nu : Nat → Nat) (k : Nat) : Nat → Int32 := fun i => if i < k then nI (nu i) else fr i
theorem frN_s (fr : Nat → Int32) (nu : Nat → Nat) (k v : Nat) : upd (frN fr nu k) k (nI v) = frN fr (va_up nu k v) (k + 1) := by
  funext i
  show (if i = k then nI v else if i < k then nI (nu i) else fr i) = if i < k + 1 then nI (if i = k then v else nu i) else fr i
  by_cases e : i = k
  · rw [if_pos e, if_pos (by omega), if_pos e]
  · rw [if_neg e, if_neg e]
    by_cases h : i < k
    · rw [if_pos h, if_pos (by omega)]
    · rw [if_neg h, if_neg (by omega)]
theorem frN_0 (fr : Nat → Int32) (nu : Nat → Nat) : frN fr nu 0 = fr := by
  funext i
  unfold frN
  rw [if_neg (by omega)]
/-- a number by an op of kind k with number v -/
def pBy (g : Nat → Int32) (m k v p : Nat) : Option (Nat × Nat) := if k = 1 then (if p + v ≤ 32 * m then some (rdN g p v, p + v) else none) else if k = 2 then gC g m v p else some (v, p)
theorem pBy_b {g : Nat → Int32} {m k v p x q : Nat} (hp : p ≤ 32 * m) (hv : v < 2 ^ 31) (h1 : k = 1 → v ≤ 31) (h : pBy g m k v p = some (x, q)) : x < 2 ^ 31 ∧ p ≤ q ∧ q ≤ 32 * m := by
  unfold pBy at h
  split at h
  · rename_i hk
    split at h
    · cases h
      have := rdN_lt g p v
      have := Nat.pow_le_pow_right (n := 2) (by omega) (h1 hk)
      omega
    · cases h
  · split at h
    · have := gC_b h; omega
    · cases h; exact ⟨hv, Nat.le_refl _, hp⟩
abbrev rwN (kk : Nat → Nat) (n : Nat) : Prop := 2 ≤ n ∧ kk (n - 2) = 3
def sgN (kk : Nat → Nat) (n : Nat) : Nat := if rwN kk n then n - 2 else n
theorem fmR_iff {K V : Nat → Int32} {n : Nat} {kk vv : Nat → Nat} (hN : fmN K V n kk vv) : fmR K n ↔ rwN kk n := by
  constructor
  · intro h
    obtain ⟨e1, e2, e3, _⟩ := hN (n - 2) (by omega)
    have := h.2
    rw [e1] at this
    exact ⟨h.1, (nI_eqI (b := 3) (by omega) (by omega)).mp this⟩
  · intro h
    obtain ⟨e1, _⟩ := hN (n - 2) (by omega)
    refine ⟨h.1, ?_⟩
    rw [e1, h.2]
    rfl
theorem fmS_sgN {K V : Nat → Int32} {n : Nat} {kk vv : Nat → Nat} (hN : fmN K V n kk vv) : fmS K n = sgN kk n := by
  unfold fmS sgN
  by_cases h : rwN kk n
  · rw [if_pos h, if_pos ((fmR_iff hN).mpr h)]
  · rw [if_neg h, if_neg (fun z => h ((fmR_iff hN).mp z))]
/-- a plain record behind its number -/
def pPl (g : Nat → Int32) (m p : Nat) : Option (Nat × (Nat → Nat) × Nat) := match gC g m 6 p with
  | none => none
  | some (c, p1) => match gC g m 6 p1 with
    | none => none
    | some (n, p2) => if n ≤ 16 then match pSq (fun _ => gC g m 6) 1 (va_up (fun _ => 0) 0 c) p2 n with
      | none => none
      | some (nu, q) => some (n + 1, nu, q)
      else none
/-- a record by a form -/
def pBF (g : Nat → Int32) (m n : Nat) (kk vv : Nat → Nat) (p : Nat) : Option (Nat × (Nat → Nat) × Nat) := match pSq (fun i => pBy g m (kk i) (vv i)) 0 (fun _ => 0) p (sgN kk n) with
  | none => none
  | some (nu, p1) => if rwN kk n then match gC g m 6 p1 with
      | none => none
      | some (l, p2) => if sgN kk n + l ≤ 17 ∧ 1 ≤ sgN kk n + l then match pSq (fun _ => pBy g m (kk (n - 1)) (vv (n - 1))) (sgN kk n) nu p2 l with
        | none => none
        | some (nu2, q) => some (sgN kk n + l, nu2, q)
        else none
    else some (sgN kk n, nu, p1)
section RR
variable {IA : Nat → Nat → Int32} {LA : Nat → Nat → Int64} {RA : Nat → Nat → Option Nat} {SC : Nat → Nat → Int32} {dr : Nat} {tl : Nat → va_E} {N d m p y n : Nat} {fr : Nat → Int32} {K V : Nat → Int32} {kk vv : Nat → Nat}
theorem HR_fr {g : Nat → Int32} : va_up (HR IA LA RA SC dr tl p fr) 34 (.inl (0, 17, .inl g)) = HR IA LA RA SC dr tl p g := by
  refine (hi_34 ..).trans ?_
  rw [va_up2]
theorem r_byO {i : Nat} (hS : SC 20 2 = nI m) (hm : m ≤ 64) (hp : p ≤ 32 * m) (hq : okq y) (hF : fmAt tl y n K V) (hN : fmN K V n kk vv) (hi : i < n) (o : Option (Nat × Nat)) (ho : pBy (IA 33) m (kk i) (vv i) p = o) :
    ∃ q, q ≤ 32 * m ∧ pm_call (d + 11) 52 [.ref 20, .ref y, .int (nI i)] (N, HR IA LA RA SC dr tl p fr) (rO o) (N, HR IA LA RA SC dr tl (qO o q) fr) (cO o) (6 * cO o) := by
  obtain ⟨e1, e2, e3, e4, e5, e6⟩ := hN i hi
  have hn8 := hF.2.2.2
  have hFq : fmAt (HR IA LA RA SC dr tl p fr) y n K V := fm_HC hq hF
  have hki : (nI i).toInt = (i : Int) := nI_toInt (by omega)
  have hpre : ∀ {r : pm_V} {h' : pm_H} {bc bs : Nat}, pm_X (pm_call (d + 10)) jm_52 4 (some .int) (d + 10) bc bs 11 [(3, .int (nI (vv i))), (0, .ref 20), (1, .ref y), (2, .int (nI i))] [.int (nI (kk i))] 0 0 (N, HR IA LA RA SC dr tl p fr) r h' → pm_call (d + 11) 52 [.ref 20, .ref y, .int (nI i)] (N, HR IA LA RA SC dr tl p fr) r h' bc bs := by
    intro r h' bc bs hk
    refine pm_callX jm_52 [(0, .ref 20), (1, .ref y), (2, .int (nI i))] rfl rfl rfl ?_
    refine pm_go 2 (pc1 := 2) rfl ?_
    refine pm_cV [.int (nI i)] rfl rfl rfl rfl hFq.1 rfl (Nat.zero_le _) (Nat.zero_le _) (c_numberAt hFq) ?_
    rw [hki, fmV_at hi, e2]
    refine pm_go 3 (pc1 := 8) rfl ?_
    refine pm_cV [.int (nI i)] rfl rfl rfl rfl hFq.1 rfl (Nat.zero_le _) (Nat.zero_le _) (c_kindAt hFq) ?_
    rw [hki, fmK_at hi, e1]
    exact hk
  unfold pBy at ho
  by_cases h1 : kk i = 1
  · rw [if_pos h1] at ho
    have hgo : ∀ {r : pm_V} {h' : pm_H} {bc bs : Nat}, pm_X (pm_call (d + 10)) jm_52 4 (some .int) (d + 10) bc bs 38 [(3, .int (nI (vv i))), (0, .ref 20), (1, .ref y), (2, .int (nI i))] [.int (nI (vv i)), .ref 20] 0 0 (N, HR IA LA RA SC dr tl p fr) r h' → pm_call (d + 11) 52 [.ref 20, .ref y, .int (nI i)] (N, HR IA LA RA SC dr tl p fr) r h' bc bs := by
      intro r h' bc bs hk
      refine hpre ?_
      rw [h1]
      refine pm_lks (tgt := 36) rfl rfl rfl ?_
      exact pm_go 2 (pc1 := 38) rfl hk
    by_cases h2 : p + vv i ≤ 32 * m
    · rw [if_pos h2] at ho
      subst ho
      refine ⟨p + vv i, h2, hgo ?_⟩
      refine pm_cV [.int (nI (vv i))] rfl rfl rfl rfl rfl rfl (Nat.zero_le _) (Nat.zero_le _) (r_take hS hm hp (e5 h1).1 (by have := e5 h1; omega) h2) ?_
      exact pm_iret rfl rfl rfl rfl
    · rw [if_neg h2] at ho
      subst ho
      refine ⟨p, hp, hgo ?_⟩
      exact pm_cX [.int (nI (vv i))] rfl rfl rfl rfl rfl rfl (Nat.le_refl _) (Nat.le_refl _) (r_takeX (d := d + 1) hS hm hp (by have := e5 h1; omega) h2) rfl rfl
  · rw [if_neg h1] at ho
    by_cases h2 : kk i = 2
    · rw [if_pos h2] at ho
      obtain ⟨q, hq2, hX⟩ := r_chunksO (d := d) (IA := IA) (LA := LA) (RA := RA) (dr := dr) (tl := tl) (N := N) (fr := fr) (w := vv i) (e6 h2).1 (e6 h2).2 hS hm hp
      rw [ho] at hX
      refine ⟨q, hq2, hpre ?_⟩
      rw [h2]
      refine pm_lks (tgt := 42) rfl rfl rfl ?_
      refine pm_go 2 (pc1 := 44) rfl ?_
      cases o with
      | none => exact pm_cX [.int (nI (vv i))] rfl rfl rfl rfl rfl rfl (Nat.le_refl _) (Nat.le_refl _) hX rfl rfl
      | some z =>
        refine pm_cV [.int (nI (vv i))] rfl rfl rfl rfl rfl rfl (Nat.le_refl _) (Nat.le_refl _) hX ?_
        exact pm_iret rfl rfl rfl rfl
    · rw [if_neg h2] at ho
      subst ho
      refine ⟨p, hp, hpre ?_⟩
      have h03 : kk i = 0 ∨ kk i = 3 := by omega
      refine pm_lks (tgt := 48) rfl rfl (by rcases h03 with h | h <;> (rw [h]; rfl)) ?_
      refine pm_go 1 (pc1 := 49) rfl ?_
      exact pm_iret rfl rfl rfl rfl
/-- the loop over a plain record's values -/
theorem r_pl_ok {p0 q2 : Nat} {nu0 nu2 : Nat → Nat} (hS : SC 20 2 = nI m) (hm : m ≤ 64) (hp0 : p0 ≤ 32 * m) (hnu : nu0 0 < 2 ^ 31) (hn : n ≤ 16) (hall : pSq (fun _ => gC (IA 33) m 6) 1 nu0 p0 n = some (nu2, q2)) : ∀ (j k p : Nat) (nu : Nat → Nat), k + j = n → pSq (fun _ => gC (IA 33) m 6) 1 nu0 p0 k = some (nu, p) →
    pm_X (pm_call (d + 10)) jm_50 3 (some .int) (d + 10) 0 0 37 [(0, .ref 20), (1, .int (nI n)), (2, .int (nI (1 + k)))] [] 0 0 (N, HR IA LA RA SC dr tl p (frN fr nu (1 + k))) (.inl (some (.int (nI (n + 1))))) (N, HR IA LA RA SC dr tl q2 (frN fr nu2 (n + 1))) := by
  intro j
  induction j with
  | zero =>
    intro k p nu hk hP
    have e : k = n := by omega
    subst e
    rw [hall] at hP
    cases hP
    refine pm_go 2 (pc1 := 39) rfl ?_
    refine pm_icmp rfl (fun _ => ?_) (fun z => absurd ((nI_ltI (by omega) (by omega)).mpr (by omega)) z)
    refine pm_go 3 (pc1 := 63) rfl ?_
    rw [nI_1, Nat.add_comm 1 k]
    exact pm_iret rfl rfl rfl rfl
  | succ j ih =>
    intro k p nu hk hP
    obtain ⟨hb1, hb2, hb3, hb4⟩ := pSq_b (n0 := n) (m := m) (F := fun _ => gC (IA 33) m 6) (fun _ _ _ _ _ _ _ h => by have := gC_b h; omega) hp0 (fun i hi => by rw [show i = 0 by omega]; exact hnu) k (by omega) hP
    obtain ⟨z, hz⟩ := pSq_pre hall (k + 1) (by omega)
    have hz2 := hz
    rw [pSq_s hP] at hz2
    cases h1 : gC (IA 33) m 6 p with
    | none => rw [h1] at hz2; cases hz2
    | some o =>
      obtain ⟨v1, q1⟩ := o
      rw [h1] at hz2
      cases hz2
      refine pm_go 2 (pc1 := 39) rfl ?_
      refine pm_icmp rfl (fun z => absurd ((nI_ltI (by omega) (by omega)).mp z) (by omega)) (fun _ => ?_)
      refine pm_go 1 (pc1 := 43) rfl ?_
      refine pm_getf rfl rfl rfl ?_
      refine pm_go 3 (pc1 := 50) rfl ?_
      refine pm_cV [.int (nI 6)] rfl rfl rfl rfl rfl rfl (Nat.le_refl _) (Nat.le_refl _) (r_chunks (by omega) (by omega) hS hm hb4 h1) ?_
      refine pm_iastU (j := 1 + k) rfl rfl (cw_ti (by omega)) (by omega) HR_fr ?_
      refine pm_go 2 (pc1 := 37) rfl ?_
      rw [nI_1]
      have ih := ih (k + 1) q1 _ (by omega) hz
      rw [show frN fr (va_up nu (1 + k) v1) (1 + (k + 1)) = upd (frN fr nu (1 + k)) (1 + k) (nI v1) from (frN_s fr nu (1 + k) v1).symm] at ih
      exact pm_lv [(0, .ref 20), (1, .int (nI n)), (2, .int (nI (1 + (k + 1))))] rfl rfl ih
theorem r_pl_bad {p0 : Nat} {nu0 : Nat → Nat} (hS : SC 20 2 = nI m) (hm : m ≤ 64) (hp0 : p0 ≤ 32 * m) (hnu : nu0 0 < 2 ^ 31) (hn : n ≤ 16) (hall : pSq (fun _ => gC (IA 33) m 6) 1 nu0 p0 n = none) : ∀ (j k p : Nat) (nu : Nat → Nat), k + j = n → pSq (fun _ => gC (IA 33) m 6) 1 nu0 p0 k = some (nu, p) →
    ∃ q fr', q ≤ 32 * m ∧ pm_X (pm_call (d + 10)) jm_50 3 (some .int) (d + 10) 1 6 37 [(0, .ref 20), (1, .int (nI n)), (2, .int (nI (1 + k)))] [] 0 0 (N, HR IA LA RA SC dr tl p (frN fr nu (1 + k))) (.inr 0) (N, HR IA LA RA SC dr tl q fr') := by
  intro j
  induction j with
  | zero =>
    intro k p nu hk hP
    have e : k = n := by omega
    subst e
    rw [hall] at hP
    cases hP
  | succ j ih =>
    intro k p nu hk hP
    obtain ⟨hb1, hb2, hb3, hb4⟩ := pSq_b (n0 := n) (m := m) (F := fun _ => gC (IA 33) m 6) (fun _ _ _ _ _ _ _ h => by have := gC_b h; omega) hp0 (fun i hi => by rw [show i = 0 by omega]; exact hnu) k (by omega) hP
    have hpre : ∀ {r : pm_V} {h' : pm_H}, pm_X (pm_call (d + 10)) jm_50 3 (some .int) (d + 10) 1 6 50 [(0, .ref 20), (1, .int (nI n)), (2, .int (nI (1 + k)))] [.int (nI 6), .ref 20, .int (nI (1 + k)), .ref 34] 0 0 (N, HR IA LA RA SC dr tl p (frN fr nu (1 + k))) r h' → pm_X (pm_call (d + 10)) jm_50 3 (some .int) (d + 10) 1 6 37 [(0, .ref 20), (1, .int (nI n)), (2, .int (nI (1 + k)))] [] 0 0 (N, HR IA LA RA SC dr tl p (frN fr nu (1 + k))) r h' := by
      intro r h' hk2
      refine pm_go 2 (pc1 := 39) rfl ?_
      refine pm_icmp rfl (fun z => absurd ((nI_ltI (by omega) (by omega)).mp z) (by omega)) (fun _ => ?_)
      refine pm_go 1 (pc1 := 43) rfl ?_
      refine pm_getf rfl rfl rfl ?_
      exact pm_go 3 (pc1 := 50) rfl hk2
    cases h1 : gC (IA 33) m 6 p with
    | none =>
      obtain ⟨q, hq, hX⟩ := r_chunksX (d := d) (LA := LA) (RA := RA) (dr := dr) (tl := tl) (N := N) (fr := frN fr nu (1 + k)) (w := 6) (by omega) (by omega) hS hm hb4 h1
      refine ⟨q, frN fr nu (1 + k), hq, hpre ?_⟩
      exact pm_cX [.int (nI 6)] rfl rfl rfl rfl rfl rfl (Nat.le_refl _) (Nat.le_refl _) hX rfl rfl
    | some o =>
      obtain ⟨v1, q1⟩ := o
      have hz := pSq_s hP
      rw [h1] at hz
      obtain ⟨q, fr', hq, ih⟩ := ih (k + 1) q1 _ (by omega) hz
      refine ⟨q, fr', hq, hpre ?_⟩
      refine pm_cV [.int (nI 6)] rfl rfl rfl rfl rfl rfl (Nat.zero_le _) (Nat.zero_le _) (r_chunks (by omega) (by omega) hS hm hb4 h1) ?_
      refine pm_iastU (j := 1 + k) rfl rfl (cw_ti (by omega)) (by omega) HR_fr ?_
      refine pm_go 2 (pc1 := 37) rfl ?_
      rw [nI_1]
      rw [show frN fr (va_up nu (1 + k) v1) (1 + (k + 1)) = upd (frN fr nu (1 + k)) (1 + k) (nI v1) from (frN_s fr nu (1 + k) v1).symm] at ih
      exact pm_lv [(0, .ref 20), (1, .int (nI n)), (2, .int (nI (1 + (k + 1))))] rfl rfl ih
theorem r_plain {t q : Nat} {nu : Nat → Nat} (hS : SC 20 2 = nI m) (hm : m ≤ 64) (hp : p ≤ 32 * m) (hE : pPl (IA 33) m p = some (t, nu, q)) :
    pm_call (d + 11) 50 [.ref 20] (N, HR IA LA RA SC dr tl p fr) (.inl (some (.int (nI t)))) (N, HR IA LA RA SC dr tl q (frN fr nu t)) 0 0 := by
  unfold pPl at hE
  cases h1 : gC (IA 33) m 6 p with
  | none => rw [h1] at hE; cases hE
  | some z =>
    obtain ⟨c, p1⟩ := z
    rw [h1] at hE
    dsimp only at hE
    obtain ⟨b1, b2, b3⟩ := gC_b h1
    cases h2 : gC (IA 33) m 6 p1 with
    | none => rw [h2] at hE; cases hE
    | some z =>
      obtain ⟨n, p2⟩ := z
      rw [h2] at hE
      dsimp only at hE
      obtain ⟨c1, c2, c3⟩ := gC_b h2
      split at hE
      · rename_i hn
        cases h3 : pSq (fun _ => gC (IA 33) m 6) 1 (va_up (fun _ => 0) 0 c) p2 n with
        | none => rw [h3] at hE; cases hE
        | some z =>
          obtain ⟨nu', q'⟩ := z
          rw [h3] at hE
          cases hE
          have hl := r_pl_ok (d := d) (LA := LA) (RA := RA) (dr := dr) (tl := tl) (N := N) (fr := fr) hS hm c3 b1 hn h3 n 0 p2 _ (by omega) rfl
          refine pm_callX jm_50 [(0, .ref 20)] rfl rfl rfl ?_
          refine pm_go 1 (pc1 := 1) rfl ?_
          refine pm_getf rfl rfl rfl ?_
          refine pm_go 3 (pc1 := 8) rfl ?_
          refine pm_cV [.int (nI 6)] rfl rfl rfl rfl rfl rfl (Nat.le_refl _) (Nat.le_refl _) (r_chunks (by omega) (by omega) hS hm hp h1) ?_
          refine pm_iastU (j := 0) rfl rfl rfl (by omega) HR_fr ?_
          refine pm_go 2 (pc1 := 15) rfl ?_
          refine pm_cV [.int (nI 6)] rfl rfl rfl rfl rfl rfl (Nat.le_refl _) (Nat.le_refl _) (r_chunks (by omega) (by omega) hS hm b3 h2) ?_
          refine pm_go 3 (pc1 := 22) rfl ?_
          refine pm_icmp rfl (fun _ => ?_) (fun z => absurd ((nI_leI (b := 16) (by omega) (by omega)).mpr hn) z)
          refine pm_go 2 (pc1 := 37) rfl ?_
          rw [show frN fr (va_up (fun _ => 0) 0 c) (1 + 0) = upd fr 0 (nI c) by rw [← frN_s, frN_0]] at hl
          exact pm_lv [(0, .ref 20), (1, .int (nI n)), (2, .int (nI (1 + 0)))] rfl rfl hl
      · cases hE
theorem r_plainX (hS : SC 20 2 = nI m) (hm : m ≤ 64) (hp : p ≤ 32 * m) (hE : pPl (IA 33) m p = none) :
    ∃ q fr', q ≤ 32 * m ∧ pm_call (d + 11) 50 [.ref 20] (N, HR IA LA RA SC dr tl p fr) (.inr 0) (N, HR IA LA RA SC dr tl q fr') 1 6 := by
  have hpre : ∀ {r : pm_V} {h' : pm_H}, pm_X (pm_call (d + 10)) jm_50 3 (some .int) (d + 10) 1 6 8 [(0, .ref 20)] [.int (nI 6), .ref 20, .int 0, .ref 34] 0 0 (N, HR IA LA RA SC dr tl p fr) r h' → pm_call (d + 11) 50 [.ref 20] (N, HR IA LA RA SC dr tl p fr) r h' 1 6 := by
    intro r h' hk
    refine pm_callX jm_50 [(0, .ref 20)] rfl rfl rfl ?_
    refine pm_go 1 (pc1 := 1) rfl ?_
    refine pm_getf rfl rfl rfl ?_
    exact pm_go 3 (pc1 := 8) rfl hk
  unfold pPl at hE
  cases h1 : gC (IA 33) m 6 p with
  | none =>
    obtain ⟨q, hq, hX⟩ := r_chunksX (d := d) (LA := LA) (RA := RA) (dr := dr) (tl := tl) (N := N) (fr := fr) (w := 6) (by omega) (by omega) hS hm hp h1
    refine ⟨q, fr, hq, hpre ?_⟩
    exact pm_cX [.int (nI 6)] rfl rfl rfl rfl rfl rfl (Nat.le_refl _) (Nat.le_refl _) hX rfl rfl
  | some z =>
    obtain ⟨c, p1⟩ := z
    rw [h1] at hE
    dsimp only at hE
    obtain ⟨b1, b2, b3⟩ := gC_b h1
    have hpre2 : ∀ {r : pm_V} {h' : pm_H}, pm_X (pm_call (d + 10)) jm_50 3 (some .int) (d + 10) 1 6 15 [(0, .ref 20)] [.int (nI 6), .ref 20] 0 0 (N, HR IA LA RA SC dr tl p1 (upd fr 0 (nI c))) r h' → pm_call (d + 11) 50 [.ref 20] (N, HR IA LA RA SC dr tl p fr) r h' 1 6 := by
      intro r h' hk
      refine hpre ?_
      refine pm_cV [.int (nI 6)] rfl rfl rfl rfl rfl rfl (Nat.zero_le _) (Nat.zero_le _) (r_chunks (by omega) (by omega) hS hm hp h1) ?_
      refine pm_iastU (j := 0) rfl rfl rfl (by omega) HR_fr ?_
      exact pm_go 2 (pc1 := 15) rfl hk
    cases h2 : gC (IA 33) m 6 p1 with
    | none =>
      obtain ⟨q, hq, hX⟩ := r_chunksX (d := d) (LA := LA) (RA := RA) (dr := dr) (tl := tl) (N := N) (fr := upd fr 0 (nI c)) (w := 6) (by omega) (by omega) hS hm b3 h2
      refine ⟨q, upd fr 0 (nI c), hq, hpre2 ?_⟩
      exact pm_cX [.int (nI 6)] rfl rfl rfl rfl rfl rfl (Nat.le_refl _) (Nat.le_refl _) hX rfl rfl
    | some z =>
      obtain ⟨n, p2⟩ := z
      rw [h2] at hE
      dsimp only at hE
      obtain ⟨c1, c2, c3⟩ := gC_b h2
      by_cases hn : n ≤ 16
      · rw [if_pos hn] at hE
        cases h3 : pSq (fun _ => gC (IA 33) m 6) 1 (va_up (fun _ => 0) 0 c) p2 n with
        | none =>
          obtain ⟨q, fr', hq, hl⟩ := r_pl_bad (d := d) (LA := LA) (RA := RA) (dr := dr) (tl := tl) (N := N) (fr := fr) hS hm c3 b1 hn h3 n 0 p2 _ (by omega) rfl
          refine ⟨q, fr', hq, hpre2 ?_⟩
          refine pm_cV [.int (nI 6)] rfl rfl rfl rfl rfl rfl (Nat.zero_le _) (Nat.zero_le _) (r_chunks (by omega) (by omega) hS hm b3 h2) ?_
          refine pm_go 3 (pc1 := 22) rfl ?_
          refine pm_icmp rfl (fun _ => ?_) (fun z => absurd ((nI_leI (b := 16) (by omega) (by omega)).mpr hn) z)
          refine pm_go 2 (pc1 := 37) rfl ?_
          rw [show frN fr (va_up (fun _ => 0) 0 c) (1 + 0) = upd fr 0 (nI c) by rw [← frN_s, frN_0]] at hl
          exact pm_lv [(0, .ref 20), (1, .int (nI n)), (2, .int (nI (1 + 0)))] rfl rfl hl
        | some z => rw [h3] at hE; cases hE
      · refine ⟨p2, upd fr 0 (nI c), c3, hpre2 ?_⟩
        refine pm_cV [.int (nI 6)] rfl rfl rfl rfl rfl rfl (Nat.zero_le _) (Nat.zero_le _) (r_chunks (by omega) (by omega) hS hm b3 h2) ?_
        refine pm_go 3 (pc1 := 22) rfl ?_
        refine pm_icmp rfl (fun z => absurd ((nI_leI (b := 16) (by omega) (by omega)).mp z) hn) (fun _ => ?_)
        exact pm_thr rfl rfl (by omega) rfl (by decide) (by decide) rfl rfl
end RR
