/-! THE READER: a record by a form -/
section RS2
variable {IA : Nat → Nat → Int32} {LA : Nat → Nat → Int64} {RA : Nat → Nat → Option Nat} {SC : Nat → Nat → Int32} {dr : Nat} {tl : Nat → va_E} {N d m p y n S l bc bs : Nat} {fr : Nat → Int32} {K V : Nat → Int32} {kk vv : Nat → Nat}
theorem okBy {a t : Nat} (hN : fmN K V n kk vv) (h : a + t ≤ n) : okF m a t (fun i => pBy (IA 33) m (kk i) (vv i)) := by
  intro i p v q h1 h2 hp he
  obtain ⟨e1, e2, e3, e4, e5, e6⟩ := hN i (by omega)
  exact pBy_b hp e4 (fun z => (e5 z).2) he
theorem okBy1 {a t i : Nat} (hN : fmN K V n kk vv) (h : i < n) : okF m a t (fun _ => pBy (IA 33) m (kk i) (vv i)) := by
  intro _ p v q h1 h2 hp he
  obtain ⟨e1, e2, e3, e4, e5, e6⟩ := hN i h
  exact pBy_b hp e4 (fun z => (e5 z).2) he
theorem r_bf1_s {k p : Nat} {nu : Nat → Nat} {r : pm_V} {h' : pm_H} (hn : n ≤ 8) (hS : S ≤ n) (hk : k < S)
    (kx : pm_X (pm_call (d + 11)) jm_51 5 (some .int) (d + 11) bc bs 34 [(0, .ref 20), (1, .ref y), (2, .int (nI S)), (3, .int (nI k))] [.int (nI k), .ref y, .ref 20, .int (nI k), .ref 34] 0 0 (N, HR IA LA RA SC dr tl p (frN fr nu k)) r h') :
    pm_X (pm_call (d + 11)) jm_51 5 (some .int) (d + 11) bc bs 21 [(0, .ref 20), (1, .ref y), (2, .int (nI S)), (3, .int (nI k))] [] 0 0 (N, HR IA LA RA SC dr tl p (frN fr nu k)) r h' := by
  refine pm_go 2 (pc1 := 23) rfl ?_
  refine pm_icmp rfl (fun z => absurd ((nI_leI (by omega) (by omega)).mp z) (by omega)) (fun _ => ?_)
  refine pm_go 1 (pc1 := 27) rfl ?_
  refine pm_getf rfl rfl rfl ?_
  exact pm_go 4 (pc1 := 34) rfl kx
theorem r_bf1_ok {p0 q2 : Nat} {nu0 nu2 : Nat → Nat} (hSz : SC 20 2 = nI m) (hm : m ≤ 64) (hp0 : p0 ≤ 32 * m) (hq : okq y) (hF : fmAt tl y n K V) (hN : fmN K V n kk vv) (hS : S ≤ n) (hall : pSq (fun i => pBy (IA 33) m (kk i) (vv i)) 0 nu0 p0 S = some (nu2, q2)) : ∀ (j k p : Nat) (nu : Nat → Nat), k + j = S → pSq (fun i => pBy (IA 33) m (kk i) (vv i)) 0 nu0 p0 k = some (nu, p) → ∀ (r : pm_V) (h' : pm_H), pm_X (pm_call (d + 11)) jm_51 5 (some .int) (d + 11) bc bs 44 [(0, .ref 20), (1, .ref y), (2, .int (nI S))] [] 0 0 (N, HR IA LA RA SC dr tl q2 (frN fr nu2 S)) r h' →
    pm_X (pm_call (d + 11)) jm_51 5 (some .int) (d + 11) bc bs 21 [(0, .ref 20), (1, .ref y), (2, .int (nI S)), (3, .int (nI k))] [] 0 0 (N, HR IA LA RA SC dr tl p (frN fr nu k)) r h' := by
  have hn8 := hF.2.2.2
  intro j
  induction j with
  | zero =>
    intro k p nu hk hP r h' hX
    have e : k = S := by omega
    subst e
    rw [hall] at hP
    cases hP
    refine pm_go 2 (pc1 := 23) rfl ?_
    refine pm_icmp rfl (fun _ => ?_) (fun z => absurd ((nI_leI (by omega) (by omega)).mpr (Nat.le_refl _)) z)
    exact pm_lv [(0, .ref 20), (1, .ref y), (2, .int (nI k))] rfl rfl hX
  | succ j ih =>
    intro k p nu hk hP r h' hX
    obtain ⟨hb1, hb2, hb3, hb4⟩ := pSq_b (okBy (a := 0) (t := n) (m := m) (IA := IA) hN (by omega)) hp0 (fun i hi => absurd hi (by omega)) k (by omega) hP
    obtain ⟨z, hz⟩ := pSq_pre hall (k + 1) (by omega)
    have hz2 := hz
    rw [pSq_s hP, Nat.zero_add] at hz2
    cases h1 : pBy (IA 33) m (kk k) (vv k) p with
    | none => rw [h1] at hz2; cases hz2
    | some o =>
      obtain ⟨v1, q1⟩ := o
      rw [h1] at hz2
      cases hz2
      obtain ⟨qq, _, hC⟩ := r_byO (d := d) (LA := LA) (RA := RA) (dr := dr) (N := N) (fr := frN fr nu k) hSz hm hb4 hq hF hN (show k < n by omega) _ h1
      refine r_bf1_s hn8 hS (by omega) ?_
      refine pm_cV [.ref y, .int (nI k)] rfl rfl rfl rfl rfl rfl (Nat.zero_le _) (Nat.zero_le _) hC ?_
      refine pm_iastU (j := k) rfl rfl (cw_ti (by omega)) (by omega) HR_fr ?_
      refine pm_go 2 (pc1 := 21) rfl ?_
      rw [nI_1]
      have ih := ih (k + 1) q1 _ (by omega) hz r h' hX
      rw [show frN fr (va_up nu k v1) (k + 1) = upd (frN fr nu k) k (nI v1) from (frN_s fr nu k v1).symm] at ih
      exact pm_lv [(0, .ref 20), (1, .ref y), (2, .int (nI S)), (3, .int (nI (k + 1)))] rfl rfl ih
theorem r_bf1_bad {p0 : Nat} {nu0 : Nat → Nat} (hSz : SC 20 2 = nI m) (hm : m ≤ 64) (hp0 : p0 ≤ 32 * m) (hq : okq y) (hF : fmAt tl y n K V) (hN : fmN K V n kk vv) (hS : S ≤ n) (hall : pSq (fun i => pBy (IA 33) m (kk i) (vv i)) 0 nu0 p0 S = none) : ∀ (j k p : Nat) (nu : Nat → Nat), k + j = S → pSq (fun i => pBy (IA 33) m (kk i) (vv i)) 0 nu0 p0 k = some (nu, p) →
    ∃ q fr', q ≤ 32 * m ∧ pm_X (pm_call (d + 11)) jm_51 5 (some .int) (d + 11) 1 6 21 [(0, .ref 20), (1, .ref y), (2, .int (nI S)), (3, .int (nI k))] [] 0 0 (N, HR IA LA RA SC dr tl p (frN fr nu k)) (.inr 0) (N, HR IA LA RA SC dr tl q fr') := by
  have hn8 := hF.2.2.2
  intro j
  induction j with
  | zero =>
    intro k p nu hk hP
    have e : k = S := by omega
    subst e
    rw [hall] at hP
    cases hP
  | succ j ih =>
    intro k p nu hk hP
    obtain ⟨hb1, hb2, hb3, hb4⟩ := pSq_b (okBy (a := 0) (t := n) (m := m) (IA := IA) hN (by omega)) hp0 (fun i hi => absurd hi (by omega)) k (by omega) hP
    have hz := pSq_s hP
    rw [Nat.zero_add] at hz
    cases h1 : pBy (IA 33) m (kk k) (vv k) p with
    | none =>
      obtain ⟨qq, hqq, hC⟩ := r_byO (d := d) (LA := LA) (RA := RA) (dr := dr) (N := N) (fr := frN fr nu k) hSz hm hb4 hq hF hN (show k < n by omega) _ h1
      refine ⟨qq, frN fr nu k, hqq, r_bf1_s hn8 hS (by omega) ?_⟩
      exact pm_cX [.ref y, .int (nI k)] rfl rfl rfl rfl rfl rfl (Nat.le_refl _) (Nat.le_refl _) hC rfl rfl
    | some o =>
      obtain ⟨v1, q1⟩ := o
      rw [h1] at hz
      obtain ⟨qq, _, hC⟩ := r_byO (d := d) (LA := LA) (RA := RA) (dr := dr) (N := N) (fr := frN fr nu k) hSz hm hb4 hq hF hN (show k < n by omega) _ h1
      obtain ⟨q, fr', hq', ih⟩ := ih (k + 1) q1 _ (by omega) hz
      refine ⟨q, fr', hq', r_bf1_s hn8 hS (by omega) ?_⟩
      refine pm_cV [.ref y, .int (nI k)] rfl rfl rfl rfl rfl rfl (Nat.zero_le _) (Nat.zero_le _) hC ?_
      refine pm_iastU (j := k) rfl rfl (cw_ti (by omega)) (by omega) HR_fr ?_
      refine pm_go 2 (pc1 := 21) rfl ?_
      rw [nI_1]
      rw [show frN fr (va_up nu k v1) (k + 1) = upd (frN fr nu k) k (nI v1) from (frN_s fr nu k v1).symm] at ih
      exact pm_lv [(0, .ref 20), (1, .ref y), (2, .int (nI S)), (3, .int (nI (k + 1)))] rfl rfl ih
theorem r_bf2_s {k p : Nat} {nu : Nat → Nat} {r : pm_V} {h' : pm_H} (hq : okq y) (hF : fmAt tl y n K V) (hn0 : 1 ≤ n) (hS : S ≤ 8) (hl : S + l ≤ 17) (hk : k < l)
    (kx : pm_X (pm_call (d + 11)) jm_51 5 (some .int) (d + 11) bc bs 109 [(0, .ref 20), (1, .ref y), (2, .int (nI S)), (3, .int (nI l)), (4, .int (nI (S + k)))] [.int (nI (n - 1)), .ref y, .ref 20, .int (nI (S + k)), .ref 34] 0 0 (N, HR IA LA RA SC dr tl p (frN fr nu (S + k))) r h') :
    pm_X (pm_call (d + 11)) jm_51 5 (some .int) (d + 11) bc bs 87 [(0, .ref 20), (1, .ref y), (2, .int (nI S)), (3, .int (nI l)), (4, .int (nI (S + k)))] [] 0 0 (N, HR IA LA RA SC dr tl p (frN fr nu (S + k))) r h' := by
  have hFq : fmAt (HR IA LA RA SC dr tl p (frN fr nu (S + k))) y n K V := fm_HC hq hF
  refine pm_go 4 (pc1 := 92) rfl ?_
  rw [nI_add]
  refine pm_icmp rfl (fun z => absurd ((nI_leI (by omega) (by omega)).mp z) (by omega)) (fun _ => ?_)
  refine pm_go 1 (pc1 := 96) rfl ?_
  refine pm_getf rfl rfl rfl ?_
  refine pm_go 4 (pc1 := 104) rfl ?_
  refine pm_getf rfl hFq.1 rfl ?_
  refine pm_go 2 (pc1 := 109) rfl ?_
  rw [show nI n - 1 = nI (n - 1) from pk_sub (b := 1) hn0]
  exact kx
theorem r_bf2_ok {p0 q2 : Nat} {nu0 nu2 : Nat → Nat} (hSz : SC 20 2 = nI m) (hm : m ≤ 64) (hp0 : p0 ≤ 32 * m) (hq : okq y) (hF : fmAt tl y n K V) (hN : fmN K V n kk vv) (hn0 : 1 ≤ n) (hS : S ≤ 8) (hl : S + l ≤ 17) (hnu : ∀ i, i < S → nu0 i < 2 ^ 31) (hall : pSq (fun _ => pBy (IA 33) m (kk (n - 1)) (vv (n - 1))) S nu0 p0 l = some (nu2, q2)) : ∀ (j k p : Nat) (nu : Nat → Nat), k + j = l → pSq (fun _ => pBy (IA 33) m (kk (n - 1)) (vv (n - 1))) S nu0 p0 k = some (nu, p) →
    pm_X (pm_call (d + 11)) jm_51 5 (some .int) (d + 11) 0 0 87 [(0, .ref 20), (1, .ref y), (2, .int (nI S)), (3, .int (nI l)), (4, .int (nI (S + k)))] [] 0 0 (N, HR IA LA RA SC dr tl p (frN fr nu (S + k))) (.inl (some (.int (nI (S + l))))) (N, HR IA LA RA SC dr tl q2 (frN fr nu2 (S + l))) := by
  intro j
  induction j with
  | zero =>
    intro k p nu hk hP
    have e : k = l := by omega
    subst e
    rw [hall] at hP
    cases hP
    refine pm_go 4 (pc1 := 92) rfl ?_
    rw [nI_add]
    refine pm_icmp rfl (fun _ => ?_) (fun z => absurd ((nI_leI (by omega) (by omega)).mpr (Nat.le_refl _)) z)
    refine pm_go 3 (pc1 := 122) rfl ?_
    rw [nI_add]
    exact pm_iret rfl rfl rfl rfl
  | succ j ih =>
    intro k p nu hk hP
    obtain ⟨hb1, hb2, hb3, hb4⟩ := pSq_b (okBy1 (t := l) (m := m) (IA := IA) hN (show n - 1 < n by omega)) hp0 hnu k (by omega) hP
    obtain ⟨z, hz⟩ := pSq_pre hall (k + 1) (by omega)
    have hz2 := hz
    rw [pSq_s hP] at hz2
    cases h1 : pBy (IA 33) m (kk (n - 1)) (vv (n - 1)) p with
    | none => rw [h1] at hz2; cases hz2
    | some o =>
      obtain ⟨v1, q1⟩ := o
      rw [h1] at hz2
      cases hz2
      obtain ⟨qq, _, hC⟩ := r_byO (d := d) (LA := LA) (RA := RA) (dr := dr) (N := N) (fr := frN fr nu (S + k)) hSz hm hb4 hq hF hN (show n - 1 < n by omega) _ h1
      refine r_bf2_s hq hF hn0 hS hl (by omega) ?_
      refine pm_cV [.ref y, .int (nI (n - 1))] rfl rfl rfl rfl rfl rfl (Nat.le_refl _) (Nat.le_refl _) hC ?_
      refine pm_iastU (j := S + k) rfl rfl (cw_ti (by omega)) (by omega) HR_fr ?_
      refine pm_go 2 (pc1 := 87) rfl ?_
      rw [nI_1]
      have ih := ih (k + 1) q1 _ (by omega) hz
      rw [show frN fr (va_up nu (S + k) v1) (S + (k + 1)) = upd (frN fr nu (S + k)) (S + k) (nI v1) from (frN_s fr nu (S + k) v1).symm] at ih
      exact pm_lv [(0, .ref 20), (1, .ref y), (2, .int (nI S)), (3, .int (nI l)), (4, .int (nI (S + (k + 1))))] rfl rfl ih
theorem r_bf2_bad {p0 : Nat} {nu0 : Nat → Nat} (hSz : SC 20 2 = nI m) (hm : m ≤ 64) (hp0 : p0 ≤ 32 * m) (hq : okq y) (hF : fmAt tl y n K V) (hN : fmN K V n kk vv) (hn0 : 1 ≤ n) (hS : S ≤ 8) (hl : S + l ≤ 17) (hnu : ∀ i, i < S → nu0 i < 2 ^ 31) (hall : pSq (fun _ => pBy (IA 33) m (kk (n - 1)) (vv (n - 1))) S nu0 p0 l = none) : ∀ (j k p : Nat) (nu : Nat → Nat), k + j = l → pSq (fun _ => pBy (IA 33) m (kk (n - 1)) (vv (n - 1))) S nu0 p0 k = some (nu, p) →
    ∃ q fr', q ≤ 32 * m ∧ pm_X (pm_call (d + 11)) jm_51 5 (some .int) (d + 11) 1 6 87 [(0, .ref 20), (1, .ref y), (2, .int (nI S)), (3, .int (nI l)), (4, .int (nI (S + k)))] [] 0 0 (N, HR IA LA RA SC dr tl p (frN fr nu (S + k))) (.inr 0) (N, HR IA LA RA SC dr tl q fr') := by
  intro j
  induction j with
  | zero =>
    intro k p nu hk hP
    have e : k = l := by omega
    subst e
    rw [hall] at hP
    cases hP
  | succ j ih =>
    intro k p nu hk hP
    obtain ⟨hb1, hb2, hb3, hb4⟩ := pSq_b (okBy1 (t := l) (m := m) (IA := IA) hN (show n - 1 < n by omega)) hp0 hnu k (by omega) hP
    have hz := pSq_s hP
    cases h1 : pBy (IA 33) m (kk (n - 1)) (vv (n - 1)) p with
    | none =>
      obtain ⟨qq, hqq, hC⟩ := r_byO (d := d) (LA := LA) (RA := RA) (dr := dr) (N := N) (fr := frN fr nu (S + k)) hSz hm hb4 hq hF hN (show n - 1 < n by omega) _ h1
      refine ⟨qq, frN fr nu (S + k), hqq, r_bf2_s hq hF hn0 hS hl (by omega) ?_⟩
      exact pm_cX [.ref y, .int (nI (n - 1))] rfl rfl rfl rfl rfl rfl (Nat.le_refl _) (Nat.le_refl _) hC rfl rfl
    | some o =>
      obtain ⟨v1, q1⟩ := o
      rw [h1] at hz
      obtain ⟨qq, _, hC⟩ := r_byO (d := d) (LA := LA) (RA := RA) (dr := dr) (N := N) (fr := frN fr nu (S + k)) hSz hm hb4 hq hF hN (show n - 1 < n by omega) _ h1
      obtain ⟨q, fr', hq', ih⟩ := ih (k + 1) q1 _ (by omega) hz
      refine ⟨q, fr', hq', r_bf2_s hq hF hn0 hS hl (by omega) ?_⟩
      refine pm_cV [.ref y, .int (nI (n - 1))] rfl rfl rfl rfl rfl rfl (Nat.zero_le _) (Nat.zero_le _) hC ?_
      refine pm_iastU (j := S + k) rfl rfl (cw_ti (by omega)) (by omega) HR_fr ?_
      refine pm_go 2 (pc1 := 87) rfl ?_
      rw [nI_1]
      rw [show frN fr (va_up nu (S + k) v1) (S + (k + 1)) = upd (frN fr nu (S + k)) (S + k) (nI v1) from (frN_s fr nu (S + k) v1).symm] at ih
      exact pm_lv [(0, .ref 20), (1, .ref y), (2, .int (nI S)), (3, .int (nI l)), (4, .int (nI (S + (k + 1))))] rfl rfl ih
theorem r_bfN : pm_call (d + 12) 51 [.ref 20, .null] (N, HR IA LA RA SC dr tl p fr) (.inr 0) (N, HR IA LA RA SC dr tl p fr) 1 6 := by
  refine pm_callX jm_51 [(0, .ref 20), (1, .null)] rfl rfl rfl ?_
  refine pm_go 1 (pc1 := 1) rfl ?_
  refine pm_ifnn (q := none) rfl (fun _ => ?_) (fun k h => by cases h)
  exact pm_thr rfl rfl (by omega) rfl (by decide) (by decide) rfl rfl
theorem r_bf_pre {r : pm_V} {h' : pm_H} (hq : okq y) (hF : fmAt tl y n K V) (hN : fmN K V n kk vv)
    (k : pm_X (pm_call (d + 11)) jm_51 5 (some .int) (d + 11) bc bs 21 [(0, .ref 20), (1, .ref y), (2, .int (nI (sgN kk n))), (3, .int (nI 0))] [] 0 0 (N, HR IA LA RA SC dr tl p fr) r h') : pm_call (d + 12) 51 [.ref 20, .ref y] (N, HR IA LA RA SC dr tl p fr) r h' bc bs := by
  have hFq : fmAt (HR IA LA RA SC dr tl p fr) y n K V := fm_HC hq hF
  refine pm_callX jm_51 [(0, .ref 20), (1, .ref y)] rfl rfl rfl ?_
  refine pm_go 1 (pc1 := 1) rfl ?_
  refine pm_ifnn (q := some y) rfl (fun h => by cases h) (fun _ _ => ?_)
  refine pm_go 1 (pc1 := 15) rfl ?_
  refine pm_cV [] rfl rfl rfl rfl hFq.1 rfl (Nat.zero_le _) (Nat.zero_le _) (c_singles hFq) ?_
  rw [fmS_sgN hN]
  refine pm_go 3 (pc1 := 21) rfl ?_
  exact pm_lv [(0, .ref 20), (1, .ref y), (2, .int (nI (sgN kk n))), (3, .int (nI 0))] rfl rfl k
theorem sgN_le : sgN kk n ≤ n := by unfold sgN; split <;> omega
theorem r_bf_mid {r : pm_V} {h' : pm_H} (hq : okq y) (hF : fmAt tl y n K V) (hN : fmN K V n kk vv) (hR : rwN kk n)
    (k : pm_X (pm_call (d + 11)) jm_51 5 (some .int) (d + 11) bc bs 56 [(0, .ref 20), (1, .ref y), (2, .int (nI S))] [.int (nI 6), .ref 20] 0 0 (N, HR IA LA RA SC dr tl p fr) r h') : pm_X (pm_call (d + 11)) jm_51 5 (some .int) (d + 11) bc bs 44 [(0, .ref 20), (1, .ref y), (2, .int (nI S))] [] 0 0 (N, HR IA LA RA SC dr tl p fr) r h' := by
  have hFq : fmAt (HR IA LA RA SC dr tl p fr) y n K V := fm_HC hq hF
  refine pm_go 1 (pc1 := 45) rfl ?_
  refine pm_cV [] rfl rfl rfl rfl hFq.1 rfl (Nat.zero_le _) (Nat.zero_le _) (c_hasRow hFq) ?_
  rw [if_pos ((fmR_iff hN).mpr hR)]
  refine pm_if rfl (fun _ => ?_) (fun z => absurd (show ¬ (1 : Int32) = 0 by decide) z)
  exact pm_go 2 (pc1 := 56) rfl k
theorem r_byForm {t q : Nat} {nu : Nat → Nat} (hSz : SC 20 2 = nI m) (hm : m ≤ 64) (hp : p ≤ 32 * m) (hq : okq y) (hF : fmAt tl y n K V) (hN : fmN K V n kk vv) (hn0 : 1 ≤ n) (hE : pBF (IA 33) m n kk vv p = some (t, nu, q)) :
    pm_call (d + 12) 51 [.ref 20, .ref y] (N, HR IA LA RA SC dr tl p fr) (.inl (some (.int (nI t)))) (N, HR IA LA RA SC dr tl q (frN fr nu t)) 0 0 := by
  have hn8 := hF.2.2.2
  have hsl : sgN kk n ≤ n := sgN_le
  unfold pBF at hE
  cases h1 : pSq (fun i => pBy (IA 33) m (kk i) (vv i)) 0 (fun _ => 0) p (sgN kk n) with
  | none => rw [h1] at hE; cases hE
  | some z =>
    obtain ⟨nu1, p1⟩ := z
    rw [h1] at hE
    dsimp only at hE
    obtain ⟨hb1, hb2, hb3, hb4⟩ := pSq_b (okBy (a := 0) (t := n) (m := m) (IA := IA) hN (by omega)) hp (fun i hi => absurd hi (by omega)) _ hsl h1
    refine r_bf_pre hq hF hN ?_
    have hl1 := r_bf1_ok (d := d) (bc := 0) (bs := 0) (LA := LA) (RA := RA) (dr := dr) (N := N) (fr := fr) hSz hm hp hq hF hN hsl h1 (sgN kk n) 0 p _ (by omega) rfl
    rw [frN_0] at hl1
    refine hl1 _ _ ?_
    by_cases hR : rwN kk n
    · rw [if_pos hR] at hE
      cases h2 : gC (IA 33) m 6 p1 with
      | none => rw [h2] at hE; cases hE
      | some z =>
        obtain ⟨l, p2⟩ := z
        rw [h2] at hE
        dsimp only at hE
        obtain ⟨c1, c2, c3⟩ := gC_b h2
        split at hE
        · rename_i hc
          cases h3 : pSq (fun _ => pBy (IA 33) m (kk (n - 1)) (vv (n - 1))) (sgN kk n) nu1 p2 l with
          | none => rw [h3] at hE; cases hE
          | some z =>
            obtain ⟨nu2, q2⟩ := z
            rw [h3] at hE
            cases hE
            have hl2 := r_bf2_ok (d := d) (LA := LA) (RA := RA) (dr := dr) (N := N) (fr := fr) hSz hm c3 hq hF hN hn0 (by omega) hc.1 (fun i hi => hb1 i (by omega)) h3 l 0 p2 _ (by omega) rfl
            refine r_bf_mid hq hF hN hR ?_
            refine pm_cV [.int (nI 6)] rfl rfl rfl rfl rfl rfl (Nat.le_refl _) (Nat.le_refl _) (r_chunks (by omega) (by omega) hSz hm hb4 h2) ?_
            refine pm_go 5 (pc1 := 65) rfl ?_
            rw [show (17 : Int32) - nI (sgN kk n) = nI (17 - sgN kk n) from pk_sub (a := 17) (by omega)]
            refine pm_icmp rfl (fun z => absurd ((nI_ltI (by omega) (by omega)).mp z) (by omega)) (fun _ => ?_)
            refine pm_go 3 (pc1 := 71) rfl ?_
            rw [nI_add]
            refine pm_if rfl (fun _ => ?_) (fun z => absurd (fun zz => absurd ((nI_eqI (b := 0) (by omega) (by omega)).mp zz) (by omega)) z)
            refine pm_go 2 (pc1 := 87) rfl ?_
            exact pm_lv [(0, .ref 20), (1, .ref y), (2, .int (nI (sgN kk n))), (3, .int (nI l)), (4, .int (nI (sgN kk n + 0)))] rfl rfl hl2
        · cases hE
    · rw [if_neg hR] at hE
      cases hE
      have hFq : fmAt (HR IA LA RA SC dr tl q (frN fr nu (sgN kk n))) y n K V := fm_HC hq hF
      refine pm_go 1 (pc1 := 45) rfl ?_
      refine pm_cV [] rfl rfl rfl rfl hFq.1 rfl (Nat.zero_le _) (Nat.zero_le _) (c_hasRow hFq) ?_
      rw [if_neg (fun z => hR ((fmR_iff hN).mp z))]
      refine pm_if rfl (fun z => absurd rfl z) (fun _ => ?_)
      refine pm_go 1 (pc1 := 52) rfl ?_
      exact pm_iret rfl rfl rfl rfl
theorem r_byFormX (hSz : SC 20 2 = nI m) (hm : m ≤ 64) (hp : p ≤ 32 * m) (hq : okq y) (hF : fmAt tl y n K V) (hN : fmN K V n kk vv) (hn0 : 1 ≤ n) (hE : pBF (IA 33) m n kk vv p = none) :
    ∃ q fr', q ≤ 32 * m ∧ pm_call (d + 12) 51 [.ref 20, .ref y] (N, HR IA LA RA SC dr tl p fr) (.inr 0) (N, HR IA LA RA SC dr tl q fr') 1 6 := by
  have hn8 := hF.2.2.2
  have hsl : sgN kk n ≤ n := sgN_le
  unfold pBF at hE
  cases h1 : pSq (fun i => pBy (IA 33) m (kk i) (vv i)) 0 (fun _ => 0) p (sgN kk n) with
  | none =>
    obtain ⟨q, fr', hq', hl⟩ := r_bf1_bad (d := d) (LA := LA) (RA := RA) (dr := dr) (N := N) (fr := fr) hSz hm hp hq hF hN hsl h1 (sgN kk n) 0 p _ (by omega) rfl
    rw [frN_0] at hl
    exact ⟨q, fr', hq', r_bf_pre hq hF hN hl⟩
  | some z =>
    obtain ⟨nu1, p1⟩ := z
    rw [h1] at hE
    dsimp only at hE
    obtain ⟨hb1, hb2, hb3, hb4⟩ := pSq_b (okBy (a := 0) (t := n) (m := m) (IA := IA) hN (by omega)) hp (fun i hi => absurd hi (by omega)) _ hsl h1
    have hl1 := r_bf1_ok (d := d) (bc := 1) (bs := 6) (LA := LA) (RA := RA) (dr := dr) (N := N) (fr := fr) hSz hm hp hq hF hN hsl h1 (sgN kk n) 0 p _ (by omega) rfl
    rw [frN_0] at hl1
    have hR : rwN kk n := by
      apply Classical.byContradiction
      intro h
      rw [if_neg h] at hE
      cases hE
    rw [if_pos hR] at hE
    cases h2 : gC (IA 33) m 6 p1 with
    | none =>
      obtain ⟨q, hq', hX⟩ := r_chunksX (d := d + 1) (LA := LA) (RA := RA) (dr := dr) (tl := tl) (N := N) (fr := frN fr nu1 (sgN kk n)) (w := 6) (by omega) (by omega) hSz hm hb4 h2
      refine ⟨q, frN fr nu1 (sgN kk n), hq', r_bf_pre hq hF hN (hl1 _ _ (r_bf_mid hq hF hN hR ?_))⟩
      exact pm_cX [.int (nI 6)] rfl rfl rfl rfl rfl rfl (Nat.le_refl _) (Nat.le_refl _) hX rfl rfl
    | some z =>
      obtain ⟨l, p2⟩ := z
      rw [h2] at hE
      dsimp only at hE
      obtain ⟨c1, c2, c3⟩ := gC_b h2
      have hgo : ∀ {r : pm_V} {h' : pm_H}, pm_X (pm_call (d + 11)) jm_51 5 (some .int) (d + 11) 1 6 65 [(0, .ref 20), (1, .ref y), (2, .int (nI (sgN kk n))), (3, .int (nI l))] [.int (nI (17 - sgN kk n)), .int (nI l)] 0 0 (N, HR IA LA RA SC dr tl p2 (frN fr nu1 (sgN kk n))) r h' → pm_call (d + 12) 51 [.ref 20, .ref y] (N, HR IA LA RA SC dr tl p fr) r h' 1 6 := by
        intro r h' hk
        refine r_bf_pre hq hF hN (hl1 _ _ (r_bf_mid hq hF hN hR ?_))
        refine pm_cV [.int (nI 6)] rfl rfl rfl rfl rfl rfl (Nat.zero_le _) (Nat.zero_le _) (r_chunks (by omega) (by omega) hSz hm hb4 h2) ?_
        refine pm_go 5 (pc1 := 65) rfl ?_
        rw [show (17 : Int32) - nI (sgN kk n) = nI (17 - sgN kk n) from pk_sub (a := 17) (by omega)]
        exact pm_lv [(0, .ref 20), (1, .ref y), (2, .int (nI (sgN kk n))), (3, .int (nI l))] rfl rfl hk
      by_cases hc1 : sgN kk n + l ≤ 17
      · by_cases hc2 : 1 ≤ sgN kk n + l
        · rw [if_pos ⟨hc1, hc2⟩] at hE
          cases h3 : pSq (fun _ => pBy (IA 33) m (kk (n - 1)) (vv (n - 1))) (sgN kk n) nu1 p2 l with
          | none =>
            obtain ⟨q, fr', hq', hl2⟩ := r_bf2_bad (d := d) (LA := LA) (RA := RA) (dr := dr) (N := N) (fr := fr) hSz hm c3 hq hF hN hn0 (by omega) hc1 (fun i hi => hb1 i (by omega)) h3 l 0 p2 _ (by omega) rfl
            refine ⟨q, fr', hq', hgo ?_⟩
            refine pm_icmp rfl (fun z => absurd ((nI_ltI (by omega) (by omega)).mp z) (by omega)) (fun _ => ?_)
            refine pm_go 3 (pc1 := 71) rfl ?_
            rw [nI_add]
            refine pm_if rfl (fun _ => ?_) (fun z => absurd (fun zz => absurd ((nI_eqI (b := 0) (by omega) (by omega)).mp zz) (by omega)) z)
            refine pm_go 2 (pc1 := 87) rfl ?_
            exact pm_lv [(0, .ref 20), (1, .ref y), (2, .int (nI (sgN kk n))), (3, .int (nI l)), (4, .int (nI (sgN kk n + 0)))] rfl rfl hl2
          | some z => rw [h3] at hE; cases hE
        · refine ⟨p2, frN fr nu1 (sgN kk n), c3, hgo ?_⟩
          refine pm_icmp rfl (fun z => absurd ((nI_ltI (by omega) (by omega)).mp z) (by omega)) (fun _ => ?_)
          refine pm_go 3 (pc1 := 71) rfl ?_
          rw [nI_add, show sgN kk n + l = 0 by omega]
          refine pm_if rfl (fun z => absurd rfl z) (fun _ => ?_)
          exact pm_thr rfl rfl (by omega) rfl (by decide) (by decide) rfl rfl
      · refine ⟨p2, frN fr nu1 (sgN kk n), c3, hgo ?_⟩
        refine pm_icmp rfl (fun _ => ?_) (fun z => absurd ((nI_ltI (by omega) (by omega)).mpr (by omega)) z)
        exact pm_thr rfl rfl (by omega) rfl (by decide) (by decide) rfl rfl
end RS2
