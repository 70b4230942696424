/-! THE MODEL: reading a form -/
abbrev loF (L L0 : Nat → Int64) (z : Nat) : Prop := ∀ j, j < z → L j = L0 j
theorem vl_at (g : Nat → Int64) (k : Nat) (x : Int64) : vp_updL g k x k = x := by
  show (if k = k then x else g k) = x
  rw [if_pos rfl]
theorem vl_ne (g : Nat → Int64) {k j : Nat} (x : Int64) (h : j ≠ k) : vp_updL g k x j = g j := by
  show (if j = k then x else g j) = g j
  rw [if_neg h]
theorem r18 {n : Nat} (h : n < 2 ^ 31) : ((1 : Int32) ≤ nI n ∧ nI n ≤ 8) ↔ (1 ≤ n ∧ n ≤ 8) := nI_rng (a := 1) (b := 8) h (by omega) (by omega)
section MG
variable {IA : Nat → Nat → Int32} {LA : Nat → Nat → Int64} {RA : Nat → Nat → Option Nat} {SC : Nat → Nat → Int32} {dr : Nat} {tl : Nat → va_E} {N d m p b dp n f : Nat} {rd : Nat → Int32}
theorem HM_ops {g L : Nat → Int64} : va_up (HM IA (va_up LA 48 L) RA SC dr tl p b rd) 48 (.inl (1, 2400, .inr (.inl g))) = HM IA (va_up LA 48 g) RA SC dr tl p b rd := by
  refine (hl_48 ..).trans ?_
  rw [va_up2]
theorem m_fi_s {k : Nat} {L : Nat → Int64} {r : pm_V} {h' : pm_H} (hk : k < n) (hn : n ≤ 8) (hf : f < 300)
    (kx : pm_X (pm_call (d + 4)) jm_144 4 (some .int) (d + 4) 0 0 53 [(0, .ref 36), (1, .int (nI n)), (2, .int (nI f)), (3, .int (nI k))] [.ref 36, .int (nI (8 * f + k)), .ref 48] 0 0 (N, HM IA (va_up LA 48 L) RA SC dr tl p 0 rd) r h') :
    pm_X (pm_call (d + 4)) jm_144 4 (some .int) (d + 4) 0 0 30 [(0, .ref 36), (1, .int (nI n)), (2, .int (nI f)), (3, .int (nI k))] [] 0 0 (N, HM IA (va_up LA 48 L) RA SC dr tl p 0 rd) r h' := by
  refine pm_go 2 (pc1 := 32) rfl ?_
  refine pm_icmp rfl (fun z => absurd ((nI_leI (by omega) (by omega)).mp z) (by omega)) (fun _ => ?_)
  refine pm_go 1 (pc1 := 36) rfl ?_
  refine pm_getf rfl rfl rfl ?_
  refine pm_if rfl (fun z => absurd rfl z) (fun _ => ?_)
  refine pm_go 1 (pc1 := 43) rfl ?_
  refine pm_getf rfl rfl rfl ?_
  refine pm_go 5 (pc1 := 52) rfl ?_
  rw [show (8 : Int32) * nI f + nI k = nI (8 * f + k) from ixm 8 f k]
  exact pm_go 1 (pc1 := 53) rfl kx
theorem m_fi_ok {p1 q2 : Nat} {kk2 vv2 : Nat → Nat} (hS : SC 36 2 = nI m) (hm : m ≤ 64) (hp1 : p1 ≤ 32 * m) (hn : n ≤ 8) (hf : f < 300) (hall : pOps (gR IA) m p1 n = some (kk2, vv2, q2)) : ∀ (j k p : Nat) (L : Nat → Int64) (kk vv : Nat → Nat), k + j = n → pOps (gR IA) m p1 k = some (kk, vv, p) → opsAt L (8 * f) k kk vv →
    ∃ L', opsAt L' (8 * f) n kk2 vv2 ∧ loF L' L (8 * f) ∧ ∀ (r : pm_V) (h' : pm_H), pm_X (pm_call (d + 4)) jm_144 4 (some .int) (d + 4) 0 0 63 [(0, .ref 36), (1, .int (nI n)), (2, .int (nI f))] [] 0 0 (N, HM IA (va_up LA 48 L') RA SC dr tl q2 0 rd) r h' → pm_X (pm_call (d + 4)) jm_144 4 (some .int) (d + 4) 0 0 30 [(0, .ref 36), (1, .int (nI n)), (2, .int (nI f)), (3, .int (nI k))] [] 0 0 (N, HM IA (va_up LA 48 L) RA SC dr tl p 0 rd) r h' := by
  intro j
  induction j with
  | zero =>
    intro k p L kk vv hk hP hO
    have e : k = n := by omega
    subst e
    rw [hall] at hP
    cases hP
    refine ⟨L, hO, fun _ _ => rfl, fun r h' hX => ?_⟩
    refine pm_go 2 (pc1 := 32) rfl ?_
    refine pm_icmp rfl (fun _ => ?_) (fun z => absurd ((nI_leI (by omega) (by omega)).mpr (Nat.le_refl _)) z)
    exact pm_lv [(0, .ref 36), (1, .int (nI k)), (2, .int (nI f))] rfl rfl hX
  | succ j ih =>
    intro k p L kk vv hk hP hO
    obtain ⟨hb1, hb2, hb3⟩ := pOps_b hp1 _ hP
    obtain ⟨z, hz⟩ := pOps_pre hall (k + 1) (by omega)
    have hz2 := hz
    rw [pOps_s hP] at hz2
    cases h1 : pOp (gR IA) m p with
    | none => rw [h1] at hz2; cases hz2
    | some o =>
      obtain ⟨k1, v1, q1⟩ := o
      rw [h1] at hz2
      cases hz2
      obtain ⟨c1, c2, _⟩ := pOp_b h1
      have hO2 : opsAt (vp_updL L (8 * f + k) (opL k1 v1)) (8 * f) (k + 1) (va_up kk k k1) (va_up vv k v1) := by
        intro i hi
        by_cases e : i = k
        · subst e
          rw [vl_at, va_up_self, va_up_self]
          exact ⟨rfl, c1, c2⟩
        · rw [vl_ne _ _ (by omega), va_up_ne _ _ e, va_up_ne _ _ e]
          exact hO i (by omega)
      obtain ⟨L', hO', hfr, hgo⟩ := ih (k + 1) q1 _ _ _ (by omega) hz hO2
      refine ⟨L', hO', fun i hi => (hfr i hi).trans (vl_ne _ _ (by omega)), fun r h' hX => ?_⟩
      refine m_fi_s (by omega) hn hf ?_
      refine pm_cV [] rfl rfl rfl rfl rfl rfl (Nat.zero_le _) (Nat.zero_le _) (m_opIn hS hm hb3 h1) ?_
      refine pm_lastU (j := 8 * f + k) rfl rfl (cw_ti (by omega)) (by omega) HM_ops ?_
      refine pm_go 2 (pc1 := 30) rfl ?_
      rw [nI_1]
      exact pm_lv [(0, .ref 36), (1, .int (nI n)), (2, .int (nI f)), (3, .int (nI (k + 1)))] rfl rfl (hgo r h' hX)
theorem m_fi_bad {p1 : Nat} (hS : SC 36 2 = nI m) (hm : m ≤ 64) (hp1 : p1 ≤ 32 * m) (hn : n ≤ 8) (hf : f < 300) (hall : pOps (gR IA) m p1 n = none) : ∀ (j k p : Nat) (L : Nat → Int64) (kk vv : Nat → Nat), k + j = n → pOps (gR IA) m p1 k = some (kk, vv, p) → opsAt L (8 * f) k kk vv →
    ∃ L' q, q ≤ 32 * m ∧ loF L' L (8 * f) ∧ ∀ (r : pm_V) (h' : pm_H), pm_X (pm_call (d + 4)) jm_144 4 (some .int) (d + 4) 0 0 63 [(0, .ref 36), (1, .int (nI n)), (2, .int (nI f))] [] 0 0 (N, HM IA (va_up LA 48 L') RA SC dr tl q 1 rd) r h' → pm_X (pm_call (d + 4)) jm_144 4 (some .int) (d + 4) 0 0 30 [(0, .ref 36), (1, .int (nI n)), (2, .int (nI f)), (3, .int (nI k))] [] 0 0 (N, HM IA (va_up LA 48 L) RA SC dr tl p 0 rd) r h' := by
  intro j
  induction j with
  | zero =>
    intro k p L kk vv hk hP hO
    have e : k = n := by omega
    subst e
    rw [hall] at hP
    cases hP
  | succ j ih =>
    intro k p L kk vv hk hP hO
    obtain ⟨hb1, hb2, hb3⟩ := pOps_b hp1 _ hP
    cases h1 : pOp (gR IA) m p with
    | none =>
      obtain ⟨x, q, hq, hX1⟩ := m_opInX (d := d) (LA := va_up LA 48 L) (RA := RA) (dr := dr) (tl := tl) (N := N) (rd := rd) hS hm hb3 h1
      refine ⟨vp_updL L (8 * f + k) x, q, hq, fun i hi => vl_ne _ _ (by omega), fun r h' hX => ?_⟩
      refine m_fi_s (by omega) hn hf ?_
      refine pm_cV [] rfl rfl rfl rfl rfl rfl (Nat.zero_le _) (Nat.zero_le _) hX1 ?_
      refine pm_lastU (j := 8 * f + k) rfl rfl (cw_ti (by omega)) (by omega) HM_ops ?_
      refine pm_go 2 (pc1 := 30) rfl ?_
      rw [nI_1]
      refine pm_go 2 (pc1 := 32) rfl ?_
      refine pm_icmp rfl (fun _ => pm_lv [(0, .ref 36), (1, .int (nI n)), (2, .int (nI f))] rfl rfl hX) (fun _ => ?_)
      refine pm_go 1 (pc1 := 36) rfl ?_
      refine pm_getf rfl rfl rfl ?_
      refine pm_if rfl (fun _ => pm_lv [(0, .ref 36), (1, .int (nI n)), (2, .int (nI f))] rfl rfl hX) (fun z => absurd (show ¬ nI 1 = 0 by decide) z)
    | some o =>
      obtain ⟨k1, v1, q1⟩ := o
      have hz := pOps_s hP
      rw [h1] at hz
      obtain ⟨c1, c2, _⟩ := pOp_b h1
      have hO2 : opsAt (vp_updL L (8 * f + k) (opL k1 v1)) (8 * f) (k + 1) (va_up kk k k1) (va_up vv k v1) := by
        intro i hi
        by_cases e : i = k
        · subst e
          rw [vl_at, va_up_self, va_up_self]
          exact ⟨rfl, c1, c2⟩
        · rw [vl_ne _ _ (by omega), va_up_ne _ _ e, va_up_ne _ _ e]
          exact hO i (by omega)
      obtain ⟨L', q', hq', hfr, hgo⟩ := ih (k + 1) q1 _ _ _ (by omega) hz hO2
      refine ⟨L', q', hq', fun i hi => (hfr i hi).trans (vl_ne _ _ (by omega)), fun r h' hX => ?_⟩
      refine m_fi_s (by omega) hn hf ?_
      refine pm_cV [] rfl rfl rfl rfl rfl rfl (Nat.zero_le _) (Nat.zero_le _) (m_opIn hS hm hb3 h1) ?_
      refine pm_lastU (j := 8 * f + k) rfl rfl (cw_ti (by omega)) (by omega) HM_ops ?_
      refine pm_go 2 (pc1 := 30) rfl ?_
      rw [nI_1]
      exact pm_lv [(0, .ref 36), (1, .int (nI n)), (2, .int (nI f)), (3, .int (nI (k + 1)))] rfl rfl (hgo r h' hX)
theorem m_fi_pre {nv : Int32} {q pl : Nat} {r : pm_V} {h' : pm_H} (hPl : IA 50 1 = nI pl) (hC : pm_call (d + 4) 139 [.ref 36, .int (nI 5)] (N, HM IA LA RA SC dr tl p 0 rd) (.inl (some (.int nv))) (N, HM IA LA RA SC dr tl q b rd) 0 0)
    (kx : pm_X (pm_call (d + 4)) jm_144 4 (some .int) (d + 4) 0 0 30 [(0, .ref 36), (1, .int nv), (2, .int (nI (150 + pl))), (3, .int (nI 0))] [] 0 0 (N, HM IA LA RA SC dr tl q (if 1 ≤ nv ∧ nv ≤ 8 then b else 1) rd) r h') : pm_call (d + 5) 144 [.ref 36] (N, HM IA LA RA SC dr tl p 0 rd) r h' 0 0 := by
  refine pm_callX jm_144 [(0, .ref 36)] rfl rfl rfl ?_
  refine pm_go 2 (pc1 := 2) rfl ?_
  refine pm_cV [.int (nI 5)] rfl rfl rfl rfl rfl rfl (Nat.zero_le _) (Nat.zero_le _) hC ?_
  refine pm_go 5 (pc1 := 11) rfl ?_
  refine pm_cS [.int nv, .int 1, .int 8] rfl rfl rfl rfl rfl (Nat.zero_le _) (Nat.zero_le _) m_within ?_
  refine pm_cV [.int (if 1 ≤ nv ∧ nv ≤ 8 then 1 else 0)] rfl rfl rfl rfl rfl rfl (Nat.zero_le _) (Nat.zero_le _) m_must ?_
  have eb : (if (if 1 ≤ nv ∧ nv ≤ 8 then (1 : Int32) else 0) = 0 then 1 else b) = if 1 ≤ nv ∧ nv ≤ 8 then b else 1 := by
    by_cases h : 1 ≤ nv ∧ nv ≤ 8
    · rw [if_pos h, if_pos h, if_neg (by decide)]
    · rw [if_neg h, if_neg h, if_pos rfl]
  rw [eb]
  refine pm_go 2 (pc1 := 21) rfl ?_
  refine pm_getf rfl rfl rfl ?_
  refine pm_go 1 (pc1 := 25) rfl ?_
  refine pm_iald (j := 1) rfl rfl rfl (by omega) ?_
  refine pm_nm (y := nI pl) hPl ?_
  refine pm_go 1 (pc1 := 27) rfl ?_
  rw [show (150 : Int32) + nI pl = nI (150 + pl) from nI_add 150 pl]
  refine pm_go 3 (pc1 := 30) rfl ?_
  exact pm_lv [(0, .ref 36), (1, .int nv), (2, .int (nI (150 + pl))), (3, .int (nI 0))] rfl rfl kx
/-- the end of it when it is bad -/
theorem m_fi_0 {nv fv : Int32} {x : Int32} (hb : (if x = 0 then 1 else b) = 1) : pm_X (pm_call (d + 4)) jm_144 4 (some .int) (d + 4) 0 0 124 [(0, .ref 36), (1, .int nv), (2, .int fv)] [.int x, .ref 36] 0 0 (N, HM IA LA RA SC dr tl p b rd) (.inl (some (.int 0))) (N, HM IA LA RA SC dr tl p 1 rd) := by
  refine pm_cV [.int x] rfl rfl rfl rfl rfl rfl (Nat.zero_le _) (Nat.zero_le _) m_must ?_
  rw [hb]
  refine pm_go 1 (pc1 := 128) rfl ?_
  refine pm_getf rfl rfl rfl ?_
  refine pm_if rfl (fun z => absurd (show nI 1 = 0 from z) (by decide)) (fun _ => ?_)
  refine pm_go 1 (pc1 := 135) rfl ?_
  exact pm_iret rfl rfl rfl rfl
theorem m_fi_63B {nv fv : Int32} : pm_X (pm_call (d + 4)) jm_144 4 (some .int) (d + 4) 0 0 63 [(0, .ref 36), (1, .int nv), (2, .int fv)] [] 0 0 (N, HM IA LA RA SC dr tl p 1 rd) (.inl (some (.int 0))) (N, HM IA LA RA SC dr tl p 1 rd) := by
  refine pm_go 2 (pc1 := 65) rfl ?_
  refine pm_getf rfl rfl rfl ?_
  refine pm_if rfl (fun _ => ?_) (fun z => absurd (show ¬ nI 1 = 0 by decide) z)
  refine pm_go 1 (pc1 := 124) rfl ?_
  exact m_fi_0 (by rw [if_pos rfl])
theorem m_fi_63 {kk vv : Nat → Nat} {i t c : Nat} {r : pm_V} {h' : pm_H} (hD : IA 39 1 = nI dp) (hd : dp ≤ 6) (hd0 : 0 < dp) (hC : cntB IA 1 (7 + dp) i t c) (hn : n ≤ 8) (hf : f + 1 ≤ 300) (hO : opsAt (LA 48) (8 * f) n kk vv)
    (kt : fmOkN kk n → (i = 0 → 0 < t) → ¬ c = 8 → pm_X (pm_call (d + 4)) jm_144 4 (some .int) (d + 4) 0 0 124 [(0, .ref 36), (1, .int (nI n)), (2, .int (nI f))] [.int 1, .ref 36] 0 0 (N, HM IA LA RA SC dr tl p 0 rd) r h')
    (kf : ¬ (fmOkN kk n ∧ (i = 0 → 0 < t) ∧ ¬ c = 8) → pm_X (pm_call (d + 4)) jm_144 4 (some .int) (d + 4) 0 0 124 [(0, .ref 36), (1, .int (nI n)), (2, .int (nI f))] [.int 0, .ref 36] 0 0 (N, HM IA LA RA SC dr tl p 0 rd) r h') :
    pm_X (pm_call (d + 4)) jm_144 4 (some .int) (d + 4) 0 0 63 [(0, .ref 36), (1, .int (nI n)), (2, .int (nI f))] [] 0 0 (N, HM IA LA RA SC dr tl p 0 rd) r h' := by
  obtain ⟨c1, c2, c3, c4, c5, c6, c7⟩ := id hC
  have hi0 : (0 < dp ∧ IA 40 (7 + dp) = 0) ↔ i = 0 := by
    rw [c1]
    exact ⟨fun h => (nI_eqI (b := 0) (by omega) (by omega)).mp h.2, fun h => ⟨hd0, by rw [h]; rfl⟩⟩
  refine pm_go 2 (pc1 := 65) rfl ?_
  refine pm_getf rfl rfl rfl ?_
  refine pm_if rfl (fun z => absurd rfl z) (fun _ => ?_)
  refine pm_go 1 (pc1 := 72) rfl ?_
  refine pm_getf rfl rfl rfl ?_
  refine pm_go 4 (pc1 := 80) rfl ?_
  rw [show (8 : Int32) * nI f = nI (8 * f) from pk_mul 8 f]
  refine pm_cS [.ref 48, .int (nI (8 * f)), .int (nI n)] rfl rfl rfl rfl rfl (Nat.zero_le _) (Nat.zero_le _) (m_isForm rfl hO (by omega) (by omega) hn) ?_
  by_cases hok : fmOkN kk n
  · rw [if_pos hok]
    refine pm_if rfl (fun z => absurd (show (1 : Int32) = 0 from z) (by decide)) (fun _ => ?_)
    refine pm_go 2 (pc1 := 88) rfl ?_
    refine pm_cV [.int (nI 1)] rfl rfl rfl rfl rfl rfl (Nat.zero_le _) (Nat.zero_le _) (m_inInfo (s := 1) (by omega) hD hd) ?_
    refine pm_nm (y := if 0 < dp ∧ IA 40 (7 + dp) = 0 then 1 else 0) rfl ?_
    have hfull : (i = 0 → 0 < t) → pm_X (pm_call (d + 4)) jm_144 4 (some .int) (d + 4) 0 0 111 [(0, .ref 36), (1, .int (nI n)), (2, .int (nI f))] [.ref 36] 0 0 (N, HM IA LA RA SC dr tl p 0 rd) r h' := by
      intro ht
      refine pm_go 2 (pc1 := 113) rfl ?_
      refine pm_cV [.int (nI 1)] rfl rfl rfl rfl rfl rfl (Nat.zero_le _) (Nat.zero_le _) (m_isFull (s := 1) (by omega) hD hd hC) ?_
      by_cases h8 : c = 8
      · rw [if_pos h8]
        refine pm_if rfl (fun _ => pm_go 1 (pc1 := 124) rfl (kf (fun h => h.2.2 h8))) (fun z => absurd (show ¬ (1 : Int32) = 0 by decide) z)
      · rw [if_neg h8]
        refine pm_if rfl (fun z => absurd rfl z) (fun _ => ?_)
        exact pm_go 2 (pc1 := 124) rfl (kt hok ht h8)
    by_cases h0 : i = 0
    · rw [if_pos (hi0.mpr h0)]
      refine pm_if rfl (fun z => absurd (show (1 : Int32) = 0 from z) (by decide)) (fun _ => ?_)
      refine pm_go 1 (pc1 := 95) rfl ?_
      refine pm_getf rfl rfl rfl ?_
      refine pm_go 2 (pc1 := 101) rfl ?_
      refine pm_getf rfl rfl rfl ?_
      refine pm_go 1 (pc1 := 105) rfl ?_
      refine pm_iald (j := 1) rfl rfl rfl (by omega) ?_
      refine pm_nm (y := nI dp) hD ?_
      refine pm_go 1 (pc1 := 107) rfl ?_
      rw [show (7 : Int32) + nI dp = nI (7 + dp) from nI_add 7 dp]
      refine pm_iald (j := 7 + dp) rfl rfl (cw_ti (by omega)) (by omega) ?_
      refine pm_nm (y := nI t) c3 ?_
      refine pm_if rfl (fun z => ?_) (fun z => ?_)
      · exact pm_go 1 (pc1 := 124) rfl (kf (fun h => absurd (h.2.1 h0) (by have := (nI_leI (b := 0) (by omega) (by omega)).mp z; omega)))
      · exact hfull (fun _ => Classical.byContradiction (fun h => z ((nI_leI (b := 0) (by omega) (by omega)).mpr (by omega))))
    · rw [if_neg (fun h => h0 (hi0.mp h))]
      refine pm_if rfl (fun _ => hfull (fun h => absurd h h0)) (fun z => absurd rfl z)
  · rw [if_neg hok]
    refine pm_if rfl (fun _ => pm_go 1 (pc1 := 124) rfl (kf (fun h => hok h.1))) (fun z => absurd rfl z)
/-- the arrays after a form that was read -/
def fiIA (IA : Nat → Nat → Int32) (dp i t c pl n : Nat) : Nat → Nat → Int32 := if 0 < i then tkO (va_up IA 49 (upd (IA 49) (150 + pl) (nI n))) 1 (7 + dp) c pl else tkK (va_up IA 49 (upd (IA 49) (150 + pl) (nI n))) 1 (64 + t) c pl
theorem pF_some {g : Nat → Int32} {q : Nat} {kk vv : Nat → Nat} (h : pF g m p = some (n, kk, vv, q)) : ∃ p1, gC g m 5 p = some (n, p1) ∧ n ≤ 8 ∧ pOps g m p1 n = some (kk, vv, q) ∧ fmOkN kk n := by
  unfold pF at h
  split at h
  · cases h
  · rename_i n' p1 h1
    split at h
    · rename_i hn
      split at h
      · cases h
      · rename_i kk' vv' q' h2
        split at h
        · rename_i hok
          cases h
          obtain ⟨b1, b2, b3⟩ := gC_b h1
          have hb := pOps_b b3 _ h2
          exact ⟨p1, h1, hn, h2, (fmOk_iff (V := nF vv) (fun k hk => by have := hb.1 k hk; exact ⟨rfl, rfl, this.1, this.2.1, this.2.2.1, this.2.2.2.1⟩)).mp hok⟩
        · cases h
    · cases h
theorem m_formIn {i t c pl q : Nat} {kk vv : Nat → Nat} (hS : SC 36 2 = nI m) (hm : m ≤ 64) (hp : p ≤ 32 * m) (hD : IA 39 1 = nI dp) (hd : dp ≤ 6) (hd0 : 0 < dp) (hC : cntB IA 1 (7 + dp) i t c) (ht : i = 0 → 0 < t) (hc8 : c < 8) (hPl : IA 50 1 = nI pl) (hpl : pl < 150) (hE : pF (gR IA) m p = some (n, kk, vv, q)) :
    ∃ L, opsAt L (8 * (150 + pl)) n kk vv ∧ loF L (LA 48) (8 * (150 + pl)) ∧ pm_call (d + 5) 144 [.ref 36] (N, HM IA LA RA SC dr tl p 0 rd) (.inl (some (.int 2))) (N, HM (fiIA IA dp i t c pl n) (va_up LA 48 L) RA SC dr tl q 0 (upd (upd rd 0 (nI n)) 1 (nI (c + 4)))) 0 0 := by
  obtain ⟨p1, h1, hn, h2, hok⟩ := pF_some hE
  obtain ⟨b1, b2, b3⟩ := gC_b h1
  obtain ⟨L', hO', hfr, hgo⟩ := m_fi_ok (d := d) (LA := LA) (RA := RA) (dr := dr) (tl := tl) (N := N) (rd := rd) (f := 150 + pl) hS hm b3 hn (by omega) h2 n 0 p1 (LA 48) _ _ (by omega) rfl (fun j hj => absurd hj (by omega))
  rw [va_up_id _ 48 _ rfl] at hgo
  refine ⟨L', hO', hfr, ?_⟩
  refine m_fi_pre hPl (m_chunksV hS hm (by omega) (by omega) hp h1) ?_
  rw [if_pos ((r18 b1).mpr ⟨hok.1, hn⟩)]
  refine hgo _ _ ?_
  refine m_fi_63 (LA := va_up LA 48 L') hD hd hd0 hC hn (by omega) hO' (fun _ _ _ => ?_) (fun h => absurd ⟨hok, ht, by omega⟩ h)
  refine pm_cV [.int 1] rfl rfl rfl rfl rfl rfl (Nat.zero_le _) (Nat.zero_le _) m_must ?_
  rw [if_neg (by decide)]
  refine pm_go 1 (pc1 := 128) rfl ?_
  refine pm_getf rfl rfl rfl ?_
  refine pm_if rfl (fun _ => ?_) (fun z => absurd rfl z)
  refine pm_go 1 (pc1 := 137) rfl ?_
  refine pm_getf rfl rfl rfl ?_
  refine pm_go 2 (pc1 := 142) rfl ?_
  refine pm_iastU (j := 150 + pl) rfl rfl (cw_ti (by omega)) (by omega) (HM_st (fun _ _ => hi_49 ..) (by decide) (by decide)) ?_
  refine pm_go 1 (pc1 := 144) rfl ?_
  refine pm_getf rfl rfl rfl ?_
  refine pm_go 2 (pc1 := 149) rfl ?_
  refine pm_iastU (j := 0) rfl rfl rfl (by omega) HM_read ?_
  refine pm_go 1 (pc1 := 151) rfl ?_
  refine pm_getf rfl rfl rfl ?_
  refine pm_go 3 (pc1 := 157) rfl ?_
  by_cases h0 : 0 < i
  · refine pm_cV [.int (nI 1)] rfl rfl rfl rfl rfl rfl (Nat.zero_le _) (Nat.zero_le _) (m_takeO (s := 1) (by omega) hD hd hC h0 hc8 hPl hpl) ?_
    refine pm_hp (f1 := HM (fiIA IA dp i t c pl n) (va_up LA 48 L') RA SC dr tl q 0 (upd rd 0 (nI n))) (HM_fold (fun k e1 e2 => ?_) ?_ rfl) ?_
    · unfold fiIA
      rw [if_pos h0]
      simp [tkO, va_up, e1, e2]
    · unfold fiIA
      rw [if_pos h0]
      rfl
    · refine pm_iastU (j := 1) rfl rfl rfl (by omega) HM_read ?_
      refine pm_go 1 (pc1 := 162) rfl ?_
      exact pm_iret rfl rfl rfl rfl
  · have hi0 : i = 0 := by omega
    refine pm_cV [.int (nI 1)] rfl rfl rfl rfl rfl rfl (Nat.zero_le _) (Nat.zero_le _) (m_takeK (s := 1) (by omega) hD hd hC hi0 hc8 hPl hpl) ?_
    refine pm_hp (f1 := HM (fiIA IA dp i t c pl n) (va_up LA 48 L') RA SC dr tl q 0 (upd rd 0 (nI n))) (HM_fold (fun k e1 e2 => ?_) ?_ rfl) ?_
    · unfold fiIA
      rw [if_neg h0]
      simp [tkK, va_up, e1, e2]
    · unfold fiIA
      rw [if_neg h0]
      rfl
    · refine pm_iastU (j := 1) rfl rfl rfl (by omega) HM_read ?_
      refine pm_go 1 (pc1 := 162) rfl ?_
      exact pm_iret rfl rfl rfl rfl
theorem m_formInX {i t c pl : Nat} (hS : SC 36 2 = nI m) (hm : m ≤ 64) (hp : p ≤ 32 * m) (hD : IA 39 1 = nI dp) (hd : dp ≤ 6) (hd0 : 0 < dp) (hC : cntB IA 1 (7 + dp) i t c) (hPl : IA 50 1 = nI pl) (hpl : pl < 150) (hX : (i = 0 ∧ t = 0) ∨ c = 8 ∨ pF (gR IA) m p = none) :
    ∃ L q, q ≤ 32 * m ∧ loF L (LA 48) (8 * (150 + pl)) ∧ pm_call (d + 5) 144 [.ref 36] (N, HM IA LA RA SC dr tl p 0 rd) (.inl (some (.int 0))) (N, HM IA (va_up LA 48 L) RA SC dr tl q 1 rd) 0 0 := by
  have hbad1 : ∀ {nv : Int32} {q b : Nat}, (if 1 ≤ nv ∧ nv ≤ 8 then b else 1) = 1 → pm_call (d + 4) 139 [.ref 36, .int (nI 5)] (N, HM IA LA RA SC dr tl p 0 rd) (.inl (some (.int nv))) (N, HM IA LA RA SC dr tl q b rd) 0 0 → pm_call (d + 5) 144 [.ref 36] (N, HM IA LA RA SC dr tl p 0 rd) (.inl (some (.int 0))) (N, HM IA LA RA SC dr tl q 1 rd) 0 0 := by
    intro nv q b hb hC1
    refine m_fi_pre hPl hC1 ?_
    rw [hb]
    refine pm_go 2 (pc1 := 32) rfl ?_
    refine pm_icmp rfl (fun _ => pm_lv [(0, .ref 36), (1, .int nv), (2, .int (nI (150 + pl)))] rfl rfl m_fi_63B) (fun _ => ?_)
    refine pm_go 1 (pc1 := 36) rfl ?_
    refine pm_getf rfl rfl rfl ?_
    refine pm_if rfl (fun _ => pm_lv [(0, .ref 36), (1, .int nv), (2, .int (nI (150 + pl)))] rfl rfl m_fi_63B) (fun z => absurd (show ¬ nI 1 = 0 by decide) z)
  have hself : va_up LA 48 (LA 48) = LA := va_up_id _ 48 _ rfl
  cases h1 : gC (gR IA) m 5 p with
  | none =>
    obtain ⟨v1, q1, hq1, hX1⟩ := m_chunksX (d := d + 2) (LA := LA) (RA := RA) (dr := dr) (tl := tl) (N := N) (rd := rd) (w := 5) hS hm (by omega) (by omega) hp h1
    refine ⟨LA 48, q1, hq1, fun _ _ => rfl, ?_⟩
    rw [hself]
    exact hbad1 (by split <;> rfl) hX1
  | some z =>
    obtain ⟨n, p1⟩ := z
    obtain ⟨b1, b2, b3⟩ := gC_b h1
    have hC1 := m_chunksV (d := d + 2) (LA := LA) (RA := RA) (dr := dr) (tl := tl) (N := N) (rd := rd) (w := 5) hS hm (by omega) (by omega) hp h1
    by_cases hn : 1 ≤ n ∧ n ≤ 8
    · cases h2 : pOps (gR IA) m p1 n with
      | none =>
        obtain ⟨L', q, hq, hfr, hgo⟩ := m_fi_bad (d := d) (LA := LA) (RA := RA) (dr := dr) (tl := tl) (N := N) (rd := rd) (f := 150 + pl) hS hm b3 hn.2 (by omega) h2 n 0 p1 (LA 48) _ _ (by omega) rfl (fun j hj => absurd hj (by omega))
        rw [hself] at hgo
        refine ⟨L', q, hq, hfr, ?_⟩
        refine m_fi_pre hPl hC1 ?_
        rw [if_pos ((r18 b1).mpr hn)]
        exact hgo _ _ m_fi_63B
      | some z =>
        obtain ⟨kk, vv, q⟩ := z
        obtain ⟨L', hO', hfr, hgo⟩ := m_fi_ok (d := d) (LA := LA) (RA := RA) (dr := dr) (tl := tl) (N := N) (rd := rd) (f := 150 + pl) hS hm b3 hn.2 (by omega) h2 n 0 p1 (LA 48) _ _ (by omega) rfl (fun j hj => absurd hj (by omega))
        rw [hself] at hgo
        have hb := pOps_b b3 _ h2
        refine ⟨L', q, hb.2.2, hfr, ?_⟩
        refine m_fi_pre hPl hC1 ?_
        rw [if_pos ((r18 b1).mpr hn)]
        refine hgo _ _ ?_
        refine m_fi_63 (LA := va_up LA 48 L') hD hd hd0 hC hn.2 (by omega) hO' (fun hok ht h8 => ?_) (fun _ => m_fi_0 (by rw [if_pos rfl]))
        exfalso
        rcases hX with h | h | h
        · exact absurd (ht h.1) (by omega)
        · exact h8 h
        · unfold pF at h
          rw [h1] at h
          dsimp only at h
          rw [if_pos hn.2, h2] at h
          dsimp only at h
          rw [if_pos ((fmOk_iff (V := nF vv) (fun k hk => by have := hb.1 k hk; exact ⟨rfl, rfl, this.1, this.2.1, this.2.2.1, this.2.2.2.1⟩)).mpr hok)] at h
          cases h
    · refine ⟨LA 48, p1, b3, fun _ _ => rfl, ?_⟩
      rw [hself]
      exact hbad1 (by rw [if_neg (fun h => hn ((r18 b1).mp h))]) hC1
end MG
