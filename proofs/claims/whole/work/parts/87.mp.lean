/-! THE MODEL: reading a plain record -/
/-- what a record that was read looks like in the read array -/
def rdOk (rd : Nat → Int32) (nu : Nat → Nat) (x t : Nat) : Prop := rd 0 = nI (nu 0) ∧ rd 1 = nI x ∧ rd 2 = nI (t - 1) ∧ ∀ i, 1 ≤ i → i < t → rd (2 + i) = nI (nu i)
theorem upd_ne {g : Nat → Int32} {k j : Nat} {x : Int32} (h : j ≠ k) : upd g k x j = g j := by
  show (if j = k then x else g j) = g j
  rw [if_neg h]
theorem l16 {n : Nat} (h : n ≤ 16) : ¬ (16 : Int32) < nI n := fun z => absurd ((nI_ltI (a := 16) (by omega) (by omega)).mp z) (by omega)
section MP
variable {IA : Nat → Nat → Int32} {LA : Nat → Nat → Int64} {RA : Nat → Nat → Option Nat} {SC : Nat → Nat → Int32} {dr : Nat} {tl : Nat → va_E} {N d m p b dp n : Nat} {rd : Nat → Int32}
theorem m_pl_s {k : Nat} {r : pm_V} {h' : pm_H} (hk : k < n) (hn : n ≤ 16)
    (kx : pm_X (pm_call (d + 2)) jm_145 3 (some .int) (d + 2) 0 0 72 [(0, .ref 36), (1, .int (nI n)), (2, .int (nI k))] [.int (nI 6), .ref 36, .int (nI (3 + k)), .ref 54] 0 0 (N, HM IA LA RA SC dr tl p 0 rd) r h') :
    pm_X (pm_call (d + 2)) jm_145 3 (some .int) (d + 2) 0 0 50 [(0, .ref 36), (1, .int (nI n)), (2, .int (nI k))] [] 0 0 (N, HM IA LA RA SC dr tl p 0 rd) r h' := by
  refine pm_go 2 (pc1 := 52) rfl ?_
  refine pm_icmp rfl (fun z => absurd ((nI_leI (by omega) (by omega)).mp z) (by omega)) (fun _ => ?_)
  refine pm_go 1 (pc1 := 56) rfl ?_
  refine pm_getf rfl rfl rfl ?_
  refine pm_if rfl (fun z => absurd rfl z) (fun _ => ?_)
  refine pm_go 1 (pc1 := 63) rfl ?_
  refine pm_getf rfl rfl rfl ?_
  refine pm_go 3 (pc1 := 69) rfl ?_
  rw [show (3 : Int32) + nI k = nI (3 + k) from nI_add 3 k]
  exact pm_go 2 (pc1 := 72) rfl kx
theorem m_pl_50B {nv : Int32} {kv : Int32} {r : pm_V} {h' : pm_H} (hX : pm_X (pm_call (d + 2)) jm_145 3 (some .int) (d + 2) 0 0 82 [(0, .ref 36), (1, .int nv)] [] 0 0 (N, HM IA LA RA SC dr tl p 1 rd) r h') : pm_X (pm_call (d + 2)) jm_145 3 (some .int) (d + 2) 0 0 50 [(0, .ref 36), (1, .int nv), (2, .int kv)] [] 0 0 (N, HM IA LA RA SC dr tl p 1 rd) r h' := by
  refine pm_go 2 (pc1 := 52) rfl ?_
  refine pm_icmp rfl (fun _ => pm_lv [(0, .ref 36), (1, .int nv)] rfl rfl hX) (fun _ => ?_)
  refine pm_go 1 (pc1 := 56) rfl ?_
  refine pm_getf rfl rfl rfl ?_
  exact pm_if rfl (fun _ => pm_lv [(0, .ref 36), (1, .int nv)] rfl rfl hX) (fun z => absurd (show ¬ nI 1 = 0 by decide) z)
theorem m_pl_ok {p0 q2 : Nat} {nu0 nu2 : Nat → Nat} (hS : SC 36 2 = nI m) (hm : m ≤ 64) (hp0 : p0 ≤ 32 * m) (hnu : nu0 0 < 2 ^ 31) (hn : n ≤ 16) (hall : pSq (fun _ => gC (gR IA) m 6) 1 nu0 p0 n = some (nu2, q2)) : ∀ (j k p : Nat) (rd : Nat → Int32) (nu : Nat → Nat), k + j = n → pSq (fun _ => gC (gR IA) m 6) 1 nu0 p0 k = some (nu, p) → (∀ i, 1 ≤ i → i < 1 + k → rd (2 + i) = nI (nu i)) →
    ∃ rd', (∀ i, 1 ≤ i → i < 1 + n → rd' (2 + i) = nI (nu2 i)) ∧ (∀ i, i < 3 → rd' i = rd i) ∧ ∀ (r : pm_V) (h' : pm_H), pm_X (pm_call (d + 2)) jm_145 3 (some .int) (d + 2) 0 0 82 [(0, .ref 36), (1, .int (nI n))] [] 0 0 (N, HM IA LA RA SC dr tl q2 0 rd') r h' → pm_X (pm_call (d + 2)) jm_145 3 (some .int) (d + 2) 0 0 50 [(0, .ref 36), (1, .int (nI n)), (2, .int (nI k))] [] 0 0 (N, HM IA LA RA SC dr tl p 0 rd) r h' := by
  intro j
  induction j with
  | zero =>
    intro k p rd nu hk hP hR
    have e : k = n := by omega
    subst e
    rw [hall] at hP
    cases hP
    refine ⟨rd, hR, fun _ _ => rfl, fun r h' hX => ?_⟩
    refine pm_go 2 (pc1 := 52) rfl ?_
    refine pm_icmp rfl (fun _ => ?_) (fun z => absurd ((nI_leI (by omega) (by omega)).mpr (Nat.le_refl _)) z)
    exact pm_lv [(0, .ref 36), (1, .int (nI k))] rfl rfl hX
  | succ j ih =>
    intro k p rd nu hk hP hR
    obtain ⟨hb1, hb2, hb3, hb4⟩ := pSq_b (n0 := n) (m := m) (F := fun _ => gC (gR IA) m 6) (fun _ _ _ _ _ _ _ h => by have := gC_b h; omega) hp0 (fun i hi => by rw [show i = 0 by omega]; exact hnu) k (by omega) hP
    obtain ⟨z, hz⟩ := pSq_pre hall (k + 1) (by omega)
    have hz2 := hz
    rw [pSq_s hP] at hz2
    cases h1 : gC (gR IA) m 6 p with
    | none => rw [h1] at hz2; cases hz2
    | some o =>
      obtain ⟨v1, q1⟩ := o
      rw [h1] at hz2
      cases hz2
      obtain ⟨rd', hR', h3', hgo⟩ := ih (k + 1) q1 (upd rd (3 + k) (nI v1)) _ (by omega) hz (fun i i1 i2 => by
        by_cases e : i = 1 + k
        · subst e
          rw [show 2 + (1 + k) = 3 + k by omega, upd_at]
          show nI v1 = nI (if 1 + k = 1 + k then v1 else nu (1 + k))
          rw [if_pos rfl]
        · rw [upd_ne (by omega)]
          show rd (2 + i) = nI (if i = 1 + k then v1 else nu i)
          rw [if_neg e]
          exact hR i i1 (by omega))
      refine ⟨rd', hR', fun i hi => (h3' i hi).trans (upd_ne (by omega)), fun r h' hX => ?_⟩
      refine m_pl_s (by omega) hn ?_
      refine pm_cV [.int (nI 6)] rfl rfl rfl rfl rfl rfl (Nat.zero_le _) (Nat.zero_le _) (m_chunksV hS hm (by omega) (by omega) hb4 h1) ?_
      refine pm_iastU (j := 3 + k) rfl rfl (cw_ti (by omega)) (by omega) HM_read ?_
      refine pm_go 2 (pc1 := 50) rfl ?_
      rw [nI_1]
      exact pm_lv [(0, .ref 36), (1, .int (nI n)), (2, .int (nI (k + 1)))] rfl rfl (hgo r h' hX)
theorem m_pl_bad {p0 : Nat} {nu0 : Nat → Nat} (hS : SC 36 2 = nI m) (hm : m ≤ 64) (hp0 : p0 ≤ 32 * m) (hnu : nu0 0 < 2 ^ 31) (hn : n ≤ 16) (hall : pSq (fun _ => gC (gR IA) m 6) 1 nu0 p0 n = none) : ∀ (j k p : Nat) (rd : Nat → Int32) (nu : Nat → Nat), k + j = n → pSq (fun _ => gC (gR IA) m 6) 1 nu0 p0 k = some (nu, p) →
    ∃ rd' q, q ≤ 32 * m ∧ ∀ (r : pm_V) (h' : pm_H), pm_X (pm_call (d + 2)) jm_145 3 (some .int) (d + 2) 0 0 82 [(0, .ref 36), (1, .int (nI n))] [] 0 0 (N, HM IA LA RA SC dr tl q 1 rd') r h' → pm_X (pm_call (d + 2)) jm_145 3 (some .int) (d + 2) 0 0 50 [(0, .ref 36), (1, .int (nI n)), (2, .int (nI k))] [] 0 0 (N, HM IA LA RA SC dr tl p 0 rd) r h' := by
  intro j
  induction j with
  | zero =>
    intro k p rd nu hk hP
    have e : k = n := by omega
    subst e
    rw [hall] at hP
    cases hP
  | succ j ih =>
    intro k p rd nu hk hP
    obtain ⟨hb1, hb2, hb3, hb4⟩ := pSq_b (n0 := n) (m := m) (F := fun _ => gC (gR IA) m 6) (fun _ _ _ _ _ _ _ h => by have := gC_b h; omega) hp0 (fun i hi => by rw [show i = 0 by omega]; exact hnu) k (by omega) hP
    have hz := pSq_s hP
    cases h1 : gC (gR IA) m 6 p with
    | none =>
      obtain ⟨v1, q1, hq1, hX1⟩ := m_chunksX (d := d) (LA := LA) (RA := RA) (dr := dr) (tl := tl) (N := N) (rd := rd) (w := 6) hS hm (by omega) (by omega) hb4 h1
      refine ⟨upd rd (3 + k) v1, q1, hq1, fun r h' hX => ?_⟩
      refine m_pl_s (by omega) hn ?_
      refine pm_cV [.int (nI 6)] rfl rfl rfl rfl rfl rfl (Nat.zero_le _) (Nat.zero_le _) hX1 ?_
      refine pm_iastU (j := 3 + k) rfl rfl (cw_ti (by omega)) (by omega) HM_read ?_
      refine pm_go 2 (pc1 := 50) rfl ?_
      exact pm_lv [(0, .ref 36), (1, .int (nI n)), (2, .int _)] rfl rfl (m_pl_50B hX)
    | some o =>
      obtain ⟨v1, q1⟩ := o
      rw [h1] at hz
      obtain ⟨rd', q', hq', hgo⟩ := ih (k + 1) q1 (upd rd (3 + k) (nI v1)) _ (by omega) hz
      refine ⟨rd', q', hq', fun r h' hX => ?_⟩
      refine m_pl_s (by omega) hn ?_
      refine pm_cV [.int (nI 6)] rfl rfl rfl rfl rfl rfl (Nat.zero_le _) (Nat.zero_le _) (m_chunksV hS hm (by omega) (by omega) hb4 h1) ?_
      refine pm_iastU (j := 3 + k) rfl rfl (cw_ti (by omega)) (by omega) HM_read ?_
      refine pm_go 2 (pc1 := 50) rfl ?_
      rw [nI_1]
      exact pm_lv [(0, .ref 36), (1, .int (nI n)), (2, .int (nI (k + 1)))] rfl rfl (hgo r h' hX)
theorem m_pl_pre {v1 v2 : Int32} {q1 q2 b1 b2 : Nat} {r : pm_V} {h' : pm_H} (h1 : pm_call (d + 2) 139 [.ref 36, .int (nI 6)] (N, HM IA LA RA SC dr tl p 0 rd) (.inl (some (.int v1))) (N, HM IA LA RA SC dr tl q1 b1 rd) 0 0) (h2 : pm_call (d + 2) 139 [.ref 36, .int (nI 6)] (N, HM IA LA RA SC dr tl q1 b1 (upd (upd rd 0 v1) 1 2)) (.inl (some (.int v2))) (N, HM IA LA RA SC dr tl q2 b2 (upd (upd rd 0 v1) 1 2)) 0 0)
    (kx : pm_X (pm_call (d + 2)) jm_145 3 (some .int) (d + 2) 0 0 50 [(0, .ref 36), (1, .int v2), (2, .int (nI 0))] [] 0 0 (N, HM IA LA RA SC dr tl q2 (if 16 < v2 then 1 else b2) (upd (upd (upd rd 0 v1) 1 2) 2 v2)) r h') : pm_call (d + 3) 145 [.ref 36] (N, HM IA LA RA SC dr tl p 0 rd) r h' 0 0 := by
  refine pm_callX jm_145 [(0, .ref 36)] rfl rfl rfl ?_
  refine pm_go 1 (pc1 := 1) rfl ?_
  refine pm_getf rfl rfl rfl ?_
  refine pm_go 3 (pc1 := 8) rfl ?_
  refine pm_cV [.int (nI 6)] rfl rfl rfl rfl rfl rfl (Nat.zero_le _) (Nat.zero_le _) h1 ?_
  refine pm_iastU (j := 0) rfl rfl rfl (by omega) HM_read ?_
  refine pm_go 1 (pc1 := 13) rfl ?_
  refine pm_getf rfl rfl rfl ?_
  refine pm_go 2 (pc1 := 18) rfl ?_
  refine pm_iastU (j := 1) rfl rfl rfl (by omega) HM_read ?_
  refine pm_go 2 (pc1 := 22) rfl ?_
  refine pm_cV [.int (nI 6)] rfl rfl rfl rfl rfl rfl (Nat.zero_le _) (Nat.zero_le _) h2 ?_
  refine pm_go 4 (pc1 := 30) rfl ?_
  have hend : ∀ x : Int32, (if x = 0 then 1 else b2) = (if 16 < v2 then 1 else b2) → pm_X (pm_call (d + 2)) jm_145 3 (some .int) (d + 2) 0 0 38 [(1, .int v2), (0, .ref 36)] [.int x, .ref 36] 0 0 (N, HM IA LA RA SC dr tl q2 b2 (upd (upd rd 0 v1) 1 2)) r h' := by
    intro x hx
    refine pm_cV [.int x] rfl rfl rfl rfl rfl rfl (Nat.zero_le _) (Nat.zero_le _) m_must ?_
    rw [hx]
    refine pm_go 1 (pc1 := 42) rfl ?_
    refine pm_getf rfl rfl rfl ?_
    refine pm_go 2 (pc1 := 47) rfl ?_
    refine pm_iastU (j := 2) rfl rfl rfl (by omega) HM_read ?_
    refine pm_go 2 (pc1 := 50) rfl ?_
    exact pm_lv [(0, .ref 36), (1, .int v2), (2, .int (nI 0))] rfl rfl kx
  refine pm_icmp rfl (fun z => ?_) (fun z => ?_)
  · exact pm_go 1 (pc1 := 38) rfl (hend 0 (by rw [if_pos rfl, if_pos (show (16 : Int32) < v2 from z)]))
  · exact pm_go 2 (pc1 := 38) rfl (hend 1 (by rw [if_neg (by decide), if_neg (show ¬ (16 : Int32) < v2 from z)]))
abbrev plC (nu : Nat → Nat) (t : Nat) : Prop := t = 2 ∧ nu 0 = 1 ∧ 1 ≤ nu 1 ∧ nu 1 ≤ 63
/-- from 82 on, out of INFO -/
theorem m_pl_82N {nv : Int32} (hD : IA 39 1 = nI dp) (hd : dp ≤ 6) (hI : ¬ (0 < dp ∧ IA 40 (7 + dp) = 0)) : pm_X (pm_call (d + 2)) jm_145 3 (some .int) (d + 2) 0 0 82 [(0, .ref 36), (1, .int nv)] [] 0 0 (N, HM IA LA RA SC dr tl p b rd) (.inl (some (.int (3 + nv)))) (N, HM IA LA RA SC dr tl p b rd) := by
  refine pm_go 2 (pc1 := 84) rfl ?_
  refine pm_cV [.int (nI 1)] rfl rfl rfl rfl rfl rfl (Nat.zero_le _) (Nat.zero_le _) (m_inInfo (s := 1) (by omega) hD hd) ?_
  refine pm_nm (y := if 0 < dp ∧ IA 40 (7 + dp) = 0 then 1 else 0) rfl ?_
  rw [if_neg hI]
  refine pm_if rfl (fun z => absurd rfl z) (fun _ => ?_)
  refine pm_go 3 (pc1 := 93) rfl ?_
  exact pm_iret rfl rfl rfl rfl
theorem m_pl_82I {nv : Int32} {r : pm_V} {h' : pm_H} (hD : IA 39 1 = nI dp) (hd : dp ≤ 6) (hI : 0 < dp ∧ IA 40 (7 + dp) = 0)
    (kt : rd 0 = 1 ∧ nv = 1 ∧ 1 ≤ rd 3 ∧ rd 3 ≤ 63 → pm_X (pm_call (d + 2)) jm_145 3 (some .int) (d + 2) 0 0 130 [(0, .ref 36), (1, .int nv)] [.int 1, .ref 36] 0 0 (N, HM IA LA RA SC dr tl p b rd) r h')
    (kf : ¬ (rd 0 = 1 ∧ nv = 1 ∧ 1 ≤ rd 3 ∧ rd 3 ≤ 63) → pm_X (pm_call (d + 2)) jm_145 3 (some .int) (d + 2) 0 0 130 [(0, .ref 36), (1, .int nv)] [.int 0, .ref 36] 0 0 (N, HM IA LA RA SC dr tl p b rd) r h') :
    pm_X (pm_call (d + 2)) jm_145 3 (some .int) (d + 2) 0 0 82 [(0, .ref 36), (1, .int nv)] [] 0 0 (N, HM IA LA RA SC dr tl p b rd) r h' := by
  refine pm_go 2 (pc1 := 84) rfl ?_
  refine pm_cV [.int (nI 1)] rfl rfl rfl rfl rfl rfl (Nat.zero_le _) (Nat.zero_le _) (m_inInfo (s := 1) (by omega) hD hd) ?_
  refine pm_nm (y := if 0 < dp ∧ IA 40 (7 + dp) = 0 then 1 else 0) rfl ?_
  rw [if_pos hI]
  refine pm_if rfl (fun _ => ?_) (fun z => absurd (show ¬ (1 : Int32) = 0 by decide) z)
  refine pm_go 2 (pc1 := 96) rfl ?_
  refine pm_getf rfl rfl rfl ?_
  refine pm_go 1 (pc1 := 100) rfl ?_
  refine pm_iald (j := 0) rfl rfl rfl (by omega) ?_
  refine pm_nm (y := rd 0) rfl ?_
  refine pm_go 1 (pc1 := 102) rfl ?_
  refine pm_icmp rfl (fun z => pm_go 1 (pc1 := 130) rfl (kf (fun h => z h.1))) (fun z => ?_)
  have h0 : rd 0 = 1 := Classical.not_not.mp z
  refine pm_go 2 (pc1 := 107) rfl ?_
  refine pm_icmp rfl (fun z => pm_go 1 (pc1 := 130) rfl (kf (fun h => z h.2.1))) (fun z => ?_)
  have h1 : nv = 1 := Classical.not_not.mp z
  refine pm_go 1 (pc1 := 111) rfl ?_
  refine pm_getf rfl rfl rfl ?_
  refine pm_go 1 (pc1 := 115) rfl ?_
  refine pm_iald (j := 3) rfl rfl rfl (by omega) ?_
  refine pm_nm (y := rd 3) rfl ?_
  refine pm_go 2 (pc1 := 119) rfl ?_
  refine pm_cS [.int (rd 3), .int 1, .int 63] rfl rfl rfl rfl rfl (Nat.zero_le _) (Nat.zero_le _) m_within ?_
  by_cases h3 : 1 ≤ rd 3 ∧ rd 3 ≤ 63
  · rw [if_pos h3]
    refine pm_if rfl (fun z => absurd (show (1 : Int32) = 0 from z) (by decide)) (fun _ => ?_)
    exact pm_go 2 (pc1 := 130) rfl (kt ⟨h0, h1, h3⟩)
  · rw [if_neg h3]
    exact pm_if rfl (fun _ => pm_go 1 (pc1 := 130) rfl (kf (fun h => h3 h.2.2))) (fun z => absurd rfl z)
theorem m_pl_130B {nv x : Int32} (hb : (if x = 0 then 1 else b) = 1) : pm_X (pm_call (d + 2)) jm_145 3 (some .int) (d + 2) 0 0 130 [(0, .ref 36), (1, .int nv)] [.int x, .ref 36] 0 0 (N, HM IA LA RA SC dr tl p b rd) (.inl (some (.int 4))) (N, HM IA LA RA SC dr tl p 1 rd) := by
  refine pm_cV [.int x] rfl rfl rfl rfl rfl rfl (Nat.zero_le _) (Nat.zero_le _) m_must ?_
  rw [hb]
  refine pm_go 1 (pc1 := 134) rfl ?_
  refine pm_getf rfl rfl rfl ?_
  refine pm_if rfl (fun _ => ?_) (fun z => absurd (show ¬ nI 1 = 0 by decide) z)
  refine pm_go 1 (pc1 := 161) rfl ?_
  exact pm_iret rfl rfl rfl rfl
theorem m_pl_82B {nv : Int32} (hD : IA 39 1 = nI dp) (hd : dp ≤ 6) : ∃ v, pm_X (pm_call (d + 2)) jm_145 3 (some .int) (d + 2) 0 0 82 [(0, .ref 36), (1, .int nv)] [] 0 0 (N, HM IA LA RA SC dr tl p 1 rd) (.inl (some (.int v))) (N, HM IA LA RA SC dr tl p 1 rd) := by
  by_cases hI : 0 < dp ∧ IA 40 (7 + dp) = 0
  · exact ⟨4, m_pl_82I hD hd hI (fun _ => m_pl_130B (by split <;> rfl)) (fun _ => m_pl_130B (by split <;> rfl))⟩
  · exact ⟨3 + nv, m_pl_82N hD hd hI⟩
theorem m_pl_go {t q : Nat} {nu : Nat → Nat} (hS : SC 36 2 = nI m) (hm : m ≤ 64) (hp : p ≤ 32 * m) (hE : pPl (gR IA) m p = some (t, nu, q)) : 1 ≤ t ∧ t ≤ 17 ∧ q ≤ 32 * m ∧ (∀ i, i < t → nu i < 2 ^ 31) ∧ ∃ rd', rdOk rd' nu 2 t ∧ ∀ (r : pm_V) (h' : pm_H), pm_X (pm_call (d + 2)) jm_145 3 (some .int) (d + 2) 0 0 82 [(0, .ref 36), (1, .int (nI (t - 1)))] [] 0 0 (N, HM IA LA RA SC dr tl q 0 rd') r h' → pm_call (d + 3) 145 [.ref 36] (N, HM IA LA RA SC dr tl p 0 rd) r h' 0 0 := by
  unfold pPl at hE
  cases h1 : gC (gR IA) m 6 p with
  | none => rw [h1] at hE; cases hE
  | some z =>
    obtain ⟨c, p1⟩ := z
    rw [h1] at hE
    dsimp only at hE
    obtain ⟨b1, b2, b3⟩ := gC_b h1
    cases h2 : gC (gR IA) m 6 p1 with
    | none => rw [h2] at hE; cases hE
    | some z =>
      obtain ⟨n, p2⟩ := z
      rw [h2] at hE
      dsimp only at hE
      obtain ⟨c1, c2, c3⟩ := gC_b h2
      split at hE
      · rename_i hn
        cases h3 : pSq (fun _ => gC (gR IA) m 6) 1 (va_up (fun _ => 0) 0 c) p2 n with
        | none => rw [h3] at hE; cases hE
        | some z =>
          obtain ⟨nu', q'⟩ := z
          rw [h3] at hE
          cases hE
          obtain ⟨s1, s2, s3, s4⟩ := pSq_b (n0 := n) (m := m) (F := fun _ => gC (gR IA) m 6) (fun _ _ _ _ _ _ _ h => by have := gC_b h; omega) c3 (fun i hi => by rw [show i = 0 by omega]; exact b1) n (Nat.le_refl _) h3
          obtain ⟨rd', hR', h3', hgo⟩ := m_pl_ok (d := d) (LA := LA) (RA := RA) (dr := dr) (tl := tl) (N := N) hS hm c3 b1 hn h3 n 0 p2 (upd (upd (upd rd 0 (nI c)) 1 2) 2 (nI n)) _ (by omega) rfl (fun i i1 i2 => absurd i2 (by omega))
          refine ⟨by omega, by omega, s4, fun i hi => s1 i (by omega), rd', ⟨?_, ?_, ?_, fun i i1 i2 => hR' i i1 (by omega)⟩, fun r h' hX => ?_⟩
          · rw [h3' 0 (by omega), upd_ne (by omega), upd_ne (by omega), upd_at, s2 0 (by omega)]
            rfl
          · rw [h3' 1 (by omega), upd_ne (by omega), upd_at]
            rfl
          · rw [h3' 2 (by omega), upd_at]
            rfl
          · refine m_pl_pre (m_chunksV hS hm (by omega) (by omega) hp h1) (m_chunksV hS hm (by omega) (by omega) b3 h2) ?_
            rw [if_neg (l16 hn)]
            exact hgo r h' hX
      · cases hE
theorem m_plainIn {t q : Nat} {nu : Nat → Nat} (hS : SC 36 2 = nI m) (hm : m ≤ 64) (hp : p ≤ 32 * m) (hD : IA 39 1 = nI dp) (hd : dp ≤ 6) (hI : ¬ (0 < dp ∧ IA 40 (7 + dp) = 0)) (hE : pPl (gR IA) m p = some (t, nu, q)) :
    ∃ rd', rdOk rd' nu 2 t ∧ pm_call (d + 3) 145 [.ref 36] (N, HM IA LA RA SC dr tl p 0 rd) (.inl (some (.int (nI (t + 2))))) (N, HM IA LA RA SC dr tl q 0 rd') 0 0 := by
  obtain ⟨t1, t2, hq, hnu, rd', hR, hgo⟩ := m_pl_go (d := d) (LA := LA) (RA := RA) (dr := dr) (tl := tl) (N := N) (rd := rd) hS hm hp hE
  refine ⟨rd', hR, hgo _ _ ?_⟩
  have h := m_pl_82N (d := d) (LA := LA) (RA := RA) (SC := SC) (dr := dr) (tl := tl) (N := N) (rd := rd') (p := q) (b := 0) (nv := nI (t - 1)) hD hd hI
  rw [show (3 : Int32) + nI (t - 1) = nI (t + 2) from by rw [show t + 2 = 3 + (t - 1) by omega]; exact nI_add 3 (t - 1)] at h
  exact h
theorem m_plainInI {t q : Nat} {nu : Nat → Nat} (hS : SC 36 2 = nI m) (hm : m ≤ 64) (hp : p ≤ 32 * m) (hD : IA 39 1 = nI dp) (hd : dp ≤ 6) (hI : 0 < dp ∧ IA 40 (7 + dp) = 0) (hE : pPl (gR IA) m p = some (t, nu, q)) (hC : plC nu t) :
    ∃ rd', rdOk rd' nu 2 t ∧ pm_call (d + 3) 145 [.ref 36] (N, HM IA LA RA SC dr tl p 0 rd) (.inl (some (.int 4))) (N, HM (va_up IA 43 (upd (IA 43) (7 + dp) (nI (nu 1)))) LA RA SC dr tl q 0 rd') 0 0 := by
  obtain ⟨t1, t2, hq, hnu, rd', hR, hgo⟩ := m_pl_go (d := d) (LA := LA) (RA := RA) (dr := dr) (tl := tl) (N := N) (rd := rd) hS hm hp hE
  refine ⟨rd', hR, hgo _ _ ?_⟩
  obtain ⟨r0, r1, r2, r3⟩ := hR
  have e3 : rd' 3 = nI (nu 1) := r3 1 (by omega) (by omega)
  have h1 := hnu 1 (by omega)
  refine m_pl_82I hD hd hI (fun _ => ?_) (fun h => absurd ⟨by rw [r0, hC.2.1]; rfl, by rw [hC.1]; rfl, ?_⟩ h)
  · refine pm_cV [.int 1] rfl rfl rfl rfl rfl rfl (Nat.zero_le _) (Nat.zero_le _) m_must ?_
    rw [if_neg (by decide)]
    refine pm_go 1 (pc1 := 134) rfl ?_
    refine pm_getf rfl rfl rfl ?_
    refine pm_if rfl (fun z => absurd rfl z) (fun _ => ?_)
    refine pm_go 1 (pc1 := 141) rfl ?_
    refine pm_getf rfl rfl rfl ?_
    refine pm_go 2 (pc1 := 147) rfl ?_
    refine pm_getf rfl rfl rfl ?_
    refine pm_go 1 (pc1 := 151) rfl ?_
    refine pm_iald (j := 1) rfl rfl rfl (by omega) ?_
    refine pm_nm (y := nI dp) hD ?_
    refine pm_go 2 (pc1 := 154) rfl ?_
    rw [show (7 : Int32) + nI dp = nI (7 + dp) from nI_add 7 dp]
    refine pm_getf rfl rfl rfl ?_
    refine pm_go 1 (pc1 := 158) rfl ?_
    refine pm_iald (j := 3) rfl rfl rfl (by omega) ?_
    refine pm_nm (y := nI (nu 1)) e3 ?_
    refine pm_iastU (j := 7 + dp) rfl rfl (cw_ti (by omega)) (by omega) (HM_st (fun _ _ => hi_43 ..) (by decide) (by decide)) ?_
    refine pm_go 1 (pc1 := 161) rfl ?_
    exact pm_iret rfl rfl rfl rfl
  · rw [e3]
    exact (nI_rng (a := 1) (b := 63) h1 (by omega) (by omega)).mpr hC.2.2
theorem m_plainInX (hS : SC 36 2 = nI m) (hm : m ≤ 64) (hp : p ≤ 32 * m) (hD : IA 39 1 = nI dp) (hd : dp ≤ 6) (hX : pPl (gR IA) m p = none ∨ ((0 < dp ∧ IA 40 (7 + dp) = 0) ∧ ∃ t nu q, pPl (gR IA) m p = some (t, nu, q) ∧ ¬ plC nu t)) :
    ∃ v rd' q, q ≤ 32 * m ∧ pm_call (d + 3) 145 [.ref 36] (N, HM IA LA RA SC dr tl p 0 rd) (.inl (some (.int v))) (N, HM IA LA RA SC dr tl q 1 rd') 0 0 := by
  rcases hX with hE | ⟨hI, t, nu, q, hE, hC⟩
  · unfold pPl at hE
    cases h1 : gC (gR IA) m 6 p with
    | none =>
      obtain ⟨v1, q1, hq1, hX1⟩ := m_chunksX (d := d) (LA := LA) (RA := RA) (dr := dr) (tl := tl) (N := N) (rd := rd) (w := 6) hS hm (by omega) (by omega) hp h1
      obtain ⟨v, hv⟩ := m_pl_82B (d := d) (LA := LA) (RA := RA) (SC := SC) (dr := dr) (tl := tl) (N := N) (rd := upd (upd (upd rd 0 v1) 1 2) 2 0) (p := q1) (nv := 0) hD hd
      refine ⟨v, upd (upd (upd rd 0 v1) 1 2) 2 0, q1, hq1, m_pl_pre hX1 m_getChunksB ?_⟩
      rw [show (if (16 : Int32) < 0 then 1 else 1) = 1 by split <;> rfl]
      exact m_pl_50B hv
    | some z =>
      obtain ⟨c, p1⟩ := z
      rw [h1] at hE
      dsimp only at hE
      obtain ⟨b1, b2, b3⟩ := gC_b h1
      have hX1 := m_chunksV (d := d) (LA := LA) (RA := RA) (dr := dr) (tl := tl) (N := N) (rd := rd) (w := 6) hS hm (by omega) (by omega) hp h1
      cases h2 : gC (gR IA) m 6 p1 with
      | none =>
        obtain ⟨v2, q2, hq2, hX2⟩ := m_chunksX (d := d) (LA := LA) (RA := RA) (dr := dr) (tl := tl) (N := N) (rd := upd (upd rd 0 (nI c)) 1 2) (w := 6) hS hm (by omega) (by omega) b3 h2
        obtain ⟨v, hv⟩ := m_pl_82B (d := d) (LA := LA) (RA := RA) (SC := SC) (dr := dr) (tl := tl) (N := N) (rd := upd (upd (upd rd 0 (nI c)) 1 2) 2 v2) (p := q2) (nv := v2) hD hd
        refine ⟨v, upd (upd (upd rd 0 (nI c)) 1 2) 2 v2, q2, hq2, m_pl_pre hX1 hX2 ?_⟩
        rw [show (if 16 < v2 then 1 else 1) = 1 by split <;> rfl]
        exact m_pl_50B hv
      | some z =>
        obtain ⟨n, p2⟩ := z
        rw [h2] at hE
        dsimp only at hE
        obtain ⟨c1, c2, c3⟩ := gC_b h2
        have hX2 := m_chunksV (d := d) (LA := LA) (RA := RA) (dr := dr) (tl := tl) (N := N) (rd := upd (upd rd 0 (nI c)) 1 2) (w := 6) hS hm (by omega) (by omega) b3 h2
        by_cases hn : n ≤ 16
        · rw [if_pos hn] at hE
          cases h3 : pSq (fun _ => gC (gR IA) m 6) 1 (va_up (fun _ => 0) 0 c) p2 n with
          | some z => rw [h3] at hE; cases hE
          | none =>
            obtain ⟨rd', q', hq', hgo⟩ := m_pl_bad (d := d) (LA := LA) (RA := RA) (dr := dr) (tl := tl) (N := N) hS hm c3 b1 hn h3 n 0 p2 (upd (upd (upd rd 0 (nI c)) 1 2) 2 (nI n)) _ (by omega) rfl
            obtain ⟨v, hv⟩ := m_pl_82B (d := d) (LA := LA) (RA := RA) (SC := SC) (dr := dr) (tl := tl) (N := N) (rd := rd') (p := q') (nv := nI n) hD hd
            refine ⟨v, rd', q', hq', m_pl_pre hX1 hX2 ?_⟩
            rw [if_neg (l16 hn)]
            exact hgo _ _ hv
        · obtain ⟨v, hv⟩ := m_pl_82B (d := d) (LA := LA) (RA := RA) (SC := SC) (dr := dr) (tl := tl) (N := N) (rd := upd (upd (upd rd 0 (nI c)) 1 2) 2 (nI n)) (p := p2) (nv := nI n) hD hd
          refine ⟨v, upd (upd (upd rd 0 (nI c)) 1 2) 2 (nI n), p2, c3, m_pl_pre hX1 hX2 ?_⟩
          rw [if_pos (show (16 : Int32) < nI n from (nI_ltI (a := 16) (by omega) (by omega)).mpr (by omega))]
          exact m_pl_50B hv
  · obtain ⟨t1, t2, hq, hnu, rd', hR, hgo⟩ := m_pl_go (d := d) (LA := LA) (RA := RA) (dr := dr) (tl := tl) (N := N) (rd := rd) hS hm hp hE
    refine ⟨4, rd', q, hq, hgo _ _ ?_⟩
    obtain ⟨r0, r1, r2, r3⟩ := hR
    refine m_pl_82I hD hd hI (fun h => absurd ?_ hC) (fun _ => m_pl_130B (by rw [if_pos rfl]))
    have ht : t = 2 := by
      have := (nI_eqI (b := 1) (by omega) (by omega)).mp h.2.1
      omega
    have e3 : rd' 3 = nI (nu 1) := r3 1 (by omega) (by omega)
    have hh := h.2.2
    rw [e3] at hh
    refine ⟨ht, ?_, (nI_rng (a := 1) (b := 63) (hnu 1 (by omega)) (by omega) (by omega)).mp hh⟩
    have := h.1
    rw [r0] at this
    exact (nI_eqI (b := 1) (hnu 0 (by omega)) (by omega)).mp this
end MP
