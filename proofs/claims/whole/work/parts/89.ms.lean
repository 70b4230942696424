/-! THE MODEL: reading a record by a form, to its end -/
section MS
variable {IA : Nat → Nat → Int32} {LA : Nat → Nat → Int64} {RA : Nat → Nat → Option Nat} {SC : Nat → Nat → Int32} {dr : Nat} {tl : Nat → va_E} {N d m p b dp n f S l : Nat} {rd : Nat → Int32} {kk vv : Nat → Nat} {xv : Int32}
theorem m_r_296 {av : Int32} : pm_X (pm_call (d + 3)) jm_147 10 (some .int) (d + 3) 0 0 296 [(0, .ref 36), (1, .int xv), (7, .int av)] [] 0 0 (N, HM IA LA RA SC dr tl p b rd) (.inl (some (.int (2 + av)))) (N, HM IA LA RA SC dr tl p b (upd (upd rd 1 xv) 2 (av - 1))) := by
  refine pm_go 1 (pc1 := 297) rfl ?_
  refine pm_getf rfl rfl rfl ?_
  refine pm_go 2 (pc1 := 302) rfl ?_
  refine pm_iastU (j := 1) rfl rfl rfl (by omega) HM_read ?_
  refine pm_go 1 (pc1 := 304) rfl ?_
  refine pm_getf rfl rfl rfl ?_
  refine pm_go 4 (pc1 := 312) rfl ?_
  refine pm_iastU (j := 2) rfl rfl rfl (by omega) HM_read ?_
  refine pm_go 3 (pc1 := 317) rfl ?_
  exact pm_iret rfl rfl rfl rfl
theorem m_r2_s {k : Nat} {r : pm_V} {h' : pm_H} (hk : k < l) (hl : S + l ≤ 17) (hn : n ≤ 8) (hn0 : 1 ≤ n) (hf : f + 1 ≤ 300) (hO : opsAt (LA 48) (8 * f) n kk vv)
    (kx : ∀ lv2, lv2 = [(0, .ref 36), (1, .int xv), (3, .int (nI f)), (4, .int (nI n)), (6, .int (nI S)), (8, .int (nI l)), (9, .int (nI (S + k)))] → pm_X (pm_call (d + 3)) jm_147 10 (some .int) (d + 3) 0 0 279 lv2 [.long (opL (kk (n - 1)) (vv (n - 1))), .ref 36, .int (nI (ixr (S + k))), .ref 54] 0 0 (N, HM IA LA RA SC dr tl p 0 rd) r h') :
    pm_X (pm_call (d + 3)) jm_147 10 (some .int) (d + 3) 0 0 230 [(0, .ref 36), (1, .int xv), (3, .int (nI f)), (4, .int (nI n)), (6, .int (nI S)), (8, .int (nI l)), (9, .int (nI (S + k)))] [] 0 0 (N, HM IA LA RA SC dr tl p 0 rd) r h' := by
  have hend : ∀ {ix : Int32}, ix = nI (ixr (S + k)) → pm_X (pm_call (d + 3)) jm_147 10 (some .int) (d + 3) 0 0 264 [(0, .ref 36), (1, .int xv), (3, .int (nI f)), (4, .int (nI n)), (6, .int (nI S)), (8, .int (nI l)), (9, .int (nI (S + k)))] [.int ix, .ref 54] 0 0 (N, HM IA LA RA SC dr tl p 0 rd) r h' := by
    intro ix hix
    subst hix
    refine pm_go 2 (pc1 := 266) rfl ?_
    refine pm_getf rfl rfl rfl ?_
    refine pm_go 7 (pc1 := 278) rfl ?_
    rw [show (8 : Int32) * nI f + nI n = nI (8 * f + n) from ixm 8 f n, show nI (8 * f + n) - 1 = nI (8 * f + (n - 1)) from by rw [show 8 * f + (n - 1) = 8 * f + n - 1 by omega]; exact pk_sub (b := 1) (by omega)]
    refine pm_lald (j := 8 * f + (n - 1)) rfl rfl (cw_ti (by omega)) (by omega) ?_
    rw [(hO (n - 1) (by omega)).1]
    exact kx _ rfl
  refine pm_go 4 (pc1 := 237) rfl ?_
  rw [nI_add]
  refine pm_icmp rfl (fun z => absurd ((nI_leI (by omega) (by omega)).mp z) (by omega)) (fun _ => ?_)
  refine pm_go 1 (pc1 := 241) rfl ?_
  refine pm_getf rfl rfl rfl ?_
  refine pm_if rfl (fun z => absurd rfl z) (fun _ => ?_)
  refine pm_go 1 (pc1 := 248) rfl ?_
  refine pm_getf rfl rfl rfl ?_
  refine pm_go 1 (pc1 := 253) rfl ?_
  refine pm_if rfl (fun z => ?_) (fun z => ?_)
  · have h0 : ¬ S + k = 0 := fun e => z (show nI (S + k) = 0 by rw [e]; rfl)
    refine pm_go 3 (pc1 := 264) rfl ?_
    refine hend ?_
    rw [show (2 : Int32) + nI (S + k) = nI (2 + (S + k)) from nI_add 2 (S + k)]
    unfold ixr
    rw [if_neg h0]
  · have h0 : S + k = 0 := (nI_eqI (b := 0) (by omega) (by omega)).mp (Classical.not_not.mp z)
    refine pm_go 2 (pc1 := 264) rfl ?_
    refine hend ?_
    unfold ixr
    rw [if_pos h0]
    rfl
theorem m_r2_e {k : Nat} {v : Int32} {r : pm_V} {h' : pm_H} (hk : S + k < 17)
    (kx : pm_X (pm_call (d + 3)) jm_147 10 (some .int) (d + 3) 0 0 230 [(0, .ref 36), (1, .int xv), (3, .int (nI f)), (4, .int (nI n)), (6, .int (nI S)), (8, .int (nI l)), (9, .int (nI (S + (k + 1))))] [] 0 0 (N, HM IA LA RA SC dr tl p b (upd rd (ixr (S + k)) v)) r h') :
    pm_X (pm_call (d + 3)) jm_147 10 (some .int) (d + 3) 0 0 282 [(0, .ref 36), (1, .int xv), (3, .int (nI f)), (4, .int (nI n)), (6, .int (nI S)), (8, .int (nI l)), (9, .int (nI (S + k)))] [.int v, .int (nI (ixr (S + k))), .ref 54] 0 0 (N, HM IA LA RA SC dr tl p b rd) r h' := by
  refine pm_iastU (j := ixr (S + k)) rfl rfl (cw_ti (by unfold ixr; split <;> omega)) (by unfold ixr; split <;> omega) HM_read ?_
  refine pm_go 2 (pc1 := 230) rfl ?_
  rw [nI_1]
  exact pm_lv [(0, .ref 36), (1, .int xv), (3, .int (nI f)), (4, .int (nI n)), (6, .int (nI S)), (8, .int (nI l)), (9, .int (nI (S + (k + 1))))] rfl rfl kx
theorem m_r2_B {lv9 av9 : Int32} : pm_X (pm_call (d + 3)) jm_147 10 (some .int) (d + 3) 0 0 230 [(0, .ref 36), (1, .int xv), (3, .int (nI f)), (4, .int (nI n)), (6, .int (nI S)), (8, .int lv9), (9, .int av9)] [] 0 0 (N, HM IA LA RA SC dr tl p 1 rd) (.inl (some (.int (2 + (nI S + lv9))))) (N, HM IA LA RA SC dr tl p 1 (upd (upd rd 1 xv) 2 (nI S + lv9 - 1))) := by
  have hend : pm_X (pm_call (d + 3)) jm_147 10 (some .int) (d + 3) 0 0 289 [(0, .ref 36), (1, .int xv), (3, .int (nI f)), (4, .int (nI n)), (6, .int (nI S)), (8, .int lv9), (9, .int av9)] [] 0 0 (N, HM IA LA RA SC dr tl p 1 rd) (.inl (some (.int (2 + (nI S + lv9))))) (N, HM IA LA RA SC dr tl p 1 (upd (upd rd 1 xv) 2 (nI S + lv9 - 1))) := by
    refine pm_go 4 (pc1 := 296) rfl ?_
    exact pm_lv [(0, .ref 36), (1, .int xv), (7, .int (nI S + lv9))] rfl rfl m_r_296
  refine pm_go 4 (pc1 := 237) rfl ?_
  refine pm_icmp rfl (fun _ => hend) (fun _ => ?_)
  refine pm_go 1 (pc1 := 241) rfl ?_
  refine pm_getf rfl rfl rfl ?_
  refine pm_if rfl (fun _ => hend) (fun z => absurd (show ¬ nI 1 = 0 by decide) z)
theorem m_r2_ok {p0 q2 : Nat} {nu0 nu2 : Nat → Nat} (hSz : SC 36 2 = nI m) (hm : m ≤ 64) (hp0 : p0 ≤ 32 * m) (hl : S + l ≤ 17) (hn : n ≤ 8) (hn0 : 1 ≤ n) (hf : f + 1 ≤ 300) (hO : opsAt (LA 48) (8 * f) n kk vv) (hB : fmB n kk vv) (h3 : ¬ kk (n - 1) = 3) (hnu : ∀ i, i < S → nu0 i < 2 ^ 31) (hall : pSq (fun _ => pBy (gR IA) m (kk (n - 1)) (vv (n - 1))) S nu0 p0 l = some (nu2, q2)) : ∀ (j k p : Nat) (rd : Nat → Int32) (nu : Nat → Nat), k + j = l → pSq (fun _ => pBy (gR IA) m (kk (n - 1)) (vv (n - 1))) S nu0 p0 k = some (nu, p) → rP rd nu (S + k) →
    ∃ rd', rP rd' nu2 (S + l) ∧ pm_X (pm_call (d + 3)) jm_147 10 (some .int) (d + 3) 0 0 230 [(0, .ref 36), (1, .int xv), (3, .int (nI f)), (4, .int (nI n)), (6, .int (nI S)), (8, .int (nI l)), (9, .int (nI (S + k)))] [] 0 0 (N, HM IA LA RA SC dr tl p 0 rd) (.inl (some (.int (nI (2 + (S + l)))))) (N, HM IA LA RA SC dr tl q2 0 (upd (upd rd' 1 xv) 2 (nI (S + l) - 1))) := by
  intro j
  induction j with
  | zero =>
    intro k p rd nu hk hP hR
    have e : k = l := by omega
    subst e
    rw [hall] at hP
    cases hP
    refine ⟨rd, hR, ?_⟩
    refine pm_go 4 (pc1 := 237) rfl ?_
    rw [nI_add]
    refine pm_icmp rfl (fun _ => ?_) (fun z => absurd ((nI_leI (by omega) (by omega)).mpr (Nat.le_refl _)) z)
    refine pm_go 4 (pc1 := 296) rfl ?_
    rw [nI_add]
    have h := m_r_296 (d := d) (IA := IA) (LA := LA) (RA := RA) (SC := SC) (dr := dr) (tl := tl) (N := N) (p := q2) (b := 0) (rd := rd) (xv := xv) (av := nI (S + k))
    rw [show (2 : Int32) + nI (S + k) = nI (2 + (S + k)) from nI_add 2 (S + k)] at h
    exact pm_lv [(0, .ref 36), (1, .int xv), (7, .int (nI (S + k)))] rfl rfl h
  | succ j ih =>
    intro k p rd nu hk hP hR
    obtain ⟨e3, e4, e5, e6⟩ := hB (n - 1) (by omega)
    obtain ⟨hb1, hb2, hb3, hb4⟩ := pSq_b (n0 := l) (m := m) (F := fun _ => pBy (gR IA) m (kk (n - 1)) (vv (n - 1))) (fun i p v q h1 h2 hp he => pBy_b hp e4 (fun z => (e5 z).2) he) hp0 hnu k (by omega) hP
    have hz := pSq_s hP
    cases h1 : pBy (gR IA) m (kk (n - 1)) (vv (n - 1)) p with
    | none =>
      rw [h1] at hz
      obtain ⟨y, hy⟩ := pSq_pre hall (k + 1) (by omega)
      rw [hy] at hz
      cases hz
    | some o =>
      obtain ⟨v1, q1⟩ := o
      rw [h1] at hz
      obtain ⟨rd', hR', hgo⟩ := ih (k + 1) q1 (upd rd (ixr (S + k)) (nI v1)) _ (by omega) hz (by rw [← Nat.add_assoc]; exact rP_s hR)
      refine ⟨rd', hR', ?_⟩
      refine m_r2_s (by omega) hl hn hn0 hf hO (fun lv2 e => ?_)
      subst e
      refine pm_cV [.long (opL (kk (n - 1)) (vv (n - 1)))] rfl rfl rfl rfl rfl rfl (Nat.zero_le _) (Nat.zero_le _) (m_byOpIn hSz hm hb4 e3 h3 e4 e5 e6 h1) ?_
      exact m_r2_e (by omega) hgo
theorem m_r2_bad {p0 : Nat} {nu0 : Nat → Nat} (hSz : SC 36 2 = nI m) (hm : m ≤ 64) (hp0 : p0 ≤ 32 * m) (hl : S + l ≤ 17) (hn : n ≤ 8) (hn0 : 1 ≤ n) (hf : f + 1 ≤ 300) (hO : opsAt (LA 48) (8 * f) n kk vv) (hB : fmB n kk vv) (h3 : ¬ kk (n - 1) = 3) (hnu : ∀ i, i < S → nu0 i < 2 ^ 31) (hall : pSq (fun _ => pBy (gR IA) m (kk (n - 1)) (vv (n - 1))) S nu0 p0 l = none) : ∀ (j k p : Nat) (rd : Nat → Int32) (nu : Nat → Nat), k + j = l → pSq (fun _ => pBy (gR IA) m (kk (n - 1)) (vv (n - 1))) S nu0 p0 k = some (nu, p) →
    ∃ v rd' q, q ≤ 32 * m ∧ pm_X (pm_call (d + 3)) jm_147 10 (some .int) (d + 3) 0 0 230 [(0, .ref 36), (1, .int xv), (3, .int (nI f)), (4, .int (nI n)), (6, .int (nI S)), (8, .int (nI l)), (9, .int (nI (S + k)))] [] 0 0 (N, HM IA LA RA SC dr tl p 0 rd) (.inl (some (.int v))) (N, HM IA LA RA SC dr tl q 1 rd') := by
  intro j
  induction j with
  | zero =>
    intro k p rd nu hk hP
    have e : k = l := by omega
    subst e
    rw [hall] at hP
    cases hP
  | succ j ih =>
    intro k p rd nu hk hP
    obtain ⟨e3, e4, e5, e6⟩ := hB (n - 1) (by omega)
    obtain ⟨hb1, hb2, hb3, hb4⟩ := pSq_b (n0 := l) (m := m) (F := fun _ => pBy (gR IA) m (kk (n - 1)) (vv (n - 1))) (fun i p v q h1 h2 hp he => pBy_b hp e4 (fun z => (e5 z).2) he) hp0 hnu k (by omega) hP
    have hz := pSq_s hP
    cases h1 : pBy (gR IA) m (kk (n - 1)) (vv (n - 1)) p with
    | none =>
      obtain ⟨x, q, hq, hX1⟩ := m_byOpInX (d := d) (b := 0) (LA := LA) (RA := RA) (dr := dr) (tl := tl) (N := N) (rd := rd) (IA := IA) hSz hm hb4 (by omega) e3 h3 e4 e5 e6 (.inr h1)
      refine ⟨2 + (nI S + nI l), upd (upd (upd rd (ixr (S + k)) x) 1 xv) 2 (nI S + nI l - 1), q, hq, ?_⟩
      refine m_r2_s (by omega) hl hn hn0 hf hO (fun lv2 e => ?_)
      subst e
      refine pm_cV [.long (opL (kk (n - 1)) (vv (n - 1)))] rfl rfl rfl rfl rfl rfl (Nat.zero_le _) (Nat.zero_le _) hX1 ?_
      exact m_r2_e (by omega) m_r2_B
    | some o =>
      obtain ⟨v1, q1⟩ := o
      rw [h1] at hz
      obtain ⟨v, rd', q', hq', hgo⟩ := ih (k + 1) q1 (upd rd (ixr (S + k)) (nI v1)) _ (by omega) hz
      refine ⟨v, rd', q', hq', ?_⟩
      refine m_r2_s (by omega) hl hn hn0 hf hO (fun lv2 e => ?_)
      subst e
      refine pm_cV [.long (opL (kk (n - 1)) (vv (n - 1)))] rfl rfl rfl rfl rfl rfl (Nat.zero_le _) (Nat.zero_le _) (m_byOpIn hSz hm hb4 e3 h3 e4 e5 e6 h1) ?_
      exact m_r2_e (by omega) hgo
/-- the beginning: the form's number is looked up -/
theorem m_r_0X {x : Nat} {v44 : Nat} (hx : x < 256) (hD : IA 39 1 = nI dp) (hd : dp ≤ 6) (h44 : IA 44 (7 + dp) = nI v44) (hv8 : v44 ≤ 8) (hX : ¬ x < v44 + 4 ∨ (0 < dp ∧ IA 40 (7 + dp) = 0)) :
    pm_call (d + 4) 147 [.ref 36, .int (nI x)] (N, HM IA LA RA SC dr tl p 0 rd) (.inl (some (.int 0))) (N, HM IA LA RA SC dr tl p 1 rd) 0 0 := by
  refine pm_callX jm_147 [(0, .ref 36), (1, .int (nI x))] rfl rfl rfl ?_
  refine pm_go 2 (pc1 := 3) rfl ?_
  refine pm_getf rfl rfl rfl ?_
  refine pm_go 1 (pc1 := 7) rfl ?_
  refine pm_iald (j := 1) rfl rfl rfl (by omega) ?_
  refine pm_nm (y := nI dp) hD ?_
  refine pm_go 1 (pc1 := 9) rfl ?_
  rw [show (7 : Int32) + nI dp = nI (7 + dp) from nI_add 7 dp]
  refine pm_go 4 (pc1 := 13) rfl ?_
  refine pm_getf rfl rfl rfl ?_
  refine pm_go 1 (pc1 := 17) rfl ?_
  refine pm_iald (j := 7 + dp) rfl rfl (cw_ti (by omega)) (by omega) ?_
  refine pm_nm (y := nI v44) h44 ?_
  refine pm_go 2 (pc1 := 20) rfl ?_
  rw [show nI v44 + (4 : Int32) = nI (v44 + 4) from nI_add v44 4]
  have hend : pm_X (pm_call (d + 3)) jm_147 10 (some .int) (d + 3) 0 0 36 [(2, .int (nI (7 + dp))), (0, .ref 36), (1, .int (nI x))] [.int 0, .ref 36] 0 0 (N, HM IA LA RA SC dr tl p 0 rd) (.inl (some (.int 0))) (N, HM IA LA RA SC dr tl p 1 rd) := by
    refine pm_cV [.int 0] rfl rfl rfl rfl rfl rfl (Nat.zero_le _) (Nat.zero_le _) m_must ?_
    rw [if_pos rfl]
    refine pm_go 1 (pc1 := 40) rfl ?_
    refine pm_getf rfl rfl rfl ?_
    refine pm_if rfl (fun z => absurd (show nI 1 = 0 from z) (by decide)) (fun _ => ?_)
    refine pm_go 1 (pc1 := 47) rfl ?_
    exact pm_iret rfl rfl rfl rfl
  refine pm_icmp rfl (fun _ => pm_go 1 (pc1 := 36) rfl hend) (fun z => ?_)
  have hx2 : x < v44 + 4 := Classical.byContradiction fun h => z ((nI_leI (by omega) (by omega)).mpr (by omega))
  refine pm_go 2 (pc1 := 25) rfl ?_
  refine pm_cV [.int (nI 1)] rfl rfl rfl rfl rfl rfl (Nat.zero_le _) (Nat.zero_le _) (m_inInfo (s := 1) (by omega) hD hd) ?_
  refine pm_nm (y := if 0 < dp ∧ IA 40 (7 + dp) = 0 then 1 else 0) rfl ?_
  rw [if_pos (hX.resolve_left (fun h => h hx2))]
  exact pm_if rfl (fun _ => pm_go 1 (pc1 := 36) rfl hend) (fun z => absurd (show ¬ (1 : Int32) = 0 by decide) z)
theorem m_r_pre {x v44 : Nat} {r : pm_V} {h' : pm_H} (hx : x < 256) (hx4 : 4 ≤ x) (hD : IA 39 1 = nI dp) (hd : dp ≤ 6) (h44 : IA 44 (7 + dp) = nI v44) (hv8 : v44 ≤ 8) (hx2 : x < v44 + 4) (hI : ¬ (0 < dp ∧ IA 40 (7 + dp) = 0)) (hF : IA 45 (8 * (7 + dp) + (x - 4)) = nI f) (hf : f + 1 ≤ 300) (hC : IA 49 f = nI n) (hn : n ≤ 8) (hO : opsAt (LA 48) (8 * f) n kk vv)
    (kx : pm_X (pm_call (d + 3)) jm_147 10 (some .int) (d + 3) 0 0 127 [(0, .ref 36), (1, .int (nI x)), (3, .int (nI f)), (4, .int (nI n)), (5, .int (if rwN kk n then 1 else 0)), (6, .int (nI (sgN kk n))), (7, .int (nI (sgN kk n))), (8, .int (nI 0))] [] 0 0 (N, HM IA LA RA SC dr tl p 0 rd) r h') :
    pm_call (d + 4) 147 [.ref 36, .int (nI x)] (N, HM IA LA RA SC dr tl p 0 rd) r h' 0 0 := by
  refine pm_callX jm_147 [(0, .ref 36), (1, .int (nI x))] rfl rfl rfl ?_
  refine pm_go 2 (pc1 := 3) rfl ?_
  refine pm_getf rfl rfl rfl ?_
  refine pm_go 1 (pc1 := 7) rfl ?_
  refine pm_iald (j := 1) rfl rfl rfl (by omega) ?_
  refine pm_nm (y := nI dp) hD ?_
  refine pm_go 1 (pc1 := 9) rfl ?_
  rw [show (7 : Int32) + nI dp = nI (7 + dp) from nI_add 7 dp]
  refine pm_go 4 (pc1 := 13) rfl ?_
  refine pm_getf rfl rfl rfl ?_
  refine pm_go 1 (pc1 := 17) rfl ?_
  refine pm_iald (j := 7 + dp) rfl rfl (cw_ti (by omega)) (by omega) ?_
  refine pm_nm (y := nI v44) h44 ?_
  refine pm_go 2 (pc1 := 20) rfl ?_
  rw [show nI v44 + (4 : Int32) = nI (v44 + 4) from nI_add v44 4]
  refine pm_icmp rfl (fun z => absurd ((nI_leI (by omega) (by omega)).mp z) (by omega)) (fun _ => ?_)
  refine pm_go 2 (pc1 := 25) rfl ?_
  refine pm_cV [.int (nI 1)] rfl rfl rfl rfl rfl rfl (Nat.zero_le _) (Nat.zero_le _) (m_inInfo (s := 1) (by omega) hD hd) ?_
  refine pm_nm (y := if 0 < dp ∧ IA 40 (7 + dp) = 0 then 1 else 0) rfl ?_
  rw [if_neg hI]
  refine pm_if rfl (fun z => absurd rfl z) (fun _ => ?_)
  refine pm_go 2 (pc1 := 36) rfl ?_
  refine pm_cV [.int 1] rfl rfl rfl rfl rfl rfl (Nat.zero_le _) (Nat.zero_le _) m_must ?_
  rw [if_neg (by decide)]
  refine pm_go 1 (pc1 := 40) rfl ?_
  refine pm_getf rfl rfl rfl ?_
  refine pm_if rfl (fun _ => ?_) (fun z => absurd rfl z)
  refine pm_go 1 (pc1 := 49) rfl ?_
  refine pm_getf rfl rfl rfl ?_
  refine pm_go 7 (pc1 := 60) rfl ?_
  rw [show (8 : Int32) * nI (7 + dp) + nI x = nI (8 * (7 + dp) + x) from ixm 8 (7 + dp) x, show nI (8 * (7 + dp) + x) - 4 = nI (8 * (7 + dp) + (x - 4)) from by rw [show 8 * (7 + dp) + (x - 4) = 8 * (7 + dp) + x - 4 by omega]; exact pk_sub (b := 4) (by omega)]
  refine pm_iald (j := 8 * (7 + dp) + (x - 4)) rfl rfl (cw_ti (by omega)) (by omega) ?_
  refine pm_nm (y := nI f) hF ?_
  refine pm_go 2 (pc1 := 63) rfl ?_
  refine pm_getf rfl rfl rfl ?_
  refine pm_go 1 (pc1 := 67) rfl ?_
  refine pm_iald (j := f) rfl rfl (cw_ti (by omega)) (by omega) ?_
  refine pm_nm (y := nI n) hC ?_
  refine pm_go 3 (pc1 := 73) rfl ?_
  have hend : ∀ {rv : Int32}, rv = (if rwN kk n then 1 else 0) → pm_X (pm_call (d + 3)) jm_147 10 (some .int) (d + 3) 0 0 102 [(4, .int (nI n)), (3, .int (nI f)), (2, .int (nI (7 + dp))), (0, .ref 36), (1, .int (nI x))] [.int rv] 0 0 (N, HM IA LA RA SC dr tl p 0 rd) r h' := by
    intro rv hrv
    refine pm_go 2 (pc1 := 106) rfl ?_
    subst hrv
    by_cases hR : rwN kk n
    · rw [if_pos hR] at kx ⊢
      refine pm_if rfl (fun z => absurd (show (1 : Int32) = 0 from z) (by decide)) (fun _ => ?_)
      refine pm_go 4 (pc1 := 118) rfl ?_
      rw [show nI n - 2 = nI (sgN kk n) from by unfold sgN; rw [if_pos hR]; exact pk_sub (b := 2) hR.1]
      refine pm_go 5 (pc1 := 127) rfl ?_
      exact pm_lv [(0, .ref 36), (1, .int (nI x)), (3, .int (nI f)), (4, .int (nI n)), (5, .int 1), (6, .int (nI (sgN kk n))), (7, .int (nI (sgN kk n))), (8, .int (nI 0))] rfl rfl kx
    · rw [if_neg hR] at kx ⊢
      refine pm_if rfl (fun _ => ?_) (fun z => absurd rfl z)
      refine pm_go 1 (pc1 := 118) rfl ?_
      rw [show nI n = nI (sgN kk n) from by unfold sgN; rw [if_neg hR]] at kx ⊢
      refine pm_go 5 (pc1 := 127) rfl ?_
      exact pm_lv [(0, .ref 36), (1, .int (nI x)), (3, .int (nI f)), (4, .int (nI (sgN kk n))), (5, .int 0), (6, .int (nI (sgN kk n))), (7, .int (nI (sgN kk n))), (8, .int (nI 0))] rfl rfl kx
  refine pm_icmp rfl (fun z => ?_) (fun z => ?_)
  · have h1 : n ≤ 1 := (nI_leI (by omega) (by omega)).mp (show nI n ≤ nI 1 from z)
    exact pm_go 1 (pc1 := 102) rfl (hend (by rw [if_neg (fun h => absurd h.1 (by omega))]))
  · have h1 : ¬ n ≤ 1 := fun h => z (show nI n ≤ nI 1 from (nI_leI (by omega) (by omega)).mpr h)
    refine pm_go 1 (pc1 := 77) rfl ?_
    refine pm_getf rfl rfl rfl ?_
    refine pm_go 7 (pc1 := 89) rfl ?_
    rw [show (8 : Int32) * nI f + nI n = nI (8 * f + n) from ixm 8 f n, show nI (8 * f + n) - 2 = nI (8 * f + (n - 2)) from by rw [show 8 * f + (n - 2) = 8 * f + n - 2 by omega]; exact pk_sub (b := 2) (by omega)]
    refine pm_lald (j := 8 * f + (n - 2)) rfl rfl (cw_ti (by omega)) (by omega) ?_
    obtain ⟨o1, o2, o3⟩ := hO (n - 2) (by omega)
    rw [o1]
    refine pm_cS [.long (opL (kk (n - 2)) (vv (n - 2)))] rfl rfl rfl rfl rfl (Nat.zero_le _) (Nat.zero_le _) (m_kindOf (by omega) o3) ?_
    refine pm_go 1 (pc1 := 94) rfl ?_
    refine pm_icmp rfl (fun z => ?_) (fun z => ?_)
    · exact pm_go 1 (pc1 := 102) rfl (hend (by rw [if_neg (fun h => z (show nI (kk (n - 2)) = 3 by rw [h.2]; rfl))]))
    · have h3 : kk (n - 2) = 3 := (nI_eqI (b := 3) (by omega) (by omega)).mp (Classical.not_not.mp z)
      exact pm_go 2 (pc1 := 102) rfl (hend (by rw [if_pos ⟨by omega, h3⟩]))
end MS
