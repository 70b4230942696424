/-! THE MODEL: reading a record by a form -/
def rP (rd : Nat → Int32) (nu : Nat → Nat) (k : Nat) : Prop := (0 < k → rd 0 = nI (nu 0)) ∧ ∀ i, 1 ≤ i → i < k → rd (2 + i) = nI (nu i)
def ixr (k : Nat) : Nat := if k = 0 then 0 else 2 + k
theorem rP_s {rd : Nat → Int32} {nu : Nat → Nat} {k v : Nat} (h : rP rd nu k) : rP (upd rd (ixr k) (nI v)) (va_up nu k v) (k + 1) := by
  refine ⟨fun _ => ?_, fun i i1 i2 => ?_⟩
  · by_cases e : k = 0
    · subst e
      show upd rd 0 (nI v) 0 = nI (if 0 = 0 then v else nu 0)
      rw [upd_at, if_pos rfl]
    · unfold ixr
      rw [if_neg e, upd_ne (by omega)]
      show rd 0 = nI (if 0 = k then v else nu 0)
      rw [if_neg (by omega)]
      exact h.1 (by omega)
  · by_cases e : i = k
    · subst e
      unfold ixr
      rw [if_neg (by omega), upd_at]
      show nI v = nI (if i = i then v else nu i)
      rw [if_pos rfl]
    · have : upd rd (ixr k) (nI v) (2 + i) = rd (2 + i) := by
        unfold ixr
        split
        · exact upd_ne (by omega)
        · exact upd_ne (by omega)
      rw [this]
      show rd (2 + i) = nI (if i = k then v else nu i)
      rw [if_neg e]
      exact h.2 i i1 (by omega)
/-- a form's ops, as both sides know them -/
abbrev fmB (n : Nat) (kk vv : Nat → Nat) : Prop := ∀ j, j < n → kk j ≤ 3 ∧ vv j < 2 ^ 31 ∧ (kk j = 1 → 1 ≤ vv j ∧ vv j ≤ 31) ∧ (kk j = 2 → 2 ≤ vv j ∧ vv j ≤ 31)
theorem fmB_N {n : Nat} {kk vv : Nat → Nat} (h : fmB n kk vv) : fmN (nF kk) (nF vv) n kk vv := fun k hk => ⟨rfl, rfl, (h k hk).1, (h k hk).2.1, (h k hk).2.2.1, (h k hk).2.2.2⟩
theorem sgN_3 {n : Nat} {kk : Nat → Nat} (h : fmOkN kk n) : ∀ i, i < sgN kk n → ¬ kk i = 3 := by
  intro i hi e
  have hle : sgN kk n ≤ n := sgN_le
  obtain ⟨h1, h2⟩ := h.2 i (by omega) e
  unfold sgN at hi
  by_cases hR : rwN kk n
  · rw [if_pos hR] at hi; omega
  · exact hR ⟨by omega, by rw [show n - 2 = i by omega]; exact e⟩
section MR
variable {IA : Nat → Nat → Int32} {LA : Nat → Nat → Int64} {RA : Nat → Nat → Option Nat} {SC : Nat → Nat → Int32} {dr : Nat} {tl : Nat → va_E} {N d m p b dp n f S l : Nat} {rd : Nat → Int32} {kk vv : Nat → Nat} {xv : Int32}
theorem m_byOpIn {k v x q : Nat} (hS : SC 36 2 = nI m) (hm : m ≤ 64) (hp : p ≤ 32 * m) (hk : k ≤ 3) (hk3 : ¬ k = 3) (hv : v < 2 ^ 31) (h1 : k = 1 → 1 ≤ v ∧ v ≤ 31) (h2 : k = 2 → 2 ≤ v ∧ v ≤ 31) (hE : pBy (gR IA) m k v p = some (x, q)) : pm_call (d + 3) 146 [.ref 36, .long (opL k v)] (N, HM IA LA RA SC dr tl p 0 rd) (.inl (some (.int (nI x)))) (N, HM IA LA RA SC dr tl q 0 rd) 0 0 := by
  refine pm_callX jm_146 [(0, .ref 36), (1, .long (opL k v))] rfl rfl rfl ?_
  refine pm_go 1 (pc1 := 1) rfl ?_
  refine pm_cS [.long (opL k v)] rfl rfl rfl rfl rfl (Nat.zero_le _) (Nat.zero_le _) (m_kindOf (by omega) hv) ?_
  unfold pBy at hE
  by_cases k1 : k = 1
  · rw [if_pos k1] at hE
    split at hE
    · rename_i hx
      cases hE
      refine pm_if rfl (fun _ => ?_) (fun z => absurd (fun e => absurd ((nI_eqI (b := 0) (by omega) (by omega)).mp e) (by omega)) z)
      refine pm_go 1 (pc1 := 15) rfl ?_
      refine pm_cS [.long (opL k v)] rfl rfl rfl rfl rfl (Nat.zero_le _) (Nat.zero_le _) (m_kindOf (by omega) hv) ?_
      refine pm_go 1 (pc1 := 19) rfl ?_
      refine pm_icmp rfl (fun z => absurd (show nI k = 1 by rw [k1]; rfl) z) (fun _ => ?_)
      refine pm_go 2 (pc1 := 24) rfl ?_
      refine pm_cS [.long (opL k v)] rfl rfl rfl rfl rfl (Nat.zero_le _) (Nat.zero_le _) (m_numberOf (by omega) hv) ?_
      refine pm_cV [.int (nI v)] rfl rfl rfl rfl rfl rfl (Nat.zero_le _) (Nat.zero_le _) (m_getBits hS hm (by have := h1 k1; omega) hx) ?_
      refine pm_go 1 (pc1 := 41) rfl ?_
      exact pm_iret rfl rfl rfl rfl
    · cases hE
  · rw [if_neg k1] at hE
    by_cases k2 : k = 2
    · rw [if_pos k2] at hE
      refine pm_if rfl (fun _ => ?_) (fun z => absurd (fun e => absurd ((nI_eqI (b := 0) (by omega) (by omega)).mp e) (by omega)) z)
      refine pm_go 1 (pc1 := 15) rfl ?_
      refine pm_cS [.long (opL k v)] rfl rfl rfl rfl rfl (Nat.zero_le _) (Nat.zero_le _) (m_kindOf (by omega) hv) ?_
      refine pm_go 1 (pc1 := 19) rfl ?_
      refine pm_icmp rfl (fun _ => ?_) (fun z => absurd ((nI_eqI (b := 1) (by omega) (by omega)).mp (Classical.not_not.mp z)) k1)
      refine pm_go 2 (pc1 := 35) rfl ?_
      refine pm_cS [.long (opL k v)] rfl rfl rfl rfl rfl (Nat.zero_le _) (Nat.zero_le _) (m_numberOf (by omega) hv) ?_
      refine pm_cV [.int (nI v)] rfl rfl rfl rfl rfl rfl (Nat.zero_le _) (Nat.zero_le _) (m_chunksV hS hm (h2 k2).1 (h2 k2).2 hp hE) ?_
      exact pm_iret rfl rfl rfl rfl
    · rw [if_neg k2] at hE
      cases hE
      have k0 : k = 0 := by omega
      subst k0
      refine pm_if rfl (fun z => absurd rfl z) (fun _ => ?_)
      refine pm_go 1 (pc1 := 8) rfl ?_
      refine pm_cS [.long (opL 0 v)] rfl rfl rfl rfl rfl (Nat.zero_le _) (Nat.zero_le _) (m_numberOf (by omega) hv) ?_
      refine pm_go 1 (pc1 := 41) rfl ?_
      exact pm_iret rfl rfl rfl rfl
theorem m_byOpInX {k v : Nat} (hS : SC 36 2 = nI m) (hm : m ≤ 64) (hp : p ≤ 32 * m) (hb : b ≤ 1) (hk : k ≤ 3) (hk3 : ¬ k = 3) (hv : v < 2 ^ 31) (h1 : k = 1 → 1 ≤ v ∧ v ≤ 31) (h2 : k = 2 → 2 ≤ v ∧ v ≤ 31) (hE : b = 1 ∨ pBy (gR IA) m k v p = none) : ∃ x q, q ≤ 32 * m ∧ pm_call (d + 3) 146 [.ref 36, .long (opL k v)] (N, HM IA LA RA SC dr tl p b rd) (.inl (some (.int x))) (N, HM IA LA RA SC dr tl q 1 rd) 0 0 := by
  unfold pBy at hE
  by_cases k1 : k = 1
  · rw [if_pos k1] at hE
    have hpre : ∀ {r : pm_V} {h' : pm_H}, pm_X (pm_call (d + 2)) jm_146 3 (some .int) (d + 2) 0 0 27 [(0, .ref 36), (1, .long (opL k v))] [.int (nI v), .ref 36] 0 0 (N, HM IA LA RA SC dr tl p b rd) r h' → pm_call (d + 3) 146 [.ref 36, .long (opL k v)] (N, HM IA LA RA SC dr tl p b rd) r h' 0 0 := by
      intro r h' hX
      refine pm_callX jm_146 [(0, .ref 36), (1, .long (opL k v))] rfl rfl rfl ?_
      refine pm_go 1 (pc1 := 1) rfl ?_
      refine pm_cS [.long (opL k v)] rfl rfl rfl rfl rfl (Nat.zero_le _) (Nat.zero_le _) (m_kindOf (by omega) hv) ?_
      refine pm_if rfl (fun _ => ?_) (fun z => absurd (fun e => absurd ((nI_eqI (b := 0) (by omega) (by omega)).mp e) (by omega)) z)
      refine pm_go 1 (pc1 := 15) rfl ?_
      refine pm_cS [.long (opL k v)] rfl rfl rfl rfl rfl (Nat.zero_le _) (Nat.zero_le _) (m_kindOf (by omega) hv) ?_
      refine pm_go 1 (pc1 := 19) rfl ?_
      refine pm_icmp rfl (fun z => absurd (show nI k = 1 by rw [k1]; rfl) z) (fun _ => ?_)
      refine pm_go 2 (pc1 := 24) rfl ?_
      refine pm_cS [.long (opL k v)] rfl rfl rfl rfl rfl (Nat.zero_le _) (Nat.zero_le _) (m_numberOf (by omega) hv) ?_
      exact hX
    by_cases hx : p + v ≤ 32 * m
    · have hb1 : b = 1 := hE.resolve_right (fun h => by rw [if_pos hx] at h; cases h)
      subst hb1
      refine ⟨nI (rdN (gR IA) p v), p + v, hx, hpre ?_⟩
      refine pm_cV [.int (nI v)] rfl rfl rfl rfl rfl rfl (Nat.zero_le _) (Nat.zero_le _) (m_getBits hS hm (by have := h1 k1; omega) hx) ?_
      refine pm_go 1 (pc1 := 41) rfl ?_
      exact pm_iret rfl rfl rfl rfl
    · refine ⟨0, p, hp, hpre ?_⟩
      refine pm_cV [.int (nI v)] rfl rfl rfl rfl rfl rfl (Nat.zero_le _) (Nat.zero_le _) (m_getBitsX hS hm hp (by have := h1 k1; omega) hx) ?_
      refine pm_go 1 (pc1 := 41) rfl ?_
      exact pm_iret rfl rfl rfl rfl
  · rw [if_neg k1] at hE
    by_cases k2 : k = 2
    · rw [if_pos k2] at hE
      have hpre : ∀ {r : pm_V} {h' : pm_H}, pm_X (pm_call (d + 2)) jm_146 3 (some .int) (d + 2) 0 0 38 [(0, .ref 36), (1, .long (opL k v))] [.int (nI v), .ref 36] 0 0 (N, HM IA LA RA SC dr tl p b rd) r h' → pm_call (d + 3) 146 [.ref 36, .long (opL k v)] (N, HM IA LA RA SC dr tl p b rd) r h' 0 0 := by
        intro r h' hX
        refine pm_callX jm_146 [(0, .ref 36), (1, .long (opL k v))] rfl rfl rfl ?_
        refine pm_go 1 (pc1 := 1) rfl ?_
        refine pm_cS [.long (opL k v)] rfl rfl rfl rfl rfl (Nat.zero_le _) (Nat.zero_le _) (m_kindOf (by omega) hv) ?_
        refine pm_if rfl (fun _ => ?_) (fun z => absurd (fun e => absurd ((nI_eqI (b := 0) (by omega) (by omega)).mp e) (by omega)) z)
        refine pm_go 1 (pc1 := 15) rfl ?_
        refine pm_cS [.long (opL k v)] rfl rfl rfl rfl rfl (Nat.zero_le _) (Nat.zero_le _) (m_kindOf (by omega) hv) ?_
        refine pm_go 1 (pc1 := 19) rfl ?_
        refine pm_icmp rfl (fun _ => ?_) (fun z => absurd ((nI_eqI (b := 1) (by omega) (by omega)).mp (Classical.not_not.mp z)) k1)
        refine pm_go 2 (pc1 := 35) rfl ?_
        refine pm_cS [.long (opL k v)] rfl rfl rfl rfl rfl (Nat.zero_le _) (Nat.zero_le _) (m_numberOf (by omega) hv) ?_
        exact hX
      by_cases hb1 : b = 1
      · subst hb1
        refine ⟨0, p, hp, hpre ?_⟩
        refine pm_cV [.int (nI v)] rfl rfl rfl rfl rfl rfl (Nat.zero_le _) (Nat.zero_le _) m_getChunksB ?_
        exact pm_iret rfl rfl rfl rfl
      · have hb0 : b = 0 := by omega
        subst hb0
        obtain ⟨v1, q1, hq1, hX1⟩ := m_chunksX (d := d) (LA := LA) (RA := RA) (dr := dr) (tl := tl) (N := N) (rd := rd) (w := v) hS hm (h2 k2).1 (h2 k2).2 hp (hE.resolve_left hb1)
        refine ⟨v1, q1, hq1, hpre ?_⟩
        refine pm_cV [.int (nI v)] rfl rfl rfl rfl rfl rfl (Nat.zero_le _) (Nat.zero_le _) hX1 ?_
        exact pm_iret rfl rfl rfl rfl
    · rw [if_neg k2] at hE
      have hb1 : b = 1 := hE.resolve_right (fun h => by cases h)
      subst hb1
      have k0 : k = 0 := by omega
      subst k0
      refine ⟨nI v, p, hp, ?_⟩
      refine pm_callX jm_146 [(0, .ref 36), (1, .long (opL 0 v))] rfl rfl rfl ?_
      refine pm_go 1 (pc1 := 1) rfl ?_
      refine pm_cS [.long (opL 0 v)] rfl rfl rfl rfl rfl (Nat.zero_le _) (Nat.zero_le _) (m_kindOf (by omega) hv) ?_
      refine pm_if rfl (fun z => absurd rfl z) (fun _ => ?_)
      refine pm_go 1 (pc1 := 8) rfl ?_
      refine pm_cS [.long (opL 0 v)] rfl rfl rfl rfl rfl (Nat.zero_le _) (Nat.zero_le _) (m_numberOf (by omega) hv) ?_
      refine pm_go 1 (pc1 := 41) rfl ?_
      exact pm_iret rfl rfl rfl rfl
/-- the loop over the single ops: one turn up to the call, and from behind it -/
theorem m_r1_s {k : Nat} {rw0 : Int32} {r : pm_V} {h' : pm_H} (hk : k < S) (hS : S ≤ n) (hn : n ≤ 8) (hf : f + 1 ≤ 300) (hO : opsAt (LA 48) (8 * f) n kk vv)
    (kx : pm_X (pm_call (d + 3)) jm_147 10 (some .int) (d + 3) 0 0 147 [(0, .ref 36), (1, .int xv), (3, .int (nI f)), (4, .int (nI n)), (5, .int rw0), (6, .int (nI S)), (7, .int (nI S)), (8, .int (nI k))] [.long (opL (kk k) (vv k)), .ref 36] 0 0 (N, HM IA LA RA SC dr tl p b rd) r h') :
    pm_X (pm_call (d + 3)) jm_147 10 (some .int) (d + 3) 0 0 127 [(0, .ref 36), (1, .int xv), (3, .int (nI f)), (4, .int (nI n)), (5, .int rw0), (6, .int (nI S)), (7, .int (nI S)), (8, .int (nI k))] [] 0 0 (N, HM IA LA RA SC dr tl p b rd) r h' := by
  refine pm_go 2 (pc1 := 131) rfl ?_
  refine pm_icmp rfl (fun z => absurd ((nI_leI (by omega) (by omega)).mp z) (by omega)) (fun _ => ?_)
  refine pm_go 2 (pc1 := 136) rfl ?_
  refine pm_getf rfl rfl rfl ?_
  refine pm_go 5 (pc1 := 146) rfl ?_
  rw [show (8 : Int32) * nI f + nI k = nI (8 * f + k) from ixm 8 f k]
  refine pm_lald (j := 8 * f + k) rfl rfl (cw_ti (by omega)) (by omega) ?_
  rw [(hO k (by omega)).1]
  exact kx
theorem m_r1_e {k : Nat} {rw0 v : Int32} {r : pm_V} {h' : pm_H} (hk : k < S) (hS : S ≤ n) (hn : n ≤ 8)
    (kx : pm_X (pm_call (d + 3)) jm_147 10 (some .int) (d + 3) 0 0 127 [(0, .ref 36), (1, .int xv), (3, .int (nI f)), (4, .int (nI n)), (5, .int rw0), (6, .int (nI S)), (7, .int (nI S)), (8, .int (nI (k + 1)))] [] 0 0 (N, HM IA LA RA SC dr tl p b (upd rd (ixr k) v)) r h') :
    pm_X (pm_call (d + 3)) jm_147 10 (some .int) (d + 3) 0 0 150 [(0, .ref 36), (1, .int xv), (3, .int (nI f)), (4, .int (nI n)), (5, .int rw0), (6, .int (nI S)), (7, .int (nI S)), (8, .int (nI k))] [.int v] 0 0 (N, HM IA LA RA SC dr tl p b rd) r h' := by
  have hend : ∀ {lv : List (Nat × Value)} {ix : Int32}, ix = nI (ixr k) → pm_ss 10 jm_147 1 (169, lv, [.int ix, .ref 54]) = some (171, lv, [.int v, .int ix, .ref 54]) → pm_ss 10 jm_147 2 (172, lv, []) = some (127, (8, .int (nI k + 1)) :: lv.filter (fun q => !(q.1 == 8) && !(q.1 + 1 == 8 && q.2.category == 2)), []) → pm_nd [(0, .ref 36), (1, .int xv), (3, .int (nI f)), (4, .int (nI n)), (5, .int rw0), (6, .int (nI S)), (7, .int (nI S)), (8, .int (nI k + 1))] = true → ([(0, .ref 36), (1, .int xv), (3, .int (nI f)), (4, .int (nI n)), (5, .int rw0), (6, .int (nI S)), (7, .int (nI S)), (8, .int (nI k + 1))] : List (Nat × Value)).map (fun q => pm_get ((8, .int (nI k + 1)) :: lv.filter (fun q => !(q.1 == 8) && !(q.1 + 1 == 8 && q.2.category == 2))) q.1) = ([(0, .ref 36), (1, .int xv), (3, .int (nI f)), (4, .int (nI n)), (5, .int rw0), (6, .int (nI S)), (7, .int (nI S)), (8, .int (nI k + 1))] : List (Nat × Value)).map (fun q => some q.2) → pm_X (pm_call (d + 3)) jm_147 10 (some .int) (d + 3) 0 0 169 lv [.int ix, .ref 54] 0 0 (N, HM IA LA RA SC dr tl p b rd) r h' := by
    intro lv ix hix e1 e2 e3 e4
    refine pm_go 1 e1 ?_
    refine pm_iastU (j := ixr k) rfl rfl (by rw [hix]; exact cw_ti (by unfold ixr; split <;> omega)) (by unfold ixr; split <;> omega) HM_read ?_
    refine pm_go 2 e2 ?_
    rw [← nI_1] at kx
    exact pm_lv _ e3 e4 kx
  refine pm_go 2 (pc1 := 153) rfl ?_
  refine pm_getf rfl rfl rfl ?_
  refine pm_go 1 (pc1 := 158) rfl ?_
  refine pm_if rfl (fun z => ?_) (fun z => ?_)
  · have h0 : ¬ k = 0 := fun e => z (show nI k = 0 by rw [e]; rfl)
    refine pm_go 3 (pc1 := 169) rfl ?_
    refine hend ?_ rfl rfl rfl rfl
    rw [show (2 : Int32) + nI k = nI (2 + k) from nI_add 2 k]
    unfold ixr
    rw [if_neg h0]
  · have h0 : k = 0 := (nI_eqI (b := 0) (by omega) (by omega)).mp (Classical.not_not.mp z)
    refine pm_go 2 (pc1 := 169) rfl ?_
    refine hend ?_ rfl rfl rfl rfl
    unfold ixr
    rw [if_pos h0]
    rfl
theorem m_r1_ok {p0 q2 : Nat} {rw0 : Int32} {nu0 nu2 : Nat → Nat} (hSz : SC 36 2 = nI m) (hm : m ≤ 64) (hp0 : p0 ≤ 32 * m) (hS : S ≤ n) (hn : n ≤ 8) (hf : f + 1 ≤ 300) (hO : opsAt (LA 48) (8 * f) n kk vv) (hB : fmB n kk vv) (h3 : ∀ i, i < S → ¬ kk i = 3) (hall : pSq (fun i => pBy (gR IA) m (kk i) (vv i)) 0 nu0 p0 S = some (nu2, q2)) : ∀ (j k p : Nat) (rd : Nat → Int32) (nu : Nat → Nat), k + j = S → pSq (fun i => pBy (gR IA) m (kk i) (vv i)) 0 nu0 p0 k = some (nu, p) → rP rd nu k →
    ∃ rd', rP rd' nu2 S ∧ ∀ (r : pm_V) (h' : pm_H), pm_X (pm_call (d + 3)) jm_147 10 (some .int) (d + 3) 0 0 178 [(0, .ref 36), (1, .int xv), (3, .int (nI f)), (4, .int (nI n)), (5, .int rw0), (6, .int (nI S)), (7, .int (nI S))] [] 0 0 (N, HM IA LA RA SC dr tl q2 0 rd') r h' → pm_X (pm_call (d + 3)) jm_147 10 (some .int) (d + 3) 0 0 127 [(0, .ref 36), (1, .int xv), (3, .int (nI f)), (4, .int (nI n)), (5, .int rw0), (6, .int (nI S)), (7, .int (nI S)), (8, .int (nI k))] [] 0 0 (N, HM IA LA RA SC dr tl p 0 rd) r h' := by
  intro j
  induction j with
  | zero =>
    intro k p rd nu hk hP hR
    have e : k = S := by omega
    subst e
    rw [hall] at hP
    cases hP
    refine ⟨rd, hR, fun r h' hX => ?_⟩
    refine pm_go 2 (pc1 := 131) rfl ?_
    refine pm_icmp rfl (fun _ => ?_) (fun z => absurd ((nI_leI (by omega) (by omega)).mpr (Nat.le_refl _)) z)
    exact pm_lv [(0, .ref 36), (1, .int xv), (3, .int (nI f)), (4, .int (nI n)), (5, .int rw0), (6, .int (nI k)), (7, .int (nI k))] rfl rfl hX
  | succ j ih =>
    intro k p rd nu hk hP hR
    obtain ⟨hb1, hb2, hb3, hb4⟩ := pSq_b (n0 := n) (m := m) (F := fun i => pBy (gR IA) m (kk i) (vv i)) (fun i p v q h1 h2 hp he => pBy_b hp (hB i (by omega)).2.1 (fun z => ((hB i (by omega)).2.2.1 z).2) he) hp0 (fun i hi => absurd hi (by omega)) k (by omega) hP
    obtain ⟨z, hz⟩ := pSq_pre hall (k + 1) (by omega)
    have hz2 := hz
    rw [pSq_s hP, Nat.zero_add] at hz2
    obtain ⟨e3, e4, e5, e6⟩ := hB k (by omega)
    cases h1 : pBy (gR IA) m (kk k) (vv k) p with
    | none => rw [h1] at hz2; cases hz2
    | some o =>
      obtain ⟨v1, q1⟩ := o
      rw [h1] at hz2
      cases hz2
      obtain ⟨rd', hR', hgo⟩ := ih (k + 1) q1 (upd rd (ixr k) (nI v1)) _ (by omega) hz (rP_s hR)
      refine ⟨rd', hR', fun r h' hX => ?_⟩
      refine m_r1_s (by omega) hS hn hf hO ?_
      refine pm_cV [.long (opL (kk k) (vv k))] rfl rfl rfl rfl rfl rfl (Nat.zero_le _) (Nat.zero_le _) (m_byOpIn hSz hm hb4 e3 (h3 k (by omega)) e4 e5 e6 h1) ?_
      exact m_r1_e (by omega) hS hn (hgo r h' hX)
theorem m_r1_B {rw0 : Int32} (hSz : SC 36 2 = nI m) (hm : m ≤ 64) (hS : S ≤ n) (hn : n ≤ 8) (hf : f + 1 ≤ 300) (hO : opsAt (LA 48) (8 * f) n kk vv) (hB : fmB n kk vv) (h3 : ∀ i, i < S → ¬ kk i = 3) : ∀ (j k p : Nat) (rd : Nat → Int32), k + j = S → p ≤ 32 * m →
    ∃ rd' q, q ≤ 32 * m ∧ ∀ (r : pm_V) (h' : pm_H), pm_X (pm_call (d + 3)) jm_147 10 (some .int) (d + 3) 0 0 178 [(0, .ref 36), (1, .int xv), (3, .int (nI f)), (4, .int (nI n)), (5, .int rw0), (6, .int (nI S)), (7, .int (nI S))] [] 0 0 (N, HM IA LA RA SC dr tl q 1 rd') r h' → pm_X (pm_call (d + 3)) jm_147 10 (some .int) (d + 3) 0 0 127 [(0, .ref 36), (1, .int xv), (3, .int (nI f)), (4, .int (nI n)), (5, .int rw0), (6, .int (nI S)), (7, .int (nI S)), (8, .int (nI k))] [] 0 0 (N, HM IA LA RA SC dr tl p 1 rd) r h' := by
  intro j
  induction j with
  | zero =>
    intro k p rd hk hp
    have e : k = S := by omega
    subst e
    refine ⟨rd, p, hp, fun r h' hX => ?_⟩
    refine pm_go 2 (pc1 := 131) rfl ?_
    refine pm_icmp rfl (fun _ => ?_) (fun z => absurd ((nI_leI (by omega) (by omega)).mpr (Nat.le_refl _)) z)
    exact pm_lv [(0, .ref 36), (1, .int xv), (3, .int (nI f)), (4, .int (nI n)), (5, .int rw0), (6, .int (nI k)), (7, .int (nI k))] rfl rfl hX
  | succ j ih =>
    intro k p rd hk hp
    obtain ⟨e3, e4, e5, e6⟩ := hB k (by omega)
    obtain ⟨x, q, hq, hX1⟩ := m_byOpInX (d := d) (b := 1) (LA := LA) (RA := RA) (dr := dr) (tl := tl) (N := N) (rd := rd) (IA := IA) hSz hm hp (by omega) e3 (h3 k (by omega)) e4 e5 e6 (.inl rfl)
    obtain ⟨rd', q', hq', hgo⟩ := ih (k + 1) q (upd rd (ixr k) x) (by omega) hq
    refine ⟨rd', q', hq', fun r h' hX => ?_⟩
    refine m_r1_s (by omega) hS hn hf hO ?_
    refine pm_cV [.long (opL (kk k) (vv k))] rfl rfl rfl rfl rfl rfl (Nat.zero_le _) (Nat.zero_le _) hX1 ?_
    exact m_r1_e (by omega) hS hn (hgo r h' hX)
theorem m_r1_bad {p0 : Nat} {rw0 : Int32} {nu0 : Nat → Nat} (hSz : SC 36 2 = nI m) (hm : m ≤ 64) (hp0 : p0 ≤ 32 * m) (hS : S ≤ n) (hn : n ≤ 8) (hf : f + 1 ≤ 300) (hO : opsAt (LA 48) (8 * f) n kk vv) (hB : fmB n kk vv) (h3 : ∀ i, i < S → ¬ kk i = 3) (hall : pSq (fun i => pBy (gR IA) m (kk i) (vv i)) 0 nu0 p0 S = none) : ∀ (j k p : Nat) (rd : Nat → Int32) (nu : Nat → Nat), k + j = S → pSq (fun i => pBy (gR IA) m (kk i) (vv i)) 0 nu0 p0 k = some (nu, p) →
    ∃ rd' q, q ≤ 32 * m ∧ ∀ (r : pm_V) (h' : pm_H), pm_X (pm_call (d + 3)) jm_147 10 (some .int) (d + 3) 0 0 178 [(0, .ref 36), (1, .int xv), (3, .int (nI f)), (4, .int (nI n)), (5, .int rw0), (6, .int (nI S)), (7, .int (nI S))] [] 0 0 (N, HM IA LA RA SC dr tl q 1 rd') r h' → pm_X (pm_call (d + 3)) jm_147 10 (some .int) (d + 3) 0 0 127 [(0, .ref 36), (1, .int xv), (3, .int (nI f)), (4, .int (nI n)), (5, .int rw0), (6, .int (nI S)), (7, .int (nI S)), (8, .int (nI k))] [] 0 0 (N, HM IA LA RA SC dr tl p 0 rd) r h' := by
  intro j
  induction j with
  | zero =>
    intro k p rd nu hk hP
    have e : k = S := by omega
    subst e
    rw [hall] at hP
    cases hP
  | succ j ih =>
    intro k p rd nu hk hP
    obtain ⟨hb1, hb2, hb3, hb4⟩ := pSq_b (n0 := n) (m := m) (F := fun i => pBy (gR IA) m (kk i) (vv i)) (fun i p v q h1 h2 hp he => pBy_b hp (hB i (by omega)).2.1 (fun z => ((hB i (by omega)).2.2.1 z).2) he) hp0 (fun i hi => absurd hi (by omega)) k (by omega) hP
    have hz := pSq_s hP
    rw [Nat.zero_add] at hz
    obtain ⟨e3, e4, e5, e6⟩ := hB k (by omega)
    cases h1 : pBy (gR IA) m (kk k) (vv k) p with
    | none =>
      obtain ⟨x, q, hq, hX1⟩ := m_byOpInX (d := d) (b := 0) (LA := LA) (RA := RA) (dr := dr) (tl := tl) (N := N) (rd := rd) (IA := IA) hSz hm hb4 (by omega) e3 (h3 k (by omega)) e4 e5 e6 (.inr h1)
      obtain ⟨rd', q', hq', hgo⟩ := m_r1_B (d := d) (LA := LA) (RA := RA) (dr := dr) (tl := tl) (N := N) (IA := IA) (xv := xv) (rw0 := rw0) hSz hm hS hn hf hO hB h3 j (k + 1) q (upd rd (ixr k) x) (by omega) hq
      refine ⟨rd', q', hq', fun r h' hX => ?_⟩
      refine m_r1_s (by omega) hS hn hf hO ?_
      refine pm_cV [.long (opL (kk k) (vv k))] rfl rfl rfl rfl rfl rfl (Nat.zero_le _) (Nat.zero_le _) hX1 ?_
      exact m_r1_e (by omega) hS hn (hgo r h' hX)
    | some o =>
      obtain ⟨v1, q1⟩ := o
      rw [h1] at hz
      obtain ⟨rd', q', hq', hgo⟩ := ih (k + 1) q1 (upd rd (ixr k) (nI v1)) _ (by omega) hz
      refine ⟨rd', q', hq', fun r h' hX => ?_⟩
      refine m_r1_s (by omega) hS hn hf hO ?_
      refine pm_cV [.long (opL (kk k) (vv k))] rfl rfl rfl rfl rfl rfl (Nat.zero_le _) (Nat.zero_le _) (m_byOpIn hSz hm hb4 e3 (h3 k (by omega)) e4 e5 e6 h1) ?_
      exact m_r1_e (by omega) hS hn (hgo r h' hX)
end MR
