/-! THE MODEL: taking a form in; reading ops and forms -/
def tkO (IA : Nat → Nat → Int32) (s b c pl : Nat) : Nat → Nat → Int32 := va_up (va_up (va_up IA 50 (upd (IA 50) s (nI (pl + 1)))) 45 (upd (IA 45) (8 * b + c) (nI (150 * s + pl)))) 44 (upd (IA 44) b (nI (c + 1)))
def tkK (IA : Nat → Nat → Int32) (s t c pl : Nat) : Nat → Nat → Int32 := va_up (va_up (va_up IA 50 (upd (IA 50) s (nI (pl + 1)))) 47 (upd (IA 47) (8 * t + c) (nI (150 * s + pl)))) 46 (upd (IA 46) t (nI (c + 1)))
/-- how many forms the block that is open (b) takes its next one behind -/
def cntB (IA : Nat → Nat → Int32) (s b : Nat) (i t c : Nat) : Prop := IA 40 b = nI i ∧ i < 64 ∧ IA 43 b = nI t ∧ t < 64 ∧ c ≤ 8 ∧ (0 < i → IA 44 b = nI c) ∧ (i = 0 → IA 46 (64 * s + t) = nI c)
theorem upd_at (g : Nat → Int32) (k : Nat) (x : Int32) : upd g k x k = x := by
  show (if k = k then x else g k) = x
  rw [if_pos rfl]
section MF
variable {IA : Nat → Nat → Int32} {LA : Nat → Nat → Int64} {RA : Nat → Nat → Option Nat} {SC : Nat → Nat → Int32} {dr : Nat} {tl : Nat → va_E} {N d m p b dp s i t c pl : Nat} {rd : Nat → Int32}
theorem HM_st {k n : Nat} {g : Nat → Int32} (e : ∀ (IA SC : Nat → Nat → Int32), va_up (HC IA LA RA SC dr tl) k (.inl (0, n, .inl g)) = HC (va_up IA k g) LA RA SC dr tl) (h38 : k ≠ 38) (h54 : k ≠ 54) : va_up (HM IA LA RA SC dr tl p b rd) k (.inl (0, n, .inl g)) = HM (va_up IA k g) LA RA SC dr tl p b rd := by
  refine (e _ _).trans ?_
  refine congrArg (fun z => HC z LA RA _ dr tl) ?_
  rw [va_up_comm _ (Ne.symm h54), va_up_comm _ (Ne.symm h38)]
  have e38 : va_up IA k g 38 = IA 38 := va_up_ne _ _ (Ne.symm h38)
  rw [e38]
theorem HM_fold {IA1 IA2 : Nat → Nat → Int32} (h : ∀ k, k ≠ 38 → k ≠ 54 → IA1 k = IA2 k) (h38 : IA1 38 = upd (IA2 38) 1 (nI p)) (h54 : IA1 54 = rd) : HC IA1 LA RA (va_up SC 36 (upd (SC 36) 19 (nI b))) dr tl = HM IA2 LA RA SC dr tl p b rd := by
  refine congrArg (fun z => HC z LA RA _ dr tl) ?_
  funext k
  by_cases e54 : k = 54
  · subst e54; rw [h54]; rfl
  by_cases e38 : k = 38
  · subst e38; rw [h38]; rfl
  show IA1 k = (if k = 54 then rd else if k = 38 then _ else IA2 k)
  rw [if_neg e54, if_neg e38, h k e38 e54]
theorem m_isFull (hs : s < 2) (hD : IA 39 s = nI dp) (hd : dp ≤ 6) (hC : cntB IA s (7 * s + dp) i t c) : pm_call (d + 1) 119 [.ref 36, .int (nI s)] (N, HC IA LA RA SC dr tl) (.inl (some (.int (if c = 8 then 1 else 0)))) (N, HC IA LA RA SC dr tl) 0 0 := by
  obtain ⟨c1, c2, c3, c4, c5, c6, c7⟩ := hC
  refine pm_callX jm_119 [(0, .ref 36), (1, .int (nI s))] rfl rfl rfl ?_
  refine pm_go 4 (pc1 := 5) rfl ?_
  refine pm_getf rfl rfl rfl ?_
  refine pm_go 1 (pc1 := 9) rfl ?_
  refine pm_iald (j := s) rfl rfl (cw_ti (by omega)) (by omega) ?_
  refine pm_nm (y := nI dp) hD ?_
  refine pm_go 1 (pc1 := 11) rfl ?_
  rw [show (7 : Int32) * nI s + nI dp = nI (7 * s + dp) from ixm 7 s dp]
  refine pm_go 2 (pc1 := 13) rfl ?_
  refine pm_getf rfl rfl rfl ?_
  refine pm_go 1 (pc1 := 17) rfl ?_
  refine pm_iald (j := 7 * s + dp) rfl rfl (cw_ti (by omega)) (by omega) ?_
  refine pm_nm (y := nI i) c1 ?_
  have hend : ∀ lv, pm_X (pm_call d) jm_119 3 (some .boolean) d 0 0 46 lv [.int (nI c)] 0 0 (N, HC IA LA RA SC dr tl) (.inl (some (.int (if c = 8 then 1 else 0)))) (N, HC IA LA RA SC dr tl) := by
    intro lv
    refine pm_go 1 (pc1 := 48) rfl ?_
    by_cases h8 : c = 8
    · rw [if_pos h8, h8]
      refine pm_icmp rfl (fun z => absurd rfl z) (fun _ => ?_)
      refine pm_go 2 (pc1 := 56) rfl ?_
      exact pm_iret rfl rfl rfl rfl
    · rw [if_neg h8]
      refine pm_icmp rfl (fun _ => ?_) (fun z => absurd ((nI_eqI (b := 8) (by omega) (by omega)).mp (Classical.not_not.mp z)) h8)
      refine pm_go 1 (pc1 := 56) rfl ?_
      exact pm_iret rfl rfl rfl rfl
  refine pm_if rfl (fun z => ?_) (fun z => ?_)
  · have hi0 : i = 0 := by have := (nI_leI (b := 0) (by omega) (by omega)).mp z; omega
    refine pm_go 1 (pc1 := 31) rfl ?_
    refine pm_getf rfl rfl rfl ?_
    refine pm_go 4 (pc1 := 39) rfl ?_
    refine pm_getf rfl rfl rfl ?_
    refine pm_go 1 (pc1 := 43) rfl ?_
    refine pm_iald (j := 7 * s + dp) rfl rfl (cw_ti (by omega)) (by omega) ?_
    refine pm_nm (y := nI t) c3 ?_
    refine pm_go 1 (pc1 := 45) rfl ?_
    rw [show (64 : Int32) * nI s + nI t = nI (64 * s + t) from ixm 64 s t]
    refine pm_iald (j := 64 * s + t) rfl rfl (cw_ti (by omega)) (by omega) ?_
    exact pm_nm (y := nI c) (c7 hi0) (hend _)
  · have hi0 : 0 < i := Classical.byContradiction (fun h => z ((nI_leI (b := 0) (by omega) (by omega)).mpr (by omega)))
    refine pm_go 1 (pc1 := 22) rfl ?_
    refine pm_getf rfl rfl rfl ?_
    refine pm_go 1 (pc1 := 26) rfl ?_
    refine pm_iald (j := 7 * s + dp) rfl rfl (cw_ti (by omega)) (by omega) ?_
    refine pm_nm (y := nI c) (c6 hi0) ?_
    exact pm_go 1 (pc1 := 46) rfl (hend _)
theorem m_take_pre {r : pm_V} {h' : pm_H} (hs : s < 2) (hD : IA 39 s = nI dp) (hd : dp ≤ 6) (hI : IA 40 (7 * s + dp) = nI i) (hi : i < 64) (hP : IA 50 s = nI pl) (hpl : pl < 150)
    (kO : 0 < i → pm_X (pm_call d) jm_118 5 (some .int) d 0 0 44 [(0, .ref 36), (1, .int (nI s)), (2, .int (nI (150 * s + pl))), (3, .int (nI (7 * s + dp)))] [] 0 0 (N, HC (va_up IA 50 (upd (IA 50) s (nI (pl + 1)))) LA RA SC dr tl) r h')
    (kK : i = 0 → pm_X (pm_call d) jm_118 5 (some .int) d 0 0 80 [(0, .ref 36), (1, .int (nI s)), (2, .int (nI (150 * s + pl))), (3, .int (nI (7 * s + dp)))] [] 0 0 (N, HC (va_up IA 50 (upd (IA 50) s (nI (pl + 1)))) LA RA SC dr tl) r h') : pm_call (d + 1) 118 [.ref 36, .int (nI s)] (N, HC IA LA RA SC dr tl) r h' 0 0 := by
  refine pm_callX jm_118 [(0, .ref 36), (1, .int (nI s))] rfl rfl rfl ?_
  refine pm_go 4 (pc1 := 6) rfl ?_
  refine pm_getf rfl rfl rfl ?_
  refine pm_go 1 (pc1 := 10) rfl ?_
  refine pm_iald (j := s) rfl rfl (cw_ti (by omega)) (by omega) ?_
  refine pm_nm (y := nI pl) hP ?_
  refine pm_go 1 (pc1 := 12) rfl ?_
  rw [show (150 : Int32) * nI s + nI pl = nI (150 * s + pl) from ixm 150 s pl]
  refine pm_go 2 (pc1 := 14) rfl ?_
  refine pm_getf rfl rfl rfl ?_
  refine pm_go 2 (pc1 := 19) rfl ?_
  refine pm_iald (j := s) rfl rfl (cw_ti (by omega)) (by omega) ?_
  refine pm_nm (y := nI pl) hP ?_
  refine pm_go 2 (pc1 := 22) rfl ?_
  rw [nI_1]
  refine pm_iastU (j := s) rfl rfl (cw_ti (by omega)) (by omega) (hi_50 ..) ?_
  refine pm_go 4 (pc1 := 28) rfl ?_
  refine pm_getf rfl rfl rfl ?_
  refine pm_go 1 (pc1 := 32) rfl ?_
  refine pm_iald (j := s) rfl rfl (cw_ti (by omega)) (by omega) ?_
  refine pm_nm (y := nI dp) hD ?_
  refine pm_go 1 (pc1 := 34) rfl ?_
  rw [show (7 : Int32) * nI s + nI dp = nI (7 * s + dp) from ixm 7 s dp]
  refine pm_go 2 (pc1 := 36) rfl ?_
  refine pm_getf rfl rfl rfl ?_
  refine pm_go 1 (pc1 := 40) rfl ?_
  refine pm_iald (j := 7 * s + dp) rfl rfl (cw_ti (by omega)) (by omega) ?_
  refine pm_nm (y := nI i) hI ?_
  refine pm_if rfl (fun z => pm_lv [(0, .ref 36), (1, .int (nI s)), (2, .int (nI (150 * s + pl))), (3, .int (nI (7 * s + dp)))] rfl rfl (kK (by have := (nI_leI (b := 0) (by omega) (by omega)).mp z; omega))) (fun z => pm_lv [(0, .ref 36), (1, .int (nI s)), (2, .int (nI (150 * s + pl))), (3, .int (nI (7 * s + dp)))] rfl rfl (kO (Classical.byContradiction (fun h => z ((nI_leI (b := 0) (by omega) (by omega)).mpr (by omega))))))
theorem m_takeO (hs : s < 2) (hD : IA 39 s = nI dp) (hd : dp ≤ 6) (hC : cntB IA s (7 * s + dp) i t c) (hi0 : 0 < i) (hc8 : c < 8) (hP : IA 50 s = nI pl) (hpl : pl < 150) : pm_call (d + 1) 118 [.ref 36, .int (nI s)] (N, HC IA LA RA SC dr tl) (.inl (some (.int (nI (c + 4))))) (N, HC (tkO IA s (7 * s + dp) c pl) LA RA SC dr tl) 0 0 := by
  obtain ⟨c1, c2, c3, c4, c5, c6, c7⟩ := hC
  refine m_take_pre hs hD hd c1 c2 hP hpl (fun _ => ?_) (fun h => absurd h (by omega))
  refine pm_go 1 (pc1 := 45) rfl ?_
  refine pm_getf rfl rfl rfl ?_
  refine pm_go 4 (pc1 := 53) rfl ?_
  refine pm_getf rfl rfl rfl ?_
  refine pm_go 1 (pc1 := 57) rfl ?_
  refine pm_iald (j := 7 * s + dp) rfl rfl (cw_ti (by omega)) (by omega) ?_
  refine pm_nm (y := nI c) (c6 hi0) ?_
  refine pm_go 2 (pc1 := 60) rfl ?_
  rw [show (8 : Int32) * nI (7 * s + dp) + nI c = nI (8 * (7 * s + dp) + c) from ixm 8 (7 * s + dp) c]
  refine pm_iastU (j := 8 * (7 * s + dp) + c) rfl rfl (cw_ti (by omega)) (by omega) (hi_45 ..) ?_
  refine pm_go 1 (pc1 := 62) rfl ?_
  refine pm_getf rfl rfl rfl ?_
  refine pm_go 2 (pc1 := 67) rfl ?_
  refine pm_iald (j := 7 * s + dp) rfl rfl (cw_ti (by omega)) (by omega) ?_
  refine pm_nm (y := nI c) (c6 hi0) ?_
  refine pm_go 2 (pc1 := 70) rfl ?_
  rw [nI_1]
  refine pm_iastU (j := 7 * s + dp) rfl rfl (cw_ti (by omega)) (by omega) (hi_44 ..) ?_
  refine pm_go 1 (pc1 := 72) rfl ?_
  refine pm_getf rfl rfl rfl ?_
  refine pm_go 1 (pc1 := 76) rfl ?_
  refine pm_iald (j := 7 * s + dp) rfl rfl (cw_ti (by omega)) (by omega) ?_
  refine pm_nm (y := nI (c + 1)) (upd_at _ _ _) ?_
  refine pm_go 2 (pc1 := 79) rfl ?_
  rw [show nI (c + 1) + 3 = nI (c + 4) from nI_add (c + 1) 3]
  exact pm_iret rfl rfl rfl rfl
theorem m_takeK (hs : s < 2) (hD : IA 39 s = nI dp) (hd : dp ≤ 6) (hC : cntB IA s (7 * s + dp) i t c) (hi0 : i = 0) (hc8 : c < 8) (hP : IA 50 s = nI pl) (hpl : pl < 150) : pm_call (d + 1) 118 [.ref 36, .int (nI s)] (N, HC IA LA RA SC dr tl) (.inl (some (.int (nI (c + 4))))) (N, HC (tkK IA s (64 * s + t) c pl) LA RA SC dr tl) 0 0 := by
  obtain ⟨c1, c2, c3, c4, c5, c6, c7⟩ := hC
  refine m_take_pre hs hD hd c1 c2 hP hpl (fun h => absurd h (by omega)) (fun _ => ?_)
  refine pm_go 4 (pc1 := 85) rfl ?_
  refine pm_getf rfl rfl rfl ?_
  refine pm_go 1 (pc1 := 89) rfl ?_
  refine pm_iald (j := 7 * s + dp) rfl rfl (cw_ti (by omega)) (by omega) ?_
  refine pm_nm (y := nI t) c3 ?_
  refine pm_go 1 (pc1 := 91) rfl ?_
  rw [show (64 : Int32) * nI s + nI t = nI (64 * s + t) from ixm 64 s t]
  refine pm_go 2 (pc1 := 94) rfl ?_
  refine pm_getf rfl rfl rfl ?_
  refine pm_go 4 (pc1 := 103) rfl ?_
  refine pm_getf rfl rfl rfl ?_
  refine pm_go 1 (pc1 := 108) rfl ?_
  refine pm_iald (j := 64 * s + t) rfl rfl (cw_ti (by omega)) (by omega) ?_
  refine pm_nm (y := nI c) (c7 hi0) ?_
  refine pm_go 2 (pc1 := 111) rfl ?_
  rw [show (8 : Int32) * nI (64 * s + t) + nI c = nI (8 * (64 * s + t) + c) from ixm 8 (64 * s + t) c]
  refine pm_iastU (j := 8 * (64 * s + t) + c) rfl rfl (cw_ti (by omega)) (by omega) (hi_47 ..) ?_
  refine pm_go 1 (pc1 := 113) rfl ?_
  refine pm_getf rfl rfl rfl ?_
  refine pm_go 2 (pc1 := 119) rfl ?_
  refine pm_iald (j := 64 * s + t) rfl rfl (cw_ti (by omega)) (by omega) ?_
  refine pm_nm (y := nI c) (c7 hi0) ?_
  refine pm_go 2 (pc1 := 122) rfl ?_
  rw [nI_1]
  refine pm_iastU (j := 64 * s + t) rfl rfl (cw_ti (by omega)) (by omega) (hi_46 ..) ?_
  refine pm_go 1 (pc1 := 124) rfl ?_
  refine pm_getf rfl rfl rfl ?_
  refine pm_go 1 (pc1 := 129) rfl ?_
  refine pm_iald (j := 64 * s + t) rfl rfl (cw_ti (by omega)) (by omega) ?_
  refine pm_nm (y := nI (c + 1)) (upd_at _ _ _) ?_
  refine pm_go 2 (pc1 := 132) rfl ?_
  rw [show nI (c + 1) + 3 = nI (c + 4) from nI_add (c + 1) 3]
  exact pm_iret rfl rfl rfl rfl
theorem m_op_t {kx v : Int32} {x : Int64} {q : Nat} (hb : b ≤ 1) (b' : Nat) (he : b' = if ¬ kx = 0 ∧ opOk kx.toInt v.toInt then b else 1) (hO : pm_call (d + 3) 111 [.int kx, .int v] (N, HM IA LA RA SC dr tl q b' rd) (.inl (some (.long x))) (N, HM IA LA RA SC dr tl q b' rd) 0 0) :
    pm_X (pm_call (d + 3)) jm_143 3 (some .long) (d + 3) 0 0 45 [(0, .ref 36), (1, .int kx)] [.int v] 0 0 (N, HM IA LA RA SC dr tl q b rd) (.inl (some (.long x))) (N, HM IA LA RA SC dr tl q b' rd) := by
  have hend : ∀ y : Int32, (if y = 0 then 1 else b) = b' → pm_X (pm_call (d + 3)) jm_143 3 (some .long) (d + 3) 0 0 64 [(2, .int v), (0, .ref 36), (1, .int kx)] [.int y, .ref 36] 0 0 (N, HM IA LA RA SC dr tl q b rd) (.inl (some (.long x))) (N, HM IA LA RA SC dr tl q b' rd) := by
    intro y hy
    refine pm_cV [.int y] rfl rfl rfl rfl rfl rfl (Nat.zero_le _) (Nat.zero_le _) m_must ?_
    rw [hy]
    refine pm_go 2 (pc1 := 69) rfl ?_
    refine pm_cS [.int kx, .int v] rfl rfl rfl rfl rfl (Nat.zero_le _) (Nat.zero_le _) hO ?_
    exact pm_lret rfl rfl rfl rfl
  refine pm_go 3 (pc1 := 48) rfl ?_
  refine pm_if rfl (fun z => ?_) (fun z => ?_)
  · refine pm_go 1 (pc1 := 64) rfl ?_
    refine hend 0 ?_
    rw [if_pos rfl, he, if_neg (fun h => h.1 z)]
  · refine pm_go 2 (pc1 := 53) rfl ?_
    refine pm_cS [.int kx, .int v] rfl rfl rfl rfl rfl (Nat.zero_le _) (Nat.zero_le _) m_isOp ?_
    by_cases ho : opOk kx.toInt v.toInt
    · rw [if_pos ho]
      refine pm_if rfl (fun z => absurd (show (1 : Int32) = 0 from z) (by decide)) (fun _ => ?_)
      refine pm_go 2 (pc1 := 64) rfl ?_
      refine hend 1 ?_
      rw [if_neg (by decide), he, if_pos ⟨z, ho⟩]
    · rw [if_neg ho]
      refine pm_if rfl (fun _ => ?_) (fun z => absurd rfl z)
      refine pm_go 1 (pc1 := 64) rfl ?_
      refine hend 0 ?_
      rw [if_pos rfl, he, if_neg (fun h => ho h.2)]
theorem m_op_tX {kx v : Int32} {q : Nat} (hb : b ≤ 1) (hX : b = 1 ∨ ¬ (¬ kx = 0 ∧ opOk kx.toInt v.toInt)) :
    ∃ x, pm_X (pm_call (d + 3)) jm_143 3 (some .long) (d + 3) 0 0 45 [(0, .ref 36), (1, .int kx)] [.int v] 0 0 (N, HM IA LA RA SC dr tl q b rd) (.inl (some (.long x))) (N, HM IA LA RA SC dr tl q 1 rd) := by
  obtain ⟨x, hx⟩ := m_opOfA (d := d + 2) (h := (N, HM IA LA RA SC dr tl q 1 rd)) (k := kx) (v := v)
  refine ⟨x, m_op_t hb 1 ?_ hx⟩
  rcases hX with h | h
  · rw [h]; split <;> rfl
  · rw [if_neg h]
theorem m_opIn (hS : SC 36 2 = nI m) (hm : m ≤ 64) (hp : p ≤ 32 * m) {k v q : Nat} (hE : pOp (gR IA) m p = some (k, v, q)) : pm_call (d + 4) 143 [.ref 36] (N, HM IA LA RA SC dr tl p 0 rd) (.inl (some (.long (opL k v)))) (N, HM IA LA RA SC dr tl q 0 rd) 0 0 := by
  unfold pOp at hE
  split at hE
  · rename_i h1
    refine pm_callX jm_143 [(0, .ref 36)] rfl rfl rfl ?_
    refine pm_go 2 (pc1 := 2) rfl ?_
    refine pm_cV [.int (nI 1)] rfl rfl rfl rfl rfl rfl (Nat.zero_le _) (Nat.zero_le _) (m_getBits hS hm (by omega) h1) ?_
    rw [rdN_1]
    split at hE
    · rename_i hb
      rw [if_pos hb]
      split at hE
      · rename_i v' q' h2
        cases hE
        refine pm_go 1 (pc1 := 6) rfl ?_
        refine pm_icmp rfl (fun z => absurd rfl z) (fun _ => ?_)
        refine pm_go 3 (pc1 := 13) rfl ?_
        refine pm_cV [.int (nI 8)] rfl rfl rfl rfl rfl rfl (Nat.zero_le _) (Nat.zero_le _) (m_chunksV hS hm (by omega) (by omega) h1 h2) ?_
        refine pm_cS [.int (nI 0), .int (nI v)] rfl rfl rfl rfl rfl (Nat.zero_le _) (Nat.zero_le _) (m_opOf (k := 0) (by omega) (fun _ => rfl) (fun h => absurd h (by decide)) (gC_b h2).1) ?_
        exact pm_lret rfl rfl rfl rfl
      · cases hE
    · rename_i hb
      rw [if_neg hb]
      refine pm_go 1 (pc1 := 6) rfl ?_
      refine pm_icmp rfl (fun _ => ?_) (fun z => absurd (show ¬ nI 0 = 1 by decide) z)
      refine pm_go 2 (pc1 := 22) rfl ?_
      split at hE
      · rename_i h4
        have hk8 : rdN (gR IA) (p + 1) 3 < 8 := rdN_lt _ _ 3
        refine pm_cV [.int (nI 3)] rfl rfl rfl rfl rfl rfl (Nat.zero_le _) (Nat.zero_le _) (m_getBits hS hm (by omega) h4) ?_
        generalize rdN (gR IA) (p + 1) 3 = k0 at hE hk8
        refine pm_go 1 (pc1 := 26) rfl ?_
        split at hE
        · rename_i h3
          cases hE
          subst h3
          refine pm_go 2 (pc1 := 28) rfl ?_
          refine pm_icmp rfl (fun z => absurd (show nI 3 = 1 from z) (by decide)) (fun _ => ?_)
          refine pm_go 2 (pc1 := 33) rfl ?_
          refine pm_icmp rfl (fun _ => ?_) (fun z => absurd (show ¬ nI 3 = 2 by decide) z)
          refine pm_go 1 (pc1 := 45) rfl ?_
          exact pm_lv [(0, .ref 36), (1, .int (nI 3))] rfl rfl (m_op_t (by omega) 0 (by rw [if_pos ⟨by decide, by decide⟩]) (m_opOf (k := 3) (vn := 0) (by omega) (fun h => absurd rfl h) (fun _ => rfl) (by omega)))
        · split at hE
          · rename_i h3 h12
            split at hE
            · rename_i v' q' h5
              split at hE
              · rename_i hv
                cases hE
                obtain ⟨g1, g2, g3⟩ := gC_b h5
                have hgo : pm_X (pm_call (d + 3)) jm_143 3 (some .long) (d + 3) 0 0 38 [(1, .int (nI k)), (0, .ref 36)] [.int (nI 5), .ref 36] 0 0 (N, HM IA LA RA SC dr tl (p + 1 + 3) 0 rd) (.inl (some (.long (opL k v)))) (N, HM IA LA RA SC dr tl q 0 rd) := by
                  refine pm_cV [.int (nI 5)] rfl rfl rfl rfl rfl rfl (Nat.zero_le _) (Nat.zero_le _) (m_chunksV hS hm (by omega) (by omega) h4 h5) ?_
                  refine pm_go 1 (pc1 := 45) rfl ?_
                  refine pm_lv [(0, .ref 36), (1, .int (nI k))] rfl rfl (m_op_t (by omega) 0 ?_ (m_opOf (by omega) (fun _ => rfl) (fun h => absurd h h3) g1))
                  rw [if_pos ⟨fun z => absurd ((nI_eqI (b := 0) (by omega) (by omega)).mp z) (by omega), by rw [cw_ti (by omega), cw_ti g1]; omega⟩]
                refine pm_go 2 (pc1 := 28) rfl ?_
                refine pm_icmp rfl (fun _ => pm_go 2 (pc1 := 38) rfl hgo) (fun z => ?_)
                have hk2 : k = 2 := h12.resolve_left (fun h => z (show nI k = 1 by rw [h]; rfl))
                refine pm_go 2 (pc1 := 33) rfl ?_
                exact pm_icmp rfl (fun z => absurd (show nI k = 2 by rw [hk2]; rfl) z) (fun _ => pm_go 2 (pc1 := 38) rfl hgo)
              · cases hE
            · cases hE
          · cases hE
      · cases hE
  · cases hE
theorem m_opInX (hS : SC 36 2 = nI m) (hm : m ≤ 64) (hp : p ≤ 32 * m) (hE : pOp (gR IA) m p = none) : ∃ x q, q ≤ 32 * m ∧ pm_call (d + 4) 143 [.ref 36] (N, HM IA LA RA SC dr tl p 0 rd) (.inl (some (.long x))) (N, HM IA LA RA SC dr tl q 1 rd) 0 0 := by
  unfold pOp at hE
  by_cases h1 : p + 1 ≤ 32 * m
  · rw [if_pos h1] at hE
    have hpre : ∀ {r : pm_V} {h' : pm_H}, pm_X (pm_call (d + 3)) jm_143 3 (some .long) (d + 3) 0 0 5 [(0, .ref 36)] [.int (nI (if sb (gR IA) p = true then 1 else 0))] 0 0 (N, HM IA LA RA SC dr tl (p + 1) 0 rd) r h' → pm_call (d + 4) 143 [.ref 36] (N, HM IA LA RA SC dr tl p 0 rd) r h' 0 0 := by
      intro r h' hk
      refine pm_callX jm_143 [(0, .ref 36)] rfl rfl rfl ?_
      refine pm_go 2 (pc1 := 2) rfl ?_
      refine pm_cV [.int (nI 1)] rfl rfl rfl rfl rfl rfl (Nat.zero_le _) (Nat.zero_le _) (m_getBits hS hm (by omega) h1) ?_
      rw [rdN_1]
      exact hk
    by_cases hb : sb (gR IA) p = true
    · rw [if_pos hb] at hE hpre
      cases h2 : gC (gR IA) m 8 (p + 1) with
      | some z => rw [h2] at hE; cases hE
      | none =>
        obtain ⟨v1, q1, hq1, hX1⟩ := m_chunksX (d := d + 1) (LA := LA) (RA := RA) (dr := dr) (tl := tl) (N := N) (rd := rd) (w := 8) hS hm (by omega) (by omega) h1 h2
        obtain ⟨x, hx⟩ := m_opOfA (d := d + 2) (h := (N, HM IA LA RA SC dr tl q1 1 rd)) (k := 0) (v := v1)
        refine ⟨x, q1, hq1, hpre ?_⟩
        refine pm_go 1 (pc1 := 6) rfl ?_
        refine pm_icmp rfl (fun z => absurd rfl z) (fun _ => ?_)
        refine pm_go 3 (pc1 := 13) rfl ?_
        refine pm_cV [.int (nI 8)] rfl rfl rfl rfl rfl rfl (Nat.zero_le _) (Nat.zero_le _) hX1 ?_
        refine pm_cS [.int 0, .int v1] rfl rfl rfl rfl rfl (Nat.zero_le _) (Nat.zero_le _) hx ?_
        exact pm_lret rfl rfl rfl rfl
    · rw [if_neg hb] at hE hpre
      have hpre2 : ∀ {r : pm_V} {h' : pm_H}, pm_X (pm_call (d + 3)) jm_143 3 (some .long) (d + 3) 0 0 22 [(0, .ref 36)] [.int (nI 3), .ref 36] 0 0 (N, HM IA LA RA SC dr tl (p + 1) 0 rd) r h' → pm_call (d + 4) 143 [.ref 36] (N, HM IA LA RA SC dr tl p 0 rd) r h' 0 0 := by
        intro r h' hk
        refine hpre ?_
        refine pm_go 1 (pc1 := 6) rfl ?_
        refine pm_icmp rfl (fun _ => ?_) (fun z => absurd (show ¬ nI 0 = 1 by decide) z)
        exact pm_go 2 (pc1 := 22) rfl hk
      by_cases h4 : p + 1 + 3 ≤ 32 * m
      · rw [if_pos h4] at hE
        have hk8 : rdN (gR IA) (p + 1) 3 < 8 := rdN_lt _ _ 3
        have hgb := m_getBits (IA := IA) (LA := LA) (RA := RA) (SC := SC) (dr := dr) (tl := tl) (N := N) (d := d + 2) (p := p + 1) (b := 0) (rd := rd) (n := 3) hS hm (by omega) h4
        generalize rdN (gR IA) (p + 1) 3 = k0 at hE hk8 hgb
        have hpre3 : ∀ {r : pm_V} {h' : pm_H}, pm_X (pm_call (d + 3)) jm_143 3 (some .long) (d + 3) 0 0 26 [(0, .ref 36), (1, .int (nI k0))] [] 0 0 (N, HM IA LA RA SC dr tl (p + 1 + 3) 0 rd) r h' → pm_call (d + 4) 143 [.ref 36] (N, HM IA LA RA SC dr tl p 0 rd) r h' 0 0 := by
          intro r h' hk
          refine hpre2 ?_
          refine pm_cV [.int (nI 3)] rfl rfl rfl rfl rfl rfl (Nat.zero_le _) (Nat.zero_le _) hgb ?_
          refine pm_go 1 (pc1 := 26) rfl ?_
          exact pm_lv [(0, .ref 36), (1, .int (nI k0))] rfl rfl hk
        by_cases h12 : k0 = 1 ∨ k0 = 2
        · rw [if_neg (by omega), if_pos h12] at hE
          have hpre4 : ∀ {r : pm_V} {h' : pm_H}, pm_X (pm_call (d + 3)) jm_143 3 (some .long) (d + 3) 0 0 38 [(0, .ref 36), (1, .int (nI k0))] [.int (nI 5), .ref 36] 0 0 (N, HM IA LA RA SC dr tl (p + 1 + 3) 0 rd) r h' → pm_call (d + 4) 143 [.ref 36] (N, HM IA LA RA SC dr tl p 0 rd) r h' 0 0 := by
            intro r h' hk
            refine hpre3 ?_
            refine pm_go 2 (pc1 := 28) rfl ?_
            refine pm_icmp rfl (fun _ => pm_go 2 (pc1 := 38) rfl hk) (fun z => ?_)
            have hk2 : k0 = 2 := h12.resolve_left (fun h => z (show nI k0 = 1 by rw [h]; rfl))
            refine pm_go 2 (pc1 := 33) rfl ?_
            exact pm_icmp rfl (fun z => absurd (show nI k0 = 2 by rw [hk2]; rfl) z) (fun _ => pm_go 2 (pc1 := 38) rfl hk)
          cases h5 : gC (gR IA) m 5 (p + 1 + 3) with
          | none =>
            obtain ⟨v1, q1, hq1, hX1⟩ := m_chunksX (d := d + 1) (LA := LA) (RA := RA) (dr := dr) (tl := tl) (N := N) (rd := rd) (w := 5) hS hm (by omega) (by omega) h4 h5
            obtain ⟨x, hx⟩ := m_op_tX (d := d) (N := N) (IA := IA) (LA := LA) (RA := RA) (SC := SC) (dr := dr) (tl := tl) (rd := rd) (b := 1) (kx := nI k0) (v := v1) (q := q1) (by omega) (.inl rfl)
            refine ⟨x, q1, hq1, hpre4 ?_⟩
            refine pm_cV [.int (nI 5)] rfl rfl rfl rfl rfl rfl (Nat.zero_le _) (Nat.zero_le _) hX1 ?_
            exact pm_go 1 (pc1 := 45) rfl hx
          | some z =>
            obtain ⟨v1, q1⟩ := z
            rw [h5] at hE
            dsimp only at hE
            obtain ⟨g1, g2, g3⟩ := gC_b h5
            have hv : ¬ (k0 ≤ v1 ∧ v1 ≤ 31) := fun h => by rw [if_pos h] at hE; cases hE
            obtain ⟨x, hx⟩ := m_op_tX (d := d) (N := N) (IA := IA) (LA := LA) (RA := RA) (SC := SC) (dr := dr) (tl := tl) (rd := rd) (b := 0) (kx := nI k0) (v := nI v1) (q := q1) (by omega) (.inr (fun h => by have h2 := h.2; rw [cw_ti (by omega), cw_ti g1] at h2; omega))
            refine ⟨x, q1, g3, hpre4 ?_⟩
            refine pm_cV [.int (nI 5)] rfl rfl rfl rfl rfl rfl (Nat.zero_le _) (Nat.zero_le _) (m_chunksV hS hm (by omega) (by omega) h4 h5) ?_
            exact pm_go 1 (pc1 := 45) rfl hx
        · have h3 : ¬ k0 = 3 := fun h => by rw [if_pos h] at hE; cases hE
          obtain ⟨x, hx⟩ := m_op_tX (d := d) (N := N) (IA := IA) (LA := LA) (RA := RA) (SC := SC) (dr := dr) (tl := tl) (rd := rd) (b := 0) (kx := nI k0) (v := 0) (q := p + 1 + 3) (by omega) (.inr (fun h => by
            have h1 := h.1
            have h2 := h.2
            rw [cw_ti (by omega)] at h2
            have h0 : ¬ k0 = 0 := fun e => h1 (show nI k0 = 0 by rw [e]; rfl)
            omega))
          refine ⟨x, p + 1 + 3, h4, hpre3 ?_⟩
          refine pm_go 2 (pc1 := 28) rfl ?_
          refine pm_icmp rfl (fun z => absurd ((nI_eqI (b := 1) (by omega) (by omega)).mp z) (by omega)) (fun _ => ?_)
          refine pm_go 2 (pc1 := 33) rfl ?_
          refine pm_icmp rfl (fun _ => ?_) (fun z => absurd ((nI_eqI (b := 2) (by omega) (by omega)).mp (Classical.not_not.mp z)) (by omega))
          exact pm_go 1 (pc1 := 45) rfl hx
      · obtain ⟨x, hx⟩ := m_op_tX (d := d) (N := N) (IA := IA) (LA := LA) (RA := RA) (SC := SC) (dr := dr) (tl := tl) (rd := rd) (b := 1) (kx := 0) (v := 0) (q := p + 1) (by omega) (.inl rfl)
        refine ⟨x, p + 1, h1, hpre2 ?_⟩
        refine pm_cV [.int (nI 3)] rfl rfl rfl rfl rfl rfl (Nat.zero_le _) (Nat.zero_le _) (m_getBitsX hS hm h1 (by omega) h4) ?_
        refine pm_go 3 (pc1 := 28) rfl ?_
        refine pm_icmp rfl (fun z => absurd (show (0 : Int32) = 1 from z) (by decide)) (fun _ => ?_)
        refine pm_go 2 (pc1 := 33) rfl ?_
        refine pm_icmp rfl (fun _ => ?_) (fun z => absurd (show ¬ (0 : Int32) = 2 by decide) z)
        refine pm_go 1 (pc1 := 45) rfl ?_
        exact pm_lv [(0, .ref 36), (1, .int 0)] rfl rfl hx
  · obtain ⟨x, hx⟩ := m_op_tX (d := d) (N := N) (IA := IA) (LA := LA) (RA := RA) (SC := SC) (dr := dr) (tl := tl) (rd := rd) (b := 1) (kx := 0) (v := 0) (q := p) (by omega) (.inl rfl)
    refine ⟨x, p, hp, ?_⟩
    refine pm_callX jm_143 [(0, .ref 36)] rfl rfl rfl ?_
    refine pm_go 2 (pc1 := 2) rfl ?_
    refine pm_cV [.int (nI 1)] rfl rfl rfl rfl rfl rfl (Nat.zero_le _) (Nat.zero_le _) (m_getBitsX hS hm hp (by omega) h1) ?_
    refine pm_go 1 (pc1 := 6) rfl ?_
    refine pm_icmp rfl (fun _ => ?_) (fun z => absurd (show ¬ (0 : Int32) = 1 by decide) z)
    refine pm_go 2 (pc1 := 22) rfl ?_
    refine pm_cV [.int (nI 3)] rfl rfl rfl rfl rfl rfl (Nat.zero_le _) (Nat.zero_le _) (m_getBitsX hS hm hp (by omega) (by omega)) ?_
    refine pm_go 3 (pc1 := 28) rfl ?_
    refine pm_icmp rfl (fun z => absurd (show (0 : Int32) = 1 from z) (by decide)) (fun _ => ?_)
    refine pm_go 2 (pc1 := 33) rfl ?_
    refine pm_icmp rfl (fun _ => ?_) (fun z => absurd (show ¬ (0 : Int32) = 2 by decide) z)
    refine pm_go 1 (pc1 := 45) rfl ?_
    exact pm_lv [(0, .ref 36), (1, .int 0)] rfl rfl hx
end MF
