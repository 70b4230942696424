/-! THE MODEL: reading a block's beginning and end -/
section ME2
variable {IA : Nat → Nat → Int32} {LA : Nat → Nat → Int64} {RA : Nat → Nat → Option Nat} {SC : Nat → Nat → Int32} {dr : Nat} {tl : Nat → va_E} {N d m p b dp : Nat} {rd : Nat → Int32}
theorem m_chunksV {w v q : Nat} (hS : SC 36 2 = nI m) (hm : m ≤ 64) (hw2 : 2 ≤ w) (hw : w ≤ 31) (hp : p ≤ 32 * m) (hg : gC (gR IA) m w p = some (v, q)) : pm_call (d + 2) 139 [.ref 36, .int (nI w)] (N, HM IA LA RA SC dr tl p 0 rd) (.inl (some (.int (nI v)))) (N, HM IA LA RA SC dr tl q 0 rd) 0 0 := by
  obtain ⟨v', q', b', hO, hX⟩ := m_getChunks (d := d) (LA := LA) (RA := RA) (dr := dr) (tl := tl) (N := N) (rd := rd) hS hm hw2 hw hp
  rw [hg] at hO
  obtain ⟨_, e1, e2, e3⟩ := hO
  rw [e1, e2, e3] at hX
  exact hX
theorem m_chunksX {w : Nat} (hS : SC 36 2 = nI m) (hm : m ≤ 64) (hw2 : 2 ≤ w) (hw : w ≤ 31) (hp : p ≤ 32 * m) (hg : gC (gR IA) m w p = none) : ∃ v q, q ≤ 32 * m ∧ pm_call (d + 2) 139 [.ref 36, .int (nI w)] (N, HM IA LA RA SC dr tl p 0 rd) (.inl (some (.int v))) (N, HM IA LA RA SC dr tl q 1 rd) 0 0 := by
  obtain ⟨v', q', b', hO, hX⟩ := m_getChunks (d := d) (LA := LA) (RA := RA) (dr := dr) (tl := tl) (N := N) (rd := rd) hS hm hw2 hw hp
  rw [hg] at hO
  obtain ⟨h1, e3⟩ := hO
  rw [e3] at hX
  exact ⟨v', q', h1, hX⟩
theorem m_zerosV (hS : SC 36 2 = nI m) (hm : m ≤ 64) (hp : p ≤ 32 * m) (hz : rdN (gR IA) p (zN p) = 0) : pm_call (d + 2) 140 [.ref 36] (N, HM IA LA RA SC dr tl p 0 rd) (.inl none) (N, HM IA LA RA SC dr tl (p + zN p) 0 rd) 0 0 := by
  obtain ⟨q, b, _, hc, hX⟩ := m_zeros (d := d) (LA := LA) (RA := RA) (dr := dr) (tl := tl) (N := N) (rd := rd) hS hm hp
  rcases hc with ⟨e1, e2, _⟩ | ⟨_, h⟩
  · rw [e1, e2] at hX
    exact hX
  · exact absurd hz h
theorem m_zerosX (hS : SC 36 2 = nI m) (hm : m ≤ 64) (hp : p ≤ 32 * m) (hz : ¬ rdN (gR IA) p (zN p) = 0) : ∃ q, q ≤ 32 * m ∧ pm_call (d + 2) 140 [.ref 36] (N, HM IA LA RA SC dr tl p 0 rd) (.inl none) (N, HM IA LA RA SC dr tl q 1 rd) 0 0 := by
  obtain ⟨q, b, hq, hc, hX⟩ := m_zeros (d := d) (LA := LA) (RA := RA) (dr := dr) (tl := tl) (N := N) (rd := rd) hS hm hp
  rcases hc with ⟨_, _, h⟩ | ⟨e1, _⟩
  · exact absurd h hz
  · rw [e1] at hX
    exact ⟨q, hq, hX⟩
abbrev enC (IA : Nat → Nat → Int32) (dp : Nat) (i w v : Int32) : Prop := (0 ≤ i ∧ i ≤ 63) ∧ (2 ≤ w ∧ w ≤ 8) ∧ ¬ v < 0 ∧ dp < 6 ∧ ¬ (0 < dp ∧ IA 40 (7 + dp) = 0)
theorem m_en_c {i w wo v : Int32} {r : pm_V} {h' : pm_H} (hD : IA 39 1 = nI dp) (hd : dp ≤ 6)
    (kt : enC IA dp i w v → pm_X (pm_call (d + 2)) jm_141 5 (some .int) (d + 2) 0 0 85 [(0, .ref 36), (1, .int i), (2, .int w), (3, .int wo), (4, .int v)] [.int 1, .ref 36] 0 0 (N, HM IA LA RA SC dr tl p b rd) r h')
    (kf : ¬ enC IA dp i w v → pm_X (pm_call (d + 2)) jm_141 5 (some .int) (d + 2) 0 0 85 [(0, .ref 36), (1, .int i), (2, .int w), (3, .int wo), (4, .int v)] [.int 0, .ref 36] 0 0 (N, HM IA LA RA SC dr tl p b rd) r h') :
    pm_X (pm_call (d + 2)) jm_141 5 (some .int) (d + 2) 0 0 35 [(0, .ref 36), (1, .int i), (2, .int w), (3, .int wo), (4, .int v)] [] 0 0 (N, HM IA LA RA SC dr tl p b rd) r h' := by
  have hf : ¬ enC IA dp i w v → pm_X (pm_call (d + 2)) jm_141 5 (some .int) (d + 2) 0 0 84 [(0, .ref 36), (1, .int i), (2, .int w), (3, .int wo), (4, .int v)] [.ref 36] 0 0 (N, HM IA LA RA SC dr tl p b rd) r h' := fun h => pm_go 1 (pc1 := 85) rfl (kf h)
  refine pm_go 4 (pc1 := 40) rfl ?_
  refine pm_cS [.int i, .int 0, .int 63] rfl rfl rfl rfl rfl (Nat.zero_le _) (Nat.zero_le _) m_within ?_
  by_cases h1 : 0 ≤ i ∧ i ≤ 63
  · rw [if_pos h1]
    refine pm_if rfl (fun z => absurd (show (1 : Int32) = 0 from z) (by decide)) (fun _ => ?_)
    refine pm_go 3 (pc1 := 50) rfl ?_
    refine pm_cS [.int w, .int 2, .int 8] rfl rfl rfl rfl rfl (Nat.zero_le _) (Nat.zero_le _) m_within ?_
    by_cases h2 : 2 ≤ w ∧ w ≤ 8
    · rw [if_pos h2]
      refine pm_if rfl (fun z => absurd (show (1 : Int32) = 0 from z) (by decide)) (fun _ => ?_)
      refine pm_go 1 (pc1 := 58) rfl ?_
      refine pm_if rfl (fun z => hf (fun h => h.2.2.1 z)) (fun h3 => ?_)
      refine pm_go 1 (pc1 := 62) rfl ?_
      refine pm_getf rfl rfl rfl ?_
      refine pm_go 1 (pc1 := 66) rfl ?_
      refine pm_iald (j := 1) rfl rfl rfl (by omega) ?_
      refine pm_nm (y := nI dp) hD ?_
      refine pm_go 1 (pc1 := 69) rfl ?_
      refine pm_icmp rfl (fun z => hf (fun h => absurd ((nI_leI (a := 6) (by omega) (by omega)).mp z) (by omega))) (fun z => ?_)
      have h4 : dp < 6 := by
        apply Classical.byContradiction
        intro h
        exact z ((nI_leI (a := 6) (by omega) (by omega)).mpr (by omega))
      refine pm_go 2 (pc1 := 74) rfl ?_
      refine pm_cV [.int (nI 1)] rfl rfl rfl rfl rfl rfl (Nat.zero_le _) (Nat.zero_le _) (m_inInfo (s := 1) (by omega) hD hd) ?_
      refine pm_nm (y := if 0 < dp ∧ IA 40 (7 + dp) = 0 then 1 else 0) rfl ?_
      by_cases h5 : 0 < dp ∧ IA 40 (7 + dp) = 0
      · rw [if_pos h5]
        refine pm_if rfl (fun _ => hf (fun h => h.2.2.2.2 h5)) (fun z => absurd (show ¬ (1 : Int32) = 0 by decide) z)
      · rw [if_neg h5]
        refine pm_if rfl (fun z => absurd rfl z) (fun _ => ?_)
        refine pm_go 2 (pc1 := 85) rfl ?_
        exact kt ⟨h1, h2, h3, h4, h5⟩
    · rw [if_neg h2]
      refine pm_if rfl (fun _ => hf (fun h => h2 h.2.1)) (fun z => absurd rfl z)
  · rw [if_neg h1]
    refine pm_if rfl (fun _ => hf (fun h => h1 h.1)) (fun z => absurd rfl z)
theorem m_en_bad {i w wo v : Int32} (hD : IA 39 1 = nI dp) (hd : dp ≤ 6) (hb : b ≤ 1) (hX : ¬ enC IA dp i w v ∨ b = 1) :
    pm_X (pm_call (d + 2)) jm_141 5 (some .int) (d + 2) 0 0 35 [(0, .ref 36), (1, .int i), (2, .int w), (3, .int wo), (4, .int v)] [] 0 0 (N, HM IA LA RA SC dr tl p b rd) (.inl (some (.int 0))) (N, HM IA LA RA SC dr tl p 1 rd) := by
  have hend : ∀ x : Int32, (if x = 0 then 1 else b) = 1 → pm_X (pm_call (d + 2)) jm_141 5 (some .int) (d + 2) 0 0 85 [(0, .ref 36), (1, .int i), (2, .int w), (3, .int wo), (4, .int v)] [.int x, .ref 36] 0 0 (N, HM IA LA RA SC dr tl p b rd) (.inl (some (.int 0))) (N, HM IA LA RA SC dr tl p 1 rd) := by
    intro x hx
    refine pm_cV [.int x] rfl rfl rfl rfl rfl rfl (Nat.zero_le _) (Nat.zero_le _) m_must ?_
    rw [hx]
    refine pm_go 1 (pc1 := 89) rfl ?_
    refine pm_getf rfl rfl rfl ?_
    refine pm_if rfl (fun z => absurd (show nI 1 = 0 from z) (by decide)) (fun _ => ?_)
    refine pm_go 1 (pc1 := 96) rfl ?_
    exact pm_iret rfl rfl rfl rfl
  exact m_en_c hD hd (fun h => hend 1 (by rw [if_neg (by decide)]; exact hX.resolve_left (fun z => z h))) (fun _ => hend 0 (by rw [if_pos rfl]))
theorem m_en_17 {i w : Int32} (hS : SC 36 2 = nI m) (hm : m ≤ 64) (hp : p ≤ 32 * m) (hD : IA 39 1 = nI dp) (hd : dp ≤ 6) (hb : b ≤ 1) (hX : ¬ (0 ≤ i ∧ i ≤ 63) ∨ ¬ (2 ≤ w ∧ w ≤ 8) ∨ b = 1 ∨ (dp = 6 ∨ 0 < dp ∧ IA 40 (7 + dp) = 0) ∨ gL (gR IA) m p = none) :
    ∃ q, q ≤ 32 * m ∧ pm_X (pm_call (d + 2)) jm_141 5 (some .int) (d + 2) 0 0 17 [(0, .ref 36), (1, .int i), (2, .int w)] [] 0 0 (N, HM IA LA RA SC dr tl p b rd) (.inl (some (.int 0))) (N, HM IA LA RA SC dr tl q 1 rd) := by
  have hpre : ∀ {r : pm_V} {h' : pm_H}, pm_X (pm_call (d + 2)) jm_141 5 (some .int) (d + 2) 0 0 30 [(0, .ref 36), (1, .int i), (2, .int w), (3, .int (nI (p / 32)))] [.int (nI 32), .ref 36] 0 0 (N, HM IA LA RA SC dr tl p b rd) r h' → pm_X (pm_call (d + 2)) jm_141 5 (some .int) (d + 2) 0 0 17 [(0, .ref 36), (1, .int i), (2, .int w)] [] 0 0 (N, HM IA LA RA SC dr tl p b rd) r h' := by
    intro r h' hk
    refine pm_go 1 (pc1 := 18) rfl ?_
    refine pm_getf rfl rfl rfl ?_
    refine pm_go 1 (pc1 := 22) rfl ?_
    refine pm_iald (j := 1) rfl rfl rfl (by omega) ?_
    refine pm_nm (y := nI p) rfl ?_
    refine pm_go 2 (pc1 := 26) rfl ?_
    rw [cw_di (by omega)]
    refine pm_go 3 (pc1 := 30) rfl ?_
    exact pm_lv [(0, .ref 36), (1, .int i), (2, .int w), (3, .int (nI (p / 32)))] rfl rfl hk
  by_cases hpx : p + 32 ≤ 32 * m
  · refine ⟨p + 32, hpx, hpre ?_⟩
    refine pm_cV [.int (nI 32)] rfl rfl rfl rfl rfl rfl (Nat.zero_le _) (Nat.zero_le _) (m_getBits hS hm (by omega) hpx) ?_
    refine pm_go 1 (pc1 := 35) rfl ?_
    refine pm_lv [(0, .ref 36), (1, .int i), (2, .int w), (3, .int (nI (p / 32))), (4, .int (nI (rdN (gR IA) p 32)))] rfl rfl (m_en_bad hD hd hb ?_)
    rcases hX with h | h | h | h | h
    · exact .inl (fun z => h z.1)
    · exact .inl (fun z => h z.2.1)
    · exact .inr h
    · exact .inl (fun z => h.elim (fun e => absurd z.2.2.2.1 (by omega)) (fun e => z.2.2.2.2 e))
    · refine .inl (fun z => z.2.2.1 (nI_neg ?_ (rdN_lt _ _ _)))
      unfold gL at h
      rw [if_pos hpx] at h
      split at h
      · cases h
      · omega
  · refine ⟨p, hp, hpre ?_⟩
    refine pm_cV [.int (nI 32)] rfl rfl rfl rfl rfl rfl (Nat.zero_le _) (Nat.zero_le _) (m_getBitsX hS hm hp (by omega) hpx) ?_
    refine pm_go 1 (pc1 := 35) rfl ?_
    exact pm_lv [(0, .ref 36), (1, .int i), (2, .int w), (3, .int (nI (p / 32))), (4, .int 0)] rfl rfl (m_en_bad (b := 1) hD hd (by omega) (.inr rfl))
theorem nI_rng {x a b : Nat} (hx : x < 2 ^ 31) (ha : a < 2 ^ 31) (hb : b < 2 ^ 31) : (nI a ≤ nI x ∧ nI x ≤ nI b) ↔ (a ≤ x ∧ x ≤ b) := by
  rw [nI_leI ha hx, nI_leI hx hb]
/-- the read array after a block's beginning -/
abbrev enR (rd : Nat → Int32) (i w l : Nat) : Nat → Int32 := upd (upd (upd rd 0 (nI i)) 1 (nI w)) 2 (nI l)
theorem m_enterIn {i w l q mm : Nat} (hS : SC 36 2 = nI m) (hm : m ≤ 64) (hp : p ≤ 32 * m) (hD : IA 39 1 = nI dp) (hd : dp < 6) (hI : ¬ (0 < dp ∧ IA 40 (7 + dp) = 0)) (hE : pE (gR IA) m p = some (i, w, l, q)) (hG : IA 46 (64 + i) = nI mm) (hmm : mm ≤ 8) :
    pm_call (d + 3) 141 [.ref 36] (N, HM IA LA RA SC dr tl p 0 rd) (.inl (some (.int 3))) (N, HM (bgIA IA 1 dp i (nI w) (nI (q / 32 - 1)) mm) LA RA SC dr tl q 0 (enR rd i w l)) 0 0 := by
  obtain ⟨p1, p2, h1, h2, hi, hw2, hw8, hz, hl⟩ := pE_some hE
  obtain ⟨b1, b2, b3⟩ := gC_b h1
  obtain ⟨c1, c2, c3⟩ := gC_b h2
  obtain ⟨e1, e2, e3⟩ := gL_b hl
  unfold gL at hl
  split at hl
  case isFalse => cases hl
  rename_i hpx
  split at hl
  case isFalse => cases hl
  rename_i hlt
  cases hl
  refine pm_callX jm_141 [(0, .ref 36)] rfl rfl rfl ?_
  refine pm_go 2 (pc1 := 3) rfl ?_
  refine pm_cV [.int (nI 6)] rfl rfl rfl rfl rfl rfl (Nat.zero_le _) (Nat.zero_le _) (m_chunksV hS hm (by omega) (by omega) hp h1) ?_
  refine pm_go 3 (pc1 := 9) rfl ?_
  refine pm_cV [.int (nI 4)] rfl rfl rfl rfl rfl rfl (Nat.zero_le _) (Nat.zero_le _) (m_chunksV hS hm (by omega) (by omega) b3 h2) ?_
  refine pm_go 2 (pc1 := 14) rfl ?_
  refine pm_cV [] rfl rfl rfl rfl rfl rfl (Nat.zero_le _) (Nat.zero_le _) (m_zerosV hS hm c3 hz) ?_
  refine pm_go 1 (pc1 := 18) rfl ?_
  refine pm_getf rfl rfl rfl ?_
  refine pm_go 1 (pc1 := 22) rfl ?_
  refine pm_iald (j := 1) rfl rfl rfl (by omega) ?_
  refine pm_nm (y := nI (p2 + zN p2)) rfl ?_
  refine pm_go 2 (pc1 := 26) rfl ?_
  rw [cw_di (by omega), show (p2 + zN p2) / 32 = (p2 + zN p2 + 32) / 32 - 1 by omega]
  refine pm_go 3 (pc1 := 30) rfl ?_
  refine pm_cV [.int (nI 32)] rfl rfl rfl rfl rfl rfl (Nat.zero_le _) (Nat.zero_le _) (m_getBits hS hm (by omega) hpx) ?_
  refine pm_go 1 (pc1 := 35) rfl ?_
  refine pm_lv [(0, .ref 36), (1, .int (nI i)), (2, .int (nI w)), (3, .int (nI ((p2 + zN p2 + 32) / 32 - 1))), (4, .int (nI (rdN (gR IA) (p2 + zN p2) 32)))] rfl rfl (m_en_c hD (by omega) (fun _ => ?_) (fun h => absurd ⟨(nI_rng (a := 0) (b := 63) (by omega) (by omega) (by omega)).mpr (by omega), (nI_rng (a := 2) (b := 8) (by omega) (by omega) (by omega)).mpr (by omega), nI_pos hlt, hd, hI⟩ h))
  refine pm_cV [.int 1] rfl rfl rfl rfl rfl rfl (Nat.zero_le _) (Nat.zero_le _) m_must ?_
  rw [if_neg (by decide)]
  refine pm_go 1 (pc1 := 89) rfl ?_
  refine pm_getf rfl rfl rfl ?_
  refine pm_if rfl (fun _ => ?_) (fun z => absurd rfl z)
  refine pm_go 5 (pc1 := 102) rfl ?_
  refine pm_cV [.int (nI 1), .int (nI i), .int (nI w), .int (nI ((p2 + zN p2 + 32) / 32 - 1))] rfl rfl rfl rfl rfl rfl (Nat.zero_le _) (Nat.zero_le _) (m_begin (s := 1) (by omega) hD hd hi hG hmm) ?_
  refine pm_go 1 (pc1 := 106) rfl ?_
  refine pm_getf rfl rfl rfl ?_
  refine pm_go 2 (pc1 := 111) rfl ?_
  refine pm_iastU (j := 0) rfl rfl rfl (by omega) (hi_54 ..) ?_
  refine pm_go 1 (pc1 := 113) rfl ?_
  refine pm_getf rfl rfl rfl ?_
  refine pm_go 2 (pc1 := 118) rfl ?_
  refine pm_iastU (j := 1) rfl rfl rfl (by omega) (hi_54 ..) ?_
  refine pm_go 1 (pc1 := 120) rfl ?_
  refine pm_getf rfl rfl rfl ?_
  refine pm_go 2 (pc1 := 126) rfl ?_
  refine pm_iastU (j := 2) rfl rfl rfl (by omega) (hi_54 ..) ?_
  refine pm_go 1 (pc1 := 128) rfl ?_
  refine pm_iret rfl rfl rfl ?_
  simp only [va_up_self, va_up2]
  refine congrArg (fun z => (N, HC z LA RA _ dr tl)) ?_
  funext k
  by_cases h54 : k = 54
  · subst h54; rfl
  by_cases h38 : k = 38
  · subst h38; rfl
  by_cases h39 : k = 39
  · subst h39; rfl
  by_cases h40 : k = 40
  · subst h40; rfl
  by_cases h41 : k = 41
  · subst h41; rfl
  by_cases h42 : k = 42
  · subst h42; rfl
  by_cases h43 : k = 43
  · subst h43; rfl
  by_cases h44 : k = 44
  · subst h44; rfl
  by_cases h45 : k = 45
  · subst h45; rfl
  simp only [bgIA, bgI0, va_up, if_neg h54, if_neg h38, if_neg h39, if_neg h40, if_neg h41, if_neg h42, if_neg h43, if_neg h44, if_neg h45]
theorem m_enterInX (hS : SC 36 2 = nI m) (hm : m ≤ 64) (hp : p ≤ 32 * m) (hD : IA 39 1 = nI dp) (hd : dp ≤ 6) (hX : (dp = 6 ∨ 0 < dp ∧ IA 40 (7 + dp) = 0) ∨ pE (gR IA) m p = none) :
    ∃ q, q ≤ 32 * m ∧ pm_call (d + 3) 141 [.ref 36] (N, HM IA LA RA SC dr tl p 0 rd) (.inl (some (.int 0))) (N, HM IA LA RA SC dr tl q 1 rd) 0 0 := by
  have hpre : ∀ {v1 v2 : Int32} {q1 b1 q2 b2 : Nat} {r : pm_V} {h' : pm_H}, pm_call (d + 2) 139 [.ref 36, .int (nI 6)] (N, HM IA LA RA SC dr tl p 0 rd) (.inl (some (.int v1))) (N, HM IA LA RA SC dr tl q1 b1 rd) 0 0 → pm_call (d + 2) 139 [.ref 36, .int (nI 4)] (N, HM IA LA RA SC dr tl q1 b1 rd) (.inl (some (.int v2))) (N, HM IA LA RA SC dr tl q2 b2 rd) 0 0 → pm_X (pm_call (d + 2)) jm_141 5 (some .int) (d + 2) 0 0 14 [(0, .ref 36), (1, .int v1), (2, .int v2)] [.ref 36] 0 0 (N, HM IA LA RA SC dr tl q2 b2 rd) r h' → pm_call (d + 3) 141 [.ref 36] (N, HM IA LA RA SC dr tl p 0 rd) r h' 0 0 := by
    intro v1 v2 q1 b1 q2 b2 r h' hX1 hX2 hk
    refine pm_callX jm_141 [(0, .ref 36)] rfl rfl rfl ?_
    refine pm_go 2 (pc1 := 3) rfl ?_
    refine pm_cV [.int (nI 6)] rfl rfl rfl rfl rfl rfl (Nat.zero_le _) (Nat.zero_le _) hX1 ?_
    refine pm_go 3 (pc1 := 9) rfl ?_
    refine pm_cV [.int (nI 4)] rfl rfl rfl rfl rfl rfl (Nat.zero_le _) (Nat.zero_le _) hX2 ?_
    refine pm_go 2 (pc1 := 14) rfl ?_
    exact pm_lv [(0, .ref 36), (1, .int v1), (2, .int v2)] rfl rfl hk
  have hbad : ∀ {v1 v2 : Int32} {q1 b1 q2 : Nat}, q2 ≤ 32 * m → pm_call (d + 2) 139 [.ref 36, .int (nI 6)] (N, HM IA LA RA SC dr tl p 0 rd) (.inl (some (.int v1))) (N, HM IA LA RA SC dr tl q1 b1 rd) 0 0 → pm_call (d + 2) 139 [.ref 36, .int (nI 4)] (N, HM IA LA RA SC dr tl q1 b1 rd) (.inl (some (.int v2))) (N, HM IA LA RA SC dr tl q2 1 rd) 0 0 → ∃ q, q ≤ 32 * m ∧ pm_call (d + 3) 141 [.ref 36] (N, HM IA LA RA SC dr tl p 0 rd) (.inl (some (.int 0))) (N, HM IA LA RA SC dr tl q 1 rd) 0 0 := by
    intro v1 v2 q1 b1 q2 hq2 hX1 hX2
    obtain ⟨q, hq, hX⟩ := m_en_17 (d := d) (LA := LA) (RA := RA) (dr := dr) (tl := tl) (N := N) (rd := rd) (p := q2) (b := 1) (i := v1) (w := v2) hS hm hq2 hD hd (by omega) (.inr (.inr (.inl rfl)))
    refine ⟨q, hq, hpre hX1 hX2 ?_⟩
    refine pm_cV [] rfl rfl rfl rfl rfl rfl (Nat.zero_le _) (Nat.zero_le _) (m_zerosB (by omega)) ?_
    exact hX
  cases h1 : gC (gR IA) m 6 p with
  | none =>
    obtain ⟨v1, q1, hq1, hX1⟩ := m_chunksX (d := d) (LA := LA) (RA := RA) (dr := dr) (tl := tl) (N := N) (rd := rd) (w := 6) hS hm (by omega) (by omega) hp h1
    exact hbad hq1 hX1 m_getChunksB
  | some z =>
    obtain ⟨i, p1⟩ := z
    obtain ⟨b1, b2, b3⟩ := gC_b h1
    have hX1 := m_chunksV (d := d) (LA := LA) (RA := RA) (dr := dr) (tl := tl) (N := N) (rd := rd) (w := 6) hS hm (by omega) (by omega) hp h1
    cases h2 : gC (gR IA) m 4 p1 with
    | none =>
      obtain ⟨v2, q2, hq2, hX2⟩ := m_chunksX (d := d) (LA := LA) (RA := RA) (dr := dr) (tl := tl) (N := N) (rd := rd) (w := 4) hS hm (by omega) (by omega) b3 h2
      exact hbad hq2 hX1 hX2
    | some z =>
      obtain ⟨w, p2⟩ := z
      obtain ⟨c1, c2, c3⟩ := gC_b h2
      have hX2 := m_chunksV (d := d) (LA := LA) (RA := RA) (dr := dr) (tl := tl) (N := N) (rd := rd) (w := 4) hS hm (by omega) (by omega) b3 h2
      by_cases hz : rdN (gR IA) p2 (zN p2) = 0
      · have hor : ¬ (0 ≤ nI i ∧ nI i ≤ 63) ∨ ¬ (2 ≤ nI w ∧ nI w ≤ 8) ∨ 0 = 1 ∨ (dp = 6 ∨ 0 < dp ∧ IA 40 (7 + dp) = 0) ∨ gL (gR IA) m (p2 + zN p2) = none := by
          rcases hX with h | h
          · exact .inr (.inr (.inr (.inl h)))
          · unfold pE at h
            rw [h1] at h
            dsimp only at h
            rw [h2] at h
            dsimp only at h
            by_cases hh : i < 64 ∧ 2 ≤ w ∧ w ≤ 8
            · rw [if_pos ⟨hh, hz⟩] at h
              refine .inr (.inr (.inr (.inr ?_)))
              split at h
              · assumption
              · cases h
            · by_cases hi : i < 64
              · exact .inr (.inl (fun z => hh ⟨hi, (nI_rng (a := 2) (b := 8) c1 (by omega) (by omega)).mp z⟩))
              · exact .inl (fun z => hi (by have := (nI_rng (a := 0) (b := 63) b1 (by omega) (by omega)).mp z; omega))
        obtain ⟨q, hq, hX⟩ := m_en_17 (d := d) (LA := LA) (RA := RA) (dr := dr) (tl := tl) (N := N) (rd := rd) (p := p2 + zN p2) (b := 0) (i := nI i) (w := nI w) hS hm (zN_le c3) hD hd (by omega) hor
        refine ⟨q, hq, hpre hX1 hX2 ?_⟩
        refine pm_cV [] rfl rfl rfl rfl rfl rfl (Nat.zero_le _) (Nat.zero_le _) (m_zerosV hS hm c3 hz) ?_
        exact hX
      · obtain ⟨q3, hq3, hX3⟩ := m_zerosX (d := d) (LA := LA) (RA := RA) (dr := dr) (tl := tl) (N := N) (rd := rd) hS hm c3 hz
        obtain ⟨q, hq, hX⟩ := m_en_17 (d := d) (LA := LA) (RA := RA) (dr := dr) (tl := tl) (N := N) (rd := rd) (p := q3) (b := 1) (i := nI i) (w := nI w) hS hm hq3 hD hd (by omega) (.inr (.inr (.inl rfl)))
        refine ⟨q, hq, hpre hX1 hX2 ?_⟩
        refine pm_cV [] rfl rfl rfl rfl rfl rfl (Nat.zero_le _) (Nat.zero_le _) hX3 ?_
        exact hX
/-- the model's leave, read -/
theorem m_lv_pre {r : pm_V} {h' : pm_H} {mk : Nat} (hp : p ≤ 2048) (hD : IA 39 1 = nI (dp + 1)) (hd : dp < 6) (hmk : IA 42 (7 + (dp + 1)) = nI mk) (hmk2 : mk < 64)
    (kt : b = 0 → IA 37 (128 + mk) = nI (p / 32) - nI mk - 1 → pm_X (pm_call (d + 2)) jm_142 2 (some .int) (d + 2) 0 0 67 [(0, .ref 36)] [.int 1, .ref 36] 0 0 (N, HM IA LA RA SC dr tl p b rd) r h')
    (kf : ¬ (b = 0 ∧ IA 37 (128 + mk) = nI (p / 32) - nI mk - 1) → pm_X (pm_call (d + 2)) jm_142 2 (some .int) (d + 2) 0 0 67 [(0, .ref 36)] [.int 0, .ref 36] 0 0 (N, HM IA LA RA SC dr tl p b rd) r h') (hb : b ≤ 1) :
    pm_X (pm_call (d + 2)) jm_142 2 (some .int) (d + 2) 0 0 4 [(0, .ref 36)] [] 0 0 (N, HM IA LA RA SC dr tl p b rd) r h' := by
  refine pm_go 1 (pc1 := 5) rfl ?_
  refine pm_getf rfl rfl rfl ?_
  refine pm_go 2 (pc1 := 11) rfl ?_
  refine pm_getf rfl rfl rfl ?_
  refine pm_go 1 (pc1 := 15) rfl ?_
  refine pm_iald (j := 1) rfl rfl rfl (by omega) ?_
  refine pm_nm (y := nI (dp + 1)) hD ?_
  refine pm_go 1 (pc1 := 17) rfl ?_
  rw [show (7 : Int32) + nI (dp + 1) = nI (7 + (dp + 1)) from nI_add 7 (dp + 1)]
  refine pm_iald (j := 7 + (dp + 1)) rfl rfl (cw_ti (by omega)) (by omega) ?_
  refine pm_nm (y := nI mk) hmk ?_
  refine pm_go 3 (pc1 := 21) rfl ?_
  refine pm_getf rfl rfl rfl ?_
  refine pm_go 1 (pc1 := 25) rfl ?_
  refine pm_iald (j := 1) rfl rfl rfl (by omega) ?_
  refine pm_nm (y := nI (dp + 1)) hD ?_
  refine pm_if rfl (fun z => absurd ((nI_leI (b := 0) (by omega) (by omega)).mp z) (by omega)) (fun _ => ?_)
  refine pm_go 1 (pc1 := 30) rfl ?_
  refine pm_getf rfl rfl rfl ?_
  refine pm_if rfl (fun z => ?_) (fun z => ?_)
  · refine pm_go 1 (pc1 := 67) rfl ?_
    exact pm_lv [(0, .ref 36)] rfl rfl (kf (fun h => z (show nI b = 0 by rw [h.1]; rfl)))
  · have hb0 : b = 0 := (nI_eqI (b := 0) (by omega) (by omega)).mp (Classical.not_not.mp z)
    refine pm_go 1 (pc1 := 37) rfl ?_
    refine pm_getf rfl rfl rfl ?_
    refine pm_go 3 (pc1 := 45) rfl ?_
    rw [show (128 : Int32) + nI mk = nI (128 + mk) from nI_add 128 mk]
    refine pm_iald (j := 128 + mk) rfl rfl (cw_ti (by omega)) (by omega) ?_
    refine pm_go 1 (pc1 := 47) rfl ?_
    refine pm_getf rfl rfl rfl ?_
    refine pm_go 1 (pc1 := 51) rfl ?_
    refine pm_iald (j := 1) rfl rfl rfl (by omega) ?_
    refine pm_nm (y := nI p) rfl ?_
    refine pm_go 2 (pc1 := 55) rfl ?_
    rw [cw_di (by omega)]
    refine pm_go 4 (pc1 := 59) rfl ?_
    refine pm_icmp rfl (fun z => ?_) (fun z => ?_)
    · refine pm_go 1 (pc1 := 67) rfl ?_
      exact pm_lv [(0, .ref 36)] rfl rfl (kf (fun h => z h.2))
    · refine pm_go 2 (pc1 := 67) rfl ?_
      exact pm_lv [(0, .ref 36)] rfl rfl (kt hb0 (Classical.not_not.mp z))
theorem m_leaveIn {mk : Nat} (hS : SC 36 2 = nI m) (hm : m ≤ 64) (hp : p ≤ 32 * m) (hD : IA 39 1 = nI (dp + 1)) (hd : dp < 6) (hmk : IA 42 (7 + (dp + 1)) = nI mk) (hmk2 : mk < 64) (hz : rdN (gR IA) p (zN p) = 0) (he : IA 37 (128 + mk) = nI ((p + zN p) / 32) - nI mk - 1) :
    pm_call (d + 3) 142 [.ref 36] (N, HM IA LA RA SC dr tl p 0 rd) (.inl (some (.int 1))) (N, HM (va_up IA 39 (upd (IA 39) 1 (nI dp))) LA RA SC dr tl (p + zN p) 0 (upd rd 0 (IA 40 (7 + (dp + 1))))) 0 0 := by
  refine pm_callX jm_142 [(0, .ref 36)] rfl rfl rfl ?_
  refine pm_go 1 (pc1 := 1) rfl ?_
  refine pm_cV [] rfl rfl rfl rfl rfl rfl (Nat.zero_le _) (Nat.zero_le _) (m_zerosV hS hm hp hz) ?_
  refine m_lv_pre (by have := zN_le hp; omega) hD hd hmk hmk2 (fun _ _ => ?_) (fun h => absurd ⟨rfl, he⟩ h) (by omega)
  refine pm_cV [.int 1] rfl rfl rfl rfl rfl rfl (Nat.zero_le _) (Nat.zero_le _) m_must ?_
  rw [if_neg (by decide)]
  refine pm_go 1 (pc1 := 71) rfl ?_
  refine pm_getf rfl rfl rfl ?_
  refine pm_if rfl (fun _ => ?_) (fun z => absurd rfl z)
  refine pm_go 1 (pc1 := 80) rfl ?_
  refine pm_getf rfl rfl rfl ?_
  refine pm_go 2 (pc1 := 85) rfl ?_
  refine pm_getf rfl rfl rfl ?_
  refine pm_go 2 (pc1 := 91) rfl ?_
  refine pm_getf rfl rfl rfl ?_
  refine pm_go 1 (pc1 := 95) rfl ?_
  refine pm_iald (j := 1) rfl rfl rfl (by omega) ?_
  refine pm_nm (y := nI (dp + 1)) hD ?_
  refine pm_go 1 (pc1 := 97) rfl ?_
  rw [show (7 : Int32) + nI (dp + 1) = nI (7 + (dp + 1)) from nI_add 7 (dp + 1)]
  refine pm_iald (j := 7 + (dp + 1)) rfl rfl (cw_ti (by omega)) (by omega) ?_
  refine pm_iastU (j := 0) rfl rfl rfl (by omega) HM_read ?_
  refine pm_go 1 (pc1 := 100) rfl ?_
  refine pm_getf rfl rfl rfl ?_
  refine pm_go 2 (pc1 := 105) rfl ?_
  refine pm_iald (j := 1) rfl rfl rfl (by omega) ?_
  refine pm_nm (y := nI (dp + 1)) hD ?_
  refine pm_go 2 (pc1 := 108) rfl ?_
  rw [show nI (dp + 1) - 1 = nI dp from pk_sub (b := 1) (by omega)]
  refine pm_iastU (j := 1) rfl rfl rfl (by omega) (hi_39 ..) ?_
  refine pm_go 1 (pc1 := 110) rfl ?_
  refine pm_iret rfl rfl rfl ?_
  refine congrArg (fun z => (N, HC z LA RA _ dr tl)) ?_
  funext k
  by_cases h54 : k = 54
  · subst h54; rfl
  by_cases h38 : k = 38
  · subst h38; rfl
  by_cases h39 : k = 39
  · subst h39; rfl
  simp only [va_up, if_neg h54, if_neg h38, if_neg h39]
theorem m_leaveInX {mk : Nat} (hS : SC 36 2 = nI m) (hm : m ≤ 64) (hp : p ≤ 32 * m) (hD : IA 39 1 = nI (dp + 1)) (hd : dp < 6) (hmk : IA 42 (7 + (dp + 1)) = nI mk) (hmk2 : mk < 64) (hX : ¬ (rdN (gR IA) p (zN p) = 0 ∧ IA 37 (128 + mk) = nI ((p + zN p) / 32) - nI mk - 1)) :
    ∃ q, q ≤ 32 * m ∧ pm_call (d + 3) 142 [.ref 36] (N, HM IA LA RA SC dr tl p 0 rd) (.inl (some (.int 0))) (N, HM IA LA RA SC dr tl q 1 rd) 0 0 := by
  obtain ⟨q3, bb3, hq3, hc3, hX3⟩ := m_zeros (d := d) (LA := LA) (RA := RA) (dr := dr) (tl := tl) (N := N) (rd := rd) hS hm hp
  refine ⟨q3, hq3, ?_⟩
  refine pm_callX jm_142 [(0, .ref 36)] rfl rfl rfl ?_
  refine pm_go 1 (pc1 := 1) rfl ?_
  refine pm_cV [] rfl rfl rfl rfl rfl rfl (Nat.zero_le _) (Nat.zero_le _) hX3 ?_
  have hb3 : bb3 ≤ 1 := by rcases hc3 with h | h <;> omega
  refine m_lv_pre (by omega) hD hd hmk hmk2 (fun h0 h1 => absurd ?_ hX) (fun _ => ?_) hb3
  · rcases hc3 with ⟨_, e, h⟩ | ⟨h, _⟩
    · rw [e] at h1; exact ⟨h, h1⟩
    · omega
  · refine pm_cV [.int 0] rfl rfl rfl rfl rfl rfl (Nat.zero_le _) (Nat.zero_le _) m_must ?_
    rw [if_pos rfl]
    refine pm_go 1 (pc1 := 71) rfl ?_
    refine pm_getf rfl rfl rfl ?_
    refine pm_if rfl (fun z => absurd (show nI 1 = 0 from z) (by decide)) (fun _ => ?_)
    refine pm_go 1 (pc1 := 78) rfl ?_
    exact pm_iret rfl rfl rfl rfl
end ME2
