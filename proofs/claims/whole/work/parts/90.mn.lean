/-! THE MODEL: the next -/
abbrev thr (SC : Nat → Nat → Int32) (z : Int32) : Nat → Nat → Int32 := va_up SC 36 (upd (SC 36) 21 z)
/-- the model's numbers after a fault -/
abbrev nxF (SC : Nat → Nat → Int32) : Nat → Nat → Int32 := va_up (va_up (va_up (thr SC 0) 36 (upd (thr SC 0 36) 19 (nI 1))) 36 (upd (upd (thr SC 0 36) 19 (nI 1)) 20 1)) 36 (upd (upd (upd (thr SC 0 36) 19 (nI 1)) 20 1) 21 1)
/-- the model's numbers after a good end -/
abbrev nxG (SC : Nat → Nat → Int32) (k : Nat) : Nat → Nat → Int32 := va_up (va_up (thr SC 0) 36 (upd (thr SC 0 36) 19 (nI 0))) 36 (upd (upd (thr SC 0 36) 19 (nI 0)) 22 (nI k))
def nxR (x : Nat) : Int32 := if x = 1 then 1 else if x = 0 then 2 else if x = 3 then 3 else 4
section MN
variable {IA : Nat → Nat → Int32} {LA : Nat → Nat → Int64} {RA : Nat → Nat → Option Nat} {SC : Nat → Nat → Int32} {dr : Nat} {tl : Nat → va_E} {N d m p q b dp w : Nat} {rd : Nat → Int32} {r : pm_V} {h' : pm_H}
theorem m_next_F (hF : SC 36 20 = 1) : pm_call (d + 1) 148 [.ref 36] (N, HC IA LA RA SC dr tl) (.inl (some (.int 0))) (N, HC IA LA RA (thr SC 2) dr tl) 0 0 := by
  refine pm_callX jm_148 [(0, .ref 36)] rfl rfl rfl ?_
  refine pm_go 2 (pc1 := 2) rfl ?_
  refine pm_getf rfl rfl rfl ?_
  refine pm_nm (y := 1) hF ?_
  refine pm_if rfl (fun z => absurd (show (1 : Int32) = 0 from z) (by decide)) (fun _ => ?_)
  refine pm_go 2 (pc1 := 13) rfl ?_
  refine pm_putU rfl rfl rfl rfl (hs_36_21 ..) ?_
  refine pm_go 1 (pc1 := 17) rfl ?_
  refine pm_getf rfl rfl rfl ?_
  refine pm_nm (y := 1) hF ?_
  refine pm_if rfl (fun z => absurd (show (1 : Int32) = 0 from z) (by decide)) (fun _ => ?_)
  refine pm_go 1 (pc1 := 24) rfl ?_
  exact pm_iret rfl rfl rfl rfl
theorem m_next_0 (hF : SC 36 20 = 0) (hD : IA 39 1 = nI dp) (hd : dp ≤ 6) (hS : SC 36 2 = nI m) (hm : m ≤ 64) (hP : IA 38 1 = nI p) (hp : p ≤ 32 * m)
    (k0 : dp = 0 ∧ p = 32 * m → pm_X (pm_call d) jm_148 5 (some .int) d 0 0 50 [(0, .ref 36)] [] 0 0 (N, HC IA LA RA (thr SC 0) dr tl) r h')
    (k1 : ¬ (dp = 0 ∧ p = 32 * m) → pm_X (pm_call d) jm_148 5 (some .int) d 0 0 57 [(0, .ref 36)] [] 0 0 (N, HC IA LA RA (thr SC 0) dr tl) r h') :
    pm_call (d + 1) 148 [.ref 36] (N, HC IA LA RA SC dr tl) r h' 0 0 := by
  refine pm_callX jm_148 [(0, .ref 36)] rfl rfl rfl ?_
  refine pm_go 2 (pc1 := 2) rfl ?_
  refine pm_getf rfl rfl rfl ?_
  refine pm_nm (y := 0) hF ?_
  refine pm_if rfl (fun _ => ?_) (fun z => absurd rfl z)
  refine pm_go 1 (pc1 := 13) rfl ?_
  refine pm_putU rfl rfl rfl rfl (hs_36_21 ..) ?_
  refine pm_go 1 (pc1 := 17) rfl ?_
  refine pm_getf rfl rfl rfl ?_
  refine pm_nm (y := 0) hF ?_
  refine pm_if rfl (fun _ => ?_) (fun z => absurd rfl z)
  refine pm_go 1 (pc1 := 26) rfl ?_
  refine pm_getf rfl rfl rfl ?_
  refine pm_go 1 (pc1 := 30) rfl ?_
  refine pm_iald (j := 1) rfl rfl rfl (by omega) ?_
  refine pm_nm (y := nI dp) hD ?_
  refine pm_if rfl (fun z => k1 (fun h => z (show nI dp = 0 by rw [h.1]; rfl))) (fun z => ?_)
  have h0 : dp = 0 := (nI_eqI (b := 0) (by omega) (by omega)).mp (Classical.not_not.mp z)
  refine pm_go 1 (pc1 := 35) rfl ?_
  refine pm_getf rfl rfl rfl ?_
  refine pm_go 1 (pc1 := 39) rfl ?_
  refine pm_iald (j := 1) rfl rfl rfl (by omega) ?_
  refine pm_nm (y := nI p) hP ?_
  refine pm_go 2 (pc1 := 43) rfl ?_
  refine pm_getf rfl rfl rfl ?_
  refine pm_nm (y := nI m) hS ?_
  refine pm_go 1 (pc1 := 47) rfl ?_
  rw [show (32 : Int32) * nI m = nI (32 * m) from pk_mul 32 m]
  refine pm_icmp rfl (fun z => k1 (fun h => z (show nI p = nI (32 * m) by rw [h.2]))) (fun z => ?_)
  exact k0 ⟨h0, (nI_eqI (by omega) (by omega)).mp (Classical.not_not.mp z)⟩
theorem m_next_E (hF : SC 36 20 = 0) (hD : IA 39 1 = nI 0) (hS : SC 36 2 = nI m) (hm : m ≤ 64) (hP : IA 38 1 = nI (32 * m)) :
    pm_call (d + 1) 148 [.ref 36] (N, HC IA LA RA SC dr tl) (.inl (some (.int 0))) (N, HC IA LA RA (va_up (thr SC 0) 36 (upd (thr SC 0 36) 22 0)) dr tl) 0 0 := by
  refine m_next_0 hF hD (by omega) hS hm hP (Nat.le_refl _) (fun _ => ?_) (fun z => absurd ⟨rfl, rfl⟩ z)
  refine pm_go 2 (pc1 := 52) rfl ?_
  refine pm_putU rfl rfl rfl rfl (hs_36_22 ..) ?_
  refine pm_go 1 (pc1 := 56) rfl ?_
  exact pm_iret rfl rfl rfl rfl
theorem m_nx_57 (hD : IA 39 1 = nI dp) (hd : dp ≤ 6) (hP : IA 38 1 = nI p) (hw : (if dp = 0 then 2 else IA 41 (7 + dp)) = nI w) {x : Int32} {q b : Nat} {SC1 : Nat → Nat → Int32}
    (hG : pm_call (d + 5) 138 [.ref 36, .int (nI w)] (N, HM IA LA RA SC1 dr tl p 0 (IA 54)) (.inl (some (.int x))) (N, HM IA LA RA SC1 dr tl q b (IA 54)) 0 0)
    (k : pm_X (pm_call (d + 5)) jm_148 5 (some .int) (d + 5) 0 0 102 [(0, .ref 36), (1, .int (nI p)), (2, .int x)] [] 0 0 (N, HM IA LA RA SC1 dr tl q (if 0 < dp ∨ x = 1 then b else 1) (IA 54)) r h') :
    pm_X (pm_call (d + 5)) jm_148 5 (some .int) (d + 5) 0 0 57 [(0, .ref 36)] [] 0 0 (N, HC IA LA RA SC1 dr tl) r h' := by
  refine pm_go 1 (pc1 := 58) rfl ?_
  refine pm_getf rfl rfl rfl ?_
  refine pm_go 1 (pc1 := 62) rfl ?_
  refine pm_iald (j := 1) rfl rfl rfl (by omega) ?_
  refine pm_nm (y := nI p) hP ?_
  refine pm_go 3 (pc1 := 66) rfl ?_
  refine pm_putU rfl rfl rfl rfl (hs_36_19 ..) ?_
  refine pm_hp (HM_fold (IA2 := IA) (p := p) (b := 0) (rd := IA 54) (fun _ _ _ => rfl) (upd_id hP).symm rfl) ?_
  refine pm_go 3 (pc1 := 72) rfl ?_
  refine pm_cV [.int (nI 1)] rfl rfl rfl rfl rfl rfl (Nat.zero_le _) (Nat.zero_le _) (m_widthNow (s := 1) (by omega) hD hd) ?_
  refine pm_nm (y := nI w) hw ?_
  refine pm_cV [.int (nI w)] rfl rfl rfl rfl rfl rfl (Nat.zero_le _) (Nat.zero_le _) hG ?_
  refine pm_go 3 (pc1 := 81) rfl ?_
  refine pm_getf rfl rfl rfl ?_
  refine pm_go 1 (pc1 := 85) rfl ?_
  refine pm_iald (j := 1) rfl rfl rfl (by omega) ?_
  refine pm_nm (y := nI dp) hD ?_
  have hend : ∀ (y : Int32) (b2 : Nat), (if y = 0 then 1 else b) = b2 → (if 0 < dp ∨ x = 1 then b else 1) = b2 → pm_X (pm_call (d + 5)) jm_148 5 (some .int) (d + 5) 0 0 99 [(2, .int x), (1, .int (nI p)), (0, .ref 36)] [.int y, .ref 36] 0 0 (N, HM IA LA RA SC1 dr tl q b (IA 54)) r h' := by
    intro y b2 e1 e2
    refine pm_cV [.int y] rfl rfl rfl rfl rfl rfl (Nat.zero_le _) (Nat.zero_le _) m_must ?_
    rw [e1]
    rw [e2] at k
    exact pm_lv [(0, .ref 36), (1, .int (nI p)), (2, .int x)] rfl rfl k
  refine pm_if rfl (fun z => ?_) (fun z => ?_)
  · have h0 : 0 < dp := Classical.byContradiction fun h => by
      have e : dp = 0 := by omega
      subst e
      exact absurd (show (0 : Int32) < nI 0 from z) (by decide)
    exact pm_go 2 (pc1 := 99) rfl (hend 1 b (if_neg (by decide)) (if_pos (Or.inl h0)))
  · have h0 : ¬ 0 < dp := fun h => z (show (0 : Int32) < nI dp from (nI_ltI (a := 0) (by omega) (by omega)).mpr h)
    refine pm_go 2 (pc1 := 91) rfl ?_
    refine pm_icmp rfl (fun z => ?_) (fun z => ?_)
    · exact pm_go 1 (pc1 := 99) rfl (hend 0 1 (if_pos rfl) (if_neg (fun h => h.elim h0 z)))
    · exact pm_go 2 (pc1 := 99) rfl (hend 1 b (if_neg (by decide)) (if_pos (Or.inr (Classical.not_not.mp z))))
/-- the end at a fault -/
theorem m_nx_166B {xv nv : Int32} : pm_X (pm_call d) jm_148 5 (some .int) d 0 0 165 [(0, .ref 36), (1, .int (nI p)), (2, .int xv)] [.int nv] 0 0 (N, HM IA LA RA (thr SC 0) dr tl q 1 rd) (.inl (some (.int 0))) (N, HC (va_up (va_up IA 38 (upd (IA 38) 1 (nI p))) 54 rd) LA RA (nxF SC) dr tl) := by
  refine pm_go 2 (pc1 := 167) rfl ?_
  refine pm_getf rfl rfl rfl ?_
  refine pm_if rfl (fun z => absurd (show nI 1 = 0 from z) (by decide)) (fun _ => ?_)
  refine pm_go 1 (pc1 := 174) rfl ?_
  refine pm_getf rfl rfl rfl ?_
  refine pm_go 2 (pc1 := 179) rfl ?_
  refine pm_iastU (j := 1) rfl rfl rfl (by omega) HM_place ?_
  refine pm_go 2 (pc1 := 182) rfl ?_
  refine pm_putU rfl rfl rfl rfl (hs_36_20 ..) ?_
  refine pm_go 2 (pc1 := 187) rfl ?_
  refine pm_putU rfl rfl rfl rfl (hs_36_21 ..) ?_
  refine pm_go 1 (pc1 := 191) rfl ?_
  exact pm_iret rfl rfl rfl rfl
theorem m_nx_102B {xv : Int32} : pm_X (pm_call d) jm_148 5 (some .int) d 0 0 102 [(0, .ref 36), (1, .int (nI p)), (2, .int xv)] [] 0 0 (N, HM IA LA RA (thr SC 0) dr tl q 1 rd) (.inl (some (.int 0))) (N, HC (va_up (va_up IA 38 (upd (IA 38) 1 (nI p))) 54 rd) LA RA (nxF SC) dr tl) := by
  refine pm_go 1 (pc1 := 103) rfl ?_
  refine pm_getf rfl rfl rfl ?_
  refine pm_if rfl (fun z => absurd (show nI 1 = 0 from z) (by decide)) (fun _ => ?_)
  exact pm_go 2 (pc1 := 165) rfl m_nx_166B
theorem m_nx_226 {x : Nat} (hx : x < 256) {h : pm_H} : pm_X (pm_call d) jm_148 5 (some .int) d 0 0 226 [(0, .ref 36), (2, .int (nI x))] [] 0 0 h (.inl (some (.int (nxR x)))) h := by
  unfold nxR
  refine pm_go 2 (pc1 := 228) rfl ?_
  refine pm_icmp rfl (fun z => ?_) (fun z => ?_)
  · rw [if_neg (fun h => z (show nI x = 1 by rw [h]; rfl))]
    refine pm_go 1 (pc1 := 236) rfl ?_
    refine pm_if rfl (fun z => ?_) (fun z => ?_)
    · rw [if_neg (fun h => z (show nI x = 0 by rw [h]; rfl))]
      refine pm_go 2 (pc1 := 245) rfl ?_
      refine pm_icmp rfl (fun z => ?_) (fun z => ?_)
      · rw [if_neg (fun h => z (show nI x = 3 by rw [h]; rfl))]
        refine pm_go 1 (pc1 := 253) rfl ?_
        exact pm_iret rfl rfl rfl rfl
      · rw [if_pos ((nI_eqI (b := 3) (by omega) (by omega)).mp (Classical.not_not.mp z))]
        refine pm_go 2 (pc1 := 253) rfl ?_
        exact pm_iret rfl rfl rfl rfl
    · rw [if_pos ((nI_eqI (b := 0) (by omega) (by omega)).mp (Classical.not_not.mp z))]
      refine pm_go 2 (pc1 := 253) rfl ?_
      exact pm_iret rfl rfl rfl rfl
  · rw [if_pos ((nI_eqI (b := 1) (by omega) (by omega)).mp (Classical.not_not.mp z))]
    refine pm_go 2 (pc1 := 253) rfl ?_
    exact pm_iret rfl rfl rfl rfl
theorem m_nx_loop {k : Nat} {xv : Int32} (hk : k ≤ 20) : ∀ (j i : Nat), i + j = k → pm_X (pm_call d) jm_148 5 (some .int) d 0 0 226 [(0, .ref 36), (2, .int xv)] [] 0 0 (N, HC (va_up IA 53 (mfCk (IA 53) (IA 54) 0 0 k)) LA RA SC dr tl) r h' →
    pm_X (pm_call d) jm_148 5 (some .int) d 0 0 200 [(0, .ref 36), (2, .int xv), (3, .int (nI k)), (4, .int (nI i))] [] 0 0 (N, HC (va_up IA 53 (mfCk (IA 53) (IA 54) 0 0 i)) LA RA SC dr tl) r h' := by
  intro j
  induction j with
  | zero =>
    intro i hi hX
    have e : i = k := by omega
    subst e
    refine pm_go 2 (pc1 := 203) rfl ?_
    refine pm_icmp rfl (fun _ => ?_) (fun z => absurd ((nI_leI (by omega) (by omega)).mpr (Nat.le_refl _)) z)
    exact pm_lv [(0, .ref 36), (2, .int xv)] rfl rfl hX
  | succ j ih =>
    intro i hi hX
    refine pm_go 2 (pc1 := 203) rfl ?_
    refine pm_icmp rfl (fun z => absurd ((nI_leI (by omega) (by omega)).mp z) (by omega)) (fun _ => ?_)
    refine pm_go 1 (pc1 := 207) rfl ?_
    refine pm_getf rfl rfl rfl ?_
    refine pm_go 2 (pc1 := 213) rfl ?_
    refine pm_getf rfl rfl rfl ?_
    refine pm_go 1 (pc1 := 218) rfl ?_
    refine pm_iald (j := i) rfl rfl (cw_ti (by omega)) (by omega) ?_
    refine pm_nm (y := IA 54 i) rfl ?_
    refine pm_iastU (j := i) (n := 20) rfl rfl (cw_ti (by omega)) (by omega) (hi_53 ..) ?_
    have e := mfCk_s (IA 53) (IA 54) 0 0 i
    rw [Nat.zero_add] at e
    refine pm_hp (f1 := HC (va_up IA 53 (mfCk (IA 53) (IA 54) 0 0 (i + 1))) LA RA SC dr tl) (by rw [va_up2]; exact congrArg (fun z => HC (va_up IA 53 z) LA RA SC dr tl) e) ?_
    refine pm_go 2 (pc1 := 200) rfl ?_
    rw [nI_1]
    exact pm_lv [(0, .ref 36), (2, .int xv), (3, .int (nI k)), (4, .int (nI (i + 1)))] rfl rfl (ih (i + 1) (by omega) hX)
/-- the end at a good answer -/
theorem m_nx_166G {x k : Nat} (hx : x < 256) (hk : k ≤ 20) : pm_X (pm_call d) jm_148 5 (some .int) d 0 0 165 [(0, .ref 36), (1, .int (nI p)), (2, .int (nI x))] [.int (nI k)] 0 0 (N, HM IA LA RA (thr SC 0) dr tl q 0 rd) (.inl (some (.int (nxR x)))) (N, HC (va_up (va_up (va_up IA 38 (upd (IA 38) 1 (nI q))) 54 rd) 53 (mfCk (IA 53) rd 0 0 k)) LA RA (nxG SC k) dr tl) := by
  refine pm_go 2 (pc1 := 167) rfl ?_
  refine pm_getf rfl rfl rfl ?_
  refine pm_if rfl (fun _ => ?_) (fun z => absurd rfl z)
  refine pm_go 2 (pc1 := 194) rfl ?_
  refine pm_putU rfl rfl rfl rfl (hs_36_22 ..) ?_
  refine pm_go 2 (pc1 := 200) rfl ?_
  refine pm_hp (f1 := HC (va_up (va_up (va_up IA 38 (upd (IA 38) 1 (nI q))) 54 rd) 53 (mfCk (IA 53) rd 0 0 0)) LA RA (nxG SC k) dr tl) (by rw [mfCk_0]; exact congrArg (fun z => HC z LA RA _ dr tl) (va_up_id _ 53 _ rfl).symm) ?_
  exact pm_lv [(0, .ref 36), (2, .int (nI x)), (3, .int (nI k)), (4, .int (nI 0))] rfl rfl (m_nx_loop (IA := va_up (va_up IA 38 (upd (IA 38) 1 (nI q))) 54 rd) hk k 0 (by omega) (m_nx_226 hx))
/-- which part is read -/
theorem m_nx_113 {x : Nat} {v : Int32} {SC1 : Nat → Nat → Int32} {h1 : pm_H} (hx : x < 256)
    (hc : (x = 0 ∧ pm_call (d + 5) 142 [.ref 36] (N, HM IA LA RA SC1 dr tl q 0 rd) (.inl (some (.int v))) h1 0 0) ∨ (x = 1 ∧ pm_call (d + 5) 141 [.ref 36] (N, HM IA LA RA SC1 dr tl q 0 rd) (.inl (some (.int v))) h1 0 0) ∨ (x = 2 ∧ pm_call (d + 5) 145 [.ref 36] (N, HM IA LA RA SC1 dr tl q 0 rd) (.inl (some (.int v))) h1 0 0) ∨ (x = 3 ∧ pm_call (d + 5) 144 [.ref 36] (N, HM IA LA RA SC1 dr tl q 0 rd) (.inl (some (.int v))) h1 0 0) ∨ (4 ≤ x ∧ pm_call (d + 5) 147 [.ref 36, .int (nI x)] (N, HM IA LA RA SC1 dr tl q 0 rd) (.inl (some (.int v))) h1 0 0))
    (k : pm_X (pm_call (d + 5)) jm_148 5 (some .int) (d + 5) 0 0 165 [(0, .ref 36), (1, .int (nI p)), (2, .int (nI x))] [.int v] 0 0 h1 r h') :
    pm_X (pm_call (d + 5)) jm_148 5 (some .int) (d + 5) 0 0 102 [(0, .ref 36), (1, .int (nI p)), (2, .int (nI x))] [] 0 0 (N, HM IA LA RA SC1 dr tl q 0 rd) r h' := by
  refine pm_go 1 (pc1 := 103) rfl ?_
  refine pm_getf rfl rfl rfl ?_
  refine pm_if rfl (fun _ => ?_) (fun z => absurd rfl z)
  refine pm_go 1 (pc1 := 114) rfl ?_
  rcases hc with ⟨e, hc⟩ | ⟨e, hc⟩ | ⟨e, hc⟩ | ⟨e, hc⟩ | ⟨e, hc⟩
  · refine pm_if rfl (fun z => absurd (show nI x = 0 by rw [e]; rfl) z) (fun _ => ?_)
    refine pm_go 1 (pc1 := 118) rfl ?_
    refine pm_cV [] rfl rfl rfl rfl rfl rfl (Nat.zero_le _) (Nat.zero_le _) hc ?_
    exact pm_go 1 (pc1 := 165) rfl k
  · refine pm_if rfl (fun _ => ?_) (fun z => absurd (fun h => absurd ((nI_eqI (b := 0) (by omega) (by omega)).mp h) (by omega)) z)
    refine pm_go 2 (pc1 := 126) rfl ?_
    refine pm_icmp rfl (fun z => absurd (show nI x = 1 by rw [e]; rfl) z) (fun _ => ?_)
    refine pm_go 1 (pc1 := 130) rfl ?_
    refine pm_cV [] rfl rfl rfl rfl rfl rfl (Nat.zero_le _) (Nat.zero_le _) hc ?_
    exact pm_go 1 (pc1 := 165) rfl k
  · refine pm_if rfl (fun _ => ?_) (fun z => absurd (fun h => absurd ((nI_eqI (b := 0) (by omega) (by omega)).mp h) (by omega)) z)
    refine pm_go 2 (pc1 := 126) rfl ?_
    refine pm_icmp rfl (fun _ => ?_) (fun z => absurd (fun h => absurd ((nI_eqI (b := 1) (by omega) (by omega)).mp h) (by omega)) z)
    refine pm_go 2 (pc1 := 138) rfl ?_
    refine pm_icmp rfl (fun z => absurd (show nI x = 2 by rw [e]; rfl) z) (fun _ => ?_)
    refine pm_go 1 (pc1 := 142) rfl ?_
    refine pm_cV [] rfl rfl rfl rfl rfl rfl (Nat.zero_le _) (Nat.zero_le _) hc ?_
    exact pm_go 1 (pc1 := 165) rfl k
  · refine pm_if rfl (fun _ => ?_) (fun z => absurd (fun h => absurd ((nI_eqI (b := 0) (by omega) (by omega)).mp h) (by omega)) z)
    refine pm_go 2 (pc1 := 126) rfl ?_
    refine pm_icmp rfl (fun _ => ?_) (fun z => absurd (fun h => absurd ((nI_eqI (b := 1) (by omega) (by omega)).mp h) (by omega)) z)
    refine pm_go 2 (pc1 := 138) rfl ?_
    refine pm_icmp rfl (fun _ => ?_) (fun z => absurd (fun h => absurd ((nI_eqI (b := 2) (by omega) (by omega)).mp h) (by omega)) z)
    refine pm_go 2 (pc1 := 150) rfl ?_
    refine pm_icmp rfl (fun z => absurd (show nI x = 3 by rw [e]; rfl) z) (fun _ => ?_)
    refine pm_go 1 (pc1 := 154) rfl ?_
    refine pm_cV [] rfl rfl rfl rfl rfl rfl (Nat.zero_le _) (Nat.zero_le _) hc ?_
    exact pm_go 1 (pc1 := 165) rfl k
  · refine pm_if rfl (fun _ => ?_) (fun z => absurd (fun h => absurd ((nI_eqI (b := 0) (by omega) (by omega)).mp h) (by omega)) z)
    refine pm_go 2 (pc1 := 126) rfl ?_
    refine pm_icmp rfl (fun _ => ?_) (fun z => absurd (fun h => absurd ((nI_eqI (b := 1) (by omega) (by omega)).mp h) (by omega)) z)
    refine pm_go 2 (pc1 := 138) rfl ?_
    refine pm_icmp rfl (fun _ => ?_) (fun z => absurd (fun h => absurd ((nI_eqI (b := 2) (by omega) (by omega)).mp h) (by omega)) z)
    refine pm_go 2 (pc1 := 150) rfl ?_
    refine pm_icmp rfl (fun _ => ?_) (fun z => absurd (fun h => absurd ((nI_eqI (b := 3) (by omega) (by omega)).mp h) (by omega)) z)
    refine pm_go 2 (pc1 := 162) rfl ?_
    refine pm_cV [.int (nI x)] rfl rfl rfl rfl rfl rfl (Nat.zero_le _) (Nat.zero_le _) hc ?_
    exact k
end MN
