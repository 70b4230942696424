/-! STEPS: next, the model's ways -/
section NX3
variable {IA IAm : Nat → Nat → Int32} {LA LAm : Nat → Nat → Int64} {RA : Nat → Nat → Option Nat} {SC : Nat → Nat → Int32} {dr : Nat} {tl : Nat → va_E} {N m dp p w d x q k : Nat} {rd : Nat → Int32} {v : Int32}
theorem mo_short (hD : IA 39 1 = nI dp) (hd : dp ≤ 6) (hP : IA 38 1 = nI p) (hw : (if dp = 0 then 2 else IA 41 (7 + dp)) = nI w) (hS : SC 36 2 = nI m) (hm : m ≤ 64) (hp : p ≤ 32 * m) (hw8 : w ≤ 8) (hx : ¬ p + w ≤ 32 * m) : pm_X (pm_call (d + 5)) jm_148 5 (some .int) (d + 5) 0 0 57 [(0, .ref 36)] [] 0 0 (N, HC IA LA RA (thr SC 0) dr tl) (.inl (some (.int 0))) (N, HC (va_up (va_up IA 38 (upd (IA 38) 1 (nI p))) 54 (IA 54)) LA RA (nxF SC) dr tl) := by
  refine m_nx_57 hD hd hP hw (x := 0) (q := p) (b := 1) (m_getBitsX (d := d + 4) (SC := thr SC 0) hS hm hp (by omega) hx) ?_
  rw [show (if 0 < dp ∨ (0 : Int32) = 1 then 1 else 1) = 1 by split <;> rfl]
  exact m_nx_102B
theorem mo_d0 (hD : IA 39 1 = nI 0) (hP : IA 38 1 = nI p) (hS : SC 36 2 = nI m) (hm : m ≤ 64) (hx : p + 2 ≤ 32 * m) (hx1 : ¬ rdN (gR IA) p 2 = 1) : pm_X (pm_call (d + 5)) jm_148 5 (some .int) (d + 5) 0 0 57 [(0, .ref 36)] [] 0 0 (N, HC IA LA RA (thr SC 0) dr tl) (.inl (some (.int 0))) (N, HC (va_up (va_up IA 38 (upd (IA 38) 1 (nI p))) 54 (IA 54)) LA RA (nxF SC) dr tl) := by
  refine m_nx_57 (dp := 0) (w := 2) hD (by omega) hP rfl (x := nI (rdN (gR IA) p 2)) (q := p + 2) (b := 0) (m_getBits (d := d + 4) (SC := thr SC 0) hS hm (by omega) hx) ?_
  have := rdN_lt (gR IA) p 2
  rw [if_neg (fun z => z.elim (by omega) (fun z => hx1 ((nI_eqI (b := 1) (by omega) (by omega)).mp z)))]
  exact m_nx_102B
theorem mo_pre {r : pm_V} {h' : pm_H} (hD : IA 39 1 = nI dp) (hd : dp ≤ 6) (hP : IA 38 1 = nI p) (hw : (if dp = 0 then 2 else IA 41 (7 + dp)) = nI w) (hS : SC 36 2 = nI m) (hm : m ≤ 64) (hw8 : w ≤ 8) (hx : p + w ≤ 32 * m) (hxv : rdN (gR IA) p w = x) (hok : 0 < dp ∨ x = 1) {h1 : pm_H}
    (hc : (x = 0 ∧ pm_call (d + 5) 142 [.ref 36] (N, HM IA LA RA (thr SC 0) dr tl (p + w) 0 (IA 54)) (.inl (some (.int v))) h1 0 0) ∨ (x = 1 ∧ pm_call (d + 5) 141 [.ref 36] (N, HM IA LA RA (thr SC 0) dr tl (p + w) 0 (IA 54)) (.inl (some (.int v))) h1 0 0) ∨ (x = 2 ∧ pm_call (d + 5) 145 [.ref 36] (N, HM IA LA RA (thr SC 0) dr tl (p + w) 0 (IA 54)) (.inl (some (.int v))) h1 0 0) ∨ (x = 3 ∧ pm_call (d + 5) 144 [.ref 36] (N, HM IA LA RA (thr SC 0) dr tl (p + w) 0 (IA 54)) (.inl (some (.int v))) h1 0 0) ∨ (4 ≤ x ∧ pm_call (d + 5) 147 [.ref 36, .int (nI x)] (N, HM IA LA RA (thr SC 0) dr tl (p + w) 0 (IA 54)) (.inl (some (.int v))) h1 0 0))
    (kx : x < 256 → pm_X (pm_call (d + 5)) jm_148 5 (some .int) (d + 5) 0 0 165 [(0, .ref 36), (1, .int (nI p)), (2, .int (nI x))] [.int v] 0 0 h1 r h') : pm_X (pm_call (d + 5)) jm_148 5 (some .int) (d + 5) 0 0 57 [(0, .ref 36)] [] 0 0 (N, HC IA LA RA (thr SC 0) dr tl) r h' := by
  have hlt := rdN_lt (gR IA) p w
  have hl2 : 2 ^ w ≤ 2 ^ 8 := Nat.pow_le_pow_right (by omega) hw8
  have hx256 : x < 256 := by omega
  refine m_nx_57 hD hd hP hw (x := nI x) (q := p + w) (b := 0) (by rw [← hxv]; exact m_getBits (d := d + 4) (SC := thr SC 0) hS hm (by omega) hx) ?_
  rw [if_pos (hok.imp id (fun z => by rw [z]; rfl))]
  exact m_nx_113 hx256 hc (kx hx256)
theorem mo_bad (hD : IA 39 1 = nI dp) (hd : dp ≤ 6) (hP : IA 38 1 = nI p) (hw : (if dp = 0 then 2 else IA 41 (7 + dp)) = nI w) (hS : SC 36 2 = nI m) (hm : m ≤ 64) (hw8 : w ≤ 8) (hx : p + w ≤ 32 * m) (hxv : rdN (gR IA) p w = x) (hok : 0 < dp ∨ x = 1)
    (hc : (x = 0 ∧ pm_call (d + 5) 142 [.ref 36] (N, HM IA LA RA (thr SC 0) dr tl (p + w) 0 (IA 54)) (.inl (some (.int v))) (N, HM IA LAm RA (thr SC 0) dr tl q 1 rd) 0 0) ∨ (x = 1 ∧ pm_call (d + 5) 141 [.ref 36] (N, HM IA LA RA (thr SC 0) dr tl (p + w) 0 (IA 54)) (.inl (some (.int v))) (N, HM IA LAm RA (thr SC 0) dr tl q 1 rd) 0 0) ∨ (x = 2 ∧ pm_call (d + 5) 145 [.ref 36] (N, HM IA LA RA (thr SC 0) dr tl (p + w) 0 (IA 54)) (.inl (some (.int v))) (N, HM IA LAm RA (thr SC 0) dr tl q 1 rd) 0 0) ∨ (x = 3 ∧ pm_call (d + 5) 144 [.ref 36] (N, HM IA LA RA (thr SC 0) dr tl (p + w) 0 (IA 54)) (.inl (some (.int v))) (N, HM IA LAm RA (thr SC 0) dr tl q 1 rd) 0 0) ∨ (4 ≤ x ∧ pm_call (d + 5) 147 [.ref 36, .int (nI x)] (N, HM IA LA RA (thr SC 0) dr tl (p + w) 0 (IA 54)) (.inl (some (.int v))) (N, HM IA LAm RA (thr SC 0) dr tl q 1 rd) 0 0)) :
    pm_X (pm_call (d + 5)) jm_148 5 (some .int) (d + 5) 0 0 57 [(0, .ref 36)] [] 0 0 (N, HC IA LA RA (thr SC 0) dr tl) (.inl (some (.int 0))) (N, HC (va_up (va_up IA 38 (upd (IA 38) 1 (nI p))) 54 rd) LAm RA (nxF SC) dr tl) :=
  mo_pre hD hd hP hw hS hm hw8 hx hxv hok hc (fun _ => m_nx_166B)
theorem mo_good (hD : IA 39 1 = nI dp) (hd : dp ≤ 6) (hP : IA 38 1 = nI p) (hw : (if dp = 0 then 2 else IA 41 (7 + dp)) = nI w) (hS : SC 36 2 = nI m) (hm : m ≤ 64) (hw8 : w ≤ 8) (hx : p + w ≤ 32 * m) (hxv : rdN (gR IA) p w = x) (hok : 0 < dp ∨ x = 1) (hk : k ≤ 20)
    (hc : (x = 0 ∧ pm_call (d + 5) 142 [.ref 36] (N, HM IA LA RA (thr SC 0) dr tl (p + w) 0 (IA 54)) (.inl (some (.int (nI k)))) (N, HM IAm LAm RA (thr SC 0) dr tl q 0 rd) 0 0) ∨ (x = 1 ∧ pm_call (d + 5) 141 [.ref 36] (N, HM IA LA RA (thr SC 0) dr tl (p + w) 0 (IA 54)) (.inl (some (.int (nI k)))) (N, HM IAm LAm RA (thr SC 0) dr tl q 0 rd) 0 0) ∨ (x = 2 ∧ pm_call (d + 5) 145 [.ref 36] (N, HM IA LA RA (thr SC 0) dr tl (p + w) 0 (IA 54)) (.inl (some (.int (nI k)))) (N, HM IAm LAm RA (thr SC 0) dr tl q 0 rd) 0 0) ∨ (x = 3 ∧ pm_call (d + 5) 144 [.ref 36] (N, HM IA LA RA (thr SC 0) dr tl (p + w) 0 (IA 54)) (.inl (some (.int (nI k)))) (N, HM IAm LAm RA (thr SC 0) dr tl q 0 rd) 0 0) ∨ (4 ≤ x ∧ pm_call (d + 5) 147 [.ref 36, .int (nI x)] (N, HM IA LA RA (thr SC 0) dr tl (p + w) 0 (IA 54)) (.inl (some (.int (nI k)))) (N, HM IAm LAm RA (thr SC 0) dr tl q 0 rd) 0 0)) :
    pm_X (pm_call (d + 5)) jm_148 5 (some .int) (d + 5) 0 0 57 [(0, .ref 36)] [] 0 0 (N, HC IA LA RA (thr SC 0) dr tl) (.inl (some (.int (nxR x)))) (N, HC (va_up (va_up (va_up IAm 38 (upd (IAm 38) 1 (nI q))) 54 rd) 53 (mfCk (IAm 53) rd 0 0 k)) LAm RA (nxG SC k) dr tl) :=
  mo_pre hD hd hP hw hS hm hw8 hx hxv hok hc (fun hx => m_nx_166G hx hk)
end NX3
section NX4
variable {IA : Nat → Nat → Int32} {LA : Nat → Nat → Int64} {RA : Nat → Nat → Option Nat} {SC : Nat → Nat → Int32} {dr : Nat} {tl : Nat → va_E} {N m dp pl p sc w : Nat}
theorem SC1_ne {k : Nat} (h : k ≠ 20) : SC1 SC k = SC k := va_up_ne _ _ h
/-- what is known at a next that reads on -/
theorem RdR_w (hD : RdR IA LA RA SC dr tl N m dp pl 0 p sc) : ∃ w, SC (26 + dp) 1 = nI w ∧ 2 ≤ w ∧ w ≤ 8 ∧ (if dp = 0 then 2 else IA 41 (7 + dp)) = nI w := by
  obtain ⟨-, -, -, -, -, -, a16⟩ := hD
  exact SdR_w0 a16
theorem RdR_ag (hD : RdR IA LA RA SC dr tl N m dp pl 0 p sc) : Ag m (IA 33) (gR IA) := fun i hi => (hD.1.2.2.2 i hi).symm
theorem nx_short (hR : RR IA LA RA SC dr tl N) (hD : RdR IA LA RA SC dr tl N m dp pl 0 p sc) (hne : ¬ (dp = 0 ∧ p = 32 * m)) (hw : SC (26 + dp) 1 = nI w) (hw8 : w ≤ 8) (hwm : (if dp = 0 then 2 else IA 41 (7 + dp)) = nI w) (hx : ¬ p + w ≤ 32 * m) : NxR (N, HC IA LA RA SC dr tl) := by
  have hD0 := hD
  obtain ⟨⟨a1, a2, a3, a4⟩, a5, ⟨a6, a7, a8⟩, ⟨a9, a10⟩, a11, ⟨a12, a13, a14, a15⟩, a16⟩ := hD
  obtain ⟨b1, b2, b3, b4⟩ := a11 rfl
  have hw' : SC1 SC (26 + dp) 1 = nI w := by rw [SC1_ne (by omega)]; exact hw
  refine nx_X (N' := N) (tl' := tl) (q := p) (fr := IA 34) (rd := IA 54) (L := LA 48) (c1 := 1) (s1 := 6) hR hD0 hne (Nat.le_refl _) (fun _ _ => rfl) (fun _ _ => rfl) (by omega) (by omega) (r_itT (SC := SC1 SC) a1 a3 b3 a16.1 hw' hw8 hx) ?_
  have hm := mo_short (d := 9) (IA := va_up IA 34 (IA 34)) (LA := LA) (RA := RA) (SC := va_up (SC1 SC) 20 (upd (SC1 SC 20) 3 (nI p))) (dr := dr) (tl := tl) (N := N) a16.2.1 a16.1 b2 hwm a2 a3 b3 hw8 hx
  rw [cw_id LA 48]
  exact hm
theorem nx_d0 (hR : RR IA LA RA SC dr tl N) (hD : RdR IA LA RA SC dr tl N m 0 pl 0 p sc) (hne : ¬ (0 = 0 ∧ p = 32 * m)) (hx : p + 2 ≤ 32 * m) (hx1 : ¬ rdN (IA 33) p 2 = 1) : NxR (N, HC IA LA RA SC dr tl) := by
  have hD0 := hD
  have hag := RdR_ag hD
  obtain ⟨⟨a1, a2, a3, a4⟩, a5, ⟨a6, a7, a8⟩, ⟨a9, a10⟩, a11, ⟨a12, a13, a14, a15⟩, a16⟩ := hD
  obtain ⟨b1, b2, b3, b4⟩ := a11 rfl
  have hw' : SC1 SC (26 + 0) 1 = nI 2 := a16.2.2.2.1
  have hlt := rdN_lt (IA 33) p 2
  refine nx_X (N' := N) (tl' := tl) (q := p + 2) (fr := IA 34) (rd := IA 54) (L := LA 48) (c1 := 1) (s1 := 6) hR hD0 hne (Nat.le_refl _) (fun _ _ => rfl) (fun _ _ => rfl) (by omega) (by omega) (r_it_pre (SC := SC1 SC) a1 a3 b3 (by omega) hw' (by omega) (by omega) hx (r_it_0D (by omega) hx1 a5)) ?_
  have hm := mo_d0 (d := 9) (IA := va_up IA 34 (IA 34)) (LA := LA) (RA := RA) (SC := va_up (SC1 SC) 20 (upd (SC1 SC 20) 3 (nI (p + 2)))) (dr := dr) (tl := tl) (N := N) (m := m) (p := p) a16.2.1 b2 a2 a3 hx (by rw [show gR (va_up IA 34 (IA 34)) = gR IA from rfl, rdN_cg hag 2 hx]; exact hx1)
  rw [cw_id LA 48]
  exact hm
end NX4
