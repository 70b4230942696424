/-! THE READER: a number in chunks; a length -/
abbrev HR (IA : Nat → Nat → Int32) (LA : Nat → Nat → Int64) (RA : Nat → Nat → Option Nat) (SC : Nat → Nat → Int32) (dr : Nat) (tl : Nat → va_E) (p : Nat) (fr : Nat → Int32) : Nat → va_E := HC (va_up IA 34 fr) LA RA (va_up SC 20 (upd (SC 20) 3 (nI p))) dr tl
def cO {α : Type} (o : Option α) : Nat := match o with | some _ => 0 | none => 1
def rO (o : Option (Nat × Nat)) : pm_V := match o with | some z => .inl (some (.int (nI z.1))) | none => .inr 0
def qO (o : Option (Nat × Nat)) (q : Nat) : Nat := match o with | some z => z.2 | none => q
theorem l0_shl (y : Int64) : lN 0 <<< y = lN 0 := by
  apply wb_inj
  rw [Int64.toBitVec_shiftLeft, wb_tb]
  simp
section RQ
variable {IA : Nat → Nat → Int32} {LA : Nat → Nat → Int64} {RA : Nat → Nat → Option Nat} {SC : Nat → Nat → Int32} {dr : Nat} {tl : Nat → va_E} {N d m p : Nat} {fr : Nat → Int32}
theorem r_take {n : Nat} (hS : SC 20 2 = nI m) (hm : m ≤ 64) (hp : p ≤ 32 * m) (hn1 : 1 ≤ n) (hn : n ≤ 32) (hx : p + n ≤ 32 * m) : pm_call (d + 1) 55 [.ref 20, .int (nI n)] (N, HR IA LA RA SC dr tl p fr) (.inl (some (.int (nI (rdN (IA 33) p n))))) (N, HR IA LA RA SC dr tl (p + n) fr) 0 0 := by
  have h := c_take (IA := va_up IA 34 fr) (LA := LA) (RA := RA) (SC := va_up SC 20 (upd (SC 20) 3 (nI p))) (dr := dr) (tl := tl) (N := N) (d := d) (m := m) (p := p) (n := n) hS hm rfl hp hn1 hn (by omega)
  rw [tk_rdN _ _ _ hn] at h
  simp only [va_up_self, va_up2, cw_uu] at h
  exact h
theorem r_takeX {n : Nat} (hS : SC 20 2 = nI m) (hm : m ≤ 64) (hp : p ≤ 32 * m) (hn : n ≤ 32) (hx : ¬ p + n ≤ 32 * m) : pm_call (d + 9) 55 [.ref 20, .int (nI n)] (N, HR IA LA RA SC dr tl p fr) (.inr 0) (N, HR IA LA RA SC dr tl p fr) 1 6 :=
  c_takeX (p := p) hS hm rfl hp hn (by omega)
theorem r_ch_loop {w : Nat} (hw2 : 2 ≤ w) (hw : w ≤ 31) (hS : SC 20 2 = nI m) (hm : m ≤ 64) : ∀ (f p sh x tn : Nat) (o : Option (Nat × Nat)), gc (IA 33) m w f p sh x = o → tn + f = 2048 → p ≤ 32 * m → x < 2 ^ 31 → x < 2 ^ sh → sh + 30 * f ≤ 100000 →
    ∃ q, q ≤ 32 * m ∧ pm_X (pm_call (d + 9)) jm_57 10 (some .int) (d + 9) (cO o) (6 * cO o) 12 [(0, .ref 20), (1, .int (nI w)), (2, .int (nI (w - 1))), (3, .int (nI sh)), (4, .long (lN x)), (6, .int (nI tn))] [] 0 0 (N, HR IA LA RA SC dr tl p fr) (rO o) (N, HR IA LA RA SC dr tl (qO o q) fr) := by
  intro f
  induction f with
  | zero =>
    intro p sh x tn o ho ht hp hx hxs hsh
    unfold gc at ho
    subst ho
    refine ⟨p, hp, ?_⟩
    refine pm_go 2 (pc1 := 17) rfl ?_
    refine pm_icmp rfl (fun _ => ?_) (fun z => absurd ((nI_leI (a := 2048) (by omega) (by omega)).mpr (by omega)) z)
    exact pm_thr rfl rfl (by omega) rfl (by decide) (by decide) rfl rfl
  | succ f ih =>
    intro p sh x tn o ho ht hp hx hxs hsh
    unfold gc at ho
    by_cases hpw : p + w ≤ 32 * m
    · rw [if_pos hpw] at ho
      have hc : rdN (IA 33) p w < 2 ^ w := rdN_lt ..
      have hwp : 2 ^ w ≤ 2 ^ 31 := Nat.pow_le_pow_right (by omega) hw
      have hpt : rdN (IA 33) p w % 2 ^ (w - 1) < 2 ^ (w - 1) := Nat.mod_lt _ (Nat.two_pow_pos _)
      have hl30 : 2 ^ (w - 1) ≤ 2 ^ 30 := Nat.pow_le_pow_right (by omega) (by omega)
      generalize hcc : rdN (IA 33) p w = c at ho hc hpt
      generalize hpp : c % 2 ^ (w - 1) = part at ho hpt
      -- from 61 on
      have h61 : (part = 0 ∨ sh ≤ 30) → ∃ q, q ≤ 32 * m ∧ pm_X (pm_call (d + 9)) jm_57 10 (some .int) (d + 9) (cO o) (6 * cO o) 61 [(0, .ref 20), (1, .int (nI w)), (2, .int (nI (w - 1))), (3, .int (nI sh)), (4, .long (lN x)), (6, .int (nI tn)), (7, .int (nI c)), (8, .long (lN part))] [] 0 0 (N, HR IA LA RA SC dr tl (p + w) fr) (rO o) (N, HR IA LA RA SC dr tl (qO o q) fr) := by
        intro hor
        have hval : lN x ||| lN part <<< ((nI sh).toInt64 &&& 63) = lN (x + part * 2 ^ sh) ∧ x + part * 2 ^ sh < 2 ^ 62 := by
          rcases hor with h | h
          · rw [h, l0_shl, Nat.zero_mul, Nat.add_zero, wb_or (by omega) (by omega), Nat.or_zero]
            exact ⟨rfl, by omega⟩
          · have h30 : 2 ^ sh ≤ 2 ^ 30 := Nat.pow_le_pow_right (by omega) h
            have hmul : part * 2 ^ sh ≤ 2 ^ 30 * 2 ^ 30 := Nat.mul_le_mul (by omega) h30
            rw [wb_shl _ (by omega), g_or' rfl hxs (by omega)]
            exact ⟨rfl, by omega⟩
        obtain ⟨e1, e2⟩ := hval
        have hgo : ∀ y : Nat, y = x + part * 2 ^ sh → ∃ q, q ≤ 32 * m ∧ pm_X (pm_call (d + 9)) jm_57 10 (some .int) (d + 9) (cO o) (6 * cO o) 70 [(4, .long (lN y)), (0, .ref 20), (1, .int (nI w)), (2, .int (nI (w - 1))), (3, .int (nI sh)), (6, .int (nI tn)), (7, .int (nI c)), (8, .long (lN part))] [] 0 0 (N, HR IA LA RA SC dr tl (p + w) fr) (rO o) (N, HR IA LA RA SC dr tl (qO o q) fr) := by
          intro y hy
          rw [← hy] at ho e2
          by_cases hbig : 2 ^ 31 ≤ y
          · rw [if_pos hbig] at ho
            subst ho
            refine ⟨p + w, hpw, ?_⟩
            refine pm_go 3 (pc1 := 76) rfl ?_
            refine pm_if rfl (fun z => absurd ((pk_lLT (a := 2147483647) (b := y) (by omega) (by omega)).mpr (by omega)) (lc_le.mp z)) (fun _ => ?_)
            exact pm_thr rfl rfl (by omega) rfl (by decide) (by decide) rfl rfl
          · rw [if_neg hbig] at ho
            by_cases hend : c / 2 ^ (w - 1) = 0
            · rw [if_pos hend] at ho
              subst ho
              refine ⟨p + w, hpw, ?_⟩
              refine pm_go 3 (pc1 := 76) rfl ?_
              refine pm_if rfl (fun _ => ?_) (fun z => absurd (lc_le.mpr (fun zz => absurd ((pk_lLT (a := 2147483647) (b := y) (by omega) (by omega)).mp zz) (by omega))) z)
              refine pm_go 3 (pc1 := 93) rfl ?_
              rw [ny_shr (by omega) (by omega), hend]
              refine pm_if rfl (fun z => absurd rfl z) (fun _ => ?_)
              refine pm_go 2 (pc1 := 99) rfl ?_
              rw [lN_i]
              exact pm_iret rfl rfl rfl rfl
            · rw [if_neg hend] at ho
              have hcd : c / 2 ^ (w - 1) < 2 ^ 31 := Nat.lt_of_le_of_lt (Nat.div_le_self _ _) (by omega)
              have hy2 : y < 2 ^ (sh + (w - 1)) := by
                rw [hy, Nat.pow_add, Nat.mul_comm (2 ^ sh)]
                have : part * 2 ^ sh + 2 ^ sh ≤ 2 ^ (w - 1) * 2 ^ sh := by
                  rw [← Nat.succ_mul]
                  exact Nat.mul_le_mul_right _ hpt
                omega
              obtain ⟨q, hq, hX⟩ := ih (p + w) (sh + (w - 1)) y (tn + 1) o ho (by omega) hpw (by omega) hy2 (by omega)
              refine ⟨q, hq, ?_⟩
              refine pm_go 3 (pc1 := 76) rfl ?_
              refine pm_if rfl (fun _ => ?_) (fun z => absurd (lc_le.mpr (fun zz => absurd ((pk_lLT (a := 2147483647) (b := y) (by omega) (by omega)).mp zz) (by omega))) z)
              refine pm_go 3 (pc1 := 93) rfl ?_
              rw [ny_shr (by omega) (by omega)]
              refine pm_if rfl (fun _ => ?_) (fun z => absurd (fun zz => hend ((nI_eqI (b := 0) hcd (by omega)).mp zz)) z)
              refine pm_go 6 (pc1 := 12) rfl ?_
              rw [nI_add, nI_1]
              exact pm_lv [(0, .ref 20), (1, .int (nI w)), (2, .int (nI (w - 1))), (3, .int (nI (sh + (w - 1)))), (4, .long (lN y)), (6, .int (nI (tn + 1)))] rfl rfl hX
        obtain ⟨q, hq, hX⟩ := hgo _ rfl
        refine ⟨q, hq, ?_⟩
        refine pm_go 6 (pc1 := 70) rfl ?_
        rw [e1]
        exact hX
      have hpre : ∀ {q : Nat}, pm_X (pm_call (d + 9)) jm_57 10 (some .int) (d + 9) (cO o) (6 * cO o) 38 [(0, .ref 20), (1, .int (nI w)), (2, .int (nI (w - 1))), (3, .int (nI sh)), (4, .long (lN x)), (6, .int (nI tn)), (7, .int (nI c)), (8, .long (lN part))] [] 0 0 (N, HR IA LA RA SC dr tl (p + w) fr) (rO o) (N, HR IA LA RA SC dr tl (qO o q) fr) →
          pm_X (pm_call (d + 9)) jm_57 10 (some .int) (d + 9) (cO o) (6 * cO o) 12 [(0, .ref 20), (1, .int (nI w)), (2, .int (nI (w - 1))), (3, .int (nI sh)), (4, .long (lN x)), (6, .int (nI tn))] [] 0 0 (N, HR IA LA RA SC dr tl p fr) (rO o) (N, HR IA LA RA SC dr tl (qO o q) fr) := by
        intro q hk
        refine pm_go 2 (pc1 := 17) rfl ?_
        refine pm_icmp rfl (fun z => absurd ((nI_leI (a := 2048) (by omega) (by omega)).mp z) (by omega)) (fun _ => ?_)
        refine pm_go 2 (pc1 := 22) rfl ?_
        refine pm_cV [.int (nI w)] rfl rfl rfl rfl rfl rfl (Nat.zero_le _) (Nat.zero_le _) (r_take hS hm hp (by omega) (by omega) hpw) ?_
        rw [hcc]
        refine pm_go 8 (pc1 := 35) rfl ?_
        rw [ny_mask (by omega) (by omega), hpp]
        refine pm_go 1 (pc1 := 36) rfl ?_
        rw [nI_l (by omega)]
        refine pm_go 1 (pc1 := 38) rfl ?_
        exact pm_lv [(0, .ref 20), (1, .int (nI w)), (2, .int (nI (w - 1))), (3, .int (nI sh)), (4, .long (lN x)), (6, .int (nI tn)), (7, .int (nI c)), (8, .long (lN part))] rfl rfl hk
      by_cases h0 : part = 0
      · obtain ⟨q, hq, hX⟩ := h61 (.inl h0)
        refine ⟨q, hq, hpre ?_⟩
        refine pm_go 3 (pc1 := 42) rfl ?_
        refine pm_if rfl (fun _ => hX) (fun z => absurd (lc_0.mpr (by rw [h0])) z)
      · have hne : ¬ lg_cmp (lN part) (lN 0) = 0 := fun z => h0 ((pk_lEQ (b := 0) (by omega) (by omega)).mp (lc_0.mp z))
        by_cases h30 : sh ≤ 30
        · obtain ⟨q, hq, hX⟩ := h61 (.inr h30)
          refine ⟨q, hq, hpre ?_⟩
          refine pm_go 3 (pc1 := 42) rfl ?_
          refine pm_if rfl (fun z => absurd z hne) (fun _ => ?_)
          refine pm_go 2 (pc1 := 48) rfl ?_
          exact pm_icmp rfl (fun _ => hX) (fun z => absurd ((nI_leI (b := 30) (by omega) (by omega)).mpr h30) z)
        · have hbig : 2 ^ 31 ≤ x + part * 2 ^ sh := by
            have h1 : 2 ^ 31 ≤ 2 ^ sh := Nat.pow_le_pow_right (by omega) (by omega)
            have h2 : 1 * 2 ^ sh ≤ part * 2 ^ sh := Nat.mul_le_mul_right _ (by omega)
            omega
          rw [if_pos hbig] at ho
          subst ho
          refine ⟨p + w, hpw, hpre ?_⟩
          refine pm_go 3 (pc1 := 42) rfl ?_
          refine pm_if rfl (fun z => absurd z hne) (fun _ => ?_)
          refine pm_go 2 (pc1 := 48) rfl ?_
          refine pm_icmp rfl (fun z => absurd ((nI_leI (b := 30) (by omega) (by omega)).mp z) h30) (fun _ => ?_)
          exact pm_thr rfl rfl (by omega) rfl (by decide) (by decide) rfl rfl
    · rw [if_neg hpw] at ho
      subst ho
      refine ⟨p, hp, ?_⟩
      refine pm_go 2 (pc1 := 17) rfl ?_
      refine pm_icmp rfl (fun z => absurd ((nI_leI (a := 2048) (by omega) (by omega)).mp z) (by omega)) (fun _ => ?_)
      refine pm_go 2 (pc1 := 22) rfl ?_
      exact pm_cX [.int (nI w)] rfl rfl rfl rfl rfl rfl (Nat.le_refl _) (Nat.le_refl _) (r_takeX hS hm hp (by omega) hpw) rfl rfl
theorem r_chunksO {w : Nat} (hw2 : 2 ≤ w) (hw : w ≤ 31) (hS : SC 20 2 = nI m) (hm : m ≤ 64) (hp : p ≤ 32 * m) : ∃ q, q ≤ 32 * m ∧ pm_call (d + 10) 57 [.ref 20, .int (nI w)] (N, HR IA LA RA SC dr tl p fr) (rO (gC (IA 33) m w p)) (N, HR IA LA RA SC dr tl (qO (gC (IA 33) m w p) q) fr) (cO (gC (IA 33) m w p)) (6 * cO (gC (IA 33) m w p)) := by
  obtain ⟨q, hq, hX⟩ := r_ch_loop (N := N) (d := d) (LA := LA) (RA := RA) (dr := dr) (tl := tl) (fr := fr) hw2 hw hS hm 2048 p 0 0 0 _ rfl rfl hp (by decide) (by decide) (by decide)
  refine ⟨q, hq, ?_⟩
  refine pm_callX jm_57 [(0, .ref 20), (1, .int (nI w))] rfl rfl rfl ?_
  refine pm_go 3 (pc1 := 3) rfl ?_
  rw [show nI w - 1 = nI (w - 1) from pk_sub (b := 1) (by omega)]
  refine pm_go 7 (pc1 := 12) rfl ?_
  exact pm_lv [(0, .ref 20), (1, .int (nI w)), (2, .int (nI (w - 1))), (3, .int (nI 0)), (4, .long (lN 0)), (6, .int (nI 0))] rfl rfl hX
theorem r_chunks {w v q : Nat} (hw2 : 2 ≤ w) (hw : w ≤ 31) (hS : SC 20 2 = nI m) (hm : m ≤ 64) (hp : p ≤ 32 * m) (hg : gC (IA 33) m w p = some (v, q)) : pm_call (d + 10) 57 [.ref 20, .int (nI w)] (N, HR IA LA RA SC dr tl p fr) (.inl (some (.int (nI v)))) (N, HR IA LA RA SC dr tl q fr) 0 0 := by
  obtain ⟨q', _, h⟩ := r_chunksO (IA := IA) (LA := LA) (RA := RA) (dr := dr) (tl := tl) (N := N) (d := d) (fr := fr) hw2 hw hS hm hp
  rw [hg] at h
  exact h
theorem r_chunksX {w : Nat} (hw2 : 2 ≤ w) (hw : w ≤ 31) (hS : SC 20 2 = nI m) (hm : m ≤ 64) (hp : p ≤ 32 * m) (hg : gC (IA 33) m w p = none) : ∃ q, q ≤ 32 * m ∧ pm_call (d + 10) 57 [.ref 20, .int (nI w)] (N, HR IA LA RA SC dr tl p fr) (.inr 0) (N, HR IA LA RA SC dr tl q fr) 1 6 := by
  obtain ⟨q', hq, h⟩ := r_chunksO (IA := IA) (LA := LA) (RA := RA) (dr := dr) (tl := tl) (N := N) (d := d) (fr := fr) hw2 hw hS hm hp
  rw [hg] at h
  exact ⟨q', hq, h⟩
/-- a length: a whole word that is a number -/
def gL (g : Nat → Int32) (m p : Nat) : Option (Nat × Nat) := if p + 32 ≤ 32 * m then if rdN g p 32 < 2 ^ 31 then some (rdN g p 32, p + 32) else none else none
theorem gL_b {g : Nat → Int32} {v q : Nat} (h : gL g m p = some (v, q)) : v < 2 ^ 31 ∧ q = p + 32 ∧ q ≤ 32 * m := by
  unfold gL at h
  split at h
  · split at h
    · cases h; omega
    · cases h
  · cases h
theorem nI_neg {x : Nat} (h1 : 2 ^ 31 ≤ x) (h2 : x < 2 ^ 32) : nI x < 0 := by
  rw [Int32.lt_iff_toInt_lt]
  show (Int32.ofNat x).toInt < 0
  rw [Int32.toInt_ofNat']
  simp only [Int.bmod, show Int32.size = 4294967296 from rfl]
  split <;> omega
theorem r_len {v q : Nat} (hS : SC 20 2 = nI m) (hm : m ≤ 64) (hp : p ≤ 32 * m) (hg : gL (IA 33) m p = some (v, q)) : pm_call (d + 10) 56 [.ref 20] (N, HR IA LA RA SC dr tl p fr) (.inl (some (.int (nI v)))) (N, HR IA LA RA SC dr tl q fr) 0 0 := by
  unfold gL at hg
  split at hg
  · split at hg
    · rename_i h1 h2
      cases hg
      refine pm_callX jm_56 [(0, .ref 20)] rfl rfl rfl ?_
      refine pm_go 2 (pc1 := 3) rfl ?_
      refine pm_cV [.int (nI 32)] rfl rfl rfl rfl rfl rfl (Nat.le_refl _) (Nat.le_refl _) (r_take hS hm hp (by omega) (by omega) h1) ?_
      refine pm_go 2 (pc1 := 8) rfl ?_
      refine pm_if rfl (fun _ => ?_) (fun z => absurd (nI_le (Nat.zero_le _) h2) z)
      refine pm_go 1 (pc1 := 22) rfl ?_
      exact pm_iret rfl rfl rfl rfl
    · cases hg
  · cases hg
theorem r_lenX (hS : SC 20 2 = nI m) (hm : m ≤ 64) (hp : p ≤ 32 * m) (hg : gL (IA 33) m p = none) : ∃ q, q ≤ 32 * m ∧ pm_call (d + 10) 56 [.ref 20] (N, HR IA LA RA SC dr tl p fr) (.inr 0) (N, HR IA LA RA SC dr tl q fr) 1 6 := by
  unfold gL at hg
  split at hg
  · rename_i h1
    split at hg
    · cases hg
    · rename_i h2
      refine ⟨p + 32, h1, ?_⟩
      have hlt := rdN_lt (IA 33) p 32
      refine pm_callX jm_56 [(0, .ref 20)] rfl rfl rfl ?_
      refine pm_go 2 (pc1 := 3) rfl ?_
      refine pm_cV [.int (nI 32)] rfl rfl rfl rfl rfl rfl (Nat.zero_le _) (Nat.zero_le _) (r_take hS hm hp (by omega) (by omega) h1) ?_
      refine pm_go 2 (pc1 := 8) rfl ?_
      refine pm_if rfl (fun z => absurd (nI_neg (Nat.le_of_not_lt h2) hlt) (Int32.not_lt.mpr z)) (fun _ => ?_)
      exact pm_thr rfl rfl (by omega) rfl (by decide) (by decide) rfl rfl
  · rename_i h1
    refine ⟨p, hp, ?_⟩
    refine pm_callX jm_56 [(0, .ref 20)] rfl rfl rfl ?_
    refine pm_go 2 (pc1 := 3) rfl ?_
    exact pm_cX [.int (nI 32)] rfl rfl rfl rfl rfl rfl (Nat.le_refl _) (Nat.le_refl _) (r_takeX hS hm hp (by omega) h1) rfl rfl
end RQ
