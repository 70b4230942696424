/-! THE MODEL'S READER: a number in chunks -/
/-- one bit more: place, number so far, whether it is bad -/
def stp (g : Nat → Int32) (m : Nat) (s : Nat × Nat × Nat) (a : Nat) : Nat × Nat × Nat := if s.1 + 1 ≤ 32 * m then (if sb g s.1 = true then (if 30 < a then (s.1 + 1, s.2.1, 1) else (s.1 + 1, s.2.1 + 2 ^ a, s.2.2)) else (s.1 + 1, s.2.1, s.2.2)) else (s.1, s.2.1, 1)
def iS (g : Nat → Int32) (m : Nat) (s : Nat × Nat × Nat) (a : Nat) : Nat → Nat × Nat × Nat
  | 0 => s
  | k + 1 => stp g m (iS g m s a k) (a + k)
theorem iS_b {g : Nat → Int32} {m p x a : Nat} (hp : p ≤ 32 * m) (h1 : x < 2 ^ 31) (h2 : x < 2 ^ a) : ∀ k, (iS g m (p, x, 0) a k).1 ≤ 32 * m ∧ (iS g m (p, x, 0) a k).2.1 < 2 ^ 31 ∧ (iS g m (p, x, 0) a k).2.1 < 2 ^ (a + k) ∧ (iS g m (p, x, 0) a k).2.2 ≤ 1
  | 0 => ⟨hp, h1, h2, Nat.zero_le 1⟩
  | k + 1 => by
    obtain ⟨i1, i2, i3, i4⟩ := iS_b hp h1 h2 k
    unfold iS stp
    have e : 2 ^ (a + (k + 1)) = 2 ^ (a + k) + 2 ^ (a + k) := by rw [show a + (k + 1) = a + k + 1 by omega, Nat.pow_succ]; omega
    split
    · split
      · split
        · exact ⟨by assumption, i2, by dsimp only; omega, Nat.le_refl 1⟩
        · rename_i h
          have h30 : 2 ^ (a + k + 1) ≤ 2 ^ 31 := Nat.pow_le_pow_right (by omega) (by omega)
          have e2 : 2 ^ (a + k + 1) = 2 ^ (a + k) + 2 ^ (a + k) := by rw [Nat.pow_succ]; omega
          exact ⟨by assumption, by dsimp only; omega, by dsimp only; omega, i4⟩
      · exact ⟨by assumption, i2, by dsimp only; omega, i4⟩
    · exact ⟨i1, i2, by dsimp only; omega, Nat.le_refl 1⟩
theorem iS_good {g : Nat → Int32} {m p x a : Nat} : ∀ k, p + k ≤ 32 * m → x + rdN g p k * 2 ^ a < 2 ^ 31 → iS g m (p, x, 0) a k = (p + k, x + rdN g p k * 2 ^ a, 0)
  | 0, _, _ => by show (p, x, 0) = (p + 0, x + 0 * 2 ^ a, 0); rw [Nat.zero_mul]; rfl
  | k + 1, h1, h2 => by
    rw [rdN_s, Nat.add_mul] at h2
    have ih := iS_good (g := g) (m := m) (p := p) (x := x) (a := a) k (by omega) (by omega)
    unfold iS
    rw [ih]
    unfold stp
    dsimp only
    rw [if_pos (by omega)]
    rw [rdN_s]
    by_cases hb : sb g (p + k) = true
    · rw [if_pos hb] at h2
      have e : 2 ^ k * 2 ^ a = 2 ^ (a + k) := by rw [← Nat.pow_add, Nat.add_comm]
      rw [if_pos hb, if_pos hb]
      have : ¬ 30 < a + k := by
        intro h
        have := Nat.pow_le_pow_right (n := 2) (by omega) (show 31 ≤ a + k by omega)
        omega
      rw [if_neg this, Nat.add_mul, e]
      show (p + k + 1, x + _ + _, 0) = (p + (k + 1), x + (_ + _), 0)
      rw [Nat.add_assoc, Nat.add_assoc]
    · rw [if_neg hb, if_neg hb]; rfl
theorem iS_bad {g : Nat → Int32} {m p x a : Nat} (hxa : x < 2 ^ a) (hx : x < 2 ^ 31) (hp : p ≤ 32 * m) : ∀ k, ¬ (p + k ≤ 32 * m ∧ x + rdN g p k * 2 ^ a < 2 ^ 31) → (iS g m (p, x, 0) a k).2.2 = 1
  | 0, h => by
    refine absurd ?_ h
    show p + 0 ≤ 32 * m ∧ x + 0 * 2 ^ a < 2 ^ 31
    rw [Nat.zero_mul]
    omega
  | k + 1, h => by
    by_cases hk : p + k ≤ 32 * m ∧ x + rdN g p k * 2 ^ a < 2 ^ 31
    · have e := iS_good k hk.1 hk.2
      unfold iS
      rw [e]
      unfold stp
      dsimp only
      by_cases h1 : p + k + 1 ≤ 32 * m
      · rw [if_pos h1]
        by_cases hb : sb g (p + k) = true
        · rw [if_pos hb]
          have h3 : 30 < a + k := by
            apply Classical.byContradiction
            intro h30
            apply h
            refine ⟨h1, ?_⟩
            rw [rdN_s]
            rw [if_pos hb, Nat.add_mul, show 2 ^ k * 2 ^ a = 2 ^ (a + k) by rw [← Nat.pow_add, Nat.add_comm]]
            have h5 : 2 ^ (a + k + 1) ≤ 2 ^ 31 := Nat.pow_le_pow_right (by omega) (by omega)
            have h6 : rdN g p k * 2 ^ a + 2 ^ a ≤ 2 ^ k * 2 ^ a := by
              rw [← Nat.succ_mul]
              exact Nat.mul_le_mul_right _ (rdN_lt g p k)
            rw [show 2 ^ k * 2 ^ a = 2 ^ (a + k) by rw [← Nat.pow_add, Nat.add_comm]] at h6
            rw [Nat.pow_succ] at h5
            omega
          rw [if_pos h3]
        · refine absurd ⟨h1, ?_⟩ h
          rw [rdN_s]
          rw [if_neg hb]
          exact hk.2
      · rw [if_neg h1]
    · have ih := iS_bad hxa hx hp k hk
      unfold iS stp
      split
      · split
        · split
          · rfl
          · exact ih
        · exact ih
      · rfl
section MCH
variable {IA : Nat → Nat → Int32} {LA : Nat → Nat → Int64} {RA : Nat → Nat → Option Nat} {SC : Nat → Nat → Int32} {dr : Nat} {tl : Nat → va_E} {N d m b : Nat} {rd : Nat → Int32}
abbrev HS (IA : Nat → Nat → Int32) (LA : Nat → Nat → Int64) (RA : Nat → Nat → Option Nat) (SC : Nat → Nat → Int32) (dr : Nat) (tl : Nat → va_E) (rd : Nat → Int32) (s : Nat × Nat × Nat) : Nat → va_E := HM IA LA RA SC dr tl s.1 s.2.2 rd
theorem m_ch_in {w p x a : Nat} {tn : Int32} {r : pm_V} {h' : pm_H} (hS : SC 36 2 = nI m) (hm : m ≤ 64) (hw2 : 2 ≤ w) (hw : w ≤ 31) (hp : p ≤ 32 * m) (h1 : x < 2 ^ 31) (h2 : x < 2 ^ a) (ha : a < 200000)
    (K : ∀ lv2, lv2 = [(0, .ref 36), (1, .int (nI w)), (2, .int (nI (iS (gR IA) m (p, x, 0) a (w - 1)).2.1)), (3, .int (nI (a + (w - 1)))), (5, .int tn)] → pm_X (pm_call (d + 1)) jm_139 8 (some .int) (d + 1) 0 0 89 lv2 [] 0 0 (N, HS IA LA RA SC dr tl rd (iS (gR IA) m (p, x, 0) a (w - 1))) r h') :
    ∀ (j k : Nat), k + j = w - 1 → pm_X (pm_call (d + 1)) jm_139 8 (some .int) (d + 1) 0 0 33 [(0, .ref 36), (1, .int (nI w)), (2, .int (nI (iS (gR IA) m (p, x, 0) a k).2.1)), (3, .int (nI (a + k))), (5, .int tn), (6, .int (nI k))] [] 0 0 (N, HS IA LA RA SC dr tl rd (iS (gR IA) m (p, x, 0) a k)) r h' := by
  intro j
  induction j with
  | zero =>
    intro k hk
    have e : k = w - 1 := by omega
    subst e
    refine pm_go 4 (pc1 := 38) rfl ?_
    rw [show nI w - 1 = nI (w - 1) from pk_sub (b := 1) (by omega)]
    refine pm_icmp rfl (fun _ => ?_) (fun z => absurd ((nI_leI (by omega) (by omega)).mpr (Nat.le_refl _)) z)
    exact pm_lv _ rfl rfl (K _ rfl)
  | succ j ih =>
    intro k hk
    have ih := ih (k + 1) (by omega)
    obtain ⟨b1, b2, b3, b4⟩ := iS_b (g := gR IA) hp h1 h2 k
    have es : iS (gR IA) m (p, x, 0) a (k + 1) = stp (gR IA) m (iS (gR IA) m (p, x, 0) a k) (a + k) := rfl
    rw [es] at ih
    generalize hs : iS (gR IA) m (p, x, 0) a k = s at ih b1 b2 b3 b4
    obtain ⟨s1, s2, s3⟩ := s
    dsimp only at b1 b2 b3 b4
    have hend : ∀ s', s' = stp (gR IA) m (s1, s2, s3) (a + k) → ∀ z : Value, pm_X (pm_call (d + 1)) jm_139 8 (some .int) (d + 1) 0 0 80 [(0, .ref 36), (1, .int (nI w)), (2, .int (nI s'.2.1)), (3, .int (nI (a + k))), (5, .int tn), (6, .int (nI k))] [] 0 0 (N, HS IA LA RA SC dr tl rd s') r h' := by
      intro s' e z
      refine pm_go 3 (pc1 := 33) rfl ?_
      rw [nI_1, nI_1]
      rw [← e] at ih
      exact pm_lv [(0, .ref 36), (1, .int (nI w)), (2, .int (nI s'.2.1)), (3, .int (nI (a + (k + 1)))), (5, .int tn), (6, .int (nI (k + 1)))] rfl rfl ih
    refine pm_go 4 (pc1 := 38) rfl ?_
    rw [show nI w - 1 = nI (w - 1) from pk_sub (b := 1) (by omega)]
    refine pm_icmp rfl (fun z => absurd ((nI_leI (by omega) (by omega)).mp z) (by omega)) (fun _ => ?_)
    refine pm_go 2 (pc1 := 43) rfl ?_
    by_cases hpx : s1 + 1 ≤ 32 * m
    · refine pm_cV [.int (nI 1)] rfl rfl rfl rfl rfl rfl (Nat.le_refl _) (Nat.le_refl _) (m_getBits hS hm (by omega) hpx) ?_
      rw [rdN_1]
      by_cases hb : sb (gR IA) s1 = true
      · rw [if_pos hb]
        refine pm_go 3 (pc1 := 51) rfl ?_
        refine pm_icmp rfl (fun z => absurd rfl z) (fun _ => ?_)
        refine pm_go 2 (pc1 := 57) rfl ?_
        by_cases h30 : 30 < a + k
        · refine pm_icmp rfl (fun z => absurd ((nI_leI (b := 30) (by omega) (by omega)).mp z) (by omega)) (fun _ => ?_)
          refine pm_go 2 (pc1 := 62) rfl ?_
          refine pm_putU rfl rfl rfl rfl HM_bad ?_
          refine pm_go 1 (pc1 := 80) rfl ?_
          refine pm_lv [(0, .ref 36), (1, .int (nI w)), (2, .int (nI s2)), (3, .int (nI (a + k))), (5, .int tn), (6, .int (nI k))] rfl rfl (hend (s1 + 1, s2, 1) ?_ .null)
          unfold stp
          rw [if_pos hpx, if_pos hb, if_pos h30]
        · refine pm_icmp rfl (fun _ => ?_) (fun z => absurd ((nI_leI (b := 30) (by omega) (by omega)).mpr (by omega)) z)
          refine pm_go 2 (pc1 := 71) rfl ?_
          refine pm_icmp rfl (fun z => absurd rfl z) (fun _ => ?_)
          refine pm_go 5 (pc1 := 79) rfl ?_
          rw [ny_pow (by omega), ny_or b3]
          refine pm_go 1 (pc1 := 80) rfl ?_
          refine pm_lv [(0, .ref 36), (1, .int (nI w)), (2, .int (nI (s2 + 2 ^ (a + k)))), (3, .int (nI (a + k))), (5, .int tn), (6, .int (nI k))] rfl rfl (hend (s1 + 1, s2 + 2 ^ (a + k), s3) ?_ .null)
          unfold stp
          rw [if_pos hpx, if_pos hb, if_neg h30]
      · rw [if_neg hb]
        refine pm_go 3 (pc1 := 51) rfl ?_
        refine pm_icmp rfl (fun _ => ?_) (fun z => absurd (show ¬ nI 0 = 1 by decide) z)
        refine pm_go 2 (pc1 := 71) rfl ?_
        refine pm_icmp rfl (fun _ => ?_) (fun z => absurd (show ¬ nI 0 = 1 by decide) z)
        refine pm_lv [(0, .ref 36), (1, .int (nI w)), (2, .int (nI s2)), (3, .int (nI (a + k))), (5, .int tn), (6, .int (nI k))] rfl rfl (hend (s1 + 1, s2, s3) ?_ .null)
        unfold stp
        rw [if_pos hpx, if_neg hb]
    · refine pm_cV [.int (nI 1)] rfl rfl rfl rfl rfl rfl (Nat.le_refl _) (Nat.le_refl _) (m_getBitsX hS hm b1 (by omega) hpx) ?_
      refine pm_go 3 (pc1 := 51) rfl ?_
      refine pm_icmp rfl (fun _ => ?_) (fun z => absurd (show ¬ (0 : Int32) = 1 by decide) z)
      refine pm_go 2 (pc1 := 71) rfl ?_
      refine pm_icmp rfl (fun _ => ?_) (fun z => absurd (show ¬ (0 : Int32) = 1 by decide) z)
      refine pm_lv [(0, .ref 36), (1, .int (nI w)), (2, .int (nI s2)), (3, .int (nI (a + k))), (5, .int tn), (6, .int (nI k))] rfl rfl (hend (s1, s2, 1) ?_ .null)
      unfold stp
      rw [if_neg hpx]
/-- what the model answers of it -/
abbrev mO (m : Nat) (o : Option (Nat × Nat)) (v : Int32) (q b : Nat) : Prop := q ≤ 32 * m ∧ match o with | some z => v = nI z.1 ∧ q = z.2 ∧ b = 0 | none => b = 1
theorem m_ch_loop {w : Nat} (hS : SC 36 2 = nI m) (hm : m ≤ 64) (hw2 : 2 ≤ w) (hw : w ≤ 31) : ∀ (f p a x tn : Nat) (o : Option (Nat × Nat)), gc (gR IA) m w f p a x = o → tn + f = 2048 → 4096 ≤ p + 2 * f → p ≤ 32 * m → x < 2 ^ 31 → x < 2 ^ a → a + 30 * f ≤ 100000 →
    ∃ v q b, mO m o v q b ∧ pm_X (pm_call (d + 1)) jm_139 8 (some .int) (d + 1) 0 0 10 [(0, .ref 36), (1, .int (nI w)), (2, .int (nI x)), (3, .int (nI a)), (4, .int 1), (5, .int (nI tn))] [] 0 0 (N, HM IA LA RA SC dr tl p 0 rd) (.inl (some (.int v))) (N, HM IA LA RA SC dr tl q b rd) := by
  intro f
  induction f with
  | zero =>
    intro p a x tn o ho ht hf hp
    omega
  | succ f ih =>
    intro p a x tn o ho ht hf hp hx hxa ha
    unfold gc at ho
    have hrw : rdN (gR IA) p w = rdN (gR IA) p (w - 1) + if sb (gR IA) (p + (w - 1)) = true then 2 ^ (w - 1) else 0 := by
      obtain ⟨u, rfl⟩ : ∃ u, w = u + 1 := ⟨w - 1, by omega⟩
      rfl
    have hlt := rdN_lt (gR IA) p (w - 1)
    have hmod : rdN (gR IA) p w % 2 ^ (w - 1) = rdN (gR IA) p (w - 1) := by
      rw [hrw]
      split
      · rw [Nat.add_mod_right, Nat.mod_eq_of_lt hlt]
      · rw [Nat.add_zero, Nat.mod_eq_of_lt hlt]
    have hdiv : rdN (gR IA) p w / 2 ^ (w - 1) = if sb (gR IA) (p + (w - 1)) = true then 1 else 0 := by
      rw [hrw]
      split
      · rw [Nat.add_div_right _ (Nat.two_pow_pos _), Nat.div_eq_of_lt hlt]
      · rw [Nat.add_zero, Nat.div_eq_of_lt hlt]
    rw [hmod, hdiv] at ho
    have hpre : ∀ {r : pm_V} {h' : pm_H}, pm_X (pm_call (d + 1)) jm_139 8 (some .int) (d + 1) 0 0 89 [(0, .ref 36), (1, .int (nI w)), (2, .int (nI (iS (gR IA) m (p, x, 0) a (w - 1)).2.1)), (3, .int (nI (a + (w - 1)))), (5, .int (nI tn))] [] 0 0 (N, HS IA LA RA SC dr tl rd (iS (gR IA) m (p, x, 0) a (w - 1))) r h' → pm_X (pm_call (d + 1)) jm_139 8 (some .int) (d + 1) 0 0 10 [(0, .ref 36), (1, .int (nI w)), (2, .int (nI x)), (3, .int (nI a)), (4, .int 1), (5, .int (nI tn))] [] 0 0 (N, HM IA LA RA SC dr tl p 0 rd) r h' := by
      intro r h' hk
      refine pm_go 2 (pc1 := 15) rfl ?_
      refine pm_icmp rfl (fun z => absurd ((nI_leI (a := 2048) (by omega) (by omega)).mp z) (by omega)) (fun _ => ?_)
      refine pm_go 1 (pc1 := 20) rfl ?_
      refine pm_if rfl (fun z => absurd (show (1 : Int32) = 0 from z) (by decide)) (fun _ => ?_)
      refine pm_go 1 (pc1 := 24) rfl ?_
      refine pm_getf rfl rfl rfl ?_
      refine pm_if rfl (fun z => absurd rfl z) (fun _ => ?_)
      refine pm_go 2 (pc1 := 33) rfl ?_
      exact pm_lv [(0, .ref 36), (1, .int (nI w)), (2, .int (nI x)), (3, .int (nI (a + 0))), (5, .int (nI tn)), (6, .int (nI 0))] rfl rfl (m_ch_in (p := p) (x := x) (a := a) hS hm hw2 hw hp hx hxa (by omega) (fun lv2 e => e ▸ hk) (w - 1) 0 (by omega))
    obtain ⟨b1, b2, b3, b4⟩ := iS_b (g := gR IA) (m := m) hp hx hxa (w - 1)
    -- the end when it is bad, or there is no more
    have hout : ∀ (v : Int32) (q b : Nat) (mo tn' : Int32) (aa : Int32), (mo = 0 ∨ b = 1) → b ≤ 1 → pm_X (pm_call (d + 1)) jm_139 8 (some .int) (d + 1) 0 0 10 [(0, .ref 36), (1, .int (nI w)), (2, .int v), (3, .int aa), (4, .int mo), (5, .int tn')] [] 0 0 (N, HM IA LA RA SC dr tl q b rd) (.inl (some (.int v))) (N, HM IA LA RA SC dr tl q b rd) := by
      intro v q b mo tn' aa hor hb1
      have hfin : ∀ {lv : List (Nat × Value)}, pm_ss 8 jm_139 1 (111, lv, []) = some (112, lv, [.int v]) → pm_X (pm_call (d + 1)) jm_139 8 (some .int) (d + 1) 0 0 111 lv [] 0 0 (N, HM IA LA RA SC dr tl q b rd) (.inl (some (.int v))) (N, HM IA LA RA SC dr tl q b rd) := by
        intro lv e
        refine pm_go 1 e ?_
        exact pm_iret rfl rfl rfl rfl
      refine pm_go 2 (pc1 := 15) rfl ?_
      refine pm_icmp rfl (fun _ => hfin rfl) (fun _ => ?_)
      refine pm_go 1 (pc1 := 20) rfl ?_
      refine pm_if rfl (fun _ => hfin rfl) (fun hmo => ?_)
      refine pm_go 1 (pc1 := 24) rfl ?_
      refine pm_getf rfl rfl rfl ?_
      have hb : b = 1 := hor.resolve_left hmo
      subst hb
      refine pm_if rfl (fun _ => hfin rfl) (fun z => absurd (show ¬ nI 1 = 0 by decide) z)
    by_cases hgood : p + (w - 1) ≤ 32 * m ∧ x + rdN (gR IA) p (w - 1) * 2 ^ a < 2 ^ 31
    · have e := iS_good (a := a) (w - 1) hgood.1 hgood.2
      rw [e] at hpre b1 b2 b3
      dsimp only at b1 b2 b3
      by_cases hpw : p + w ≤ 32 * m
      · rw [if_pos hpw, if_neg (by omega)] at ho
        have hgb := m_getBits (IA := IA) (LA := LA) (RA := RA) (SC := SC) (dr := dr) (tl := tl) (N := N) (d := d) (p := p + (w - 1)) (b := 0) (rd := rd) (n := 1) hS hm (by omega) (by omega)
        rw [rdN_1, show p + (w - 1) + 1 = p + w by omega] at hgb
        by_cases hb : sb (gR IA) (p + (w - 1)) = true
        · rw [if_pos hb] at ho hgb
          rw [if_neg (by decide)] at ho
          obtain ⟨v, q, b, hO, hX⟩ := ih (p + w) (a + (w - 1)) _ (tn + 1) o ho (by omega) (by omega) hpw hgood.2 b3 (by omega)
          refine ⟨v, q, b, hO, hpre ?_⟩
          refine pm_go 2 (pc1 := 91) rfl ?_
          refine pm_cV [.int (nI 1)] rfl rfl rfl rfl rfl rfl (Nat.le_refl _) (Nat.le_refl _) hgb ?_
          refine pm_go 1 (pc1 := 95) rfl ?_
          refine pm_icmp rfl (fun z => absurd rfl z) (fun _ => ?_)
          refine pm_go 5 (pc1 := 10) rfl ?_
          rw [nI_1]
          exact pm_lv [(0, .ref 36), (1, .int (nI w)), (2, .int (nI _)), (3, .int (nI (a + (w - 1)))), (4, .int 1), (5, .int (nI (tn + 1)))] rfl rfl hX
        · rw [if_neg hb] at ho hgb
          rw [if_pos rfl] at ho
          subst ho
          refine ⟨nI (x + rdN (gR IA) p (w - 1) * 2 ^ a), p + w, 0, ⟨hpw, rfl, rfl, rfl⟩, hpre ?_⟩
          refine pm_go 2 (pc1 := 91) rfl ?_
          refine pm_cV [.int (nI 1)] rfl rfl rfl rfl rfl rfl (Nat.le_refl _) (Nat.le_refl _) hgb ?_
          refine pm_go 1 (pc1 := 95) rfl ?_
          refine pm_icmp rfl (fun _ => ?_) (fun z => absurd (show ¬ nI 0 = 1 by decide) z)
          refine pm_go 4 (pc1 := 10) rfl ?_
          exact pm_lv [(0, .ref 36), (1, .int (nI w)), (2, .int (nI _)), (3, .int (nI (a + (w - 1)))), (4, .int 0), (5, .int _)] rfl rfl (hout _ _ _ 0 _ _ (.inl rfl) (by first | omega | (dsimp only; omega)))
      · rw [if_neg hpw] at ho
        subst ho
        refine ⟨nI (x + rdN (gR IA) p (w - 1) * 2 ^ a), p + (w - 1), 1, ⟨hgood.1, rfl⟩, hpre ?_⟩
        refine pm_go 2 (pc1 := 91) rfl ?_
        refine pm_cV [.int (nI 1)] rfl rfl rfl rfl rfl rfl (Nat.le_refl _) (Nat.le_refl _) (m_getBitsX hS hm hgood.1 (by omega) (by omega)) ?_
        refine pm_go 1 (pc1 := 95) rfl ?_
        refine pm_icmp rfl (fun _ => ?_) (fun z => absurd (show ¬ (0 : Int32) = 1 by decide) z)
        refine pm_go 4 (pc1 := 10) rfl ?_
        exact pm_lv [(0, .ref 36), (1, .int (nI w)), (2, .int (nI _)), (3, .int (nI (a + (w - 1)))), (4, .int 0), (5, .int _)] rfl rfl (hout _ _ _ 0 _ _ (.inl rfl) (by first | omega | (dsimp only; omega)))
    · have e := iS_bad hxa hx hp (w - 1) hgood
      have hon : o = none := by
        by_cases hpw : p + w ≤ 32 * m
        · rw [if_pos hpw, if_pos (by
            apply Classical.byContradiction
            intro hc
            exact hgood ⟨by omega, by omega⟩)] at ho
          exact ho.symm
        · rw [if_neg hpw] at ho
          exact ho.symm
      subst hon
      generalize iS (gR IA) m (p, x, 0) a (w - 1) = s at hpre b1 e
      obtain ⟨s1, s2, s3⟩ := s
      dsimp only at b1 e
      subst e
      by_cases hpx : s1 + 1 ≤ 32 * m
      · refine ⟨nI s2, s1 + 1, 1, ⟨hpx, rfl⟩, hpre ?_⟩
        refine pm_go 2 (pc1 := 91) rfl ?_
        refine pm_cV [.int (nI 1)] rfl rfl rfl rfl rfl rfl (Nat.le_refl _) (Nat.le_refl _) (m_getBits hS hm (by omega) hpx) ?_
        refine pm_go 1 (pc1 := 95) rfl ?_
        refine pm_icmp rfl (fun _ => ?_) (fun _ => ?_)
        · refine pm_go 4 (pc1 := 10) rfl ?_
          exact pm_lv [(0, .ref 36), (1, .int (nI w)), (2, .int (nI s2)), (3, .int (nI (a + (w - 1)))), (4, .int 0), (5, .int _)] rfl rfl (hout _ _ _ 0 _ _ (.inl rfl) (by first | omega | (dsimp only; omega)))
        · refine pm_go 5 (pc1 := 10) rfl ?_
          exact pm_lv [(0, .ref 36), (1, .int (nI w)), (2, .int (nI s2)), (3, .int (nI (a + (w - 1)))), (4, .int 1), (5, .int _)] rfl rfl (hout _ _ _ 1 _ _ (.inr rfl) (by first | omega | (dsimp only; omega)))
      · refine ⟨nI s2, s1, 1, ⟨b1, rfl⟩, hpre ?_⟩
        refine pm_go 2 (pc1 := 91) rfl ?_
        refine pm_cV [.int (nI 1)] rfl rfl rfl rfl rfl rfl (Nat.le_refl _) (Nat.le_refl _) (m_getBitsX hS hm b1 (by omega) hpx) ?_
        refine pm_go 1 (pc1 := 95) rfl ?_
        refine pm_icmp rfl (fun _ => ?_) (fun z => absurd (show ¬ (0 : Int32) = 1 by decide) z)
        refine pm_go 4 (pc1 := 10) rfl ?_
        exact pm_lv [(0, .ref 36), (1, .int (nI w)), (2, .int (nI s2)), (3, .int (nI (a + (w - 1)))), (4, .int 0), (5, .int _)] rfl rfl (hout _ _ _ 0 _ _ (.inl rfl) (by first | omega | (dsimp only; omega)))
theorem m_getChunks {w p : Nat} (hS : SC 36 2 = nI m) (hm : m ≤ 64) (hw2 : 2 ≤ w) (hw : w ≤ 31) (hp : p ≤ 32 * m) : ∃ v q b, mO m (gC (gR IA) m w p) v q b ∧ pm_call (d + 2) 139 [.ref 36, .int (nI w)] (N, HM IA LA RA SC dr tl p 0 rd) (.inl (some (.int v))) (N, HM IA LA RA SC dr tl q b rd) 0 0 := by
  obtain ⟨v, q, b, hO, hX⟩ := m_ch_loop (N := N) (d := d) (IA := IA) (LA := LA) (RA := RA) (dr := dr) (tl := tl) (rd := rd) hS hm hw2 hw 2048 p 0 0 0 _ rfl rfl (by omega) hp (by decide) (by decide) (by decide)
  refine ⟨v, q, b, hO, ?_⟩
  refine pm_callX jm_139 [(0, .ref 36), (1, .int (nI w))] rfl rfl rfl ?_
  refine pm_go 8 (pc1 := 10) rfl ?_
  exact pm_lv [(0, .ref 36), (1, .int (nI w)), (2, .int (nI 0)), (3, .int (nI 0)), (4, .int 1), (5, .int (nI 0))] rfl rfl hX
theorem m_getChunksB {w p : Nat} : pm_call (d + 1) 139 [.ref 36, .int (nI w)] (N, HM IA LA RA SC dr tl p 1 rd) (.inl (some (.int 0))) (N, HM IA LA RA SC dr tl p 1 rd) 0 0 := by
  refine pm_callX jm_139 [(0, .ref 36), (1, .int (nI w))] rfl rfl rfl ?_
  refine pm_go 10 (pc1 := 15) rfl ?_
  refine pm_icmp rfl (fun z => absurd (show (2048 : Int32) ≤ 0 from z) (by decide)) (fun _ => ?_)
  refine pm_go 1 (pc1 := 20) rfl ?_
  refine pm_if rfl (fun z => absurd (show (1 : Int32) = 0 from z) (by decide)) (fun _ => ?_)
  refine pm_go 1 (pc1 := 24) rfl ?_
  refine pm_getf rfl rfl rfl ?_
  refine pm_if rfl (fun _ => ?_) (fun z => absurd (show ¬ nI 1 = 0 by decide) z)
  refine pm_go 1 (pc1 := 112) rfl ?_
  exact pm_iret rfl rfl rfl rfl
end MCH
