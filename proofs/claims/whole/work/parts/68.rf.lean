/-! THE READER: an op, a form -/
def pOp (g : Nat → Int32) (m p : Nat) : Option (Nat × Nat × Nat) :=
  if p + 1 ≤ 32 * m then
    if sb g p = true then match gC g m 8 (p + 1) with
      | some (v, q) => some (0, v, q)
      | none => none
    else if p + 1 + 3 ≤ 32 * m then
      if rdN g (p + 1) 3 = 3 then some (3, 0, p + 1 + 3)
      else if rdN g (p + 1) 3 = 1 ∨ rdN g (p + 1) 3 = 2 then match gC g m 5 (p + 1 + 3) with
        | some (v, q) => if rdN g (p + 1) 3 ≤ v ∧ v ≤ 31 then some (rdN g (p + 1) 3, v, q) else none
        | none => none
      else none
    else none
  else none
theorem pOp_b {g : Nat → Int32} {m p k v q : Nat} (h : pOp g m p = some (k, v, q)) : k ≤ 3 ∧ v < 2 ^ 31 ∧ (k = 1 → 1 ≤ v ∧ v ≤ 31) ∧ (k = 2 → 2 ≤ v ∧ v ≤ 31) ∧ (k = 3 → v = 0) ∧ (if k = 3 then p + 4 ≤ q else p + 9 ≤ q) ∧ q ≤ 32 * m := by
  unfold pOp at h
  split at h
  · split at h
    · split at h
      · rename_i v' q' h1
        cases h
        have := gC_b h1
        rw [if_neg (by decide)]
        omega
      · cases h
    · split at h
      · split at h
        · cases h
          rw [if_pos rfl]
          omega
        · split at h
          · split at h
            · rename_i h3 h12 _ v' q' h1
              split at h
              · cases h
                have := gC_b h1
                rw [if_neg h3]
                omega
              · cases h
            · cases h
          · cases h
      · cases h
  · cases h
def pOps (g : Nat → Int32) (m p : Nat) : Nat → Option ((Nat → Nat) × (Nat → Nat) × Nat)
  | 0 => some (fun _ => 0, fun _ => 0, p)
  | n + 1 => match pOps g m p n with
    | none => none
    | some z => match pOp g m z.2.2 with
      | none => none
      | some y => some (va_up z.1 n y.1, va_up z.2.1 n y.2.1, y.2.2)
theorem pOps_b {g : Nat → Int32} {m p : Nat} (hp : p ≤ 32 * m) : ∀ (n : Nat) {kk vv : Nat → Nat} {q : Nat}, pOps g m p n = some (kk, vv, q) → (∀ j, j < n → kk j ≤ 3 ∧ vv j < 2 ^ 31 ∧ (kk j = 1 → 1 ≤ vv j ∧ vv j ≤ 31) ∧ (kk j = 2 → 2 ≤ vv j ∧ vv j ≤ 31) ∧ (kk j = 3 → vv j = 0)) ∧ p ≤ q ∧ q ≤ 32 * m
  | 0, _, _, _, h => by
    cases h
    exact ⟨fun j hj => absurd hj (by omega), Nat.le_refl _, hp⟩
  | n + 1, kk, vv, q, h => by
    unfold pOps at h
    split at h
    · cases h
    · rename_i z hz
      obtain ⟨k0, v0, q0⟩ := z
      split at h
      · cases h
      · rename_i y hy
        obtain ⟨k1, v1, q1⟩ := y
        cases h
        obtain ⟨i1, i2, i3⟩ := pOps_b hp n hz
        obtain ⟨c1, c2, c3, c4, c5, c6, c7⟩ := pOp_b hy
        dsimp only at c6
        refine ⟨fun j hj => ?_, ?_, c7⟩
        · show (if j = n then k1 else k0 j) ≤ 3 ∧ (if j = n then v1 else v0 j) < 2 ^ 31 ∧ ((if j = n then k1 else k0 j) = 1 → 1 ≤ (if j = n then v1 else v0 j) ∧ (if j = n then v1 else v0 j) ≤ 31) ∧ ((if j = n then k1 else k0 j) = 2 → 2 ≤ (if j = n then v1 else v0 j) ∧ (if j = n then v1 else v0 j) ≤ 31) ∧ ((if j = n then k1 else k0 j) = 3 → (if j = n then v1 else v0 j) = 0)
          by_cases e : j = n
          · rw [if_pos e, if_pos e]; exact ⟨c1, c2, c3, c4, c5⟩
          · rw [if_neg e, if_neg e]; exact i1 j (by omega)
        · split at c6 <;> (dsimp only; omega)
abbrev nF (kk : Nat → Nat) : Nat → Int32 := fun j => nI (kk j)
theorem nF_up (kk : Nat → Nat) (n k : Nat) : upd (nF kk) n (nI k) = nF (va_up kk n k) := by
  funext j
  show (if j = n then nI k else nI (kk j)) = nI (if j = n then k else kk j)
  split <;> rfl
section RF
variable {IA : Nat → Nat → Int32} {LA : Nat → Nat → Int64} {RA : Nat → Nat → Option Nat} {SC : Nat → Nat → Int32} {dr : Nat} {tl : Nat → va_E} {N d m p dp y n : Nat} {fr : Nat → Int32} {K V : Nat → Int32}
def rO3 (o : Option (Nat × Nat × Nat)) : pm_V := match o with | some _ => .inl none | none => .inr 0
def qO3 (o : Option (Nat × Nat × Nat)) (q : Nat) : Nat := match o with | some z => z.2.2 | none => q
def tO3 (o : Option (Nat × Nat × Nat)) (tl : Nat → va_E) (y n : Nat) (K V : Nat → Int32) : Nat → va_E := match o with | some z => fmAdd tl y n K V (nI z.1) (nI z.2.1) | none => tl
theorem r_opO (hS : SC 20 2 = nI m) (hm : m ≤ 64) (hp : p ≤ 32 * m) (hq : okq y) (hF : fmAt tl y n K V) (hn : n < 8) (o : Option (Nat × Nat × Nat)) (ho : pOp (IA 33) m p = o) :
    ∃ q, q ≤ 32 * m ∧ pm_call (d + 11) 49 [.ref 20, .ref y] (N, HR IA LA RA SC dr tl p fr) (rO3 o) (N, HR IA LA RA SC dr (tO3 o tl y n K V) (qO3 o q) fr) (cO o) (6 * cO o) := by
  have hadd : ∀ {q : Nat} {k v : Int32}, pm_call (d + 10) 11 [.ref y, .int k, .int v] (N, HR IA LA RA SC dr tl q fr) (.inl none) (N, HR IA LA RA SC dr (fmAdd tl y n K V k v) q fr) 0 0 := by
    intro q k v
    have h := c_addOpX (d := d + 8) (N := N) (k := k) (v := v) (fm_HC (IA := va_up IA 34 fr) (LA := LA) (RA := RA) (SC := va_up SC 20 (upd (SC 20) 3 (nI q))) (dr := dr) hq hF) hn
    rw [fmAdd_HC hq] at h
    exact h
  unfold pOp at ho
  by_cases h1 : p + 1 ≤ 32 * m
  · rw [if_pos h1] at ho
    by_cases hb : sb (IA 33) p = true
    · rw [if_pos hb] at ho
      have hpre : ∀ {r : pm_V} {h' : pm_H} {bc bs : Nat}, pm_X (pm_call (d + 10)) jm_49 4 none (d + 10) bc bs 14 [(0, .ref 20), (1, .ref y)] [.int (nI 8), .ref 20, .int 0, .ref y] 0 0 (N, HR IA LA RA SC dr tl (p + 1) fr) r h' → pm_call (d + 11) 49 [.ref 20, .ref y] (N, HR IA LA RA SC dr tl p fr) r h' bc bs := by
        intro r h' bc bs hk
        refine pm_callX jm_49 [(0, .ref 20), (1, .ref y)] rfl rfl rfl ?_
        refine pm_go 2 (pc1 := 2) rfl ?_
        refine pm_cV [.int (nI 1)] rfl rfl rfl rfl rfl rfl (Nat.zero_le _) (Nat.zero_le _) (r_take hS hm hp (by omega) (by omega) h1) ?_
        rw [rdN_1, if_pos hb]
        refine pm_go 1 (pc1 := 6) rfl ?_
        refine pm_icmp rfl (fun z => absurd rfl z) (fun _ => ?_)
        exact pm_go 4 (pc1 := 14) rfl hk
      cases h2 : gC (IA 33) m 8 (p + 1) with
      | none =>
        rw [h2] at ho
        subst ho
        obtain ⟨q, hq, hX⟩ := r_chunksX (d := d) (LA := LA) (RA := RA) (dr := dr) (tl := tl) (N := N) (fr := fr) (w := 8) (by omega) (by omega) hS hm h1 h2
        refine ⟨q, hq, hpre ?_⟩
        exact pm_cX [.int (nI 8)] rfl rfl rfl rfl rfl rfl (Nat.le_refl _) (Nat.le_refl _) hX rfl rfl
      | some z =>
        obtain ⟨v, q⟩ := z
        rw [h2] at ho
        subst ho
        refine ⟨q, (gC_b h2).2.2, hpre ?_⟩
        refine pm_cV [.int (nI 8)] rfl rfl rfl rfl rfl rfl (Nat.zero_le _) (Nat.zero_le _) (r_chunks (by omega) (by omega) hS hm h1 h2) ?_
        refine pm_cV [.int (nI 0), .int (nI v)] rfl rfl rfl rfl (fm_HC hq hF).1 rfl (Nat.zero_le _) (Nat.zero_le _) hadd ?_
        exact pm_vret rfl rfl rfl rfl
    · rw [if_neg hb] at ho
      have hpre : ∀ {r : pm_V} {h' : pm_H} {bc bs : Nat}, pm_X (pm_call (d + 10)) jm_49 4 none (d + 10) bc bs 23 [(0, .ref 20), (1, .ref y)] [.int (nI 3), .ref 20] 0 0 (N, HR IA LA RA SC dr tl (p + 1) fr) r h' → pm_call (d + 11) 49 [.ref 20, .ref y] (N, HR IA LA RA SC dr tl p fr) r h' bc bs := by
        intro r h' bc bs hk
        refine pm_callX jm_49 [(0, .ref 20), (1, .ref y)] rfl rfl rfl ?_
        refine pm_go 2 (pc1 := 2) rfl ?_
        refine pm_cV [.int (nI 1)] rfl rfl rfl rfl rfl rfl (Nat.zero_le _) (Nat.zero_le _) (r_take hS hm hp (by omega) (by omega) h1) ?_
        rw [rdN_1, if_neg hb]
        refine pm_go 1 (pc1 := 6) rfl ?_
        refine pm_icmp rfl (fun _ => ?_) (fun z => absurd (show ¬ nI 0 = 1 by decide) z)
        exact pm_go 2 (pc1 := 23) rfl hk
      by_cases h4 : p + 1 + 3 ≤ 32 * m
      · rw [if_pos h4] at ho
        have hk8 : rdN (IA 33) (p + 1) 3 < 8 := rdN_lt _ _ 3
        have htk := r_take (IA := IA) (LA := LA) (RA := RA) (SC := SC) (dr := dr) (tl := tl) (N := N) (d := d + 9) (p := p + 1) (fr := fr) (n := 3) hS hm h1 (by omega) (by omega) h4
        generalize rdN (IA 33) (p + 1) 3 = k at ho hk8 htk
        have hpre2 : ∀ {r : pm_V} {h' : pm_H} {bc bs : Nat}, pm_X (pm_call (d + 10)) jm_49 4 none (d + 10) bc bs 27 [(0, .ref 20), (1, .ref y), (2, .int (nI k))] [] 0 0 (N, HR IA LA RA SC dr tl (p + 1 + 3) fr) r h' → pm_call (d + 11) 49 [.ref 20, .ref y] (N, HR IA LA RA SC dr tl p fr) r h' bc bs := by
          intro r h' bc bs hk
          refine hpre ?_
          refine pm_cV [.int (nI 3)] rfl rfl rfl rfl rfl rfl (Nat.zero_le _) (Nat.zero_le _) htk ?_
          refine pm_go 1 (pc1 := 27) rfl ?_
          exact pm_lv [(0, .ref 20), (1, .ref y), (2, .int (nI k))] rfl rfl hk
        -- the end: is it an op
        have hend : ∀ (v q : Nat), v < 2 ^ 31 → q ≤ 32 * m → (k = 0 → o = none) → (k ≠ 0 → if opOk k v then o = some (k, v, q) else o = none) → pm_X (pm_call (d + 10)) jm_49 4 none (d + 10) (cO o) (6 * cO o) 46 [(0, .ref 20), (1, .ref y), (2, .int (nI k))] [.int (nI v)] 0 0 (N, HR IA LA RA SC dr tl q fr) (rO3 o) (N, HR IA LA RA SC dr (tO3 o tl y n K V) (qO3 o q) fr) := by
          intro v q hv hq2 h0 hn0
          refine pm_go 2 (pc1 := 48) rfl ?_
          refine pm_if rfl (fun z => ?_) (fun z => ?_)
          · have := h0 ((nI_eqI (b := 0) (by omega) (by omega)).mp z)
            subst this
            exact pm_thr rfl rfl (by omega) rfl (by decide) (by decide) rfl rfl
          · have hn0 := hn0 (fun h => z (show nI k = 0 by rw [h]; rfl))
            refine pm_go 2 (pc1 := 53) rfl ?_
            refine pm_cS [.int (nI k), .int (nI v)] rfl rfl rfl rfl rfl (Nat.zero_le _) (Nat.zero_le _) c_isOp ?_
            rw [cw_ti (show k < 2 ^ 31 by omega), cw_ti hv]
            by_cases hok : opOk k v
            · rw [if_pos hok] at hn0 ⊢
              subst hn0
              refine pm_if rfl (fun _ => ?_) (fun z => absurd (show ¬ (1 : Int32) = 0 by decide) z)
              refine pm_go 3 (pc1 := 72) rfl ?_
              refine pm_cV [.int (nI k), .int (nI v)] rfl rfl rfl rfl (fm_HC hq hF).1 rfl (Nat.zero_le _) (Nat.zero_le _) hadd ?_
              exact pm_vret rfl rfl rfl rfl
            · rw [if_neg hok] at hn0 ⊢
              subst hn0
              refine pm_if rfl (fun z => absurd rfl z) (fun _ => ?_)
              exact pm_thr rfl rfl (by omega) rfl (by decide) (by decide) rfl rfl
        by_cases h12 : k = 1 ∨ k = 2
        · rw [if_neg (by omega), if_pos h12] at ho
          have hpre3 : ∀ {r : pm_V} {h' : pm_H} {bc bs : Nat}, pm_X (pm_call (d + 10)) jm_49 4 none (d + 10) bc bs 39 [(0, .ref 20), (1, .ref y), (2, .int (nI k))] [.int (nI 5), .ref 20] 0 0 (N, HR IA LA RA SC dr tl (p + 1 + 3) fr) r h' → pm_call (d + 11) 49 [.ref 20, .ref y] (N, HR IA LA RA SC dr tl p fr) r h' bc bs := by
            intro r h' bc bs hk
            refine hpre2 ?_
            refine pm_go 2 (pc1 := 29) rfl ?_
            refine pm_icmp rfl (fun _ => pm_go 2 (pc1 := 39) rfl hk) (fun z => ?_)
            have hk2 : k = 2 := h12.resolve_left (fun h => z (show nI k = 1 by rw [h]; rfl))
            refine pm_go 2 (pc1 := 34) rfl ?_
            refine pm_icmp rfl (fun z => absurd (show nI k = 2 by rw [hk2]; rfl) z) (fun _ => pm_go 2 (pc1 := 39) rfl hk)
          cases h5 : gC (IA 33) m 5 (p + 1 + 3) with
          | none =>
            rw [h5] at ho
            subst ho
            obtain ⟨q, hq, hX⟩ := r_chunksX (d := d) (LA := LA) (RA := RA) (dr := dr) (tl := tl) (N := N) (fr := fr) (w := 5) (by omega) (by omega) hS hm h4 h5
            refine ⟨q, hq, hpre3 ?_⟩
            exact pm_cX [.int (nI 5)] rfl rfl rfl rfl rfl rfl (Nat.le_refl _) (Nat.le_refl _) hX rfl rfl
          | some z =>
            obtain ⟨v, q⟩ := z
            obtain ⟨c1, c2, c3⟩ := gC_b h5
            rw [h5] at ho
            dsimp only at ho
            refine ⟨q, c3, hpre3 ?_⟩
            refine pm_cV [.int (nI 5)] rfl rfl rfl rfl rfl rfl (Nat.zero_le _) (Nat.zero_le _) (r_chunks (by omega) (by omega) hS hm h4 h5) ?_
            refine pm_go 1 (pc1 := 46) rfl ?_
            refine hend v q c1 c3 (fun h => absurd h (by omega)) (fun _ => ?_)
            by_cases hv : k ≤ v ∧ v ≤ 31
            · rw [if_pos hv] at ho
              rw [if_pos (by omega)]
              exact ho.symm
            · rw [if_neg hv] at ho
              rw [if_neg (by omega)]
              exact ho.symm
        · refine ⟨p + 1 + 3, h4, hpre2 ?_⟩
          refine pm_go 2 (pc1 := 29) rfl ?_
          refine pm_icmp rfl (fun z => absurd ((nI_eqI (b := 1) (by omega) (by omega)).mp z) (by omega)) (fun _ => ?_)
          refine pm_go 2 (pc1 := 34) rfl ?_
          refine pm_icmp rfl (fun _ => ?_) (fun z => absurd ((nI_eqI (b := 2) (by omega) (by omega)).mp (Classical.not_not.mp z)) (by omega))
          refine pm_go 1 (pc1 := 46) rfl ?_
          refine hend 0 (p + 1 + 3) (by omega) h4 (fun h => ?_) (fun h => ?_)
          · rw [if_neg (by omega), if_neg (by omega)] at ho
            exact ho.symm
          · by_cases h3 : k = 3
            · rw [if_pos h3] at ho
              rw [if_pos (by omega), h3]
              exact ho.symm
            · rw [if_neg h3, if_neg h12] at ho
              rw [if_neg (by omega)]
              exact ho.symm
      · rw [if_neg h4] at ho
        subst ho
        refine ⟨p + 1, h1, hpre ?_⟩
        exact pm_cX [.int (nI 3)] rfl rfl rfl rfl rfl rfl (Nat.le_refl _) (Nat.le_refl _) (r_takeX hS hm h1 (by omega) h4) rfl rfl
  · rw [if_neg h1] at ho
    subst ho
    refine ⟨p, hp, ?_⟩
    refine pm_callX jm_49 [(0, .ref 20), (1, .ref y)] rfl rfl rfl ?_
    refine pm_go 2 (pc1 := 2) rfl ?_
    exact pm_cX [.int (nI 1)] rfl rfl rfl rfl rfl rfl (Nat.le_refl _) (Nat.le_refl _) (r_takeX hS hm hp (by omega) h1) rfl rfl
end RF
