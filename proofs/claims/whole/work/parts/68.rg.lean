/-! THE READER: a form -/
theorem pOps_pre {g : Nat → Int32} {m p : Nat} : ∀ {n : Nat} {z : (Nat → Nat) × (Nat → Nat) × Nat}, pOps g m p n = some z → ∀ k, k ≤ n → ∃ y, pOps g m p k = some y
  | 0, z, h, k, hk => by
    have e : k = 0 := by omega
    subst e
    exact ⟨z, h⟩
  | n + 1, z, h, k, hk => by
    by_cases e : k = n + 1
    · subst e; exact ⟨z, h⟩
    · unfold pOps at h
      split at h
      · cases h
      · rename_i y hy
        exact pOps_pre hy k (by omega)
theorem pOps_s {g : Nat → Int32} {m p n : Nat} {kk vv : Nat → Nat} {q : Nat} (h : pOps g m p n = some (kk, vv, q)) : pOps g m p (n + 1) = match pOp g m q with | none => none | some y => some (va_up kk n y.1, va_up vv n y.2.1, y.2.2) := by
  show (match pOps g m p n with | none => none | some z => match pOp g m z.2.2 with | none => none | some y => some (va_up z.1 n y.1, va_up z.2.1 n y.2.1, y.2.2)) = _
  rw [h]
abbrev tlS (tl tl' : Nat → va_E) (y : Nat) : Prop := ∀ j, j ≠ y → j ≠ y + 1 → j ≠ y + 2 → tl' j = tl j
section RG
variable {IA : Nat → Nat → Int32} {LA : Nat → Nat → Int64} {RA : Nat → Nat → Option Nat} {SC : Nat → Nat → Int32} {dr : Nat} {N d m p dp y n : Nat} {fr : Nat → Int32} {ro : Int32} {bc bs c s : Nat}
theorem r_fm_ok {p1 q2 : Nat} {kk2 vv2 : Nat → Nat} (hS : SC 20 2 = nI m) (hm : m ≤ 64) (hp1 : p1 ≤ 32 * m) (hq : okq y) (hn : n ≤ 8) (hc : c ≤ bc) (hs : s ≤ bs) (hall : pOps (IA 33) m p1 n = some (kk2, vv2, q2)) : ∀ (j k p : Nat) (tl : Nat → va_E) (kk vv : Nat → Nat), k + j = n → pOps (IA 33) m p1 k = some (kk, vv, p) → fmAt tl y k (nF kk) (nF vv) →
    ∃ tl', fmAt tl' y n (nF kk2) (nF vv2) ∧ tlS tl tl' y ∧ ∀ (r : pm_V) (h' : pm_H), pm_X (pm_call (d + 11)) jm_48 5 (some .int) (d + 11) bc bs 87 [(0, .ref 20), (1, .int ro), (2, .int (nI n)), (3, .ref y)] [] c s (N, HR IA LA RA SC dr tl' q2 fr) r h' → pm_X (pm_call (d + 11)) jm_48 5 (some .int) (d + 11) bc bs 70 [(0, .ref 20), (1, .int ro), (2, .int (nI n)), (3, .ref y), (4, .int (nI k))] [] c s (N, HR IA LA RA SC dr tl p fr) r h' := by
  intro j
  induction j with
  | zero =>
    intro k p tl kk vv hk hP hF
    have e : k = n := by omega
    subst e
    rw [hall] at hP
    cases hP
    refine ⟨tl, hF, fun j _ _ _ => rfl, fun r h' hX => ?_⟩
    refine pm_go 2 (pc1 := 73) rfl ?_
    refine pm_icmp rfl (fun _ => ?_) (fun z => absurd ((nI_leI (by omega) (by omega)).mpr (Nat.le_refl _)) z)
    exact pm_lv [(0, .ref 20), (1, .int ro), (2, .int (nI k)), (3, .ref y)] rfl rfl hX
  | succ j ih =>
    intro k p tl kk vv hk hP hF
    obtain ⟨hb1, hb2, hb3⟩ := pOps_b hp1 _ hP
    obtain ⟨z, hz⟩ := pOps_pre hall (k + 1) (by omega)
    have hz2 := hz
    rw [pOps_s hP] at hz2
    cases h1 : pOp (IA 33) m p with
    | none => rw [h1] at hz2; cases hz2
    | some o =>
      obtain ⟨k1, v1, q1⟩ := o
      rw [h1] at hz2
      cases hz2
      obtain ⟨q, _, hX1⟩ := r_opO (LA := LA) (RA := RA) (dr := dr) (N := N) (d := d) (fr := fr) hS hm hb3 hq hF (by omega) _ h1
      have hF2 : fmAt (fmAdd tl y k (nF kk) (nF vv) (nI k1) (nI v1)) y (k + 1) (nF (va_up kk k k1)) (nF (va_up vv k v1)) := by
        have := fmAdd_at (f := tl) (q := y) (n := k) (K := nF kk) (V := nF vv) (k := nI k1) (v := nI v1) (by omega)
        rw [nF_up, nF_up] at this
        exact this
      obtain ⟨tl', hf', hfr, hgo⟩ := ih (k + 1) q1 (fmAdd tl y k (nF kk) (nF vv) (nI k1) (nI v1)) _ _ (by omega) hz hF2
      refine ⟨tl', hf', fun i a1 a2 a3 => (hfr i a1 a2 a3).trans (fmAdd_ne a1 a2 a3), fun r h' hX => ?_⟩
      refine pm_go 2 (pc1 := 73) rfl ?_
      refine pm_icmp rfl (fun z => absurd ((nI_leI (by omega) (by omega)).mp z) (by omega)) (fun _ => ?_)
      refine pm_go 2 (pc1 := 78) rfl ?_
      refine pm_cV [.ref y] rfl rfl rfl rfl rfl rfl (by exact hc) (by exact hs) hX1 ?_
      refine pm_go 2 (pc1 := 70) rfl ?_
      rw [nI_1]
      exact pm_lv [(0, .ref 20), (1, .int ro), (2, .int (nI n)), (3, .ref y), (4, .int (nI (k + 1)))] rfl rfl (hgo r h' hX)
theorem r_fm_bad {p1 : Nat} (hS : SC 20 2 = nI m) (hm : m ≤ 64) (hp1 : p1 ≤ 32 * m) (hq : okq y) (hn : n ≤ 8) (hc : c + 1 ≤ bc) (hs : s + 6 ≤ bs) (hall : pOps (IA 33) m p1 n = none) : ∀ (j k p : Nat) (tl : Nat → va_E) (kk vv : Nat → Nat), k + j = n → pOps (IA 33) m p1 k = some (kk, vv, p) → fmAt tl y k (nF kk) (nF vv) →
    ∃ tl' q, q ≤ 32 * m ∧ tlS tl tl' y ∧ pm_X (pm_call (d + 11)) jm_48 5 (some .int) (d + 11) bc bs 70 [(0, .ref 20), (1, .int ro), (2, .int (nI n)), (3, .ref y), (4, .int (nI k))] [] c s (N, HR IA LA RA SC dr tl p fr) (.inr 0) (N, HR IA LA RA SC dr tl' q fr) := by
  intro j
  induction j with
  | zero =>
    intro k p tl kk vv hk hP hF
    have e : k = n := by omega
    subst e
    rw [hall] at hP
    cases hP
  | succ j ih =>
    intro k p tl kk vv hk hP hF
    obtain ⟨hb1, hb2, hb3⟩ := pOps_b hp1 _ hP
    cases h1 : pOp (IA 33) m p with
    | none =>
      obtain ⟨q, hq2, hX1⟩ := r_opO (LA := LA) (RA := RA) (dr := dr) (N := N) (d := d) (fr := fr) hS hm hb3 hq hF (by omega) _ h1
      refine ⟨tl, q, hq2, fun _ _ _ _ => rfl, ?_⟩
      refine pm_go 2 (pc1 := 73) rfl ?_
      refine pm_icmp rfl (fun z => absurd ((nI_leI (by omega) (by omega)).mp z) (by omega)) (fun _ => ?_)
      refine pm_go 2 (pc1 := 78) rfl ?_
      exact pm_cX [.ref y] rfl rfl rfl rfl rfl rfl hc hs hX1 rfl rfl
    | some o =>
      obtain ⟨k1, v1, q1⟩ := o
      have hz := pOps_s hP
      rw [h1] at hz
      obtain ⟨q, _, hX1⟩ := r_opO (LA := LA) (RA := RA) (dr := dr) (N := N) (d := d) (fr := fr) hS hm hb3 hq hF (by omega) _ h1
      have hF2 : fmAt (fmAdd tl y k (nF kk) (nF vv) (nI k1) (nI v1)) y (k + 1) (nF (va_up kk k k1)) (nF (va_up vv k v1)) := by
        have := fmAdd_at (f := tl) (q := y) (n := k) (K := nF kk) (V := nF vv) (k := nI k1) (v := nI v1) (by omega)
        rw [nF_up, nF_up] at this
        exact this
      obtain ⟨tl', q', hq', hfr, hgo⟩ := ih (k + 1) q1 (fmAdd tl y k (nF kk) (nF vv) (nI k1) (nI v1)) _ _ (by omega) hz hF2
      refine ⟨tl', q', hq', fun i a1 a2 a3 => (hfr i a1 a2 a3).trans (fmAdd_ne a1 a2 a3), ?_⟩
      refine pm_go 2 (pc1 := 73) rfl ?_
      refine pm_icmp rfl (fun z => absurd ((nI_leI (by omega) (by omega)).mp z) (by omega)) (fun _ => ?_)
      refine pm_go 2 (pc1 := 78) rfl ?_
      refine pm_cV [.ref y] rfl rfl rfl rfl rfl rfl (by exact Nat.le_of_succ_le hc) (by exact Nat.le_trans (Nat.le_add_right s 6) hs) hX1 ?_
      refine pm_go 2 (pc1 := 70) rfl ?_
      rw [nI_1]
      exact pm_lv [(0, .ref 20), (1, .int ro), (2, .int (nI n)), (3, .ref y), (4, .int (nI (k + 1)))] rfl rfl hgo
end RG
section RG2
variable {IA : Nat → Nat → Int32} {LA : Nat → Nat → Int64} {RA : Nat → Nat → Option Nat} {SC : Nat → Nat → Int32} {dr : Nat} {tl : Nat → va_E} {N d m p dp n : Nat} {fr : Nat → Int32} {bc bs : Nat}
/-- a form behind its number: how many ops, their kinds and numbers, where it ends -/
def pF (g : Nat → Int32) (m p : Nat) : Option (Nat × (Nat → Nat) × (Nat → Nat) × Nat) := match gC g m 5 p with
  | none => none
  | some (n, p1) => if n ≤ 8 then match pOps g m p1 n with
    | none => none
    | some (kk, vv, q) => if fmOk (nF kk) n then some (n, kk, vv, q) else none
    else none
theorem HC_addr {ro mm y : Nat} : frAdd (HC IA LA RA SC dr tl) 23 (RA 24) (IA 25) ro mm y = HC (va_up IA 25 (upd (IA 25) ro (nI (mm + 1)))) LA (va_up RA 24 (va_up (RA 24) (8 * ro + mm) (some y))) SC dr tl := by
  refine (congrArg (fun z => va_up z 25 _) (hr_24 ..)).trans ?_
  exact hi_25 ..
def foIA (IA : Nat → Nat → Int32) (ro mm n : Nat) : Nat → Nat → Int32 := va_up (va_up (va_up IA 35 (upd (IA 35) 0 (nI n))) 25 (upd (IA 25) ro (nI (mm + 1)))) 35 (upd (upd (IA 35) 0 (nI n)) 1 (nI (4 + mm)))
def foSC (SC : Nat → Nat → Int32) : Nat → Nat → Int32 := va_up SC 20 (upd (SC 20) 7 2)
theorem sc20 {SC : Nat → Nat → Int32} {x : Nat → Int32} {i : Nat} : va_up SC 20 x (26 + i) = SC (26 + i) := by
  show (if 26 + i = 20 then x else SC (26 + i)) = SC (26 + i)
  rw [if_neg (by omega)]
theorem r_form_pre {r : pm_V} {h' : pm_H} {ro mm : Nat} (hD : SC 21 2 = nI dp) (hd : dp ≤ 6) (hL : ∀ i, i < 7 → RA 22 i = some (26 + i)) (hx : rowX (SC (26 + dp)) dp = nI ro) (hro : ro < 71) (hG : IA 25 ro = nI mm) (hmm : mm < 8)
    (k : pm_X (pm_call (d + 11)) jm_48 5 (some .int) (d + 11) bc bs 37 [(0, .ref 20), (1, .int (nI ro))] [] 0 0 (N, HR IA LA RA SC dr tl p fr) r h') : pm_call (d + 12) 48 [.ref 20] (N, HR IA LA RA SC dr tl p fr) r h' bc bs := by
  have hQ := ns_HCr (IA := va_up IA 34 fr) (LA := LA) (dr := dr) (tl := tl) (RA := RA) (SC := va_up SC 20 (upd (SC 20) 3 (nI p))) (dp := dp) hD hd hL
  refine pm_callX jm_48 [(0, .ref 20)] rfl rfl rfl ?_
  refine pm_go 1 (pc1 := 1) rfl ?_
  refine pm_getf rfl rfl rfl ?_
  refine pm_cV [] rfl rfl rfl rfl rfl rfl (Nat.zero_le _) (Nat.zero_le _) (c_rowToExtend hQ) ?_
  rw [sc20]
  refine pm_nm (y := nI ro) hx ?_
  refine pm_go 3 (pc1 := 10) rfl ?_
  refine pm_icmp rfl (fun z => absurd (congrArg Int32.toInt z) (by rw [cw_ti (by omega)]; exact fun h => absurd h (by show ¬ (ro : Int) = -1; omega))) (fun _ => ?_)
  refine pm_go 1 (pc1 := 14) rfl ?_
  refine pm_getf rfl rfl rfl ?_
  refine pm_getf rfl rfl rfl ?_
  refine pm_go 1 (pc1 := 21) rfl ?_
  refine pm_cV [.int (nI ro)] rfl rfl rfl rfl rfl rfl (Nat.zero_le _) (Nat.zero_le _) (c_hasRoom hQ.2.2.2.1 hro hG (by omega)) ?_
  rw [if_pos hmm]
  refine pm_if rfl (fun _ => ?_) (fun z => absurd (show ¬ (1 : Int32) = 0 by decide) z)
  exact pm_lv [(0, .ref 20), (1, .int (nI ro))] rfl rfl k
theorem r_formR (hD : SC 21 2 = nI dp) (hd : dp ≤ 6) (hL : ∀ i, i < 7 → RA 22 i = some (26 + i)) (hX : rowX (SC (26 + dp)) dp = -1 ∨ ∃ ro, rowX (SC (26 + dp)) dp = nI ro ∧ ro < 71 ∧ IA 25 ro = nI 8) : pm_call (d + 12) 48 [.ref 20] (N, HR IA LA RA SC dr tl p fr) (.inr 0) (N, HR IA LA RA SC dr tl p fr) 4 25 := by
  have hQ := ns_HCr (IA := va_up IA 34 fr) (LA := LA) (dr := dr) (tl := tl) (RA := RA) (SC := va_up SC 20 (upd (SC 20) 3 (nI p))) (dp := dp) hD hd hL
  refine pm_callX jm_48 [(0, .ref 20)] rfl rfl rfl ?_
  refine pm_go 1 (pc1 := 1) rfl ?_
  refine pm_getf rfl rfl rfl ?_
  refine pm_cV [] rfl rfl rfl rfl rfl rfl (Nat.zero_le _) (Nat.zero_le _) (c_rowToExtend hQ) ?_
  rw [sc20]
  rcases hX with h | ⟨ro, hx, hro, hG⟩
  · refine pm_nm (y := -1) h ?_
    refine pm_go 3 (pc1 := 10) rfl ?_
    refine pm_icmp rfl (fun _ => ?_) (fun z => absurd rfl z)
    exact pm_thr rfl rfl (by omega) rfl (by decide) (by decide) rfl rfl
  · refine pm_nm (y := nI ro) hx ?_
    refine pm_go 3 (pc1 := 10) rfl ?_
    refine pm_icmp rfl (fun z => absurd (congrArg Int32.toInt z) (by rw [cw_ti (by omega)]; exact fun h => absurd h (by show ¬ (ro : Int) = -1; omega))) (fun _ => ?_)
    refine pm_go 1 (pc1 := 14) rfl ?_
    refine pm_getf rfl rfl rfl ?_
    refine pm_getf rfl rfl rfl ?_
    refine pm_go 1 (pc1 := 21) rfl ?_
    refine pm_cV [.int (nI ro)] rfl rfl rfl rfl rfl rfl (Nat.zero_le _) (Nat.zero_le _) (c_hasRoom hQ.2.2.2.1 hro hG (by omega)) ?_
    rw [if_neg (by omega)]
    refine pm_if rfl (fun z => absurd rfl z) (fun _ => ?_)
    exact pm_thr rfl rfl (by omega) rfl (by decide) (by decide) rfl rfl
theorem r_form_new {r : pm_V} {h' : pm_H} {ro : Int32} {p1 : Nat} (hNN : 56 ≤ N) (hS : SC 20 2 = nI m) (hm : m ≤ 64) (hp : p ≤ 32 * m) (h1 : gC (IA 33) m 5 p = some (n, p1)) (hn : n ≤ 8) (hc : 3 ≤ bc) (hs : 19 ≤ bs)
    (k : pm_X (pm_call (d + 11)) jm_48 5 (some .int) (d + 11) bc bs 70 [(0, .ref 20), (1, .int ro), (2, .int (nI n)), (3, .ref N), (4, .int (nI 0))] [] 3 19 (N + 3, HR IA LA RA SC dr (tlNew tl N) p1 fr) r h') : pm_X (pm_call (d + 11)) jm_48 5 (some .int) (d + 11) bc bs 37 [(0, .ref 20), (1, .int ro)] [] 0 0 (N, HR IA LA RA SC dr tl p fr) r h' := by
  refine pm_go 2 (pc1 := 39) rfl ?_
  refine pm_cV [.int (nI 5)] rfl rfl rfl rfl rfl rfl (Nat.zero_le _) (Nat.zero_le _) (r_chunks (d := d + 1) (by omega) (by omega) hS hm hp h1) ?_
  refine pm_go 3 (pc1 := 46) rfl ?_
  refine pm_icmp rfl (fun _ => ?_) (fun z => absurd ((nI_leI (b := 8) (by omega) (by omega)).mpr hn) z)
  refine pm_new rfl rfl (by omega) (by omega) ?_
  refine pm_go 1 (pc1 := 63) rfl ?_
  refine pm_cI [] rfl rfl rfl rfl rfl (by omega) (by omega) (c_Form_init (z := 0) (Nat.lt_succ_self N) (va_up_self _ _ _)) ?_
  rw [ht_big _ _ _ _ _ _ _ hNN, ht_big _ _ _ _ _ _ _ (show 56 ≤ N + 1 by omega), ht_big _ _ _ _ _ _ _ (show 56 ≤ N + 1 + 1 by omega), ht_big _ _ _ _ _ _ _ hNN]
  refine pm_go 3 (pc1 := 70) rfl ?_
  exact pm_lv [(0, .ref 20), (1, .int ro), (2, .int (nI n)), (3, .ref N), (4, .int (nI 0))] rfl rfl k
theorem r_form {ro mm q : Nat} {kk vv : Nat → Nat} (hNN : 56 ≤ N) (hS : SC 20 2 = nI m) (hm : m ≤ 64) (hp : p ≤ 32 * m) (hD : SC 21 2 = nI dp) (hd : dp ≤ 6) (hL : ∀ i, i < 7 → RA 22 i = some (26 + i)) (hx : rowX (SC (26 + dp)) dp = nI ro) (hro : ro < 71) (hG : IA 25 ro = nI mm) (hmm : mm < 8) (hE : pF (IA 33) m p = some (n, kk, vv, q)) :
    ∃ tl', fmAt tl' N n (nF kk) (nF vv) ∧ (∀ j, j < N → tl' j = tl j) ∧ pm_call (d + 12) 48 [.ref 20] (N, HR IA LA RA SC dr tl p fr) (.inl (some (.int 3))) (N + 3, HC (foIA (va_up IA 34 fr) ro mm n) LA (va_up RA 24 (va_up (RA 24) (8 * ro + mm) (some N))) (foSC (va_up SC 20 (upd (SC 20) 3 (nI q)))) dr tl') 3 19 := by
  unfold pF at hE
  cases h1 : gC (IA 33) m 5 p with
  | none => rw [h1] at hE; cases hE
  | some z =>
    obtain ⟨n', p1⟩ := z
    rw [h1] at hE
    dsimp only at hE
    obtain ⟨b1, b2, b3⟩ := gC_b h1
    split at hE
    · rename_i hn
      cases h2 : pOps (IA 33) m p1 n' with
      | none => rw [h2] at hE; cases hE
      | some z =>
        obtain ⟨kk', vv', q'⟩ := z
        rw [h2] at hE
        dsimp only at hE
        split at hE
        · rename_i hok
          cases hE
          obtain ⟨tl', hF', hfr, hgo⟩ := r_fm_ok (LA := LA) (RA := RA) (dr := dr) (N := N + 3) (d := d) (fr := fr) (ro := nI ro) (bc := 3) (bs := 19) (c := 3) (s := 19) hS hm b3 (.inr hNN) hn (Nat.le_refl _) (Nat.le_refl _) h2 n 0 p1 (tlNew tl N) _ _ (by omega) rfl tlNew_at
          have hFq : ∀ {IA : Nat → Nat → Int32} {SC : Nat → Nat → Int32}, fmAt (HC IA LA RA SC dr tl') N n (nF kk) (nF vv) := fun {_ _} => fm_HC (.inr hNN) hF'
          have hQ := ns_HCr (IA := va_up (va_up IA 34 fr) 35 (upd (IA 35) 0 (nI n))) (LA := LA) (dr := dr) (tl := tl') (RA := RA) (SC := va_up SC 20 (upd (SC 20) 3 (nI q))) (dp := dp) hD hd hL
          refine ⟨tl', hF', fun j hj => ?_, ?_⟩
          · rw [hfr j (by omega) (by omega) (by omega), tlNew_ne hj]
          · refine r_form_pre hD hd hL hx hro hG hmm ?_
            refine r_form_new hNN hS hm hp h1 hn (Nat.le_refl _) (Nat.le_refl _) (hgo _ _ ?_)
            refine pm_go 1 (pc1 := 88) rfl ?_
            refine pm_cV [] rfl rfl rfl rfl hFq.1 rfl (Nat.le_refl _) (Nat.le_refl _) (c_isForm hFq) ?_
            rw [if_pos hok]
            refine pm_if rfl (fun _ => ?_) (fun z => absurd (show ¬ (1 : Int32) = 0 by decide) z)
            refine pm_go 1 (pc1 := 105) rfl ?_
            refine pm_getf rfl rfl rfl ?_
            refine pm_go 2 (pc1 := 110) rfl ?_
            refine pm_iastU (j := 0) rfl rfl rfl (by omega) (hi_35 ..) ?_
            refine pm_go 1 (pc1 := 112) rfl ?_
            refine pm_getf rfl rfl rfl ?_
            refine pm_go 2 (pc1 := 117) rfl ?_
            refine pm_getf rfl rfl rfl ?_
            refine pm_getf rfl rfl rfl ?_
            refine pm_go 2 (pc1 := 125) rfl ?_
            refine pm_cV [.int (nI ro), .ref N] rfl rfl rfl rfl rfl rfl (Nat.le_refl _) (Nat.le_refl _) (c_addForm hQ.2.2.2.1 hro hG hmm hFq.1) ?_
            refine pm_hp HC_addr ?_
            refine pm_iastU (j := 1) rfl rfl rfl (by omega) (hi_35 ..) ?_
            refine pm_go 2 (pc1 := 131) rfl ?_
            refine pm_putU rfl rfl rfl rfl (hs_20_7 ..) ?_
            refine pm_go 1 (pc1 := 135) rfl ?_
            exact pm_iret rfl rfl rfl rfl
        · cases hE
    · cases hE
theorem r_formX {ro mm : Nat} (hNN : 56 ≤ N) (hS : SC 20 2 = nI m) (hm : m ≤ 64) (hp : p ≤ 32 * m) (hD : SC 21 2 = nI dp) (hd : dp ≤ 6) (hL : ∀ i, i < 7 → RA 22 i = some (26 + i)) (hx : rowX (SC (26 + dp)) dp = nI ro) (hro : ro < 71) (hG : IA 25 ro = nI mm) (hmm : mm < 8) (hE : pF (IA 33) m p = none) :
    ∃ N' tl' q, N ≤ N' ∧ N' ≤ N + 3 ∧ q ≤ 32 * m ∧ (∀ j, j < N → tl' j = tl j) ∧ pm_call (d + 12) 48 [.ref 20] (N, HR IA LA RA SC dr tl p fr) (.inr 0) (N', HR IA LA RA SC dr tl' q fr) 4 25 := by
  unfold pF at hE
  cases h1 : gC (IA 33) m 5 p with
  | none =>
    obtain ⟨q, hq, hX⟩ := r_chunksX (d := d + 1) (LA := LA) (RA := RA) (dr := dr) (tl := tl) (N := N) (fr := fr) (w := 5) (by omega) (by omega) hS hm hp h1
    refine ⟨N, tl, q, Nat.le_refl _, by omega, hq, fun _ _ => rfl, r_form_pre hD hd hL hx hro hG hmm ?_⟩
    refine pm_go 2 (pc1 := 39) rfl ?_
    exact pm_cX [.int (nI 5)] rfl rfl rfl rfl rfl rfl (by decide) (by decide) hX rfl rfl
  | some z =>
    obtain ⟨n', p1⟩ := z
    rw [h1] at hE
    dsimp only at hE
    obtain ⟨b1, b2, b3⟩ := gC_b h1
    by_cases hn : n' ≤ 8
    · rw [if_pos hn] at hE
      cases h2 : pOps (IA 33) m p1 n' with
      | none =>
        obtain ⟨tl', q, hq, hfr, hgo⟩ := r_fm_bad (LA := LA) (RA := RA) (dr := dr) (N := N + 3) (d := d) (fr := fr) (ro := nI ro) (bc := 4) (bs := 25) (c := 3) (s := 19) hS hm b3 (.inr hNN) hn (by decide) (by decide) h2 n' 0 p1 (tlNew tl N) _ _ (by omega) rfl tlNew_at
        refine ⟨N + 3, tl', q, by omega, by omega, hq, fun j hj => ?_, ?_⟩
        · rw [hfr j (by omega) (by omega) (by omega), tlNew_ne hj]
        · refine r_form_pre hD hd hL hx hro hG hmm ?_
          exact r_form_new hNN hS hm hp h1 hn (by decide) (by decide) hgo
      | some z =>
        obtain ⟨kk', vv', q'⟩ := z
        rw [h2] at hE
        dsimp only at hE
        have hok : ¬ fmOk (nF kk') n' := by
          intro h
          rw [if_pos h] at hE
          cases hE
        obtain ⟨tl', hF', hfr, hgo⟩ := r_fm_ok (LA := LA) (RA := RA) (dr := dr) (N := N + 3) (d := d) (fr := fr) (ro := nI ro) (bc := 4) (bs := 25) (c := 3) (s := 19) hS hm b3 (.inr hNN) hn (by decide) (by decide) h2 n' 0 p1 (tlNew tl N) _ _ (by omega) rfl tlNew_at
        have hFq : ∀ {IA : Nat → Nat → Int32} {SC : Nat → Nat → Int32}, fmAt (HC IA LA RA SC dr tl') N n' (nF kk') (nF vv') := fun {_ _} => fm_HC (.inr hNN) hF'
        refine ⟨N + 3, tl', q', by omega, by omega, (pOps_b b3 _ h2).2.2, fun j hj => ?_, ?_⟩
        · rw [hfr j (by omega) (by omega) (by omega), tlNew_ne hj]
        · refine r_form_pre hD hd hL hx hro hG hmm ?_
          refine r_form_new hNN hS hm hp h1 hn (by decide) (by decide) (hgo _ _ ?_)
          refine pm_go 1 (pc1 := 88) rfl ?_
          refine pm_cV [] rfl rfl rfl rfl hFq.1 rfl (by decide) (by decide) (c_isForm hFq) ?_
          rw [if_neg hok]
          refine pm_if rfl (fun z => absurd rfl z) (fun _ => ?_)
          exact pm_thr rfl rfl (by omega) rfl (by decide) (by decide) rfl rfl
    · refine ⟨N, tl, p1, Nat.le_refl _, by omega, b3, fun _ _ => rfl, r_form_pre hD hd hL hx hro hG hmm ?_⟩
      refine pm_go 2 (pc1 := 39) rfl ?_
      refine pm_cV [.int (nI 5)] rfl rfl rfl rfl rfl rfl (Nat.zero_le _) (Nat.zero_le _) (r_chunks (d := d + 1) (by omega) (by omega) hS hm hp h1) ?_
      refine pm_go 3 (pc1 := 46) rfl ?_
      refine pm_icmp rfl (fun z => absurd ((nI_leI (b := 8) (by omega) (by omega)).mp z) hn) (fun _ => ?_)
      exact pm_thr rfl rfl (by omega) rfl (by decide) (by decide) rfl rfl
end RG2
