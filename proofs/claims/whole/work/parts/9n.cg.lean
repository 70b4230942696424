/-! READING: only the words that there are matter -/
abbrev Ag (m : Nat) (g g' : Nat → Int32) : Prop := ∀ i, i < m → g' i = g i
section CG
variable {m : Nat} {g g' : Nat → Int32}
theorem sb_cg (h : Ag m g g') {j : Nat} (hj : j < 32 * m) : sb g' j = sb g j := by
  unfold sb
  rw [h _ (by omega)]
theorem rdN_cg (h : Ag m g g') {p : Nat} : ∀ n, p + n ≤ 32 * m → rdN g' p n = rdN g p n
  | 0, _ => rfl
  | n + 1, hn => by
    rw [rdN_s, rdN_s, rdN_cg h n (by omega), sb_cg h (by omega)]
theorem gc_cg (h : Ag m g g') {w : Nat} : ∀ f p sh x, gc g' m w f p sh x = gc g m w f p sh x
  | 0, _, _, _ => rfl
  | f + 1, p, sh, x => by
    unfold gc
    by_cases hp : p + w ≤ 32 * m
    · rw [if_pos hp, if_pos hp, rdN_cg h w hp, gc_cg h f]
    · rw [if_neg hp, if_neg hp]
theorem gC_cg (h : Ag m g g') (w p : Nat) : gC g' m w p = gC g m w p := gc_cg h _ _ _ _
theorem gL_cg (h : Ag m g g') (p : Nat) : gL g' m p = gL g m p := by
  unfold gL
  by_cases hp : p + 32 ≤ 32 * m
  · rw [if_pos hp, if_pos hp, rdN_cg h 32 hp]
  · rw [if_neg hp, if_neg hp]
theorem pE_cg (h : Ag m g g') (p : Nat) : pE g' m p = pE g m p := by
  unfold pE
  rw [gC_cg h]
  cases h1 : gC g m 6 p with
  | none => rfl
  | some z =>
    obtain ⟨i, p1⟩ := z
    dsimp only
    rw [gC_cg h]
    cases h2 : gC g m 4 p1 with
    | none => rfl
    | some z =>
      obtain ⟨w, p2⟩ := z
      dsimp only
      have hb := (gC_b h2).2.2
      rw [gL_cg h, rdN_cg h (zN p2) (zN_le hb)]
theorem pOp_cg (h : Ag m g g') (p : Nat) : pOp g' m p = pOp g m p := by
  unfold pOp
  by_cases h1 : p + 1 ≤ 32 * m
  · rw [if_pos h1, if_pos h1, sb_cg h (by omega), gC_cg h]
    by_cases h2 : sb g p = true
    · rw [if_pos h2, if_pos h2]
    · rw [if_neg h2, if_neg h2]
      by_cases h3 : p + 1 + 3 ≤ 32 * m
      · rw [if_pos h3, if_pos h3, rdN_cg h 3 h3, gC_cg h]
      · rw [if_neg h3, if_neg h3]
  · rw [if_neg h1, if_neg h1]
theorem pOps_cg (h : Ag m g g') (p : Nat) : ∀ n, pOps g' m p n = pOps g m p n
  | 0 => rfl
  | n + 1 => by
    unfold pOps
    rw [pOps_cg h p n]
    cases h1 : pOps g m p n with
    | none => rfl
    | some z =>
      dsimp only
      rw [pOp_cg h]
theorem pF_cg (h : Ag m g g') (p : Nat) : pF g' m p = pF g m p := by
  unfold pF
  rw [gC_cg h]
  cases h1 : gC g m 5 p with
  | none => rfl
  | some z =>
    obtain ⟨n, p1⟩ := z
    dsimp only
    rw [pOps_cg h]
theorem pBy_cg (h : Ag m g g') (k v p : Nat) : pBy g' m k v p = pBy g m k v p := by
  unfold pBy
  by_cases h1 : k = 1
  · rw [if_pos h1, if_pos h1]
    by_cases h2 : p + v ≤ 32 * m
    · rw [if_pos h2, if_pos h2, rdN_cg h v h2]
    · rw [if_neg h2, if_neg h2]
  · rw [if_neg h1, if_neg h1, gC_cg h]
theorem pPl_cg (h : Ag m g g') (p : Nat) : pPl g' m p = pPl g m p := by
  have e : (fun _ : Nat => gC g' m 6) = (fun _ : Nat => gC g m 6) := by
    funext _ q
    exact gC_cg h 6 q
  unfold pPl
  rw [gC_cg h]
  cases h1 : gC g m 6 p with
  | none => rfl
  | some z =>
    obtain ⟨c, p1⟩ := z
    dsimp only
    rw [gC_cg h, e]
theorem pBF_cg (h : Ag m g g') (n : Nat) (kk vv : Nat → Nat) (p : Nat) : pBF g' m n kk vv p = pBF g m n kk vv p := by
  have e1 : (fun i => pBy g' m (kk i) (vv i)) = (fun i => pBy g m (kk i) (vv i)) := by
    funext i q
    exact pBy_cg h _ _ q
  have e2 : (fun _ : Nat => pBy g' m (kk (n - 1)) (vv (n - 1))) = (fun _ : Nat => pBy g m (kk (n - 1)) (vv (n - 1))) := by
    funext i q
    exact pBy_cg h _ _ q
  unfold pBF
  rw [e1, e2]
  cases h1 : pSq (fun i => pBy g m (kk i) (vv i)) 0 (fun _ => 0) p (sgN kk n) with
  | none => rfl
  | some z =>
    obtain ⟨nu, p1⟩ := z
    dsimp only
    rw [gC_cg h]
/-- a whole word read is the word -/
theorem rdN_word (g : Nat → Int32) {p : Nat} (hp : p % 32 = 0) : nI (rdN g p 32) = g (p / 32) := by
  refine b_ext fun k hk => ?_
  rw [bt_nI _ _ hk, rdN_tb]
  unfold sb
  rw [show (p + k) / 32 = p / 32 by omega, show (p + k) % 32 = k by omega]
  simp [hk]
theorem zN_al (p : Nat) : (p + zN p) % 32 = 0 := by
  unfold zN
  omega
/-- a form takes sixteen bits at least, its number among them -/
theorem pOps_ge (hp : ∀ p, p ≤ 32 * m → True) {p : Nat} : ∀ (n : Nat) {kk vv : Nat → Nat} {q : Nat}, pOps g m p n = some (kk, vv, q) → p ≤ q
  | 0, _, _, _, h => by cases h; exact Nat.le_refl _
  | n + 1, kk, vv, q, h => by
    unfold pOps at h
    cases h1 : pOps g m p n with
    | none => rw [h1] at h; cases h
    | some z =>
      obtain ⟨k1, v1, q1⟩ := z
      rw [h1] at h
      dsimp only at h
      cases h2 : pOp g m q1 with
      | none => rw [h2] at h; cases h
      | some y =>
        obtain ⟨k2, v2, q2⟩ := y
        rw [h2] at h
        cases h
        have a := pOps_ge hp n h1
        have b := (pOp_b h2).2.2.2.2.2.1
        show p ≤ q2
        have a : p ≤ q1 := a
        split at b <;> omega
theorem pF_ge {p n q : Nat} {kk vv : Nat → Nat} (h : pF g m p = some (n, kk, vv, q)) : p + 14 ≤ q ∧ q ≤ 32 * m ∧ n ≤ 8 ∧ fmOkN kk n ∧ fmB n kk vv := by
  obtain ⟨p1, h1, h2, h3, h4⟩ := pF_some h
  obtain ⟨b1, b2, b3⟩ := gC_b h1
  have hb := pOps_b b3 n h3
  have h0 := h4.1
  obtain ⟨k, rfl⟩ : ∃ k, n = k + 1 := ⟨n - 1, by omega⟩
  refine ⟨?_, hb.2.2, h2, h4, fun j hj => ⟨(hb.1 j hj).1, (hb.1 j hj).2.1, (hb.1 j hj).2.2.1, (hb.1 j hj).2.2.2.1⟩⟩
  unfold pOps at h3
  cases h5 : pOps g m p1 k with
  | none => rw [h5] at h3; cases h3
  | some z =>
    obtain ⟨k1, v1, q1⟩ := z
    rw [h5] at h3
    dsimp only at h3
    cases h6 : pOp g m q1 with
    | none => rw [h6] at h3; cases h3
    | some y =>
      obtain ⟨k2, v2, q2⟩ := y
      rw [h6] at h3
      cases h3
      have a := pOps_ge (fun _ _ => trivial) k h5
      have c := (pOp_b h6).2.2.2.2.2.1
      have hk3 : ¬ k2 = 3 := fun z => by
        have := (h4.2 k (by omega) (by rw [va_up_self]; exact z)).1
        omega
      rw [if_neg hk3] at c
      show p + 14 ≤ q2
      have a : p1 ≤ q1 := a
      omega
end CG
