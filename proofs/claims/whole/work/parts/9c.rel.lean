/-! CLASS AND MODEL TOGETHER: forms, rows, blocks -/
/-- a form on both sides: the class's at place y, the model's number f; the draft lies apart -/
def Gd (P : (Nat → Int32) → (Nat → Int32) → Nat → (Nat → Nat) → (Nat → Nat) → Prop) (O : Nat → Int32) (L : Nat → Int64) (tl : Nat → va_E) (N dr lo hi : Nat) (y f : Nat) : Prop :=
  okq y ∧ y + 3 ≤ N ∧ (y + 3 ≤ dr ∨ dr + 3 ≤ y) ∧ lo ≤ f ∧ f < hi ∧ ∃ n kk vv, O f = nI n ∧ n ≤ 8 ∧ fmOkN kk n ∧ fmB n kk vv ∧ opsAt L (8 * f) n kk vv ∧ ∃ K V, fmAt tl y n K V ∧ P K V n kk vv
theorem Gd_mono {P : (Nat → Int32) → (Nat → Int32) → Nat → (Nat → Nat) → (Nat → Nat) → Prop} {O O' : Nat → Int32} {L L' : Nat → Int64} {tl tl' : Nat → va_E} {N N' dr dr' lo hi hi' : Nat} (hO : ∀ f, lo ≤ f → f < hi → O' f = O f) (hL : ∀ j, 8 * lo ≤ j → j < 8 * hi → L' j = L j) (ht : ∀ k, k < N → ¬ (dr ≤ k ∧ k < dr + 3) → tl' k = tl k) (hN : N ≤ N') (hd : ∀ y, y + 3 ≤ N → (y + 3 ≤ dr ∨ dr + 3 ≤ y) → (y + 3 ≤ dr' ∨ dr' + 3 ≤ y)) (hh : hi ≤ hi') {y f : Nat} (h : Gd P O L tl N dr lo hi y f) : Gd P O' L' tl' N' dr' lo hi' y f := by
  obtain ⟨h1, h2, h3, h4, h5, n, kk, vv, a1, a2, a3, a4, a5, K, V, ⟨b1, b2, b3, b4⟩, hP⟩ := h
  refine ⟨h1, by omega, hd y h2 h3, h4, by omega, n, kk, vv, by rw [hO f h4 h5]; exact a1, a2, a3, a4, fun j hj => ?_, K, V, ⟨?_, ?_, ?_, b4⟩, hP⟩
  · obtain ⟨c1, c2, c3⟩ := a5 j hj
    exact ⟨by rw [hL _ (by omega) (by omega)]; exact c1, c2, c3⟩
  · rw [ht y (by omega) (by omega)]; exact b1
  · rw [ht (y + 1) (by omega) (by omega)]; exact b2
  · rw [ht (y + 2) (by omega) (by omega)]; exact b3
/-- the model's arrays agree on side s -/
def AgS (s : Nat) (IA IA' : Nat → Nat → Int32) : Prop := IA' 39 s = IA 39 s ∧ (∀ i, i < 7 → IA' 40 (7 * s + i) = IA 40 (7 * s + i) ∧ IA' 41 (7 * s + i) = IA 41 (7 * s + i) ∧ IA' 42 (7 * s + i) = IA 42 (7 * s + i) ∧ IA' 43 (7 * s + i) = IA 43 (7 * s + i) ∧ IA' 44 (7 * s + i) = IA 44 (7 * s + i) ∧ ∀ j, j < 8 → IA' 45 (8 * (7 * s + i) + j) = IA 45 (8 * (7 * s + i) + j)) ∧ ∀ i, i < 64 → IA' 46 (64 * s + i) = IA 46 (64 * s + i) ∧ ∀ j, j < 8 → IA' 47 (512 * s + 8 * i + j) = IA 47 (512 * s + 8 * i + j)
theorem AgS_eq {s : Nat} {IA IA' : Nat → Nat → Int32} (h : ∀ k, 39 ≤ k → k ≤ 47 → IA' k = IA k) : AgS s IA IA' := by
  refine ⟨by rw [h 39 (by omega) (by omega)], fun i _ => ⟨by rw [h 40 (by omega) (by omega)], by rw [h 41 (by omega) (by omega)], by rw [h 42 (by omega) (by omega)], by rw [h 43 (by omega) (by omega)], by rw [h 44 (by omega) (by omega)], fun j _ => by rw [h 45 (by omega) (by omega)]⟩, fun i _ => ⟨by rw [h 46 (by omega) (by omega)], fun j _ => by rw [h 47 (by omega) (by omega)]⟩⟩
/-- a row of forms on both sides -/
def RwR (c : Nat) (G : Nat → Nat → Prop) (cn : Int32) (cr : Nat → Option Nat) (mn : Int32) (mr : Nat → Int32) : Prop := c ≤ 8 ∧ cn = nI c ∧ mn = nI c ∧ ∀ j, j < c → ∃ y f, cr j = some y ∧ mr j = nI f ∧ G y f
/-- an open block on both sides -/
def BkR (s i : Nat) (cG : Nat → Int32) (cR : Nat → Option Nat) (B : Nat → Int32) (IA : Nat → Nat → Int32) (G : Nat → Nat → Prop) (Y : Nat → Prop) (id w t c st : Nat) : Prop :=
  (B 0 = nI id ∧ id < 64 ∧ IA 40 (7 * s + i) = nI id) ∧ (B 1 = nI w ∧ 2 ≤ w ∧ w ≤ 8 ∧ IA 41 (7 * s + i) = nI w) ∧ (B 2 = nI t ∧ t < 64 ∧ IA 43 (7 * s + i) = nI t) ∧ (B 3 = nI st ∧ 1 ≤ st ∧ IA 42 (7 * s + i) = nI (st - 1) ∧ Y st) ∧ (id = 0 → c = 0) ∧ RwR c G (cG (64 + i)) (fun j => cR (8 * (64 + i) + j)) (IA 44 (7 * s + i)) (fun j => IA 45 (8 * (7 * s + i) + j))
/-- one side: kept forms, open blocks -/
def SdR (s dp : Nat) (cG : Nat → Int32) (cR : Nat → Option Nat) (B : Nat → Nat → Int32) (IA : Nat → Nat → Int32) (G : Nat → Nat → Prop) (Y : Nat → Nat → Prop) : Prop :=
  dp ≤ 6 ∧ IA 39 s = nI dp ∧ B 0 0 = -1 ∧ B 0 1 = 2 ∧ (∀ i, i < 64 → ∃ c, (i = 0 → c = 0) ∧ RwR c G (cG i) (fun j => cR (8 * i + j)) (IA 46 (64 * s + i)) (fun j => IA 47 (512 * s + 8 * i + j))) ∧ ∀ i, 1 ≤ i → i ≤ dp → ∃ id w t c st, BkR s i cG cR (B i) IA G (Y i) id w t c st
section REL
variable {s dp c : Nat} {cG cG' : Nat → Int32} {cR cR' : Nat → Option Nat} {B B' : Nat → Nat → Int32} {IA IA' : Nat → Nat → Int32} {G G' : Nat → Nat → Prop} {Y Y' : Nat → Nat → Prop}
theorem RwR_mono {cn cn' mn mn' : Int32} {cr cr' : Nat → Option Nat} {mr mr' : Nat → Int32} (h : RwR c G cn cr mn mr) (h1 : cn' = cn) (h2 : ∀ j, j < 8 → cr' j = cr j) (h3 : mn' = mn) (h4 : ∀ j, j < 8 → mr' j = mr j) (hG : ∀ y f, G y f → G' y f) : RwR c G' cn' cr' mn' mr' := by
  obtain ⟨a1, a2, a3, a4⟩ := h
  refine ⟨a1, h1.trans a2, h3.trans a3, fun j hj => ?_⟩
  obtain ⟨y, f, b1, b2, b3⟩ := a4 j hj
  exact ⟨y, f, by rw [h2 j (by omega)]; exact b1, by rw [h4 j (by omega)]; exact b2, hG y f b3⟩
theorem BkR_mono {i id w t st : Nat} {b b' : Nat → Int32} {Z Z' : Nat → Prop} (h : BkR s i cG cR b IA G Z id w t c st) (hi : i < 7) (h1 : cG' (64 + i) = cG (64 + i)) (h2 : ∀ j, j < 8 → cR' (8 * (64 + i) + j) = cR (8 * (64 + i) + j)) (h3 : ∀ j, j < 4 → b' j = b j) (h4 : AgS s IA IA') (hG : ∀ y f, G y f → G' y f) (hZ : ∀ st, Z st → Z' st) : BkR s i cG' cR' b' IA' G' Z' id w t c st := by
  obtain ⟨⟨a1, a2, a3⟩, ⟨b1, b2, b3, b4⟩, ⟨c1, c2, c3⟩, ⟨d1, d2, d3, d4⟩, e1, e2⟩ := h
  obtain ⟨k1, k2, k3⟩ := h4
  obtain ⟨g0, g1, g2, g3, g4, g5⟩ := k2 i hi
  exact ⟨⟨by rw [h3 0 (by omega)]; exact a1, a2, by rw [g0]; exact a3⟩, ⟨by rw [h3 1 (by omega)]; exact b1, b2, b3, by rw [g1]; exact b4⟩, ⟨by rw [h3 2 (by omega)]; exact c1, c2, by rw [g3]; exact c3⟩, ⟨by rw [h3 3 (by omega)]; exact d1, d2, by rw [g2]; exact d3, hZ st d4⟩, e1, RwR_mono e2 h1 h2 g4 g5 hG⟩
theorem SdR_congr (h : SdR s dp cG cR B IA G Y) (h1 : cG' = cG) (h2 : cR' = cR) (h3 : ∀ i, i < 7 → B' i = B i) (h4 : AgS s IA IA') (hG : ∀ y f, G y f → G' y f) (hY : ∀ i st, 1 ≤ i → i ≤ dp → Y i st → Y' i st) : SdR s dp cG' cR' B' IA' G' Y' := by
  subst h1
  subst h2
  obtain ⟨a1, a2, a3, a4, a5, a6⟩ := h
  refine ⟨a1, h4.1.trans a2, by rw [h3 0 (by omega)]; exact a3, by rw [h3 0 (by omega)]; exact a4, fun i hi => ?_, fun i i1 i2 => ?_⟩
  · obtain ⟨c, c1, c2⟩ := a5 i hi
    exact ⟨c, c1, RwR_mono c2 rfl (fun _ _ => rfl) (h4.2.2 i hi).1 (h4.2.2 i hi).2 hG⟩
  · obtain ⟨id, w, t, c, st, hb⟩ := a6 i i1 i2
    exact ⟨id, w, t, c, st, BkR_mono hb (by omega) rfl (fun _ _ => rfl) (fun j _ => by rw [h3 i (by omega)]) h4 hG (fun st => hY i st i1 i2)⟩
/-- a block pushed -/
theorem SdR_push {i w st mm : Nat} {t4 : Int32} (hs : s < 2) (h : SdR s dp cG cR B IA G Y) (hd : dp < 6) (hi : i < 64) (hw : 2 ≤ w ∧ w ≤ 8) (hst : 1 ≤ st) (hmm : cG i = nI mm) (hmm8 : mm ≤ 8) (hY : ∀ i st, 1 ≤ i → i ≤ dp → Y i st → Y' i st) (hY' : Y' (dp + 1) st) (hB : ∀ j, j < 7 → B' j = if j = dp + 1 then bkRow (nI i) (nI w) 0 (nI st) t4 else B j) :
    SdR s (dp + 1) (upd cG (64 + (dp + 1)) (nI mm)) (frCk cR i (64 + (dp + 1)) mm) B' (bgIA IA s dp i (nI w) (nI (st - 1)) mm) G Y' := by
  obtain ⟨a1, a2, a3, a4, a5, a6⟩ := h
  have hck : ∀ k, ¬ (8 * (64 + (dp + 1)) ≤ k ∧ k < 8 * (64 + (dp + 1)) + mm) → frCk cR i (64 + (dp + 1)) mm k = cR k := fun k hk => by unfold frCk; rw [if_neg hk]
  have hcm : ∀ k, ¬ (8 * (7 * s + (dp + 1)) ≤ k ∧ k < 8 * (7 * s + (dp + 1)) + mm) → mfCk (IA 45) (IA 47) (8 * (7 * s + (dp + 1))) (512 * s + 8 * i) mm k = IA 45 k := fun k hk => by unfold mfCk; rw [if_neg hk]
  obtain ⟨c, c0, r1, r2, r3, r4⟩ := a5 i hi
  have ec : c = mm := (nI_eqI (by omega) (by omega)).mp (r2.symm.trans hmm)
  subst ec
  refine ⟨by omega, upd_at _ _ _, by rw [hB 0 (by omega), if_neg (by omega)]; exact a3, by rw [hB 0 (by omega), if_neg (by omega)]; exact a4, fun k hk => ?_, fun k k1 k2 => ?_⟩
  · obtain ⟨c9, d1, d2⟩ := a5 k hk
    exact ⟨c9, d1, RwR_mono d2 (upd_ne (by omega)) (fun j hj => hck _ (by omega)) rfl (fun _ _ => rfl) (fun _ _ z => z)⟩
  · by_cases e : k = dp + 1
    · subst e
      refine ⟨i, w, 0, c, st, ⟨by rw [hB _ (by omega), if_pos rfl]; rfl, hi, upd_at _ _ _⟩, ⟨by rw [hB _ (by omega), if_pos rfl]; rfl, hw.1, hw.2, upd_at _ _ _⟩, ⟨by rw [hB _ (by omega), if_pos rfl]; rfl, by omega, upd_at _ _ _⟩, ⟨by rw [hB _ (by omega), if_pos rfl]; rfl, hst, upd_at _ _ _, hY'⟩, c0, hmm8, upd_at _ _ _, ?_, fun j hj => ?_⟩
      · show upd (IA 44) (7 * s + (dp + 1)) (IA 46 (64 * s + i)) (7 * s + (dp + 1)) = _
        rw [upd_at]
        exact r3
      · obtain ⟨y, f, b1, b2, b3⟩ := r4 j hj
        refine ⟨y, f, ?_, ?_, b3⟩
        · show frCk cR i (64 + (dp + 1)) c (8 * (64 + (dp + 1)) + j) = _
          unfold frCk
          rw [if_pos (by omega), show 8 * i + (8 * (64 + (dp + 1)) + j - 8 * (64 + (dp + 1))) = 8 * i + j by omega]
          exact b1
        · show mfCk (IA 45) (IA 47) (8 * (7 * s + (dp + 1))) (512 * s + 8 * i) c (8 * (7 * s + (dp + 1)) + j) = _
          unfold mfCk
          rw [if_pos (by omega), show 512 * s + 8 * i + (8 * (7 * s + (dp + 1)) + j - 8 * (7 * s + (dp + 1))) = 512 * s + 8 * i + j by omega]
          exact b2
    · obtain ⟨id, w9, t, c9, st9, ⟨p1, p2, p3⟩, ⟨q1, q2, q3, q4⟩, ⟨u1, u2, u3⟩, ⟨v1, v2, v3, v4⟩, w1, w2⟩ := a6 k k1 (by omega)
      have hBk : B' k = B k := by rw [hB k (by omega), if_neg e]
      refine ⟨id, w9, t, c9, st9, ⟨by rw [hBk]; exact p1, p2, (upd_ne (by omega)).trans p3⟩, ⟨by rw [hBk]; exact q1, q2, q3, (upd_ne (by omega)).trans q4⟩, ⟨by rw [hBk]; exact u1, u2, (upd_ne (by omega)).trans u3⟩, ⟨by rw [hBk]; exact v1, v2, (upd_ne (by omega)).trans v3, hY k st9 k1 (by omega) v4⟩, w1, ?_⟩
      exact RwR_mono w2 (upd_ne (by omega)) (fun j hj => hck _ (by omega)) (upd_ne (by omega)) (fun j hj => hcm _ (by omega)) (fun _ _ z => z)
/-- a block popped -/
theorem SdR_pop (h : SdR s (dp + 1) cG cR B IA G Y) (h39 : IA' 39 s = nI dp) (h4 : ∀ k, 40 ≤ k → k ≤ 47 → IA' k = IA k) : SdR s dp cG cR B IA' G Y := by
  obtain ⟨a1, a2, a3, a4, a5, a6⟩ := h
  have e : ∀ k, 40 ≤ k → k ≤ 47 → IA' k = IA k := h4
  refine ⟨by omega, h39, a3, a4, fun i hi => ?_, fun i i1 i2 => ?_⟩
  · rw [e 46 (by omega) (by omega), e 47 (by omega) (by omega)]
    exact a5 i hi
  · obtain ⟨id, w, t, c, st, hb⟩ := a6 i i1 (by omega)
    refine ⟨id, w, t, c, st, ?_⟩
    unfold BkR at hb ⊢
    rw [e 40 (by omega) (by omega), e 41 (by omega) (by omega), e 42 (by omega) (by omega), e 43 (by omega) (by omega), e 44 (by omega) (by omega), e 45 (by omega) (by omega)]
    exact hb
end REL
