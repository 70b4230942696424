/-! CLASS AND MODEL TOGETHER: a form added, a target set, all forgotten -/
section REL2
variable {s dp c : Nat} {cG cG' : Nat → Int32} {cR cR' : Nat → Option Nat} {B B' : Nat → Nat → Int32} {IA IA' : Nat → Nat → Int32} {G G' : Nat → Nat → Prop} {Y Y' : Nat → Nat → Prop}
theorem RwR_add {cn cn' mn mn' : Int32} {cr cr' : Nat → Option Nat} {mr mr' : Nat → Int32} {y f : Nat} (h : RwR c G cn cr mn mr) (hc : c < 8) (h1 : cn' = nI (c + 1)) (h2 : ∀ j, j < c → cr' j = cr j) (h2' : cr' c = some y) (h3 : mn' = nI (c + 1)) (h4 : ∀ j, j < c → mr' j = mr j) (h4' : mr' c = nI f) (hG : ∀ y f, G y f → G' y f) (hy : G' y f) : RwR (c + 1) G' cn' cr' mn' mr' := by
  obtain ⟨a1, a2, a3, a4⟩ := h
  refine ⟨by omega, h1, h3, fun j hj => ?_⟩
  by_cases e : j = c
  · subst e
    exact ⟨y, f, h2', h4', hy⟩
  · obtain ⟨y9, f9, b1, b2, b3⟩ := a4 j (by omega)
    exact ⟨y9, f9, by rw [h2 j (by omega)]; exact b1, by rw [h4 j (by omega)]; exact b2, hG _ _ b3⟩
theorem SdR_addO {y f id w t st : Nat} (hs : s < 2) (h : SdR s dp cG cR B IA G Y) (hd : 1 ≤ dp) (hb : BkR s dp cG cR (B dp) IA G (Y dp) id w t c st) (hid : 0 < id) (hc : c < 8) (hcG : cG' = upd cG (64 + dp) (nI (c + 1))) (hcR : cR' = va_up cR (8 * (64 + dp) + c) (some y)) (h44 : IA' 44 = upd (IA 44) (7 * s + dp) (nI (c + 1))) (h45 : IA' 45 = upd (IA 45) (8 * (7 * s + dp) + c) (nI f)) (hI : ∀ k, 39 ≤ k → k ≤ 47 → k ≠ 44 → k ≠ 45 → IA' k = IA k) (hG : ∀ y f, G y f → G' y f) (hy : G' y f) : SdR s dp cG' cR' B IA' G' Y := by
  obtain ⟨a1, a2, a3, a4, a5, a6⟩ := h
  refine ⟨a1, by rw [hI 39 (by omega) (by omega) (by omega) (by omega)]; exact a2, a3, a4, fun i hi => ?_, fun i i1 i2 => ?_⟩
  · obtain ⟨c9, d1, d2⟩ := a5 i hi
    rw [hI 46 (by omega) (by omega) (by omega) (by omega), hI 47 (by omega) (by omega) (by omega) (by omega)]
    exact ⟨c9, d1, RwR_mono d2 (by rw [hcG]; exact upd_ne (by omega)) (fun j hj => by rw [hcR]; exact va_up_ne _ _ (by omega)) rfl (fun _ _ => rfl) hG⟩
  · by_cases e : i = dp
    · subst e
      obtain ⟨⟨p1, p2, p3⟩, ⟨q1, q2, q3, q4⟩, ⟨u1, u2, u3⟩, ⟨v1, v2, v3, v4⟩, w1, w2⟩ := hb
      refine ⟨id, w, t, c + 1, st, ⟨p1, p2, by rw [hI 40 (by omega) (by omega) (by omega) (by omega)]; exact p3⟩, ⟨q1, q2, q3, by rw [hI 41 (by omega) (by omega) (by omega) (by omega)]; exact q4⟩, ⟨u1, u2, by rw [hI 43 (by omega) (by omega) (by omega) (by omega)]; exact u3⟩, ⟨v1, v2, by rw [hI 42 (by omega) (by omega) (by omega) (by omega)]; exact v3, v4⟩, fun z => absurd z (by omega), ?_⟩
      exact RwR_add w2 hc (by rw [hcG, upd_at]) (fun j hj => by rw [hcR]; exact va_up_ne _ _ (by omega)) (by rw [hcR]; exact va_up_self _ _ _) (by rw [h44, upd_at]) (fun j hj => by rw [h45]; exact upd_ne (by omega)) (by rw [h45]; exact upd_at _ _ _) hG hy
    · obtain ⟨id9, w9, t9, c9, st9, ⟨p1, p2, p3⟩, ⟨q1, q2, q3, q4⟩, ⟨u1, u2, u3⟩, ⟨v1, v2, v3, v4⟩, w1, w2⟩ := a6 i i1 i2
      refine ⟨id9, w9, t9, c9, st9, ⟨p1, p2, by rw [hI 40 (by omega) (by omega) (by omega) (by omega)]; exact p3⟩, ⟨q1, q2, q3, by rw [hI 41 (by omega) (by omega) (by omega) (by omega)]; exact q4⟩, ⟨u1, u2, by rw [hI 43 (by omega) (by omega) (by omega) (by omega)]; exact u3⟩, ⟨v1, v2, by rw [hI 42 (by omega) (by omega) (by omega) (by omega)]; exact v3, v4⟩, w1, ?_⟩
      exact RwR_mono w2 (by rw [hcG]; exact upd_ne (by omega)) (fun j hj => by rw [hcR]; exact va_up_ne _ _ (by omega)) (by rw [h44]; exact upd_ne (by omega)) (fun j hj => by rw [h45]; exact upd_ne (by omega)) hG
theorem SdR_addK {y f t : Nat} (hs : s < 2) (h : SdR s dp cG cR B IA G Y) (ht : 1 ≤ t) (ht2 : t < 64) (hr : cG t = nI c) (hc : c < 8) (hcG : cG' = upd cG t (nI (c + 1))) (hcR : cR' = va_up cR (8 * t + c) (some y)) (h46 : IA' 46 = upd (IA 46) (64 * s + t) (nI (c + 1))) (h47 : IA' 47 = upd (IA 47) (8 * (64 * s + t) + c) (nI f)) (hI : ∀ k, 39 ≤ k → k ≤ 45 → IA' k = IA k) (hG : ∀ y f, G y f → G' y f) (hy : G' y f) : SdR s dp cG' cR' B IA' G' Y := by
  obtain ⟨a1, a2, a3, a4, a5, a6⟩ := h
  refine ⟨a1, by rw [hI 39 (by omega) (by omega)]; exact a2, a3, a4, fun i hi => ?_, fun i i1 i2 => ?_⟩
  · obtain ⟨c9, d1, d2⟩ := a5 i hi
    by_cases e : i = t
    · subst e
      have ec : c9 = c := (nI_eqI (by have := d2.1; omega) (by omega)).mp (d2.2.1.symm.trans hr)
      subst ec
      refine ⟨c9 + 1, fun z => absurd z (by omega), ?_⟩
      exact RwR_add d2 hc (by rw [hcG, upd_at]) (fun j hj => by rw [hcR]; exact va_up_ne _ _ (by omega)) (by rw [hcR]; exact va_up_self _ _ _) (by rw [h46, upd_at]) (fun j hj => by rw [h47]; exact upd_ne (by omega)) (by rw [h47, show 512 * s + 8 * i + c9 = 8 * (64 * s + i) + c9 by omega]; exact upd_at _ _ _) hG hy
    · exact ⟨c9, d1, RwR_mono d2 (by rw [hcG]; exact upd_ne e) (fun j hj => by rw [hcR]; exact va_up_ne _ _ (by omega)) (by rw [h46]; exact upd_ne (by omega)) (fun j hj => by rw [h47]; exact upd_ne (by omega)) hG⟩
  · obtain ⟨id9, w9, t9, c9, st9, ⟨p1, p2, p3⟩, ⟨q1, q2, q3, q4⟩, ⟨u1, u2, u3⟩, ⟨v1, v2, v3, v4⟩, w1, w2⟩ := a6 i i1 i2
    refine ⟨id9, w9, t9, c9, st9, ⟨p1, p2, by rw [hI 40 (by omega) (by omega)]; exact p3⟩, ⟨q1, q2, q3, by rw [hI 41 (by omega) (by omega)]; exact q4⟩, ⟨u1, u2, by rw [hI 43 (by omega) (by omega)]; exact u3⟩, ⟨v1, v2, by rw [hI 42 (by omega) (by omega)]; exact v3, v4⟩, w1, ?_⟩
    exact RwR_mono w2 (by rw [hcG]; exact upd_ne (by omega)) (fun j hj => by rw [hcR]; exact va_up_ne _ _ (by omega)) (by rw [hI 44 (by omega) (by omega)]) (fun j hj => by rw [hI 45 (by omega) (by omega)]) hG
theorem SdR_tgt {t9 : Nat} (hs : s < 2) (h : SdR s dp cG cR B IA G Y) (hd : 1 ≤ dp) (ht : t9 < 64) (hB : ∀ j, j < 7 → B' j = if j = dp then upd (B dp) 2 (nI t9) else B j) (h43 : IA' 43 = upd (IA 43) (7 * s + dp) (nI t9)) (hI : ∀ k, 39 ≤ k → k ≤ 47 → k ≠ 43 → IA' k = IA k) : SdR s dp cG cR B' IA' G Y := by
  obtain ⟨a1, a2, a3, a4, a5, a6⟩ := h
  have e39 := hI 39 (by omega) (by omega) (by omega)
  have e40 := hI 40 (by omega) (by omega) (by omega)
  have e41 := hI 41 (by omega) (by omega) (by omega)
  have e42 := hI 42 (by omega) (by omega) (by omega)
  have e44 := hI 44 (by omega) (by omega) (by omega)
  have e45 := hI 45 (by omega) (by omega) (by omega)
  have e46 := hI 46 (by omega) (by omega) (by omega)
  have e47 := hI 47 (by omega) (by omega) (by omega)
  refine ⟨a1, by rw [e39]; exact a2, by rw [hB 0 (by omega), if_neg (by omega)]; exact a3, by rw [hB 0 (by omega), if_neg (by omega)]; exact a4, fun i hi => by rw [e46, e47]; exact a5 i hi, fun i i1 i2 => ?_⟩
  obtain ⟨id, w, t, c, st, ⟨p1, p2, p3⟩, ⟨q1, q2, q3, q4⟩, ⟨u1, u2, u3⟩, ⟨v1, v2, v3, v4⟩, w1, w2⟩ := a6 i i1 i2
  by_cases e : i = dp
  · subst e
    have hb : B' i = upd (B i) 2 (nI t9) := by rw [hB i (by omega), if_pos rfl]
    exact ⟨id, w, t9, c, st, ⟨by rw [hb, upd_ne (by omega)]; exact p1, p2, by rw [e40]; exact p3⟩, ⟨by rw [hb, upd_ne (by omega)]; exact q1, q2, q3, by rw [e41]; exact q4⟩, ⟨by rw [hb, upd_at], ht, by rw [h43, upd_at]⟩, ⟨by rw [hb, upd_ne (by omega)]; exact v1, v2, by rw [e42]; exact v3, v4⟩, w1, by rw [e44, e45]; exact w2⟩
  · have hb : B' i = B i := by rw [hB i (by omega), if_neg e]
    exact ⟨id, w, t, c, st, ⟨by rw [hb]; exact p1, p2, by rw [e40]; exact p3⟩, ⟨by rw [hb]; exact q1, q2, q3, by rw [e41]; exact q4⟩, ⟨by rw [hb]; exact u1, u2, by rw [h43, upd_ne (by omega)]; exact u3⟩, ⟨by rw [hb]; exact v1, v2, by rw [e42]; exact v3, v4⟩, w1, by rw [e44, e45]; exact w2⟩
theorem SdR_0 (h0 : B 0 0 = -1) (h1 : B 0 1 = 2) (h39 : IA 39 s = 0) (hc : ∀ i, i < 64 → cG i = 0) (hm : ∀ i, i < 64 → IA 46 (64 * s + i) = 0) : SdR s 0 cG cR B IA G Y :=
  ⟨by omega, h39, h0, h1, fun i hi => ⟨0, fun _ => rfl, by omega, hc i hi, hm i hi, fun j hj => absurd hj (by omega)⟩, fun i i1 i2 => absurd i2 (by omega)⟩
end REL2
/-- the class's values and the model's -/
def VaR (n : Int32) (U : Nat → Int32) (mn : Int32) (M : Nat → Int32) : Prop := ∃ (vc : Nat) (nu : Nat → Nat), vc ≤ 16 ∧ n = nI (vc + 1) ∧ mn = nI vc ∧ ∀ j, j < vc → U (j + 1) = nI (nu j) ∧ M j = nI (nu j) ∧ nu j < 2 ^ 31
/-- the class's draft and the model's -/
def DrR (tl : Nat → va_E) (dr N : Nat) (mn : Int32) (L : Nat → Int64) : Prop := okq dr ∧ dr + 3 ≤ N ∧ ∃ n K V kk vv, fmAt tl dr n K V ∧ fmW K V n kk vv ∧ fmB n kk vv ∧ mn = nI n ∧ opsAt L 0 n kk vv
/-- the writer's side -/
def WrR (IA : Nat → Nat → Int32) (LA : Nat → Nat → Int64) (RA : Nat → Nat → Option Nat) (SC : Nat → Nat → Int32) (dr : Nat) (tl : Nat → va_E) (N E dp pl : Nat) : Prop :=
  SC 2 1 = nI E ∧ IA 38 0 = nI E ∧ E ≤ 2048 ∧ RS (IA 3) (IA 37) E ∧ SC 4 2 = nI dp ∧ (dp = 0 → E % 32 = 0) ∧ IA 50 0 = nI pl ∧ 16 * pl ≤ E ∧ (∀ w, 0 < dp → IA 41 dp = nI w → w ≤ 8 → (E + w + 31) / 32 + (dp - 1) ≤ 64) ∧ SdR 0 dp (IA 8) (RA 7) (fun i => SC (9 + i)) IA (Gd fmW (IA 49) (LA 48) tl N dr 0 pl) (fun _ st => 32 * st ≤ E)
/-- the reader's side -/
def RdR (IA : Nat → Nat → Int32) (LA : Nat → Nat → Int64) (RA : Nat → Nat → Option Nat) (SC : Nat → Nat → Int32) (dr : Nat) (tl : Nat → va_E) (N m dp pl b p sc : Nat) : Prop :=
  (SC 20 2 = nI m ∧ SC 36 2 = nI m ∧ m ≤ 64 ∧ ∀ i, i < m → IA 33 i = IA 37 (128 + i)) ∧ SC 21 2 = nI dp ∧ (SC 20 4 = nI b ∧ SC 36 20 = nI b ∧ b ≤ 1) ∧ (IA 50 1 = nI pl ∧ pl ≤ 128) ∧ (b = 0 → SC 20 3 = nI p ∧ IA 38 1 = nI p ∧ p ≤ 32 * m ∧ 16 * pl ≤ p) ∧ (SC 20 7 = nI sc ∧ SC 36 22 = nI sc ∧ sc ≤ 19 ∧ ∀ i, i < sc → IA 35 i = IA 53 i) ∧ SdR 1 dp (IA 25) (RA 24) (fun i => SC (26 + i)) IA (Gd fmN (IA 49) (LA 48) tl N dr 150 (150 + pl)) (fun i st => st ≤ m ∧ SC (26 + i) 4 = IA 37 (128 + (st - 1)))
/-- all of it -/
def RR (IA : Nat → Nat → Int32) (LA : Nat → Nat → Int64) (RA : Nat → Nat → Option Nat) (SC : Nat → Nat → Int32) (dr : Nat) (tl : Nat → va_E) (N : Nat) : Prop :=
  56 ≤ N ∧ (∀ i, i < 7 → RA 5 i = some (9 + i)) ∧ (∀ i, i < 7 → RA 22 i = some (26 + i)) ∧ DrR tl dr N (SC 36 16) (LA 51) ∧ VaR (SC 1 4) (IA 19) (SC 36 18) (IA 52) ∧ (∃ E dp pl, WrR IA LA RA SC dr tl N E dp pl) ∧ ∃ m dp pl b p sc, RdR IA LA RA SC dr tl N m dp pl b p sc
def St (h : pm_H) : Prop := ∃ IA LA RA SC dr tl N, h = (N, HC IA LA RA SC dr tl) ∧ RR IA LA RA SC dr tl N
