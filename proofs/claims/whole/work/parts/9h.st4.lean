/-! STEPS: enter -/
theorem md_bits_0 {S : Nat → Int32} {p : Nat} : ∀ n, n ≤ 32 → md_bits S p (nI 0) n = S
  | 0, _ => rfl
  | n + 1, h => by
    show md_bit (md_bits S p (nI 0) n) (p + n) (md_tb (nI 0) n) = S
    rw [md_bits_0 n (by omega), tb_nI (by omega), Nat.zero_testBit]
    rfl
theorem RP_E {T : Nat → Int32} {σ τ : (Nat → Int32) × Nat} {w0 i w : Nat} (h : RP T σ τ) (h0 : 2 ≤ w0 ∧ w0 ≤ 8) (hi : i < 64) (hw : 2 ≤ w ∧ w ≤ 8) (hE : σ.2 ≤ 2048) : RP T (wE σ w0 i w) (mE τ w0 i w) := by
  have h1 : RP T (wP σ (nI 1) w0) (mP τ (nI 1) w0) := RP_P h (by omega) (Nat.lt_of_lt_of_le (show 1 < 2 ^ 2 by decide) (Nat.pow_le_pow_right (by omega) h0.1)) (by omega)
  have b1 := wC_end (σ := wP σ (nI 1) w0) (x := i) (w := 6) (by omega) (by omega) (by omega)
  have b2 := wC_end (σ := wC (wP σ (nI 1) w0) i 6) (x := w) (w := 4) (by omega) (by omega) (by omega)
  have e1 : (wP σ (nI 1) w0).2 = σ.2 + w0 := rfl
  have h2 := RP_C h1 (x := i) (w := 6) (by omega) (by omega) (by omega) (by omega)
  have h3 := RP_C h2 (x := w) (w := 4) (by omega) (by omega) (by omega) (by omega)
  have h4 := RP_al h3 (a := ((wC (wC (wP σ (nI 1) w0) i 6) w 4).2 + 31) / 32 * 32) (by omega)
  have h5 := RP_P (y := 0) (n := 32) h4 (by omega) (by omega) (by show ((wC (wC (wP σ (nI 1) w0) i 6) w 4).2 + 31) / 32 * 32 + 32 ≤ _; omega)
  have e2 : mP ((mC (mC (mP τ (nI 1) w0) i 6) w 4).1, ((wC (wC (wP σ (nI 1) w0) i 6) w 4).2 + 31) / 32 * 32) (nI 0) 32 = mE τ w0 i w := by
    show (md_bits _ _ (nI 0) 32, _) = ((mC (mC (mP τ (nI 1) w0) i 6) w 4).1, ((mC (mC (mP τ (nI 1) w0) i 6) w 4).2 + 31) / 32 * 32 + 32)
    rw [md_bits_0 32 (by omega), h3.1]
  rw [e2] at h5
  exact h5
section ST4
variable {IA : Nat → Nat → Int32} {LA : Nat → Nat → Int64} {RA : Nat → Nat → Option Nat} {SC : Nat → Nat → Int32} {dr : Nat} {tl : Nat → va_E} {N E dp pl s : Nat} {cG : Nat → Int32} {cR : Nat → Option Nat} {B : Nat → Nat → Int32} {G : Nat → Nat → Prop} {Y : Nat → Nat → Prop} {h : pm_H}
theorem SdR_w0 (h : SdR s dp cG cR B IA G Y) : ∃ w0, B dp 1 = nI w0 ∧ 2 ≤ w0 ∧ w0 ≤ 8 ∧ (if dp = 0 then 2 else IA 41 (7 * s + dp)) = nI w0 := by
  obtain ⟨a1, a2, a3, a4, a5, a6⟩ := h
  by_cases e : dp = 0
  · subst e
    exact ⟨2, a4, by omega, by omega, rfl⟩
  · obtain ⟨id, w, t, c, st, -, ⟨q1, q2, q3, q4⟩, -⟩ := a6 dp (by omega) (Nat.le_refl _)
    exact ⟨w, q1, q2, q3, by rw [if_neg e]; exact q4⟩
theorem SdR_info (h : SdR s dp cG cR B IA G Y) : B dp 0 = 0 ↔ (0 < dp ∧ IA 40 (7 * s + dp) = 0) := by
  obtain ⟨a1, a2, a3, a4, a5, a6⟩ := h
  by_cases e : dp = 0
  · subst e
    rw [a3]
    exact ⟨fun z => absurd z (by decide), fun z => absurd z.1 (by omega)⟩
  · obtain ⟨id, w, t, c, st, ⟨q1, q2, q3⟩, -⟩ := a6 dp (by omega) (Nat.le_refl _)
    rw [q1, q3]
    exact ⟨fun z => ⟨by omega, z⟩, fun z => z.2⟩
theorem SdR_wd (h : SdR 0 dp cG cR B IA G Y) : wdOk (IA 41) dp := by
  obtain ⟨a1, a2, a3, a4, a5, a6⟩ := h
  intro i i1 i2
  obtain ⟨id, w, t, c, st, -, ⟨q1, q2, q3, q4⟩, -⟩ := a6 i i1 i2
  rw [Nat.mul_zero, Nat.zero_add] at q4
  exact ⟨w, by omega, q3, q4⟩
theorem Gd_HC {P : (Nat → Int32) → (Nat → Int32) → Nat → (Nat → Nat) → (Nat → Nat) → Prop} {O : Nat → Int32} {L : Nat → Int64} {lo hi y f : Nat} (z : Gd P O L tl N dr lo hi y f) : ∃ fs, HC IA LA RA SC dr tl y = .inr (2, fs) := by
  obtain ⟨h1, h2, h3, h4, h5, n, kk, vv, a1, a2, a3, a4, a5, K, V, hb, hP⟩ := z
  exact ⟨_, (fm_HC h1 hb).1⟩
theorem pm_h1 {d M : Nat} {As : List Value} {h' : pm_H} {r : pm_V} {N : Nat} {f f1 : Nat → va_E} {bc bs : Nat} (e : f = f1) (hh : pm_call d M As (N, f) r h' bc bs) : pm_call d M As (N, f1) r h' bc bs := e ▸ hh
theorem RP_self (hRS : RS (IA 3) (IA 37) E) : RP (IA 37) (IA 3, E) (IA 37, E) := ⟨rfl, hRS, fun _ _ => rfl⟩
theorem AgS1_bg {IA1 : Nat → Nat → Int32} {i mm : Nat} {w mk : Int32} {S P : Nat → Int32} (hd : dp < 6) (hm : mm ≤ 8) (hI : ∀ k, 39 ≤ k → k ≤ 47 → IA1 k = IA k := by intros; exact (va_up_ne _ _ (by omega)).trans (va_up_ne _ _ (by omega))) : AgS 1 IA (va_up (va_up (bgIA IA1 0 dp i w mk mm) 37 S) 38 P) := by
  have e := fun k k1 k2 => hI k k1 k2
  refine ⟨?_, fun j hj => ⟨?_, ?_, ?_, ?_, ?_, fun l hl => ?_⟩, fun j hj => ⟨congrFun (e 46 (by omega) (by omega)) _, fun l _ => congrFun (e 47 (by omega) (by omega)) _⟩⟩
  · exact congrFun (e 39 (by omega) (by omega)) _
  · exact (upd_ne (by omega)).trans (congrFun (e 40 (by omega) (by omega)) _)
  · exact (upd_ne (by omega)).trans (congrFun (e 41 (by omega) (by omega)) _)
  · exact (upd_ne (by omega)).trans (congrFun (e 42 (by omega) (by omega)) _)
  · exact (upd_ne (by omega)).trans (congrFun (e 43 (by omega) (by omega)) _)
  · exact (upd_ne (by omega)).trans (congrFun (e 44 (by omega) (by omega)) _)
  · show mfCk (IA1 45) (IA1 47) (8 * (7 * 0 + (dp + 1))) (512 * 0 + 8 * i) mm (8 * (7 * 1 + j) + l) = _
    unfold mfCk
    rw [if_neg (by omega)]
    exact congrFun (e 45 (by omega) (by omega)) _
theorem RR_enter {σ1 τ1 : (Nat → Int32) × Nat} {i w mm m dp2 pl2 b p sc : Nat} (h1 : 56 ≤ N) (h2 : ∀ i, i < 7 → RA 5 i = some (9 + i)) (h3 : ∀ i, i < 7 → RA 22 i = some (26 + i)) (h4 : DrR tl dr N (SC 36 16) (LA 51)) (h5 : VaR (SC 1 4) (IA 19) (SC 36 18) (IA 52)) (hW : WrR IA LA RA SC dr tl N E dp pl) (h7 : RdR IA LA RA SC dr tl N m dp2 pl2 b p sc) (hd : dp < 6) (hi : i < 64) (hw : 2 ≤ w ∧ w ≤ 8) (hmG : IA 8 i = nI mm) (hm8 : mm ≤ 8) (hrp : RP (IA 37) σ1 τ1) (hge : E ≤ σ1.2) (h32 : σ1.2 % 32 = 0) (hpos : 32 ≤ σ1.2) (hR : (σ1.2 + w + 31) / 32 + dp ≤ 64) :
    RR (va_up (va_up (bgIA (va_up (va_up IA 3 σ1.1) 8 (upd (IA 8) (64 + (dp + 1)) (nI mm))) 0 dp i (nI w) (nI (τ1.2 / 32 - 1)) mm) 37 τ1.1) 38 (upd (bgIA (va_up (va_up IA 3 σ1.1) 8 (upd (IA 8) (64 + (dp + 1)) (nI mm))) 0 dp i (nI w) (nI (τ1.2 / 32 - 1)) mm 38) 0 (nI τ1.2))) LA (va_up RA 7 (frCk (RA 7) i (64 + (dp + 1)) mm)) (thr (va_up (va_up (va_up SC 2 (upd (SC 2) 1 (nI σ1.2))) 4 (upd (SC 4) 2 (nI (dp + 1)))) (9 + (dp + 1)) (bkRow (nI i) (nI w) 0 (nI ((σ1.2 + 31) / 32)) 0)) 0) dr tl N := by
  obtain ⟨w1, w2, w3, w4, w5, w6, w7, w8, w9, w10⟩ := hW
  have e36 : ∀ j, thr (va_up (va_up (va_up SC 2 (upd (SC 2) 1 (nI σ1.2))) 4 (upd (SC 4) 2 (nI (dp + 1)))) (9 + (dp + 1)) (bkRow (nI i) (nI w) 0 (nI ((σ1.2 + 31) / 32)) 0)) 0 36 j = upd (SC 36) 21 0 j := fun j => by
    show upd (va_up (va_up (va_up SC 2 _) 4 _) (9 + (dp + 1)) _ 36) 21 0 j = _
    rw [va_up_ne _ _ (by omega)]
    rfl
  have hst : (σ1.2 + 31) / 32 = σ1.2 / 32 := by omega
  have hE1 := hrp.1
  refine ⟨h1, h2, h3, ?_, ?_, ⟨σ1.2, dp + 1, pl, ?_⟩, m, dp2, pl2, b, p, sc, ?_⟩
  · rw [e36]
    exact h4
  · rw [thr_ne (by omega), va_up_ne _ _ (by omega), e36]
    exact h5
  · have hS9 : ∀ j, j < 7 → thr (va_up (va_up (va_up SC 2 (upd (SC 2) 1 (nI σ1.2))) 4 (upd (SC 4) 2 (nI (dp + 1)))) (9 + (dp + 1)) (bkRow (nI i) (nI w) 0 (nI ((σ1.2 + 31) / 32)) 0)) 0 (9 + j) = if j = dp + 1 then bkRow (nI i) (nI w) 0 (nI (σ1.2 / 32)) 0 else SC (9 + j) := fun j hj => by
      rw [thr_ne (by omega)]
      by_cases e : j = dp + 1
      · subst e
        rw [va_up_self, if_pos rfl, hst]
      · rw [va_up_ne _ _ (by omega), if_neg e]
        exact (va_up_ne _ _ (by omega)).trans (va_up_ne _ _ (by omega))
    refine ⟨?_, congrArg nI hE1, by omega, hrp.2.1, ?_, fun z => absurd z (by omega), w7, by omega, fun w9 hd9 hw9 hw98 => ?_, ?_⟩
    · rw [thr_ne (by omega), va_up_ne _ _ (by omega)]
      rfl
    · rw [thr_ne (by omega), va_up_ne _ _ (by omega)]
      rfl
    · have e9 : nI w = nI w9 := by
        rw [← hw9]
        show _ = upd (IA 41) (7 * 0 + (dp + 1)) (nI w) (dp + 1)
        rw [Nat.mul_zero, Nat.zero_add, upd_at]
      have := (nI_eqI (by omega) (by omega)).mp e9
      subst this
      omega
    · have hp := SdR_push (s := 0) (st := σ1.2 / 32) (w := w) (t4 := 0) (mm := mm) (i := i) (Y' := fun _ st => 32 * st ≤ σ1.2) (B' := fun j => thr (va_up (va_up (va_up SC 2 (upd (SC 2) 1 (nI σ1.2))) 4 (upd (SC 4) 2 (nI (dp + 1)))) (9 + (dp + 1)) (bkRow (nI i) (nI w) 0 (nI ((σ1.2 + 31) / 32)) 0)) 0 (9 + j)) (by omega) (SdR_congr (IA' := va_up (va_up IA 3 σ1.1) 8 (upd (IA 8) (64 + (dp + 1)) (nI mm))) (cG' := IA 8) (cR' := RA 7) (B' := fun i => SC (9 + i)) (G' := Gd fmW (IA 49) (LA 48) tl N dr 0 pl) (Y' := fun _ st => 32 * st ≤ E) w10 rfl rfl (fun _ _ => rfl) (AgS_eq (fun k k1 k2 => (va_up_ne _ _ (by omega)).trans (va_up_ne _ _ (by omega)))) (fun _ _ z => z) (fun _ _ _ _ z => z)) hd hi hw (by omega) hmG hm8 (fun i st _ _ z => Nat.le_trans z hge) (show 32 * (σ1.2 / 32) ≤ σ1.2 by omega) hS9
      rw [hE1]
      exact SdR_congr hp rfl rfl (fun _ _ => rfl) (AgS_eq (fun k k1 k2 => (va_up_ne _ _ (by omega)).trans (va_up_ne _ _ (by omega)))) (fun _ _ z => z) (fun _ _ _ _ z => z)
  · refine RdR_congr h7 ?_ (e36 2) rfl hrp.2.2 ?_ (e36 20) rfl rfl (e36 22) rfl rfl rfl rfl (fun j hj => ?_) (AgS1_bg hd hm8) (fun _ _ z => z)
    · rw [thr_ne (by omega), va_up_ne _ _ (by omega)]
      rfl
    · rw [thr_ne (by omega), va_up_ne _ _ (by omega)]
      rfl
    · rw [thr_ne (by omega), va_up_ne _ _ (by omega)]
      exact (va_up_ne _ _ (by omega)).trans (va_up_ne _ _ (by omega))
/-- the model's arrays agree on side s as far as the open blocks -/
def AgD (s dp : Nat) (IA IA' : Nat → Nat → Int32) : Prop := IA' 39 s = IA 39 s ∧ (∀ i, i ≤ dp → IA' 40 (7 * s + i) = IA 40 (7 * s + i) ∧ IA' 41 (7 * s + i) = IA 41 (7 * s + i) ∧ IA' 42 (7 * s + i) = IA 42 (7 * s + i) ∧ IA' 43 (7 * s + i) = IA 43 (7 * s + i) ∧ IA' 44 (7 * s + i) = IA 44 (7 * s + i) ∧ ∀ j, j < 8 → IA' 45 (8 * (7 * s + i) + j) = IA 45 (8 * (7 * s + i) + j)) ∧ ∀ i, i < 64 → IA' 46 (64 * s + i) = IA 46 (64 * s + i) ∧ ∀ j, j < 8 → IA' 47 (512 * s + 8 * i + j) = IA 47 (512 * s + 8 * i + j)
theorem AgD_of {IA' : Nat → Nat → Int32} (h : AgS s IA IA') (hd : dp ≤ 6) : AgD s dp IA IA' := ⟨h.1, fun i hi => h.2.1 i (by omega), h.2.2⟩
theorem SdR_low {IA' : Nat → Nat → Int32} {B' : Nat → Nat → Int32} {G' : Nat → Nat → Prop} (h : SdR s dp cG cR B IA G Y) (h3 : ∀ i, i < 7 → B' i = B i) (hA : AgD s dp IA IA') (hG : ∀ y f, G y f → G' y f) : SdR s dp cG cR B' IA' G' Y := by
  obtain ⟨a1, a2, a3, a4, a5, a6⟩ := h
  obtain ⟨k1, k2, k3⟩ := hA
  refine ⟨a1, k1.trans a2, by rw [h3 0 (by omega)]; exact a3, by rw [h3 0 (by omega)]; exact a4, fun i hi => ?_, fun i i1 i2 => ?_⟩
  · obtain ⟨c, c1, c2⟩ := a5 i hi
    exact ⟨c, c1, RwR_mono c2 rfl (fun _ _ => rfl) (k3 i hi).1 (k3 i hi).2 hG⟩
  · obtain ⟨id, w, t, c, st, ⟨p1, p2, p3⟩, ⟨q1, q2, q3, q4⟩, ⟨u1, u2, u3⟩, ⟨v1, v2, v3, v4⟩, e1, e2⟩ := a6 i i1 i2
    obtain ⟨g0, g1, g2, g3, g4, g5⟩ := k2 i i2
    rw [h3 i (by omega)]
    exact ⟨id, w, t, c, st, ⟨p1, p2, g0.trans p3⟩, ⟨q1, q2, q3, g1.trans q4⟩, ⟨u1, u2, g3.trans u3⟩, ⟨v1, v2, g2.trans v3, v4⟩, e1, RwR_mono e2 rfl (fun _ _ => rfl) g4 g5 hG⟩
/-- a write taken back -/
theorem RR_wcut {IA' : Nat → Nat → Int32} {LA' : Nat → Nat → Int64} {SC' : Nat → Nat → Int32} {m dp2 pl2 b p sc : Nat} (h1 : 56 ≤ N) (h2 : ∀ i, i < 7 → RA 5 i = some (9 + i)) (h3 : ∀ i, i < 7 → RA 22 i = some (26 + i)) (h4 : DrR tl dr N (SC 36 16) (LA 51)) (h5 : VaR (SC 1 4) (IA 19) (SC 36 18) (IA 52)) (hW : WrR IA LA RA SC dr tl N E dp pl) (h7 : RdR IA LA RA SC dr tl N m dp2 pl2 b p sc)
    (hrs : RS (IA' 3) (IA' 37) E) (hT : ∀ j, 128 ≤ j → IA' 37 j = IA 37 j) (i0 : IA' 38 0 = nI E) (i1 : IA' 38 1 = IA 38 1) (hI : ∀ k, k ≠ 3 → k ≠ 19 → k ≠ 37 → k ≠ 38 → (k < 39 ∨ 45 < k) → IA' k = IA k) (hA0 : AgD 0 dp IA IA') (hA1 : AgS 1 IA IA') (hV : ∀ j, IA' 19 (j + 1) = IA 19 (j + 1)) (hL : LA' 51 = LA 51) (hL8 : ∀ j, (j < 8 * pl ∨ 1200 ≤ j) → LA' 48 j = LA 48 j) (hS : ∀ k, k ≠ 36 → k ≠ 2 → SC' k = SC k) (s2 : SC' 2 1 = nI E) (s36 : ∀ j, j ≠ 21 → SC' 36 j = SC 36 j) : RR IA' LA' RA SC' dr tl N := by
  obtain ⟨w1, w2, w3, w4, w5, w6, w7, w8, w9, w10⟩ := hW
  have e49 := hI 49 (by omega) (by omega) (by omega) (by omega) (by omega)
  have e50 := hI 50 (by omega) (by omega) (by omega) (by omega) (by omega)
  refine ⟨h1, h2, h3, ?_, ?_, ⟨E, dp, pl, ?_⟩, m, dp2, pl2, b, p, sc, ?_⟩
  · rw [s36 16 (by omega), hL]
    exact h4
  · rw [hS 1 (by omega) (by omega), s36 18 (by omega), hI 52 (by omega) (by omega) (by omega) (by omega) (by omega)]
    obtain ⟨vc, nu, v1, v2, v3, v4⟩ := h5
    exact ⟨vc, nu, v1, v2, v3, fun j hj => ⟨(hV j).trans (v4 j hj).1, (v4 j hj).2⟩⟩
  · refine ⟨s2, i0, w3, hrs, by rw [hS 4 (by omega) (by omega)]; exact w5, w6, by rw [e50]; exact w7, w8, fun w hd hw hw8 => w9 w hd ?_ hw8, ?_⟩
    · have := (hA0.2.1 dp (Nat.le_refl _)).2.1
      rw [Nat.mul_zero, Nat.zero_add] at this
      rw [← this]
      exact hw
    · rw [hI 8 (by omega) (by omega) (by omega) (by omega) (by omega)]
      refine SdR_low w10 (fun i hi => hS _ (by omega) (by omega)) hA0 (fun y f z => ?_)
      rw [e49]
      exact Gd_mono (fun _ _ _ => rfl) (fun j _ hj => hL8 j (Or.inl hj)) (fun _ _ _ => rfl) (Nat.le_refl _) (fun _ _ z => z) (Nat.le_refl _) z
  · refine RdR_congr h7 (hS 20 (by omega) (by omega)) (s36 2 (by omega)) (hI 33 (by omega) (by omega) (by omega) (by omega) (by omega)) hT (by rw [hS 21 (by omega) (by omega)]) (s36 20 (by omega)) (by rw [e50]) i1 (s36 22 (by omega)) (hI 35 (by omega) (by omega) (by omega) (by omega) (by omega)) (hI 53 (by omega) (by omega) (by omega) (by omega) (by omega)) (hI 25 (by omega) (by omega) (by omega) (by omega) (by omega)) rfl (fun i hi => hS _ (by omega) (by omega)) hA1 (fun y f z => ?_)
    rw [e49]
    exact Gd_mono (fun _ _ _ => rfl) (fun j hj _ => hL8 j (Or.inr (by omega))) (fun _ _ _ => rfl) (Nat.le_refl _) (fun _ _ z => z) (Nat.le_refl _) z
theorem AgD0_bg {IA1 : Nat → Nat → Int32} {i mm : Nat} {w mk : Int32} {S P : Nat → Int32} (hD : IA 39 0 = nI dp) (hI : ∀ k, 39 ≤ k → k ≤ 47 → IA1 k = IA k) : AgD 0 dp IA (va_up (va_up (va_up (bgIA IA1 0 dp i w mk mm) 39 (upd (upd (IA1 39) 0 (nI (dp + 1))) 0 (nI dp))) 37 S) 38 P) := by
  have e := fun k k1 k2 => hI k k1 k2
  refine ⟨hD.symm, fun j hj => ⟨?_, ?_, ?_, ?_, ?_, fun l hl => ?_⟩, fun j hj => ⟨congrFun (e 46 (by omega) (by omega)) _, fun l _ => congrFun (e 47 (by omega) (by omega)) _⟩⟩
  · exact (upd_ne (by omega)).trans (congrFun (e 40 (by omega) (by omega)) _)
  · exact (upd_ne (by omega)).trans (congrFun (e 41 (by omega) (by omega)) _)
  · exact (upd_ne (by omega)).trans (congrFun (e 42 (by omega) (by omega)) _)
  · exact (upd_ne (by omega)).trans (congrFun (e 43 (by omega) (by omega)) _)
  · exact (upd_ne (by omega)).trans (congrFun (e 44 (by omega) (by omega)) _)
  · show mfCk (IA1 45) (IA1 47) (8 * (7 * 0 + (dp + 1))) (512 * 0 + 8 * i) mm (8 * (7 * 0 + j) + l) = _
    unfold mfCk
    rw [if_neg (by omega)]
    exact congrFun (e 45 (by omega) (by omega)) _
theorem AgS1_bg2 {IA1 : Nat → Nat → Int32} {i mm : Nat} {w mk : Int32} {S P : Nat → Int32} (hd : dp < 6) (hm : mm ≤ 8) (hI : ∀ k, 39 ≤ k → k ≤ 47 → IA1 k = IA k) : AgS 1 IA (va_up (va_up (va_up (bgIA IA1 0 dp i w mk mm) 39 (upd (upd (IA1 39) 0 (nI (dp + 1))) 0 (nI dp))) 37 S) 38 P) := by
  have h := AgS1_bg (i := i) (w := w) (mk := mk) (S := S) (P := P) hd hm hI
  exact ⟨congrFun (hI 39 (by omega) (by omega)) _, h.2⟩
/-- an ENTER taken back -/
theorem RR_enter4 {σ1 τ1 : (Nat → Int32) × Nat} {i mm : Nat} {w mk : Int32} {m dp2 pl2 b p sc : Nat} (h1 : 56 ≤ N) (h2 : ∀ i, i < 7 → RA 5 i = some (9 + i)) (h3 : ∀ i, i < 7 → RA 22 i = some (26 + i)) (h4 : DrR tl dr N (SC 36 16) (LA 51)) (h5 : VaR (SC 1 4) (IA 19) (SC 36 18) (IA 52)) (hW : WrR IA LA RA SC dr tl N E dp pl) (h7 : RdR IA LA RA SC dr tl N m dp2 pl2 b p sc) (hd : dp < 6) (hm : mm ≤ 8) (hrp : RP (IA 37) σ1 τ1) (hge : E ≤ σ1.2) (hle : σ1.2 ≤ 4096) :
    RR (va_up (va_up (va_up (bgIA (va_up IA 3 (cw_cut σ1.1 E)) 0 dp i w mk mm) 39 (upd (upd (IA 39) 0 (nI (dp + 1))) 0 (nI dp))) 37 (md_cl τ1.1 E (τ1.2 - E))) 38 (upd (va_up (bgIA (va_up IA 3 (cw_cut σ1.1 E)) 0 dp i w mk mm) 39 (upd (upd (IA 39) 0 (nI (dp + 1))) 0 (nI dp)) 38) 0 (nI E))) LA RA (thr (va_up SC 2 (upd (SC 2) 1 (nI E))) 0) dr tl N := by
  have hc := RP_cut hrp hge hle
  have hk : ∀ k, 39 ≤ k → k ≤ 47 → va_up IA 3 (cw_cut σ1.1 E) k = IA k := fun k k1 k2 => va_up_ne _ _ (by omega)
  refine RR_wcut h1 h2 h3 h4 h5 hW h7 hc.2.1 hc.2.2 rfl rfl (fun k k3 k19 k37 k38 hk => ?_) (AgD0_bg hW.2.2.2.2.2.2.2.2.2.2.1 hk) (AgS1_bg2 hd hm hk) (fun _ => rfl) rfl (fun _ _ => rfl) (fun k k1 k2 => (thr_ne k1).trans (va_up_ne _ _ k2)) rfl (fun j hj => upd_ne hj)
  rw [va_up_ne _ _ k38, va_up_ne _ _ k37, va_up_ne _ _ (by omega)]
  unfold bgIA bgI0
  rw [va_up_ne _ _ (by omega), va_up_ne _ _ (by omega), va_up_ne _ _ (by omega), va_up_ne _ _ (by omega), va_up_ne _ _ (by omega), va_up_ne _ _ (by omega), va_up_ne _ _ (by omega), va_up_ne _ _ k3]
theorem s_enter (hs : St h) (u v : Int32) : Duo h 76 108 [.int u, .int v] isI := by
  obtain ⟨IA, LA, RA, SC, dr, tl, N, rfl, hR⟩ := hs
  have hR0 := hR
  obtain ⟨h1, h2, h3, h4, h5, ⟨E, dp, pl, hW⟩, m, dp2, pl2, b, p, sc, h7⟩ := hR
  have hW0 := hW
  obtain ⟨w1, w2, w3, w4, w5, w6, w7, w8, w9, w10⟩ := hW0
  by_cases ho : (0 ≤ u.toInt ∧ u.toInt < 64) ∧ 2 ≤ v.toInt ∧ v.toInt ≤ 8
  · obtain ⟨i, hi, e⟩ : ∃ k, k < 64 ∧ u = nI k := ⟨u.toInt.toNat, by omega, i32_nat ho.1.1⟩
    subst e
    obtain ⟨w, hw, e⟩ : ∃ k, (2 ≤ k ∧ k ≤ 8) ∧ v = nI k := ⟨v.toInt.toNat, by omega, i32_nat (by omega)⟩
    subst e
    have hd := w10.1
    have hD := w10.2.1
    have hHW := HW_self (IA := IA) (LA := LA) (RA := RA) (dr := dr) (tl := tl) w1
    have hHP : ∀ (IA1 SC1 : Nat → Nat → Int32) (RA1 : Nat → Nat → Option Nat), IA1 38 0 = nI E → HP IA1 LA RA1 SC1 dr tl (IA1 37, E) = HC IA1 LA RA1 SC1 dr tl := fun IA1 SC1 RA1 z => HP_self z
    obtain ⟨w0, b1, b2, b3, b4⟩ := SdR_w0 w10
    rw [Nat.mul_zero, Nat.zero_add] at b4
    have hinf := SdR_info w10
    rw [Nat.mul_zero, Nat.zero_add] at hinf
    by_cases h6 : dp = 6
    · subst h6
      have hc := c_open2 (d := 12) (IA := IA) (LA := LA) (dr := dr) (tl := tl) (N := N) (σ := (IA 3, E)) w5 h2 hi hw
      rw [hHW] at hc
      have hm := m_enter2 (d := 12) (IA := IA) (LA := LA) (RA := RA) (SC := SC) (dr := dr) (tl := tl) (N := N) (τ := (IA 37, E)) hD hi hw
      rw [hHP _ _ _ w2, hHP _ _ _ w2] at hm
      exact ⟨_, _, _, 0, 0, b_enter hc, hm, ⟨_, _, _, _, _, _, _, rfl, RR_thr hR0⟩, by omega, by omega, _, rfl⟩
    by_cases hI : SC (9 + dp) 0 = 0
    · have hc := c_open3 (d := 11) (IA := IA) (LA := LA) (dr := dr) (tl := tl) (N := N) (σ := (IA 3, E)) w5 (by omega) h2 hi hw hI
      rw [hHW] at hc
      have hm := m_enter3 (d := 12) (IA := IA) (LA := LA) (RA := RA) (SC := SC) (dr := dr) (tl := tl) (N := N) (τ := (IA 37, E)) hD (by omega) hi hw (hinf.mp hI)
      rw [hHP _ _ _ w2, hHP _ _ _ w2] at hm
      exact ⟨_, _, _, 0, 0, b_enter hc, hm, ⟨_, _, _, _, _, _, _, rfl, RR_thr hR0⟩, by omega, by omega, _, rfl⟩
    have hI2 : ¬ (0 < dp ∧ IA 40 dp = 0) := fun z => hI (hinf.mpr z)
    have hrp := RP_E (RP_self w4) ⟨b2, b3⟩ hi hw w3
    have hb := mE_b (τ := (IA 37, E)) (w0 := w0) (i := i) (w := w) b3 hi hw.2
    have hE1 : (mE (IA 37, E) w0 i w).2 = (wE (IA 3, E) w0 i w).2 := hrp.1
    obtain ⟨mm, hm0, hm8, hmG, hmI, hmF⟩ := w10.2.2.2.2.1 i hi
    have hmI : IA 46 i = nI mm := by rw [Nat.mul_zero, Nat.zero_add] at hmI; exact hmI
    have hwd := SdR_wd w10
    by_cases hR : ((wE (IA 3, E) w0 i w).2 + w + 31) / 32 + dp ≤ 64
    · have hc := c_open0 (d := 10) (IA := IA) (LA := LA) (RA := RA) (dr := dr) (tl := tl) (N := N) (σ := (IA 3, E)) w5 (by omega) h2 hi hw hI b1 b3 w3 hR hmG hm8 (fun j hj => by
        obtain ⟨y, f, q1, q2, q3⟩ := hmF j hj
        obtain ⟨fs, q4⟩ := Gd_HC (IA := va_up IA 3 (wE (IA 3, E) w0 i w).1) (LA := LA) (RA := RA) (SC := va_up SC 2 (upd (SC 2) 1 (nI (wE (IA 3, E) w0 i w).2))) q3
        exact ⟨y, fs, q1, q4⟩)
      rw [hHW] at hc
      have hc := pm_h2 (push_w (IA := va_up IA 3 (wE (IA 3, E) w0 i w).1) (LA := LA) (RA := RA) (SC := va_up SC 2 (upd (SC 2) 1 (nI (wE (IA 3, E) w0 i w).2))) (dr := dr) (tl := tl) (dp := dp) (by omega)) hc
      have hm := m_enter0 (d := 12) (IA := va_up (va_up IA 3 (wE (IA 3, E) w0 i w).1) 8 (upd (IA 8) (64 + (dp + 1)) (nI mm))) (LA := LA) (RA := va_up RA 7 (frCk (RA 7) i (64 + (dp + 1)) mm)) (SC := va_up (va_up (va_up SC 2 (upd (SC 2) 1 (nI (wE (IA 3, E) w0 i w).2))) 4 (upd (SC 4) 2 (nI (dp + 1)))) (9 + (dp + 1)) (bkRow (nI i) (nI w) 0 (nI (((wE (IA 3, E) w0 i w).2 + 31) / 32)) 0)) (dr := dr) (tl := tl) (N := N) (τ := (IA 37, E)) (mm := mm) hD (by omega) hi hw hI2 b4 b3 w3 hmI hm8 hwd (by rw [hE1]; exact hR)
      have hm := pm_h1 (HP_self (IA := va_up (va_up IA 3 (wE (IA 3, E) w0 i w).1) 8 (upd (IA 8) (64 + (dp + 1)) (nI mm))) w2) hm
      refine ⟨_, _, _, 0, 0, b_enter hc, hm, ⟨_, _, _, _, _, _, _, rfl, RR_enter h1 h2 h3 h4 h5 hW h7 (by omega) hi hw hmG hm8 hrp ?_ ?_ ?_ hR⟩, by omega, by omega, _, rfl⟩
      · rw [← hE1]; exact hb.1
      · rw [← hE1]; exact hb.2.2.2
      · rw [← hE1]; exact hb.2.2.1
    · have hc := c_open4 (d := 10) (IA := IA) (LA := LA) (RA := RA) (dr := dr) (tl := tl) (N := N) (σ := (IA 3, E)) w5 (by omega) h2 hi hw hI b1 b3 w3 hR
      rw [hHW] at hc
      have hm := m_enter4 (d := 12) (IA := va_up IA 3 (cw_cut (wE (IA 3, E) w0 i w).1 E)) (LA := LA) (RA := RA) (SC := va_up SC 2 (upd (SC 2) 1 (nI E))) (dr := dr) (tl := tl) (N := N) (τ := (IA 37, E)) (mm := mm) hD (by omega) hi hw hI2 b4 b3 w3 hmI hm8 hwd (by rw [hE1]; exact hR)
      have hm := pm_h1 (HP_self (IA := va_up IA 3 (cw_cut (wE (IA 3, E) w0 i w).1 E)) w2) hm
      have hb2 := hb.2.1
      refine ⟨_, _, _, 0, 0, b_enter hc, hm, ⟨_, _, _, _, _, _, _, rfl, RR_enter4 h1 h2 h3 h4 h5 hW h7 (by omega) hm8 hrp ?_ ?_⟩, by omega, by omega, _, rfl⟩
      · rw [← hE1]; exact hb.1
      · rw [← hE1]
        have : (mE (IA 37, E) w0 i w).2 ≤ E + 300 := hb2
        omega
  · exact ⟨_, _, _, 0, 0, b_enter (c_open1 (d := 12) ho), m_enter1 (d := 13) ho, ⟨_, _, _, _, _, _, _, rfl, RR_thr hR0⟩, by omega, by omega, _, rfl⟩
end ST4
