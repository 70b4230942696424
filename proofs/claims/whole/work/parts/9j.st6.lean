/-! STEPS: form -/
theorem cw_ch_ge2 {t : Nat} {g : Nat → Int32} {E x w : Nat} : E + w ≤ (cw_ch (t + 1) g E x w).2 := by
  unfold cw_ch
  split
  · exact Nat.le_refl _
  · exact cw_ch_ge ..
theorem wC_ge2 {σ : (Nat → Int32) × Nat} {x w : Nat} : σ.2 + w ≤ (wC σ x w).2 := cw_ch_ge2
theorem wOp_ge {σ : (Nat → Int32) × Nat} {k x : Nat} : σ.2 ≤ (wOp σ k x).2 ∧ (¬ k = 3 → σ.2 + 9 ≤ (wOp σ k x).2) := by
  unfold wOp
  split
  · have := wC_ge2 (σ := wP σ 1 1) (x := x) (w := 8)
    have e : (wP σ 1 1).2 = σ.2 + 1 := rfl
    omega
  · have e : (wP (wP σ 0 1) (nI k) 3).2 = σ.2 + 1 + 3 := rfl
    split
    · rename_i h3
      exact ⟨by omega, fun z => absurd h3 z⟩
    · have := wC_ge2 (σ := wP (wP σ 0 1) (nI k) 3) (x := x) (w := 5)
      omega
theorem wFk_ge {kk vv : Nat → Nat} {σ : (Nat → Int32) × Nat} : ∀ k, σ.2 ≤ (wFk kk vv σ k).2
  | 0 => Nat.le_refl _
  | k + 1 => by
    have h1 := wFk_ge (kk := kk) (vv := vv) (σ := σ) k
    have h2 := (wOp_ge (σ := wFk kk vv σ k) (k := kk k) (x := vv k)).1
    show _ ≤ (wOp (wFk kk vv σ k) (kk k) (vv k)).2
    omega
theorem wFo_ge {kk vv : Nat → Nat} {σ : (Nat → Int32) × Nat} {w n : Nat} (hw : 2 ≤ w) (ho : fmOkN kk n) : σ.2 + 16 ≤ (wFo kk vv σ w n).2 := by
  have h0 := ho.1
  obtain ⟨k, rfl⟩ : ∃ k, n = k + 1 := ⟨n - 1, by omega⟩
  have h1 := wC_ge2 (σ := wP σ 3 w) (x := k + 1) (w := 5)
  have h2 := wFk_ge (kk := kk) (vv := vv) (σ := wC (wP σ 3 w) (k + 1) 5) k
  have h3 := (wOp_ge (σ := wFk kk vv (wC (wP σ 3 w) (k + 1) 5) k) (k := kk k) (x := vv k)).2 (fun z => by have := (ho.2 k (by omega) z).1; omega)
  have e : (wP σ 3 w).2 = σ.2 + w := rfl
  show _ ≤ (wOp (wFk kk vv (wC (wP σ 3 w) (k + 1) 5) k) (kk k) (vv k)).2
  omega
theorem RP_Fk {T : Nat → Int32} {σ τ : (Nat → Int32) × Nat} {kk vv : Nat → Nat} {n : Nat} (h : RP T σ τ) (hB : fmB n kk vv) (hE : σ.2 + 97 * n ≤ 4096) : ∀ k, k ≤ n → RP T (wFk kk vv σ k) (mFk kk vv τ k) ∧ (wFk kk vv σ k).2 ≤ σ.2 + 97 * k
  | 0, _ => ⟨h, Nat.le_refl _⟩
  | k + 1, hk => by
    obtain ⟨h1, h2⟩ := RP_Fk h hB hE k (by omega)
    obtain ⟨b1, b2, -⟩ := hB k (by omega)
    have h3 := wOp_end (σ := wFk kk vv σ k) (k := kk k) b2
    refine ⟨RP_op h1 b1 b2 (by omega), ?_⟩
    show (wOp (wFk kk vv σ k) (kk k) (vv k)).2 ≤ _
    omega
theorem RP_Fo {T : Nat → Int32} {σ τ : (Nat → Int32) × Nat} {kk vv : Nat → Nat} {n w : Nat} (h : RP T σ τ) (hB : fmB n kk vv) (hn : n ≤ 8) (hw : 2 ≤ w ∧ w ≤ 8) (hE : σ.2 ≤ 2048) : RP T (wFo kk vv σ w n) (mFo kk vv τ w n) := by
  have h1 : RP T (wP σ (nI 3) w) (mP τ (nI 3) w) := RP_P h (by omega) (Nat.lt_of_lt_of_le (show 3 < 2 ^ 2 by decide) (Nat.pow_le_pow_right (by omega) hw.1)) (by omega)
  have e1 : (wP σ (nI 3) w).2 = σ.2 + w := rfl
  have h2 := RP_C h1 (x := n) (w := 5) (by omega) (by omega) (by omega) (by omega)
  have b1 := wC_end (σ := wP σ (nI 3) w) (x := n) (w := 5) (by omega) (by omega) (by omega)
  exact (RP_Fk h2 hB (by omega) n (Nat.le_refl _)).1
theorem fmOk_iffW {K V : Nat → Int32} {n : Nat} {kk vv : Nat → Nat} (hN : fmW K V n kk vv) : fmOk K n ↔ fmOkN kk n := by
  have e : ∀ k, k < n → ∀ c, c < 4 → (K k = nI c ↔ kk k = c) := fun k hk c hc => by
    rw [(hN k hk).1]
    exact nI_eqI (by have := (hN k hk).2.2.1; omega) (by omega)
  constructor
  · rintro ⟨h0, h1⟩
    refine ⟨h0, fun k hk h3 => ?_⟩
    obtain ⟨a, b⟩ := h1 k hk ((e k hk 3 (by omega)).mpr h3)
    refine ⟨a, b.imp ?_ ?_⟩
    · exact (e (k + 1) (by omega) 1 (by omega)).mp
    · exact (e (k + 1) (by omega) 2 (by omega)).mp
  · rintro ⟨h0, h1⟩
    refine ⟨h0, fun k hk h3 => ?_⟩
    obtain ⟨a, b⟩ := h1 k hk ((e k hk 3 (by omega)).mp h3)
    refine ⟨a, b.imp ?_ ?_⟩
    · exact (e (k + 1) (by omega) 1 (by omega)).mpr
    · exact (e (k + 1) (by omega) 2 (by omega)).mpr
section ST6
variable {IA : Nat → Nat → Int32} {LA : Nat → Nat → Int64} {RA : Nat → Nat → Option Nat} {SC : Nat → Nat → Int32} {dr : Nat} {tl : Nat → va_E} {N E dp pl : Nat} {h : pm_H}
/-- where a FORM goes: its row, how many are there -/
theorem SdR_row {s : Nat} {cG : Nat → Int32} {cR : Nat → Option Nat} {B : Nat → Nat → Int32} {G : Nat → Nat → Prop} {Y : Nat → Nat → Prop} (h : SdR s dp cG cR B IA G Y) (hd : 1 ≤ dp) : ∃ id w t c st, id < 64 ∧ t < 64 ∧ c ≤ 8 ∧ cntB IA s (7 * s + dp) id t c ∧ B dp 0 = nI id ∧ B dp 2 = nI t ∧ (B dp 1 = nI w ∧ 2 ≤ w ∧ w ≤ 8 ∧ IA 41 (7 * s + dp) = nI w) ∧ (0 < id → BkR s dp cG cR (B dp) IA G (Y dp) id w t c st ∧ cG (64 + dp) = nI c) ∧ (id = 0 → cG t = nI c) := by
  obtain ⟨a1, a2, a3, a4, a5, a6⟩ := h
  obtain ⟨id, w, t, c, st, hb⟩ := a6 dp hd (Nat.le_refl _)
  have hb0 := hb
  obtain ⟨⟨p1, p2, p3⟩, ⟨q1, q2, q3, q4⟩, ⟨u1, u2, u3⟩, ⟨v1, v2, v3, v4⟩, e1, e2⟩ := hb0
  by_cases hid : id = 0
  · obtain ⟨c2, c3, c4⟩ := a5 t u2
    exact ⟨id, w, t, c2, st, p2, u2, c4.1, ⟨p3, p2, u3, u2, c4.1, fun z => absurd z (by omega), fun _ => c4.2.2.1⟩, p1, u1, ⟨q1, q2, q3, q4⟩, fun z => absurd z (by omega), fun _ => c4.2.1⟩
  · exact ⟨id, w, t, c, st, p2, u2, e2.1, ⟨p3, p2, u3, u2, e2.1, fun _ => e2.2.2.1, fun z => absurd z hid⟩, p1, u1, ⟨q1, q2, q3, q4⟩, fun _ => ⟨hb, e2.2.1⟩, fun z => absurd z hid⟩
/-- the new form, and the old ones beside it -/
theorem RR_form {σ1 τ1 : (Nat → Int32) × Nat} {id w t c st ro n m dp2 pl2 b p sc : Nat} {K V : Nat → Int32} {kk vv : Nat → Nat} (h1 : 56 ≤ N) (h2 : ∀ i, i < 7 → RA 5 i = some (9 + i)) (h3 : ∀ i, i < 7 → RA 22 i = some (26 + i)) (d1 : okq dr) (d2 : dr + 3 ≤ N) (d3 : fmAt tl dr n K V) (d4 : fmW K V n kk vv) (d5 : fmB n kk vv) (d7 : opsAt (LA 51) 0 n kk vv) (ho : fmOkN kk n) (h5 : VaR (SC 1 4) (IA 19) (SC 36 18) (IA 52)) (hW : WrR IA LA RA SC dr tl N E (dp + 1) pl) (h7 : RdR IA LA RA SC dr tl N m dp2 pl2 b p sc) (hw : IA 41 (dp + 1) = nI w) (hw8 : w ≤ 8) (hc : c < 8) (hro : (0 < id ∧ ro = 64 + (dp + 1) ∧ BkR 0 (dp + 1) (IA 8) (RA 7) (SC (9 + (dp + 1))) IA (Gd fmW (IA 49) (LA 48) tl N dr 0 pl) (fun st => 32 * st ≤ E) id w t c st) ∨ (id = 0 ∧ ro = t ∧ 1 ≤ t ∧ t < 64 ∧ IA 8 t = nI c)) (hrp : RP (IA 37) σ1 τ1) (hge : E + 16 ≤ σ1.2) (hR : (σ1.2 + w + 31) / 32 + dp ≤ 64) :
    RR (va_up (va_up (foM (va_up (va_up IA 8 (upd (IA 8) ro (nI (c + 1)))) 3 σ1.1) dp id t c pl n) 37 τ1.1) 38 (upd (foM (va_up (va_up IA 8 (upd (IA 8) ro (nI (c + 1)))) 3 σ1.1) dp id t c pl n 38) 0 (nI τ1.2))) (va_up LA 48 (opCp (LA 48) (LA 51) (8 * pl) n)) (va_up RA 7 (va_up (RA 7) (8 * ro + c) (some dr))) (va_up (thr (va_up SC 2 (upd (SC 2) 1 (nI σ1.2))) 0) 36 (upd (thr (va_up SC 2 (upd (SC 2) 1 (nI σ1.2))) 0 36) 16 0)) N (tlNew tl N) (N + 3) := by
  obtain ⟨w1, w2, w3, w4, w5, w6, w7, w8', w9, w10⟩ := hW
  have hE1 := hrp.1
  have hSC : ∀ i, 9 ≤ i → i ≠ 36 → va_up (thr (va_up SC 2 (upd (SC 2) 1 (nI σ1.2))) 0) 36 (upd (thr (va_up SC 2 (upd (SC 2) 1 (nI σ1.2))) 0 36) 16 0) i = SC i := fun i hi h36 => (va_up_ne _ _ h36).trans ((thr_ne h36).trans (va_up_ne _ _ (by omega)))
  have hop : ∀ j, (j < 8 * pl ∨ 1200 ≤ j) → opCp (LA 48) (LA 51) (8 * pl) n j = LA 48 j := fun j hj => by
    have := d3.2.2.2
    unfold opCp
    rw [if_neg (by omega)]
  have h49 : ∀ f, f ≠ pl → upd (IA 49) pl (nI n) f = IA 49 f := fun f hf => upd_ne hf
  have hGn : Gd fmW (upd (IA 49) pl (nI n)) (opCp (LA 48) (LA 51) (8 * pl) n) (tlNew tl N) (N + 3) N 0 (pl + 1) dr pl := by
    refine ⟨d1, by omega, by omega, by omega, by omega, n, kk, vv, upd_at _ _ _, d3.2.2.2, ho, d5, fun j hj => ?_, K, V, ⟨?_, ?_, ?_, d3.2.2.2⟩, d4⟩
    · obtain ⟨o1, o2, o3⟩ := d7 j hj
      rw [Nat.zero_add] at o1
      refine ⟨?_, o2, o3⟩
      unfold opCp
      rw [if_pos (by omega), show 8 * pl + j - 8 * pl = j by omega]
      exact o1
    · rw [tlNew_ne (by omega)]; exact d3.1
    · rw [tlNew_ne (by omega)]; exact d3.2.1
    · rw [tlNew_ne (by omega)]; exact d3.2.2.1
  have hGw : ∀ y f, Gd fmW (IA 49) (LA 48) tl N dr 0 pl y f → Gd fmW (upd (IA 49) pl (nI n)) (opCp (LA 48) (LA 51) (8 * pl) n) (tlNew tl N) (N + 3) N 0 (pl + 1) y f := fun y f z => Gd_mono (fun f _ hf => h49 f (by omega)) (fun j _ hj => hop j (Or.inl hj)) (fun k hk _ => tlNew_ne hk) (by omega) (fun y hy _ => Or.inl hy) (by omega) z
  have hGr : ∀ y f, Gd fmN (IA 49) (LA 48) tl N dr 150 (150 + pl2) y f → Gd fmN (upd (IA 49) pl (nI n)) (opCp (LA 48) (LA 51) (8 * pl) n) (tlNew tl N) (N + 3) N 150 (150 + pl2) y f := fun y f z => Gd_mono (fun f hf _ => h49 f (by omega)) (fun j hj _ => hop j (Or.inr (by omega))) (fun k hk _ => tlNew_ne hk) (by omega) (fun y hy _ => Or.inl hy) (by omega) z
  rcases hro with ⟨hid, rfl, hb⟩ | ⟨hid, rfl, ht1, ht2, hrt⟩
  · have ef : foM (va_up (va_up IA 8 (upd (IA 8) (64 + (dp + 1)) (nI (c + 1)))) 3 σ1.1) dp id t c pl n = tkO (va_up (va_up (va_up IA 8 (upd (IA 8) (64 + (dp + 1)) (nI (c + 1)))) 3 σ1.1) 49 (upd (IA 49) pl (nI n))) 0 (dp + 1) c pl := by
      unfold foM
      rw [if_pos hid]
      rfl
    rw [ef]
    refine ⟨by omega, h2, h3, ⟨Or.inr h1, by omega, 0, fun _ => 0, fun _ => 0, kk, vv, tlNew_at, fun k hk => absurd hk (by omega), fun k hk => absurd hk (by omega), rfl, fun k hk => absurd hk (by omega)⟩, h5, ⟨σ1.2, dp + 1, pl + 1, ?_⟩, m, dp2, pl2, b, p, sc, ?_⟩
    · refine ⟨rfl, congrArg nI hE1, by omega, hrp.2.1, w5, fun z => absurd z (by omega), rfl, by omega, fun w9 hd9 hw9 hw98 => ?_, ?_⟩
      · have := (nI_eqI (by omega) (by omega)).mp (hw.symm.trans hw9)
        subst this
        omega
      · have ha := SdR_addO (s := 0) (dp := dp + 1) (y := dr) (f := pl) (IA' := va_up (va_up (tkO (va_up (va_up (va_up IA 8 (upd (IA 8) (64 + (dp + 1)) (nI (c + 1)))) 3 σ1.1) 49 (upd (IA 49) pl (nI n))) 0 (dp + 1) c pl) 37 τ1.1) 38 (upd (IA 38) 0 (nI τ1.2))) (by omega) w10 (by omega) hb hid hc rfl rfl (by rw [Nat.mul_zero, Nat.zero_add]; rfl) (by rw [Nat.mul_zero, Nat.zero_add]; show upd (IA 45) (8 * (dp + 1) + c) (nI (150 * 0 + pl)) = _; rw [Nat.mul_zero, Nat.zero_add]) (fun k k1 k2 k44 k45 => by
          unfold tkO
          rw [va_up_ne _ _ (by omega), va_up_ne _ _ (by omega), va_up_ne _ _ k44, va_up_ne _ _ k45, va_up_ne _ _ (by omega), va_up_ne _ _ (by omega), va_up_ne _ _ (by omega), va_up_ne _ _ (by omega)]) hGw hGn
        exact SdR_congr ha rfl rfl (fun i hi => hSC _ (by omega) (by omega)) (AgS_eq (fun _ _ _ => rfl)) (fun _ _ z => z) (fun _ _ _ _ z => Nat.le_trans z (by omega))
    · refine RdR_congr h7 rfl rfl rfl hrp.2.2 rfl rfl rfl rfl rfl rfl rfl rfl rfl (fun i hi => hSC _ (by omega) (by omega)) ?_ hGr
      refine ⟨rfl, fun i hi => ⟨rfl, rfl, rfl, rfl, ?_, fun j hj => ?_⟩, fun _ _ => ⟨rfl, fun _ _ => rfl⟩⟩
      · show upd (IA 44) (dp + 1) _ (7 * 1 + i) = _
        exact upd_ne (by have := w10.1; omega)
      · show upd (IA 45) (8 * (dp + 1) + c) _ (8 * (7 * 1 + i) + j) = _
        exact upd_ne (by have := w10.1; omega)
  · have ef : foM (va_up (va_up IA 8 (upd (IA 8) ro (nI (c + 1)))) 3 σ1.1) dp id ro c pl n = tkK (va_up (va_up (va_up IA 8 (upd (IA 8) ro (nI (c + 1)))) 3 σ1.1) 49 (upd (IA 49) pl (nI n))) 0 ro c pl := by
      unfold foM
      rw [if_neg (by omega)]
      rfl
    rw [ef]
    refine ⟨by omega, h2, h3, ⟨Or.inr h1, by omega, 0, fun _ => 0, fun _ => 0, kk, vv, tlNew_at, fun k hk => absurd hk (by omega), fun k hk => absurd hk (by omega), rfl, fun k hk => absurd hk (by omega)⟩, h5, ⟨σ1.2, dp + 1, pl + 1, ?_⟩, m, dp2, pl2, b, p, sc, ?_⟩
    · refine ⟨rfl, congrArg nI hE1, by omega, hrp.2.1, w5, fun z => absurd z (by omega), rfl, by omega, fun w9 hd9 hw9 hw98 => ?_, ?_⟩
      · have := (nI_eqI (by omega) (by omega)).mp (hw.symm.trans hw9)
        subst this
        omega
      · have ha := SdR_addK (s := 0) (dp := dp + 1) (y := dr) (f := pl) (t := ro) (IA' := va_up (va_up (tkK (va_up (va_up (va_up IA 8 (upd (IA 8) ro (nI (c + 1)))) 3 σ1.1) 49 (upd (IA 49) pl (nI n))) 0 ro c pl) 37 τ1.1) 38 (upd (IA 38) 0 (nI τ1.2))) (by omega) w10 ht1 ht2 hrt hc rfl rfl (by rw [Nat.mul_zero, Nat.zero_add]; rfl) (by rw [Nat.mul_zero, Nat.zero_add]; show upd (IA 47) (8 * ro + c) (nI (150 * 0 + pl)) = _; rw [Nat.mul_zero, Nat.zero_add]) (fun k k1 k2 => by
          unfold tkK
          rw [va_up_ne _ _ (by omega), va_up_ne _ _ (by omega), va_up_ne _ _ (by omega), va_up_ne _ _ (by omega), va_up_ne _ _ (by omega), va_up_ne _ _ (by omega), va_up_ne _ _ (by omega), va_up_ne _ _ (by omega)]) hGw hGn
        exact SdR_congr ha rfl rfl (fun i hi => hSC _ (by omega) (by omega)) (AgS_eq (fun _ _ _ => rfl)) (fun _ _ z => z) (fun _ _ _ _ z => Nat.le_trans z (by omega))
    · refine RdR_congr h7 rfl rfl rfl hrp.2.2 rfl rfl rfl rfl rfl rfl rfl rfl rfl (fun i hi => hSC _ (by omega) (by omega)) ?_ hGr
      refine ⟨rfl, fun i hi => ⟨rfl, rfl, rfl, rfl, rfl, fun j hj => rfl⟩, fun i hi => ⟨?_, fun j hj => ?_⟩⟩
      · show upd (IA 46) ro _ (64 * 1 + i) = _
        exact upd_ne (by omega)
      · show upd (IA 47) (8 * ro + c) _ (512 * 1 + 8 * i + j) = _
        exact upd_ne (by omega)
end ST6
