/-! STEPS: next reads a FORM -/
section NXF
variable {IA : Nat → Nat → Int32} {LA LA2 : Nat → Nat → Int64} {RA : Nat → Nat → Option Nat} {SC : Nat → Nat → Int32} {dr : Nat} {tl tl' : Nat → va_E} {N m dp pl p sc w : Nat}
theorem RR_nF {q n id w9 t c st ro : Nat} {rd0 : Nat → Int32} {L : Nat → Int64} {kk vv : Nat → Nat} (hR : RR IA LA RA SC dr tl N) (hD : RdR IA LA RA SC dr tl N m (dp + 1) pl 0 p sc) (hpq : p + 16 ≤ q) (hqm : q ≤ 32 * m) (hn : n ≤ 8) (ho : fmOkN kk n) (hB : fmB n kk vv) (hc : c < 8) (hro : (0 < id ∧ ro = 64 + (dp + 1) ∧ BkR 1 (dp + 1) (IA 25) (RA 24) (SC (26 + (dp + 1))) IA (Gd fmN (IA 49) (LA 48) tl N dr 150 (150 + pl)) (fun st => st ≤ m ∧ SC (26 + (dp + 1)) 4 = IA 37 (128 + (st - 1))) id w9 t c st) ∨ (id = 0 ∧ ro = t ∧ 1 ≤ t ∧ t < 64 ∧ IA 25 t = nI c)) (hf : fmAt tl' N n (nF kk) (nF vv)) (ht : ∀ j, j < N → tl' j = tl j) (hO : opsAt L (8 * (150 + pl)) n kk vv) (hL : loF L (LA2 48) (8 * (150 + pl))) (z1 : LA2 48 = LA 48) (z2 : LA2 51 = LA 51) :
    RR (va_up (va_up (va_up (fiIA (foIA (va_up IA 34 (IA 34)) ro c n) (dp + 1) id t c pl n) 38 (upd (fiIA (foIA (va_up IA 34 (IA 34)) ro c n) (dp + 1) id t c pl n 38) 1 (nI q))) 54 (upd (upd rd0 0 (nI n)) 1 (nI (c + 4)))) 53 (mfCk (fiIA (foIA (va_up IA 34 (IA 34)) ro c n) (dp + 1) id t c pl n 53) (upd (upd rd0 0 (nI n)) 1 (nI (c + 4))) 0 0 2)) (va_up LA2 48 L) (va_up RA 24 (va_up (RA 24) (8 * ro + c) (some N))) (nxG (va_up (foSC (SCq SC q)) 20 (upd (foSC (SCq SC q) 20) 4 0)) 2) dr tl' (N + 3) := by
  have h56 := hR.1
  have hdr := hR.2.2.2.1.2.1
  obtain ⟨⟨a1, a2, a3, a4⟩, a5, ⟨a6, a7, a8⟩, ⟨a9, a10⟩, a11, ⟨a12, a13, a14, a15⟩, a16⟩ := hD
  obtain ⟨b1, b2, b3, b4⟩ := a11 rfl
  have hd6 := a16.1
  rw [z1] at hL
  have hSc : ∀ k, k ≠ 20 → va_up (foSC (SCq SC q)) 20 (upd (foSC (SCq SC q) 20) 4 0) k = SC k := fun k k20 => by
    unfold foSC
    exact (va_up_ne _ _ k20).trans ((va_up_ne _ _ k20).trans (SCq_ne k20))
  have hI1 : ∀ k, k ≠ 25 → k ≠ 35 → foIA (va_up IA 34 (IA 34)) ro c n k = IA k := fun k k25 k35 => by
    unfold foIA
    rw [va_up_ne _ _ k35, va_up_ne _ _ k25, va_up_ne _ _ k35, cw_id]
  have hGn : Gd fmN (upd (IA 49) (150 + pl) (nI n)) L tl' (N + 3) dr 150 (150 + (pl + 1)) N (150 + pl) :=
    ⟨Or.inr h56, by omega, Or.inr hdr, by omega, by omega, n, kk, vv, upd_at _ _ _, hn, ho, hB, hO, nF kk, nF vv, hf, fmB_N hB⟩
  have hGr : ∀ y f, Gd fmN (IA 49) (LA 48) tl N dr 150 (150 + pl) y f → Gd fmN (upd (IA 49) (150 + pl) (nI n)) L tl' (N + 3) dr 150 (150 + (pl + 1)) y f := fun y f z => Gd_mono (fun f _ hf => upd_ne (by omega)) (fun j _ hj => hL j hj) (fun k hk _ => ht k hk) (by omega) (fun _ _ z => z) (by omega) z
  have hsh : ∀ j, j < 2 → upd (upd (IA 35) 0 (nI n)) 1 (nI (4 + c)) j = mfCk (IA 53) (upd (upd rd0 0 (nI n)) 1 (nI (c + 4))) 0 0 2 j := fun j hj => by
    have hj2 : j = 0 ∨ j = 1 := by omega
    rcases hj2 with rfl | rfl
    · rfl
    · show nI (4 + c) = nI (c + 4)
      rw [Nat.add_comm]
  rcases hro with ⟨hid, rfl, hb⟩ | ⟨hid, rfl, ht1, ht2, hrt⟩
  · have ef : fiIA (foIA (va_up IA 34 (IA 34)) (64 + (dp + 1)) c n) (dp + 1) id t c pl n = tkO (va_up (foIA (va_up IA 34 (IA 34)) (64 + (dp + 1)) c n) 49 (upd (IA 49) (150 + pl) (nI n))) 1 (7 + (dp + 1)) c pl := by
      unfold fiIA
      rw [if_pos hid]
      rfl
    rw [ef]
    refine RR_good hR (by omega) rfl rfl rfl ht z2 (fun j hj => hL j (by omega)) (fun k k25 k34 k35 k38 hk k49 k50 k53 k54 => ?_) rfl rfl (fun f hf => upd_ne (by omega)) ?_ (fun k k20 k21 k36 hk => by rw [nxG_ne k36]; exact hSc k k20) rfl rfl (m' := m) (dp' := dp + 1) (pl' := pl + 1) (b' := 0) (p' := q) (sc' := 2) ⟨⟨a1, a2, a3, a4⟩, a5, ⟨rfl, a7, by omega⟩, ⟨rfl, by omega⟩, fun _ => ⟨rfl, rfl, hqm, by omega⟩, ⟨rfl, rfl, by omega, hsh⟩, ?_⟩
    · unfold tkO
      rw [va_up_ne _ _ k53, va_up_ne _ _ k54, va_up_ne _ _ k38, va_up_ne _ _ (by omega), va_up_ne _ _ (by omega), va_up_ne _ _ k50, va_up_ne _ _ k49]
      exact hI1 k k25 k35
    · refine ⟨rfl, fun j hj => ⟨rfl, rfl, rfl, rfl, ?_, fun l hl => ?_⟩, fun j hj => ⟨rfl, fun _ _ => rfl⟩⟩
      · show upd (IA 44) (7 + (dp + 1)) _ (7 * 0 + j) = _
        exact upd_ne (by omega)
      · show upd (IA 45) (8 * (7 + (dp + 1)) + c) _ (8 * (7 * 0 + j) + l) = _
        exact upd_ne (by omega)
    · have ha := SdR_addO (s := 1) (dp := dp + 1) (y := N) (f := 150 + pl) (IA' := va_up (va_up (va_up (tkO (va_up (foIA (va_up IA 34 (IA 34)) (64 + (dp + 1)) c n) 49 (upd (IA 49) (150 + pl) (nI n))) 1 (7 + (dp + 1)) c pl) 38 (upd (IA 38) 1 (nI q))) 54 (upd (upd rd0 0 (nI n)) 1 (nI (c + 4)))) 53 (mfCk (IA 53) (upd (upd rd0 0 (nI n)) 1 (nI (c + 4))) 0 0 2)) (by omega) a16 (by omega) hb hid hc rfl rfl rfl rfl (fun k k1 k2 k44 k45 => by
        unfold tkO
        rw [va_up_ne _ _ (by omega), va_up_ne _ _ (by omega), va_up_ne _ _ (by omega), va_up_ne _ _ k44, va_up_ne _ _ k45, va_up_ne _ _ (by omega), va_up_ne _ _ (by omega)]
        exact hI1 k (by omega) (by omega)) hGr hGn
      exact SdR_congr ha rfl rfl (fun i hi => by rw [nxG_ne (by omega)]; exact hSc _ (by omega)) (AgS_eq (fun _ _ _ => rfl)) (fun _ _ z => z) (fun i st i1 i2 z => ⟨z.1, by rw [nxG_ne (by omega), hSc _ (by omega)]; exact z.2⟩)
  · have ef : fiIA (foIA (va_up IA 34 (IA 34)) ro c n) (dp + 1) id ro c pl n = tkK (va_up (foIA (va_up IA 34 (IA 34)) ro c n) 49 (upd (IA 49) (150 + pl) (nI n))) 1 (64 + ro) c pl := by
      unfold fiIA
      rw [if_neg (by omega)]
      rfl
    rw [ef]
    refine RR_good hR (by omega) rfl rfl rfl ht z2 (fun j hj => hL j (by omega)) (fun k k25 k34 k35 k38 hk k49 k50 k53 k54 => ?_) rfl rfl (fun f hf => upd_ne (by omega)) ?_ (fun k k20 k21 k36 hk => by rw [nxG_ne k36]; exact hSc k k20) rfl rfl (m' := m) (dp' := dp + 1) (pl' := pl + 1) (b' := 0) (p' := q) (sc' := 2) ⟨⟨a1, a2, a3, a4⟩, a5, ⟨rfl, a7, by omega⟩, ⟨rfl, by omega⟩, fun _ => ⟨rfl, rfl, hqm, by omega⟩, ⟨rfl, rfl, by omega, hsh⟩, ?_⟩
    · unfold tkK
      rw [va_up_ne _ _ k53, va_up_ne _ _ k54, va_up_ne _ _ k38, va_up_ne _ _ (by omega), va_up_ne _ _ (by omega), va_up_ne _ _ k50, va_up_ne _ _ k49]
      exact hI1 k k25 k35
    · refine ⟨rfl, fun j hj => ⟨rfl, rfl, rfl, rfl, rfl, fun l hl => rfl⟩, fun j hj => ⟨?_, fun l hl => ?_⟩⟩
      · show upd (IA 46) (64 + ro) _ (64 * 0 + j) = _
        exact upd_ne (by omega)
      · show upd (IA 47) (8 * (64 + ro) + c) _ (512 * 0 + 8 * j + l) = _
        exact upd_ne (by omega)
    · have ha := SdR_addK (s := 1) (dp := dp + 1) (y := N) (f := 150 + pl) (t := ro) (IA' := va_up (va_up (va_up (tkK (va_up (foIA (va_up IA 34 (IA 34)) ro c n) 49 (upd (IA 49) (150 + pl) (nI n))) 1 (64 + ro) c pl) 38 (upd (IA 38) 1 (nI q))) 54 (upd (upd rd0 0 (nI n)) 1 (nI (c + 4)))) 53 (mfCk (IA 53) (upd (upd rd0 0 (nI n)) 1 (nI (c + 4))) 0 0 2)) (by omega) a16 ht1 ht2 hrt hc rfl rfl rfl rfl (fun k k1 k2 => by
        unfold tkK
        rw [va_up_ne _ _ (by omega), va_up_ne _ _ (by omega), va_up_ne _ _ (by omega), va_up_ne _ _ (by omega), va_up_ne _ _ (by omega), va_up_ne _ _ (by omega), va_up_ne _ _ (by omega)]
        exact hI1 k (by omega) (by omega)) hGr hGn
      exact SdR_congr ha rfl rfl (fun i hi => by rw [nxG_ne (by omega)]; exact hSc _ (by omega)) (AgS_eq (fun _ _ _ => rfl)) (fun _ _ z => z) (fun i st i1 i2 z => ⟨z.1, by rw [nxG_ne (by omega), hSc _ (by omega)]; exact z.2⟩)
end NXF
