/-! THE MODEL: zeros, a block's beginning and end -/
theorem ixm (a s b : Nat) : nI a * nI s + nI b = nI (a * s + b) := by rw [pk_mul, nI_add]
def mfCk (F G : Nat → Int32) (a c k : Nat) : Nat → Int32 := fun j => if a ≤ j ∧ j < a + k then G (c + (j - a)) else F j
theorem mfCk_0 (F G : Nat → Int32) (a c : Nat) : mfCk F G a c 0 = F := by
  funext j
  unfold mfCk
  rw [if_neg (by omega)]
theorem mfCk_s (F G : Nat → Int32) (a c k : Nat) : upd (mfCk F G a c k) (a + k) (G (c + k)) = mfCk F G a c (k + 1) := by
  funext j
  show (if j = a + k then G (c + k) else mfCk F G a c k j) = mfCk F G a c (k + 1) j
  unfold mfCk
  by_cases h : j = a + k
  · subst h
    rw [if_pos rfl, if_pos (by omega), show a + k - a = k by omega]
  · rw [if_neg h]
    by_cases h2 : a ≤ j ∧ j < a + k
    · rw [if_pos h2, if_pos (by omega)]
    · rw [if_neg h2, if_neg (by omega)]
theorem rdN_0 (g : Nat → Int32) (p : Nat) : ∀ n, rdN g p n = 0 ↔ ∀ k, k < n → sb g (p + k) = false
  | 0 => ⟨fun _ _ h => absurd h (by omega), fun _ => rfl⟩
  | n + 1 => by
    rw [rdN_s]
    have hp := Nat.two_pow_pos n
    constructor
    · intro h k hk
      have h1 : rdN g p n = 0 := by omega
      have h2 : ¬ sb g (p + n) = true := by
        intro h3
        rw [if_pos h3] at h
        omega
      by_cases hkn : k = n
      · subst hkn; exact Bool.eq_false_iff.mpr h2
      · exact (rdN_0 g p n).mp h1 k (by omega)
    · intro h
      rw [(rdN_0 g p n).mpr (fun k hk => h k (by omega)), if_neg (by rw [h n (by omega)]; decide)]
section ME
variable {IA : Nat → Nat → Int32} {LA : Nat → Nat → Int64} {RA : Nat → Nat → Option Nat} {SC : Nat → Nat → Int32} {dr : Nat} {tl : Nat → va_E} {N d m p b dp : Nat} {rd : Nat → Int32}
theorem m_zs_head {r : pm_V} {h' : pm_H} (hp : p ≤ 2048) (k0 : p % 32 = 0 → pm_X (pm_call (d + 1)) jm_140 1 none (d + 1) 0 0 39 [(0, .ref 36)] [] 0 0 (N, HM IA LA RA SC dr tl p b rd) r h') (k1 : ¬ p % 32 = 0 → b = 1 → pm_X (pm_call (d + 1)) jm_140 1 none (d + 1) 0 0 39 [(0, .ref 36)] [] 0 0 (N, HM IA LA RA SC dr tl p b rd) r h') (k2 : ¬ p % 32 = 0 → b = 0 → pm_X (pm_call (d + 1)) jm_140 1 none (d + 1) 0 0 19 [(0, .ref 36)] [] 0 0 (N, HM IA LA RA SC dr tl p b rd) r h') (hb : b ≤ 1) : pm_X (pm_call (d + 1)) jm_140 1 none (d + 1) 0 0 0 [(0, .ref 36)] [] 0 0 (N, HM IA LA RA SC dr tl p b rd) r h' := by
  refine pm_go 1 (pc1 := 1) rfl ?_
  refine pm_getf rfl rfl rfl ?_
  refine pm_go 1 (pc1 := 5) rfl ?_
  refine pm_iald (j := 1) rfl rfl rfl (by omega) ?_
  refine pm_nm (y := nI p) rfl ?_
  refine pm_go 2 (pc1 := 9) rfl ?_
  rw [cw_re (by omega)]
  refine pm_if rfl (fun z => k0 ((nI_eqI (b := 0) (by omega) (by omega)).mp z)) (fun z => ?_)
  have hz : ¬ p % 32 = 0 := fun h => z (show nI (p % 32) = 0 by rw [h]; rfl)
  refine pm_go 1 (pc1 := 13) rfl ?_
  refine pm_getf rfl rfl rfl ?_
  refine pm_if rfl (fun y => k1 hz ?_) (fun y => k2 hz ?_)
  · have h0 : ¬ b = 0 := fun h => y (show nI b = 0 by rw [h]; rfl)
    omega
  · exact (nI_eqI (b := 0) (by omega) (by omega)).mp (Classical.not_not.mp y)
theorem m_zs_loop (hS : SC 36 2 = nI m) (hm : m ≤ 64) : ∀ (j p : Nat), zN p = j → p ≤ 32 * m → ∃ q b, q ≤ 32 * m ∧ ((b = 0 ∧ q = p + zN p ∧ rdN (gR IA) p (zN p) = 0) ∨ (b = 1 ∧ ¬ rdN (gR IA) p (zN p) = 0)) ∧ pm_X (pm_call (d + 1)) jm_140 1 none (d + 1) 0 0 0 [(0, .ref 36)] [] 0 0 (N, HM IA LA RA SC dr tl p 0 rd) (.inl none) (N, HM IA LA RA SC dr tl q b rd) := by
  intro j
  induction j with
  | zero =>
    intro p hj hp
    refine ⟨p, 0, hp, .inl ⟨rfl, by omega, by rw [hj]; rfl⟩, ?_⟩
    have h0 : p % 32 = 0 := by unfold zN at hj; omega
    refine m_zs_head (by omega) (fun _ => pm_vret rfl rfl rfl rfl) (fun h => absurd h0 h) (fun h => absurd h0 h) (by omega)
  | succ j ih =>
    intro p hj hp
    have h0 : ¬ p % 32 = 0 := by unfold zN at hj; omega
    have hp1 : p + 1 ≤ 32 * m := by omega
    have hj2 : zN (p + 1) = j := by unfold zN at hj ⊢; omega
    by_cases hb : sb (gR IA) p = true
    · refine ⟨p + 1, 1, hp1, .inr ⟨rfl, fun h => ?_⟩, ?_⟩
      · have := (rdN_0 _ _ _).mp h 0 (by omega)
        rw [Nat.add_zero, hb] at this
        cases this
      · refine m_zs_head (by omega) (fun h => absurd h h0) (fun _ h => absurd h (by decide)) (fun _ _ => ?_) (by omega)
        refine pm_go 3 (pc1 := 22) rfl ?_
        refine pm_cV [.int (nI 1)] rfl rfl rfl rfl rfl rfl (Nat.zero_le _) (Nat.zero_le _) (m_getBits hS hm (by omega) hp1) ?_
        rw [rdN_1, if_pos hb]
        refine pm_if rfl (fun _ => ?_) (fun z => absurd (show ¬ nI 1 = 0 by decide) z)
        refine pm_go 1 (pc1 := 33) rfl ?_
        refine pm_cV [.int 0] rfl rfl rfl rfl rfl rfl (Nat.zero_le _) (Nat.zero_le _) m_must ?_
        refine pm_go 1 (pc1 := 0) rfl ?_
        exact m_zs_head (b := 1) (by omega) (fun _ => pm_vret rfl rfl rfl rfl) (fun _ _ => pm_vret rfl rfl rfl rfl) (fun _ h => absurd h (by decide)) (by omega)
    · obtain ⟨q, b, hq, hc, hX⟩ := ih (p + 1) hj2 hp1
      have hiff : rdN (gR IA) p (zN p) = 0 ↔ rdN (gR IA) (p + 1) (zN (p + 1)) = 0 := by
        rw [rdN_0, rdN_0, hj, hj2]
        constructor
        · intro h k hk
          have := h (k + 1) (by omega)
          rw [show p + 1 + k = p + (k + 1) by omega]
          exact this
        · intro h k hk
          cases k with
          | zero => exact Bool.eq_false_iff.mpr hb
          | succ k =>
            have := h k (by omega)
            rw [show p + (k + 1) = p + 1 + k by omega]
            exact this
      refine ⟨q, b, hq, ?_, ?_⟩
      · rw [hiff]
        rcases hc with h | h
        · exact .inl ⟨h.1, by omega, h.2.2⟩
        · exact .inr h
      · refine m_zs_head (by omega) (fun h => absurd h h0) (fun _ h => absurd h (by decide)) (fun _ _ => ?_) (by omega)
        refine pm_go 3 (pc1 := 22) rfl ?_
        refine pm_cV [.int (nI 1)] rfl rfl rfl rfl rfl rfl (Nat.zero_le _) (Nat.zero_le _) (m_getBits hS hm (by omega) hp1) ?_
        rw [rdN_1, if_neg hb]
        refine pm_if rfl (fun z => absurd rfl z) (fun _ => ?_)
        refine pm_go 2 (pc1 := 33) rfl ?_
        refine pm_cV [.int 1] rfl rfl rfl rfl rfl rfl (Nat.zero_le _) (Nat.zero_le _) m_must ?_
        refine pm_go 1 (pc1 := 0) rfl ?_
        exact hX
theorem m_zeros (hS : SC 36 2 = nI m) (hm : m ≤ 64) (hp : p ≤ 32 * m) : ∃ q b, q ≤ 32 * m ∧ ((b = 0 ∧ q = p + zN p ∧ rdN (gR IA) p (zN p) = 0) ∨ (b = 1 ∧ ¬ rdN (gR IA) p (zN p) = 0)) ∧ pm_call (d + 2) 140 [.ref 36] (N, HM IA LA RA SC dr tl p 0 rd) (.inl none) (N, HM IA LA RA SC dr tl q b rd) 0 0 := by
  obtain ⟨q, b, hq, hc, hX⟩ := m_zs_loop (d := d) (N := N) (IA := IA) (LA := LA) (RA := RA) (dr := dr) (tl := tl) (rd := rd) hS hm _ p rfl hp
  exact ⟨q, b, hq, hc, pm_callX jm_140 [(0, .ref 36)] rfl rfl rfl hX⟩
theorem m_zerosB (hp : p ≤ 2048) : pm_call (d + 2) 140 [.ref 36] (N, HM IA LA RA SC dr tl p 1 rd) (.inl none) (N, HM IA LA RA SC dr tl p 1 rd) 0 0 :=
  pm_callX jm_140 [(0, .ref 36)] rfl rfl rfl (m_zs_head (b := 1) hp (fun _ => pm_vret rfl rfl rfl rfl) (fun _ _ => pm_vret rfl rfl rfl rfl) (fun _ h => absurd h (by decide)) (by omega))
/-- a block begun on side s -/
def bgI0 (IA : Nat → Nat → Int32) (s dp i : Nat) (w mk : Int32) : Nat → Nat → Int32 := va_up (va_up (va_up (va_up (va_up (va_up IA 39 (upd (IA 39) s (nI (dp + 1)))) 40 (upd (IA 40) (7 * s + (dp + 1)) (nI i))) 41 (upd (IA 41) (7 * s + (dp + 1)) w)) 42 (upd (IA 42) (7 * s + (dp + 1)) mk)) 43 (upd (IA 43) (7 * s + (dp + 1)) 0)) 44 (upd (IA 44) (7 * s + (dp + 1)) (IA 46 (64 * s + i)))
def bgIA (IA : Nat → Nat → Int32) (s dp i : Nat) (w mk : Int32) (mm : Nat) : Nat → Nat → Int32 := va_up (bgI0 IA s dp i w mk) 45 (mfCk (IA 45) (IA 47) (8 * (7 * s + (dp + 1))) (512 * s + 8 * i) mm)
theorem m_bg_loop {s i bb mm : Nat} (hs : s < 2) (hi : i < 64) (hb : bb < 14) (hmm : mm ≤ 8) (hM : IA 44 bb = nI mm) : ∀ (j k : Nat), k + j = mm →
    pm_X (pm_call d) jm_107 7 none d 0 0 77 [(0, .ref 36), (1, .int (nI s)), (2, .int (nI i)), (5, .int (nI bb)), (6, .int (nI k))] [] 0 0 (N, HC (va_up IA 45 (mfCk (IA 45) (IA 47) (8 * bb) (512 * s + 8 * i) k)) LA RA SC dr tl) (.inl none) (N, HC (va_up IA 45 (mfCk (IA 45) (IA 47) (8 * bb) (512 * s + 8 * i) mm)) LA RA SC dr tl) := by
  intro j
  induction j with
  | zero =>
    intro k hk
    have e : k = mm := by omega
    subst e
    refine pm_go 2 (pc1 := 80) rfl ?_
    refine pm_getf rfl rfl rfl ?_
    refine pm_go 1 (pc1 := 85) rfl ?_
    refine pm_iald (j := bb) rfl rfl (cw_ti (by omega)) (by omega) ?_
    refine pm_nm (y := nI k) hM ?_
    refine pm_icmp rfl (fun _ => ?_) (fun z => absurd ((nI_leI (by omega) (by omega)).mpr (Nat.le_refl _)) z)
    exact pm_vret rfl rfl rfl rfl
  | succ j ih =>
    intro k hk
    refine pm_go 2 (pc1 := 80) rfl ?_
    refine pm_getf rfl rfl rfl ?_
    refine pm_go 1 (pc1 := 85) rfl ?_
    refine pm_iald (j := bb) rfl rfl (cw_ti (by omega)) (by omega) ?_
    refine pm_nm (y := nI mm) hM ?_
    refine pm_icmp rfl (fun z => absurd ((nI_leI (by omega) (by omega)).mp z) (by omega)) (fun _ => ?_)
    refine pm_go 1 (pc1 := 90) rfl ?_
    refine pm_getf rfl rfl rfl ?_
    refine pm_go 5 (pc1 := 101) rfl ?_
    rw [show (8 : Int32) * nI bb + nI k = nI (8 * bb + k) from ixm 8 bb k]
    refine pm_go 1 (pc1 := 102) rfl ?_
    refine pm_getf rfl rfl rfl ?_
    refine pm_go 9 (pc1 := 118) rfl ?_
    rw [show (512 : Int32) * nI s = nI (512 * s) from pk_mul 512 s, show (8 : Int32) * nI i = nI (8 * i) from pk_mul 8 i, nI_add, nI_add]
    refine pm_iald (j := 512 * s + 8 * i + k) rfl rfl (cw_ti (by omega)) (by omega) ?_
    refine pm_iastU (j := 8 * bb + k) rfl rfl (cw_ti (by omega)) (by omega) (hi_45 ..) ?_
    refine pm_go 2 (pc1 := 77) rfl ?_
    rw [nI_1, va_up2]
    refine pm_hp (f1 := HC (va_up IA 45 (mfCk (IA 45) (IA 47) (8 * bb) (512 * s + 8 * i) (k + 1))) LA RA SC dr tl) ?_ (pm_lv [(0, .ref 36), (1, .int (nI s)), (2, .int (nI i)), (5, .int (nI bb)), (6, .int (nI (k + 1)))] rfl rfl (ih (k + 1) (by omega)))
    rw [← mfCk_s]
    rfl
theorem m_begin {s i mm : Nat} {w mk : Int32} (hs : s < 2) (hD : IA 39 s = nI dp) (hd : dp < 6) (hi : i < 64) (hG : IA 46 (64 * s + i) = nI mm) (hmm : mm ≤ 8) : pm_call (d + 1) 107 [.ref 36, .int (nI s), .int (nI i), .int w, .int mk] (N, HC IA LA RA SC dr tl) (.inl none) (N, HC (bgIA IA s dp i w mk mm) LA RA SC dr tl) 0 0 := by
  have hsb : 7 * s + (dp + 1) < 14 := by omega
  have hu : (upd (IA 39) s (nI (dp + 1))) s = nI (dp + 1) := by show (if s = s then _ else _) = _; rw [if_pos rfl]
  refine pm_callX jm_107 [(0, .ref 36), (1, .int (nI s)), (2, .int (nI i)), (3, .int w), (4, .int mk)] rfl rfl rfl ?_
  refine pm_go 1 (pc1 := 1) rfl ?_
  refine pm_getf rfl rfl rfl ?_
  refine pm_go 2 (pc1 := 6) rfl ?_
  refine pm_iald (j := s) rfl rfl (cw_ti (by omega)) (by omega) ?_
  refine pm_nm (y := nI dp) hD ?_
  refine pm_go 2 (pc1 := 9) rfl ?_
  rw [nI_1]
  refine pm_iastU (j := s) rfl rfl (cw_ti (by omega)) (by omega) (hi_39 ..) ?_
  refine pm_go 4 (pc1 := 15) rfl ?_
  refine pm_getf rfl rfl rfl ?_
  refine pm_go 1 (pc1 := 19) rfl ?_
  refine pm_iald (j := s) rfl rfl (cw_ti (by omega)) (by omega) ?_
  refine pm_nm (y := nI (dp + 1)) hu ?_
  refine pm_go 1 (pc1 := 21) rfl ?_
  rw [show (7 : Int32) * nI s + nI (dp + 1) = nI (7 * s + (dp + 1)) from ixm 7 s (dp + 1)]
  refine pm_go 2 (pc1 := 24) rfl ?_
  refine pm_getf rfl rfl rfl ?_
  refine pm_go 2 (pc1 := 30) rfl ?_
  refine pm_iastU (j := 7 * s + (dp + 1)) rfl rfl (cw_ti (by omega)) (by omega) (hi_40 ..) ?_
  refine pm_go 1 (pc1 := 32) rfl ?_
  refine pm_getf rfl rfl rfl ?_
  refine pm_go 2 (pc1 := 38) rfl ?_
  refine pm_iastU (j := 7 * s + (dp + 1)) rfl rfl (cw_ti (by omega)) (by omega) (hi_41 ..) ?_
  refine pm_go 1 (pc1 := 40) rfl ?_
  refine pm_getf rfl rfl rfl ?_
  refine pm_go 2 (pc1 := 47) rfl ?_
  refine pm_iastU (j := 7 * s + (dp + 1)) rfl rfl (cw_ti (by omega)) (by omega) (hi_42 ..) ?_
  refine pm_go 1 (pc1 := 49) rfl ?_
  refine pm_getf rfl rfl rfl ?_
  refine pm_go 2 (pc1 := 55) rfl ?_
  refine pm_iastU (j := 7 * s + (dp + 1)) rfl rfl (cw_ti (by omega)) (by omega) (hi_43 ..) ?_
  refine pm_go 1 (pc1 := 57) rfl ?_
  refine pm_getf rfl rfl rfl ?_
  refine pm_go 2 (pc1 := 63) rfl ?_
  refine pm_getf rfl rfl rfl ?_
  refine pm_go 5 (pc1 := 72) rfl ?_
  rw [show (64 : Int32) * nI s + nI i = nI (64 * s + i) from ixm 64 s i]
  refine pm_iald (j := 64 * s + i) rfl rfl (cw_ti (by omega)) (by omega) ?_
  refine pm_iastU (j := 7 * s + (dp + 1)) rfl rfl (cw_ti (by omega)) (by omega) (hi_44 ..) ?_
  refine pm_go 2 (pc1 := 77) rfl ?_
  have hfin := m_bg_loop (IA := bgI0 IA s dp i w mk) (LA := LA) (RA := RA) (SC := SC) (dr := dr) (tl := tl) (N := N) (d := d) (bb := 7 * s + (dp + 1)) hs hi hsb hmm (show (if 7 * s + (dp + 1) = 7 * s + (dp + 1) then IA 46 (64 * s + i) else _) = nI mm by rw [if_pos rfl]; exact hG) mm 0 (by omega)
  rw [mfCk_0, va_up_id _ 45 _ rfl] at hfin
  exact pm_lv [(0, .ref 36), (1, .int (nI s)), (2, .int (nI i)), (5, .int (nI (7 * s + (dp + 1)))), (6, .int (nI 0))] rfl rfl hfin
end ME
