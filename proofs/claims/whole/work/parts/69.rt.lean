/-! THE READER: an item, the next -/
section RT
variable {IA : Nat → Nat → Int32} {LA : Nat → Nat → Int64} {RA : Nat → Nat → Option Nat} {SC : Nat → Nat → Int32} {dr : Nat} {tl : Nat → va_E} {N d m p dp w bc bs : Nat} {fr : Nat → Int32} {r : pm_V} {h' : pm_H}
theorem HR_self (hP : SC 20 3 = nI p) : HC IA LA RA SC dr tl = HR IA LA RA SC dr tl p (IA 34) := by
  show _ = HC (va_up IA 34 (IA 34)) LA RA (va_up SC 20 (upd (SC 20) 3 (nI p))) dr tl
  rw [va_up_id _ 34 _ rfl, upd_id hP, va_up_id _ 20 _ rfl]
theorem HR_blk (hd : dp ≤ 6) : HR IA LA RA SC dr tl p fr (26 + dp) = bkE (SC (26 + dp)) := by
  match dp, hd with
  | 0, _ => rfl
  | 1, _ => rfl
  | 2, _ => rfl
  | 3, _ => rfl
  | 4, _ => rfl
  | 5, _ => rfl
  | 6, _ => rfl
theorem r_itT (hS : SC 20 2 = nI m) (hm : m ≤ 64) (hp : p ≤ 32 * m) (hd : dp ≤ 6) (hw : SC (26 + dp) 1 = nI w) (hw8 : w ≤ 8) (hx : ¬ p + w ≤ 32 * m) : pm_call (d + 13) 45 [.ref 20, .ref (26 + dp)] (N, HR IA LA RA SC dr tl p fr) (.inr 0) (N, HR IA LA RA SC dr tl p fr) 1 6 := by
  refine pm_callX jm_45 [(0, .ref 20), (1, .ref (26 + dp))] rfl rfl rfl ?_
  refine pm_go 2 (pc1 := 2) rfl ?_
  refine pm_getf rfl (HR_blk hd) rfl ?_
  refine pm_nm (y := nI w) hw ?_
  exact pm_cX [.int (nI w)] rfl rfl rfl rfl rfl rfl (Nat.le_refl _) (Nat.le_refl _) (r_takeX (d := d + 3) hS hm hp (by omega) hx) rfl rfl
theorem r_it_pre (hS : SC 20 2 = nI m) (hm : m ≤ 64) (hp : p ≤ 32 * m) (hd : dp ≤ 6) (hw : SC (26 + dp) 1 = nI w) (hw1 : 1 ≤ w) (hw8 : w ≤ 8) (hx : p + w ≤ 32 * m)
    (k : pm_X (pm_call (d + 12)) jm_45 4 (some .int) (d + 12) bc bs 9 [(0, .ref 20), (1, .ref (26 + dp)), (2, .int (nI (rdN (IA 33) p w)))] [] 0 0 (N, HR IA LA RA SC dr tl (p + w) fr) r h') : pm_call (d + 13) 45 [.ref 20, .ref (26 + dp)] (N, HR IA LA RA SC dr tl p fr) r h' bc bs := by
  refine pm_callX jm_45 [(0, .ref 20), (1, .ref (26 + dp))] rfl rfl rfl ?_
  refine pm_go 2 (pc1 := 2) rfl ?_
  refine pm_getf rfl (HR_blk hd) rfl ?_
  refine pm_nm (y := nI w) hw ?_
  refine pm_cV [.int (nI w)] rfl rfl rfl rfl rfl rfl (Nat.zero_le _) (Nat.zero_le _) (r_take hS hm hp hw1 (by omega) hx) ?_
  refine pm_go 1 (pc1 := 9) rfl ?_
  exact pm_lv [(0, .ref 20), (1, .ref (26 + dp)), (2, .int (nI (rdN (IA 33) p w)))] rfl rfl k
theorem r_it_1 {v : Int32} (hk : pm_call (d + 12) 46 [.ref 20] (N, HR IA LA RA SC dr tl p fr) (.inl (some (.int v))) h' bc bs) : pm_X (pm_call (d + 12)) jm_45 4 (some .int) (d + 12) bc bs 9 [(0, .ref 20), (1, .ref (26 + dp)), (2, .int (nI 1))] [] 0 0 (N, HR IA LA RA SC dr tl p fr) (.inl (some (.int v))) h' := by
  refine pm_go 2 (pc1 := 11) rfl ?_
  refine pm_icmp rfl (fun z => absurd rfl z) (fun _ => ?_)
  refine pm_go 1 (pc1 := 15) rfl ?_
  refine pm_cV [] rfl rfl rfl rfl rfl rfl (Nat.le_of_eq (Nat.zero_add _)) (Nat.le_of_eq (Nat.zero_add _)) hk ?_
  exact pm_iret rfl rfl rfl rfl
theorem r_it_1X {e : Nat} (hk : pm_call (d + 12) 46 [.ref 20] (N, HR IA LA RA SC dr tl p fr) (.inr e) h' bc bs) : pm_X (pm_call (d + 12)) jm_45 4 (some .int) (d + 12) bc bs 9 [(0, .ref 20), (1, .ref (26 + dp)), (2, .int (nI 1))] [] 0 0 (N, HR IA LA RA SC dr tl p fr) (.inr e) h' := by
  refine pm_go 2 (pc1 := 11) rfl ?_
  refine pm_icmp rfl (fun z => absurd rfl z) (fun _ => ?_)
  refine pm_go 1 (pc1 := 15) rfl ?_
  exact pm_cX [] rfl rfl rfl rfl rfl rfl (Nat.le_of_eq (Nat.zero_add _)) (Nat.le_of_eq (Nat.zero_add _)) hk rfl rfl
theorem r_it_n {x : Nat} (hx : x < 256) (hx1 : ¬ x = 1) (hD : SC 21 2 = nI dp) (hd : dp ≤ 6)
    (k0 : dp = 0 → pm_X (pm_call (d + 12)) jm_45 4 (some .int) (d + 12) bc bs 29 [(0, .ref 20), (1, .ref (26 + dp)), (2, .int (nI x))] [] 0 0 (N, HR IA LA RA SC dr tl p fr) r h')
    (k1 : ¬ dp = 0 → pm_X (pm_call (d + 12)) jm_45 4 (some .int) (d + 12) bc bs 39 [(0, .ref 20), (1, .ref (26 + dp)), (2, .int (nI x))] [] 0 0 (N, HR IA LA RA SC dr tl p fr) r h') :
    pm_X (pm_call (d + 12)) jm_45 4 (some .int) (d + 12) bc bs 9 [(0, .ref 20), (1, .ref (26 + dp)), (2, .int (nI x))] [] 0 0 (N, HR IA LA RA SC dr tl p fr) r h' := by
  refine pm_go 2 (pc1 := 11) rfl ?_
  refine pm_icmp rfl (fun _ => ?_) (fun z => absurd ((nI_eqI (b := 1) (by omega) (by omega)).mp (Classical.not_not.mp z)) hx1)
  refine pm_go 1 (pc1 := 20) rfl ?_
  refine pm_getf rfl rfl rfl ?_
  refine pm_getf rfl rfl rfl ?_
  refine pm_nm (y := nI dp) hD ?_
  refine pm_if rfl (fun z => k1 (fun h => z (show nI dp = 0 by rw [h]; rfl))) (fun z => k0 ((nI_eqI (b := 0) (by omega) (by omega)).mp (Classical.not_not.mp z)))
theorem r_it_0D {x : Nat} (hx : x < 256) (hx1 : ¬ x = 1) (hD : SC 21 2 = nI 0) : pm_X (pm_call (d + 12)) jm_45 4 (some .int) (d + 12) 1 6 9 [(0, .ref 20), (1, .ref (26 + 0)), (2, .int (nI x))] [] 0 0 (N, HR IA LA RA SC dr tl p fr) (.inr 0) (N, HR IA LA RA SC dr tl p fr) := by
  refine r_it_n hx hx1 hD (by omega) (fun _ => ?_) (fun h => absurd rfl h)
  exact pm_thr rfl rfl (by omega) rfl (by decide) (by decide) rfl rfl
theorem r_it_0 {v : Int32} (hk : pm_call (d + 12) 47 [.ref 20, .ref (26 + dp)] (N, HR IA LA RA SC dr tl p fr) (.inl (some (.int v))) h' bc bs) : pm_X (pm_call (d + 12)) jm_45 4 (some .int) (d + 12) bc bs 39 [(0, .ref 20), (1, .ref (26 + dp)), (2, .int (nI 0))] [] 0 0 (N, HR IA LA RA SC dr tl p fr) (.inl (some (.int v))) h' := by
  refine pm_go 1 (pc1 := 40) rfl ?_
  refine pm_if rfl (fun z => absurd rfl z) (fun _ => ?_)
  refine pm_go 2 (pc1 := 45) rfl ?_
  refine pm_cV [.ref (26 + dp)] rfl rfl rfl rfl rfl rfl (Nat.le_of_eq (Nat.zero_add _)) (Nat.le_of_eq (Nat.zero_add _)) hk ?_
  exact pm_iret rfl rfl rfl rfl
theorem r_it_0X {e : Nat} (hk : pm_call (d + 12) 47 [.ref 20, .ref (26 + dp)] (N, HR IA LA RA SC dr tl p fr) (.inr e) h' bc bs) : pm_X (pm_call (d + 12)) jm_45 4 (some .int) (d + 12) bc bs 39 [(0, .ref 20), (1, .ref (26 + dp)), (2, .int (nI 0))] [] 0 0 (N, HR IA LA RA SC dr tl p fr) (.inr e) h' := by
  refine pm_go 1 (pc1 := 40) rfl ?_
  refine pm_if rfl (fun z => absurd rfl z) (fun _ => ?_)
  refine pm_go 2 (pc1 := 45) rfl ?_
  exact pm_cX [.ref (26 + dp)] rfl rfl rfl rfl rfl rfl (Nat.le_of_eq (Nat.zero_add _)) (Nat.le_of_eq (Nat.zero_add _)) hk rfl rfl
theorem r_it_3 {v : Int32} (hk : pm_call (d + 12) 48 [.ref 20] (N, HR IA LA RA SC dr tl p fr) (.inl (some (.int v))) h' bc bs) : pm_X (pm_call (d + 12)) jm_45 4 (some .int) (d + 12) bc bs 39 [(0, .ref 20), (1, .ref (26 + dp)), (2, .int (nI 3))] [] 0 0 (N, HR IA LA RA SC dr tl p fr) (.inl (some (.int v))) h' := by
  refine pm_go 1 (pc1 := 40) rfl ?_
  refine pm_if rfl (fun _ => ?_) (fun z => absurd (show ¬ nI 3 = 0 by decide) z)
  refine pm_go 2 (pc1 := 51) rfl ?_
  refine pm_icmp rfl (fun z => absurd rfl z) (fun _ => ?_)
  refine pm_go 1 (pc1 := 55) rfl ?_
  refine pm_cV [] rfl rfl rfl rfl rfl rfl (Nat.le_of_eq (Nat.zero_add _)) (Nat.le_of_eq (Nat.zero_add _)) hk ?_
  exact pm_iret rfl rfl rfl rfl
theorem r_it_3X {e : Nat} (hk : pm_call (d + 12) 48 [.ref 20] (N, HR IA LA RA SC dr tl p fr) (.inr e) h' bc bs) : pm_X (pm_call (d + 12)) jm_45 4 (some .int) (d + 12) bc bs 39 [(0, .ref 20), (1, .ref (26 + dp)), (2, .int (nI 3))] [] 0 0 (N, HR IA LA RA SC dr tl p fr) (.inr e) h' := by
  refine pm_go 1 (pc1 := 40) rfl ?_
  refine pm_if rfl (fun _ => ?_) (fun z => absurd (show ¬ nI 3 = 0 by decide) z)
  refine pm_go 2 (pc1 := 51) rfl ?_
  refine pm_icmp rfl (fun z => absurd rfl z) (fun _ => ?_)
  refine pm_go 1 (pc1 := 55) rfl ?_
  exact pm_cX [] rfl rfl rfl rfl rfl rfl (Nat.le_of_eq (Nat.zero_add _)) (Nat.le_of_eq (Nat.zero_add _)) hk rfl rfl
theorem r_it_2 {t q : Nat} {fr' : Nat → Int32} (hk : pm_call (d + 12) 50 [.ref 20] (N, HR IA LA RA SC dr tl p fr) (.inl (some (.int (nI t)))) (N, HR IA LA RA SC dr tl q fr') 0 0)
    (k : pm_X (pm_call (d + 12)) jm_45 4 (some .int) (d + 12) bc bs 84 [(0, .ref 20), (1, .ref (26 + dp)), (2, .int (nI 2)), (3, .int (nI t))] [] 0 0 (N, HR IA LA RA SC dr tl q fr') r h') : pm_X (pm_call (d + 12)) jm_45 4 (some .int) (d + 12) bc bs 39 [(0, .ref 20), (1, .ref (26 + dp)), (2, .int (nI 2))] [] 0 0 (N, HR IA LA RA SC dr tl p fr) r h' := by
  refine pm_go 1 (pc1 := 40) rfl ?_
  refine pm_if rfl (fun _ => ?_) (fun z => absurd (show ¬ nI 2 = 0 by decide) z)
  refine pm_go 2 (pc1 := 51) rfl ?_
  refine pm_icmp rfl (fun _ => ?_) (fun z => absurd (show ¬ nI 2 = 3 by decide) z)
  refine pm_go 2 (pc1 := 61) rfl ?_
  refine pm_icmp rfl (fun z => absurd rfl z) (fun _ => ?_)
  refine pm_go 1 (pc1 := 65) rfl ?_
  refine pm_cV [] rfl rfl rfl rfl rfl rfl (Nat.zero_le _) (Nat.zero_le _) hk ?_
  refine pm_go 2 (pc1 := 84) rfl ?_
  exact pm_lv [(0, .ref 20), (1, .ref (26 + dp)), (2, .int (nI 2)), (3, .int (nI t))] rfl rfl k
theorem r_it_2X {e : Nat} (hk : pm_call (d + 12) 50 [.ref 20] (N, HR IA LA RA SC dr tl p fr) (.inr e) h' bc bs) : pm_X (pm_call (d + 12)) jm_45 4 (some .int) (d + 12) bc bs 39 [(0, .ref 20), (1, .ref (26 + dp)), (2, .int (nI 2))] [] 0 0 (N, HR IA LA RA SC dr tl p fr) (.inr e) h' := by
  refine pm_go 1 (pc1 := 40) rfl ?_
  refine pm_if rfl (fun _ => ?_) (fun z => absurd (show ¬ nI 2 = 0 by decide) z)
  refine pm_go 2 (pc1 := 51) rfl ?_
  refine pm_icmp rfl (fun _ => ?_) (fun z => absurd (show ¬ nI 2 = 3 by decide) z)
  refine pm_go 2 (pc1 := 61) rfl ?_
  refine pm_icmp rfl (fun z => absurd rfl z) (fun _ => ?_)
  refine pm_go 1 (pc1 := 65) rfl ?_
  exact pm_cX [] rfl rfl rfl rfl rfl rfl (Nat.le_of_eq (Nat.zero_add _)) (Nat.le_of_eq (Nat.zero_add _)) hk rfl rfl
theorem r_it_4pre {x mm : Nat} (hx : x < 256) (hx4 : 4 ≤ x) (hD : SC 21 2 = nI dp) (hd : dp ≤ 6) (hL : ∀ i, i < 7 → RA 22 i = some (26 + i)) (hG : IA 25 (64 + dp) = nI mm) (hmm : mm ≤ 8)
    (k : pm_X (pm_call (d + 12)) jm_45 4 (some .int) (d + 12) bc bs 80 [(0, .ref 20), (1, .ref (26 + dp)), (2, .int (nI x))] [va_rf (if x < 4 + mm then RA 24 (8 * (64 + dp) + (x - 4)) else none), .ref 20] 0 0 (N, HR IA LA RA SC dr tl p fr) r h') : pm_X (pm_call (d + 12)) jm_45 4 (some .int) (d + 12) bc bs 39 [(0, .ref 20), (1, .ref (26 + dp)), (2, .int (nI x))] [] 0 0 (N, HR IA LA RA SC dr tl p fr) r h' := by
  have hQ := ns_HCr (IA := va_up IA 34 fr) (LA := LA) (dr := dr) (tl := tl) (RA := RA) (SC := va_up SC 20 (upd (SC 20) 3 (nI p))) (dp := dp) hD hd hL
  refine pm_go 1 (pc1 := 40) rfl ?_
  refine pm_if rfl (fun _ => ?_) (fun z => absurd ((nI_eqI (b := 0) (by omega) (by omega)).mp (Classical.not_not.mp z)) (by omega))
  refine pm_go 2 (pc1 := 51) rfl ?_
  refine pm_icmp rfl (fun _ => ?_) (fun z => absurd ((nI_eqI (b := 3) (by omega) (by omega)).mp (Classical.not_not.mp z)) (by omega))
  refine pm_go 2 (pc1 := 61) rfl ?_
  refine pm_icmp rfl (fun _ => ?_) (fun z => absurd ((nI_eqI (b := 2) (by omega) (by omega)).mp (Classical.not_not.mp z)) (by omega))
  refine pm_go 2 (pc1 := 73) rfl ?_
  refine pm_getf rfl rfl rfl ?_
  refine pm_go 1 (pc1 := 77) rfl ?_
  refine pm_cV [.int (nI x)] rfl rfl rfl rfl rfl rfl (Nat.zero_le _) (Nat.zero_le _) (c_nestFind hQ hG hmm (by omega)) ?_
  by_cases h : x < 4 + mm
  · rw [if_pos h] at k
    rw [if_pos ⟨hx4, h⟩]
    exact k
  · rw [if_neg h] at k
    rw [if_neg (fun z => h z.2)]
    exact k
theorem r_it_4 {x t q : Nat} {o : Option Nat} {fr' : Nat → Int32} (hk : pm_call (d + 12) 51 [.ref 20, va_rf o] (N, HR IA LA RA SC dr tl p fr) (.inl (some (.int (nI t)))) (N, HR IA LA RA SC dr tl q fr') 0 0)
    (k : pm_X (pm_call (d + 12)) jm_45 4 (some .int) (d + 12) bc bs 84 [(0, .ref 20), (1, .ref (26 + dp)), (2, .int (nI x)), (3, .int (nI t))] [] 0 0 (N, HR IA LA RA SC dr tl q fr') r h') : pm_X (pm_call (d + 12)) jm_45 4 (some .int) (d + 12) bc bs 80 [(0, .ref 20), (1, .ref (26 + dp)), (2, .int (nI x))] [va_rf o, .ref 20] 0 0 (N, HR IA LA RA SC dr tl p fr) r h' := by
  refine pm_cV [va_rf o] rfl rfl rfl rfl rfl rfl (Nat.zero_le _) (Nat.zero_le _) hk ?_
  refine pm_go 1 (pc1 := 84) rfl ?_
  exact pm_lv [(0, .ref 20), (1, .ref (26 + dp)), (2, .int (nI x)), (3, .int (nI t))] rfl rfl k
theorem r_it_4X {x e : Nat} {o : Option Nat} (hk : pm_call (d + 12) 51 [.ref 20, va_rf o] (N, HR IA LA RA SC dr tl p fr) (.inr e) h' bc bs) : pm_X (pm_call (d + 12)) jm_45 4 (some .int) (d + 12) bc bs 80 [(0, .ref 20), (1, .ref (26 + dp)), (2, .int (nI x))] [va_rf o, .ref 20] 0 0 (N, HR IA LA RA SC dr tl p fr) (.inr e) h' :=
  pm_cX [va_rf o] rfl rfl rfl rfl rfl rfl (Nat.le_of_eq (Nat.zero_add _)) (Nat.le_of_eq (Nat.zero_add _)) hk rfl rfl
/-- a record read: what is shown -/
theorem r_it_84 {x t : Nat} (hD : SC 21 2 = nI dp) (hd : dp ≤ 6) (hL : ∀ i, i < 7 → RA 22 i = some (26 + i)) (ht : 1 ≤ t) (ht2 : t ≤ 17) (hI : SC (26 + dp) 0 = 0 → nmT fr t) :
    pm_X (pm_call (d + 12)) jm_45 4 (some .int) (d + 12) 0 0 84 [(0, .ref 20), (1, .ref (26 + dp)), (2, .int (nI x)), (3, .int (nI t))] [] 0 0 (N, HR IA LA RA SC dr tl p fr) (.inl (some (.int 4))) (N, HC (va_up (va_up IA 34 fr) 35 (shR (va_up IA 34 fr) (nI x) t)) LA RA (va_up (if SC (26 + dp) 0 = 0 then va_up (va_up SC 20 (upd (SC 20) 3 (nI p))) (26 + dp) (upd (SC (26 + dp)) 2 (fr 1)) else va_up SC 20 (upd (SC 20) 3 (nI p))) 20 (upd (upd (SC 20) 3 (nI p)) 7 (nI (t + 2)))) dr tl) := by
  have hQ := ns_HCr (IA := va_up IA 34 fr) (LA := LA) (dr := dr) (tl := tl) (RA := RA) (SC := va_up SC 20 (upd (SC 20) 3 (nI p))) (dp := dp) hD hd hL
  refine pm_go 1 (pc1 := 85) rfl ?_
  refine pm_getf rfl rfl rfl ?_
  refine pm_cV [] rfl rfl rfl rfl rfl rfl (Nat.zero_le _) (Nat.zero_le _) (c_isInInfo hQ) ?_
  rw [sc20]
  by_cases h0 : SC (26 + dp) 0 = 0
  · rw [if_pos h0, if_pos h0]
    refine pm_if rfl (fun z => absurd (show (1 : Int32) = 0 from z) (by decide)) (fun _ => ?_)
    refine pm_go 3 (pc1 := 97) rfl ?_
    have hT := c_target (IA := va_up IA 34 fr) (LA := LA) (RA := RA) (SC := va_up SC 20 (upd (SC 20) 3 (nI p))) (dr := dr) (tl := tl) (N := N) (d := d + 10) (dp := dp) (t := t) (i := dp) (by omega) (by omega) hD hd hL (hI h0)
    rw [sc20] at hT
    refine pm_cV [.ref (26 + dp), .int (nI t)] rfl rfl rfl rfl rfl rfl (Nat.zero_le _) (Nat.zero_le _) hT ?_
    refine pm_go 3 (pc1 := 103) rfl ?_
    refine pm_cV [.int (nI x), .int (nI t)] rfl rfl rfl rfl rfl rfl (Nat.zero_le _) (Nat.zero_le _) (c_showRecord ht ht2) ?_
    rw [sc_26 (by omega)]
    exact pm_iret rfl rfl rfl rfl
  · rw [if_neg h0, if_neg h0]
    refine pm_if rfl (fun _ => ?_) (fun z => absurd rfl z)
    refine pm_go 3 (pc1 := 103) rfl ?_
    refine pm_cV [.int (nI x), .int (nI t)] rfl rfl rfl rfl rfl rfl (Nat.zero_le _) (Nat.zero_le _) (c_showRecord ht ht2) ?_
    exact pm_iret rfl rfl rfl rfl
theorem r_it_84X {x t : Nat} (hD : SC 21 2 = nI dp) (hd : dp ≤ 6) (hL : ∀ i, i < 7 → RA 22 i = some (26 + i)) (ht2 : t ≤ 17) (h0 : SC (26 + dp) 0 = 0) (hI : ¬ nmT fr t) :
    pm_X (pm_call (d + 12)) jm_45 4 (some .int) (d + 12) 1 6 84 [(0, .ref 20), (1, .ref (26 + dp)), (2, .int (nI x)), (3, .int (nI t))] [] 0 0 (N, HR IA LA RA SC dr tl p fr) (.inr 0) (N, HR IA LA RA SC dr tl p fr) := by
  have hQ := ns_HCr (IA := va_up IA 34 fr) (LA := LA) (dr := dr) (tl := tl) (RA := RA) (SC := va_up SC 20 (upd (SC 20) 3 (nI p))) (dp := dp) hD hd hL
  refine pm_go 1 (pc1 := 85) rfl ?_
  refine pm_getf rfl rfl rfl ?_
  refine pm_cV [] rfl rfl rfl rfl rfl rfl (Nat.zero_le _) (Nat.zero_le _) (c_isInInfo hQ) ?_
  rw [sc20, if_pos h0]
  refine pm_if rfl (fun z => absurd (show (1 : Int32) = 0 from z) (by decide)) (fun _ => ?_)
  refine pm_go 3 (pc1 := 97) rfl ?_
  exact pm_cX [.ref (26 + dp), .int (nI t)] rfl rfl rfl rfl rfl rfl (Nat.le_refl _) (Nat.le_refl _) (c_targetX (IA := va_up IA 34 fr) (i := dp) (d := d + 3) (by omega) hI) rfl rfl
theorem r_onF (hF : SC 20 4 = 1) : pm_call (d + 14) 44 [.ref 20] (N, HC IA LA RA SC dr tl) (.inr 1) (N, HC IA LA RA SC dr tl) 1 6 := by
  refine pm_callX jm_44 [(0, .ref 20)] rfl rfl rfl ?_
  refine pm_go 1 (pc1 := 1) rfl ?_
  refine pm_getf rfl rfl rfl ?_
  refine pm_if rfl (fun z => absurd (show SC 20 4 = 0 from z) (by rw [hF]; decide)) (fun _ => ?_)
  exact pm_thr rfl rfl (by omega) rfl (by decide) (by decide) rfl rfl
theorem r_onE (hF : SC 20 4 = 0) (hD : SC 21 2 = nI 0) (hS : SC 20 2 = nI m) (hP : SC 20 3 = nI (32 * m)) : pm_call (d + 14) 44 [.ref 20] (N, HC IA LA RA SC dr tl) (.inl (some (.int 0))) (N, HC IA LA RA (va_up SC 20 (upd (SC 20) 7 0)) dr tl) 0 0 := by
  refine pm_callX jm_44 [(0, .ref 20)] rfl rfl rfl ?_
  refine pm_go 1 (pc1 := 1) rfl ?_
  refine pm_getf rfl rfl rfl ?_
  refine pm_if rfl (fun _ => ?_) (fun z => absurd hF z)
  refine pm_go 1 (pc1 := 18) rfl ?_
  refine pm_getf rfl rfl rfl ?_
  refine pm_getf rfl rfl rfl ?_
  refine pm_nm (y := nI 0) hD ?_
  refine pm_if rfl (fun z => absurd rfl z) (fun _ => ?_)
  refine pm_go 1 (pc1 := 28) rfl ?_
  refine pm_getf rfl rfl rfl ?_
  refine pm_nm (y := nI (32 * m)) hP ?_
  refine pm_go 1 (pc1 := 32) rfl ?_
  refine pm_getf rfl rfl rfl ?_
  refine pm_nm (y := nI m) hS ?_
  refine pm_go 2 (pc1 := 38) rfl ?_
  rw [show nI m * 32 = nI (m * 32) from pk_mul m 32, Nat.mul_comm m 32]
  refine pm_icmp rfl (fun z => absurd rfl z) (fun _ => ?_)
  refine pm_go 2 (pc1 := 43) rfl ?_
  refine pm_putU rfl rfl rfl rfl (hs_20_7 ..) ?_
  refine pm_go 1 (pc1 := 47) rfl ?_
  exact pm_iret rfl rfl rfl rfl
theorem r_on_pre (hF : SC 20 4 = 0) (hD : SC 21 2 = nI dp) (hd : dp ≤ 6) (hL : ∀ i, i < 7 → RA 22 i = some (26 + i)) (hS : SC 20 2 = nI m) (hm : m ≤ 64) (hP : SC 20 3 = nI p) (hp : p ≤ 32 * m) (hne : ¬ (dp = 0 ∧ p = 32 * m))
    (k : pm_X (pm_call (d + 13)) jm_44 2 (some .int) (d + 13) bc bs 61 [(0, .ref 20)] [.ref (26 + dp), .ref 20] 0 0 (N, HR IA LA RA (va_up SC 20 (upd (SC 20) 4 1)) dr tl p (IA 34)) r h') : pm_call (d + 14) 44 [.ref 20] (N, HC IA LA RA SC dr tl) r h' bc bs := by
  have hQ := ns_HCr (IA := IA) (LA := LA) (dr := dr) (tl := tl) (RA := RA) (SC := va_up SC 20 (upd (SC 20) 4 1)) (dp := dp) hD hd hL
  have h48 : pm_X (pm_call (d + 13)) jm_44 2 (some .int) (d + 13) bc bs 48 [(0, .ref 20)] [] 0 0 (N, HC IA LA RA SC dr tl) r h' := by
    refine pm_go 2 (pc1 := 50) rfl ?_
    refine pm_putU rfl rfl rfl rfl (hs_20_4 ..) ?_
    refine pm_go 2 (pc1 := 55) rfl ?_
    refine pm_getf rfl rfl rfl ?_
    refine pm_cV [] rfl rfl rfl rfl rfl rfl (Nat.zero_le _) (Nat.zero_le _) (c_inner hQ) ?_
    refine pm_hp (HR_self (p := p) hP) ?_
    exact k
  refine pm_callX jm_44 [(0, .ref 20)] rfl rfl rfl ?_
  refine pm_go 1 (pc1 := 1) rfl ?_
  refine pm_getf rfl rfl rfl ?_
  refine pm_if rfl (fun _ => ?_) (fun z => absurd hF z)
  refine pm_go 1 (pc1 := 18) rfl ?_
  refine pm_getf rfl rfl rfl ?_
  refine pm_getf rfl rfl rfl ?_
  refine pm_nm (y := nI dp) hD ?_
  refine pm_if rfl (fun _ => h48) (fun z => ?_)
  have hd0 : dp = 0 := (nI_eqI (b := 0) (by omega) (by omega)).mp (Classical.not_not.mp z)
  refine pm_go 1 (pc1 := 28) rfl ?_
  refine pm_getf rfl rfl rfl ?_
  refine pm_nm (y := nI p) hP ?_
  refine pm_go 1 (pc1 := 32) rfl ?_
  refine pm_getf rfl rfl rfl ?_
  refine pm_nm (y := nI m) hS ?_
  refine pm_go 2 (pc1 := 38) rfl ?_
  rw [show nI m * 32 = nI (m * 32) from pk_mul m 32]
  refine pm_icmp rfl (fun _ => h48) (fun z => absurd ((nI_eqI (by omega) (by omega)).mp (Classical.not_not.mp z)) (fun h => hne ⟨hd0, by omega⟩))
theorem r_on {IA' : Nat → Nat → Int32} {RA' : Nat → Nat → Option Nat} {SC' : Nat → Nat → Int32} {tl' : Nat → va_E} {N' dr' : Nat} {v : Int32} (hF : SC 20 4 = 0) (hD : SC 21 2 = nI dp) (hd : dp ≤ 6) (hL : ∀ i, i < 7 → RA 22 i = some (26 + i)) (hS : SC 20 2 = nI m) (hm : m ≤ 64) (hP : SC 20 3 = nI p) (hp : p ≤ 32 * m) (hne : ¬ (dp = 0 ∧ p = 32 * m))
    (hk : pm_call (d + 13) 45 [.ref 20, .ref (26 + dp)] (N, HR IA LA RA (va_up SC 20 (upd (SC 20) 4 1)) dr tl p (IA 34)) (.inl (some (.int v))) (N', HC IA' LA RA' SC' dr' tl') bc bs) : pm_call (d + 14) 44 [.ref 20] (N, HC IA LA RA SC dr tl) (.inl (some (.int v))) (N', HC IA' LA RA' (va_up SC' 20 (upd (SC' 20) 4 0)) dr' tl') bc bs := by
  refine r_on_pre hF hD hd hL hS hm hP hp hne ?_
  refine pm_cV [.ref (26 + dp)] rfl rfl rfl rfl rfl rfl (Nat.le_of_eq (Nat.zero_add _)) (Nat.le_of_eq (Nat.zero_add _)) hk ?_
  refine pm_go 3 (pc1 := 67) rfl ?_
  refine pm_putU rfl rfl rfl rfl (hs_20_4 ..) ?_
  refine pm_go 1 (pc1 := 71) rfl ?_
  exact pm_iret rfl rfl rfl rfl
theorem r_onX {e : Nat} (hF : SC 20 4 = 0) (hD : SC 21 2 = nI dp) (hd : dp ≤ 6) (hL : ∀ i, i < 7 → RA 22 i = some (26 + i)) (hS : SC 20 2 = nI m) (hm : m ≤ 64) (hP : SC 20 3 = nI p) (hp : p ≤ 32 * m) (hne : ¬ (dp = 0 ∧ p = 32 * m))
    (hk : pm_call (d + 13) 45 [.ref 20, .ref (26 + dp)] (N, HR IA LA RA (va_up SC 20 (upd (SC 20) 4 1)) dr tl p (IA 34)) (.inr e) h' bc bs) : pm_call (d + 14) 44 [.ref 20] (N, HC IA LA RA SC dr tl) (.inr e) h' bc bs := by
  refine r_on_pre hF hD hd hL hS hm hP hp hne ?_
  exact pm_cX [.ref (26 + dp)] rfl rfl rfl rfl rfl rfl (Nat.le_of_eq (Nat.zero_add _)) (Nat.le_of_eq (Nat.zero_add _)) hk rfl rfl
end RT
