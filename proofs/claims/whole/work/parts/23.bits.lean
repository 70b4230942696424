/-! THE CLASS'S WRITER OF BITS: Bits at place 2, its row at 3 -/
theorem cw_id {α : Type} (f : Nat → α) (k : Nat) : va_up f k (f k) = f := by
  funext j
  by_cases h : j = k
  · subst h; exact va_up_self f j _
  · exact va_up_ne f _ h
def cw_set (g : Nat → Int32) (i : Nat) (x : Int32) : Nat → Int32 := if i < 64 then upd g i x else g
def cw_at (g : Nat → Int32) (i : Nat) : Int32 := if i < 64 then g i else 0
/-- the row behind 'put' of v in n bits at bit E -/
def cw_put (g : Nat → Int32) (E : Nat) (v : Int32) (n : Nat) : Nat → Int32 :=
  if 32 < E % 32 + n then cw_set (cw_set g (E / 32) (cw_at g (E / 32) ||| v <<< (nI (E % 32) &&& 31))) (E / 32 + 1) (v.toUInt32 >>> ((nI (32 - E % 32)).toUInt32 &&& Int32.toUInt32 31)).toInt32
  else cw_set g (E / 32) (cw_at g (E / 32) ||| v <<< (nI (E % 32) &&& 31))
theorem cw_wc {E : Nat} (hE : E < 100000) : (nI E + 32 - 1) / 32 = nI ((E + 31) / 32) := by
  rw [show (32 : Int32) = nI 32 from rfl, show (1 : Int32) = nI 1 from rfl, nI_add, pk_sub (by omega), pk_div (by omega) (by omega) (by omega), show E + 32 - 1 = E + 31 by omega]
theorem cw_di {E : Nat} (hE : E < 100000) : nI E / 32 = nI (E / 32) := by
  rw [show (32 : Int32) = nI 32 from rfl, pk_div (by omega) (by omega) (by omega)]
theorem cw_re {E : Nat} (hE : E < 100000) : nI E - nI E / 32 * 32 = nI (E % 32) := by
  rw [show (32 : Int32) = nI 32 from rfl, pk_rem (by omega) (by omega) (by omega)]
theorem cw_ti {n : Nat} (h : n < 2 ^ 31) : (nI n).toInt = (n : Int) := nI_toInt h
section BITS
variable {IA : Nat → Nat → Int32} {LA : Nat → Nat → Int64} {RA : Nat → Nat → Option Nat} {SC : Nat → Nat → Int32} {dr : Nat} {tl : Nat → va_E} {N d E : Nat}
theorem c_wordCount (hE : SC 2 1 = nI E) (hE2 : E < 100000) : pm_call (d + 1) 1 [.ref 2] (N, HC IA LA RA SC dr tl) (.inl (some (.int (nI ((E + 31) / 32))))) (N, HC IA LA RA SC dr tl) 0 0 := by
  refine pm_callX jm_1 [(0, .ref 2)] rfl rfl rfl ?_
  refine pm_go 1 rfl ?_
  refine pm_getf rfl rfl rfl ?_
  refine pm_go 6 rfl ?_
  exact pm_iret rfl rfl (by rw [hE, cw_wc hE2]) rfl
theorem c_wordAt {k : Nat} (hk : k < 100000) : pm_call (d + 1) 2 [.ref 2, .int (nI k)] (N, HC IA LA RA SC dr tl) (.inl (some (.int (cw_at (IA 3) k)))) (N, HC IA LA RA SC dr tl) 0 0 := by
  refine pm_callX jm_2 [(0, .ref 2), (1, .int (nI k))] rfl rfl rfl ?_
  refine pm_go 1 rfl ?_
  refine pm_if rfl (fun h => absurd h (nI_pos (by omega))) (fun h => ?_)
  refine pm_go 2 rfl ?_
  refine pm_getf rfl rfl rfl ?_
  refine pm_alen rfl rfl (Or.inl rfl) ?_
  refine pm_icmp rfl (fun h => ?_) (fun h => ?_)
  · have hk2 : 64 ≤ k := (nI_leI (by omega) (by omega)).mp h
    refine pm_go 1 rfl ?_
    exact pm_iret rfl rfl (by unfold cw_at; rw [if_neg (by omega)]) rfl
  · have hk2 : k < 64 := Nat.not_le.mp fun z => h ((nI_leI (by omega) (by omega)).mpr z)
    refine pm_go 1 rfl ?_
    refine pm_getf rfl rfl rfl ?_
    refine pm_go 1 rfl ?_
    refine pm_iald rfl rfl (cw_ti (by omega)) hk2 ?_
    refine pm_go 1 rfl ?_
    exact pm_iret rfl rfl (by unfold cw_at; rw [if_pos hk2]) rfl
theorem c_setWord {k : Nat} {x : Int32} (hk : k < 100000) : pm_call (d + 1) 3 [.ref 2, .int (nI k), .int x] (N, HC IA LA RA SC dr tl) (.inl none) (N, HC (va_up IA 3 (cw_set (IA 3) k x)) LA RA SC dr tl) 0 0 := by
  refine pm_callX jm_3 [(0, .ref 2), (1, .int (nI k)), (2, .int x)] rfl rfl rfl ?_
  refine pm_go 1 rfl ?_
  refine pm_if rfl (fun h => absurd h (nI_pos (by omega))) (fun h => ?_)
  refine pm_go 2 rfl ?_
  refine pm_getf rfl rfl rfl ?_
  refine pm_alen rfl rfl (Or.inl rfl) ?_
  refine pm_icmp rfl (fun h => ?_) (fun h => ?_)
  · have hk2 : 64 ≤ k := (nI_leI (by omega) (by omega)).mp h
    exact pm_vret rfl rfl rfl (by unfold cw_set; rw [if_neg (by omega), cw_id])
  · have hk2 : k < 64 := Nat.not_le.mp fun z => h ((nI_leI (by omega) (by omega)).mpr z)
    refine pm_go 1 rfl ?_
    refine pm_getf rfl rfl rfl ?_
    refine pm_go 2 rfl ?_
    refine pm_iastU rfl rfl (cw_ti (by omega)) hk2 (hi_3 ..) ?_
    exact pm_vret rfl rfl rfl (by unfold cw_set; rw [if_pos hk2])
theorem c_put {v : Int32} {n : Nat} (hE : SC 2 1 = nI E) (hE2 : E < 50000) (hn : n ≤ 32) : pm_call (d + 2) 4 [.ref 2, .int v, .int (nI n)] (N, HC IA LA RA SC dr tl) (.inl none) (N, HC (va_up IA 3 (cw_put (IA 3) E v n)) LA RA (va_up SC 2 (upd (SC 2) 1 (nI (E + n)))) dr tl) 0 0 := by
  have hm : E % 32 < 32 := Nat.mod_lt _ (by omega)
  have hq : E / 32 ≤ E := Nat.div_le_self _ _
  refine pm_callX jm_4 [(0, .ref 2), (1, .int v), (2, .int (nI n))] rfl rfl rfl ?_
  refine pm_go 1 rfl ?_
  refine pm_getf rfl rfl rfl ?_
  rw [hE]
  refine pm_go 2 rfl ?_
  rw [cw_di (by omega)]
  refine pm_go 2 rfl ?_
  refine pm_getf rfl rfl rfl ?_
  rw [hE]
  refine pm_go 2 rfl ?_
  rw [cw_re (by omega)]
  refine pm_go 5 rfl ?_
  refine pm_cV [.int (nI (E / 32))] rfl rfl rfl rfl rfl rfl (Nat.le_refl _) (Nat.le_refl _) (c_wordAt (by omega)) ?_
  refine pm_go 4 rfl ?_
  refine pm_cV [.int (nI (E / 32)), .int _] rfl rfl rfl rfl rfl rfl (Nat.le_refl _) (Nat.le_refl _) (c_setWord (by omega)) ?_
  refine pm_go 4 rfl ?_
  rw [nI_add]
  refine pm_icmp rfl (fun h => ?_) (fun h => ?_)
  · have h9 : E % 32 + n ≤ 32 := (nI_leI (by omega) (by omega)).mp h
    refine pm_go 2 rfl ?_
    refine pm_getf rfl rfl rfl ?_
    rw [hE]
    refine pm_go 2 rfl ?_
    rw [nI_add]
    refine pm_putU rfl rfl rfl rfl (hs_2_1 ..) ?_
    exact pm_vret rfl rfl rfl (by unfold cw_put; rw [if_neg (by omega)])
  · have h9 : 32 < E % 32 + n := Nat.not_le.mp fun z => h ((nI_leI (a := E % 32 + n) (b := 32) (by omega) (by omega)).mpr z)
    refine pm_go 4 rfl ?_
    rw [nI_1]
    refine pm_go 5 rfl ?_
    refine pm_cV [.int (nI (E / 32 + 1)), .int _] rfl rfl rfl rfl rfl rfl (Nat.le_refl _) (Nat.le_refl _) (c_setWord (by omega)) ?_
    refine pm_go 2 rfl ?_
    refine pm_getf rfl rfl rfl ?_
    rw [hE]
    refine pm_go 2 rfl ?_
    rw [nI_add]
    refine pm_putU rfl rfl rfl rfl (hs_2_1 ..) ?_
    refine pm_vret rfl rfl rfl ?_
    unfold cw_put
    rw [if_pos h9, bx_uu, show (32 : Int32) - nI (E % 32) = nI (32 - E % 32) from pk_sub (a := 32) (by omega)]
    rfl
end BITS
