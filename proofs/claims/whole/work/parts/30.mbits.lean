/-! THE MODEL'S BITS: place 36, its stream at 37, its places at 38 -/
theorem va_up_swap {α : Type} (f : Nat → α) {i j : Nat} (h : i ≠ j) (a b c : α) : va_up (va_up (va_up f i a) j b) i c = va_up (va_up f i c) j b := by
  funext k
  by_cases hi : k = i
  · subst hi
    rw [va_up_self, va_up_ne _ _ h, va_up_self]
  · rw [va_up_ne _ _ hi]
    by_cases hj : k = j
    · subst hj
      rw [va_up_self, va_up_self]
    · rw [va_up_ne _ _ hj, va_up_ne _ _ hi, va_up_ne _ _ hj, va_up_ne _ _ hi]
theorem va_up4 {α : Type} (f : Nat → α) {i j : Nat} (h : i ≠ j) (a b c e : α) : va_up (va_up (va_up (va_up f i a) j b) i c) j e = va_up (va_up f i c) j e := by
  rw [va_up_swap _ h, bx_uu]
def md_tb (v : Int32) (k : Nat) : Bool := decide ((v >>> (nI k &&& 31)) &&& 1 = 1)
def md_bit (S : Nat → Int32) (p : Nat) (b : Bool) : Nat → Int32 := if b = true then upd S (p / 32) (S (p / 32) ||| (1 : Int32) <<< (nI (p % 32) &&& 31)) else S
/-- the stream behind n bits of v from bit p on -/
def md_bits (S : Nat → Int32) (p : Nat) (v : Int32) : Nat → Nat → Int32
  | 0 => S
  | n + 1 => md_bit (md_bits S p v n) (p + n) (md_tb v n)
theorem upd_id {g : Nat → Int32} {k : Nat} {x : Int32} (h : g k = x) : upd g k x = g := by
  funext j
  by_cases hj : j = k
  · subst hj; rw [pk_us, h]
  · exact pk_un hj
section MBITS
variable {IA : Nat → Nat → Int32} {LA : Nat → Nat → Int64} {RA : Nat → Nat → Option Nat} {SC : Nat → Nat → Int32} {dr : Nat} {tl : Nat → va_E} {N d : Nat}
theorem m_within {x a b : Int32} : pm_call (d + 1) 100 [.int x, .int a, .int b] (N, HC IA LA RA SC dr tl) (.inl (some (.int (if a ≤ x ∧ x ≤ b then 1 else 0)))) (N, HC IA LA RA SC dr tl) 0 0 := by
  refine pm_callX jm_100 [(0, .int x), (1, .int a), (2, .int b)] rfl rfl rfl ?_
  refine pm_go 2 (pc1 := 2) rfl ?_
  refine pm_icmp rfl (fun h => ?_) (fun h => ?_)
  · refine pm_go 1 (pc1 := 15) rfl ?_
    exact pm_iret rfl rfl (by rw [if_neg (fun z => absurd z.1 (Int32.not_le.mpr h))]) rfl
  · refine pm_go 2 (pc1 := 7) rfl ?_
    refine pm_icmp rfl (fun h2 => ?_) (fun h2 => ?_)
    · refine pm_go 1 (pc1 := 15) rfl ?_
      exact pm_iret rfl rfl (by rw [if_neg (fun z => absurd z.2 (Int32.not_le.mpr h2))]) rfl
    · refine pm_go 2 (pc1 := 15) rfl ?_
      exact pm_iret rfl rfl (by rw [if_pos ⟨Int32.not_lt.mp h, Int32.not_lt.mp h2⟩]) rfl
theorem m_bits_loop {v : Int32} {n p : Nat} (hn : n ≤ 32) (hp : p + n < 8000) : ∀ (j k : Nat), k + j = n → ∀ (r : pm_V) (h' : pm_H), r = .inl none → h' = (N, HC (va_up (va_up IA 37 (md_bits (IA 37) p v n)) 38 (upd (IA 38) 0 (nI (p + n)))) LA RA SC dr tl) →
    pm_X (pm_call d) jm_101 5 none d 0 0 2 [(0, .ref 36), (1, .int v), (2, .int (nI n)), (3, .int (nI k))] [] 0 0 (N, HC (va_up (va_up IA 37 (md_bits (IA 37) p v k)) 38 (upd (IA 38) 0 (nI (p + k)))) LA RA SC dr tl) r h' := by
  intro j
  induction j with
  | zero =>
    intro k hk r h' er eh
    have hk : k = n := by omega
    subst hk
    refine pm_go 2 (pc1 := 4) rfl ?_
    refine pm_icmp rfl (fun h => ?_) (fun h => absurd (nI_le (Nat.le_refl k) (by omega)) h)
    exact pm_vret rfl rfl er eh
  | succ j ih =>
    intro k hk r h' er eh
    have hdv : (p + k) / 32 ≤ p + k := Nat.div_le_self _ _
    have hdv2 : (p + k) / 32 < 256 := by omega
    refine pm_go 2 (pc1 := 4) rfl ?_
    refine pm_icmp rfl (fun h => absurd ((nI_leI (a := n) (b := k) (by omega) (by omega)).mp h) (by omega)) (fun h => ?_)
    refine pm_go 1 (pc1 := 8) rfl ?_
    refine pm_getf rfl rfl rfl ?_
    refine pm_go 1 (pc1 := 12) rfl ?_
    refine pm_iald (j := 0) rfl rfl rfl (by decide) ?_
    rw [va_up_self, pk_us]
    refine pm_go 7 (pc1 := 21) rfl ?_
    have hend : ∀ S' : Nat → Int32, S' = md_bits (IA 37) p v (k + 1) → pm_X (pm_call d) jm_101 5 none d 0 0 52 [(0, .ref 36), (1, .int v), (2, .int (nI n)), (3, .int (nI k))] [] 0 0 (N, HC (va_up (va_up IA 37 S') 38 (upd (IA 38) 0 (nI (p + k)))) LA RA SC dr tl) r h' := by
      intro S' hS'
      refine pm_go 1 (pc1 := 53) rfl ?_
      refine pm_getf rfl rfl rfl ?_
      refine pm_go 2 (pc1 := 58) rfl ?_
      refine pm_iald (j := 0) rfl rfl rfl (by decide) ?_
      rw [va_up_self, pk_us]
      refine pm_go 2 (pc1 := 61) rfl ?_
      rw [nI_1]
      refine pm_iastU (j := 0) rfl rfl rfl (by decide) (hi_38 ..) ?_
      rw [va_up_self, bx_uu, cw_uu]
      refine pm_go 2 (pc1 := 2) rfl ?_
      rw [nI_1]
      refine pm_lv [(0, .ref 36), (1, .int v), (2, .int (nI n)), (3, .int (nI (k + 1)))] rfl rfl ?_
      rw [hS']
      exact ih (k + 1) (by omega) r h' er eh
    refine pm_icmp rfl (fun h => ?_) (fun h => ?_)
    · refine pm_lv [(0, .ref 36), (1, .int v), (2, .int (nI n)), (3, .int (nI k))] rfl rfl ?_
      refine hend _ ?_
      show _ = md_bit (md_bits (IA 37) p v k) (p + k) (md_tb v k)
      unfold md_bit
      rw [show md_tb v k = false from decide_eq_false h, if_neg (by decide)]
    · have hb : (v >>> (nI k &&& 31)) &&& 1 = 1 := Classical.byContradiction fun z => h z
      refine pm_go 1 (pc1 := 25) rfl ?_
      refine pm_getf rfl rfl rfl ?_
      refine pm_go 3 (pc1 := 33) rfl ?_
      rw [cw_di (by omega)]
      refine pm_go 1 (pc1 := 34) rfl ?_
      refine pm_getf rfl rfl rfl ?_
      refine pm_go 3 (pc1 := 42) rfl ?_
      rw [cw_di (by omega)]
      refine pm_iald (j := (p + k) / 32) rfl rfl (cw_ti (by omega)) hdv2 ?_
      rw [va_up_ne _ _ (show (37 : Nat) ≠ 38 by decide), va_up_self]
      refine pm_go 4 (pc1 := 49) rfl ?_
      rw [cw_re (by omega)]
      refine pm_go 2 (pc1 := 51) rfl ?_
      refine pm_iastU (j := (p + k) / 32) rfl rfl (cw_ti (by omega)) hdv2 (hi_37 ..) ?_
      rw [va_up_swap _ (by decide), va_up_ne _ _ (show (37 : Nat) ≠ 38 by decide), va_up_self]
      refine pm_lv [(0, .ref 36), (1, .int v), (2, .int (nI n)), (3, .int (nI k))] rfl rfl ?_
      refine hend _ ?_
      show _ = md_bit (md_bits (IA 37) p v k) (p + k) (md_tb v k)
      unfold md_bit
      rw [show md_tb v k = true from decide_eq_true hb, if_pos rfl]
theorem m_bits {v : Int32} {n p : Nat} (hP : IA 38 0 = nI p) (hn : n ≤ 32) (hp : p + n < 8000) : pm_call (d + 1) 101 [.ref 36, .int v, .int (nI n)] (N, HC IA LA RA SC dr tl) (.inl none) (N, HC (va_up (va_up IA 37 (md_bits (IA 37) p v n)) 38 (upd (IA 38) 0 (nI (p + n)))) LA RA SC dr tl) 0 0 := by
  refine pm_callX jm_101 [(0, .ref 36), (1, .int v), (2, .int (nI n))] rfl rfl rfl ?_
  refine pm_go 2 (pc1 := 2) rfl ?_
  refine pm_lv [(0, .ref 36), (1, .int v), (2, .int (nI n)), (3, .int (nI 0))] rfl rfl ?_
  have h0 := m_bits_loop (N := N) (d := d) (IA := IA) (LA := LA) (RA := RA) (SC := SC) (dr := dr) (tl := tl) (v := v) hn hp n 0 (by omega) _ _ rfl rfl
  rw [show va_up (va_up IA 37 (md_bits (IA 37) p v 0)) 38 (upd (IA 38) 0 (nI (p + 0))) = IA from by
    show va_up (va_up IA 37 (IA 37)) 38 (upd (IA 38) 0 (nI p)) = IA
    rw [cw_id, upd_id hP, cw_id]] at h0
  exact h0
theorem ny_sar {x k : Nat} (hk : k < 32) (hx : x < 2 ^ 31) : nI x >>> (nI k &&& 31) = nI (x / 2 ^ k) := pk_shrN hx (nI k &&& 31) k (s_l k hk)
/-- the stream and its end behind a number in chunks of w -/
def md_ch : Nat → (Nat → Int32) → Nat → Nat → Nat → (Nat → Int32) × Nat
  | 0, S, p, _, _ => (S, p)
  | t + 1, S, p, x, w => if x / 2 ^ (w - 1) = 0 then (md_bits (md_bits S p (nI x) (w - 1)) (p + (w - 1)) 0 1, p + w)
      else md_ch t (md_bits (md_bits S p (nI x) (w - 1)) (p + (w - 1)) 1 1) (p + w) (x / 2 ^ (w - 1)) w
theorem m_chunks_loop {w : Nat} (hw2 : 2 ≤ w) (hw : w ≤ 31) : ∀ (n t : Nat), t + n = 32 → ∀ (x p : Nat) (IA : Nat → Nat → Int32) (r : pm_V) (h' : pm_H), x < 2 ^ (31 - t) → IA 38 0 = nI p → p + n * w < 7900 →
    r = .inl none → h' = (N, HC (va_up (va_up IA 37 (md_ch n (IA 37) p x w).1) 38 (upd (IA 38) 0 (nI (md_ch n (IA 37) p x w).2))) LA RA SC dr tl) → 0 < n →
    pm_X (pm_call (d + 1)) jm_102 6 none (d + 1) 0 0 8 [(0, .ref 36), (2, .int (nI w)), (3, .int (nI x)), (4, .int 1), (5, .int (nI t))] [] 0 0 (N, HC IA LA RA SC dr tl) r h' := by
  intro n
  induction n with
  | zero => intro t ht x p IA r h' hx hP hb er eh h0; exact absurd h0 (by omega)
  | succ n ih =>
    intro t ht x p IA r h' hx hP hb er eh _
    have hmw : (n + 1) * w = n * w + w := Nat.succ_mul n w
    have hx31 : x < 2 ^ 31 := Nat.lt_of_lt_of_le hx (Nat.pow_le_pow_right (by omega) (by omega))
    have hdl : x / 2 ^ (w - 1) ≤ x := Nat.div_le_self _ _
    refine pm_go 2 (pc1 := 12) rfl ?_
    refine pm_icmp rfl (fun h => absurd ((nI_leI (a := 32) (b := t) (by omega) (by omega)).mp h) (by omega)) (fun h => ?_)
    refine pm_go 1 (pc1 := 17) rfl ?_
    refine pm_if rfl (fun h => absurd (show (1 : Int32) = 0 from h) (by decide)) (fun h => ?_)
    refine pm_go 5 (pc1 := 25) rfl ?_
    rw [show nI w - 1 = nI (w - 1) from pk_sub (b := 1) (by omega)]
    refine pm_cV [.int (nI x), .int (nI (w - 1))] rfl rfl rfl rfl rfl rfl (Nat.le_refl _) (Nat.le_refl _) (m_bits hP (by omega) (by omega)) ?_
    refine pm_go 4 (pc1 := 32) rfl ?_
    rw [show nI w - 1 = nI (w - 1) from pk_sub (b := 1) (by omega)]
    refine pm_go 1 (pc1 := 33) rfl ?_
    rw [ny_sar (by omega) hx31]
    refine pm_go 2 (pc1 := 35) rfl ?_
    refine pm_if rfl (fun h => ?_) (fun h => ?_)
    · have hr0 : x / 2 ^ (w - 1) = 0 := by
        by_cases hz : x / 2 ^ (w - 1) = 0
        · exact hz
        · exact absurd h (nI_ne0 (Nat.pos_of_ne_zero hz) (by omega))
      refine pm_go 4 (pc1 := 48) rfl ?_
      refine pm_if rfl (fun h => ?_) (fun h => absurd rfl h)
      refine pm_go 2 (pc1 := 57) rfl ?_
      refine pm_cV [.int 0, .int (nI 1)] rfl rfl rfl rfl rfl rfl (Nat.le_refl _) (Nat.le_refl _) (m_bits (p := p + (w - 1)) (by rw [va_up_self, pk_us]) (by omega) (by omega)) ?_
      refine pm_go 2 (pc1 := 8) rfl ?_
      have hend : pm_X (pm_call (d + 1)) jm_102 6 none (d + 1) 0 0 8 [(4, .int 0), (5, .int (nI t + 1))] [] 0 0 (N, HC (va_up (va_up IA 37 (md_ch (n + 1) (IA 37) p x w).1) 38 (upd (IA 38) 0 (nI (md_ch (n + 1) (IA 37) p x w).2))) LA RA SC dr tl) r h' := by
        refine pm_go 2 (pc1 := 12) rfl ?_
        refine pm_icmp rfl (fun _ => pm_vret rfl rfl er eh) (fun _ => ?_)
        refine pm_go 1 (pc1 := 17) rfl ?_
        exact pm_if rfl (fun _ => pm_vret rfl rfl er eh) (fun h => absurd rfl h)
      refine pm_lv [(4, .int 0), (5, .int (nI t + 1))] rfl rfl ?_
      have e2 : md_ch (n + 1) (IA 37) p x w = (md_bits (md_bits (IA 37) p (nI x) (w - 1)) (p + (w - 1)) 0 1, p + w) := by
        show (if _ then _ else _) = _
        rw [if_pos hr0]
      rw [e2] at hend
      rw [va_up_self, va_up_ne _ _ (show (37 : Nat) ≠ 38 by decide), va_up_self, va_up4 _ (by decide), cw_uu, show p + (w - 1) + 1 = p + w by omega]
      exact hend
    · have hr0 : x / 2 ^ (w - 1) ≠ 0 := fun z => h (by rw [z]; rfl)
      have ht31 : t < 31 := by
        rcases Nat.lt_or_ge t 31 with z | z
        · exact z
        · exfalso
          rw [show 31 - t = 0 by omega] at hx
          have hx0 : x = 0 := by omega
          exact hr0 (by rw [hx0]; exact Nat.zero_div _)
      have hxs : x / 2 ^ (w - 1) < 2 ^ (31 - (t + 1)) := by
        refine Nat.lt_of_le_of_lt (Nat.div_le_div_left (show 2 ^ 1 ≤ 2 ^ (w - 1) from Nat.pow_le_pow_right (by omega) (by omega)) (by omega)) ?_
        have h2 : 2 ^ (31 - t) = 2 ^ (31 - (t + 1)) * 2 ^ 1 := by rw [← Nat.pow_add]; congr 1; omega
        rw [h2] at hx
        exact Nat.div_lt_of_lt_mul (by rw [Nat.mul_comm]; exact hx)
      refine pm_go 5 (pc1 := 48) rfl ?_
      refine pm_if rfl (fun h => absurd (show (1 : Int32) = 0 from h) (by decide)) (fun h => ?_)
      refine pm_go 3 (pc1 := 57) rfl ?_
      refine pm_cV [.int 1, .int (nI 1)] rfl rfl rfl rfl rfl rfl (Nat.le_refl _) (Nat.le_refl _) (m_bits (p := p + (w - 1)) (by rw [va_up_self, pk_us]) (by omega) (by omega)) ?_
      refine pm_go 2 (pc1 := 8) rfl ?_
      rw [nI_1]
      refine pm_lv [(0, .ref 36), (2, .int (nI w)), (3, .int (nI (x / 2 ^ (w - 1)))), (4, .int 1), (5, .int (nI (t + 1)))] rfl rfl ?_
      rw [va_up_self, va_up_ne _ _ (show (37 : Nat) ≠ 38 by decide), va_up_self, va_up4 _ (by decide), cw_uu, show p + (w - 1) + 1 = p + w by omega]
      refine ih (t + 1) (by omega) (x / 2 ^ (w - 1)) (p + w) _ r h' hxs (by rw [va_up_self, pk_us]) (by omega) er ?_ (by omega)
      rw [eh]
      have e2 : md_ch (n + 1) (IA 37) p x w = md_ch n (md_bits (md_bits (IA 37) p (nI x) (w - 1)) (p + (w - 1)) 1 1) (p + w) (x / 2 ^ (w - 1)) w := by
        show (if _ then _ else _) = _
        rw [if_neg hr0]
      rw [e2, va_up_self, va_up_ne _ _ (show (37 : Nat) ≠ 38 by decide), va_up_self, va_up4 _ (by decide), cw_uu]
theorem m_chunks {x w p : Nat} (hP : IA 38 0 = nI p) (hp : p < 6800) (hx : x < 2 ^ 31) (hw2 : 2 ≤ w) (hw : w ≤ 31) : pm_call (d + 2) 102 [.ref 36, .int (nI x), .int (nI w)] (N, HC IA LA RA SC dr tl) (.inl none) (N, HC (va_up (va_up IA 37 (md_ch 32 (IA 37) p x w).1) 38 (upd (IA 38) 0 (nI (md_ch 32 (IA 37) p x w).2))) LA RA SC dr tl) 0 0 := by
  refine pm_callX jm_102 [(0, .ref 36), (1, .int (nI x)), (2, .int (nI w))] rfl rfl rfl ?_
  refine pm_go 6 (pc1 := 8) rfl ?_
  refine pm_lv [(0, .ref 36), (2, .int (nI w)), (3, .int (nI x)), (4, .int 1), (5, .int (nI 0))] rfl rfl ?_
  exact m_chunks_loop hw2 hw 32 0 rfl x p IA _ _ hx hP (by omega) rfl rfl (by omega)
end MBITS
