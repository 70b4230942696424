/-! THE TWO STREAMS, BIT BY BIT -/
def sb (g : Nat → Int32) (j : Nat) : Bool := bt (g (j / 32)) (j % 32)
theorem bt_nI (y k : Nat) (hk : k < 32) : bt (nI y) k = y.testBit k := by
  show (BitVec.ofNat 32 y).getLsbD k = _
  rw [BitVec.getLsbD_ofNat]
  simp [hk]
theorem bt_1 (i : Nat) : bt 1 i = decide (i = 0) := by
  by_cases hi : i < 32
  · rw [show (1 : Int32) = nI 1 from rfl, bt_nI 1 i hi]
    rw [show (1 : Nat) = 2 ^ 0 from rfl, Nat.testBit_two_pow]
    exact decide_eq_decide.mpr ⟨fun h => h.symm, fun h => h.symm⟩
  · rw [b_big (by omega), decide_eq_false (by omega)]
theorem bt_and1 (y : Int32) : (y &&& 1 = 1) ↔ bt y 0 = true := by
  constructor
  · intro h
    have h1 : bt (y &&& 1) 0 = bt 1 0 := by rw [h]
    rw [b_and, bt_1] at h1
    simpa using h1
  · intro h
    refine b_ext fun i _ => ?_
    rw [b_and, bt_1]
    by_cases hi : i = 0
    · subst hi; rw [h]; rfl
    · simp [hi]
theorem md_tb_bt (v : Int32) {k : Nat} (hk : k < 32) : md_tb v k = bt v k := by
  unfold md_tb
  have h := bt_and1 (v >>> (nI k &&& 31))
  rw [b_sshr k hk v (by omega), if_pos (by omega)] at h
  rw [Nat.add_zero] at h
  cases hb : bt v k with
  | true => exact decide_eq_true (h.mpr hb)
  | false => exact decide_eq_false (fun z => by rw [h.mp z] at hb; cases hb)
theorem sb_upd (S : Nat → Int32) (q : Nat) (x : Int32) (j : Nat) : sb (upd S q x) j = if j / 32 = q then bt x (j % 32) else sb S j := by
  unfold sb
  by_cases h : j / 32 = q
  · rw [if_pos h, h, pk_us]
  · rw [if_neg h, pk_un h]
theorem sb_md_bit (S : Nat → Int32) (p : Nat) (b : Bool) (j : Nat) : sb (md_bit S p b) j = (sb S j || (decide (j = p) && b)) := by
  unfold md_bit
  cases b with
  | false => simp
  | true =>
    rw [if_pos rfl, sb_upd]
    by_cases h : j / 32 = p / 32
    · rw [if_pos h, b_or, b_shl (p % 32) (Nat.mod_lt _ (by omega)) _ (Nat.mod_lt _ (by omega)), bt_1, ← h]
      show (sb S j || _) = _
      congr 1
      by_cases hj : j = p
      · subst hj; simp
      · have : ¬ (p % 32 ≤ j % 32 ∧ j % 32 - p % 32 = 0) := by omega
        simp only [hj, decide_false, Bool.false_and]
        cases h1 : decide (p % 32 ≤ j % 32) <;> cases h2 : decide (j % 32 - p % 32 = 0) <;> simp_all
    · rw [if_neg h]
      have hj : ¬ j = p := fun z => h (by rw [z])
      simp [hj]
theorem sb_md_bits (S : Nat → Int32) (p : Nat) (v : Int32) : ∀ (n : Nat), n ≤ 32 → ∀ j, sb (md_bits S p v n) j = (sb S j || (decide (p ≤ j ∧ j < p + n) && bt v (j - p)))
  | 0, _, j => by
    have : ¬ (p ≤ j ∧ j < p + 0) := by omega
    show sb S j = _
    simp only [this, decide_false, Bool.false_and, Bool.or_false]
  | n + 1, hn, j => by
    show sb (md_bit (md_bits S p v n) (p + n) (md_tb v n)) j = _
    rw [sb_md_bit, sb_md_bits S p v n (by omega) j, md_tb_bt v (by omega), Bool.or_assoc]
    congr 1
    by_cases h : j = p + n
    · subst h
      have h1 : ¬ (p ≤ p + n ∧ p + n < p + n) := by omega
      have h2 : p ≤ p + n ∧ p + n < p + (n + 1) := by omega
      rw [decide_eq_false h1, decide_eq_true h2, show p + n - p = n by omega]
      simp
    · have h2 : (p ≤ j ∧ j < p + (n + 1)) ↔ (p ≤ j ∧ j < p + n) := by omega
      simp only [h, h2, decide_false, Bool.false_and, Bool.or_false]
/-- class's row and model's stream hold the same, and nothing behind bit E -/
def RS (g S : Nat → Int32) (E : Nat) : Prop := (∀ i, i < 64 → g i = S i) ∧ ∀ j, E ≤ j → j < 4096 → sb S j = false
theorem RS_sb {g S : Nat → Int32} {E : Nat} (h : RS g S E) {j : Nat} (hj : j < 2048) : sb g j = sb S j := by
  unfold sb
  rw [h.1 (j / 32) (by omega)]
theorem sb_cw_set (g : Nat → Int32) (i : Nat) (x : Int32) {j : Nat} (hj : j < 2048) : sb (cw_set g i x) j = if j / 32 = i then bt x (j % 32) else sb g j := by
  unfold cw_set
  by_cases hi : i < 64
  · rw [if_pos hi, sb_upd]
  · rw [if_neg hi, if_neg (by omega)]
theorem sb_cw_put {g : Nat → Int32} {E n : Nat} {v : Int32} (hn : n ≤ 32) (hz : ∀ j, E ≤ j → j < 2048 → sb g j = false) (hv : ∀ k, n ≤ k → bt v k = false) {j : Nat} (hj : j < 2048) : sb (cw_put g E v n) j = (sb g j || (decide (E ≤ j) && bt v (j - E))) := by
  have hs : E % 32 < 32 := Nat.mod_lt _ (by omega)
  have hj32 : j % 32 < 32 := Nat.mod_lt _ (by omega)
  have h1 : ∀ {j : Nat}, j < 2048 → sb (cw_set g (E / 32) (cw_at g (E / 32) ||| v <<< (nI (E % 32) &&& 31))) j = if j / 32 = E / 32 then (sb g j || (decide (E ≤ j) && bt v (j - E))) else sb g j := by
    intro j hj
    have hj32 : j % 32 < 32 := Nat.mod_lt _ (by omega)
    rw [sb_cw_set _ _ _ hj]
    by_cases h : j / 32 = E / 32
    · rw [if_pos h, if_pos h, b_or, b_shl _ hs _ hj32]
      have hq : cw_at g (E / 32) = g (j / 32) := by unfold cw_at; rw [if_pos (by omega), h]
      rw [hq]
      show (sb g j || _) = _
      congr 1
      by_cases hle : E ≤ j
      · rw [decide_eq_true (show E % 32 ≤ j % 32 by omega), decide_eq_true hle, show j % 32 - E % 32 = j - E by omega]
      · rw [decide_eq_false (show ¬ E % 32 ≤ j % 32 by omega), decide_eq_false hle]; simp
    · rw [if_neg h, if_neg h]
  unfold cw_put
  by_cases hc : 32 < E % 32 + n
  · rw [if_pos hc, sb_cw_set _ _ _ hj]
    by_cases h : j / 32 = E / 32 + 1
    · rw [if_pos h, b_ushr _ (by omega), hz j (by omega) hj, decide_eq_true (show E ≤ j by omega), show 32 - E % 32 + j % 32 = j - E by omega]
      simp
    · rw [if_neg h, h1 hj]
      by_cases h2 : j / 32 = E / 32
      · rw [if_pos h2]
      · rw [if_neg h2]
        by_cases hle : E ≤ j
        · rw [hv (j - E) (by omega)]; simp
        · rw [decide_eq_false hle]; simp
  · rw [if_neg hc, h1 hj]
    by_cases h2 : j / 32 = E / 32
    · rw [if_pos h2]
    · rw [if_neg h2]
      by_cases hle : E ≤ j
      · rw [hv (j - E) (by omega)]; simp
      · rw [decide_eq_false hle]; simp
theorem RS_put {g S : Nat → Int32} {E n : Nat} {v : Int32} (h : RS g S E) (hn : n ≤ 32) (hv : ∀ k, n ≤ k → bt v k = false) : RS (cw_put g E v n) (md_bits S E v n) (E + n) := by
  refine ⟨fun i hi => b_ext fun b hb => ?_, fun j h1 h2 => ?_⟩
  · have hj : 32 * i + b < 2048 := by omega
    have e1 : sb (cw_put g E v n) (32 * i + b) = bt (cw_put g E v n i) b := by unfold sb; rw [show (32 * i + b) / 32 = i by omega, show (32 * i + b) % 32 = b by omega]
    have e2 : sb (md_bits S E v n) (32 * i + b) = bt (md_bits S E v n i) b := by unfold sb; rw [show (32 * i + b) / 32 = i by omega, show (32 * i + b) % 32 = b by omega]
    rw [← e1, ← e2, sb_cw_put hn (fun j a c => by rw [RS_sb h c]; exact h.2 j a (by omega)) hv hj, sb_md_bits S E v n hn, RS_sb h hj]
    congr 1
    by_cases h3 : E ≤ 32 * i + b
    · by_cases h4 : 32 * i + b < E + n
      · rw [decide_eq_true h3, decide_eq_true ⟨h3, h4⟩]
      · rw [hv _ (by omega)]; simp
    · rw [decide_eq_false h3, decide_eq_false (fun z => h3 z.1)]
  · rw [sb_md_bits S E v n hn, h.2 j (by omega) h2, decide_eq_false (by omega)]
    rfl
theorem md_bits_congr {S : Nat → Int32} {p : Nat} {u v : Int32} : ∀ (n : Nat), (∀ k, k < n → md_tb u k = md_tb v k) → md_bits S p u n = md_bits S p v n
  | 0, _ => rfl
  | n + 1, h => by
    show md_bit _ _ _ = md_bit _ _ _
    rw [md_bits_congr n (fun k hk => h k (by omega)), h n (by omega)]
theorem tb_nI {y k : Nat} (hk : k < 32) : md_tb (nI y) k = y.testBit k := by rw [md_tb_bt _ hk, bt_nI _ _ hk]
/-- w - 1 bits of x and a bit that says whether there is more are w bits of one number -/
theorem md_join {S : Nat → Int32} {p x w y : Nat} {c : Int32} (hw2 : 1 ≤ w) (hw : w ≤ 32) (h1 : ∀ k, k < w - 1 → y.testBit k = x.testBit k) (h2 : md_tb c 0 = y.testBit (w - 1)) : md_bits (md_bits S p (nI x) (w - 1)) (p + (w - 1)) c 1 = md_bits S p (nI y) w := by
  obtain ⟨u, rfl⟩ : ∃ u, w = u + 1 := ⟨w - 1, by omega⟩
  show md_bit (md_bits S p (nI x) u) (p + u + 0) (md_tb c 0) = md_bit (md_bits S p (nI y) u) (p + u) (md_tb (nI y) u)
  rw [h2, tb_nI (by omega), md_bits_congr (u := nI x) (v := nI y) u (fun k hk => by rw [tb_nI (by omega), tb_nI (by omega), h1 k hk])]
  rfl
/-- both write a number in chunks the same way -/
theorem RS_ch {w : Nat} (hw2 : 2 ≤ w) (hw : w ≤ 31) : ∀ (t : Nat) (x : Nat) (g S : Nat → Int32) (E a b : Nat), x < 2 ^ t → t ≤ 31 → t ≤ a → t ≤ b → 1 ≤ a → 1 ≤ b → RS g S E → RS (cw_ch a g E x w).1 (md_ch b S E x w).1 (cw_ch a g E x w).2 ∧ (md_ch b S E x w).2 = (cw_ch a g E x w).2 := by
  intro t
  induction t with
  | zero =>
    intro x g S E a b hx _ _ _ ha hb h
    have hx0 : x = 0 := by omega
    subst hx0
    obtain ⟨a, rfl⟩ : ∃ z, a = z + 1 := ⟨a - 1, by omega⟩
    obtain ⟨b, rfl⟩ : ∃ z, b = z + 1 := ⟨b - 1, by omega⟩
    have e0 : 0 / 2 ^ (w - 1) = 0 := Nat.zero_div _
    have e1 : cw_ch (a + 1) g E 0 w = (cw_put g E (nI 0) w, E + w) := by show (if _ then _ else _) = _; rw [if_pos e0]
    have e2 : md_ch (b + 1) S E 0 w = (md_bits (md_bits S E (nI 0) (w - 1)) (E + (w - 1)) 0 1, E + w) := by show (if _ then _ else _) = _; rw [if_pos e0]
    rw [e1, e2, md_join (y := 0) (by omega) (by omega) (fun k _ => rfl) (by rw [show (0 : Int32) = nI 0 from rfl, tb_nI (by omega), Nat.zero_testBit, Nat.zero_testBit])]
    exact ⟨RS_put h (by omega) (fun k _ => by rw [show nI 0 = 0 from rfl, b_0]), rfl⟩
  | succ t ih =>
    intro x g S E a b hx ht ha hb ha1 hb1 h
    obtain ⟨a, rfl⟩ : ∃ z, a = z + 1 := ⟨a - 1, by omega⟩
    obtain ⟨b, rfl⟩ : ∃ z, b = z + 1 := ⟨b - 1, by omega⟩
    have hx31 : x < 2 ^ 31 := Nat.lt_of_lt_of_le hx (Nat.pow_le_pow_right (by omega) ht)
    have hp1 : 0 < 2 ^ (w - 1) := Nat.two_pow_pos _
    have hml : x % 2 ^ (w - 1) < 2 ^ (w - 1) := Nat.mod_lt _ hp1
    by_cases hr : x / 2 ^ (w - 1) = 0
    · have hxw : x < 2 ^ (w - 1) := by
        rcases Nat.div_eq_zero_iff.mp hr with z | z
        · omega
        · exact z
      have e1 : cw_ch (a + 1) g E x w = (cw_put g E (nI x) w, E + w) := by show (if _ then _ else _) = _; rw [if_pos hr]
      have e2 : md_ch (b + 1) S E x w = (md_bits (md_bits S E (nI x) (w - 1)) (E + (w - 1)) 0 1, E + w) := by show (if _ then _ else _) = _; rw [if_pos hr]
      have hbig : ∀ k, w - 1 ≤ k → x.testBit k = false := fun k hk => Nat.testBit_lt_two_pow (Nat.lt_of_lt_of_le hxw (Nat.pow_le_pow_right (by omega) hk))
      rw [e1, e2, md_join (y := x) (by omega) (by omega) (fun k _ => rfl) (by rw [show (0 : Int32) = nI 0 from rfl, tb_nI (by omega), Nat.zero_testBit, hbig _ (Nat.le_refl _)])]
      refine ⟨RS_put h (by omega) (fun k hk => ?_), rfl⟩
      by_cases hk2 : k < 32
      · rw [bt_nI _ _ hk2]; exact hbig k (by omega)
      · exact b_big (by omega)
    · have e1 : cw_ch (a + 1) g E x w = cw_ch a (cw_put g E (nI (x % 2 ^ (w - 1) + 2 ^ (w - 1))) w) (E + w) (x / 2 ^ (w - 1)) w := by show (if _ then _ else _) = _; rw [if_neg hr]
      have e2 : md_ch (b + 1) S E x w = md_ch b (md_bits (md_bits S E (nI x) (w - 1)) (E + (w - 1)) 1 1) (E + w) (x / 2 ^ (w - 1)) w := by show (if _ then _ else _) = _; rw [if_neg hr]
      have hy : x % 2 ^ (w - 1) + 2 ^ (w - 1) < 2 ^ w := by
        have : 2 ^ w = 2 ^ (w - 1) * 2 := by rw [← Nat.pow_succ]; congr 1; omega
        omega
      have hk1 : ∀ k, k < w - 1 → (x % 2 ^ (w - 1) + 2 ^ (w - 1)).testBit k = x.testBit k := by
        intro k hk
        rw [Nat.add_comm, Nat.testBit_two_pow_add_gt hk, Nat.testBit_mod_two_pow]
        simp [hk]
      have hb2 : (x % 2 ^ (w - 1) + 2 ^ (w - 1)).testBit (w - 1) = true := by
        rw [Nat.add_comm, Nat.testBit_two_pow_add_eq, Nat.testBit_lt_two_pow hml]
        rfl
      rw [e1, e2, md_join (y := x % 2 ^ (w - 1) + 2 ^ (w - 1)) (by omega) (by omega) hk1 (by rw [hb2, show (1 : Int32) = nI 1 from rfl, tb_nI (by omega)]; rfl)]
      have hxs : x / 2 ^ (w - 1) < 2 ^ t := by
        refine Nat.lt_of_le_of_lt (Nat.div_le_div_left (show 2 ^ 1 ≤ 2 ^ (w - 1) from Nat.pow_le_pow_right (by omega) (by omega)) (by omega)) ?_
        rw [Nat.pow_succ] at hx
        exact Nat.div_lt_of_lt_mul (by omega)
      have ht1 : 1 ≤ t := by
        rcases Nat.eq_zero_or_pos t with z | z
        · rw [z] at hxs
          exact absurd (Nat.lt_one_iff.mp hxs) hr
        · exact z
      refine ih (x / 2 ^ (w - 1)) _ _ (E + w) a b hxs (by omega) (by omega) (by omega) (by omega) (by omega) (RS_put h (by omega) (fun k hk => ?_))
      by_cases hk2 : k < 32
      · rw [bt_nI _ _ hk2]
        exact Nat.testBit_lt_two_pow (Nat.lt_of_lt_of_le hy (Nat.pow_le_pow_right (by omega) hk))
      · exact b_big (by omega)
theorem RS_chunks {w x : Nat} {g S : Nat → Int32} {E : Nat} (hw2 : 2 ≤ w) (hw : w ≤ 31) (hx : x < 2 ^ 31) (h : RS g S E) : RS (cw_ch 31 g E x w).1 (md_ch 32 S E x w).1 (cw_ch 31 g E x w).2 ∧ (md_ch 32 S E x w).2 = (cw_ch 31 g E x w).2 := RS_ch hw2 hw 31 x g S E 31 32 hx (by omega) (by omega) (by omega) (by omega) (by omega) h
