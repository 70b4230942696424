/-! THE MODEL: a record by a form, read whole -/
theorem sgN_last {n : Nat} {kk : Nat → Nat} (h : fmOkN kk n) (hR : rwN kk n) : ¬ kk (n - 1) = 3 := by
  have h1 := (h.2 (n - 2) (by have := hR.1; omega) hR.2).2
  rw [show n - 2 + 1 = n - 1 by have := hR.1; omega] at h1
  omega
theorem rP_ok {rd : Nat → Int32} {nu : Nat → Nat} {x t : Nat} (ht : 1 ≤ t) (h : rP rd nu t) : rdOk (upd (upd rd 1 (nI x)) 2 (nI t - 1)) nu x t := by
  refine ⟨?_, ?_, ?_, fun i i1 i2 => ?_⟩
  · rw [upd_ne (by omega), upd_ne (by omega)]
    exact h.1 (by omega)
  · rw [upd_ne (by omega), upd_at]
  · rw [upd_at]
    exact pk_sub (b := 1) ht
  · rw [upd_ne (by omega), upd_ne (by omega)]
    exact h.2 i i1 i2
section MT
variable {IA : Nat → Nat → Int32} {LA : Nat → Nat → Int64} {RA : Nat → Nat → Option Nat} {SC : Nat → Nat → Int32} {dr : Nat} {tl : Nat → va_E} {N d m p b dp n f S l : Nat} {rd : Nat → Int32} {kk vv : Nat → Nat} {xv : Int32}
theorem m_r_178 {lv9 : Int32} {q1 b1 : Nat} {r : pm_V} {h' : pm_H} (hC : pm_call (d + 3) 139 [.ref 36, .int (nI 6)] (N, HM IA LA RA SC dr tl p b rd) (.inl (some (.int lv9))) (N, HM IA LA RA SC dr tl q1 b1 rd) 0 0)
    (kt : ¬ (17 : Int32) < lv9 ∧ ¬ 17 < nI S + lv9 ∧ ¬ nI S + lv9 < 1 → pm_X (pm_call (d + 3)) jm_147 10 (some .int) (d + 3) 0 0 230 [(0, .ref 36), (1, .int xv), (3, .int (nI f)), (4, .int (nI n)), (6, .int (nI S)), (8, .int lv9), (9, .int (nI S))] [] 0 0 (N, HM IA LA RA SC dr tl q1 b1 rd) r h')
    (kf : ¬ (¬ (17 : Int32) < lv9 ∧ ¬ 17 < nI S + lv9 ∧ ¬ nI S + lv9 < 1) → pm_X (pm_call (d + 3)) jm_147 10 (some .int) (d + 3) 0 0 230 [(0, .ref 36), (1, .int xv), (3, .int (nI f)), (4, .int (nI n)), (6, .int (nI S)), (8, .int lv9), (9, .int (nI S))] [] 0 0 (N, HM IA LA RA SC dr tl q1 1 rd) r h') :
    pm_X (pm_call (d + 3)) jm_147 10 (some .int) (d + 3) 0 0 178 [(0, .ref 36), (1, .int xv), (3, .int (nI f)), (4, .int (nI n)), (5, .int 1), (6, .int (nI S)), (7, .int (nI S))] [] 0 0 (N, HM IA LA RA SC dr tl p b rd) r h' := by
  refine pm_go 1 (pc1 := 180) rfl ?_
  refine pm_if rfl (fun z => absurd (show (1 : Int32) = 0 from z) (by decide)) (fun _ => ?_)
  refine pm_go 2 (pc1 := 186) rfl ?_
  refine pm_cV [.int (nI 6)] rfl rfl rfl rfl rfl rfl (Nat.zero_le _) (Nat.zero_le _) hC ?_
  refine pm_go 4 (pc1 := 196) rfl ?_
  have hend : ∀ (x : Int32) (b2 : Nat), (if x = 0 then 1 else b1) = b2 → pm_X (pm_call (d + 3)) jm_147 10 (some .int) (d + 3) 0 0 230 [(0, .ref 36), (1, .int xv), (3, .int (nI f)), (4, .int (nI n)), (6, .int (nI S)), (8, .int lv9), (9, .int (nI S))] [] 0 0 (N, HM IA LA RA SC dr tl q1 b2 rd) r h' → pm_X (pm_call (d + 3)) jm_147 10 (some .int) (d + 3) 0 0 223 [(8, .int lv9), (0, .ref 36), (1, .int xv), (3, .int (nI f)), (4, .int (nI n)), (5, .int 1), (6, .int (nI S)), (7, .int (nI S))] [.int x, .ref 36] 0 0 (N, HM IA LA RA SC dr tl q1 b1 rd) r h' := by
    intro x b2 hb hX
    refine pm_cV [.int x] rfl rfl rfl rfl rfl rfl (Nat.zero_le _) (Nat.zero_le _) m_must ?_
    rw [hb]
    refine pm_go 2 (pc1 := 230) rfl ?_
    exact pm_lv [(0, .ref 36), (1, .int xv), (3, .int (nI f)), (4, .int (nI n)), (6, .int (nI S)), (8, .int lv9), (9, .int (nI S))] rfl rfl hX
  refine pm_icmp rfl (fun z => pm_go 1 (pc1 := 223) rfl (hend 0 1 (if_pos rfl) (kf (fun h => h.1 z)))) (fun z1 => ?_)
  refine pm_go 4 (pc1 := 206) rfl ?_
  refine pm_icmp rfl (fun z => pm_go 1 (pc1 := 223) rfl (hend 0 1 (if_pos rfl) (kf (fun h => h.2.1 z)))) (fun z2 => ?_)
  refine pm_go 4 (pc1 := 215) rfl ?_
  refine pm_icmp rfl (fun z => pm_go 1 (pc1 := 223) rfl (hend 0 1 (if_pos rfl) (kf (fun h => h.2.2 z)))) (fun z3 => ?_)
  exact pm_go 2 (pc1 := 223) rfl (hend 1 b1 (if_neg (by decide)) (kt ⟨z1, z2, z3⟩))
theorem m_r_178N {r : pm_V} {h' : pm_H} (k : pm_X (pm_call (d + 3)) jm_147 10 (some .int) (d + 3) 0 0 296 [(0, .ref 36), (1, .int xv), (7, .int (nI S))] [] 0 0 (N, HM IA LA RA SC dr tl p b rd) r h') :
    pm_X (pm_call (d + 3)) jm_147 10 (some .int) (d + 3) 0 0 178 [(0, .ref 36), (1, .int xv), (3, .int (nI f)), (4, .int (nI n)), (5, .int 0), (6, .int (nI S)), (7, .int (nI S))] [] 0 0 (N, HM IA LA RA SC dr tl p b rd) r h' := by
  refine pm_go 1 (pc1 := 180) rfl ?_
  refine pm_if rfl (fun _ => ?_) (fun z => absurd rfl z)
  exact pm_lv [(0, .ref 36), (1, .int xv), (7, .int (nI S))] rfl rfl k
theorem m_r_178B : ∃ v rd', pm_X (pm_call (d + 3)) jm_147 10 (some .int) (d + 3) 0 0 178 [(0, .ref 36), (1, .int xv), (3, .int (nI f)), (4, .int (nI n)), (5, .int (if rwN kk n then 1 else 0)), (6, .int (nI S)), (7, .int (nI S))] [] 0 0 (N, HM IA LA RA SC dr tl p 1 rd) (.inl (some (.int v))) (N, HM IA LA RA SC dr tl p 1 rd') := by
  by_cases h : rwN kk n
  · rw [if_pos h]
    exact ⟨_, _, m_r_178 m_getChunksB (fun _ => m_r2_B) (fun _ => m_r2_B)⟩
  · rw [if_neg h]
    exact ⟨_, _, m_r_178N m_r_296⟩
theorem c17 {l : Nat} (hS : S ≤ 8) (hl : l < 2 ^ 31) : (¬ (17 : Int32) < nI l ∧ ¬ 17 < nI S + nI l ∧ ¬ nI S + nI l < 1) ↔ (S + l ≤ 17 ∧ 1 ≤ S + l) := by
  by_cases h : l ≤ 17
  · rw [nI_add]
    have a1 : (17 : Int32) < nI l ↔ 17 < l := nI_ltI (a := 17) (by omega) (by omega)
    have a2 : (17 : Int32) < nI (S + l) ↔ 17 < S + l := nI_ltI (a := 17) (by omega) (by omega)
    have a3 : nI (S + l) < (1 : Int32) ↔ S + l < 1 := nI_ltI (b := 1) (by omega) (by omega)
    rw [a1, a2, a3]
    omega
  · have a1 : (17 : Int32) < nI l ↔ 17 < l := nI_ltI (a := 17) (by omega) (by omega)
    refine ⟨fun z => absurd (a1.mpr (by omega)) z.1, fun z => by omega⟩
theorem m_recordIn {x v44 t q : Nat} {nu : Nat → Nat} (hSz : SC 36 2 = nI m) (hm : m ≤ 64) (hp : p ≤ 32 * m) (hx : x < 256) (hx4 : 4 ≤ x) (hD : IA 39 1 = nI dp) (hd : dp ≤ 6) (h44 : IA 44 (7 + dp) = nI v44) (hv8 : v44 ≤ 8) (hx2 : x < v44 + 4) (hI : ¬ (0 < dp ∧ IA 40 (7 + dp) = 0)) (hF : IA 45 (8 * (7 + dp) + (x - 4)) = nI f) (hf : f + 1 ≤ 300) (hC : IA 49 f = nI n) (hn : n ≤ 8) (hO : opsAt (LA 48) (8 * f) n kk vv) (hB : fmB n kk vv) (hOk : fmOkN kk n) (hE : pBF (gR IA) m n kk vv p = some (t, nu, q)) :
    1 ≤ t ∧ t ≤ 17 ∧ q ≤ 32 * m ∧ (∀ i, i < t → nu i < 2 ^ 31) ∧ ∃ rd', rdOk rd' nu x t ∧ pm_call (d + 4) 147 [.ref 36, .int (nI x)] (N, HM IA LA RA SC dr tl p 0 rd) (.inl (some (.int (nI (t + 2))))) (N, HM IA LA RA SC dr tl q 0 rd') 0 0 := by
  have hSn : sgN kk n ≤ n := sgN_le
  have h3 := sgN_3 hOk
  have h0 := hOk.1
  unfold pBF at hE
  cases h1 : pSq (fun i => pBy (gR IA) m (kk i) (vv i)) 0 (fun _ => 0) p (sgN kk n) with
  | none => rw [h1] at hE; cases hE
  | some z =>
    obtain ⟨nu1, p1⟩ := z
    rw [h1] at hE
    dsimp only at hE
    obtain ⟨s1, s2, s3, s4⟩ := pSq_b (n0 := n) (m := m) (F := fun i => pBy (gR IA) m (kk i) (vv i)) (fun i p v q h1 h2 hp he => pBy_b hp (hB i (by omega)).2.1 (fun z => ((hB i (by omega)).2.2.1 z).2) he) hp (fun i hi => absurd hi (by omega)) (sgN kk n) hSn h1
    obtain ⟨rd1, hR1, hgo⟩ := m_r1_ok (d := d) (LA := LA) (RA := RA) (dr := dr) (tl := tl) (N := N) (IA := IA) (xv := nI x) (rw0 := if rwN kk n then 1 else 0) (kk := kk) (vv := vv) hSz hm hp hSn hn hf hO hB h3 h1 (sgN kk n) 0 p rd _ (by omega) rfl ⟨fun z => absurd z (by omega), fun i i1 i2 => absurd i2 (by omega)⟩
    by_cases hR : rwN kk n
    · rw [if_pos hR] at hE hgo
      cases h2 : gC (gR IA) m 6 p1 with
      | none => rw [h2] at hE; cases hE
      | some z =>
        obtain ⟨l, p2⟩ := z
        rw [h2] at hE
        dsimp only at hE
        obtain ⟨c1, c2, c3⟩ := gC_b h2
        split at hE
        · rename_i hl
          cases h4 : pSq (fun _ => pBy (gR IA) m (kk (n - 1)) (vv (n - 1))) (sgN kk n) nu1 p2 l with
          | none => rw [h4] at hE; cases hE
          | some z =>
            obtain ⟨nu2, q2⟩ := z
            rw [h4] at hE
            cases hE
            obtain ⟨e3, e4, e5, e6⟩ := hB (n - 1) (by omega)
            obtain ⟨u1, u2, u3, u4⟩ := pSq_b (n0 := l) (m := m) (F := fun _ => pBy (gR IA) m (kk (n - 1)) (vv (n - 1))) (fun i p v q h1 h2 hp he => pBy_b hp e4 (fun z => (e5 z).2) he) c3 (fun i hi => s1 i (by omega)) l (Nat.le_refl _) h4
            obtain ⟨rd2, hR2, hgo2⟩ := m_r2_ok (d := d) (LA := LA) (RA := RA) (dr := dr) (tl := tl) (N := N) (IA := IA) (xv := nI x) (kk := kk) (vv := vv) hSz hm c3 hl.1 hn (by omega) hf hO hB (sgN_last hOk hR) (fun i hi => s1 i (by omega)) h4 l 0 p2 rd1 _ (by omega) rfl hR1
            refine ⟨by omega, by omega, u4, u1, _, rP_ok hl.2 hR2, ?_⟩
            refine m_r_pre hx hx4 hD hd h44 hv8 hx2 hI hF hf hC hn hO ?_
            rw [if_pos hR]
            refine hgo _ _ ?_
            refine m_r_178 (m_chunksV hSz hm (by omega) (by omega) s4 h2) (fun _ => ?_) (fun z => absurd ((c17 (by omega) c1).mpr hl) z)
            rw [show sgN kk n + l + 2 = 2 + (sgN kk n + l) by omega]
            exact hgo2
        · cases hE
    · rw [if_neg hR] at hE hgo
      cases hE
      have hs : sgN kk n = n := by unfold sgN; rw [if_neg hR]
      refine ⟨by omega, by omega, s4, fun i hi => s1 i (by omega), _, rP_ok (by omega) hR1, ?_⟩
      refine m_r_pre hx hx4 hD hd h44 hv8 hx2 hI hF hf hC hn hO ?_
      rw [if_neg hR]
      refine hgo _ _ ?_
      rw [show nI (sgN kk n + 2) = 2 + nI (sgN kk n) from by rw [show sgN kk n + 2 = 2 + sgN kk n by omega]; exact (nI_add 2 (sgN kk n)).symm]
      exact m_r_178N m_r_296
theorem m_recordInX {x v44 : Nat} (hSz : SC 36 2 = nI m) (hm : m ≤ 64) (hp : p ≤ 32 * m) (hx : x < 256) (hx4 : 4 ≤ x) (hD : IA 39 1 = nI dp) (hd : dp ≤ 6) (h44 : IA 44 (7 + dp) = nI v44) (hv8 : v44 ≤ 8) (hx2 : x < v44 + 4) (hI : ¬ (0 < dp ∧ IA 40 (7 + dp) = 0)) (hF : IA 45 (8 * (7 + dp) + (x - 4)) = nI f) (hf : f + 1 ≤ 300) (hC : IA 49 f = nI n) (hn : n ≤ 8) (hO : opsAt (LA 48) (8 * f) n kk vv) (hB : fmB n kk vv) (hOk : fmOkN kk n) (hE : pBF (gR IA) m n kk vv p = none) :
    ∃ v rd' q, q ≤ 32 * m ∧ pm_call (d + 4) 147 [.ref 36, .int (nI x)] (N, HM IA LA RA SC dr tl p 0 rd) (.inl (some (.int v))) (N, HM IA LA RA SC dr tl q 1 rd') 0 0 := by
  have hSn : sgN kk n ≤ n := sgN_le
  have h3 := sgN_3 hOk
  have h0 := hOk.1
  unfold pBF at hE
  cases h1 : pSq (fun i => pBy (gR IA) m (kk i) (vv i)) 0 (fun _ => 0) p (sgN kk n) with
  | none =>
    obtain ⟨rd1, q1, hq1, hgo⟩ := m_r1_bad (d := d) (LA := LA) (RA := RA) (dr := dr) (tl := tl) (N := N) (IA := IA) (xv := nI x) (rw0 := if rwN kk n then 1 else 0) (kk := kk) (vv := vv) hSz hm hp hSn hn hf hO hB h3 h1 (sgN kk n) 0 p rd _ (by omega) rfl
    obtain ⟨v, rd', hv⟩ := m_r_178B (d := d) (IA := IA) (LA := LA) (RA := RA) (SC := SC) (dr := dr) (tl := tl) (N := N) (p := q1) (f := f) (n := n) (S := sgN kk n) (xv := nI x) (rd := rd1) (kk := kk)
    exact ⟨v, rd', q1, hq1, m_r_pre hx hx4 hD hd h44 hv8 hx2 hI hF hf hC hn hO (hgo _ _ hv)⟩
  | some z =>
    obtain ⟨nu1, p1⟩ := z
    rw [h1] at hE
    dsimp only at hE
    obtain ⟨s1, s2, s3, s4⟩ := pSq_b (n0 := n) (m := m) (F := fun i => pBy (gR IA) m (kk i) (vv i)) (fun i p v q h1 h2 hp he => pBy_b hp (hB i (by omega)).2.1 (fun z => ((hB i (by omega)).2.2.1 z).2) he) hp (fun i hi => absurd hi (by omega)) (sgN kk n) hSn h1
    obtain ⟨rd1, hR1, hgo⟩ := m_r1_ok (d := d) (LA := LA) (RA := RA) (dr := dr) (tl := tl) (N := N) (IA := IA) (xv := nI x) (rw0 := if rwN kk n then 1 else 0) (kk := kk) (vv := vv) hSz hm hp hSn hn hf hO hB h3 h1 (sgN kk n) 0 p rd _ (by omega) rfl ⟨fun z => absurd z (by omega), fun i i1 i2 => absurd i2 (by omega)⟩
    by_cases hR : rwN kk n
    · rw [if_pos hR] at hE
      have hpre := fun r h' z => m_r_pre (r := r) (h' := h') (d := d) (N := N) (RA := RA) (SC := SC) (dr := dr) (tl := tl) (rd := rd) (p := p) hx hx4 hD hd h44 hv8 hx2 hI hF hf hC hn hO (hgo r h' z)
      rw [if_pos hR] at hpre
      cases h2 : gC (gR IA) m 6 p1 with
      | none =>
        obtain ⟨v2, q2, hq2, hX2⟩ := m_chunksX (d := d + 1) (LA := LA) (RA := RA) (dr := dr) (tl := tl) (N := N) (rd := rd1) (w := 6) hSz hm (by omega) (by omega) s4 h2
        exact ⟨_, _, q2, hq2, hpre _ _ (m_r_178 hX2 (fun _ => m_r2_B) (fun _ => m_r2_B))⟩
      | some z =>
        obtain ⟨l, p2⟩ := z
        rw [h2] at hE
        dsimp only at hE
        obtain ⟨c1, c2, c3⟩ := gC_b h2
        have hX2 := m_chunksV (d := d + 1) (LA := LA) (RA := RA) (dr := dr) (tl := tl) (N := N) (rd := rd1) (w := 6) hSz hm (by omega) (by omega) s4 h2
        by_cases hl : sgN kk n + l ≤ 17 ∧ 1 ≤ sgN kk n + l
        · rw [if_pos hl] at hE
          cases h4 : pSq (fun _ => pBy (gR IA) m (kk (n - 1)) (vv (n - 1))) (sgN kk n) nu1 p2 l with
          | some z => rw [h4] at hE; cases hE
          | none =>
            obtain ⟨v, rd2, q2, hq2, hgo2⟩ := m_r2_bad (d := d) (LA := LA) (RA := RA) (dr := dr) (tl := tl) (N := N) (IA := IA) (xv := nI x) (kk := kk) (vv := vv) hSz hm c3 hl.1 hn (by omega) hf hO hB (sgN_last hOk hR) (fun i hi => s1 i (by omega)) h4 l 0 p2 rd1 _ (by omega) rfl
            exact ⟨v, rd2, q2, hq2, hpre _ _ (m_r_178 hX2 (fun _ => hgo2) (fun z => absurd ((c17 (by omega) c1).mpr hl) z))⟩
        · exact ⟨_, _, p2, c3, hpre _ _ (m_r_178 hX2 (fun z => absurd ((c17 (by omega) c1).mp z) hl) (fun _ => m_r2_B))⟩
    · rw [if_neg hR] at hE
      cases hE
end MT
