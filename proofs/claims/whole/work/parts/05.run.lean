/-- the codes of the array types that there are -/
def pm_tc (q : Nat) : Prop := q = 0 ∨ q = 1 ∨ ∃ z ∈ pm_qa, q = 2 + z
/-! THE RUN: from a frame, with what its calls come to (S), to the method's own end -/
/-- where a call leaves the caller: returned, it goes on; thrown, that is its own end -/
def pm_back (K : Option Value → Prop) (r1 : pm_V) (h1 : pm_H) (r : pm_V) (h' : pm_H) : Prop := match r1 with
  | .inl v => K v
  | .inr k => r = .inr k ∧ h' = h1
/-- Places of the parameters: S what calls come to; J the instructions; nL locals; rt what is returned; d frames left; bc, bs how many cells and slots the method makes at most; then fuel, pc, locals, stack, cells and slots made, heap; the end -/
def pm_run (S : Nat → List Value → pm_H → pm_V → pm_H → Nat → Nat → Prop) (J : Nat → pm_I) (nL : Nat) (rt : Option FieldType) (d bc bs : Nat) : Nat → Nat → List (Nat × Value) → List Value → Nat → Nat → pm_H → pm_V → pm_H → Prop
  | 0, _, _, _, _, _, _, _, _ => False
  | n + 1, pc, lv, st, c, s, h, r, h' => match (J pc).1 with
    | .getfield _ => ∃ (k : Nat) (t fs : List Value) (v : Value), st = .ref k :: t ∧ h.2 k = .inr ((J pc).2.1, fs) ∧ fs[(J pc).2.2.1]? = some v ∧ pm_run S J nL rt d bc bs n (pc + 3) lv (v :: t) c s h r h'
    | .putfield _ => ∃ (k : Nat) (t fs : List Value) (v : Value), st = v :: .ref k :: t ∧ h.2 k = .inr ((J pc).2.1, fs) ∧ (J pc).2.2.1 < fs.length ∧ pm_fit (pm_G (J pc).2.1 (J pc).2.2.1) v = true ∧ pm_run S J nL rt d bc bs n (pc + 3) lv t c s (h.1, va_up h.2 k (.inr ((J pc).2.1, fs.set (J pc).2.2.1 v))) r h'
    | .iaload => ∃ (k j N : Nat) (i : Int32) (t : List Value) (g : Nat → Int32), st = .int i :: .ref k :: t ∧ i.toInt = (j : Int) ∧ h.2 k = .inl (0, N, .inl g) ∧ j < N ∧ pm_run S J nL rt d bc bs n (pc + 1) lv (.int (g j) :: t) c s h r h'
    | .iastore => ∃ (k j N : Nat) (i x : Int32) (t : List Value) (g : Nat → Int32), st = .int x :: .int i :: .ref k :: t ∧ i.toInt = (j : Int) ∧ h.2 k = .inl (0, N, .inl g) ∧ j < N ∧ pm_run S J nL rt d bc bs n (pc + 1) lv t c s (h.1, va_up h.2 k (.inl (0, N, .inl (upd g j x)))) r h'
    | .laload => ∃ (k j N : Nat) (i : Int32) (t : List Value) (g : Nat → Int64), st = .int i :: .ref k :: t ∧ i.toInt = (j : Int) ∧ h.2 k = .inl (1, N, .inr (.inl g)) ∧ j < N ∧ pm_run S J nL rt d bc bs n (pc + 1) lv (.long (g j) :: t) c s h r h'
    | .lastore => ∃ (k j N : Nat) (i : Int32) (x : Int64) (t : List Value) (g : Nat → Int64), st = .long x :: .int i :: .ref k :: t ∧ i.toInt = (j : Int) ∧ h.2 k = .inl (1, N, .inr (.inl g)) ∧ j < N ∧ pm_run S J nL rt d bc bs n (pc + 1) lv t c s (h.1, va_up h.2 k (.inl (1, N, .inr (.inl (vp_updL g j x))))) r h'
    | .aaload => ∃ (k j N q : Nat) (i : Int32) (t : List Value) (g : Nat → Option Nat), st = .int i :: .ref k :: t ∧ i.toInt = (j : Int) ∧ h.2 k = .inl (2 + q, N, .inr (.inr (.inr (.inr g)))) ∧ q ∈ pm_qa ∧ j < N ∧ pm_run S J nL rt d bc bs n (pc + 1) lv (va_rf (g j) :: t) c s h r h'
    | .aastore => ∃ (k j N q y : Nat) (i : Int32) (t fs : List Value) (g : Nat → Option Nat), st = .ref y :: .int i :: .ref k :: t ∧ i.toInt = (j : Int) ∧ h.2 k = .inl (2 + q, N, .inr (.inr (.inr (.inr g)))) ∧ h.2 y = .inr (q, fs) ∧ q ∈ pm_qa ∧ j < N ∧ pm_run S J nL rt d bc bs n (pc + 1) lv t c s (h.1, va_up h.2 k (.inl (2 + q, N, .inr (.inr (.inr (.inr (va_up g j (some y)))))))) r h'
    | .arraylength => ∃ (k q N : Nat) (t : List Value) (x : (Nat → Int32) ⊕ (Nat → Int64) ⊕ (Nat → UInt32) ⊕ (Nat → UInt64) ⊕ (Nat → Option Nat)), st = .ref k :: t ∧ h.2 k = .inl (q, N, x) ∧ pm_tc q ∧ pm_run S J nL rt d bc bs n (pc + 1) lv (.int (nI N) :: t) c s h r h'
    | .newarray a => ∃ (N : Nat) (i : Int32) (t : List Value), st = .int i :: t ∧ i.toInt = (N : Int) ∧ N < 100000 ∧ c + 1 ≤ bc ∧ s + N ≤ bs ∧
        ((a = .int ∧ pm_run S J nL rt d bc bs n (pc + 2) lv (.ref h.1 :: t) (c + 1) (s + N) (h.1 + 1, va_up h.2 h.1 (.inl (0, N, .inl (fun _ => 0)))) r h') ∨ (a = .long ∧ pm_run S J nL rt d bc bs n (pc + 2) lv (.ref h.1 :: t) (c + 1) (s + N) (h.1 + 1, va_up h.2 h.1 (.inl (1, N, .inr (.inl (fun _ => 0))))) r h'))
    | .anewarray _ => ∃ (N : Nat) (i : Int32) (t : List Value), st = .int i :: t ∧ i.toInt = (N : Int) ∧ N < 100000 ∧ c + 1 ≤ bc ∧ s + N ≤ bs ∧
        pm_run S J nL rt d bc bs n (pc + 3) lv (.ref h.1 :: t) (c + 1) (s + N) (h.1 + 1, va_up h.2 h.1 (.inl (2 + (J pc).2.1, N, .inr (.inr (.inr (.inr (fun _ => none))))))) r h'
    | .new _ => (100 ≤ (J pc).2.1 ∧ 8 ≤ d ∧ pm_cat st ≤ 8 ∧ c + 1 ≤ bc ∧ s + 6 ≤ bs ∧ r = .inr ((J pc).2.1 - 100) ∧ h' = h) ∨
        ((J pc).2.1 < pm_nC ∧ c + 1 ≤ bc ∧ s + (J pc).2.2.1 ≤ bs ∧ pm_run S J nL rt d bc bs n (pc + 3) lv (.ref h.1 :: st) (c + 1) (s + (J pc).2.2.1) (h.1 + 1, va_up h.2 h.1 (.inr ((J pc).2.1, (List.range (J pc).2.2.1).map (fun k => pm_df (pm_G (J pc).2.1 k))))) r h')
    | .invokespecial _ => (∃ (k : Nat) (t : List Value), (J pc).2.1 = 1000 ∧ st = .ref k :: t ∧ 1 ≤ d ∧ pm_cat t ≤ 8 ∧ pm_run S J nL rt d bc bs n (pc + 3) lv t c s h r h') ∨
        (∃ (b : Nat) (As t : List Value) (h1 : pm_H) (c1 s1 : Nat), (J pc).2.1 < pm_nM ∧ st = As.reverse ++ .ref b :: t ∧ As.length = (J pc).2.2.1 ∧ pm_cat t ≤ 8 ∧ c + c1 ≤ bc ∧ s + s1 ≤ bs ∧ S (J pc).2.1 (.ref b :: As) h (.inl none) h1 c1 s1 ∧ pm_run S J nL rt d bc bs n (pc + 3) lv t (c + c1) (s + s1) h1 r h')
    | .invokevirtual _ => ∃ (b : Nat) (As t fs : List Value) (r1 : pm_V) (h1 : pm_H) (c1 s1 : Nat), (J pc).2.1 < pm_nM ∧ st = As.reverse ++ .ref b :: t ∧ As.length = (J pc).2.2.1 ∧ h.2 b = .inr (pm_O (J pc).2.1, fs) ∧ pm_cat t ≤ 8 ∧ c + c1 ≤ bc ∧ s + s1 ≤ bs ∧ S (J pc).2.1 (.ref b :: As) h r1 h1 c1 s1 ∧
        pm_back (fun v => pm_run S J nL rt d bc bs n (pc + 3) lv (v.toList ++ t) (c + c1) (s + s1) h1 r h') r1 h1 r h'
    | .invokestatic _ => (∃ (k0 k1 n0 n1 ln sj dj : Nat) (t : List Value) (x y z : Int32) (f g : Nat → Int32), (J pc).2.1 = 1001 ∧ st = .int z :: .int y :: .ref k1 :: .int x :: .ref k0 :: t ∧ h.2 k0 = .inl (0, n0, .inl f) ∧ h.2 k1 = .inl (0, n1, .inl g) ∧ x.toInt = (sj : Int) ∧ y.toInt = (dj : Int) ∧ z.toInt = (ln : Int) ∧ sj + ln ≤ n0 ∧ dj + ln ≤ n1 ∧ 1 ≤ d ∧ pm_cat t ≤ 8 ∧
          pm_run S J nL rt d bc bs n (pc + 3) lv t c s (h.1, va_up h.2 k1 (.inl (0, n1, .inl (va_cpy f g sj dj ln)))) r h') ∨
        (∃ (As t : List Value) (v : Option Value) (h1 : pm_H) (c1 s1 : Nat), (J pc).2.1 < pm_nM ∧ st = As.reverse ++ t ∧ As.length = (J pc).2.2.1 ∧ pm_cat t ≤ 8 ∧ c + c1 ≤ bc ∧ s + s1 ≤ bs ∧ S (J pc).2.1 As h (.inl v) h1 c1 s1 ∧ pm_run S J nL rt d bc bs n (pc + 3) lv (v.toList ++ t) (c + c1) (s + s1) h1 r h')
    | .if_icmp k _ => ∃ (x y : Int32) (t : List Value), st = .int y :: .int x :: t ∧ ((pm_cmp k x y ∧ pm_run S J nL rt d bc bs n (J pc).2.1 lv t c s h r h') ∨ (¬ pm_cmp k x y ∧ pm_run S J nL rt d bc bs n (pc + 3) lv t c s h r h'))
    | .ifCond k _ => ∃ (x : Int32) (t : List Value), st = .int x :: t ∧ ((pm_cmp k x 0 ∧ pm_run S J nL rt d bc bs n (J pc).2.1 lv t c s h r h') ∨ (¬ pm_cmp k x 0 ∧ pm_run S J nL rt d bc bs n (pc + 3) lv t c s h r h'))
    | .ifnull _ => ∃ (v : Value) (t : List Value), st = v :: t ∧ ((v = .null ∧ pm_run S J nL rt d bc bs n (J pc).2.1 lv t c s h r h') ∨ (∃ k, v = .ref k ∧ pm_run S J nL rt d bc bs n (pc + 3) lv t c s h r h'))
    | .ifnonnull _ => ∃ (v : Value) (t : List Value), st = v :: t ∧ ((v = .null ∧ pm_run S J nL rt d bc bs n (pc + 3) lv t c s h r h') ∨ (∃ k, v = .ref k ∧ pm_run S J nL rt d bc bs n (J pc).2.1 lv t c s h r h'))
    | .tableswitch df lo hi offs => ∃ (x : Int32) (off : Int) (tgt : Nat) (t : List Value), st = .int x :: t ∧ (((x.toInt < lo ∨ hi < x.toInt) ∧ off = df) ∨ (¬ x.toInt < lo ∧ ¬ hi < x.toInt ∧ offs[(x.toInt - lo).toNat]? = some off)) ∧ (pc : Int) + off = (tgt : Int) ∧ pm_run S J nL rt d bc bs n tgt lv t c s h r h'
    | .lookupswitch df ps => ∃ (x : Int32) (tgt : Nat) (t : List Value), st = .int x :: t ∧ (ps.toList.zip (ps.toList.drop 1)).all (fun (a, next) => a.1 < next.1) = true ∧ (pc : Int) + Op.lookupswitch.offset ps.toList df x.toInt = (tgt : Int) ∧ pm_run S J nL rt d bc bs n tgt lv t c s h r h'
    | .ireturn => ∃ x : Int32, st = [.int x] ∧ pm_rfit rt (.int x) = true ∧ r = .inl (some (.int x)) ∧ h' = h
    | .lreturn => ∃ x : Int64, st = [.long x] ∧ pm_rfit rt (.long x) = true ∧ r = .inl (some (.long x)) ∧ h' = h
    | .areturn => ∃ v : Value, st = [v] ∧ pm_isR v = true ∧ pm_rfit rt v = true ∧ r = .inl (some v) ∧ h' = h
    | .return_ => st = [] ∧ rt = none ∧ r = .inl none ∧ h' = h
    | _ => ∃ q : Nat × List (Nat × Value) × List Value, pm_s nL (J pc) pc lv st = some q ∧ pm_run S J nL rt d bc bs n q.1 q.2.1 q.2.2 c s h r h'
/-- method M, called with d frames to lay, at these arguments and this heap comes to r and h', making at most bc cells of bs slots -/
def pm_call : Nat → Nat → List Value → pm_H → pm_V → pm_H → Nat → Nat → Prop
  | 0, _, _, _, _, _, _, _ => False
  | d + 1, M, As, h, r, h', bc, bs => (lg_sl As).length ≤ pm_L M ∧ ∃ n, pm_run (pm_call d) (pm_J M) (pm_L M) (pm_T M) d bc bs n 0 (lv_args 0 As) [] 0 0 h r h'
