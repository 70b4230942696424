/-! THE PURE MACHINE: a heap of cells by place (places, not addresses), frames of listed locals, a relation 'this method at these arguments and this heap comes to this answer and this heap'. -/
/-- a pure heap: how many cells, and what each holds; a reference in it is a place; an array's first number is a code of its type: 0 int, 1 long, 2 + c references to class c -/
abbrev pm_H : Type := Nat × (Nat → va_E)
/-- what a call comes to: returned (with a value or none), or thrown (its kind) -/
abbrev pm_V : Type := Option Value ⊕ Nat
/-- an instruction, two numbers (target; class and slot; method and number of arguments), a constant -/
abbrev pm_I : Type := Instr × Nat × Nat × Int32
def pm_get : List (Nat × Value) → Nat → Option Value
  | [], _ => none
  | (j, v) :: l, i => if j = i then some v else pm_get l i
def pm_put (lv : List (Nat × Value)) (i : Nat) (v : Value) : List (Nat × Value) := (i, v) :: lv.filter (fun q => !(q.1 == i) && !(q.1 + 1 == i && q.2.category == 2))
def pm_put2 (lv : List (Nat × Value)) (i : Nat) (v : Value) : List (Nat × Value) := (i, v) :: lv.filter (fun q => !(q.1 == i) && (!(q.1 == i + 1) && !(q.1 + 1 == i && q.2.category == 2)))
def pm_cmp (k : Jvm.ClassFile.Cond) (x y : Int32) : Prop := match k with
  | .eq => x = y
  | .ne => ¬ x = y
  | .lt => x < y
  | .ge => y ≤ x
  | .gt => y < x
  | .le => x ≤ y
def pm_cat (st : List Value) : Nat := (st.map fun v => v.category).sum
/-- a load: which local, what kind of value it must be, how long the instruction is -/
def pm_ld (lv : List (Nat × Value)) (st : List Value) (i : Nat) (ok : Value → Bool) (pc : Nat) : Option (Nat × List (Nat × Value) × List Value) := match pm_get lv i with
  | some v => if ok v = true then some (pc, lv, v :: st) else none
  | none => none
def pm_isI : Value → Bool
  | .int _ => true
  | _ => false
def pm_isL : Value → Bool
  | .long _ => true
  | _ => false
def pm_isR : Value → Bool
  | .ref _ => true
  | .null => true
  | _ => false
def pm_sto (nL : Nat) (lv : List (Nat × Value)) (st : List Value) (i : Nat) (ok : Value → Bool) (pc : Nat) : Option (Nat × List (Nat × Value) × List Value) := match st with
  | v :: t => if ok v = true ∧ i < nL then some (pc, pm_put lv i v, t) else none
  | [] => none
def pm_sto2 (nL : Nat) (lv : List (Nat × Value)) (st : List Value) (i : Nat) (ok : Value → Bool) (pc : Nat) : Option (Nat × List (Nat × Value) × List Value) := match st with
  | v :: t => if ok v = true ∧ i + 1 < nL then some (pc, pm_put2 lv i v, t) else none
  | [] => none
/-- the instructions that touch neither heap nor calls and don't branch -/
def pm_s (nL : Nat) (I : pm_I) (pc : Nat) (lv : List (Nat × Value)) (st : List Value) : Option (Nat × List (Nat × Value) × List Value) := match I with
  | (ins, r1, _, kz) => match ins with
    | .iconst _ => some (pc + 1, lv, .int kz :: st)
    | .bipush _ => some (pc + 2, lv, .int kz :: st)
    | .sipush _ => some (pc + 3, lv, .int kz :: st)
    | .lconst _ => some (pc + 1, lv, .long (lN r1) :: st)
    | .ldc2_w _ => some (pc + 3, lv, .long (lN r1) :: st)
    | .aconst_null => some (pc + 1, lv, .null :: st)
    | .iload i => pm_ld lv st i pm_isI (pc + 2)
    | .iload_n k => pm_ld lv st k.val pm_isI (pc + 1)
    | .lload i => pm_ld lv st i pm_isL (pc + 2)
    | .lload_n k => pm_ld lv st k.val pm_isL (pc + 1)
    | .aload i => pm_ld lv st i pm_isR (pc + 2)
    | .aload_n k => pm_ld lv st k.val pm_isR (pc + 1)
    | .istore i => pm_sto nL lv st i pm_isI (pc + 2)
    | .istore_n k => pm_sto nL lv st k.val pm_isI (pc + 1)
    | .astore i => pm_sto nL lv st i pm_isR (pc + 2)
    | .astore_n k => pm_sto nL lv st k.val pm_isR (pc + 1)
    | .lstore i => pm_sto2 nL lv st i pm_isL (pc + 2)
    | .lstore_n k => pm_sto2 nL lv st k.val pm_isL (pc + 1)
    | .iinc i _ => match pm_get lv i with
      | some (.int x) => if i < nL then some (pc + 3, pm_put lv i (.int (x + kz)), st) else none
      | _ => none
    | .iadd => match st with
      | .int y :: .int x :: t => some (pc + 1, lv, .int (x + y) :: t)
      | _ => none
    | .isub => match st with
      | .int y :: .int x :: t => some (pc + 1, lv, .int (x - y) :: t)
      | _ => none
    | .imul => match st with
      | .int y :: .int x :: t => some (pc + 1, lv, .int (x * y) :: t)
      | _ => none
    | .iand => match st with
      | .int y :: .int x :: t => some (pc + 1, lv, .int (x &&& y) :: t)
      | _ => none
    | .ior => match st with
      | .int y :: .int x :: t => some (pc + 1, lv, .int (x ||| y) :: t)
      | _ => none
    | .ixor => match st with
      | .int y :: .int x :: t => some (pc + 1, lv, .int (x ^^^ y) :: t)
      | _ => none
    | .ishl => match st with
      | .int y :: .int x :: t => some (pc + 1, lv, .int (x <<< (y &&& 31)) :: t)
      | _ => none
    | .ishr => match st with
      | .int y :: .int x :: t => some (pc + 1, lv, .int (x >>> (y &&& 31)) :: t)
      | _ => none
    | .iushr => match st with
      | .int y :: .int x :: t => some (pc + 1, lv, .int ((x.toUInt32 >>> (y.toUInt32 &&& Int32.toUInt32 31)).toInt32) :: t)
      | _ => none
    | .ladd => match st with
      | .long y :: .long x :: t => some (pc + 1, lv, .long (x + y) :: t)
      | _ => none
    | .lmul => match st with
      | .long y :: .long x :: t => some (pc + 1, lv, .long (x * y) :: t)
      | _ => none
    | .land => match st with
      | .long y :: .long x :: t => some (pc + 1, lv, .long (x &&& y) :: t)
      | _ => none
    | .lor => match st with
      | .long y :: .long x :: t => some (pc + 1, lv, .long (x ||| y) :: t)
      | _ => none
    | .lshl => match st with
      | .int y :: .long x :: t => some (pc + 1, lv, .long (x <<< (y.toInt64 &&& 63)) :: t)
      | _ => none
    | .lshr => match st with
      | .int y :: .long x :: t => some (pc + 1, lv, .long (x >>> (y.toInt64 &&& 63)) :: t)
      | _ => none
    | .i2l => match st with
      | .int x :: t => some (pc + 1, lv, .long x.toInt64 :: t)
      | _ => none
    | .l2i => match st with
      | .long x :: t => some (pc + 1, lv, .int x.toInt32 :: t)
      | _ => none
    | .dup => match st with
      | v :: t => if v.category = 1 then some (pc + 1, lv, v :: v :: t) else none
      | _ => none
    | .pop => match st with
      | v :: t => if v.category = 1 then some (pc + 1, lv, t) else none
      | _ => none
    | .dup2 => match st with
      | v :: w :: t => if v.category = 1 ∧ w.category = 1 then some (pc + 1, lv, v :: w :: v :: w :: t) else none
      | _ => none
    | .lcmp => match st with
      | .long y :: .long x :: t => some (pc + 1, lv, .int (lg_cmp x y) :: t)
      | _ => none
    | .idiv => match st with
      | .int y :: .int x :: t => if y = 0 then none else some (pc + 1, lv, .int (x / y) :: t)
      | _ => none
    | .irem => match st with
      | .int y :: .int x :: t => if y = 0 then none else some (pc + 1, lv, .int (x - x / y * y) :: t)
      | _ => none
    | .goto _ => some (r1, lv, st)
    | _ => none
/-- what a field of this type takes -/
def pm_fit : FieldType → Value → Bool
  | .int, .int _ => true
  | .boolean, .int x => decide (x = 0 ∨ x = 1)
  | .object _, .ref _ => true
  | .object _, .null => true
  | .array _, .ref _ => true
  | .array _, .null => true
  | _, _ => false
/-- what a method of this return type may answer, of ints -/
def pm_rfit : Option FieldType → Value → Bool
  | some .int, .int _ => true
  | some .boolean, .int x => decide (x = 0 ∨ x = 1)
  | some .long, .long _ => true
  | some (.object _), .ref _ => true
  | some (.object _), .null => true
  | _, _ => false
/-- what is known of a class: its fields' types and what they hold at first -/
def pm_df : FieldType → Value
  | .int => .int 0
  | .boolean => .int 0
  | .long => .long 0
  | _ => .null
