/-! WHAT THE TABLES OWE TO THE CLAIM'S WORDS -/
/-- the good words of the claim's tables -/
def pm_gw : List Cond := lw_tbl.filter goodWord
def pm_cw (M : Nat) : Cond := .code (pm_Y M) (pm_B M) (pm_L M) (pm_T M)
def pm_ws (M : Nat) : List Cond := pm_cw M :: pm_gw
def pm_vw (e : Nat × Nat × Nat) : List Cond := [.methodLink (pm_R e.1) e.2.1 (pm_Y e.2.2), .instanceMethod (pm_Y e.2.2), .selects (pm_R (pm_O e.2.2)) (pm_Y e.2.2) (pm_Y e.2.2), .initialized (pm_R (pm_O e.2.2))]
def pm_sw (e : Nat × Nat × Nat) : List Cond := [.methodLink (pm_R e.1) e.2.1 (pm_Y e.2.2), .static (pm_Y e.2.2), .initialized (pm_R (pm_O e.2.2))]
def pm_iw (e : Nat × Nat × Nat) : List Cond := [.methodLink (pm_R e.1) e.2.1 (pm_Y e.2.2), .instanceMethod (pm_Y e.2.2), .initialized (pm_R (pm_O e.2.2))]
def pm_nsw (e : Nat × Nat × Nat) : List Cond := [.static (pm_Y e.2.2), .initialized (pm_R (pm_O e.2.2))]
def pm_niw (e : Nat × Nat × Nat) : List Cond := [.instanceMethod (pm_Y e.2.2), .initialized (pm_R (pm_O e.2.2))]
def pm_fw (e : Nat × Nat × Nat × Nat × Nat) : Cond := .fieldLink (pm_R e.1) e.2.1 (pm_F e.2.2.1 e.2.2.2.1).1 (pm_F e.2.2.1 e.2.2.2.1).2.1 (pm_F e.2.2.1 e.2.2.2.1).2.2.1
def pm_fnw (e : Nat × Nat × Nat × Nat × Nat) : Cond := .fieldLinkNest (pm_R e.1) e.2.1 (pm_F e.2.2.1 e.2.2.2.1).1 (pm_F e.2.2.1 e.2.2.2.1).2.1 (pm_F e.2.2.1 e.2.2.2.1).2.2.1 pm_host
def pm_mnw (e : Nat × Nat × Nat) : Cond := .methodLinkNest (pm_R e.1) e.2.1 (pm_Y e.2.2) pm_host
def pm_cnw (e : Nat × Nat × Nat) : List Cond := [.classLink (pm_R e.1) e.2.1 (pm_R e.2.2), .instantiable (pm_R e.2.2) (pm_N e.2.2), .initialized (pm_R e.2.2)]
def pm_qw (e : Nat × Nat × Nat) : Cond := .classLink (pm_R e.1) e.2.1 (pm_R e.2.2)
def pm_kw (e : Nat × Nat × Nat) : Cond := .constantLong (pm_R e.1) e.2.1 (lN e.2.2)
def pm_ow (e : Nat × Nat) : Cond := .methodLink (pm_R e.1) e.2 objectInit
def pm_aw (e : Nat × Nat) : Cond := .methodLink (pm_R e.1) e.2 arraycopyName
/-- the words that only the tables decide: links between nest mates -/
def pm_nw : List Cond := (pm_fl.filter (fun e => e.2.2.2.2 == 1)).map pm_fnw ++ (pm_nsl ++ pm_nil).map pm_mnw
def pm_len (i : Instr) (r : Nat) : Nat := match i with
  | .bipush _ => 2
  | .sipush _ => 3
  | .ldc2_w _ => 3
  | .ldc _ => 2
  | .iload _ => 2
  | .lload _ => 2
  | .aload _ => 2
  | .istore _ => 2
  | .lstore _ => 2
  | .astore _ => 2
  | .iinc _ _ => 3
  | .goto _ => 3
  | .if_icmp _ _ => 3
  | .ifCond _ _ => 3
  | .ifnull _ => 3
  | .ifnonnull _ => 3
  | .getfield _ => 3
  | .putfield _ => 3
  | .invokevirtual _ => 3
  | .invokespecial _ => 3
  | .invokestatic _ => 3
  | .new _ => 3
  | .anewarray _ => 3
  | .newarray _ => 2
  | .tableswitch _ _ _ _ => r
  | .lookupswitch _ _ => r
  | _ => 1
/-- what an instruction's numbers owe to it: o its class, ini whether it stands in a constructor -/
def pm_ok (o : Nat) (ini : Bool) (J : Nat → pm_I) (pc : Nat) : Bool := match (J pc).1 with
  | .iconst n => decide (Int32.ofInt n = (J pc).2.2.2)
  | .bipush n => decide ((Int8.ofInt n).toInt32 = (J pc).2.2.2)
  | .sipush n => decide ((Int16.ofInt n).toInt32 = (J pc).2.2.2)
  | .lconst n => decide (n.val = (J pc).2.1)
  | .ldc2_w i => pm_kl.contains (o, i, (J pc).2.1)
  | .iinc _ n => decide (Int32.ofInt n = (J pc).2.2.2)
  | .goto f => decide ((pc : Int) + f = ((J pc).2.1 : Int))
  | .if_icmp _ f => decide ((pc : Int) + f = ((J pc).2.1 : Int))
  | .ifCond _ f => decide ((pc : Int) + f = ((J pc).2.1 : Int))
  | .ifnull f => decide ((pc : Int) + f = ((J pc).2.1 : Int))
  | .ifnonnull f => decide ((pc : Int) + f = ((J pc).2.1 : Int))
  | .getfield i => pm_fl.contains (o, i, (J pc).2.1, (J pc).2.2.1, 0) || pm_fl.contains (o, i, (J pc).2.1, (J pc).2.2.1, 1)
  | .putfield i => (pm_fl.contains (o, i, (J pc).2.1, (J pc).2.2.1, 0) && (!(pm_F (J pc).2.1 (J pc).2.2.1).2.2.2 || (ini && decide ((pm_F (J pc).2.1 (J pc).2.2.1).1 = pm_R o)))) || (pm_fl.contains (o, i, (J pc).2.1, (J pc).2.2.1, 1) && !(pm_F (J pc).2.1 (J pc).2.2.1).2.2.2)
  | .newarray a => decide (a = .int ∨ a = .long)
  | .anewarray i => pm_ql.contains (o, i, (J pc).2.1) && pm_qa.contains (J pc).2.1
  | .new i => (pm_cl.contains (o, i, (J pc).2.1) && decide ((J pc).2.2.1 = pm_N (J pc).2.1) && decide ((J pc).2.1 < pm_nC)) || (match (J (pc + 3)).1, (J (pc + 4)).1, (J (pc + 6)).1, (J (pc + 9)).1 with
    | .dup, .ldc x, .invokespecial y, .athrow => decide (100 ≤ (J pc).2.1) && pm_xl.contains (o, i, x, y, (J pc).2.1 - 100)
    | _, _, _, _ => false)
  | .invokespecial i => (decide ((J pc).2.1 = 1000) && pm_ol.contains (o, i)) || (decide (1001 < (J pc).2.1)) || (decide ((J pc).2.1 < pm_nM) && (pm_il.contains (o, i, (J pc).2.1) || pm_nil.contains (o, i, (J pc).2.1)))
  | .invokevirtual i => pm_vl.contains (o, i, (J pc).2.1)
  | .invokestatic i => (decide ((J pc).2.1 = 1001) && pm_al.contains (o, i)) || (decide ((J pc).2.1 < pm_nM) && (pm_sl.contains (o, i, (J pc).2.1) || pm_nsl.contains (o, i, (J pc).2.1)))
  | _ => true
def pm_chk (o : Nat) (ini : Bool) (B : ByteArray) (J : Nat → pm_I) (pc : Nat) : Bool := decide ((J pc).1 = .nop) || (decide (decode B pc = .ok ((J pc).1, pm_len (J pc).1 (J pc).2.2.1)) && pm_ok o ini J pc)
/-- all that a method's table owes -/
def pm_good (M : Nat) : Prop := (∀ pc, (pm_J M pc).1 ≠ .nop → pm_chk (pm_O M) (decide ((pm_Y M).name = "<init>")) (pm_B M) (pm_J M) pc = true) ∧ pm_L M ≤ 13 ∧ plainName (pm_Y M).cls = true ∧ (pm_Y M).cls = pm_R (pm_O M) ∧ pm_O M < pm_nC
