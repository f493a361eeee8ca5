/-! WHAT A ROW OF THE TABLES MUST MEET: the code decodes so, and the tables' words say what it links. Decided by program, method by method. -/
def xTB : List Cond := lw_tbl.filter goodWord
theorem xTB_good : ∀ w ∈ xTB, (w.onTables && w.keeps) = true ∨ ∃ ty, w = .arrayClass ty := fun w h => good_of_word (List.mem_filter.mp h).2
/-- the words that stand in the lists by their places -/
def xisnest (w : Cond) : Bool := match w with
  | .fieldLinkNest .. => true
  | .methodLinkNest .. => true
  | _ => false
def xnest : List Cond := lw_tbl.filter xisnest
def xhost : String := "FourPots"
def xaname (k : Nat) : String := if k = 4 then RX1 else if k = 5 then RX3 else RX5
abbrev xCE : Type := Nat × Nat × Nat × Nat × Int
/-- a list of places holds the words of a list -/
theorem xplace {α : Type} {t : List α} {f : α → Nat} {g : α → Cond} (hp : t.map (fun c => lw_tbl[f c]?) = t.map (fun c => some (g c))) : ∀ c ∈ t, g c ∈ lw_tbl := by
  intro c hc
  have h : lw_tbl[f c]? = some (g c) := List.map_inj_left.mp hp c hc
  exact List.mem_of_getElem? h
def xwdF (own : String) (c : xCE) : Cond := match vwCl[c.2.2.1]? with
  | some (C, T, _) => if c.2.2.2.2 = 0 then .fieldLink own c.1 C (T c.2.2.2.1).2.1 (T c.2.2.2.1).2.2.1 else .fieldLinkNest own c.1 C (T c.2.2.2.1).2.1 (T c.2.2.2.1).2.2.1 xhost
  | none => .initialized own
def xsdF (c : xCE) : Bool := match vwCl[c.2.2.1]? with
  | some (C, T, N) => decide (c.2.2.2.1 < N) && decide ((T c.2.2.2.1).1 = C)
  | none => false
def xyM (m : Nat) : MethodName := if m = 9999 then Lib.objectInit else if m = 9998 then yJ0_length_8abf5 else if m = 9997 then yJ0_charAt_5068e else if m = 9996 then arraycopyName else if m = 9995 then yJ9_max_7cf53 else if m = 9994 then yJ9_min_7cf53 else match xms[m]? with
  | some t => t.2.1
  | none => Lib.objectInit
def xwdM (own : String) (c : xCE) : Cond := if c.2.2.2.2 = 0 then .methodLink own c.1 (xyM c.2.2.1) else .methodLinkNest own c.1 (xyM c.2.2.1) xhost
def xsdM (c : xCE) : Bool := decide ((parseMethodDescriptor (xyM c.2.2.1).desc).map (fun d => d.parameters.length) = some c.2.2.2.1)
def xwdC (own : String) (c : xCE) : Cond := if c.2.2.1 = 7 ∧ c.2.2.2.1 = 2 then .classLink own c.1 "[[J" else match vwCl[c.2.2.1]? with
  | some (C, _, _) => .classLink own c.1 C
  | none => .initialized own
def xsdC (c : xCE) : Bool := if c.2.2.1 = 7 ∧ c.2.2.2.1 = 2 then true else match vwCl[c.2.2.1]? with
  | some (C, _, _) => decide (c.2.2.2.1 = 0) || ((decide (c.2.2.2.1 = 4) || decide (c.2.2.2.1 = 5) || decide (c.2.2.2.1 = 6)) && decide (xaname c.2.2.2.1 = C))
  | none => false
def xwdK (own : String) (c : xCE) : Cond := if c.2.2.1 = 0 then .constant own c.1 (Int32.ofInt c.2.2.2.2) else .constantLong own c.1 (Int64.ofInt c.2.2.2.2)
/-- a method's own words -/
def xwdS (z : xMI × xCE) : Cond := if z.2.2.2.1 = 1 then .static z.1.2.1 else .instanceMethod z.1.2.1
def xwdV (z : xMI × xCE) : Cond := if z.2.2.2.1 = 1 ∨ z.1.2.1.name = "<init>" then .initialized z.1.2.1.cls else .selects z.1.2.1.cls z.1.2.1 z.1.2.1
def xplV (z : xMI × xCE) : Nat := if z.2.2.2.1 = 1 ∨ z.1.2.1.name = "<init>" then z.2.2.1 else z.2.2.2.2.2.toNat
def xsdQ (t : xMI) : Bool := plainName t.2.1.cls && decide (t.2.1.cls = t.1) && decide (t.2.1.cls ≠ "java/lang/invoke/MethodHandle" ∧ t.2.1.cls ≠ "java/lang/invoke/VarHandle") && decide (t.2.2.2.1 ≤ 45)
def xlen (i : Instr) : Nat := match i with
  | .bipush _ => 2
  | .sipush _ => 3
  | .ldc _ => 2
  | .ldc_w _ => 3
  | .ldc2_w _ => 3
  | .iload _ => 2
  | .lload _ => 2
  | .aload _ => 2
  | .istore _ => 2
  | .lstore _ => 2
  | .astore _ => 2
  | .iinc _ _ => 3
  | .ifCond _ _ => 3
  | .if_icmp _ _ => 3
  | .goto _ => 3
  | .getfield _ => 3
  | .putfield _ => 3
  | .newarray _ => 2
  | .anewarray _ => 3
  | .multianewarray _ _ => 4
  | .new _ => 3
  | .invokespecial _ => 3
  | .invokevirtual _ => 3
  | .invokestatic _ => 3
  | _ => 1
def xatype (at' : ArrayType) : Nat := match at' with
  | .int => 0
  | .long => 1
  | .boolean => 2
  | .byte => 3
  | _ => 99
def xpool (t : xCP) (i a1 a2 : Nat) (z : Int) : Bool := t.any (fun c => c.1 == i && c.2.2.1 == a1 && c.2.2.2.1 == a2 && decide (c.2.2.2.2 = z))
/-- a method is what it is called as -/
def xname (m : Nat) (ini : Bool) (st : Bool) : Bool := match xms[m]?, xmh[m]? with
  | some t, some c => (decide (t.2.1.name = "<init>") == ini) && (decide (c.2.2.1 = 1) == st) && (if ini = true then decide (t.2.2.2.2.1 = none) else true)
  | _, _ => false
def xokE2 (cn : Nat) (q : xMI) (pc : Nat) (e : xE) : Bool := match e.1 with
    | .bipush n => decide ((Int8.ofInt n).toInt32 = Int32.ofInt n)
    | .sipush n => decide ((Int16.ofInt n).toInt32 = Int32.ofInt n)
    | .ldc i => if e.2.2.1 = 0 then xpool (xcpK cn) i 0 0 e.2.2.2.2 else (decide (cn = 9) && decide (i = 35) && decide (e.2.2.2.1 = 0)) || (decide (cn = 12) && decide (i = 196) && decide (e.2.2.2.1 = 1))
    | .ldc_w i => decide (e.2.2.1 = 0) && xpool (xcpK cn) i 0 0 e.2.2.2.2
    | .ldc2_w i => xpool (xcpK cn) i 1 0 e.2.2.2.2
    | .istore_n k => decide ((k : Nat) < q.2.2.2.1)
    | .istore k => decide (k < q.2.2.2.1)
    | .astore_n k => decide ((k : Nat) < q.2.2.2.1)
    | .astore k => decide (k < q.2.2.2.1)
    | .lstore_n k => decide ((k : Nat) + 1 < q.2.2.2.1)
    | .lstore k => decide (k + 1 < q.2.2.2.1)
    | .iinc k _ => decide (k < q.2.2.2.1)
    | .ifCond _ off => decide ((pc : Int) + off = (e.2.2.1 : Int))
    | .if_icmp _ off => decide ((pc : Int) + off = (e.2.2.1 : Int))
    | .goto off => decide ((pc : Int) + off = (e.2.2.1 : Int))
    | .getfield i => xpool (xcpF cn) i e.2.2.1 e.2.2.2.1 e.2.2.2.2
    | .putfield i => xpool (xcpF cn) i e.2.2.1 e.2.2.2.1 e.2.2.2.2 && (match vwCl[e.2.2.1]? with
      | some (_, T, _) => if (T e.2.2.2.1).2.2.2 = true then decide (e.2.2.2.2 = 0) && decide (q.2.1.name = "<init>") && decide (e.2.2.1 = cn) else true
      | none => false)
    | .newarray at' => decide (xatype at' = e.2.2.1) && decide (e.2.2.1 < 4)
    | .anewarray i => (decide (e.2.2.1 = 4) || decide (e.2.2.1 = 5) || decide (e.2.2.1 = 6)) && (xcpC cn).any (fun c => c.1 == i && c.2.2.2.1 == e.2.2.1)
    | .multianewarray i n => decide (n = 2) && (xcpC cn).any (fun c => c.1 == i && c.2.2.1 == 7 && c.2.2.2.1 == 2)
    | .new i => (xcpC cn).any (fun c => c.1 == i && c.2.2.1 == e.2.2.1 && !(c.2.2.2.1 == 2))
    | .invokespecial i => xpool (xcpM cn) i e.2.2.1 e.2.2.2.1 e.2.2.2.2 && (if e.2.2.1 = 9999 then decide (e.2.2.2.2 = 0) else xname e.2.2.1 true false)
    | .invokevirtual i => xpool (xcpM cn) i e.2.2.1 e.2.2.2.1 e.2.2.2.2 && (if e.2.2.1 = 9998 ∨ e.2.2.1 = 9997 then decide (e.2.2.2.2 = 0) else xname e.2.2.1 false false)
    | .invokestatic i => xpool (xcpM cn) i e.2.2.1 e.2.2.2.1 e.2.2.2.2 && (if e.2.2.1 = 9996 ∨ e.2.2.1 = 9995 ∨ e.2.2.1 = 9994 then decide (e.2.2.2.2 = 0) else xname e.2.2.1 false true)
    | .ireturn => decide (q.2.2.2.2.1 = some .int ∧ e.2.2.1 = 0) || decide (q.2.2.2.2.1 = some .boolean ∧ e.2.2.1 = 1)
    | .lreturn => decide (q.2.2.2.2.1 = some .long)
    | .areturn => decide (q.2.2.2.2.1 = some (.object RX3))
    | .return_ => decide (q.2.2.2.2.1 = none)
    | _ => true
def xokE (cn : Nat) (q : xMI) (pc : Nat) (e : xE) : Bool := match e.1 with
  | .tableswitch dflt _ _ offs => decide (decode q.2.2.1 pc = .ok (e.1, e.2.1 - pc)) && decide (0 ≤ (pc : Int) + dflt) && offs.toList.all (fun o => decide (0 ≤ (pc : Int) + o))
  | .lookupswitch dflt ps => decide (decode q.2.2.1 pc = .ok (e.1, e.2.1 - pc)) && decide (0 ≤ (pc : Int) + dflt) && ps.toList.all (fun o => decide (0 ≤ (pc : Int) + o.2)) && (ps.toList.zip (ps.toList.drop 1)).all (fun (a, next) => a.1 < next.1)
  | _ => decide (decode q.2.2.1 pc = .ok (e.1, xlen e.1)) && decide (e.2.1 = pc + xlen e.1) && xokE2 cn q pc e
def xokQ (cn : Nat) (q : xMI) : Bool := decide (q.1 = xown cn) && q.2.2.2.2.2.all (fun z => xokE cn q z.1 z.2)
