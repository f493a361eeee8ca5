/-! THE SMALL MACHINE: what a method of the tables does, as a function on numbered cells (handles), a step at a time; calls by what they come to. -/
/-- a cell: (kind, contents) of an array, (class, fields) of an object. Kinds: 0 int, 1 long, 2 boolean, 3 byte, 4 Hand, 5 Menu, 6 Plan, 7 long[], 8 the script -/
abbrev xA : Type := (Nat × vp_A) ⊕ (Nat × List Value)
/-- the heap: cells made, slots made, the cells -/
abbrev xH : Type := Nat × Nat × (Nat → xA)
abbrev xL : Type := List (Nat × Value)
/-- pc, locals, stack, heap -/
abbrev xS : Type := Nat × xL × List Value × xH
abbrev xR : Type := Option Value × xH
def xst1 (lv : xL) (i : Nat) (v : Value) : xL := (i, v) :: lv.filter (fun q => !(q.1 == i) && !(q.1 + 1 == i && q.2.category == 2))
def xst2 (lv : xL) (i : Nat) (v : Value) : xL := (i, v) :: lv.filter (fun q => !(q.1 == i) && (!(q.1 == i + 1) && !(q.1 + 1 == i && q.2.category == 2)))
def xput (h : xH) (a : Nat) (e : xA) : xH := (h.1, h.2.1, va_up h.2.2 a e)
def xadd (h : xH) (n : Nat) (e : xA) : xH := (h.1 + 1, h.2.1 + n, va_up h.2.2 h.1 e)
def xin (i : Int32) (n : Nat) : Bool := !(decide (i < 0) || decide (n ≤ i.toNatClampNeg))
/-- the lengths and bytes of the two text constants -/
def xtx0 : String := "dish work size keeps burns from poured once pair pots make pour over wash trust show when stands trusted full loop end stop "
def xtx1 : String := " dish pair pots work size keeps burns from poured once make pour over wash trust show when stands trusted full loop end stop "
def xbytes (s : String) : List Int32 := s.toList.map (fun c => Int32.ofNat c.toNat)
def xby (i : Nat) : List Int32 := if i = 0 then xbytes xtx0 else xbytes xtx1
def xldI (e : xE) (i : Nat) (lv : xL) (st : List Value) (h : xH) : Option (xS ⊕ xR) := match lv.lookup i with
  | some (.int x) => some (.inl (e.2.1, lv, .int x :: st, h))
  | _ => none
def xldL (e : xE) (i : Nat) (lv : xL) (st : List Value) (h : xH) : Option (xS ⊕ xR) := match lv.lookup i with
  | some (.long x) => some (.inl (e.2.1, lv, .long x :: st, h))
  | _ => none
def xldA (e : xE) (i : Nat) (lv : xL) (st : List Value) (h : xH) : Option (xS ⊕ xR) := match lv.lookup i with
  | some (.ref x) => some (.inl (e.2.1, lv, .ref x :: st, h))
  | _ => none
def xstI (e : xE) (i : Nat) (lv : xL) (st : List Value) (h : xH) : Option (xS ⊕ xR) := match st with
  | .int x :: r => some (.inl (e.2.1, xst1 lv i (.int x), r, h))
  | _ => none
def xstA (e : xE) (i : Nat) (lv : xL) (st : List Value) (h : xH) : Option (xS ⊕ xR) := match st with
  | .ref x :: r => some (.inl (e.2.1, xst1 lv i (.ref x), r, h))
  | _ => none
def xstL (e : xE) (i : Nat) (lv : xL) (st : List Value) (h : xH) : Option (xS ⊕ xR) := match st with
  | .long x :: r => some (.inl (e.2.1, xst2 lv i (.long x), r, h))
  | _ => none
def xinc (e : xE) (i : Nat) (n : Int) (lv : xL) (st : List Value) (h : xH) : Option (xS ⊕ xR) := match lv.lookup i with
  | some (.int x) => some (.inl (e.2.1, xst1 lv i (.int (x + Int32.ofInt n)), st, h))
  | _ => none
def xb2 (e : xE) (f : Int32 → Int32 → Int32) (lv : xL) (st : List Value) (h : xH) : Option (xS ⊕ xR) := match st with
  | .int y :: .int x :: r => some (.inl (e.2.1, lv, .int (f x y) :: r, h))
  | _ => none
def xb2z (e : xE) (f : Int32 → Int32 → Int32) (lv : xL) (st : List Value) (h : xH) : Option (xS ⊕ xR) := match st with
  | .int y :: .int x :: r => if y = 0 then none else some (.inl (e.2.1, lv, .int (f x y) :: r, h))
  | _ => none
def xl2 (e : xE) (f : Int64 → Int64 → Int64) (lv : xL) (st : List Value) (h : xH) : Option (xS ⊕ xR) := match st with
  | .long y :: .long x :: r => some (.inl (e.2.1, lv, .long (f x y) :: r, h))
  | _ => none
def xl2z (e : xE) (f : Int64 → Int64 → Int64) (lv : xL) (st : List Value) (h : xH) : Option (xS ⊕ xR) := match st with
  | .long y :: .long x :: r => if y = 0 then none else some (.inl (e.2.1, lv, .long (f x y) :: r, h))
  | _ => none
def xlsh (e : xE) (lv : xL) (st : List Value) (h : xH) : Option (xS ⊕ xR) := match st with
  | .int y :: .long x :: r => some (.inl (e.2.1, lv, .long (x <<< (y.toInt64 &&& 63)) :: r, h))
  | _ => none
def xlcmp (e : xE) (lv : xL) (st : List Value) (h : xH) : Option (xS ⊕ xR) := match st with
  | .long y :: .long x :: r => some (.inl (e.2.1, lv, .int (lg_cmp x y) :: r, h))
  | _ => none
def xi1 (e : xE) (f : Int32 → Value) (lv : xL) (st : List Value) (h : xH) : Option (xS ⊕ xR) := match st with
  | .int x :: r => some (.inl (e.2.1, lv, f x :: r, h))
  | _ => none
def xl2i (e : xE) (lv : xL) (st : List Value) (h : xH) : Option (xS ⊕ xR) := match st with
  | .long x :: r => some (.inl (e.2.1, lv, .int x.toInt32 :: r, h))
  | _ => none
def xdup (e : xE) (lv : xL) (st : List Value) (h : xH) : Option (xS ⊕ xR) := match st with
  | v :: r => if v.category = 1 then some (.inl (e.2.1, lv, v :: v :: r, h)) else none
  | _ => none
def xdup2 (e : xE) (lv : xL) (st : List Value) (h : xH) : Option (xS ⊕ xR) := match st with
  | v :: w :: r => if v.category = 1 ∧ w.category = 1 then some (.inl (e.2.1, lv, v :: w :: v :: w :: r, h)) else none
  | _ => none
def xpop (e : xE) (lv : xL) (st : List Value) (h : xH) : Option (xS ⊕ xR) := match st with
  | v :: r => if v.category = 1 then some (.inl (e.2.1, lv, r, h)) else none
  | _ => none
def xcmp (c : Jvm.ClassFile.Cond) (x y : Int32) : Bool := match c with
  | .eq => decide (x = y)
  | .ne => decide (¬ x = y)
  | .lt => decide (x < y)
  | .ge => decide (y ≤ x)
  | .gt => decide (y < x)
  | .le => decide (x ≤ y)
def xif1 (e : xE) (c : Jvm.ClassFile.Cond) (lv : xL) (st : List Value) (h : xH) : Option (xS ⊕ xR) := match st with
  | .int x :: r => some (.inl (bif xcmp c x 0 then e.2.2.1 else e.2.1, lv, r, h))
  | _ => none
def xif2 (e : xE) (c : Jvm.ClassFile.Cond) (lv : xL) (st : List Value) (h : xH) : Option (xS ⊕ xR) := match st with
  | .int y :: .int x :: r => some (.inl (bif xcmp c x y then e.2.2.1 else e.2.1, lv, r, h))
  | _ => none
/-- the place behind a switch -/
def xsw (pc : Nat) (i : Instr) (x : Int32) : Option Nat := match i with
  | .tableswitch dflt lo hi offs => if x.toInt < lo ∨ hi < x.toInt then some ((pc : Int) + dflt).toNat else (offs[(x.toInt - lo).toNat]?).map (fun o => ((pc : Int) + o).toNat)
  | .lookupswitch dflt ps => some ((pc : Int) + Op.lookupswitch.offset ps.toList dflt x.toInt).toNat
  | _ => none
def xswi (e : xE) (pc : Nat) (lv : xL) (st : List Value) (h : xH) : Option (xS ⊕ xR) := match st with
  | .int x :: r => (xsw pc e.1 x).map (fun t => .inl (t, lv, r, h))
  | _ => none
def xldc (e : xE) (lv : xL) (st : List Value) (h : xH) : Option (xS ⊕ xR) := if e.2.2.1 = 0 then some (.inl (e.2.1, lv, .int (Int32.ofInt e.2.2.2.2) :: st, h)) else some (.inl (e.2.1, lv, .ref (1000001 + e.2.2.2.1) :: st, h))
def xget (e : xE) (lv : xL) (st : List Value) (h : xH) : Option (xS ⊕ xR) := match st with
  | .ref a :: r => match h.2.2 a with
    | .inr (ci, fs) => if ci = e.2.2.1 then (fs[e.2.2.2.1]?).map (fun v => .inl (e.2.1, lv, v :: r, h)) else none
    | _ => none
  | _ => none
/-- what a field of a kind may hold -/
def xfit (ty : FieldType) (v : Value) : Bool := fits ty v && match ty with
  | .int => true
  | .boolean => true
  | .long => true
  | .object _ => true
  | .array _ => true
  | _ => false
def xftys : List (Nat → FieldType) := [tyX0, tyX1, tyX2, tyX3, tyX4, tyX5, tyX6, tyX7, tyX8, tyX9, tyX10, tyX11, tyX12]
def xfty (ci k : Nat) : FieldType := match xftys[ci]? with
  | some f => f k
  | none => .int
def xsetf (e : xE) (lv : xL) (st : List Value) (h : xH) : Option (xS ⊕ xR) := match st with
  | v :: .ref a :: r => match h.2.2 a with
    | .inr (ci, fs) => if ci = e.2.2.1 ∧ e.2.2.2.1 < fs.length ∧ xfit (xfty e.2.2.1 e.2.2.2.1) v = true then some (.inl (e.2.1, lv, r, xput h a (.inr (ci, fs.set e.2.2.2.1 v)))) else none
    | _ => none
  | _ => none
def xiald (e : xE) (lv : xL) (st : List Value) (h : xH) : Option (xS ⊕ xR) := match st with
  | .int i :: .ref a :: r => match h.2.2 a with
    | .inl (k, n, .inl f) => if (k = 0 ∨ k = 8) ∧ xin i n = true then some (.inl (e.2.1, lv, .int (f i.toNatClampNeg) :: r, h)) else none
    | _ => none
  | _ => none
def xbald (e : xE) (lv : xL) (st : List Value) (h : xH) : Option (xS ⊕ xR) := match st with
  | .int i :: .ref a :: r => match h.2.2 a with
    | .inl (k, n, .inl f) => if (k = 2 ∨ k = 3) ∧ xin i n = true then some (.inl (e.2.1, lv, .int (f i.toNatClampNeg) :: r, h)) else none
    | _ => none
  | _ => none
def xlald (e : xE) (lv : xL) (st : List Value) (h : xH) : Option (xS ⊕ xR) := match st with
  | .int i :: .ref a :: r => match h.2.2 a with
    | .inl (k, n, .inr (.inl f)) => if k = 1 ∧ xin i n = true then some (.inl (e.2.1, lv, .long (f i.toNatClampNeg) :: r, h)) else none
    | _ => none
  | _ => none
def xaald (e : xE) (lv : xL) (st : List Value) (h : xH) : Option (xS ⊕ xR) := match st with
  | .int i :: .ref a :: r => match h.2.2 a with
    | .inl (k, n, .inr (.inr (.inr (.inr f)))) => if (k = 4 ∨ k = 5 ∨ k = 6 ∨ k = 7) ∧ xin i n = true then (f i.toNatClampNeg).map (fun q => .inl (e.2.1, lv, .ref q :: r, h)) else none
    | _ => none
  | _ => none
def xiast (e : xE) (lv : xL) (st : List Value) (h : xH) : Option (xS ⊕ xR) := match st with
  | .int x :: .int i :: .ref a :: r => match h.2.2 a with
    | .inl (k, n, .inl f) => if k = 0 ∧ xin i n = true then some (.inl (e.2.1, lv, r, xput h a (.inl (k, n, .inl (upd f i.toNatClampNeg x))))) else none
    | _ => none
  | _ => none
def xbast (e : xE) (lv : xL) (st : List Value) (h : xH) : Option (xS ⊕ xR) := match st with
  | .int x :: .int i :: .ref a :: r => match h.2.2 a with
    | .inl (k, n, .inl f) => if k = 2 ∧ xin i n = true then some (.inl (e.2.1, lv, r, xput h a (.inl (k, n, .inl (upd f i.toNatClampNeg (x &&& 1))))))
      else if k = 3 ∧ xin i n = true then some (.inl (e.2.1, lv, r, xput h a (.inl (k, n, .inl (upd f i.toNatClampNeg x.toInt8.toInt32))))) else none
    | _ => none
  | _ => none
def xlast (e : xE) (lv : xL) (st : List Value) (h : xH) : Option (xS ⊕ xR) := match st with
  | .long x :: .int i :: .ref a :: r => match h.2.2 a with
    | .inl (k, n, .inr (.inl f)) => if k = 1 ∧ xin i n = true then some (.inl (e.2.1, lv, r, xput h a (.inl (k, n, .inr (.inl (vp_updL f i.toNatClampNeg x)))))) else none
    | _ => none
  | _ => none
def xokind (k : Nat) : Nat := if k = 4 then 1 else if k = 5 then 3 else 5
def xaast (e : xE) (lv : xL) (st : List Value) (h : xH) : Option (xS ⊕ xR) := match st with
  | .ref v :: .int i :: .ref a :: r => match h.2.2 a, h.2.2 v with
    | .inl (k, n, .inr (.inr (.inr (.inr f)))), .inr (ci, _) => if (k = 4 ∨ k = 5 ∨ k = 6) ∧ ci = xokind k ∧ xin i n = true then some (.inl (e.2.1, lv, r, xput h a (.inl (k, n, .inr (.inr (.inr (.inr (va_up f i.toNatClampNeg (some v))))))))) else none
    | _, _ => none
  | _ => none
def xalen (e : xE) (lv : xL) (st : List Value) (h : xH) : Option (xS ⊕ xR) := match st with
  | .ref a :: r => match h.2.2 a with
    | .inl (_, n, _) => some (.inl (e.2.1, lv, .int (Int32.ofNat n) :: r, h))
    | _ => none
  | _ => none
def xnar (e : xE) (lv : xL) (st : List Value) (h : xH) : Option (xS ⊕ xR) := match st with
  | .int n :: r => if n < 0 ∨ 60000 < n.toNatClampNeg then none else
      if e.2.2.1 = 1 then some (.inl (e.2.1, lv, .ref h.1 :: r, xadd h n.toNatClampNeg (.inl (e.2.2.1, n.toNatClampNeg, .inr (.inl (fun _ => 0))))))
      else some (.inl (e.2.1, lv, .ref h.1 :: r, xadd h n.toNatClampNeg (.inl (e.2.2.1, n.toNatClampNeg, .inl (fun _ => 0)))))
  | _ => none
def xanar (e : xE) (lv : xL) (st : List Value) (h : xH) : Option (xS ⊕ xR) := match st with
  | .int n :: r => if n < 0 ∨ 60000 < n.toNatClampNeg then none else
      some (.inl (e.2.1, lv, .ref h.1 :: r, xadd h n.toNatClampNeg (.inl (e.2.2.1, n.toNatClampNeg, .inr (.inr (.inr (.inr (fun _ => none))))))))
  | _ => none
/-- new long[4][60], the only one -/
def xmna (e : xE) (lv : xL) (st : List Value) (h : xH) : Option (xS ⊕ xR) := match st with
  | .int k :: .int n :: r => if n = 4 ∧ k = 60 then
      some (.inl (e.2.1, lv, .ref h.1 :: r, (h.1 + 5, h.2.1 + 244, fun a => if a = h.1 then .inl (7, 4, .inr (.inr (.inr (.inr (fun i => if i < 4 then some (h.1 + 1 + i) else none))))) else if h.1 < a ∧ a < h.1 + 5 then .inl (1, 60, .inr (.inl (fun _ => 0))) else h.2.2 a))) else none
  | _ => none
def xdefs (ci : Nat) : List Value := match vwCl[ci]? with
  | some (_, _, n) => (List.range n).map (fun k => defaultValue (xfty ci k))
  | none => []
def xnewo (e : xE) (lv : xL) (st : List Value) (h : xH) : Option (xS ⊕ xR) := some (.inl (e.2.1, lv, .ref h.1 :: st, xadd h (xdefs e.2.2.1).length (.inr (e.2.2.1, xdefs e.2.2.1))))
/-- Object() does nothing -/
def xoinit (e : xE) (lv : xL) (st : List Value) (h : xH) : Option (xS ⊕ xR) := match st with
  | .ref _ :: r => if (r.map fun v => v.category).sum ≤ 8 then some (.inl (e.2.1, lv, r, h)) else none
  | _ => none
def xslen (e : xE) (lv : xL) (st : List Value) (h : xH) : Option (xS ⊕ xR) := match st with
  | .ref a :: r => if (a = 1000001 ∨ a = 1000002) ∧ (r.map fun v => v.category).sum ≤ 8 then some (.inl (e.2.1, lv, .int (Int32.ofNat (xby (a - 1000001)).length) :: r, h)) else none
  | _ => none
def xschr (e : xE) (lv : xL) (st : List Value) (h : xH) : Option (xS ⊕ xR) := match st with
  | .int i :: .ref a :: r => if (a = 1000001 ∨ a = 1000002) ∧ (r.map fun v => v.category).sum ≤ 8 ∧ xin i (xby (a - 1000001)).length = true then some (.inl (e.2.1, lv, .int ((xby (a - 1000001)).getD i.toNatClampNeg 0) :: r, h)) else none
  | _ => none
def xcopy (e : xE) (lv : xL) (st : List Value) (h : xH) : Option (xS ⊕ xR) := match st with
  | .int n :: .int dp :: .ref b :: .int sp :: .ref a :: r => if n < 0 ∨ dp < 0 ∨ sp < 0 ∨ 8 < (r.map fun v => v.category).sum then none else match h.2.2 a, h.2.2 b with
    | .inl (k, n0, .inl f), .inl (k1, n1, .inl g) => if k = 0 ∧ k1 = 0 ∧ sp.toNatClampNeg + n.toNatClampNeg ≤ n0 ∧ dp.toNatClampNeg + n.toNatClampNeg ≤ n1 then some (.inl (e.2.1, lv, r, xput h b (.inl (k1, n1, .inl (va_cpy f g sp.toNatClampNeg dp.toNatClampNeg n.toNatClampNeg))))) else none
    | .inl (k, n0, .inr (.inl f)), .inl (k1, n1, .inr (.inl g)) => if k = 1 ∧ k1 = 1 ∧ sp.toNatClampNeg + n.toNatClampNeg ≤ n0 ∧ dp.toNatClampNeg + n.toNatClampNeg ≤ n1 then some (.inl (e.2.1, lv, r, xput h b (.inl (k1, n1, .inr (.inl (va_cpy f g sp.toNatClampNeg dp.toNatClampNeg n.toNatClampNeg)))))) else none
    | _, _ => none
  | _ => none
/-- Math.max, Math.min -/
def xmm (e : xE) (f : Int32 → Int32 → Int32) (lv : xL) (st : List Value) (h : xH) : Option (xS ⊕ xR) := match st with
  | .int y :: .int x :: r => if (r.map fun v => v.category).sum ≤ 8 then some (.inl (e.2.1, lv, .int (f x y) :: r, h)) else none
  | _ => none
/-- one instruction that is no call of the tables' methods -/
def xstep (e : xE) (pc : Nat) (lv : xL) (st : List Value) (h : xH) : Option (xS ⊕ xR) := match e.1 with
  | .iconst n => some (.inl (e.2.1, lv, .int (Int32.ofInt n) :: st, h))
  | .bipush n => some (.inl (e.2.1, lv, .int (Int32.ofInt n) :: st, h))
  | .sipush n => some (.inl (e.2.1, lv, .int (Int32.ofInt n) :: st, h))
  | .lconst n => some (.inl (e.2.1, lv, .long (Int64.ofNat n) :: st, h))
  | .ldc _ => xldc e lv st h
  | .ldc_w _ => xldc e lv st h
  | .ldc2_w _ => some (.inl (e.2.1, lv, .long (Int64.ofInt e.2.2.2.2) :: st, h))
  | .iload_n k => xldI e k lv st h
  | .iload i => xldI e i lv st h
  | .lload_n k => xldL e k lv st h
  | .lload i => xldL e i lv st h
  | .aload_n k => xldA e k lv st h
  | .aload i => xldA e i lv st h
  | .istore_n k => xstI e k lv st h
  | .istore i => xstI e i lv st h
  | .lstore_n k => xstL e k lv st h
  | .lstore i => xstL e i lv st h
  | .astore_n k => xstA e k lv st h
  | .astore i => xstA e i lv st h
  | .iinc i n => xinc e i n lv st h
  | .iadd => xb2 e (fun x y => x + y) lv st h
  | .isub => xb2 e (fun x y => x - y) lv st h
  | .imul => xb2 e (fun x y => x * y) lv st h
  | .iand => xb2 e (fun x y => x &&& y) lv st h
  | .ior => xb2 e (fun x y => x ||| y) lv st h
  | .ixor => xb2 e (fun x y => x ^^^ y) lv st h
  | .ishl => xb2 e (fun x y => x <<< (y &&& 31)) lv st h
  | .ishr => xb2 e (fun x y => x >>> (y &&& 31)) lv st h
  | .iushr => xb2 e (fun x y => (x.toUInt32 >>> (y.toUInt32 &&& Int32.toUInt32 31)).toInt32) lv st h
  | .idiv => xb2z e (fun x y => x / y) lv st h
  | .irem => xb2z e (fun x y => x - x / y * y) lv st h
  | .ladd => xl2 e (fun x y => x + y) lv st h
  | .lmul => xl2 e (fun x y => x * y) lv st h
  | .land => xl2 e (fun x y => x &&& y) lv st h
  | .lor => xl2 e (fun x y => x ||| y) lv st h
  | .ldiv => xl2z e (fun x y => x / y) lv st h
  | .lrem => xl2z e (fun x y => x - x / y * y) lv st h
  | .lshl => xlsh e lv st h
  | .lcmp => xlcmp e lv st h
  | .i2l => xi1 e (fun x => .long x.toInt64) lv st h
  | .i2b => xi1 e (fun x => .int x.toInt8.toInt32) lv st h
  | .i2s => xi1 e (fun x => .int x.toInt16.toInt32) lv st h
  | .l2i => xl2i e lv st h
  | .dup => xdup e lv st h
  | .dup2 => xdup2 e lv st h
  | .pop => xpop e lv st h
  | .ifCond c _ => xif1 e c lv st h
  | .if_icmp c _ => xif2 e c lv st h
  | .goto _ => some (.inl (e.2.2.1, lv, st, h))
  | .tableswitch _ _ _ _ => xswi e pc lv st h
  | .lookupswitch _ _ => xswi e pc lv st h
  | .getfield _ => xget e lv st h
  | .putfield _ => xsetf e lv st h
  | .iaload => xiald e lv st h
  | .baload => xbald e lv st h
  | .laload => xlald e lv st h
  | .aaload => xaald e lv st h
  | .iastore => xiast e lv st h
  | .bastore => xbast e lv st h
  | .lastore => xlast e lv st h
  | .aastore => xaast e lv st h
  | .arraylength => xalen e lv st h
  | .newarray _ => xnar e lv st h
  | .anewarray _ => xanar e lv st h
  | .multianewarray _ _ => xmna e lv st h
  | .new _ => xnewo e lv st h
  | .invokespecial _ => if e.2.2.1 = 9999 then xoinit e lv st h else none
  | .invokevirtual _ => if e.2.2.1 = 9998 then xslen e lv st h else if e.2.2.1 = 9997 then xschr e lv st h else none
  | .invokestatic _ => if e.2.2.1 = 9996 then xcopy e lv st h else if e.2.2.1 = 9995 then xmm e (fun x y => if x < y then y else x) lv st h else if e.2.2.1 = 9994 then xmm e (fun x y => if y < x then y else x) lv st h else none
  | .ireturn => match st with
    | [.int v] => if e.2.2.1 = 1 ∧ ¬ (v = 0 ∨ v = 1) then none else some (.inr (some (.int v), h))
    | _ => none
  | .lreturn => match st with
    | [.long v] => some (.inr (some (.long v), h))
    | _ => none
  | .areturn => match st with
    | [.ref v] => some (.inr (some (.ref v), h))
    | _ => none
  | .return_ => match st with
    | [] => some (.inr (none, h))
    | _ => none
  | _ => none
/-- a call: the method, its arguments, what stays on the stack -/
def xcall (e : xE) (st : List Value) (h : xH) : Option (Nat × List Value × List Value) := match e.1 with
  | .invokestatic _ => if e.2.2.1 < 9000 ∧ e.2.2.2.1 ≤ st.length ∧ ((st.drop e.2.2.2.1).map fun v => v.category).sum ≤ 8 then some (e.2.2.1, (st.take e.2.2.2.1).reverse, st.drop e.2.2.2.1) else none
  | .invokevirtual _ => match st.drop e.2.2.2.1 with
    | .ref a :: r => match h.2.2 a with
      | .inr (ci, _) => if e.2.2.1 < 9000 ∧ e.2.2.2.1 ≤ st.length ∧ (xms[e.2.2.1]?).map (fun q => q.1) = (vwCl[ci]?).map (fun q => q.1) ∧ (r.map fun v => v.category).sum ≤ 8 then some (e.2.2.1, .ref a :: (st.take e.2.2.2.1).reverse, r) else none
      | _ => none
    | _ => none
  | .invokespecial _ => match st.drop e.2.2.2.1 with
    | .ref a :: r => if e.2.2.1 < 9000 ∧ e.2.2.2.1 ≤ st.length ∧ (r.map fun v => v.category).sum ≤ 8 then some (e.2.2.1, .ref a :: (st.take e.2.2.2.1).reverse, r) else none
    | _ => none
  | _ => none
def xrows (m : Nat) : List (Nat × xE) := match xms[m]? with
  | some q => q.2.2.2.2.2
  | none => []
def xfetch (m pc : Nat) : Option xE := (xrows m).lookup pc
def xmaxL (m : Nat) : Nat := match xms[m]? with
  | some q => q.2.2.2.1
  | none => 0
/-- the rules: P: a method from its arguments; E: from within; d: how many frames may lie above -/
def xcl (P : Nat → Nat → List Value → xH → xR → Prop) (E : Nat → Nat → xS → xR → Prop) : Prop :=
  (∀ d m pc lv st h e σ r, xfetch m pc = some e → xstep e pc lv st h = some (.inl σ) → E d m σ r → E d m (pc, lv, st, h) r) ∧
  (∀ d m pc lv st h e r, xfetch m pc = some e → xstep e pc lv st h = some (.inr r) → E d m (pc, lv, st, h) r) ∧
  (∀ d m pc lv st h e m' as rest v h' r, xfetch m pc = some e → xcall e st h = some (m', as, rest) → P d m' as h (v, h') → E (d + 1) m (e.2.1, lv, v.toList ++ rest, h') r → E (d + 1) m (pc, lv, st, h) r) ∧
  (∀ d m as h r, (lg_sl as).length ≤ xmaxL m → E d m (0, lv_args 0 as, [], h) r → P d m as h r)
def xEv (d m : Nat) (σ : xS) (r : xR) : Prop := ∀ P E, xcl P E → E d m σ r
def xPv (d m : Nat) (as : List Value) (h : xH) (r : xR) : Prop := ∀ P E, xcl P E → P d m as h r
theorem xEv_step {d m pc : Nat} {lv : xL} {st : List Value} {h : xH} {e : xE} {σ : xS} {r : xR} (hf : xfetch m pc = some e) (hs : xstep e pc lv st h = some (.inl σ)) (k : xEv d m σ r) : xEv d m (pc, lv, st, h) r := fun P E c => c.1 d m pc lv st h e σ r hf hs (k P E c)
theorem xEv_ret {d m pc : Nat} {lv : xL} {st : List Value} {h : xH} {e : xE} {r : xR} (hf : xfetch m pc = some e) (hs : xstep e pc lv st h = some (.inr r)) : xEv d m (pc, lv, st, h) r := fun P E c => c.2.1 d m pc lv st h e r hf hs
theorem xEv_call {d m pc : Nat} {lv : xL} {st : List Value} {h : xH} {e : xE} {m' : Nat} {as rest : List Value} {v : Option Value} {h' : xH} {r : xR} (hf : xfetch m pc = some e) (hc : xcall e st h = some (m', as, rest)) (hp : xPv d m' as h (v, h')) (k : xEv (d + 1) m (e.2.1, lv, v.toList ++ rest, h') r) : xEv (d + 1) m (pc, lv, st, h) r := fun P E c => c.2.2.1 d m pc lv st h e m' as rest v h' r hf hc (hp P E c) (k P E c)
theorem xPv_in {d m : Nat} {as : List Value} {h : xH} {r : xR} (hl : (lg_sl as).length ≤ xmaxL m) (k : xEv d m (0, lv_args 0 as, [], h) r) : xPv d m as h r := fun P E c => c.2.2.2 d m as h r hl (k P E c)
