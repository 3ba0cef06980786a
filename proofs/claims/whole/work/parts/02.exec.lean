/-! A SMALL MACHINE OF VALUES, over the same bytes: what a method answers and leaves, computed. Objects are numbers (their place in the order of making), ints and longs are whole numbers. -/
/-- a value: an int, a long, an object by its number, else 0 null, 1 the script, 2 nothing known -/
abbrev oV : Type := Int ⊕ (Int ⊕ (Nat ⊕ Nat))
/-- a cell: an object (its kind by number, its fields); a row of numbers (0 int, 1 long, 2 byte; its length); a row of references (3 Clause, 4 rows of longs) -/
abbrev oC : Type := (Nat × List oV) ⊕ ((Nat × Nat × (Nat → Int)) ⊕ (Nat × Nat × (Nat → Option Nat)))
/-- a heap: how many cells, how many slots, the cells -/
abbrev oH : Type := Nat × Nat × (Nat → oC)
abbrev oP : Type := Nat × List oV × List oV
abbrev oR : Type := (Nat × List oV × List oV × oH) ⊕ (Option oV × oH)
def oSet (f : Nat → oC) (a : Nat) (c : oC) : Nat → oC := fun q => if q = a then c else f q
def oUp {α : Type} (f : Nat → α) (k : Nat) (v : α) : Nat → α := fun j => if j = k then v else f j
def oCat (v : oV) : Nat := match v with
  | .inr (.inl _) => 2
  | _ => 1
/-- what is known of a value: 0 int, 1 long, 2 a reference, 3 nothing -/
def oTag (v : oV) : Nat := match v with
  | .inl _ => 0
  | .inr (.inl _) => 1
  | .inr (.inr (.inl _)) => 2
  | .inr (.inr (.inr 0)) => 2
  | .inr (.inr (.inr 1)) => 2
  | _ => 3
def oI32 (z : Int) : Prop := -2147483648 ≤ z ∧ z < 2147483648
def oI64 (z : Int) : Prop := -9223372036854775808 ≤ z ∧ z < 9223372036854775808
def oAdd (x y : Int) : Int := (Int32.ofInt x + Int32.ofInt y).toInt
def oSub (x y : Int) : Int := (Int32.ofInt x - Int32.ofInt y).toInt
def oMul (x y : Int) : Int := (Int32.ofInt x * Int32.ofInt y).toInt
def oDiv (x y : Int) : Int := (Int32.ofInt x / Int32.ofInt y).toInt
def oRem (x y : Int) : Int := (Int32.ofInt x - Int32.ofInt x / Int32.ofInt y * Int32.ofInt y).toInt
def oNeg (x : Int) : Int := (-Int32.ofInt x).toInt
def oAnd (x y : Int) : Int := (Int32.ofInt x &&& Int32.ofInt y).toInt
def oOr (x y : Int) : Int := (Int32.ofInt x ||| Int32.ofInt y).toInt
def oXor (x y : Int) : Int := (Int32.ofInt x ^^^ Int32.ofInt y).toInt
def oShl (x y : Int) : Int := (Int32.ofInt x <<< (Int32.ofInt y &&& 31)).toInt
def oShr (x y : Int) : Int := (Int32.ofInt x >>> (Int32.ofInt y &&& 31)).toInt
def oUshr (x y : Int) : Int := ((Int32.ofInt x).toUInt32 >>> ((Int32.ofInt y).toUInt32 &&& Int32.toUInt32 31)).toInt32.toInt
def oI2b (x : Int) : Int := (Int32.ofInt x).toInt8.toInt32.toInt
def oI2s (x : Int) : Int := (Int32.ofInt x).toInt16.toInt32.toInt
def oL2i (x : Int) : Int := (Int64.ofInt x).toInt32.toInt
def oLand (x y : Int) : Int := (Int64.ofInt x &&& Int64.ofInt y).toInt
def oLor (x y : Int) : Int := (Int64.ofInt x ||| Int64.ofInt y).toInt
def oLshl (x y : Int) : Int := (Int64.ofInt x <<< ((Int32.ofInt y).toInt64 &&& 63)).toInt
def oLcmp (x y : Int) : Int := if y < x then 1 else if x = y then 0 else -1
/-- a jump from pc by off -/
def oJmp (pc : Nat) (off : Int) : Option Nat := if 0 ≤ (pc : Int) + off then some ((pc : Int) + off).toNat else none
def oTst (c : Jvm.ClassFile.Cond) (x y : Int) : Bool := match c with
  | .eq => decide (x = y)
  | .ne => decide (¬ x = y)
  | .lt => decide (x < y)
  | .ge => decide (y ≤ x)
  | .gt => decide (y < x)
  | .le => decide (x ≤ y)
/-- read local i, of tag t -/
def oLd (L : List oV) (i t : Nat) : Option oV := match L[i]? with
  | some v => if oTag v = t then some v else none
  | none => none
/-- write local i: no long stands there or ahead -/
def oStL (L : List oV) (i : Nat) (v : oV) : Option (List oV) := if i < L.length ∧ (L.map oCat)[i - 1]? ≠ some 2 ∧ (L.map oCat)[i]? ≠ some 2 then some (L.set i v) else none
def oPush (n : Nat) (pc : Nat) (L S : List oV) (v : Option oV) : Option oP := match v with
  | some v => some (pc + n, L, v :: S)
  | none => none
def oStore (n : Nat) (pc : Nat) (L S : List oV) (i : Nat) (v : oV) : Option oP := match oStL L i v with
  | some L' => some (pc + n, L', S)
  | none => none
/-- constants, locals, the stack -/
def oG1 (q : Instr × Nat) (pc : Nat) (L S : List oV) : Option oP := match q with
  | (.iconst n, 1) => if -2147483648 ≤ n ∧ n < 2147483648 then some (pc + 1, L, .inl n :: S) else none
  | (.bipush n, 2) => if -128 ≤ n ∧ n < 128 then some (pc + 2, L, .inl n :: S) else none
  | (.sipush n, 3) => if -32768 ≤ n ∧ n < 32768 then some (pc + 3, L, .inl n :: S) else none
  | (.lconst n, 1) => some (pc + 1, L, .inr (.inl ((n.val : Nat) : Int)) :: S)
  | (.iload_n k, 1) => oPush 1 pc L S (oLd L k.val 0)
  | (.iload i, 2) => oPush 2 pc L S (oLd L i 0)
  | (.lload_n k, 1) => oPush 1 pc L S (oLd L k.val 1)
  | (.lload i, 2) => oPush 2 pc L S (oLd L i 1)
  | (.aload_n k, 1) => oPush 1 pc L S (oLd L k.val 2)
  | (.aload i, 2) => oPush 2 pc L S (oLd L i 2)
  | _ => none
def oG2 (q : Instr × Nat) (pc : Nat) (L S : List oV) : Option oP := match q, S with
  | (.istore_n k, 1), .inl x :: S => oStore 1 pc L S k.val (.inl x)
  | (.istore i, 2), .inl x :: S => oStore 2 pc L S i (.inl x)
  | (.astore_n k, 1), v :: S => if oTag v = 2 then oStore 1 pc L S k.val v else none
  | (.astore i, 2), v :: S => if oTag v = 2 then oStore 2 pc L S i v else none
  | (.iinc i n, 3), S => match L[i]? with
    | some (.inl x) => oStore 3 pc L S i (.inl (oAdd x n))
    | _ => none
  | (.dup, 1), v :: S => if oCat v = 1 ∧ oTag v ≠ 3 then some (pc + 1, L, v :: v :: S) else none
  | (.pop, 1), v :: S => if oCat v = 1 then some (pc + 1, L, S) else none
  | (.dup2, 1), v :: w :: S => if oCat v = 1 ∧ oCat w = 1 then some (pc + 1, L, v :: w :: v :: w :: S) else none
  | _, _ => none
/-- numbers -/
def oG3 (q : Instr × Nat) (pc : Nat) (L S : List oV) : Option oP := match q, S with
  | (.iadd, 1), .inl y :: .inl x :: S => some (pc + 1, L, .inl (oAdd x y) :: S)
  | (.isub, 1), .inl y :: .inl x :: S => some (pc + 1, L, .inl (oSub x y) :: S)
  | (.imul, 1), .inl y :: .inl x :: S => some (pc + 1, L, .inl (oMul x y) :: S)
  | (.idiv, 1), .inl y :: .inl x :: S => if y = 0 then none else some (pc + 1, L, .inl (oDiv x y) :: S)
  | (.irem, 1), .inl y :: .inl x :: S => if y = 0 then none else some (pc + 1, L, .inl (oRem x y) :: S)
  | (.ineg, 1), .inl x :: S => some (pc + 1, L, .inl (oNeg x) :: S)
  | (.iand, 1), .inl y :: .inl x :: S => some (pc + 1, L, .inl (oAnd x y) :: S)
  | (.ior, 1), .inl y :: .inl x :: S => some (pc + 1, L, .inl (oOr x y) :: S)
  | (.ixor, 1), .inl y :: .inl x :: S => some (pc + 1, L, .inl (oXor x y) :: S)
  | (.ishl, 1), .inl y :: .inl x :: S => some (pc + 1, L, .inl (oShl x y) :: S)
  | (.ishr, 1), .inl y :: .inl x :: S => some (pc + 1, L, .inl (oShr x y) :: S)
  | (.iushr, 1), .inl y :: .inl x :: S => some (pc + 1, L, .inl (oUshr x y) :: S)
  | _, _ => none
def oG4 (q : Instr × Nat) (pc : Nat) (L S : List oV) : Option oP := match q, S with
  | (.i2l, 1), .inl x :: S => some (pc + 1, L, .inr (.inl x) :: S)
  | (.l2i, 1), .inr (.inl x) :: S => some (pc + 1, L, .inl (oL2i x) :: S)
  | (.i2b, 1), .inl x :: S => some (pc + 1, L, .inl (oI2b x) :: S)
  | (.i2s, 1), .inl x :: S => some (pc + 1, L, .inl (oI2s x) :: S)
  | (.land, 1), .inr (.inl y) :: .inr (.inl x) :: S => some (pc + 1, L, .inr (.inl (oLand x y)) :: S)
  | (.lor, 1), .inr (.inl y) :: .inr (.inl x) :: S => some (pc + 1, L, .inr (.inl (oLor x y)) :: S)
  | (.lshl, 1), .inl y :: .inr (.inl x) :: S => some (pc + 1, L, .inr (.inl (oLshl x y)) :: S)
  | (.lcmp, 1), .inr (.inl y) :: .inr (.inl x) :: S => some (pc + 1, L, .inl (oLcmp x y) :: S)
  | _, _ => none
def oTo (L S : List oV) (t : Option Nat) : Option oP := match t with
  | some t => some (t, L, S)
  | none => none
/-- jumps -/
def oG5 (q : Instr × Nat) (pc : Nat) (L S : List oV) : Option oP := match q, S with
  | (.goto off, 3), S => oTo L S (oJmp pc off)
  | (.ifCond c off, 3), .inl x :: S => if oTst c x 0 = true then oTo L S (oJmp pc off) else some (pc + 3, L, S)
  | (.if_icmp c off, 3), .inl y :: .inl x :: S => if oTst c x y = true then oTo L S (oJmp pc off) else some (pc + 3, L, S)
  | (.ifnonnull off, 3), .inr (.inr (.inl _)) :: S => oTo L S (oJmp pc off)
  | (.ifnonnull _, 3), .inr (.inr (.inr 0)) :: S => some (pc + 3, L, S)
  | (.tableswitch d lo hi offs, _), .inl x :: S => if x < lo ∨ hi < x then oTo L S (oJmp pc d) else match offs[(x - lo).toNat]? with
    | some off => oTo L S (oJmp pc off)
    | none => none
  | (.lookupswitch d ps, _), .inl x :: S => if (ps.toList.zip (ps.toList.drop 1)).all (fun (a, next) => a.1 < next.1) = true then oTo L S (oJmp pc (Op.lookupswitch.offset ps.toList d x)) else none
  | _, _ => none
/-! the tables -/
def oFind3 (l : List (Nat × Nat × Nat × Nat × Nat)) (c i : Nat) : Option (Nat × Nat) := match l.find? (fun q => q.1 == c && q.2.1 == i) with
  | some q => some (q.2.2.1, q.2.2.2.1)
  | none => none
def oLink (c i : Nat) : Option (Nat × Nat) := oFind3 oLk c i
def oFld (c i : Nat) : Option (Nat × Nat) := oFind3 oFl c i
def oNewC (c i : Nat) : Option Nat := match oNw.find? (fun q => q.1 == c && q.2.1 == i) with
  | some q => some q.2.2.1
  | none => none
def oKonI (c i : Nat) : Option Int := match oKi.find? (fun q => q.1 == c && q.2.1 == i) with
  | some q => some q.2.2.1
  | none => none
def oKonL (c i : Nat) : Option Int := match oKl.find? (fun q => q.1 == c && q.2.1 == i) with
  | some q => some q.2.2.1
  | none => none
def oDflt (ty : FieldType) : oV := match ty with
  | .int => .inl 0
  | .boolean => .inl 0
  | _ => .inr (.inr (.inr 0))
def oTy (ci k : Nat) : FieldType := match ci with
  | 0 => tyX0 k
  | 1 => tyX1 k
  | 2 => tyX2 k
  | 3 => tyX3 k
  | 4 => tyX4 k
  | 5 => tyX5 k
  | 6 => tyX6 k
  | 7 => tyX7 k
  | 8 => tyX8 k
  | 9 => tyX9 k
  | 10 => tyX10 k
  | _ => tyX11 k
def oFin (ci k : Nat) : Bool := match oCls[ci]? with
  | some r => (r.2.1 k).2.2.2
  | none => true
def oLen (ci : Nat) : Nat := match oCls[ci]? with
  | some r => r.2.2
  | none => 0
/-- whether a value may stand in a field of a type -/
def oFits (ty : FieldType) (v : oV) : Bool := match ty, v with
  | .int, .inl _ => true
  | .boolean, .inl x => decide (x = 0 ∨ x = 1)
  | .object _, .inr (.inr (.inl _)) => true
  | .array _, .inr (.inr (.inl _)) => true
  | _, _ => false
/-- the script: one more than its length (0: there is none), its ints -/
abbrev oXs : Type := Nat × (Nat → Int)
def oPushH (n pc : Nat) (L S : List oV) (h : oH) (v : Option oV) : Option oR := match v with
  | some v => some (.inl (pc + n, L, v :: S, h))
  | none => none
def oFldOf (h : oH) (a ci k : Nat) : Option oV := if a < h.1 then (match h.2.2 a with
  | .inl (c, fs) => if c = ci then fs[k]? else none
  | _ => none) else none
def oEl (h : oH) (a kind : Nat) (i : Int) : Option Int := if a < h.1 then (match h.2.2 a with
  | .inr (.inl (t, n, f)) => if t = kind ∧ 0 ≤ i ∧ i < n then some (f i.toNat) else none
  | _ => none) else none
def oElR (h : oH) (a : Nat) (i : Int) : Option oV := if a < h.1 then (match h.2.2 a with
  | .inr (.inr (_, n, f)) => if 0 ≤ i ∧ i < n then (match f i.toNat with
    | some r => some (.inr (.inr (.inl r)))
    | none => some (.inr (.inr (.inr 0)))) else none
  | _ => none) else none
def oLenOf (h : oH) (a : Nat) : Option Int := if a < h.1 then (match h.2.2 a with
  | .inr (.inl (_, n, _)) => if n < 2147483648 then some (n : Int) else none
  | _ => none) else none
def oInt (v : Option Int) : Option oV := match v with
  | some x => some (.inl x)
  | none => none
def oLong (v : Option Int) : Option oV := match v with
  | some x => some (.inr (.inl x))
  | none => none
/-- reads; own: the number of the method's owner -/
def oG6 (X : oXs) (own : Nat) (q : Instr × Nat) (pc : Nat) (L S : List oV) (h : oH) : Option oR := match q, S with
  | (.getfield i, 3), .inr (.inr (.inl a)) :: S => match oFld own i with
    | some (ci, k) => oPushH 3 pc L S h (oFldOf h a ci k)
    | none => none
  | (.iaload, 1), .inl i :: .inr (.inr (.inl a)) :: S => oPushH 1 pc L S h (oInt (oEl h a 0 i))
  | (.baload, 1), .inl i :: .inr (.inr (.inl a)) :: S => oPushH 1 pc L S h (oInt (oEl h a 2 i))
  | (.laload, 1), .inl i :: .inr (.inr (.inl a)) :: S => oPushH 1 pc L S h (oLong (oEl h a 1 i))
  | (.aaload, 1), .inl i :: .inr (.inr (.inl a)) :: S => oPushH 1 pc L S h (oElR h a i)
  | (.arraylength, 1), .inr (.inr (.inl a)) :: S => oPushH 1 pc L S h (oInt (oLenOf h a))
  | (.iaload, 1), .inl i :: .inr (.inr (.inr 1)) :: S => if 0 ≤ i ∧ i + 1 < X.1 then some (.inl (pc + 1, L, .inl (X.2 i.toNat) :: S, h)) else none
  | (.arraylength, 1), .inr (.inr (.inr 1)) :: S => if 0 < X.1 ∧ X.1 ≤ 2147483648 then some (.inl (pc + 1, L, .inl ((X.1 - 1 : Nat) : Int) :: S, h)) else none
  | (.ldc_w i, 3), S => oPushH 3 pc L S h (oInt (oKonI own i))
  | (.ldc2_w i, 3), S => oPushH 3 pc L S h (oLong (oKonL own i))
  | _, _ => none
def oGoH (n pc : Nat) (L S : List oV) (h : oH) (f : Option (Nat → oC)) : Option oR := match f with
  | some f => some (.inl (pc + n, L, S, (h.1, h.2.1, f)))
  | none => none
def oPutF (h : oH) (a ci k : Nat) (v : oV) : Option (Nat → oC) := if a < h.1 then (match h.2.2 a with
  | .inl (c, fs) => if c = ci ∧ k < fs.length then some (oSet h.2.2 a (.inl (c, fs.set k v))) else none
  | _ => none) else none
def oPutE (h : oH) (a kind : Nat) (i : Int) (v : Int) : Option (Nat → oC) := if a < h.1 then (match h.2.2 a with
  | .inr (.inl (t, n, f)) => if t = kind ∧ 0 ≤ i ∧ i < n then some (oSet h.2.2 a (.inr (.inl (t, n, oUp f i.toNat v)))) else none
  | _ => none) else none
def oPutR (h : oH) (a : Nat) (i : Int) (r : Nat) : Option (Nat → oC) := if a < h.1 ∧ r < h.1 then (match h.2.2 a, h.2.2 r with
  | .inr (.inr (3, n, f)), .inl (0, _) => if 0 ≤ i ∧ i < n then some (oSet h.2.2 a (.inr (.inr (3, n, oUp f i.toNat (some r))))) else none
  | _, _ => none) else none
/-- writes; ini: whether it is a constructor -/
def oG7 (own : Nat) (ini : Bool) (q : Instr × Nat) (pc : Nat) (L S : List oV) (h : oH) : Option oR := match q, S with
  | (.putfield i, 3), v :: .inr (.inr (.inl a)) :: S => match oFld own i with
    | some (ci, k) => if oFits (oTy ci k) v = true ∧ k < oLen ci ∧ (oFin ci k = false ∨ (ini = true ∧ ci = own)) then oGoH 3 pc L S h (oPutF h a ci k v) else none
    | none => none
  | (.iastore, 1), .inl x :: .inl i :: .inr (.inr (.inl a)) :: S => oGoH 1 pc L S h (oPutE h a 0 i x)
  | (.bastore, 1), .inl x :: .inl i :: .inr (.inr (.inl a)) :: S => oGoH 1 pc L S h (oPutE h a 2 i (oI2b x))
  | (.lastore, 1), .inr (.inl x) :: .inl i :: .inr (.inr (.inl a)) :: S => oGoH 1 pc L S h (oPutE h a 1 i x)
  | (.aastore, 1), .inr (.inr (.inl r)) :: .inl i :: .inr (.inr (.inl a)) :: S => oGoH 1 pc L S h (oPutR h a i r)
  | _, _ => none
/-- what is made: lim says how many cells and slots there may be -/
def oMake (lim : Nat × Nat) (n pc : Nat) (L S : List oV) (h : oH) (k : Nat) (c : oC) : Option oR :=
  if h.1 + 1 ≤ lim.1 ∧ h.2.1 + k ≤ lim.2 then some (.inl (pc + n, L, .inr (.inr (.inl h.1)) :: S, (h.1 + 1, h.2.1 + k, oSet h.2.2 h.1 c))) else none
def oG8 (lim : Nat × Nat) (own : Nat) (q : Instr × Nat) (pc : Nat) (L S : List oV) (h : oH) : Option oR := match q, S with
  | (.new i, 3), S => match oNewC own i with
    | some ci => oMake lim 3 pc L S h (oLen ci) (.inl (ci, (List.range (oLen ci)).map (fun k => oDflt (oTy ci k))))
    | none => none
  | (.newarray .int, 2), .inl n :: S => if 0 ≤ n ∧ n < 1000 then oMake lim 2 pc L S h n.toNat (.inr (.inl (0, n.toNat, fun _ => 0))) else none
  | (.newarray .long, 2), .inl n :: S => if 0 ≤ n ∧ n < 1000 then oMake lim 2 pc L S h n.toNat (.inr (.inl (1, n.toNat, fun _ => 0))) else none
  | (.newarray .byte, 2), .inl n :: S => if 0 ≤ n ∧ n < 1000 then oMake lim 2 pc L S h n.toNat (.inr (.inl (2, n.toNat, fun _ => 0))) else none
  | (.anewarray 13, 3), .inl n :: S => if own = 9 ∧ 0 ≤ n ∧ n < 1000 then oMake lim 3 pc L S h n.toNat (.inr (.inr (3, n.toNat, fun _ => none))) else none
  | (.multianewarray 48 2, 4), .inl k :: .inl n :: S => if own = 11 ∧ n = 6 ∧ k = 60 ∧ h.1 + 7 ≤ lim.1 ∧ h.2.1 + 366 ≤ lim.2 then
      some (.inl (pc + 4, L, .inr (.inr (.inl h.1)) :: S, (h.1 + 7, h.2.1 + 366, fun q => if q = h.1 then .inr (.inr (4, 6, fun j => if j < 6 then some (h.1 + 1 + j) else none)) else if h.1 < q ∧ q < h.1 + 7 then .inr (.inl (1, 60, fun _ => 0)) else h.2.2 q))) else none
  | _, _ => none
abbrev oCall : Type := Nat → List oV → oH → Option (Option oV × oH)
def oBack (lim : Nat × Nat) (pc : Nat) (L S : List oV) (r : Option (Option oV × oH)) : Option oR := match r with
  | some (some v, h) => if h.1 ≤ lim.1 ∧ h.2.1 ≤ lim.2 then some (.inl (pc + 3, L, v :: S, h)) else none
  | some (none, h) => if h.1 ≤ lim.1 ∧ h.2.1 ≤ lim.2 then some (.inl (pc + 3, L, S, h)) else none
  | none => none
def oCopy (h : oH) (a : Nat) (sp : Int) (b : Nat) (dp n : Int) : Option (Nat → oC) := if a < h.1 ∧ b < h.1 ∧ 0 ≤ sp ∧ 0 ≤ dp ∧ 0 ≤ n then (match h.2.2 a, h.2.2 b with
  | .inr (.inl (t, n0, f)), .inr (.inl (t1, n1, g)) => if t = t1 ∧ t < 2 ∧ sp + n ≤ n0 ∧ dp + n ≤ n1 then some (oSet h.2.2 b (.inr (.inl (t1, n1, fun j => if dp ≤ (j : Int) ∧ (j : Int) < dp + n then f (sp.toNat + (j - dp.toNat)) else g j)))) else none
  | _, _ => none) else none
def oSmall (S : List oV) : Bool := decide ((S.map oCat).sum ≤ 8)
/-- calls -/
def oG9 (call : oCall) (lim : Nat × Nat) (own : Nat) (ini : Bool) (q : Instr × Nat) (pc : Nat) (L S : List oV) (h : oH) : Option oR := match q with
  | (.invokevirtual i, 3) => match oLink own i with
    | some (0, z) => match S.drop (oMt z).2.2.2.2.2.1 with
      | .inr (.inr (.inl a)) :: S' => match h.2.2 a with
        | .inl (ci, _) => if a < h.1 ∧ ci = (oMt z).2.2.2.2.1 ∧ (S.take (oMt z).2.2.2.2.2.1).length = (oMt z).2.2.2.2.2.1 ∧ oSmall S' = true ∧ (oMt z).2.2.2.2.2.2.1 = false then oBack lim pc L S' (call z (.inr (.inr (.inl a)) :: (S.take (oMt z).2.2.2.2.2.1).reverse) h) else none
        | _ => none
      | _ => none
    | _ => none
  | (.invokestatic i, 3) => match oLink own i with
    | some (1, z) => if (S.take (oMt z).2.2.2.2.2.1).length = (oMt z).2.2.2.2.2.1 ∧ oSmall (S.drop (oMt z).2.2.2.2.2.1) = true ∧ (oMt z).2.2.2.2.2.2.1 = true then oBack lim pc L (S.drop (oMt z).2.2.2.2.2.1) (call z (S.take (oMt z).2.2.2.2.2.1).reverse h) else none
    | some (5, _) => match S with
      | .inl n :: .inl dp :: .inr (.inr (.inl b)) :: .inl sp :: .inr (.inr (.inl a)) :: S' => if oSmall S' = true then oGoH 3 pc L S' h (oCopy h a sp b dp n) else none
      | _ => none
    | some (6, _) => match S with
      | .inl y :: .inl x :: S' => if oSmall S' = true ∧ h.1 ≤ lim.1 ∧ h.2.1 ≤ lim.2 then some (.inl (pc + 3, L, .inl (if x < y then y else x) :: S', h)) else none
      | _ => none
    | some (7, _) => match S with
      | .inl y :: .inl x :: S' => if oSmall S' = true ∧ h.1 ≤ lim.1 ∧ h.2.1 ≤ lim.2 then some (.inl (pc + 3, L, .inl (if y < x then y else x) :: S', h)) else none
      | _ => none
    | _ => none
  | (.invokespecial i, 3) => match oLink own i with
    | some (4, _) => match S with
      | .inr (.inr (.inl _)) :: S' => if oSmall S' = true ∧ ini = true then some (.inl (pc + 3, L, S', h)) else none
      | _ => none
    | some (k, z) => match S.drop (oMt z).2.2.2.2.2.1 with
      | .inr (.inr (.inl a)) :: S' => match h.2.2 a with
        | .inl (ci, _) => if (k = 2 ∨ k = 3) ∧ a < h.1 ∧ ci = (oMt z).2.2.2.2.1 ∧ (S.take (oMt z).2.2.2.2.2.1).length = (oMt z).2.2.2.2.2.1 ∧ oSmall S' = true ∧ (oMt z).2.2.2.2.2.2.1 = false ∧ (oMt z).1.name = "<init>" ∧ (oMt z).2.2.2.1 = none then oBack lim pc L S' (call z (.inr (.inr (.inl a)) :: (S.take (oMt z).2.2.2.2.2.1).reverse) h) else none
        | _ => none
      | _ => none
    | _ => none
  | _ => none
/-- ends: what was made must be just what the tables say -/
def oG10 (lim : Nat × Nat) (rt : Option FieldType) (q : Instr × Nat) (S : List oV) (h : oH) : Option (Option oV × oH) := if h.1 ≤ lim.1 ∧ h.2.1 ≤ lim.2 then (match q, rt, S with
  | (.ireturn, 1), some .int, [.inl x] => some (some (.inl x), h)
  | (.ireturn, 1), some .boolean, [.inl x] => if x = 0 ∨ x = 1 then some (some (.inl x), h) else none
  | (.lreturn, 1), some .long, [.inr (.inl x)] => some (some (.inr (.inl x)), h)
  | (.areturn, 1), some (.object _), [.inr (.inr (.inl a))] => some (some (.inr (.inr (.inl a))), h)
  | (.return_, 1), none, [] => some (none, h)
  | _, _, _ => none) else none
def oOfP (h : oH) (r : Option oP) : Option oR := match r with
  | some q => some (.inl (q.1, q.2.1, q.2.2, h))
  | none => none
def oOfR (r : Option (Option oV × oH)) : Option oR := match r with
  | some q => some (.inr q)
  | none => none
def oFet (y pc : Nat) : Option (Instr × Nat) := match decode (oMt y).2.1 pc with
  | .ok q => some q
  | .error _ => none
def oIni (y : Nat) : Bool := (oMt y).1.name == "<init>"
/-- one instruction q of method y -/
def oIns (call : oCall) (X : oXs) (lim : Nat × Nat) (y : Nat) (q : Instr × Nat) (pc : Nat) (L S : List oV) (h : oH) : Option oR :=
  (oOfP h (oG1 q pc L S)).or ((oOfP h (oG2 q pc L S)).or ((oOfP h (oG3 q pc L S)).or ((oOfP h (oG4 q pc L S)).or ((oOfP h (oG5 q pc L S)).or
  ((oG6 X (oMt y).2.2.2.2.1 q pc L S h).or ((oG7 (oMt y).2.2.2.2.1 (oIni y) q pc L S h).or ((oG8 lim (oMt y).2.2.2.2.1 q pc L S h).or ((oG9 call lim (oMt y).2.2.2.2.1 (oIni y) q pc L S h).or (oOfR (oG10 lim (oMt y).2.2.2.1 q S h)))))))))) 
def oStep (call : oCall) (X : oXs) (lim : Nat × Nat) (y pc : Nat) (L S : List oV) (h : oH) : Option oR := match oFet y pc with
  | some q => oIns call X lim y q pc L S h
  | none => none
def oRun (call : oCall) (X : oXs) (lim : Nat × Nat) (y : Nat) : Nat → Nat → List oV → List oV → oH → Option (Option oV × oH)
  | 0, _, _, _, _ => none
  | n + 1, pc, L, S, h => match oStep call X lim y pc L S h with
    | some (.inl (pc', L', S', h')) => oRun call X lim y n pc' L' S' h'
    | some (.inr r) => some r
    | none => none
/-- the locals at the entry: a long has two places -/
def oArg : List oV → List oV
  | [] => []
  | .inr (.inl x) :: r => .inr (.inl x) :: .inr (.inr (.inr 2)) :: oArg r
  | v :: r => v :: oArg r
def oEnt (nL : Nat) (as : List oV) : List oV := oArg as ++ List.replicate (nL - (oArg as).length) (.inr (.inr (.inr 2)))
/-- what a method makes: by the table; Rows(int) two rows of so many -/
def oMk (y : Nat) (as : List oV) : Nat × Nat := match y, as with
  | 3, [_, .inl n] => (2, 2 * n.toNat)
  | y, _ => (oMt y).2.2.2.2.2.2.2
/-- a method at depth d with fuel n -/
def oExec (n : Nat) : Nat → oCall
  | 0 => fun _ _ _ => none
  | d + 1 => fun y as h => match oRun (oExec n d) (0, fun _ => 0) (h.1 + (oMk y as).1, h.2.1 + (oMk y as).2) y n 0 (oEnt (oMt y).2.2.1 as) [] h with
    | some (v, h') => if h'.1 = h.1 + (oMk y as).1 ∧ h'.2.1 = h.2.1 + (oMk y as).2 ∧ (oArg as).length ≤ (oMt y).2.2.1 then some (v, h') else none
    | none => none
