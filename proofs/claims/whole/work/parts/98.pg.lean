/-! the law: the constructors, computed -/
def cNw (ci : Nat) (h : oH) : oH := (h.1 + 1, h.2.1 + oLen ci, oSet h.2.2 h.1 (.inl (ci, (List.range (oLen ci)).map (fun k => oDflt (oTy ci k)))))
def cH0 : oH := (0, 0, fun _ => .inl (0, []))
def cR1 : Option (Option oV × oH) := oExec 400 60 0 [.inr (.inr (.inl 0))] (cNw 10 cH0)
def cH2 : oH := match cR1 with
  | some (_, h) => h
  | none => cH0
def cR2 : Option (Option oV × oH) := oExec 400 60 141 [.inr (.inr (.inl 68))] (cNw 11 cH2)
def cH4 : oH := match cR2 with
  | some (_, h) => h
  | none => cH0
def cIsN (r : Option (Option oV × oH)) : Bool := match r with
  | some (none, _) => true
  | _ => false
/-- what is computed of them -/
def cChk : Bool := cIsN cR1 && cIsN cR2 && decide (cH2.1 = 68) && decide (cH2.2.1 ≤ 2000) && decide (cH4.1 = 89) && decide (cH4.2.1 = 2141)
def cChk2 : Bool := (List.range 89).all (fun q => oCellOk (oShp q) (cH4.2.2 q))
def cZ (q k : Nat) : Bool := decide ((oStOf cH4).1 q k = 0)
def cRow (q n : Nat) (g : Nat → Int) : Bool := (List.range n).all (fun j => decide ((oStOf cH4).2 q j = g j))
def cChk3 : Bool := cZ 2 0 && cZ 6 0 && cZ 9 0 && cZ 12 0 && cZ 15 0 && cZ 23 0 && cZ 26 0 && cZ 29 0 && cZ 32 0 && cZ 35 0 && cZ 68 6 && cZ 68 3 && cZ 0 2
def cChk4 : Bool := cRow 69 116 (fun k => if 50 ≤ k ∧ k < 57 then -1 else 0) && cRow 3 49 (fun _ => 0) && cRow 4 7 (fun _ => -1) && cRow 5 7 (fun _ => 0) && cRow 52 6 (fun _ => -1) && cRow 53 6 (fun _ => 0) && cRow 79 6 (fun _ => -1) && cRow 80 6 (fun _ => 0)
theorem cChk_ok : (cChk && cChk2 && cChk3 && cChk4) = true := by decide +kernel

