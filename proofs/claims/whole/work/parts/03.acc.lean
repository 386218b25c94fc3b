/-! ===== the program's tables, looked up ===== -/
abbrev inR (z : Int) : Prop := -2147483648 ≤ z ∧ z ≤ 2147483647
def lkB : Nat → List (Nat × AI) → Option AI
  | _, [] => none
  | pc, x :: xs => bif Nat.beq pc x.1 then some x.2 else lkB pc xs
def lk2 : Nat → BK → Option AI
  | _, [] => none
  | pc, x :: xs => bif Nat.ble pc x.1 then lkB pc x.2 else lk2 pc xs
def mt (μ : Nat) : MT := (mtab.getD (μ / 10) []).getD (μ % 10) (iX0_init, [])
abbrev mi (μ : Nat) : MI := (mt μ).1
abbrev PL (μ : Nat) : BK := (mt μ).2
abbrev my (μ : Nat) : MethodName := (mi μ).1
abbrev mcode (μ : Nat) : ByteArray := (mi μ).2.1
abbrev mxl (μ : Nat) : Nat := (mi μ).2.2.1
abbrev mret (μ : Nat) : Option FieldType := (mi μ).2.2.2.1
abbrev mmc (μ : Nat) : Nat := (mi μ).2.2.2.2.1
abbrev mms (μ : Nat) : Nat := (mi μ).2.2.2.2.2.1
abbrev mdp (μ : Nat) : Nat := (mi μ).2.2.2.2.2.2.1
def fkT : List (List Nat) := [[2, 2, 2], [2, 2, 0, 0, 0], [2, 0, 0], [2, 2], [2, 2], [2, 2, 0], [2, 2, 2, 0], [2, 0, 0, 0, 0, 0], [2, 2, 2, 2, 2, 2, 2, 2, 2, 1, 1], [0, 2, 0, 0, 0, 0, 0, 0, 2, 2, 2, 2, 2, 2, 0, 2, 2, 0, 2, 2, 0, 2, 2, 0, 2, 2]]
def fkOf (c k : Nat) : Nat := (fkT.getD c []).getD k 0
