/-! pure: the reference's bestFor -/
def bstN (A : zSt) (p : Nat) : Nat → Option (Nat × Nat × Nat)
  | 0 => none
  | e + 1 => match awy A e p with
    | none => bstN A p e
    | some (w1, _, _, _, w5) => match bstN A p e with
      | none => some (e, w1, w5)
      | some (i, u, v) => if w1 < u ∨ (w1 = u ∧ w5 < v) then some (e, w1, w5) else some (i, u, v)
def bstV (A : zSt) (p : Nat) : Nat := match bstN A p (aρ A 0) with
  | none => 4294967287
  | some (i, _, _) => i
def bstS (A : zSt) (x : Int32) : zAn := if outI x (anp A) then (1, 0, A) else (0, nI (bstV A (cl x)), A)
