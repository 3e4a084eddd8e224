/-! pure: the reference's bestFor -/
def bstN (A : zSt) (p : Nat) : Nat → Option (Nat × Nat × Nat)
  | 0 => none
  | e + 1 => match awy A e p with
    | none => bstN A p e
    | some (w1, _, _, _, w5) => match bstN A p e with
      | none => some (e, w1, w5)
      | some (i, u, v) => if w1 < u ∨ (w1 = u ∧ w5 < v) then some (e, w1, w5) else some (i, u, v)
def bstV (A : zSt) (p : Nat) : Nat := match bstN A p (aρ A 0) with
  | none => 4294967287
  | some (i, _, _) => i
def bstS (A : zSt) (x : Int32) : zAn := if outI x (anp A) then (1, 0, A) else (0, nI (bstV A (cl x)), A)
section RBEST
variable {A : zSt}
theorem awy_b {t e p w1 w2 w3 w4 w5 : Nat} (hA : AI t A) (he : e < aρ A 0) (q : awy A e p = some (w1, w2, w3, w4, w5)) : w1 < 62500 ∧ w5 < 1000000 := by
  obtain ⟨a1, hO, ⟨a3, a3t⟩, a4, a5, a6⟩ := id hA
  have oe := a3.1.2.2.2.2 e he
  have r1 := a3.1.2.1
  unfold awy at q
  have k := (nway_ok hO a3.2.2.1 oe q).2.2.2.2
  have k' : w5 ≤ 63 * aρ A 1 + 63 := k
  refine ⟨?_, by omega⟩
  unfold nway at q
  have fi : fINF = 1000000 := rfl
  split at q
  · have := congrArg Prod.fst (Option.some.inj q)
    have z : _ / 16 = w1 := this
    omega
  · exact absurd q (by intro z; cases z)
theorem bstN_b {t p : Nat} (hA : AI t A) : ∀ e i u v, e ≤ aρ A 0 → bstN A p e = some (i, u, v) → i < e ∧ u < 62500 ∧ v < 1000000 := by
  intro e
  induction e with
  | zero => intro i u v _ q; cases q
  | succ e ih =>
    intro i u v he q
    unfold bstN at q
    match c : awy A e p with
    | none =>
      rw [c] at q
      have := ih i u v (by omega) q
      omega
    | some (w1, w2, w3, w4, w5) =>
      rw [c] at q
      have b := awy_b hA (by omega) c
      match d : bstN A p e with
      | none =>
        rw [d] at q
        cases q
        omega
      | some (i', u', v') =>
        rw [d] at q
        have b' := ih i' u' v' (by omega) d
        have q' : (if w1 < u' ∨ (w1 = u' ∧ w5 < v') then some (e, w1, w5) else some (i', u', v')) = some (i, u, v) := q
        split at q'
        · cases q'
          omega
        · cases q'
          omega
end RBEST
