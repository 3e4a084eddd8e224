/-! pure: the reference's bestFor, the loop -/
def bT1 (s : Option (Nat × Nat × Nat)) : Nat := match s with
  | none => 4294967287
  | some (i, _, _) => i
def bT2 (s : Option (Nat × Nat × Nat)) : Nat := match s with
  | none => 0
  | some (_, u, _) => u
def bT3 (s : Option (Nat × Nat × Nat)) : Nat := match s with
  | none => 0
  | some (_, _, v) => v
section RBEST2
variable {m : Nat} {A : zSt}
theorem r_bst_L {t p : Nat} (hA : AI t A) (hp : p < anp A) : ∀ d e n h, RI h m A → e + d = aρ A 0 → d < n → ∃ h2, fX7_bestFor_L33 (fun h7 y8 y9 y10 y11 => some (y8, h7)) m (nI p) n h (nI (bT1 (bstN A p e))) (nI (bT2 (bstN A p e))) (nI (bT3 (bstN A p e))) (nI e) = some (nI (bT1 (bstN A p (aρ A 0))), h2) ∧ RI h2 m A ∧ Fr m (m + 24) h h2 ∧ zI h2 m 0 = zI h m 0 := by
  have c12 := hA.2.2.1.1.1.1
  intro d
  induction d with
  | zero =>
    intro e n h hR hd hn'
    have hT := hR.1
    have r5 := hR.2.2.2.1
    obtain ⟨n, rfl⟩ := fuel1 hn'
    have g : zaI h (m + 15) (nI 0) = some (nI (aρ A 0)) := by rw [qa15 hT (by omega), r5]; rfl
    have e0 : e = aρ A 0 := by omega
    refine ⟨h, ?_, hR, Fr.rf, rfl⟩
    rw [fX7_bestFor_L33, e0]
    simp (disch := first | assumption | ((repeat apply RefT.s) <;> assumption) | omega) only [nl, nI_add, pk_mul, Option.bind_some, zb2_some, nI_le_t, nI_le_f, nI_lt_t, nI_lt_f, nI_eq_t, nI_eq_f, nI_m1, nI_em1, ↓reduceIte, Nat.add_zero, nI_n9, qg15, g]
  | succ d ih =>
    intro e n h hR hd hn'
    have hT := hR.1
    have r5 := hR.2.2.2.1
    obtain ⟨n, rfl⟩ := fuel1 hn'
    have g : zaI h (m + 15) (nI 0) = some (nI (aρ A 0)) := by rw [qa15 hT (by omega), r5]; rfl
    obtain ⟨f0, f1⟩ := r_fw hR hA (show e < aρ A 0 by omega) hp
    have be : bstN A p (e + 1) = match awy A e p with
      | none => bstN A p e
      | some (w1, _, _, _, w5) => match bstN A p e with
        | none => some (e, w1, w5)
        | some (i, u, v) => if w1 < u ∨ (w1 = u ∧ w5 < v) then some (e, w1, w5) else some (i, u, v) := rfl
    match q : awy A e p with
    | none =>
      obtain ⟨h1, k1, k2, k3, k4⟩ := f0 q
      obtain ⟨h2, l1, l2, l3, l4⟩ := ih (e + 1) n h1 k2 (by omega) (by omega)
      rw [be, q] at l1
      refine ⟨h2, ?_, l2, k3.tr l3, l4.trans k4⟩
      rw [fX7_bestFor_L33]
      simp (disch := first | assumption | ((repeat apply RefT.s) <;> assumption) | omega) only [nl, nI_add, pk_mul, Option.bind_some, zb2_some, nI_le_t, nI_le_f, nI_lt_t, nI_lt_f, nI_eq_t, nI_eq_f, nI_m1, nI_em1, ↓reduceIte, Nat.add_zero, nI_n9, qg15, g, k1]
      exact l1
    | some (w1, w2, w3, w4, w5) =>
      obtain ⟨h1, k1, k2, k3, k4, k5, k6, k7, k8, k9⟩ := f1 _ _ _ _ _ q
      obtain ⟨h2, l1, l2, l3, l4⟩ := ih (e + 1) n h1 k2 (by omega) (by omega)
      rw [be, q] at l1
      have hT1 := k2.1
      have b := awy_b hA (by omega) q
      refine ⟨h2, ?_, l2, k3.tr l3, l4.trans k4⟩
      rw [fX7_bestFor_L33]
      match c : bstN A p e with
      | none =>
        rw [c] at l1
        have ng : (nI 4294967287 < nI 0) = True := eq_true (by decide)
        unfold bT1 bT2 bT3
        unfold bT1 bT2 bT3 at l1
        simp (disch := first | assumption | ((repeat apply RefT.s) <;> assumption) | omega) only [nl, nI_add, pk_mul, Option.bind_some, zb2_some, nI_le_t, nI_le_f, nI_lt_t, nI_lt_f, nI_eq_t, nI_eq_f, nI_m1, nI_em1, ↓reduceIte, Nat.add_zero, nI_n9, qg15, g, k1, ng, qI, k7, k9]
        exact l1
      | some (i, u, v) =>
        have b' := bstN_b hA e i u v (by omega) c
        have l1' : ∀ s, (if w1 < u ∨ (w1 = u ∧ w5 < v) then some (e, w1, w5) else some (i, u, v)) = s → fX7_bestFor_L33 (fun h7 y8 y9 y10 y11 => some (y8, h7)) m (nI p) n h1 (nI (bT1 s)) (nI (bT2 s)) (nI (bT3 s)) (nI (e + 1)) = some (nI (bT1 (bstN A p (aρ A 0))), h2) := fun s hs => by
          rw [c] at l1
          rw [← hs]
          exact l1
        have y1 : fX7_bestFor_L33 (fun h7 y8 y9 y10 y11 => some (y8, h7)) m (nI p) n h1 (nI e) (nI w1) (nI w5) (nI (e + 1)) = some (nI (bT1 (bstN A p (aρ A 0))), h2) ∨ ¬ (w1 < u ∨ (w1 = u ∧ w5 < v)) := by
          by_cases z : w1 < u ∨ (w1 = u ∧ w5 < v)
          · exact Or.inl (l1' _ (if_pos z))
          · exact Or.inr z
        have y2 : fX7_bestFor_L33 (fun h7 y8 y9 y10 y11 => some (y8, h7)) m (nI p) n h1 (nI i) (nI u) (nI v) (nI (e + 1)) = some (nI (bT1 (bstN A p (aρ A 0))), h2) ∨ (w1 < u ∨ (w1 = u ∧ w5 < v)) := by
          by_cases z : w1 < u ∨ (w1 = u ∧ w5 < v)
          · exact Or.inr z
          · exact Or.inl (l1' _ (if_neg z))
        have t1 : bT1 (some (i, u, v)) = i := rfl
        have t2 : bT2 (some (i, u, v)) = u := rfl
        have t3 : bT3 (some (i, u, v)) = v := rfl
        rw [t1, t2, t3]
        by_cases z1 : w1 < u
        · have y := y1.resolve_right (fun q => q (Or.inl z1))
          simp (disch := first | assumption | ((repeat apply RefT.s) <;> assumption) | omega) only [nl, nI_add, pk_mul, Option.bind_some, zb2_some, nI_le_t, nI_le_f, nI_lt_t, nI_lt_f, nI_eq_t, nI_eq_f, nI_m1, nI_em1, ↓reduceIte, Nat.add_zero, nI_n9, qg15, g, k1, qI, k7, k9, y]
        · by_cases z2 : w1 = u
          · by_cases z3 : w5 < v
            · have y := y1.resolve_right (fun q => q (Or.inr ⟨z2, z3⟩))
              simp (disch := first | assumption | ((repeat apply RefT.s) <;> assumption) | omega) only [nl, nI_add, pk_mul, Option.bind_some, zb2_some, nI_le_t, nI_le_f, nI_lt_t, nI_lt_f, nI_eq_t, nI_eq_f, nI_m1, nI_em1, ↓reduceIte, Nat.add_zero, nI_n9, qg15, g, k1, qI, k7, k9, y]
            · have y := y2.resolve_right (fun q => by omega)
              simp (disch := first | assumption | ((repeat apply RefT.s) <;> assumption) | omega) only [nl, nI_add, pk_mul, Option.bind_some, zb2_some, nI_le_t, nI_le_f, nI_lt_t, nI_lt_f, nI_eq_t, nI_eq_f, nI_m1, nI_em1, ↓reduceIte, Nat.add_zero, nI_n9, qg15, g, k1, qI, k7, k9, y]
          · have y := y2.resolve_right (fun q => by omega)
            simp (disch := first | assumption | ((repeat apply RefT.s) <;> assumption) | omega) only [nl, nI_add, pk_mul, Option.bind_some, zb2_some, nI_le_t, nI_le_f, nI_lt_t, nI_lt_f, nI_eq_t, nI_eq_f, nI_m1, nI_em1, ↓reduceIte, Nat.add_zero, nI_n9, qg15, g, k1, qI, k7, k9, y]
end RBEST2
