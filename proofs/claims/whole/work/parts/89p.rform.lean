/-! pure: the reference's form -/
section RFORM
variable {h h' : zH} {m : Nat} {A : zSt}
theorem r_frm {t : Nat} (hR : RI h m A) (hA : AI t A) (x y z : Int32) : RO h m (fX7_form h m x y z) (frmS A x y z) := by
  obtain ⟨hT, -, -, r5, -⟩ := id hR
  have n8 := hA.2.1.1.1
  have isy : fX7_isFormat h m y = some (if y < 0 ∨ nI (anf A) ≤ y then 0 else 1, h) := m_isFormat (h := h) (I := zI h) hT.1 hR.2.2.1.1 n8 y
  obtain ⟨a1, hO, ⟨a3, a3t⟩, a4, a5, a6⟩ := hA
  have c12 := a3.1.1
  have ise := q_isEntry hT r5 c12 x
  have rf1 := r_ref (k := 1) hT (by omega)
  have rf0 := r_ref (k := 0) hT (by omega)
  rw [if_neg (by decide)] at rf1
  rw [if_pos rfl] at rf0
  unfold frmS
  by_cases c1 : outI x (aρ A 0)
  · rw [if_pos c1] at ise ⊢
    refine RO_err hR (by omega) ?_
    unfold fX7_form
    simp (disch := first | assumption | ((repeat apply RefT.s) <;> assumption) | omega) only [nl, nI_add, pk_mul, Option.bind_some, zb2_some, nI_le_t, nI_le_f, nI_lt_t, nI_lt_f, nI_eq_t, nI_eq_f, nI_m1, nI_em1, ↓reduceIte, Nat.add_zero, nI_n9, hT.1, qg15, ise, rf1]
  · rw [if_neg c1] at ise ⊢
    obtain ⟨e, f1, f2, f3⟩ := in_f (by omega) c1
    by_cases c2 : outI y (anf A)
    · rw [if_pos c2] at isy ⊢
      refine RO_err hR (by omega) ?_
      unfold fX7_form
      simp (disch := first | assumption | ((repeat apply RefT.s) <;> assumption) | omega) only [nl, nI_add, pk_mul, Option.bind_some, zb2_some, nI_le_t, nI_le_f, nI_lt_t, nI_lt_f, nI_eq_t, nI_eq_f, nI_m1, nI_em1, ↓reduceIte, Nat.add_zero, nI_n9, hT.1, qg15, ise, isy, rf1]
    · rw [if_neg c2] at isy ⊢
      obtain ⟨f, g1, g2, g3⟩ := in_f (by omega) c2
      rw [f3, g3]
      have hT1 : RefT (zsI h m 0 (nI 0)) m := hT.s
      have e15 : zI (zsI h m 0 (nI 0)) (m + 15) = nr (aρ A) := by rw [sI_a (by omega)]; exact r5
      have oe := a3.1.2.2.2.2 e f1
      have rd : ∀ j, j < 360 → zaI (zsI h m 0 (nI 0)) (m + 15) (nI j) = some (nI (aρ A j)) := fun j hj => by rw [qa15 hT1 hj, e15]; rfl
      have d0 := rd (24 + 28 * e + f) (by omega)
      have d8 := rd (24 + 28 * e + 8 + f) (by omega)
      have d16 := rd (24 + 28 * e + 16 + f) (by omega)
      refine RO_get hR ?_
      subst f2
      subst g2
      unfold fX7_form frmV
      by_cases k : aρ A (24 + 28 * e + 16 + f) = 0
      · rw [k] at d16
        rw [if_pos k]
        simp (disch := first | assumption | ((repeat apply RefT.s) <;> assumption) | omega) only [nl, nI_add, pk_mul, Option.bind_some, zb2_some, nI_le_t, nI_le_f, nI_lt_t, nI_lt_f, nI_eq_t, nI_eq_f, nI_m1, nI_em1, ↓reduceIte, Nat.add_zero, nI_n9, hT.1, qg15, ise, isy, rf0, p_at, d16]
      · have lt : aρ A (24 + 28 * e + 16 + f) < 2 ^ 31 := by
          have := (oe.1 f (by omega)).1; omega
        have k' : (nI (aρ A (24 + 28 * e + 16 + f)) = nI 0) = False := nI_eq_f k lt (by omega)
        rw [if_neg k]
        by_cases cz : z = 0
        · rw [if_pos cz]
          subst cz
          simp (disch := first | assumption | ((repeat apply RefT.s) <;> assumption) | omega) only [nl, nI_add, pk_mul, Option.bind_some, zb2_some, nI_le_t, nI_le_f, nI_lt_t, nI_lt_f, nI_eq_t, nI_eq_f, nI_m1, nI_em1, ↓reduceIte, Nat.add_zero, nI_n9, hT.1, qg15, ise, isy, rf0, p_at, d16, d0, k']
        · rw [if_neg cz]
          have cz' : (z = nI 0) = False := eq_false cz
          simp (disch := first | assumption | ((repeat apply RefT.s) <;> assumption) | omega) only [nl, nI_add, pk_mul, Option.bind_some, zb2_some, nI_le_t, nI_le_f, nI_lt_t, nI_lt_f, nI_eq_t, nI_eq_f, nI_m1, nI_em1, ↓reduceIte, Nat.add_zero, nI_n9, hT.1, qg15, ise, isy, rf0, p_at, d16, d8, k', cz']
end RFORM
