/-! pure: the reference's without -/
section RWITHOUT
variable {h h' : zH} {m : Nat} {A : zSt}
theorem r_wo {t : Nat} (hR : RI h m A) (hA : AI t A) (x y z : Int32) : RO h m (fX7_without h m x y z) (woS A x y z) := by
  have hT := hR.1
  have n8 := hA.2.1.1.1
  have n20 := hA.2.1.1.2.1
  have isc := m_isConv hT hR.2.2.1.2.1 n20 x
  have isy : fX7_isFormat h m y = some (if y < 0 ∨ nI (anf A) ≤ y then 0 else 1, h) := m_isFormat (h := h) (I := zI h) hT.1 hR.2.2.1.1 n8 y
  have isz : fX7_isFormat h m z = some (if z < 0 ∨ nI (anf A) ≤ z then 0 else 1, h) := m_isFormat (h := h) (I := zI h) hT.1 hR.2.2.1.1 n8 z
  have rf1 := r_ref (k := 1) hT (by omega)
  have rf0 := r_ref (k := 0) hT (by omega)
  rw [if_neg (by decide)] at rf1
  rw [if_pos rfl] at rf0
  unfold woS
  rw [fX7_without_e]
  by_cases c1 : outI x (anc A)
  · rw [if_pos c1] at isc ⊢
    refine RO_err hR (by omega) ?_
    simp (disch := first | assumption | ((repeat apply RefT.s) <;> assumption) | omega) only [nl, nI_add, pk_mul, Option.bind_some, zb2_some, nI_le_t, nI_le_f, nI_lt_t, nI_lt_f, nI_eq_t, nI_eq_f, nI_m1, nI_em1, ↓reduceIte, Nat.add_zero, nI_n9, hT.1, isc, rf1]
    unfold fX7_without_c1
    simp (disch := first | assumption | ((repeat apply RefT.s) <;> assumption) | omega) only [nl, nI_add, pk_mul, Option.bind_some, zb2_some, nI_le_t, nI_le_f, nI_lt_t, nI_lt_f, nI_eq_t, nI_eq_f, nI_m1, nI_em1, ↓reduceIte, Nat.add_zero, nI_n9]
  · rw [if_neg c1] at isc ⊢
    by_cases c2 : outI y (anf A)
    · rw [if_pos c2] at isy ⊢
      refine RO_err hR (by omega) ?_
      simp (disch := first | assumption | ((repeat apply RefT.s) <;> assumption) | omega) only [nl, nI_add, pk_mul, Option.bind_some, zb2_some, nI_le_t, nI_le_f, nI_lt_t, nI_lt_f, nI_eq_t, nI_eq_f, nI_m1, nI_em1, ↓reduceIte, Nat.add_zero, nI_n9, hT.1, isc, isy]
      unfold fX7_without_c3
      simp (disch := first | assumption | ((repeat apply RefT.s) <;> assumption) | omega) only [nl, nI_add, pk_mul, Option.bind_some, zb2_some, nI_le_t, nI_le_f, nI_lt_t, nI_lt_f, nI_eq_t, nI_eq_f, nI_m1, nI_em1, ↓reduceIte, Nat.add_zero, nI_n9, rf1]
    · rw [if_neg c2] at isy ⊢
      by_cases c3 : outI z (anf A)
      · rw [if_pos c3] at isz ⊢
        refine RO_err hR (by omega) ?_
        simp (disch := first | assumption | ((repeat apply RefT.s) <;> assumption) | omega) only [nl, nI_add, pk_mul, Option.bind_some, zb2_some, nI_le_t, nI_le_f, nI_lt_t, nI_lt_f, nI_eq_t, nI_eq_f, nI_m1, nI_em1, ↓reduceIte, Nat.add_zero, nI_n9, hT.1, isc, isy]
        unfold fX7_without_c3
        simp (disch := first | assumption | ((repeat apply RefT.s) <;> assumption) | omega) only [nl, nI_add, pk_mul, Option.bind_some, zb2_some, nI_le_t, nI_le_f, nI_lt_t, nI_lt_f, nI_eq_t, nI_eq_f, nI_m1, nI_em1, ↓reduceIte, Nat.add_zero, nI_n9, isz, rf1]
        unfold fX7_without_c5
        simp (disch := first | assumption | ((repeat apply RefT.s) <;> assumption) | omega) only [nl, nI_add, pk_mul, Option.bind_some, zb2_some, nI_le_t, nI_le_f, nI_lt_t, nI_lt_f, nI_eq_t, nI_eq_f, nI_m1, nI_em1, ↓reduceIte, Nat.add_zero, nI_n9]
      · rw [if_neg c3] at isz ⊢
        obtain ⟨c, d1, d2, d3⟩ := in_f (by omega) c1
        obtain ⟨a, a1, a2, a3⟩ := in_f (by omega) c2
        obtain ⟨b, b1, b2, b3⟩ := in_f (by omega) c3
        rw [a3, b3, d3]
        have R0 := RI_0 (v := nI 0) hR
        have hT0 : RefT (zsI h m 0 (nI 0)) m := hT.s
        obtain ⟨h2, l1, l2, l3, l4, l5⟩ := r_lay (skip := c) (u := nI c) R0 hA (fun e he => nI_eq (by omega) (by omega))
        have hT2 := l2.1
        have hc := acm_ok (skip := c) hA
        have co : fX7_costOf h2 m (nI a) (nI b) = some (nI (fD 16 (acm A c) (anf A) a b), h2) := t_cost (h := h2) (I := zI h2) hT2 l3 hc a1 b1
        have le : fD 16 (acm A c) (anf A) a b ≤ fINF := fD_le hc
        have fi : fINF = 1000000 := rfl
        have head : ∀ r, fX7_without_c8 m (nI a) (nI b) (nI (fD 16 (acm A c) (anf A) a b)) h2 = r → (if zkd h m = 8 then zb2 (fX7_isConversion h m x) fun w1 h2 => if (w1 : Int32) = 0 then zb2 (fX7_refused h2 m 1) fun w4 h5 => fX7_without_c1 m x y z w4 h5 else zb2 (fX7_isFormat h2 m y) fun w14 h15 => fX7_without_c3 m x y z w14 h15 else none) = r := fun r e => by
          subst a2
          subst b2
          subst d2
          simp (disch := first | assumption | ((repeat apply RefT.s) <;> assumption) | omega) only [nl, nI_add, pk_mul, Option.bind_some, zb2_some, nI_le_t, nI_le_f, nI_lt_t, nI_lt_f, nI_eq_t, nI_eq_f, nI_m1, nI_em1, ↓reduceIte, Nat.add_zero, nI_n9, hT.1, isc, isy]
          unfold fX7_without_c3
          simp (disch := first | assumption | ((repeat apply RefT.s) <;> assumption) | omega) only [nl, nI_add, pk_mul, Option.bind_some, zb2_some, nI_le_t, nI_le_f, nI_lt_t, nI_lt_f, nI_eq_t, nI_eq_f, nI_m1, nI_em1, ↓reduceIte, Nat.add_zero, nI_n9, isz, rf0]
          unfold fX7_without_c7
          simp (disch := first | assumption | ((repeat apply RefT.s) <;> assumption) | omega) only [nl, nI_add, pk_mul, Option.bind_some, zb2_some, nI_le_t, nI_le_f, nI_lt_t, nI_lt_f, nI_eq_t, nI_eq_f, nI_m1, nI_em1, ↓reduceIte, Nat.add_zero, nI_n9, qg15, l1, co]
          exact e
        refine ⟨nI (woV A c a b), h2, head _ ?_, fun _ => rfl, ?_, l2, fr0.tr l4⟩
        · unfold fX7_without_c8 woV
          have dv : nI (fD 16 (acm A c) (anf A) a b) / nI 16 = nI (fD 16 (acm A c) (anf A) a b / 16) := pk_div (by omega) (by omega) (by omega)
          by_cases e : fD 16 (acm A c) (anf A) a b < fINF
          · rw [if_pos e]
            simp (disch := first | assumption | ((repeat apply RefT.s) <;> assumption) | omega) only [nl, nI_add, pk_mul, Option.bind_some, zb2_some, nI_le_t, nI_le_f, nI_lt_t, nI_lt_f, nI_eq_t, nI_eq_f, nI_m1, nI_em1, ↓reduceIte, Nat.add_zero, nI_n9, co, dv]
          · rw [if_neg e]
            simp (disch := first | assumption | ((repeat apply RefT.s) <;> assumption) | omega) only [nl, nI_add, pk_mul, Option.bind_some, zb2_some, nI_le_t, nI_le_f, nI_lt_t, nI_lt_f, nI_eq_t, nI_eq_f, nI_m1, nI_em1, ↓reduceIte, Nat.add_zero, nI_n9]
        · rw [l5, sI_at]
end RWITHOUT
