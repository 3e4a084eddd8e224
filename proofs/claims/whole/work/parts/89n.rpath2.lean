/-! pure: the reference's sizeAfter and without -/
def szaV (A : zSt) (a b v : Nat) : Nat := if fD 16 (acm0 A) (anf A) a b < fINF then psize (afr A) (att A) (agr A) (anc A) (acm0 A) (anf A) a b v else 4294967287
def szaS (A : zSt) (x y z : Int32) : zAn := if outI x (anf A) then (1, 0, A) else if outI y (anf A) then (1, 0, A) else if ¬ (1 ≤ z ∧ z ≤ 99999) then (2, 0, A) else (0, nI (szaV A (cl x) (cl y) (cl z)), A)
def woV (A : zSt) (c a b : Nat) : Nat := if fD 16 (acm A c) (anf A) a b < fINF then fD 16 (acm A c) (anf A) a b / 16 else 4294967287
def woS (A : zSt) (x y z : Int32) : zAn := if outI x (anc A) then (1, 0, A) else if outI y (anf A) then (1, 0, A) else if outI z (anf A) then (1, 0, A) else (0, nI (woV A (cl x) (cl y) (cl z)), A)
section RPATH2
variable {h h' : zH} {m : Nat} {A : zSt}
theorem r_sza {t : Nat} (hR : RI h m A) (hA : AI t A) (x y z : Int32) : RO h m (fX7_sizeAfter h m x y z) (szaS A x y z) := by
  have hT := hR.1
  have n8 := hA.2.1.1.1
  have isx : fX7_isFormat h m x = some (if x < 0 ∨ nI (anf A) ≤ x then 0 else 1, h) := m_isFormat (h := h) (I := zI h) hT.1 hR.2.2.1.1 n8 x
  have isy : fX7_isFormat h m y = some (if y < 0 ∨ nI (anf A) ≤ y then 0 else 1, h) := m_isFormat (h := h) (I := zI h) hT.1 hR.2.2.1.1 n8 y
  have pin : fX7_in h z.toInt64 1 99999 = some (if 1 ≤ z ∧ z ≤ 99999 then 1 else 0, h) := p_in h z 1 99999
  have rf1 := r_ref (k := 1) hT (by omega)
  have rf2 := r_ref (k := 2) hT (by omega)
  have rf0 := r_ref (k := 0) hT (by omega)
  rw [if_neg (by decide)] at rf1 rf2
  rw [if_pos rfl] at rf0
  unfold szaS
  rw [fX7_sizeAfter_e]
  by_cases c1 : outI x (anf A)
  · rw [if_pos c1] at isx ⊢
    refine RO_err hR (by omega) ?_
    simp (disch := first | assumption | ((repeat apply RefT.s) <;> assumption) | omega) only [nl, nI_add, pk_mul, Option.bind_some, zb2_some, nI_le_t, nI_le_f, nI_lt_t, nI_lt_f, nI_eq_t, nI_eq_f, nI_m1, nI_em1, ↓reduceIte, Nat.add_zero, nI_n9, hT.1, isx, rf1]
    unfold fX7_sizeAfter_c1
    simp (disch := first | assumption | ((repeat apply RefT.s) <;> assumption) | omega) only [nl, nI_add, pk_mul, Option.bind_some, zb2_some, nI_le_t, nI_le_f, nI_lt_t, nI_lt_f, nI_eq_t, nI_eq_f, nI_m1, nI_em1, ↓reduceIte, Nat.add_zero, nI_n9]
  · rw [if_neg c1] at isx ⊢
    by_cases c2 : outI y (anf A)
    · rw [if_pos c2] at isy ⊢
      refine RO_err hR (by omega) ?_
      simp (disch := first | assumption | ((repeat apply RefT.s) <;> assumption) | omega) only [nl, nI_add, pk_mul, Option.bind_some, zb2_some, nI_le_t, nI_le_f, nI_lt_t, nI_lt_f, nI_eq_t, nI_eq_f, nI_m1, nI_em1, ↓reduceIte, Nat.add_zero, nI_n9, hT.1, isx, isy]
      unfold fX7_sizeAfter_c3
      simp (disch := first | assumption | ((repeat apply RefT.s) <;> assumption) | omega) only [nl, nI_add, pk_mul, Option.bind_some, zb2_some, nI_le_t, nI_le_f, nI_lt_t, nI_lt_f, nI_eq_t, nI_eq_f, nI_m1, nI_em1, ↓reduceIte, Nat.add_zero, nI_n9, rf1]
    · rw [if_neg c2] at isy ⊢
      by_cases c3 : 1 ≤ z ∧ z ≤ 99999
      · have c3' : ¬ ¬ (1 ≤ z ∧ z ≤ 99999) := fun q => q c3
        rw [if_neg c3']
        rw [if_pos c3] at pin
        obtain ⟨a, a1, a2, a3⟩ := in_f (by omega) c1
        obtain ⟨b, b1, b2, b3⟩ := in_f (by omega) c2
        obtain ⟨v, v1, v2, v3, v4⟩ := in_cost (K := 99999) (k := 99999) rfl (by omega) c3
        rw [a3, b3, v4]
        have R0 := RI_0 (v := nI 0) hR
        have hT0 : RefT (zsI h m 0 (nI 0)) m := hT.s
        obtain ⟨h2, l1, l2, l3, l4, l5⟩ := r_lay (skip := 4294967287) (u := -9) R0 hA none_no
        have l1' : fX7_layTable (zsI h m 0 (nI 0)) m (m + 15) (nI 4294967287) = some h2 := by rw [← nI_n9]; exact l1
        have hT2 := l2.1
        have hc := acm_ok (skip := 4294967287) hA
        have co : fX7_costOf h2 m (nI a) (nI b) = some (nI (fD 16 (acm0 A) (anf A) a b), h2) := t_cost (h := h2) (I := zI h2) hT2 l3 hc a1 b1
        have le : fD 16 (acm0 A) (anf A) a b ≤ fINF := fD_le hc
        have fi : fINF = 1000000 := rfl
        have head : ∀ r, fX7_sizeAfter_c8 m (nI a) (nI b) (nI v) (nI (fD 16 (acm0 A) (anf A) a b)) h2 = r → (if zkd h m = 8 then zb2 (fX7_isFormat h m x) fun w1 h2 => if (w1 : Int32) = 0 then zb2 (fX7_refused h2 m 1) fun w4 h5 => fX7_sizeAfter_c1 m x y z w4 h5 else zb2 (fX7_isFormat h2 m y) fun w20 h21 => fX7_sizeAfter_c3 m x y z w20 h21 else none) = r := fun r e => by
          subst a2
          subst b2
          subst v3
          simp (disch := first | assumption | ((repeat apply RefT.s) <;> assumption) | omega) only [nl, nI_add, pk_mul, Option.bind_some, zb2_some, nI_le_t, nI_le_f, nI_lt_t, nI_lt_f, nI_eq_t, nI_eq_f, nI_m1, nI_em1, ↓reduceIte, Nat.add_zero, nI_n9, hT.1, isx, isy]
          unfold fX7_sizeAfter_c3
          simp (disch := first | assumption | ((repeat apply RefT.s) <;> assumption) | omega) only [nl, nI_add, pk_mul, Option.bind_some, zb2_some, nI_le_t, nI_le_f, nI_lt_t, nI_lt_f, nI_eq_t, nI_eq_f, nI_m1, nI_em1, ↓reduceIte, Nat.add_zero, nI_n9, pin, rf0]
          unfold fX7_sizeAfter_c7
          simp (disch := first | assumption | ((repeat apply RefT.s) <;> assumption) | omega) only [nl, nI_add, pk_mul, Option.bind_some, zb2_some, nI_le_t, nI_le_f, nI_lt_t, nI_lt_f, nI_eq_t, nI_eq_f, nI_m1, nI_em1, ↓reduceIte, Nat.add_zero, nI_n9, qg15, l1', co]
          exact e
        refine ⟨nI (szaV A a b v), h2, head _ ?_, fun _ => rfl, ?_, l2, fr0.tr l4⟩
        · unfold fX7_sizeAfter_c8 szaV
          by_cases c : fD 16 (acm0 A) (anf A) a b < fINF
          · rw [if_pos c]
            have so : fX7_sizeOn h2 m (nI a) (nI b) (nI v) = some (nI (psize (afr A) (att A) (agr A) (anc A) (acm0 A) (anf A) a b v), h2) := n_sizeOn (h := h2) (I := zI h2) hT2 l2.2.2.1 hA.2.1 l3 hc acm_fr a1 b1 c v2
            simp (disch := first | assumption | ((repeat apply RefT.s) <;> assumption) | omega) only [nl, nI_add, pk_mul, Option.bind_some, zb2_some, nI_le_t, nI_le_f, nI_lt_t, nI_lt_f, nI_eq_t, nI_eq_f, nI_m1, nI_em1, ↓reduceIte, Nat.add_zero, nI_n9, so]
          · rw [if_neg c]
            simp (disch := first | assumption | ((repeat apply RefT.s) <;> assumption) | omega) only [nl, nI_add, pk_mul, Option.bind_some, zb2_some, nI_le_t, nI_le_f, nI_lt_t, nI_lt_f, nI_eq_t, nI_eq_f, nI_m1, nI_em1, ↓reduceIte, Nat.add_zero, nI_n9]
        · rw [l5, sI_at]
      · rw [if_pos c3]
        rw [if_neg c3] at pin
        refine RO_err hR (by omega) ?_
        simp (disch := first | assumption | ((repeat apply RefT.s) <;> assumption) | omega) only [nl, nI_add, pk_mul, Option.bind_some, zb2_some, nI_le_t, nI_le_f, nI_lt_t, nI_lt_f, nI_eq_t, nI_eq_f, nI_m1, nI_em1, ↓reduceIte, Nat.add_zero, nI_n9, hT.1, isx, isy]
        unfold fX7_sizeAfter_c3
        simp (disch := first | assumption | ((repeat apply RefT.s) <;> assumption) | omega) only [nl, nI_add, pk_mul, Option.bind_some, zb2_some, nI_le_t, nI_le_f, nI_lt_t, nI_lt_f, nI_eq_t, nI_eq_f, nI_m1, nI_em1, ↓reduceIte, Nat.add_zero, nI_n9, pin, rf2]
        unfold fX7_sizeAfter_c5
        simp (disch := first | assumption | ((repeat apply RefT.s) <;> assumption) | omega) only [nl, nI_add, pk_mul, Option.bind_some, zb2_some, nI_le_t, nI_le_f, nI_lt_t, nI_lt_f, nI_eq_t, nI_eq_f, nI_m1, nI_em1, ↓reduceIte, Nat.add_zero, nI_n9]
end RPATH2
