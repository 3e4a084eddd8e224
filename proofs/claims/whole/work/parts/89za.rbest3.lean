/-! pure: the reference's bestFor, the call -/
section RBEST3
variable {h : zH} {m : Nat} {A : zSt}
theorem r_bst {t : Nat} (hR : RI h m A) (hA : AI t A) (x : Int32) : RO h m (fX7_bestFor h m x) (bstS A x) := by
  have hT := hR.1
  have n6 : anp A ≤ 6 := hA.2.1.2.2.1
  have c12 := hA.2.2.1.1.1.1
  have isp : fX7_isPlace h m x = some (if x < 0 ∨ nI (anp A) ≤ x then 0 else 1, h) := m_isPlace (h := h) (I := zI h) hT.1 hR.2.2.1.2.2.1 n6 x
  have rf1 := r_ref (k := 1) hT (by omega)
  have rf0 := r_ref (k := 0) hT (by omega)
  rw [if_neg (by decide)] at rf1
  rw [if_pos rfl] at rf0
  unfold bstS
  by_cases c1 : outI x (anp A)
  · rw [if_pos c1] at isp ⊢
    refine RO_err hR (by omega) ?_
    unfold fX7_bestFor
    simp (disch := first | assumption | ((repeat apply RefT.s) <;> assumption) | omega) only [nl, nI_add, pk_mul, Option.bind_some, zb2_some, nI_le_t, nI_le_f, nI_lt_t, nI_lt_f, nI_eq_t, nI_eq_f, nI_m1, nI_em1, ↓reduceIte, Nat.add_zero, nI_n9, hT.1, isp, rf1]
  · rw [if_neg c1] at isp ⊢
    obtain ⟨a, a1, a2, a3⟩ := in_f (by omega) c1
    rw [a3]
    have R0 := RI_0 (v := nI 0) hR
    obtain ⟨h2, l1, l2, l3, l4⟩ := r_bst_L hA a1 (aρ A 0) 0 zF _ R0 (by omega) (by unfold zF; omega)
    have lp : fX7_bestFor_L33 (fun h7 y8 y9 y10 y11 => some (y8, h7)) m (nI a) zF (zsI h m 0 (nI 0)) (nI 4294967287) (nI 0) (nI 0) (nI 0) = some (nI (bstV A a), h2) := l1
    refine ⟨nI (bstV A a), h2, ?_, fun _ => rfl, ?_, l2, fr0.tr l3⟩
    · subst a2
      unfold fX7_bestFor
      simp (disch := first | assumption | ((repeat apply RefT.s) <;> assumption) | omega) only [nl, nI_add, pk_mul, Option.bind_some, zb2_some, nI_le_t, nI_le_f, nI_lt_t, nI_lt_f, nI_eq_t, nI_eq_f, nI_m1, nI_em1, ↓reduceIte, Nat.add_zero, nI_n9, hT.1, isp, rf0]
      exact lp
    · rw [l4, sI_at]
end RBEST3
