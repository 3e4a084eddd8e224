/-! pure: the reference's worth -/
def worV (A : zSt) (c : Nat) : Nat := if fD 16 (acm A c) (anf A) (afr A c) (att A c) < fINF ∧ fD 16 (acm A c) (anf A) (afr A c) (att A c) / 16 ≤ 99 then fD 16 (acm A c) (anf A) (afr A c) (att A c) / 16 else 99
def worS (A : zSt) (x : Int32) : zAn := if outI x (anc A) then (1, 0, A) else (0, nI (worV A (cl x)), A)
section RWORTH
variable {h h' : zH} {m : Nat} {A : zSt}
theorem r_wof {t c : Nat} (hR : RI h m A) (hA : AI t A) (hc' : c < anc A) : ∃ h2, fX7_worthOf h m (nI c) = some (nI (worV A c), h2) ∧ RI h2 m A ∧ Fr m (m + 24) h h2 ∧ zI h2 m = zI h m := by
  have hT := hR.1
  have n20 := hA.2.1.1.2.1
  obtain ⟨h2, l1, l2, l3, l4, l5⟩ := r_lay (skip := c) (u := nI c) hR hA (fun e he => nI_eq (by omega) (by omega))
  have hT2 := l2.1
  have hc := acm_ok (skip := c) hA
  obtain ⟨-, -, ⟨-, -, -, b1, b2, -⟩, -⟩ := id l2
  have bo := hA.2.1.1.2.2.1 c hc'
  have co : fX7_costOf h2 m (nI (afr A c)) (nI (att A c)) = some (nI (fD 16 (acm A c) (anf A) (afr A c) (att A c)), h2) := t_cost (h := h2) (I := zI h2) hT2 l3 hc bo.1 bo.2.1
  have le : fD 16 (acm A c) (anf A) (afr A c) (att A c) ≤ fINF := fD_le hc
  have fi : fINF = 1000000 := rfl
  have dv : nI (fD 16 (acm A c) (anf A) (afr A c) (att A c)) / nI 16 = nI (fD 16 (acm A c) (anf A) (afr A c) (att A c) / 16) := pk_div (by omega) (by omega) (by omega)
  have g2 : zaI h2 (m + 2) (nI c) = some (nI (afr A c)) := by rw [qa2 hT2 (by omega), b1]; rfl
  have g3 : zaI h2 (m + 3) (nI c) = some (nI (att A c)) := by rw [qa3 hT2 (by omega), b2]; rfl
  refine ⟨h2, ?_, l2, l4, l5⟩
  unfold fX7_worthOf worV
  by_cases e : fD 16 (acm A c) (anf A) (afr A c) (att A c) < fINF
  · by_cases q : fD 16 (acm A c) (anf A) (afr A c) (att A c) / 16 ≤ 99
    · rw [if_pos (show fD 16 (acm A c) (anf A) (afr A c) (att A c) < fINF ∧ fD 16 (acm A c) (anf A) (afr A c) (att A c) / 16 ≤ 99 from ⟨e, q⟩)]
      simp (disch := first | assumption | ((repeat apply RefT.s) <;> assumption) | omega) only [nl, nI_add, pk_mul, Option.bind_some, zb2_some, nI_le_t, nI_le_f, nI_lt_t, nI_lt_f, nI_eq_t, nI_eq_f, nI_m1, nI_em1, ↓reduceIte, Nat.add_zero, nI_n9, hT.1, qg15, l1, qg2, qg3, g2, g3, co, dv]
    · rw [if_neg (show ¬ (fD 16 (acm A c) (anf A) (afr A c) (att A c) < fINF ∧ fD 16 (acm A c) (anf A) (afr A c) (att A c) / 16 ≤ 99) from fun z => q z.2)]
      simp (disch := first | assumption | ((repeat apply RefT.s) <;> assumption) | omega) only [nl, nI_add, pk_mul, Option.bind_some, zb2_some, nI_le_t, nI_le_f, nI_lt_t, nI_lt_f, nI_eq_t, nI_eq_f, nI_m1, nI_em1, ↓reduceIte, Nat.add_zero, nI_n9, hT.1, qg15, l1, qg2, qg3, g2, g3, co, dv]
  · rw [if_neg (show ¬ (fD 16 (acm A c) (anf A) (afr A c) (att A c) < fINF ∧ fD 16 (acm A c) (anf A) (afr A c) (att A c) / 16 ≤ 99) from fun z => e z.1)]
    simp (disch := first | assumption | ((repeat apply RefT.s) <;> assumption) | omega) only [nl, nI_add, pk_mul, Option.bind_some, zb2_some, nI_le_t, nI_le_f, nI_lt_t, nI_lt_f, nI_eq_t, nI_eq_f, nI_m1, nI_em1, ↓reduceIte, Nat.add_zero, nI_n9, hT.1, qg15, l1, qg2, qg3, g2, g3, co, dv]
theorem r_wor {t : Nat} (hR : RI h m A) (hA : AI t A) (x : Int32) : RO h m (fX7_worth h m x) (worS A x) := by
  have hT := hR.1
  have n20 := hA.2.1.1.2.1
  have isc := m_isConv hT hR.2.2.1.2.1 n20 x
  have rf1 := r_ref (k := 1) hT (by omega)
  have rf0 := r_ref (k := 0) hT (by omega)
  rw [if_neg (by decide)] at rf1
  rw [if_pos rfl] at rf0
  unfold worS
  by_cases c1 : outI x (anc A)
  · rw [if_pos c1] at isc ⊢
    refine RO_err hR (by omega) ?_
    unfold fX7_worth
    simp (disch := first | assumption | ((repeat apply RefT.s) <;> assumption) | omega) only [nl, nI_add, pk_mul, Option.bind_some, zb2_some, nI_le_t, nI_le_f, nI_lt_t, nI_lt_f, nI_eq_t, nI_eq_f, nI_m1, nI_em1, ↓reduceIte, Nat.add_zero, nI_n9, hT.1, isc, rf1]
  · rw [if_neg c1] at isc ⊢
    obtain ⟨c, d1, d2, d3⟩ := in_f (by omega) c1
    rw [d3]
    have R0 := RI_0 (v := nI 0) hR
    have hT0 : RefT (zsI h m 0 (nI 0)) m := hT.s
    obtain ⟨h2, l1, l2, l4, l5⟩ := r_wof R0 hA d1
    refine ⟨nI (worV A c), h2, ?_, fun _ => rfl, ?_, l2, fr0.tr l4⟩
    · subst d2
      unfold fX7_worth
      simp (disch := first | assumption | ((repeat apply RefT.s) <;> assumption) | omega) only [nl, nI_add, pk_mul, Option.bind_some, zb2_some, nI_le_t, nI_le_f, nI_lt_t, nI_lt_f, nI_eq_t, nI_eq_f, nI_m1, nI_em1, ↓reduceIte, Nat.add_zero, nI_n9, hT.1, isc, rf0, l1]
    · rw [l5, sI_at]
end RWORTH
