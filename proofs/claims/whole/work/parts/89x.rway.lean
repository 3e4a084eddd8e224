/-! pure: the reference's way -/
def fX7_way_b (a0 : Nat) (a1 a2 a3 : Int32) (w59 : Int32) (h60 : zH) : Option (Int32 × zH) :=
    if (w59 : Int32) = 0 then
    (zgP h60 7 a0 24).bind fun w62 =>
    zb2 (fX7_findWay h60 (a0) (w62) (a1) (a2)) fun w63 h64 =>
    if (w63 : Int32) = 0 then
    some ((-9), h64)
    else
    if (a3 : Int32) = 0 then
    (zgI h64 7 a0 35).bind fun w67 =>
    some (w67, h64)
    else
    if (a3 : Int32) = 1 then
    (zgI h64 7 a0 33).bind fun w69 =>
    some (w69, h64)
    else
    if (a3 : Int32) = 2 then
    (zgI h64 7 a0 34).bind fun w71 =>
    some (w71, h64)
    else
    if (a3 : Int32) = 3 then
    (zgI h64 7 a0 36).bind fun w73 =>
    some (w73, h64)
    else
    (zgI h64 7 a0 37).bind fun w74 =>
    some (w74, h64)
    else
    some (0, h60)
theorem fX7_way_e {h : zH} {a0 : Nat} {a1 a2 a3 : Int32} : fX7_way h a0 a1 a2 a3 = (
    if zkd h a0 = 8 then
    (zgP h 7 a0 24).bind fun w1 =>
    zb2 (fX7_isEntry h (w1) (a1)) fun w2 h3 =>
    if (w2 : Int32) = 0 then
    zb2 (fX7_refused h3 (a0) (1)) fun w5 h6 => fX7_way_b a0 a1 a2 a3 w5 h6
    else
    zb2 (fX7_isPlace h3 (a0) (a2)) fun w21 h22 =>
    if (w21 : Int32) = 0 then
    zb2 (fX7_refused h22 (a0) (1)) fun w5 h6 => fX7_way_b a0 a1 a2 a3 w5 h6
    else
    zb2 (fX7_in h22 ((a3 : Int32).toInt64) (0) (4)) fun w40 h41 =>
    if (w40 : Int32) = 0 then
    zb2 (fX7_refused h41 (a0) (2)) fun w5 h6 => fX7_way_b a0 a1 a2 a3 w5 h6
    else
    zb2 (fX7_refused h41 (a0) (0)) fun w5 h6 => fX7_way_b a0 a1 a2 a3 w5 h6
    else none) := rfl
def wayV (A : zSt) (e p k : Nat) : Nat := match awy A e p with
  | none => 4294967287
  | some (w1, w2, w3, w4, w5) => if k = 0 then w1 else if k = 1 then w2 else if k = 2 then w3 else if k = 3 then w4 else w5
def wayS (A : zSt) (x y z : Int32) : zAn := if outI x (aρ A 0) then (1, 0, A) else if outI y (anp A) then (1, 0, A) else if outI z 5 then (2, 0, A) else (0, nI (wayV A (cl x) (cl y) (cl z)), A)
section RWAY
variable {h : zH} {m : Nat} {A : zSt}
theorem r_way_b {t e p k : Nat} (hR : RI h m A) (hA : AI t A) (he : e < aρ A 0) (hp : p < anp A) (hk : k < 5) : ∃ h2, fX7_way_b m (nI e) (nI p) (nI k) (nI 0) h = some (nI (wayV A e p k), h2) ∧ RI h2 m A ∧ Fr m (m + 24) h h2 ∧ zI h2 m 0 = zI h m 0 := by
  have hT := hR.1
  obtain ⟨f0, f1⟩ := r_fw hR hA he hp
  unfold fX7_way_b wayV
  match q : awy A e p with
  | none =>
    obtain ⟨h2, k1, k2, k3, k4⟩ := f0 q
    refine ⟨h2, ?_, k2, k3, k4⟩
    simp (disch := first | assumption | ((repeat apply RefT.s) <;> assumption) | omega) only [nl, nI_add, pk_mul, Option.bind_some, zb2_some, nI_le_t, nI_le_f, nI_lt_t, nI_lt_f, nI_eq_t, nI_eq_f, nI_m1, nI_em1, ↓reduceIte, Nat.add_zero, nI_n9, qg15, k1]
  | some (w1, w2, w3, w4, w5) =>
    obtain ⟨h2, k1, k2, k3, k4, k5, k6, k7, k8, k9⟩ := f1 w1 w2 w3 w4 w5 q
    have hT2 := k2.1
    refine ⟨h2, ?_, k2, k3, k4⟩
    match k, hk with
    | 0, _ => simp (disch := first | assumption | ((repeat apply RefT.s) <;> assumption) | omega) only [nl, nI_add, pk_mul, Option.bind_some, zb2_some, nI_le_t, nI_le_f, nI_lt_t, nI_lt_f, nI_eq_t, nI_eq_f, nI_m1, nI_em1, ↓reduceIte, Nat.add_zero, nI_n9, qg15, k1, qI, k7]
    | 1, _ => simp (disch := first | assumption | ((repeat apply RefT.s) <;> assumption) | omega) only [nl, nI_add, pk_mul, Option.bind_some, zb2_some, nI_le_t, nI_le_f, nI_lt_t, nI_lt_f, nI_eq_t, nI_eq_f, nI_m1, nI_em1, ↓reduceIte, Nat.add_zero, nI_n9, qg15, k1, qI, k5]; rfl
    | 2, _ => simp (disch := first | assumption | ((repeat apply RefT.s) <;> assumption) | omega) only [nl, nI_add, pk_mul, Option.bind_some, zb2_some, nI_le_t, nI_le_f, nI_lt_t, nI_lt_f, nI_eq_t, nI_eq_f, nI_m1, nI_em1, ↓reduceIte, Nat.add_zero, nI_n9, qg15, k1, qI, k6]; rfl
    | 3, _ => simp (disch := first | assumption | ((repeat apply RefT.s) <;> assumption) | omega) only [nl, nI_add, pk_mul, Option.bind_some, zb2_some, nI_le_t, nI_le_f, nI_lt_t, nI_lt_f, nI_eq_t, nI_eq_f, nI_m1, nI_em1, ↓reduceIte, Nat.add_zero, nI_n9, qg15, k1, qI, k8]; rfl
    | 4, _ => simp (disch := first | assumption | ((repeat apply RefT.s) <;> assumption) | omega) only [nl, nI_add, pk_mul, Option.bind_some, zb2_some, nI_le_t, nI_le_f, nI_lt_t, nI_lt_f, nI_eq_t, nI_eq_f, nI_m1, nI_em1, ↓reduceIte, Nat.add_zero, nI_n9, qg15, k1, qI, k9]; rfl
theorem r_way {t : Nat} (hR : RI h m A) (hA : AI t A) (x y z : Int32) : RO h m (fX7_way h m x y z) (wayS A x y z) := by
  have hT := hR.1
  have r5 := hR.2.2.2.1
  have n6 : anp A ≤ 6 := hA.2.1.2.2.1
  have c12 := hA.2.2.1.1.1.1
  have ise := q_isEntry hT r5 c12 x
  have isp : fX7_isPlace h m y = some (if y < 0 ∨ nI (anp A) ≤ y then 0 else 1, h) := m_isPlace (h := h) (I := zI h) hT.1 hR.2.2.1.2.2.1 n6 y
  have pin : fX7_in h z.toInt64 0 4 = some (if z < 0 ∨ nI 5 ≤ z then 0 else 1, h) := p_in0 h z (c := 5) (by omega)
  have rf1 := r_ref (k := 1) hT (by omega)
  have rf2 := r_ref (k := 2) hT (by omega)
  have rf0 := r_ref (k := 0) hT (by omega)
  rw [if_neg (by decide)] at rf1 rf2
  rw [if_pos rfl] at rf0
  unfold wayS
  rw [fX7_way_e]
  by_cases c1 : outI x (aρ A 0)
  · rw [if_pos c1] at ise ⊢
    refine RO_err hR (by omega) ?_
    simp (disch := first | assumption | ((repeat apply RefT.s) <;> assumption) | omega) only [nl, nI_add, pk_mul, Option.bind_some, zb2_some, nI_le_t, nI_le_f, nI_lt_t, nI_lt_f, nI_eq_t, nI_eq_f, nI_m1, nI_em1, ↓reduceIte, Nat.add_zero, nI_n9, hT.1, qg15, ise, rf1]
    unfold fX7_way_b
    simp (disch := first | assumption | ((repeat apply RefT.s) <;> assumption) | omega) only [nl, nI_add, pk_mul, Option.bind_some, zb2_some, nI_le_t, nI_le_f, nI_lt_t, nI_lt_f, nI_eq_t, nI_eq_f, nI_m1, nI_em1, ↓reduceIte, Nat.add_zero, nI_n9]
  · rw [if_neg c1] at ise ⊢
    by_cases c2 : outI y (anp A)
    · rw [if_pos c2] at isp ⊢
      refine RO_err hR (by omega) ?_
      simp (disch := first | assumption | ((repeat apply RefT.s) <;> assumption) | omega) only [nl, nI_add, pk_mul, Option.bind_some, zb2_some, nI_le_t, nI_le_f, nI_lt_t, nI_lt_f, nI_eq_t, nI_eq_f, nI_m1, nI_em1, ↓reduceIte, Nat.add_zero, nI_n9, hT.1, qg15, ise, isp, rf1]
      unfold fX7_way_b
      simp (disch := first | assumption | ((repeat apply RefT.s) <;> assumption) | omega) only [nl, nI_add, pk_mul, Option.bind_some, zb2_some, nI_le_t, nI_le_f, nI_lt_t, nI_lt_f, nI_eq_t, nI_eq_f, nI_m1, nI_em1, ↓reduceIte, Nat.add_zero, nI_n9]
    · rw [if_neg c2] at isp ⊢
      by_cases c3 : outI z 5
      · rw [if_pos c3] at pin ⊢
        refine RO_err hR (by omega) ?_
        simp (disch := first | assumption | ((repeat apply RefT.s) <;> assumption) | omega) only [nl, nI_add, pk_mul, Option.bind_some, zb2_some, nI_le_t, nI_le_f, nI_lt_t, nI_lt_f, nI_eq_t, nI_eq_f, nI_m1, nI_em1, ↓reduceIte, Nat.add_zero, nI_n9, hT.1, qg15, ise, isp, pin, rf2]
        unfold fX7_way_b
        simp (disch := first | assumption | ((repeat apply RefT.s) <;> assumption) | omega) only [nl, nI_add, pk_mul, Option.bind_some, zb2_some, nI_le_t, nI_le_f, nI_lt_t, nI_lt_f, nI_eq_t, nI_eq_f, nI_m1, nI_em1, ↓reduceIte, Nat.add_zero, nI_n9]
      · rw [if_neg c3] at pin ⊢
        obtain ⟨a, a1, a2, a3⟩ := in_f (by omega) c1
        obtain ⟨b, b1, b2, b3⟩ := in_f (by omega) c2
        obtain ⟨v, v1, v3, v4⟩ := in_f (by omega) c3
        rw [a3, b3, v4]
        have R0 := RI_0 (v := nI 0) hR
        obtain ⟨h2, l1, l2, l3, l4⟩ := r_way_b R0 hA a1 b1 v1
        refine ⟨nI (wayV A a b v), h2, ?_, fun _ => rfl, ?_, l2, fr0.tr l3⟩
        · subst a2
          subst b2
          subst v3
          simp (disch := first | assumption | ((repeat apply RefT.s) <;> assumption) | omega) only [nl, nI_add, pk_mul, Option.bind_some, zb2_some, nI_le_t, nI_le_f, nI_lt_t, nI_lt_f, nI_eq_t, nI_eq_f, nI_m1, nI_em1, ↓reduceIte, Nat.add_zero, nI_n9, hT.1, qg15, ise, isp, pin, rf0]
          exact l1
        · rw [l4, sI_at]
end RWAY
