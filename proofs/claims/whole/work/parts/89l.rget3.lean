/-! pure: the reference's conversions, places, entries, forms -/
def entV (A : zSt) (e k : Nat) : Nat := if k = 0 then nsz (aρ A) e else if k = 1 then ebs (aρ A) e 1 else if k = 2 then ebs (aρ A) e 2 else if k = 3 then aρ A (24 + 28 * e + 24) else if k = 4 then aρ A (24 + 28 * e + 25) else if k = 5 then aρ A (24 + 28 * e + 26) else nwt (aρ A) e
def entS (A : zSt) (x y : Int32) : zAn := if outI x (aρ A 0) then (1, 0, A) else if outI y 7 then (2, 0, A) else (0, nI (entV A (cl x) (cl y)), A)
def frmV (A : zSt) (e f : Nat) (z : Int32) : Nat := if aρ A (24 + 28 * e + 16 + f) = 0 then 4294967287 else if z = 0 then aρ A (24 + 28 * e + f) else aρ A (24 + 28 * e + 8 + f)
def frmS (A : zSt) (x y z : Int32) : zAn := if outI x (aρ A 0) then (1, 0, A) else if outI y (anf A) then (1, 0, A) else (0, nI (frmV A (cl x) (cl y) z), A)
section RGET3
variable {h h' : zH} {m : Nat} {A : zSt}
theorem r_cv {t : Nat} (hR : RI h m A) (hA : AI t A) (x y : Int32) : RO h m (fX7_conversion h m x y) (cvS A x y) := by
  obtain ⟨hT, -, ⟨r4, r4b, r4c, b1, b2, b3, b4, b5, b6⟩, r5, -⟩ := id hR
  have n20 := hA.2.1.1.2.1
  have isc := m_isConv hT r4b n20 x
  have pin : fX7_in h y.toInt64 0 4 = some (if y < 0 ∨ nI 5 ≤ y then 0 else 1, h) := p_in0 h y (c := 5) (by omega)
  unfold cvS
  by_cases c1 : outI x (anc A)
  · rw [if_pos c1] at isc ⊢
    have rf := r_ref (k := 1) hT (by omega)
    rw [if_neg (by decide)] at rf
    refine RO_err hR (by omega) ?_
    unfold fX7_conversion
    simp (disch := first | assumption | ((repeat apply RefT.s) <;> assumption) | omega) only [nl, nI_add, pk_mul, Option.bind_some, zb2_some, nI_le_t, nI_le_f, nI_lt_t, nI_lt_f, nI_eq_t, nI_eq_f, nI_m1, nI_em1, ↓reduceIte, Nat.add_zero, nI_n9, hT.1, isc, rf]
  · rw [if_neg c1] at isc ⊢
    obtain ⟨c, f1, f2, f3⟩ := in_f (by omega) c1
    by_cases c2 : outI y 5
    · rw [if_pos c2] at pin ⊢
      have rf := r_ref (k := 2) hT (by omega)
      rw [if_neg (by decide)] at rf
      refine RO_err hR (by omega) ?_
      unfold fX7_conversion
      simp (disch := first | assumption | ((repeat apply RefT.s) <;> assumption) | omega) only [nl, nI_add, pk_mul, Option.bind_some, zb2_some, nI_le_t, nI_le_f, nI_lt_t, nI_lt_f, nI_eq_t, nI_eq_f, nI_m1, nI_em1, ↓reduceIte, Nat.add_zero, nI_n9, hT.1, isc, pin, rf]
    · rw [if_neg c2] at pin ⊢
      obtain ⟨k, g1, g2, g3⟩ := in_f (by omega) c2
      rw [f3, g3]
      have rf := r_ref (k := 0) hT (by omega)
      rw [if_pos rfl] at rf
      have hT1 : RefT (zsI h m 0 (nI 0)) m := hT.s
      have rd : zaI (zsI h m 0 (nI 0)) (m + 15) (nI (4 + c)) = some (nI (aρ A (4 + c))) := by rw [qa15 hT1 (by omega), sI_a (by omega), r5]; rfl
      have d1 : zaI (zsI h m 0 (nI 0)) (m + 2) (nI c) = some (nI (afr A c)) := by rw [qa2 hT1 (by omega), sI_a (by omega), b1]; rfl
      have d2 : zaI (zsI h m 0 (nI 0)) (m + 3) (nI c) = some (nI (att A c)) := by rw [qa3 hT1 (by omega), sI_a (by omega), b2]; rfl
      have d3 : zaI (zsI h m 0 (nI 0)) (m + 4) (nI c) = some (nI (agr A c)) := by rw [qa4 hT1 (by omega), sI_a (by omega), b3]; rfl
      have d4 : zaI (zsI h m 0 (nI 0)) (m + 5) (nI c) = some (nI (alo A c)) := by rw [qa5 hT1 (by omega), sI_a (by omega), b4]; rfl
      refine RO_get hR ?_
      subst f2
      subst g2
      unfold fX7_conversion
      match k, g1 with
      | 0, _ => simp (disch := first | assumption | ((repeat apply RefT.s) <;> assumption) | omega) only [nl, nI_add, pk_mul, Option.bind_some, zb2_some, nI_le_t, nI_le_f, nI_lt_t, nI_lt_f, nI_eq_t, nI_eq_f, nI_m1, nI_em1, ↓reduceIte, Nat.add_zero, nI_n9, hT.1, isc, pin, rf, qg2, d1]; rfl
      | 1, _ => simp (disch := first | assumption | ((repeat apply RefT.s) <;> assumption) | omega) only [nl, nI_add, pk_mul, Option.bind_some, zb2_some, nI_le_t, nI_le_f, nI_lt_t, nI_lt_f, nI_eq_t, nI_eq_f, nI_m1, nI_em1, ↓reduceIte, Nat.add_zero, nI_n9, hT.1, isc, pin, rf, qg3, d2]; rfl
      | 2, _ => simp (disch := first | assumption | ((repeat apply RefT.s) <;> assumption) | omega) only [nl, nI_add, pk_mul, Option.bind_some, zb2_some, nI_le_t, nI_le_f, nI_lt_t, nI_lt_f, nI_eq_t, nI_eq_f, nI_m1, nI_em1, ↓reduceIte, Nat.add_zero, nI_n9, hT.1, isc, pin, rf, qg15, rd]; rfl
      | 3, _ => simp (disch := first | assumption | ((repeat apply RefT.s) <;> assumption) | omega) only [nl, nI_add, pk_mul, Option.bind_some, zb2_some, nI_le_t, nI_le_f, nI_lt_t, nI_lt_f, nI_eq_t, nI_eq_f, nI_m1, nI_em1, ↓reduceIte, Nat.add_zero, nI_n9, hT.1, isc, pin, rf, qg4, d3]; rfl
      | 4, _ => simp (disch := first | assumption | ((repeat apply RefT.s) <;> assumption) | omega) only [nl, nI_add, pk_mul, Option.bind_some, zb2_some, nI_le_t, nI_le_f, nI_lt_t, nI_lt_f, nI_eq_t, nI_eq_f, nI_m1, nI_em1, ↓reduceIte, Nat.add_zero, nI_n9, hT.1, isc, pin, rf, qg5, d4]; rfl
theorem r_pl {t : Nat} (hR : RI h m A) (hA : AI t A) (x y : Int32) : RO h m (fX7_place h m x y) (plS A x y) := by
  obtain ⟨hT, -, ⟨r4, r4b, r4c, b1, b2, b3, b4, b5, b6⟩, r5, -⟩ := id hR
  have n6 := hA.2.1.2.2.1
  have isp : fX7_isPlace h m x = some (if x < 0 ∨ nI (anp A) ≤ x then 0 else 1, h) := m_isPlace (h := h) (I := zI h) hT.1 r4c n6 x
  have pin := in01 h y
  unfold plS
  by_cases c1 : outI x (anp A)
  · rw [if_pos c1] at isp ⊢
    have rf := r_ref (k := 1) hT (by omega)
    rw [if_neg (by decide)] at rf
    refine RO_err hR (by omega) ?_
    unfold fX7_place
    simp (disch := first | assumption | ((repeat apply RefT.s) <;> assumption) | omega) only [nl, nI_add, pk_mul, Option.bind_some, zb2_some, nI_le_t, nI_le_f, nI_lt_t, nI_lt_f, nI_eq_t, nI_eq_f, nI_m1, nI_em1, ↓reduceIte, Nat.add_zero, nI_n9, hT.1, isp, rf]
  · rw [if_neg c1] at isp ⊢
    obtain ⟨c, f1, f2, f3⟩ := in_f (by omega) c1
    by_cases c2 : outI y 2
    · rw [if_pos c2] at pin ⊢
      have rf := r_ref (k := 2) hT (by omega)
      rw [if_neg (by decide)] at rf
      refine RO_err hR (by omega) ?_
      unfold fX7_place
      simp (disch := first | assumption | ((repeat apply RefT.s) <;> assumption) | omega) only [nl, nI_add, pk_mul, Option.bind_some, zb2_some, nI_le_t, nI_le_f, nI_lt_t, nI_lt_f, nI_eq_t, nI_eq_f, nI_m1, nI_em1, ↓reduceIte, Nat.add_zero, nI_n9, hT.1, isp, pin, rf]
    · rw [if_neg c2] at pin ⊢
      obtain ⟨k, g1, g2, g3⟩ := in_f (by omega) c2
      rw [f3, g3]
      have rf := r_ref (k := 0) hT (by omega)
      rw [if_pos rfl] at rf
      have hT1 : RefT (zsI h m 0 (nI 0)) m := hT.s
      have d1 : zaI (zsI h m 0 (nI 0)) (m + 6) (nI c) = some (nI (aac A c)) := by rw [qa6 hT1 (by omega), sI_a (by omega), b5]; rfl
      have d2 : zaI (zsI h m 0 (nI 0)) (m + 7) (nI c) = some (nI (ali A c)) := by rw [qa7 hT1 (by omega), sI_a (by omega), b6]; rfl
      refine RO_get hR ?_
      subst f2
      subst g2
      unfold fX7_place
      match k, g1 with
      | 0, _ => simp (disch := first | assumption | ((repeat apply RefT.s) <;> assumption) | omega) only [nl, nI_add, pk_mul, Option.bind_some, zb2_some, nI_le_t, nI_le_f, nI_lt_t, nI_lt_f, nI_eq_t, nI_eq_f, nI_m1, nI_em1, ↓reduceIte, Nat.add_zero, nI_n9, hT.1, isp, pin, rf, qg6, d1]; rfl
      | 1, _ => simp (disch := first | assumption | ((repeat apply RefT.s) <;> assumption) | omega) only [nl, nI_add, pk_mul, Option.bind_some, zb2_some, nI_le_t, nI_le_f, nI_lt_t, nI_lt_f, nI_eq_t, nI_eq_f, nI_m1, nI_em1, ↓reduceIte, Nat.add_zero, nI_n9, hT.1, isp, pin, rf, qg7, d2]; rfl
theorem q_forms {ρ : zN'} {e k : Nat} (hT : RefT h m) (e15 : zI h (m + 15) = nr ρ) (he : e < 12) (ho : eok ρ e) (hk : k < 10) : fX7_formsOf h (m + 15) (nI e) (nI k) = some (nI (ebs ρ e k), h) := by
  have rd : ∀ j, j < 360 → zaI h (m + 15) (nI j) = some (nI (ρ j)) := fun j hj => by rw [qa15 hT hj, e15]; rfl
  have key : ∀ d f n, f + d = 8 → d < n → fX7_formsOf_L5 (fun h1 y2 y3 => some (y2, h1)) (m + 15) (nI e) (nI k) n h (nI (bsm (fun f => decide (k ≤ ρ (24 + 28 * e + 16 + f))) f)) (nI f) = some (nI (ebs ρ e k), h) := by
    intro d
    induction d with
    | zero =>
      intro f n hf hn
      obtain ⟨n, rfl⟩ := fuel1 hn
      have e8 : f = 8 := by omega
      subst e8
      rw [fX7_formsOf_L5]
      simp (disch := first | assumption | ((repeat apply RefT.s) <;> assumption) | omega) only [nl, nI_add, pk_mul, Option.bind_some, zb2_some, nI_le_t, nI_le_f, nI_lt_t, nI_lt_f, nI_eq_t, nI_eq_f, nI_m1, nI_em1, ↓reduceIte, Nat.add_zero, nI_n9]
      rfl
    | succ d ih =>
      intro f n hf hn
      obtain ⟨n, rfl⟩ := fuel1 hn
      have r1 := rd (24 + 28 * e + 16 + f) (by omega)
      have k2 := (ho.1 f (by omega)).1
      have ob := or_bsm (p := fun f => decide (k ≤ ρ (24 + 28 * e + 16 + f))) (n := f) (by omega)
      rw [fX7_formsOf_L5, ← ih (f + 1) n (by omega) (by omega)]
      by_cases c : k ≤ ρ (24 + 28 * e + 16 + f)
      · rw [if_pos (decide_eq_true c)] at ob
        simp (disch := first | assumption | ((repeat apply RefT.s) <;> assumption) | omega) only [nl, nI_add, pk_mul, Option.bind_some, zb2_some, nI_le_t, nI_le_f, nI_lt_t, nI_lt_f, nI_eq_t, nI_eq_f, nI_m1, nI_em1, ↓reduceIte, Nat.add_zero, nI_n9, p_at, r1, ob]
      · have cd : ¬ decide (k ≤ ρ (24 + 28 * e + 16 + f)) = true := fun z => c (of_decide_eq_true z)
        rw [if_neg cd] at ob
        simp (disch := first | assumption | ((repeat apply RefT.s) <;> assumption) | omega) only [nl, nI_add, pk_mul, Option.bind_some, zb2_some, nI_le_t, nI_le_f, nI_lt_t, nI_lt_f, nI_eq_t, nI_eq_f, nI_m1, nI_em1, ↓reduceIte, Nat.add_zero, nI_n9, p_at, r1, ob]
  unfold fX7_formsOf
  exact key 8 0 zF rfl (by decide)
theorem r_ent {t : Nat} (hR : RI h m A) (hA : AI t A) (x y : Int32) : RO h m (fX7_entry h m x y) (entS A x y) := by
  obtain ⟨hT, -, -, r5, -⟩ := id hR
  obtain ⟨a1, hO, ⟨a3, a3t⟩, a4, a5, a6⟩ := hA
  have c12 := a3.1.1
  have ise := q_isEntry hT r5 c12 x
  have pin : fX7_in h y.toInt64 0 6 = some (if y < 0 ∨ nI 7 ≤ y then 0 else 1, h) := p_in0 h y (c := 7) (by omega)
  unfold entS
  by_cases c1 : outI x (aρ A 0)
  · rw [if_pos c1] at ise ⊢
    have rf := r_ref (k := 1) hT (by omega)
    rw [if_neg (by decide)] at rf
    refine RO_err hR (by omega) ?_
    unfold fX7_entry
    simp (disch := first | assumption | ((repeat apply RefT.s) <;> assumption) | omega) only [nl, nI_add, pk_mul, Option.bind_some, zb2_some, nI_le_t, nI_le_f, nI_lt_t, nI_lt_f, nI_eq_t, nI_eq_f, nI_m1, nI_em1, ↓reduceIte, Nat.add_zero, nI_n9, hT.1, qg15, ise, rf]
  · rw [if_neg c1] at ise ⊢
    obtain ⟨e, f1, f2, f3⟩ := in_f (by omega) c1
    by_cases c2 : outI y 7
    · rw [if_pos c2] at pin ⊢
      have rf := r_ref (k := 2) hT (by omega)
      rw [if_neg (by decide)] at rf
      refine RO_err hR (by omega) ?_
      unfold fX7_entry
      simp (disch := first | assumption | ((repeat apply RefT.s) <;> assumption) | omega) only [nl, nI_add, pk_mul, Option.bind_some, zb2_some, nI_le_t, nI_le_f, nI_lt_t, nI_lt_f, nI_eq_t, nI_eq_f, nI_m1, nI_em1, ↓reduceIte, Nat.add_zero, nI_n9, hT.1, qg15, ise, pin, rf]
    · rw [if_neg c2] at pin ⊢
      obtain ⟨k, g1, g2, g3⟩ := in_f (by omega) c2
      rw [f3, g3]
      have rf := r_ref (k := 0) hT (by omega)
      rw [if_pos rfl] at rf
      have hT1 : RefT (zsI h m 0 (nI 0)) m := hT.s
      have e15 : zI (zsI h m 0 (nI 0)) (m + 15) = nr (aρ A) := by rw [sI_a (by omega)]; exact r5
      have oe := a3.1.2.2.2.2 e f1
      have rd : ∀ j, j < 360 → zaI (zsI h m 0 (nI 0)) (m + 15) (nI j) = some (nI (aρ A j)) := fun j hj => by rw [qa15 hT1 hj, e15]; rfl
      have d3 := rd (24 + 28 * e + 24) (by omega)
      have d4 := rd (24 + 28 * e + 25) (by omega)
      have d5 := rd (24 + 28 * e + 26) (by omega)
      have q1 := q_forms (k := 1) hT1 e15 (by omega) oe (by omega)
      have q2 := q_forms (k := 2) hT1 e15 (by omega) oe (by omega)
      have sz : fX7_sizeOf (zsI h m 0 (nI 0)) (m + 15) (nI e) = some (nI (nsz (aρ A) e), zsI h m 0 (nI 0)) := n_sizeOf (h := zsI h m 0 (nI 0)) (I := zI (zsI h m 0 (nI 0))) (rk15 hT1) (rl15 hT1) e15 (by omega)
      have wt : fX7_weight (zsI h m 0 (nI 0)) (m + 15) (nI e) = some (nI (nwt (aρ A) e), zsI h m 0 (nI 0)) := n_weight (h := zsI h m 0 (nI 0)) (I := zI (zsI h m 0 (nI 0))) (rk15 hT1) (rl15 hT1) e15 a3.1.2.1 oe (by omega)
      refine RO_get hR ?_
      subst f2
      subst g2
      unfold fX7_entry
      match k, g1 with
      | 0, _ => simp (disch := first | assumption | ((repeat apply RefT.s) <;> assumption) | omega) only [nl, nI_add, pk_mul, Option.bind_some, zb2_some, nI_le_t, nI_le_f, nI_lt_t, nI_lt_f, nI_eq_t, nI_eq_f, nI_m1, nI_em1, ↓reduceIte, Nat.add_zero, nI_n9, hT.1, qg15, ise, pin, rf, sz]; rfl
      | 1, _ => simp (disch := first | assumption | ((repeat apply RefT.s) <;> assumption) | omega) only [nl, nI_add, pk_mul, Option.bind_some, zb2_some, nI_le_t, nI_le_f, nI_lt_t, nI_lt_f, nI_eq_t, nI_eq_f, nI_m1, nI_em1, ↓reduceIte, Nat.add_zero, nI_n9, hT.1, qg15, ise, pin, rf, q1]; rfl
      | 2, _ => simp (disch := first | assumption | ((repeat apply RefT.s) <;> assumption) | omega) only [nl, nI_add, pk_mul, Option.bind_some, zb2_some, nI_le_t, nI_le_f, nI_lt_t, nI_lt_f, nI_eq_t, nI_eq_f, nI_m1, nI_em1, ↓reduceIte, Nat.add_zero, nI_n9, hT.1, qg15, ise, pin, rf, q2]; rfl
      | 3, _ => simp (disch := first | assumption | ((repeat apply RefT.s) <;> assumption) | omega) only [nl, nI_add, pk_mul, Option.bind_some, zb2_some, nI_le_t, nI_le_f, nI_lt_t, nI_lt_f, nI_eq_t, nI_eq_f, nI_m1, nI_em1, ↓reduceIte, Nat.add_zero, nI_n9, hT.1, qg15, ise, pin, rf, p_at, d3]; rfl
      | 4, _ => simp (disch := first | assumption | ((repeat apply RefT.s) <;> assumption) | omega) only [nl, nI_add, pk_mul, Option.bind_some, zb2_some, nI_le_t, nI_le_f, nI_lt_t, nI_lt_f, nI_eq_t, nI_eq_f, nI_m1, nI_em1, ↓reduceIte, Nat.add_zero, nI_n9, hT.1, qg15, ise, pin, rf, p_at, d4]; rfl
      | 5, _ => simp (disch := first | assumption | ((repeat apply RefT.s) <;> assumption) | omega) only [nl, nI_add, pk_mul, Option.bind_some, zb2_some, nI_le_t, nI_le_f, nI_lt_t, nI_lt_f, nI_eq_t, nI_eq_f, nI_m1, nI_em1, ↓reduceIte, Nat.add_zero, nI_n9, hT.1, qg15, ise, pin, rf, p_at, d5]; rfl
      | 6, _ => simp (disch := first | assumption | ((repeat apply RefT.s) <;> assumption) | omega) only [nl, nI_add, pk_mul, Option.bind_some, zb2_some, nI_le_t, nI_le_f, nI_lt_t, nI_lt_f, nI_eq_t, nI_eq_f, nI_m1, nI_em1, ↓reduceIte, Nat.add_zero, nI_n9, hT.1, qg15, ise, pin, rf, wt]; rfl
end RGET3
