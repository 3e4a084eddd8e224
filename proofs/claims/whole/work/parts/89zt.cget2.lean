/-! pure: the component's numbers -/
section CGET2
variable {h h' : zH} {x b d : Nat} {A : zSt}
theorem CO_get {v : Int32} {r : Option ((Int32 ⊕ String) × zH)} {l : List String} (hC : CI h x A) (e : r = some (Sum.inl v, h)) : CO h x r (0, v, A) l := CO_ok e hC Fr.rf
theorem k_abt {t : Nat} (hC : CI h x A) (hA : AI t A) (v : Int32) : CO h x (fX6_about h x v) (abtS A v) [xA] := by
  obtain ⟨b, d, hK, hN⟩ := id hC
  have k1 := hK.1
  have g9 := hK.2.1.g9 k1.1
  have hB := hK.2.2.2.2.1.1
  have hS := hN.2.2.1
  have c12 := hA.2.2.1.1.1.1
  unfold abtS
  by_cases c1 : outI v 8
  · rw [if_pos c1]
    refine CO_no hA (by omega) (by decide) hC ?_
    unfold fX6_about
    simp (disch := first | assumption | (simp only [sI_kd, sP_kd, rw_kd, sI_ln, sP_ln, rw_ln] <;> first | assumption | omega) | omega) only [nl, nI_add, pk_mul, Option.bind_some, zb2_some, nI_le_t, nI_le_f, nI_lt_t, nI_lt_f, nI_eq_t, nI_eq_f, nI_m1, nI_em1, ↓reduceIte, Nat.add_zero, k1.1, out_ne (k := 0) c1, out_ne (k := 1) c1, out_ne (k := 2) c1, out_ne (k := 3) c1, out_ne (k := 4) c1, out_ne (k := 5) c1, out_ne (k := 6) c1, out_ne (k := 7) c1]
    rfl
  · rw [if_neg c1]
    obtain ⟨k, f1, f2, f3⟩ := in_f (by omega) c1
    rw [f3]
    refine CO_get hC ?_
    subst f2
    unfold fX6_about abtV
    match k, f1 with
    | 0, _ => simp (disch := first | assumption | (simp only [sI_kd, sP_kd, rw_kd, sI_ln, sP_ln, rw_ln] <;> first | assumption | omega) | omega) only [nl, nI_add, pk_mul, Option.bind_some, zb2_some, nI_le_t, nI_le_f, nI_lt_t, nI_lt_f, nI_eq_t, nI_eq_f, nI_m1, nI_em1, ↓reduceIte, Nat.add_zero, k1.1, g9, hB.gnf]
    | 1, _ => simp (disch := first | assumption | (simp only [sI_kd, sP_kd, rw_kd, sI_ln, sP_ln, rw_ln] <;> first | assumption | omega) | omega) only [nl, nI_add, pk_mul, Option.bind_some, zb2_some, nI_le_t, nI_le_f, nI_lt_t, nI_lt_f, nI_eq_t, nI_eq_f, nI_m1, nI_em1, ↓reduceIte, Nat.add_zero, k1.1, g9, hB.gnc]; rfl
    | 2, _ => simp (disch := first | assumption | (simp only [sI_kd, sP_kd, rw_kd, sI_ln, sP_ln, rw_ln] <;> first | assumption | omega) | omega) only [nl, nI_add, pk_mul, Option.bind_some, zb2_some, nI_le_t, nI_le_f, nI_lt_t, nI_lt_f, nI_eq_t, nI_eq_f, nI_m1, nI_em1, ↓reduceIte, Nat.add_zero, k1.1, g9, hB.gnp]; rfl
    | 3, _ => simp (disch := first | assumption | (simp only [sI_kd, sP_kd, rw_kd, sI_ln, sP_ln, rw_ln] <;> first | assumption | omega) | omega) only [nl, nI_add, pk_mul, Option.bind_some, zb2_some, nI_le_t, nI_le_f, nI_lt_t, nI_lt_f, nI_eq_t, nI_eq_f, nI_m1, nI_em1, ↓reduceIte, Nat.add_zero, k1.1, k1.g4, hS.cn]; rfl
    | 4, _ => simp (disch := first | assumption | (simp only [sI_kd, sP_kd, rw_kd, sI_ln, sP_ln, rw_ln] <;> first | assumption | omega) | omega) only [nl, nI_add, pk_mul, Option.bind_some, zb2_some, nI_le_t, nI_le_f, nI_lt_t, nI_lt_f, nI_eq_t, nI_eq_f, nI_m1, nI_em1, ↓reduceIte, Nat.add_zero, k1.1, k1.g4, hS.bg]; rfl
    | 5, _ => simp (disch := first | assumption | (simp only [sI_kd, sP_kd, rw_kd, sI_ln, sP_ln, rw_ln] <;> first | assumption | omega) | omega) only [nl, nI_add, pk_mul, Option.bind_some, zb2_some, nI_le_t, nI_le_f, nI_lt_t, nI_lt_f, nI_eq_t, nI_eq_f, nI_m1, nI_em1, ↓reduceIte, Nat.add_zero, k1.1, k1.g4, c_used hS c12]; rfl
    | 6, _ => simp (disch := first | assumption | (simp only [sI_kd, sP_kd, rw_kd, sI_ln, sP_ln, rw_ln] <;> first | assumption | omega) | omega) only [nl, nI_add, pk_mul, Option.bind_some, zb2_some, nI_le_t, nI_le_f, nI_lt_t, nI_lt_f, nI_eq_t, nI_eq_f, nI_m1, nI_em1, ↓reduceIte, Nat.add_zero, k1.1, k1.g4, hS.tm]; rfl
    | 7, _ => simp (disch := first | assumption | (simp only [sI_kd, sP_kd, rw_kd, sI_ln, sP_ln, rw_ln] <;> first | assumption | omega) | omega) only [nl, nI_add, pk_mul, Option.bind_some, zb2_some, nI_le_t, nI_le_f, nI_lt_t, nI_lt_f, nI_eq_t, nI_eq_f, nI_m1, nI_em1, ↓reduceIte, Nat.add_zero, k1.1, k1.g4, hS.tc]; rfl
theorem k_cv {t : Nat} (hC : CI h x A) (hA : AI t A) (v w : Int32) : CO h x (fX6_conversion h x v w) (cvS A v w) [xI, xA] := by
  obtain ⟨b, d, hK, hN⟩ := id hC
  have k1 := hK.1
  have g9 := hK.2.1.g9 k1.1
  have hB := hK.2.2.2.2.1.1
  have hS := hN.2.2.1
  have n20 := hA.2.1.1.2.1
  obtain ⟨qa, qb⟩ := q_C (v := v) hK
  unfold cvS
  by_cases c1 : outI v (anc A)
  · rw [if_pos c1]
    refine CO_no hA (by omega) (by decide) hC ?_
    unfold fX6_conversion
    simp (disch := first | assumption | (simp only [sI_kd, sP_kd, rw_kd, sI_ln, sP_ln, rw_ln] <;> first | assumption | omega) | omega) only [nl, nI_add, pk_mul, Option.bind_some, zb2_some, nI_le_t, nI_le_f, nI_lt_t, nI_lt_f, nI_eq_t, nI_eq_f, nI_m1, nI_em1, ↓reduceIte, Nat.add_zero, k1.1, qa c1, zb4_some]
    rfl
  · rw [if_neg c1]
    obtain ⟨c, f1, f2, f3⟩ := in_f (by omega) c1
    by_cases c2 : outI w 5
    · rw [if_pos c2]
      refine CO_no hA (by omega) (by decide) hC ?_
      unfold fX6_conversion
      simp (disch := first | assumption | (simp only [sI_kd, sP_kd, rw_kd, sI_ln, sP_ln, rw_ln] <;> first | assumption | omega) | omega) only [nl, nI_add, pk_mul, Option.bind_some, zb2_some, nI_le_t, nI_le_f, nI_lt_t, nI_lt_f, nI_eq_t, nI_eq_f, nI_m1, nI_em1, ↓reduceIte, Nat.add_zero, k1.1, qb c1, zb4_none, out_ne (k := 0) c2, out_ne (k := 1) c2, out_ne (k := 2) c2, out_ne (k := 3) c2, out_ne (k := 4) c2]
      rfl
    · rw [if_neg c2]
      obtain ⟨k, e1, e2, e3⟩ := in_f (by omega) c2
      rw [f3, e3]
      have rd : zaI h (x + 78 + 2) (nI c) = some (nI (aρ A (4 + c))) := by
        rw [aI_ hS.1.2.2.2.2.2.1 (by rw [hS.1.2.2.2.2.2.2.1]; omega) (by rw [hS.1.2.2.2.2.2.2.1]; omega), hS.co f1]
      refine CO_get hC ?_
      have q := qb c1
      subst f2
      subst e2
      unfold fX6_conversion cvV
      match k, e1 with
      | 0, _ => simp (disch := first | assumption | (simp only [sI_kd, sP_kd, rw_kd, sI_ln, sP_ln, rw_ln] <;> first | assumption | omega) | omega) only [nl, nI_add, pk_mul, Option.bind_some, zb2_some, nI_le_t, nI_le_f, nI_lt_t, nI_lt_f, nI_eq_t, nI_eq_f, nI_m1, nI_em1, ↓reduceIte, Nat.add_zero, k1.1, q, zb4_none, g9, hB.1.p0, hB.gfr n20 f1]
      | 1, _ => simp (disch := first | assumption | (simp only [sI_kd, sP_kd, rw_kd, sI_ln, sP_ln, rw_ln] <;> first | assumption | omega) | omega) only [nl, nI_add, pk_mul, Option.bind_some, zb2_some, nI_le_t, nI_le_f, nI_lt_t, nI_lt_f, nI_eq_t, nI_eq_f, nI_m1, nI_em1, ↓reduceIte, Nat.add_zero, k1.1, q, zb4_none, g9, hB.1.p1, hB.gtt n20 f1]; rfl
      | 2, _ => simp (disch := first | assumption | (simp only [sI_kd, sP_kd, rw_kd, sI_ln, sP_ln, rw_ln] <;> first | assumption | omega) | omega) only [nl, nI_add, pk_mul, Option.bind_some, zb2_some, nI_le_t, nI_le_f, nI_lt_t, nI_lt_f, nI_eq_t, nI_eq_f, nI_m1, nI_em1, ↓reduceIte, Nat.add_zero, k1.1, q, zb4_none, k1.g4, hS.1.cs, rd]; rfl
      | 3, _ => simp (disch := first | assumption | (simp only [sI_kd, sP_kd, rw_kd, sI_ln, sP_ln, rw_ln] <;> first | assumption | omega) | omega) only [nl, nI_add, pk_mul, Option.bind_some, zb2_some, nI_le_t, nI_le_f, nI_lt_t, nI_lt_f, nI_eq_t, nI_eq_f, nI_m1, nI_em1, ↓reduceIte, Nat.add_zero, k1.1, q, zb4_none, g9, hB.1.p3, hB.ggr n20 f1]; rfl
      | 4, _ => simp (disch := first | assumption | (simp only [sI_kd, sP_kd, rw_kd, sI_ln, sP_ln, rw_ln] <;> first | assumption | omega) | omega) only [nl, nI_add, pk_mul, Option.bind_some, zb2_some, nI_le_t, nI_le_f, nI_lt_t, nI_lt_f, nI_eq_t, nI_eq_f, nI_m1, nI_em1, ↓reduceIte, Nat.add_zero, k1.1, q, zb4_none, g9, hB.1.p4, hB.glo n20 f1]; rfl
theorem k_pl {t : Nat} (hC : CI h x A) (hA : AI t A) (v w : Int32) : CO h x (fX6_place h x v w) (plS A v w) [xI, xA] := by
  obtain ⟨b, d, hK, hN⟩ := id hC
  have k1 := hK.1
  have g9 := hK.2.1.g9 k1.1
  have hB := hK.2.2.2.2.1.1
  have n6 : anp A ≤ 6 := hA.2.1.2.2.1
  obtain ⟨qa, qb⟩ := q_P (v := v) hK
  unfold plS
  by_cases c1 : outI v (anp A)
  · rw [if_pos c1]
    refine CO_no hA (by omega) (by decide) hC ?_
    unfold fX6_place
    simp (disch := first | assumption | (simp only [sI_kd, sP_kd, rw_kd, sI_ln, sP_ln, rw_ln] <;> first | assumption | omega) | omega) only [nl, nI_add, pk_mul, Option.bind_some, zb2_some, nI_le_t, nI_le_f, nI_lt_t, nI_lt_f, nI_eq_t, nI_eq_f, nI_m1, nI_em1, ↓reduceIte, Nat.add_zero, k1.1, qa c1, zb4_some]
    rfl
  · rw [if_neg c1]
    obtain ⟨c, f1, f2, f3⟩ := in_f (by omega) c1
    by_cases c2 : outI w 2
    · rw [if_pos c2]
      refine CO_no hA (by omega) (by decide) hC ?_
      unfold fX6_place
      simp (disch := first | assumption | (simp only [sI_kd, sP_kd, rw_kd, sI_ln, sP_ln, rw_ln] <;> first | assumption | omega) | omega) only [nl, nI_add, pk_mul, Option.bind_some, zb2_some, nI_le_t, nI_le_f, nI_lt_t, nI_lt_f, nI_eq_t, nI_eq_f, nI_m1, nI_em1, ↓reduceIte, Nat.add_zero, k1.1, qb c1, zb4_none, out_ne (k := 0) c2, out_ne (k := 1) c2]
      rfl
    · rw [if_neg c2]
      obtain ⟨k, e1, e2, e3⟩ := in_f (by omega) c2
      rw [f3, e3]
      refine CO_get hC ?_
      have q := qb c1
      subst f2
      subst e2
      unfold fX6_place plV
      match k, e1 with
      | 0, _ => simp (disch := first | assumption | (simp only [sI_kd, sP_kd, rw_kd, sI_ln, sP_ln, rw_ln] <;> first | assumption | omega) | omega) only [nl, nI_add, pk_mul, Option.bind_some, zb2_some, nI_le_t, nI_le_f, nI_lt_t, nI_lt_f, nI_eq_t, nI_eq_f, nI_m1, nI_em1, ↓reduceIte, Nat.add_zero, k1.1, q, zb4_none, g9, hB.1.p5, hB.gac n6 f1]
      | 1, _ => simp (disch := first | assumption | (simp only [sI_kd, sP_kd, rw_kd, sI_ln, sP_ln, rw_ln] <;> first | assumption | omega) | omega) only [nl, nI_add, pk_mul, Option.bind_some, zb2_some, nI_le_t, nI_le_f, nI_lt_t, nI_lt_f, nI_eq_t, nI_eq_f, nI_m1, nI_em1, ↓reduceIte, Nat.add_zero, k1.1, q, zb4_none, g9, hB.1.p6, hB.gli n6 f1]; rfl
theorem k_ent {t : Nat} (hC : CI h x A) (hA : AI t A) (v w : Int32) : CO h x (fX6_entry h x v w) (entS A v w) [xI, xA] := by
  obtain ⟨b, d, hK, hN⟩ := id hC
  have k1 := hK.1
  have hS := hN.2.2.1
  have ho := hA.2.2.1.1.1
  have c12 := ho.1
  obtain ⟨qa, qb⟩ := q_E (v := v) hK hN
  unfold entS
  by_cases c1 : outI v (aρ A 0)
  · rw [if_pos c1]
    refine CO_no hA (by omega) (by decide) hC ?_
    unfold fX6_entry
    simp (disch := first | assumption | (simp only [sI_kd, sP_kd, rw_kd, sI_ln, sP_ln, rw_ln] <;> first | assumption | omega) | omega) only [nl, nI_add, pk_mul, Option.bind_some, zb2_some, nI_le_t, nI_le_f, nI_lt_t, nI_lt_f, nI_eq_t, nI_eq_f, nI_m1, nI_em1, ↓reduceIte, Nat.add_zero, k1.1, qa c1, zb4_some]
    rfl
  · rw [if_neg c1]
    obtain ⟨e, f1, f2, f3⟩ := in_f (by omega) c1
    have en := hS.1.en (i := e) (by omega)
    have ek := hS.1.ek (i := e) (by omega)
    obtain ⟨r1, r2, r3, r4, r5, r6, r7, -⟩ := hS.er f1
    by_cases c2 : outI w 7
    · rw [if_pos c2]
      refine CO_no hA (by omega) (by decide) hC ?_
      have q := qb c1
      subst f2
      unfold fX6_entry
      simp (disch := first | assumption | (simp only [sI_kd, sP_kd, rw_kd, sI_ln, sP_ln, rw_ln] <;> first | assumption | omega) | omega) only [nl, nI_add, pk_mul, Option.bind_some, zb2_some, nI_le_t, nI_le_f, nI_lt_t, nI_lt_f, nI_eq_t, nI_eq_f, nI_m1, nI_em1, ↓reduceIte, Nat.add_zero, k1.1, q, zb4_none, k1.g4, hS.1.es, en, out_ne (k := 0) c2, out_ne (k := 1) c2, out_ne (k := 2) c2, out_ne (k := 3) c2, out_ne (k := 4) c2, out_ne (k := 5) c2, out_ne (k := 6) c2]
      rfl
    · rw [if_neg c2]
      obtain ⟨k, e1, e2, e3⟩ := in_f (by omega) c2
      rw [f3, e3]
      refine CO_get hC ?_
      have q := qb c1
      have wt := c_weight (hS.1.sh (i := e) (by omega)) (hS.er f1) ho.2.1 (ho.2.2.2.2 e f1)
      have p1 := (ho.2.2.2.2 e f1).2.1
      subst f2
      subst e2
      have gg : ∀ j, zgI h 1 (zP h (x + 78 + 1) e) j = some (zI h (zP h (x + 78 + 1) e) j) := fun j => gI_ ek
      unfold fX6_entry entV
      match k, e1 with
      | 0, _ => simp (disch := first | assumption | (simp only [sI_kd, sP_kd, rw_kd, sI_ln, sP_ln, rw_ln] <;> first | assumption | omega) | omega) only [nl, nI_add, pk_mul, Option.bind_some, zb2_some, nI_le_t, nI_le_f, nI_lt_t, nI_lt_f, nI_eq_t, nI_eq_f, nI_m1, nI_em1, ↓reduceIte, Nat.add_zero, k1.1, q, zb4_none, k1.g4, hS.1.es, en, gg, r3]
      | 1, _ => simp (disch := first | assumption | (simp only [sI_kd, sP_kd, rw_kd, sI_ln, sP_ln, rw_ln] <;> first | assumption | omega) | omega) only [nl, nI_add, pk_mul, Option.bind_some, zb2_some, nI_le_t, nI_le_f, nI_lt_t, nI_lt_f, nI_eq_t, nI_eq_f, nI_m1, nI_em1, ↓reduceIte, Nat.add_zero, k1.1, q, zb4_none, k1.g4, hS.1.es, en, gg, r1]; rfl
      | 2, _ => simp (disch := first | assumption | (simp only [sI_kd, sP_kd, rw_kd, sI_ln, sP_ln, rw_ln] <;> first | assumption | omega) | omega) only [nl, nI_add, pk_mul, Option.bind_some, zb2_some, nI_le_t, nI_le_f, nI_lt_t, nI_lt_f, nI_eq_t, nI_eq_f, nI_m1, nI_em1, ↓reduceIte, Nat.add_zero, k1.1, q, zb4_none, k1.g4, hS.1.es, en, gg, r2]; rfl
      | 3, _ =>
        by_cases z : aρ A (24 + 28 * e + 24) = 0
        · rw [z] at r4
          rw [z]
          simp (disch := first | assumption | (simp only [sI_kd, sP_kd, rw_kd, sI_ln, sP_ln, rw_ln] <;> first | assumption | omega) | omega) only [nl, nI_add, pk_mul, Option.bind_some, zb2_some, nI_le_t, nI_le_f, nI_lt_t, nI_lt_f, nI_eq_t, nI_eq_f, nI_m1, nI_em1, ↓reduceIte, Nat.add_zero, k1.1, q, zb4_none, k1.g4, hS.1.es, en, gg, r4]
          rfl
        · have z1 : aρ A (24 + 28 * e + 24) = 1 := by omega
          rw [z1] at r4
          rw [z1]
          simp (disch := first | assumption | (simp only [sI_kd, sP_kd, rw_kd, sI_ln, sP_ln, rw_ln] <;> first | assumption | omega) | omega) only [nl, nI_add, pk_mul, Option.bind_some, zb2_some, nI_le_t, nI_le_f, nI_lt_t, nI_lt_f, nI_eq_t, nI_eq_f, nI_m1, nI_em1, ↓reduceIte, Nat.add_zero, k1.1, q, zb4_none, k1.g4, hS.1.es, en, gg, r4]
          rfl
      | 4, _ => simp (disch := first | assumption | (simp only [sI_kd, sP_kd, rw_kd, sI_ln, sP_ln, rw_ln] <;> first | assumption | omega) | omega) only [nl, nI_add, pk_mul, Option.bind_some, zb2_some, nI_le_t, nI_le_f, nI_lt_t, nI_lt_f, nI_eq_t, nI_eq_f, nI_m1, nI_em1, ↓reduceIte, Nat.add_zero, k1.1, q, zb4_none, k1.g4, hS.1.es, en, gg, r5]; rfl
      | 5, _ => simp (disch := first | assumption | (simp only [sI_kd, sP_kd, rw_kd, sI_ln, sP_ln, rw_ln] <;> first | assumption | omega) | omega) only [nl, nI_add, pk_mul, Option.bind_some, zb2_some, nI_le_t, nI_le_f, nI_lt_t, nI_lt_f, nI_eq_t, nI_eq_f, nI_m1, nI_em1, ↓reduceIte, Nat.add_zero, k1.1, q, zb4_none, k1.g4, hS.1.es, en, gg, r6]; rfl
      | 6, _ => simp (disch := first | assumption | (simp only [sI_kd, sP_kd, rw_kd, sI_ln, sP_ln, rw_ln] <;> first | assumption | omega) | omega) only [nl, nI_add, pk_mul, Option.bind_some, zb2_some, nI_le_t, nI_le_f, nI_lt_t, nI_lt_f, nI_eq_t, nI_eq_f, nI_m1, nI_em1, ↓reduceIte, Nat.add_zero, k1.1, q, zb4_none, k1.g4, hS.1.es, en, hS.tm, wt]; rfl
theorem k_frm {t : Nat} (hC : CI h x A) (hA : AI t A) (v w z : Int32) : CO h x (fX6_form h x v w z) (frmS A v w z) [xI] := by
  obtain ⟨b, d, hK, hN⟩ := id hC
  have k1 := hK.1
  have hS := hN.2.2.1
  have ho := hA.2.2.1.1.1
  have c12 := ho.1
  have n8 := hA.2.1.1.1
  obtain ⟨qa, qb⟩ := q_E (v := v) hK hN
  obtain ⟨pa, pb⟩ := q_F (v := w) hK
  unfold frmS
  by_cases c1 : outI v (aρ A 0)
  · rw [if_pos c1]
    refine CO_no hA (by omega) (by decide) hC ?_
    unfold fX6_form
    simp (disch := first | assumption | (simp only [sI_kd, sP_kd, rw_kd, sI_ln, sP_ln, rw_ln] <;> first | assumption | omega) | omega) only [nl, nI_add, pk_mul, Option.bind_some, zb2_some, nI_le_t, nI_le_f, nI_lt_t, nI_lt_f, nI_eq_t, nI_eq_f, nI_m1, nI_em1, ↓reduceIte, Nat.add_zero, k1.1, qa c1, zb4_some]
    rfl
  · rw [if_neg c1]
    obtain ⟨e, f1, f2, f3⟩ := in_f (by omega) c1
    by_cases c2 : outI w (anf A)
    · rw [if_pos c2]
      refine CO_no hA (by omega) (by decide) hC ?_
      unfold fX6_form
      simp (disch := first | assumption | (simp only [sI_kd, sP_kd, rw_kd, sI_ln, sP_ln, rw_ln] <;> first | assumption | omega) | omega) only [nl, nI_add, pk_mul, Option.bind_some, zb2_some, nI_le_t, nI_le_f, nI_lt_t, nI_lt_f, nI_eq_t, nI_eq_f, nI_m1, nI_em1, ↓reduceIte, Nat.add_zero, k1.1, qb c1, zb4_none, pa c2, zb4_some]
      rfl
    · rw [if_neg c2]
      obtain ⟨f, e1, e2, e3⟩ := in_f (by omega) c2
      rw [f3, e3]
      have en := hS.1.en (i := e) (by omega)
      have es := hS.1.sh (i := e) (by omega)
      have er := hS.er f1
      have ch := c_holds (f := f) es er (by omega)
      refine CO_get hC ?_
      have q := qb c1
      have p := pb c2
      subst f2
      subst e2
      unfold fX6_form frmV
      by_cases c3 : aρ A (24 + 28 * e + 16 + f) = 0
      · rw [if_pos c3] at ch ⊢
        simp (disch := first | assumption | (simp only [sI_kd, sP_kd, rw_kd, sI_ln, sP_ln, rw_ln] <;> first | assumption | omega) | omega) only [nl, nI_add, pk_mul, Option.bind_some, zb2_some, nI_le_t, nI_le_f, nI_lt_t, nI_lt_f, nI_eq_t, nI_eq_f, nI_m1, nI_em1, ↓reduceIte, Nat.add_zero, k1.1, q, zb4_none, p, k1.g4, hS.1.es, en, ch]
        rfl
      · rw [if_neg c3] at ch ⊢
        obtain ⟨u1, u2⟩ := er.2.2.2.2.2.2.1 f (by omega) c3
        have g0 : zgP h 1 (zP h (x + 78 + 1) e) 0 = some (zP h (x + 78 + 1) e + 1) := gP_ es.1 es.2.1 (by omega)
        have g1 : zgP h 1 (zP h (x + 78 + 1) e) 1 = some (zP h (x + 78 + 1) e + 2) := gP_ es.1 es.2.2.1 (by omega)
        have a1 : zaI h (zP h (x + 78 + 1) e + 1) (nI f) = some (nI (aρ A (24 + 28 * e + f))) := by
          rw [aI_ es.2.2.2.1 (by rw [es.2.2.2.2.1]; omega) (by rw [es.2.2.2.2.1]; omega), u1]
        have a2 : zaI h (zP h (x + 78 + 1) e + 2) (nI f) = some (nI (aρ A (24 + 28 * e + 8 + f))) := by
          rw [aI_ es.2.2.2.2.2.1 (by rw [es.2.2.2.2.2.2]; omega) (by rw [es.2.2.2.2.2.2]; omega), u2]
        by_cases c4 : z = 0
        · rw [if_pos c4]
          subst c4
          simp (disch := first | assumption | (simp only [sI_kd, sP_kd, rw_kd, sI_ln, sP_ln, rw_ln] <;> first | assumption | omega) | omega) only [nl, nI_add, pk_mul, Option.bind_some, zb2_some, nI_le_t, nI_le_f, nI_lt_t, nI_lt_f, nI_eq_t, nI_eq_f, nI_m1, nI_em1, ↓reduceIte, Nat.add_zero, k1.1, q, zb4_none, p, k1.g4, hS.1.es, en, ch, g0, a1]
        · rw [if_neg c4]
          have c4' : (z = nI 0) = False := eq_false c4
          simp (disch := first | assumption | (simp only [sI_kd, sP_kd, rw_kd, sI_ln, sP_ln, rw_ln] <;> first | assumption | omega) | omega) only [nl, nI_add, pk_mul, Option.bind_some, zb2_some, nI_le_t, nI_le_f, nI_lt_t, nI_lt_f, nI_eq_t, nI_eq_f, nI_m1, nI_em1, ↓reduceIte, Nat.add_zero, k1.1, q, zb4_none, p, k1.g4, hS.1.es, en, ch, c4', g1, a2]
end CGET2
