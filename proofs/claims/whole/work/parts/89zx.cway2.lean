/-! pure: the component's way, bestFor, room, ranked -/
section CWAY2
variable {h h' : zH} {x b d : Nat} {A : zSt}
theorem c_awy {t e p : Nat} (hK : CK h x b d A) (hN : CN h x A) (hA : AI t A) (he : e < aρ A 0) (hp : p < anp A) : (awy A e p = none → ∃ h', fX6_findWay h x (x + 78) (nI e) (nI p) = some (nI 0, h') ∧ CK h' x b d A ∧ CN h' x A ∧ Fr x (x + 801) h h') ∧ ∀ w1 w2 w3 w4 w5, awy A e p = some (w1, w2, w3, w4, w5) → ∃ h', fX6_findWay h x (x + 78) (nI e) (nI p) = some (nI 1, h') ∧ CK h' x b d A ∧ CN h' x A ∧ Fr x (x + 801) h h' ∧ zgP h' 6 x 3 = some (x + 77) ∧ zgI h' 5 (x + 77) 0 = some (nI w1) ∧ zgI h' 5 (x + 77) 1 = some (nI w2) ∧ zgI h' 5 (x + 77) 2 = some (nI w3) ∧ zgI h' 5 (x + 77) 3 = some (nI w4) ∧ zgI h' 5 (x + 77) 4 = some (nI w5) := by
  obtain ⟨wa, wb⟩ := c_way (q := x + 78) (e := e) (p := p) hK hN hA hN.2.2.1 (by omega) hA.2.2.1.1 (fun c _ => rfl) he hp
  constructor
  · intro q
    obtain ⟨h', l1, l2⟩ := wa q
    obtain ⟨K1, N1⟩ := CI_way hK hN hA l2.fr
    exact ⟨h', l1, K1, N1, l2.fr.wd (by omega) (by omega)⟩
  · intro w1 w2 w3 w4 w5 q
    obtain ⟨h', l1, l2, l3⟩ := wb _ q
    obtain ⟨K1, N1⟩ := CI_way hK hN hA l3.fr
    obtain ⟨u0, u1, u2, u3, u4, u5⟩ := l2
    refine ⟨h', l1, K1, N1, l3.fr.wd (by omega) (by omega), K1.1.g3, ?_, ?_, ?_, ?_, ?_⟩
    · rw [gI_ u0, u1]
    · rw [gI_ u0, u2]
    · rw [gI_ u0, u3]
    · rw [gI_ u0, u4]
    · rw [gI_ u0, u5]
theorem k_way {t : Nat} (hC : CI h x A) (hA : AI t A) (u v w : Int32) : CO h x (fX6_way h x u v w) (wayS A u v w) [xI, xA] := by
  obtain ⟨b, d, hK, hN⟩ := id hC
  have k1 := hK.1
  have n6 : anp A ≤ 6 := hA.2.1.2.2.1
  have c12 := hA.2.2.1.1.1.1
  obtain ⟨qa, qb⟩ := q_E (v := u) hK hN
  obtain ⟨pa, pb⟩ := q_P (v := v) hK
  unfold wayS
  by_cases c1 : outI u (aρ A 0)
  · rw [if_pos c1]
    refine CO_no hA (by omega) (by decide) hC ?_
    unfold fX6_way
    simp (disch := first | assumption | (simp only [sI_kd, sP_kd, rw_kd, sI_ln, sP_ln, rw_ln] <;> first | assumption | omega) | omega) only [nl, nI_add, pk_mul, Option.bind_some, zb2_some, nI_le_t, nI_le_f, nI_lt_t, nI_lt_f, nI_eq_t, nI_eq_f, nI_m1, nI_em1, ↓reduceIte, Nat.add_zero, k1.1, qa c1, zb4_some]
    rfl
  · rw [if_neg c1]
    by_cases c2 : outI v (anp A)
    · rw [if_pos c2]
      refine CO_no hA (by omega) (by decide) hC ?_
      unfold fX6_way
      simp (disch := first | assumption | (simp only [sI_kd, sP_kd, rw_kd, sI_ln, sP_ln, rw_ln] <;> first | assumption | omega) | omega) only [nl, nI_add, pk_mul, Option.bind_some, zb2_some, nI_le_t, nI_le_f, nI_lt_t, nI_lt_f, nI_eq_t, nI_eq_f, nI_m1, nI_em1, ↓reduceIte, Nat.add_zero, k1.1, qb c1, zb4_none, pa c2, zb4_some]
      rfl
    · rw [if_neg c2]
      by_cases c3 : outI w 5
      · rw [if_pos c3]
        refine CO_no hA (by omega) (by decide) hC ?_
        unfold fX6_way
        rw [if_pos k1.1, qb c1, zb4_none, pb c2, zb4_none]
        by_cases c4 : w < 0
        · rw [if_pos c4]; rfl
        · rw [if_neg c4, if_neg (fun z => by
            have q := c3.resolve_left c4
            exact absurd (Int32.le_trans q z) (by decide))]
          rfl
      · rw [if_neg c3]
        obtain ⟨e, a1, a2, a3⟩ := in_f (by omega) c1
        obtain ⟨p, e1, e2, e3⟩ := in_f (by omega) c2
        obtain ⟨k, k1', k2, k3⟩ := in_f (by omega) c3
        rw [a3, e3, k3]
        have q := qb c1
        have pq := pb c2
        obtain ⟨wa, wb⟩ := c_awy hK hN hA a1 e1
        subst a2
        subst e2
        subst k2
        unfold wayV
        match aw : awy A e p with
        | none =>
          obtain ⟨h', l1, l2, l3, l4⟩ := wa aw
          refine CO_ok ?_ ⟨b, d, l2, l3⟩ l4
          unfold fX6_way
          simp (disch := first | assumption | (simp only [sI_kd, sP_kd, rw_kd, sI_ln, sP_ln, rw_ln] <;> first | assumption | omega) | omega) only [nl, nI_add, pk_mul, Option.bind_some, zb2_some, nI_le_t, nI_le_f, nI_lt_t, nI_lt_f, nI_eq_t, nI_eq_f, nI_m1, nI_em1, ↓reduceIte, Nat.add_zero, k1.1, q, zb4_none, pq, k1.g4, l1]
          rfl
        | some (w1, w2, w3, w4, w5) =>
          obtain ⟨h', l1, l2, l3, l4, l5, y0, y1, y2, y3, y4⟩ := wb _ _ _ _ _ aw
          refine CO_ok ?_ ⟨b, d, l2, l3⟩ l4
          unfold fX6_way
          match k, k1' with
          | 0, _ => simp (disch := first | assumption | (simp only [sI_kd, sP_kd, rw_kd, sI_ln, sP_ln, rw_ln] <;> first | assumption | omega) | omega) only [nl, nI_add, pk_mul, Option.bind_some, zb2_some, nI_le_t, nI_le_f, nI_lt_t, nI_lt_f, nI_eq_t, nI_eq_f, nI_m1, nI_em1, ↓reduceIte, Nat.add_zero, k1.1, q, zb4_none, pq, k1.g4, l1, l5, y0]
          | 1, _ => simp (disch := first | assumption | (simp only [sI_kd, sP_kd, rw_kd, sI_ln, sP_ln, rw_ln] <;> first | assumption | omega) | omega) only [nl, nI_add, pk_mul, Option.bind_some, zb2_some, nI_le_t, nI_le_f, nI_lt_t, nI_lt_f, nI_eq_t, nI_eq_f, nI_m1, nI_em1, ↓reduceIte, Nat.add_zero, k1.1, q, zb4_none, pq, k1.g4, l1, l5, y1]; rfl
          | 2, _ => simp (disch := first | assumption | (simp only [sI_kd, sP_kd, rw_kd, sI_ln, sP_ln, rw_ln] <;> first | assumption | omega) | omega) only [nl, nI_add, pk_mul, Option.bind_some, zb2_some, nI_le_t, nI_le_f, nI_lt_t, nI_lt_f, nI_eq_t, nI_eq_f, nI_m1, nI_em1, ↓reduceIte, Nat.add_zero, k1.1, q, zb4_none, pq, k1.g4, l1, l5, y2]; rfl
          | 3, _ => simp (disch := first | assumption | (simp only [sI_kd, sP_kd, rw_kd, sI_ln, sP_ln, rw_ln] <;> first | assumption | omega) | omega) only [nl, nI_add, pk_mul, Option.bind_some, zb2_some, nI_le_t, nI_le_f, nI_lt_t, nI_lt_f, nI_eq_t, nI_eq_f, nI_m1, nI_em1, ↓reduceIte, Nat.add_zero, k1.1, q, zb4_none, pq, k1.g4, l1, l5, y3]; rfl
          | 4, _ => simp (disch := first | assumption | (simp only [sI_kd, sP_kd, rw_kd, sI_ln, sP_ln, rw_ln] <;> first | assumption | omega) | omega) only [nl, nI_add, pk_mul, Option.bind_some, zb2_some, nI_le_t, nI_le_f, nI_lt_t, nI_lt_f, nI_eq_t, nI_eq_f, nI_m1, nI_em1, ↓reduceIte, Nat.add_zero, k1.1, q, zb4_none, pq, k1.g4, l1, l5, y4]; rfl
theorem k_bst_L {t p : Nat} (hA : AI t A) (hp : p < anp A) : ∀ n' e n (h : zH), CK h x b d A → CN h x A → e + n' = aρ A 0 → n' < n → ∃ h2, fX6_bestFor_L16 (fun h3 y4 y5 y6 y7 => some (Sum.inl y4, h3)) x (nI p) n h (nI (bT1 (bstN A p e))) (nI (bT2 (bstN A p e))) (nI (bT3 (bstN A p e))) (nI e) = some (Sum.inl (nI (bT1 (bstN A p (aρ A 0)))), h2) ∧ CK h2 x b d A ∧ CN h2 x A ∧ Fr x (x + 801) h h2 := by
  have c12 := hA.2.2.1.1.1.1
  intro n'
  induction n' with
  | zero =>
    intro e n h hK hN hd hn'
    obtain ⟨n, rfl⟩ := fuel1 hn'
    have cn := hN.2.2.1.cn
    have e0 : e = aρ A 0 := by omega
    refine ⟨h, ?_, hK, hN, Fr.rf⟩
    rw [fX6_bestFor_L16, e0]
    simp (disch := first | assumption | (simp only [sI_kd, sP_kd, rw_kd, sI_ln, sP_ln, rw_ln] <;> first | assumption | omega) | omega) only [nl, nI_add, pk_mul, Option.bind_some, zb2_some, nI_le_t, nI_le_f, nI_lt_t, nI_lt_f, nI_eq_t, nI_eq_f, nI_m1, nI_em1, ↓reduceIte, Nat.add_zero, hK.1.g4, cn]
  | succ n' ih =>
    intro e n h hK hN hd hn'
    obtain ⟨n, rfl⟩ := fuel1 hn'
    have cn := hN.2.2.1.cn
    obtain ⟨f0, f1⟩ := c_awy hK hN hA (show e < aρ A 0 by omega) hp
    have be : bstN A p (e + 1) = match awy A e p with
      | none => bstN A p e
      | some (w1, _, _, _, w5) => match bstN A p e with
        | none => some (e, w1, w5)
        | some (i, u, v) => if w1 < u ∨ (w1 = u ∧ w5 < v) then some (e, w1, w5) else some (i, u, v) := rfl
    match q : awy A e p with
    | none =>
      obtain ⟨h1, k1, k2, k3, k4⟩ := f0 q
      obtain ⟨h2, l1, l2, l3, l4⟩ := ih (e + 1) n h1 k2 k3 (by omega) (by omega)
      rw [be, q] at l1
      refine ⟨h2, ?_, l2, l3, k4.tr l4⟩
      rw [fX6_bestFor_L16]
      simp (disch := first | assumption | (simp only [sI_kd, sP_kd, rw_kd, sI_ln, sP_ln, rw_ln] <;> first | assumption | omega) | omega) only [nl, nI_add, pk_mul, Option.bind_some, zb2_some, nI_le_t, nI_le_f, nI_lt_t, nI_lt_f, nI_eq_t, nI_eq_f, nI_m1, nI_em1, ↓reduceIte, Nat.add_zero, hK.1.g4, cn, k1]
      exact l1
    | some (w1, w2, w3, w4, w5) =>
      obtain ⟨h1, k1, k2, k3, k4, k5, k6, k7, k8, k9, k10⟩ := f1 _ _ _ _ _ q
      obtain ⟨h2, l1, l2, l3, l4⟩ := ih (e + 1) n h1 k2 k3 (by omega) (by omega)
      rw [be, q] at l1
      have b0 := awy_b hA (by omega) q
      refine ⟨h2, ?_, l2, l3, k4.tr l4⟩
      rw [fX6_bestFor_L16]
      match c : bstN A p e with
      | none =>
        rw [c] at l1
        unfold bT1 bT2 bT3
        unfold bT1 bT2 bT3 at l1
        simp (disch := first | assumption | (simp only [sI_kd, sP_kd, rw_kd, sI_ln, sP_ln, rw_ln] <;> first | assumption | omega) | omega) only [nl, nI_add, pk_mul, Option.bind_some, zb2_some, nI_le_t, nI_le_f, nI_lt_t, nI_lt_f, nI_eq_t, nI_eq_f, nI_m1, nI_em1, ↓reduceIte, Nat.add_zero, hK.1.g4, cn, k1, nI_n9, k5, k6, k10]
        exact l1
      | some (i, u, v) =>
        have b' := bstN_b hA e i u v (by omega) c
        have l1' : ∀ s, (if w1 < u ∨ (w1 = u ∧ w5 < v) then some (e, w1, w5) else some (i, u, v)) = s → fX6_bestFor_L16 (fun h3 y4 y5 y6 y7 => some (Sum.inl y4, h3)) x (nI p) n h1 (nI (bT1 s)) (nI (bT2 s)) (nI (bT3 s)) (nI (e + 1)) = some (Sum.inl (nI (bT1 (bstN A p (aρ A 0)))), h2) := fun s hs => by
          rw [c] at l1
          rw [← hs]
          exact l1
        have y1 : fX6_bestFor_L16 (fun h3 y4 y5 y6 y7 => some (Sum.inl y4, h3)) x (nI p) n h1 (nI e) (nI w1) (nI w5) (nI (e + 1)) = some (Sum.inl (nI (bT1 (bstN A p (aρ A 0)))), h2) ∨ ¬ (w1 < u ∨ (w1 = u ∧ w5 < v)) := by
          by_cases z : w1 < u ∨ (w1 = u ∧ w5 < v)
          · exact Or.inl (l1' _ (if_pos z))
          · exact Or.inr z
        have y2 : fX6_bestFor_L16 (fun h3 y4 y5 y6 y7 => some (Sum.inl y4, h3)) x (nI p) n h1 (nI i) (nI u) (nI v) (nI (e + 1)) = some (Sum.inl (nI (bT1 (bstN A p (aρ A 0)))), h2) ∨ (w1 < u ∨ (w1 = u ∧ w5 < v)) := by
          by_cases z : w1 < u ∨ (w1 = u ∧ w5 < v)
          · exact Or.inr z
          · exact Or.inl (l1' _ (if_neg z))
        have t1 : bT1 (some (i, u, v)) = i := rfl
        have t2 : bT2 (some (i, u, v)) = u := rfl
        have t3 : bT3 (some (i, u, v)) = v := rfl
        have ni : (nI i = nI 4294967287) = False := eq_false fun q => by
          have := (nI_eqN (by omega) (by omega)).mp q
          omega
        rw [t1, t2, t3]
        by_cases z1 : w1 < u
        · have y := y1.resolve_right (fun q => q (Or.inl z1))
          simp (disch := first | assumption | (simp only [sI_kd, sP_kd, rw_kd, sI_ln, sP_ln, rw_ln] <;> first | assumption | omega) | omega) only [nl, nI_add, pk_mul, Option.bind_some, zb2_some, nI_le_t, nI_le_f, nI_lt_t, nI_lt_f, nI_eq_t, nI_eq_f, nI_m1, nI_em1, ↓reduceIte, Nat.add_zero, hK.1.g4, cn, k1, nI_n9, ni, k5, k6, k10, y]
        · by_cases z2 : w1 = u
          · by_cases z3 : w5 < v
            · have y := y1.resolve_right (fun q => q (Or.inr ⟨z2, z3⟩))
              simp (disch := first | assumption | (simp only [sI_kd, sP_kd, rw_kd, sI_ln, sP_ln, rw_ln] <;> first | assumption | omega) | omega) only [nl, nI_add, pk_mul, Option.bind_some, zb2_some, nI_le_t, nI_le_f, nI_lt_t, nI_lt_f, nI_eq_t, nI_eq_f, nI_m1, nI_em1, ↓reduceIte, Nat.add_zero, hK.1.g4, cn, k1, nI_n9, ni, k5, k6, k10, y]
            · have y := y2.resolve_right (fun q => by omega)
              simp (disch := first | assumption | (simp only [sI_kd, sP_kd, rw_kd, sI_ln, sP_ln, rw_ln] <;> first | assumption | omega) | omega) only [nl, nI_add, pk_mul, Option.bind_some, zb2_some, nI_le_t, nI_le_f, nI_lt_t, nI_lt_f, nI_eq_t, nI_eq_f, nI_m1, nI_em1, ↓reduceIte, Nat.add_zero, hK.1.g4, cn, k1, nI_n9, ni, k5, k6, k10, y]
          · have y := y2.resolve_right (fun q => by omega)
            simp (disch := first | assumption | (simp only [sI_kd, sP_kd, rw_kd, sI_ln, sP_ln, rw_ln] <;> first | assumption | omega) | omega) only [nl, nI_add, pk_mul, Option.bind_some, zb2_some, nI_le_t, nI_le_f, nI_lt_t, nI_lt_f, nI_eq_t, nI_eq_f, nI_m1, nI_em1, ↓reduceIte, Nat.add_zero, hK.1.g4, cn, k1, nI_n9, ni, k5, k6, k10, y]
theorem k_bst {t : Nat} (hC : CI h x A) (hA : AI t A) (u : Int32) : CO h x (fX6_bestFor h x u) (bstS A u) [xI] := by
  obtain ⟨b, d, hK, hN⟩ := id hC
  have k1 := hK.1
  have n6 : anp A ≤ 6 := hA.2.1.2.2.1
  have c12 := hA.2.2.1.1.1.1
  obtain ⟨qa, qb⟩ := q_P (v := u) hK
  unfold bstS
  by_cases c1 : outI u (anp A)
  · rw [if_pos c1]
    refine CO_no hA (by omega) (by decide) hC ?_
    unfold fX6_bestFor
    simp (disch := first | assumption | (simp only [sI_kd, sP_kd, rw_kd, sI_ln, sP_ln, rw_ln] <;> first | assumption | omega) | omega) only [nl, nI_add, pk_mul, Option.bind_some, zb2_some, nI_le_t, nI_le_f, nI_lt_t, nI_lt_f, nI_eq_t, nI_eq_f, nI_m1, nI_em1, ↓reduceIte, Nat.add_zero, k1.1, qa c1, zb4_some]
    rfl
  · rw [if_neg c1]
    obtain ⟨a, a1, a2, a3⟩ := in_f (by omega) c1
    rw [a3]
    have q := qb c1
    obtain ⟨h2, l1, l2, l3, l4⟩ := k_bst_L hA a1 (aρ A 0) 0 zF h hK hN (by omega) (by unfold zF; omega)
    have lp : fX6_bestFor_L16 (fun h3 y4 y5 y6 y7 => some (Sum.inl y4, h3)) x (nI a) zF h (nI 4294967287) (nI 0) (nI 0) (nI 0) = some (Sum.inl (nI (bstV A a)), h2) := l1
    refine CO_ok ?_ ⟨b, d, l2, l3⟩ l4
    subst a2
    unfold fX6_bestFor
    simp (disch := first | assumption | (simp only [sI_kd, sP_kd, rw_kd, sI_ln, sP_ln, rw_ln] <;> first | assumption | omega) | omega) only [nl, nI_add, pk_mul, Option.bind_some, zb2_some, nI_le_t, nI_le_f, nI_lt_t, nI_lt_f, nI_eq_t, nI_eq_f, nI_m1, nI_em1, ↓reduceIte, Nat.add_zero, k1.1, q, zb4_none, nI_n9]
    exact lp
theorem k_rom {t : Nat} (hC : CI h x A) (hA : AI t A) : CP h x (fX6_room h x) (romS A) := by
  obtain ⟨b, d, hK, hN⟩ := id hC
  have k1 := hK.1
  have ho := hA.2.2.1.1.1
  have hS := hN.2.2.1
  have fu := c_full hS ho.1
  have L := c_least true hS ho nbut_m1
  rw [if_pos rfl] at L
  have lb := nls_bd ho 99 true
  have b3 := ho.2.2.2.1
  refine ⟨rfl, h, ?_, hC, Fr.rf⟩
  show fX6_room h x = some (nI (romV (aρ A)), h)
  unfold romV
  by_cases c : aρ A 0 = 12
  · rw [if_pos c] at fu ⊢
    unfold fX6_room
    simp (disch := first | assumption | (simp only [sI_kd, sP_kd, rw_kd, sI_ln, sP_ln, rw_ln] <;> first | assumption | omega) | omega) only [nl, nI_add, pk_mul, Option.bind_some, zb2_some, nI_le_t, nI_le_f, nI_lt_t, nI_lt_f, nI_eq_t, nI_eq_f, nI_m1, nI_em1, ↓reduceIte, Nat.add_zero, k1.1, k1.g4, fu]
  · rw [if_neg c] at fu ⊢
    by_cases c2 : nls (aρ A) 99 true ≤ aρ A 3
    · have ps : nI (aρ A 3) - nI (nls (aρ A) 99 true) = nI (aρ A 3 - nls (aρ A) 99 true) := pk_sub c2
      by_cases c3 : aρ A 3 - nls (aρ A) 99 true ≤ 9999
      · rw [Nat.min_eq_right c3]
        by_cases c4 : aρ A 3 - nls (aρ A) 99 true = 0
        · rw [c4] at ps ⊢
          unfold fX6_room
          simp (disch := first | assumption | (simp only [sI_kd, sP_kd, rw_kd, sI_ln, sP_ln, rw_ln] <;> first | assumption | omega) | omega) only [nl, nI_add, pk_mul, Option.bind_some, zb2_some, nI_le_t, nI_le_f, nI_lt_t, nI_lt_f, nI_eq_t, nI_eq_f, nI_m1, nI_em1, ↓reduceIte, Nat.add_zero, k1.1, k1.g4, fu, hS.bg, L, ps]
        · unfold fX6_room
          simp (disch := first | assumption | (simp only [sI_kd, sP_kd, rw_kd, sI_ln, sP_ln, rw_ln] <;> first | assumption | omega) | omega) only [nl, nI_add, pk_mul, Option.bind_some, zb2_some, nI_le_t, nI_le_f, nI_lt_t, nI_lt_f, nI_eq_t, nI_eq_f, nI_m1, nI_em1, ↓reduceIte, Nat.add_zero, k1.1, k1.g4, fu, hS.bg, L, ps]
      · rw [Nat.min_eq_left (by omega)]
        unfold fX6_room
        simp (disch := first | assumption | (simp only [sI_kd, sP_kd, rw_kd, sI_ln, sP_ln, rw_ln] <;> first | assumption | omega) | omega) only [nl, nI_add, pk_mul, Option.bind_some, zb2_some, nI_le_t, nI_le_f, nI_lt_t, nI_lt_f, nI_eq_t, nI_eq_f, nI_m1, nI_em1, ↓reduceIte, Nat.add_zero, k1.1, k1.g4, fu, hS.bg, L, ps]
    · have ng : (nI 9999 < nI (aρ A 3) - nI (nls (aρ A) 99 true)) = False := eq_false fun q => by
        rw [Int32.lt_iff_toInt_lt, pk_sub_toInt (by omega) (by omega), nI_toInt (by omega)] at q
        omega
      have ng0 : (nI 0 < nI (aρ A 3) - nI (nls (aρ A) 99 true)) = False := eq_false fun q => by
        rw [Int32.lt_iff_toInt_lt, pk_sub_toInt (by omega) (by omega), nI_toInt (by omega)] at q
        omega
      rw [show aρ A 3 - nls (aρ A) 99 true = 0 by omega]
      unfold fX6_room
      simp (disch := first | assumption | (simp only [sI_kd, sP_kd, rw_kd, sI_ln, sP_ln, rw_ln] <;> first | assumption | omega) | omega) only [nl, nI_add, pk_mul, Option.bind_some, zb2_some, nI_le_t, nI_le_f, nI_lt_t, nI_lt_f, nI_eq_t, nI_eq_f, nI_m1, nI_em1, ↓reduceIte, Nat.add_zero, k1.1, k1.g4, fu, hS.bg, L, ng, ng0]
      rfl
theorem k_rnk_L {j : Nat} (hK : CK h x b d A) (hN : CN h x A) (ho : nok (aρ A)) (hj : j < aρ A 0) : ∀ n' e n, e + n' = aρ A 0 → n' < n → fX6_ranked_L30 (fun h5 y6 y7 => some (Sum.inl y6, h5)) x (nI j) n h (nI (rkf (aρ A) j e)) (nI e) = some (Sum.inl (nI (rkf (aρ A) j (aρ A 0))), h) := by
  have c12 := ho.1
  have cn := hN.2.2.1.cn
  intro n'
  induction n' with
  | zero =>
    intro e n hf hn
    obtain ⟨n, rfl⟩ := fuel1 hn
    have e8 : e = aρ A 0 := by omega
    rw [fX6_ranked_L30, e8]
    simp (disch := first | assumption | (simp only [sI_kd, sP_kd, rw_kd, sI_ln, sP_ln, rw_ln] <;> first | assumption | omega) | omega) only [nl, nI_add, pk_mul, Option.bind_some, zb2_some, nI_le_t, nI_le_f, nI_lt_t, nI_lt_f, nI_eq_t, nI_eq_f, nI_m1, nI_em1, ↓reduceIte, Nat.add_zero, hK.1.g4, cn]
  | succ n' ih =>
    intro e n hf hn
    obtain ⟨n, rfl⟩ := fuel1 hn
    have i1 := ih (e + 1) n (by omega) (by omega)
    have st : rkf (aρ A) j (e + 1) = if nrk (aρ A) e (aρ A 0) = j then e else rkf (aρ A) j e := rfl
    have rk := c_rank hN.2.2.1 ho (show e < aρ A 0 by omega)
    have nl' := nrk_le (ρ := aρ A) e (aρ A 0)
    rw [fX6_ranked_L30]
    rw [st] at i1
    by_cases c : nrk (aρ A) e (aρ A 0) = j
    · rw [if_pos c] at i1
      rw [c] at rk
      simp (disch := first | assumption | (simp only [sI_kd, sP_kd, rw_kd, sI_ln, sP_ln, rw_ln] <;> first | assumption | omega) | omega) only [nl, nI_add, pk_mul, Option.bind_some, zb2_some, nI_le_t, nI_le_f, nI_lt_t, nI_lt_f, nI_eq_t, nI_eq_f, nI_m1, nI_em1, ↓reduceIte, Nat.add_zero, hK.1.g4, cn, rk]
      exact i1
    · rw [if_neg c] at i1
      simp (disch := first | assumption | (simp only [sI_kd, sP_kd, rw_kd, sI_ln, sP_ln, rw_ln] <;> first | assumption | omega) | omega) only [nl, nI_add, pk_mul, Option.bind_some, zb2_some, nI_le_t, nI_le_f, nI_lt_t, nI_lt_f, nI_eq_t, nI_eq_f, nI_m1, nI_em1, ↓reduceIte, Nat.add_zero, hK.1.g4, cn, rk]
      exact i1
theorem k_rnk {t : Nat} (hC : CI h x A) (hA : AI t A) (u : Int32) : CO h x (fX6_ranked h x u) (rnkS A u) [xI] := by
  obtain ⟨b, d, hK, hN⟩ := id hC
  have k1 := hK.1
  have ho := hA.2.2.1.1.1
  have c12 := ho.1
  have cn := hN.2.2.1.cn
  unfold rnkS
  by_cases c1 : outI u (aρ A 0)
  · rw [if_pos c1]
    refine CO_no hA (by omega) (by decide) hC ?_
    unfold fX6_ranked
    rw [if_pos k1.1, k1.g4, Option.bind_some, cn, Option.bind_some]
    by_cases c4 : u < 0
    · rw [if_pos c4]; rfl
    · rw [if_neg c4, if_neg (Int32.not_lt.mpr (c1.resolve_left c4))]
      rfl
  · rw [if_neg c1]
    obtain ⟨a, a1, a2, a3⟩ := in_f (by omega) c1
    rw [a3]
    have lp : fX6_ranked_L30 (fun h5 y6 y7 => some (Sum.inl y6, h5)) x (nI a) zF h (nI 0) (nI 0) = some (Sum.inl (nI (rkf (aρ A) a (aρ A 0))), h) := k_rnk_L hK hN ho a1 (aρ A 0) 0 zF (by omega) (by unfold zF; omega)
    refine CO_get hC ?_
    subst a2
    unfold fX6_ranked
    simp (disch := first | assumption | (simp only [sI_kd, sP_kd, rw_kd, sI_ln, sP_ln, rw_ln] <;> first | assumption | omega) | omega) only [nl, nI_add, pk_mul, Option.bind_some, zb2_some, nI_le_t, nI_le_f, nI_lt_t, nI_lt_f, nI_eq_t, nI_eq_f, nI_m1, nI_em1, ↓reduceIte, Nat.add_zero, k1.1, k1.g4, cn]
    exact lp
end CWAY2
