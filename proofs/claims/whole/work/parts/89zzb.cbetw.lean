/-! pure: the component's between -/
theorem ppb_iff {cm : Nat → Nat → Nat} {nf b f : Nat} : ∀ s a, ppb cm nf b f s a = true ↔ ∃ n, 1 ≤ n ∧ n ≤ s ∧ pat cm nf b n a = f := by
  intro s
  induction s with
  | zero => intro a; exact ⟨fun h => (by cases h), fun ⟨n, h1, h2, _⟩ => by omega⟩
  | succ s ih =>
    intro a
    show (decide (pn cm nf a b = f) || ppb cm nf b f s (pn cm nf a b)) = true ↔ _
    rw [Bool.or_eq_true, decide_eq_true_eq, ih]
    constructor
    · intro h
      rcases h with h | ⟨n, h1, h2, h3⟩
      · exact ⟨1, by omega, by omega, h⟩
      · exact ⟨n + 1, by omega, by omega, h3⟩
    · intro ⟨n, h1, h2, h3⟩
      obtain ⟨k, rfl⟩ : ∃ k, n = k + 1 := ⟨n - 1, by omega⟩
      by_cases z : k = 0
      · subst z
        exact Or.inl h3
      · exact Or.inr ⟨k, by omega, by omega, h3⟩
theorem pps_iff {cm : Nat → Nat → Nat} {nf a b f : Nat} : ∀ m, pps cm nf a b f m = true ↔ ∃ n, n < m ∧ fD 16 cm nf a b < fINF ∧ n ≤ pst cm nf a b ∧ pat cm nf b n a = f := by
  intro m
  induction m with
  | zero => exact ⟨fun h => (by cases h), fun ⟨n, h1, _⟩ => by omega⟩
  | succ m ih =>
    show (pps cm nf a b f m || decide (fD 16 cm nf a b < fINF ∧ m ≤ pst cm nf a b ∧ pat cm nf b m a = f)) = true ↔ _
    rw [Bool.or_eq_true, decide_eq_true_eq, ih]
    constructor
    · intro h
      rcases h with ⟨n, h1, h2⟩ | h
      · exact ⟨n, by omega, h2⟩
      · exact ⟨m, by omega, h⟩
    · intro ⟨n, h1, h2⟩
      by_cases z : n = m
      · rw [z] at h2; exact Or.inr h2
      · exact Or.inl ⟨n, by omega, h2⟩
section CBETW
variable {h h' : zH} {x b d t : Nat} {A : zSt}
theorem btwC_pps {f a e : Nat} (hc : cok (acm0 A) (anf A)) (ha : a < anf A) (h1 : a ≠ e) (h2 : a ≠ f) (h3 : e ≠ f) : btwC A f a e = pps (acm0 A) (anf A) a e f 8 := by
  have key : btwC A f a e = true ↔ pps (acm0 A) (anf A) a e f 8 = true := by
    unfold btwC
    rw [Bool.and_eq_true, decide_eq_true_eq, ppb_iff, pps_iff]
    constructor
    · rintro ⟨⟨-, -, -, q⟩, n, n1, n2, n3⟩
      have := pst_7 hc ha q
      exact ⟨n, by omega, q, n2, n3⟩
    · rintro ⟨n, n1, q, n2, n3⟩
      refine ⟨⟨h1, h2, h3, q⟩, n, ?_, n2, n3⟩
      by_cases z : n = 0
      · subst z
        exact absurd n3 h2
      · omega
  cases z1 : btwC A f a e with
  | true => rw [key.mp z1]
  | false =>
    cases z2 : pps (acm0 A) (anf A) a e f 8 with
    | true => rw [key.mpr z2] at z1; cases z1
    | false => rfl
theorem cb_I {f a s : Nat} (hK : CK h x b d A) (hN : CN h x A) (hA : AI t A) (hf : f < anf A) (ha : a < anf A) (k : zH → Int32 → Int32 → Option ((Int32 ⊕ String) × zH)) : ∀ d' e n, e + d' = anf A → d' < n → fX6_between_L23 k x (nI f) (nI a) n h (nI (s + btwR A f a e)) (nI e) = k h (nI (s + btwR A f a (anf A))) (nI (anf A)) := by
  have k1 := hK.1
  have g9 := hK.2.1.g9 k1.1
  have gn := hK.2.2.2.2.1.1.gnf
  have n8 := hA.2.1.1.1
  obtain ⟨hc, hcf⟩ := AI_cok hA 4294967287
  intro d'
  induction d' with
  | zero =>
    intro e n hd hn'
    obtain ⟨n, rfl⟩ := fuel1 hn'
    have ee : e = anf A := by omega
    rw [fX6_between_L23, ee]
    simp (disch := first | assumption | (simp only [sI_kd, sP_kd, rw_kd, sI_ln, sP_ln, rw_ln] <;> first | assumption | omega) | omega) only [nl, nI_add, pk_mul, Option.bind_some, zb2_some, nI_le_t, nI_le_f, nI_lt_t, nI_lt_f, nI_eq_t, nI_eq_f, nI_m1, nI_em1, ↓reduceIte, Nat.add_zero, g9, gn]
  | succ d' ih =>
    intro e n hd hn'
    obtain ⟨n, rfl⟩ := fuel1 hn'
    have goal := ih (e + 1) n (by omega) (by omega)
    rw [btwR_s] at goal
    have no : ¬ (a ≠ e ∧ a ≠ f ∧ e ≠ f ∧ fD 16 (acm0 A) (anf A) a e < fINF) → btwC A f a e = false := fun q => by
      unfold btwC
      rw [decide_eq_false q, Bool.false_and]
    have g0 : btwC A f a e = false → fX6_between_L23 k x (nI f) (nI a) n h (nI (s + btwR A f a e)) (nI (e + 1)) = k h (nI (s + btwR A f a (anf A))) (nI (anf A)) := fun q => by
      rw [q] at goal
      exact goal
    rw [fX6_between_L23]
    by_cases c1 : a = e
    · have g := g0 (no (fun q => q.1 c1))
      rw [← c1] at g ⊢
      simp (disch := first | assumption | (simp only [sI_kd, sP_kd, rw_kd, sI_ln, sP_ln, rw_ln] <;> first | assumption | omega) | omega) only [nl, nI_add, pk_mul, Option.bind_some, zb2_some, nI_le_t, nI_le_f, nI_lt_t, nI_lt_f, nI_eq_t, nI_eq_f, nI_m1, nI_em1, ↓reduceIte, Nat.add_zero, g9, gn]
      exact g
    · by_cases c2 : a = f
      · have g := g0 (no (fun q => q.2.1 c2))
        rw [← c2] at g ⊢
        simp (disch := first | assumption | (simp only [sI_kd, sP_kd, rw_kd, sI_ln, sP_ln, rw_ln] <;> first | assumption | omega) | omega) only [nl, nI_add, pk_mul, Option.bind_some, zb2_some, nI_le_t, nI_le_f, nI_lt_t, nI_lt_f, nI_eq_t, nI_eq_f, nI_m1, nI_em1, ↓reduceIte, Nat.add_zero, g9, gn]
        exact g
      · by_cases c3 : e = f
        · have g := g0 (no (fun q => q.2.2.1 c3))
          rw [← c3] at g ⊢
          simp (disch := first | assumption | (simp only [sI_kd, sP_kd, rw_kd, sI_ln, sP_ln, rw_ln] <;> first | assumption | omega) | omega) only [nl, nI_add, pk_mul, Option.bind_some, zb2_some, nI_le_t, nI_le_f, nI_lt_t, nI_lt_f, nI_eq_t, nI_eq_f, nI_m1, nI_em1, ↓reduceIte, Nat.add_zero, g9, gn]
          exact g
        · have fp := f_pas (f := f) hN.1 hK.2.2.2.2.1.1 hA.2.1 hc hcf ha (show e < anf A by omega) hf
          have bp := btwC_pps (A := A) hc ha c1 c2 c3
          cases z : pps (acm0 A) (anf A) a e f 8 with
          | true =>
            rw [z] at bp
            have fp' : fX2_passes h (x + 3) (nI a) (nI e) (nI f) b = some (nI 1, h) := by
              rw [fp, if_pos z]
            rw [bp, if_pos rfl, ← Nat.add_assoc] at goal
            simp (disch := first | assumption | (simp only [sI_kd, sP_kd, rw_kd, sI_ln, sP_ln, rw_ln] <;> first | assumption | omega) | omega) only [nl, nI_add, pk_mul, Option.bind_some, zb2_some, nI_le_t, nI_le_f, nI_lt_t, nI_lt_f, nI_eq_t, nI_eq_f, nI_m1, nI_em1, ↓reduceIte, Nat.add_zero, g9, gn, k1.g1, fp']
            exact goal
          | false =>
            rw [z] at bp
            have fp' : fX2_passes h (x + 3) (nI a) (nI e) (nI f) b = some (nI 0, h) := by
              rw [fp, if_neg (fun w => by rw [z] at w; cases w)]
            have g := g0 bp
            simp (disch := first | assumption | (simp only [sI_kd, sP_kd, rw_kd, sI_ln, sP_ln, rw_ln] <;> first | assumption | omega) | omega) only [nl, nI_add, pk_mul, Option.bind_some, zb2_some, nI_le_t, nI_le_f, nI_lt_t, nI_lt_f, nI_eq_t, nI_eq_f, nI_m1, nI_em1, ↓reduceIte, Nat.add_zero, g9, gn, k1.g1, fp']
            exact g
theorem cb_O {f : Nat} (hK : CK h x b d A) (hN : CN h x A) (hA : AI t A) (hf : f < anf A) : ∀ d' a n, a + d' = anf A → d' < n → fX6_between_L9 (fun h3 y4 y5 => some (Sum.inl y4, h3)) x (nI f) n h (nI (btwV A f a)) (nI a) = some (Sum.inl (nI (btwV A f (anf A))), h) := by
  have k1 := hK.1
  have g9 := hK.2.1.g9 k1.1
  have gn := hK.2.2.2.2.1.1.gnf
  have n8 := hA.2.1.1.1
  intro d'
  induction d' with
  | zero =>
    intro a n hd hn'
    obtain ⟨n, rfl⟩ := fuel1 hn'
    have ee : a = anf A := by omega
    rw [fX6_between_L9, ee]
    simp (disch := first | assumption | (simp only [sI_kd, sP_kd, rw_kd, sI_ln, sP_ln, rw_ln] <;> first | assumption | omega) | omega) only [nl, nI_add, pk_mul, Option.bind_some, zb2_some, nI_le_t, nI_le_f, nI_lt_t, nI_lt_f, nI_eq_t, nI_eq_f, nI_m1, nI_em1, ↓reduceIte, Nat.add_zero, g9, gn]
  | succ d' ih =>
    intro a n hd hn'
    obtain ⟨n, rfl⟩ := fuel1 hn'
    have goal := ih (a + 1) n (by omega) (by omega)
    rw [btwV_s] at goal
    have L := cb_I (s := btwV A f a) hK hN hA hf (show a < anf A by omega) (fun h4 y5 y6 => fX6_between_L9 (fun h3 y4 y5 => some (Sum.inl y4, h3)) x (nI f) n h4 y5 (nI (a + 1))) (anf A) 0 zF (by omega) (by unfold zF; omega)
    have L' : fX6_between_L23 (fun h4 y5 y6 => fX6_between_L9 (fun h3 y4 y5 => some (Sum.inl y4, h3)) x (nI f) n h4 y5 (nI (a + 1))) x (nI f) (nI a) zF h (nI (btwV A f a)) (nI 0) = fX6_between_L9 (fun h3 y4 y5 => some (Sum.inl y4, h3)) x (nI f) n h (nI (btwV A f a + btwR A f a (anf A))) (nI (a + 1)) := L
    rw [fX6_between_L9]
    simp (disch := first | assumption | (simp only [sI_kd, sP_kd, rw_kd, sI_ln, sP_ln, rw_ln] <;> first | assumption | omega) | omega) only [nl, nI_add, pk_mul, Option.bind_some, zb2_some, nI_le_t, nI_le_f, nI_lt_t, nI_lt_f, nI_eq_t, nI_eq_f, nI_m1, nI_em1, ↓reduceIte, Nat.add_zero, g9, gn]
    rw [L']
    exact goal
theorem k_btw (hC : CI h x A) (hA : AI t A) (u : Int32) : CO h x (fX6_between h x u) (btwS A u) [xI] := by
  obtain ⟨b, d, hK, hN⟩ := id hC
  have k1 := hK.1
  have n8 := hA.2.1.1.1
  obtain ⟨qa, qb⟩ := q_F (v := u) hK
  unfold btwS
  by_cases c1 : outI u (anf A)
  · rw [if_pos c1]
    refine CO_no hA (by omega) (by decide) hC ?_
    unfold fX6_between
    simp (disch := first | assumption | (simp only [sI_kd, sP_kd, rw_kd, sI_ln, sP_ln, rw_ln] <;> first | assumption | omega) | omega) only [nl, nI_add, pk_mul, Option.bind_some, zb2_some, nI_le_t, nI_le_f, nI_lt_t, nI_lt_f, nI_eq_t, nI_eq_f, nI_m1, nI_em1, ↓reduceIte, Nat.add_zero, k1.1, qa c1, zb4_some]
    rfl
  · rw [if_neg c1]
    obtain ⟨a, a1, a2, a3⟩ := in_f (by omega) c1
    rw [a3]
    have q := qb c1
    have lp : fX6_between_L9 (fun h3 y4 y5 => some (Sum.inl y4, h3)) x (nI a) zF h (nI 0) (nI 0) = some (Sum.inl (nI (btwV A a (anf A))), h) := cb_O hK hN hA a1 (anf A) 0 zF (by omega) (by unfold zF; omega)
    refine CO_get hC ?_
    subst a2
    unfold fX6_between
    simp (disch := first | assumption | (simp only [sI_kd, sP_kd, rw_kd, sI_ln, sP_ln, rw_ln] <;> first | assumption | omega) | omega) only [nl, nI_add, pk_mul, Option.bind_some, zb2_some, nI_le_t, nI_le_f, nI_lt_t, nI_lt_f, nI_eq_t, nI_eq_f, nI_m1, nI_em1, ↓reduceIte, Nat.add_zero, k1.1, q, zb4_none]
    exact lp
end CBETW
