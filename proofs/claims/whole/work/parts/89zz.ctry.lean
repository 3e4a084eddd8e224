/-! pure: the component's tries -/
/-- the trial holds τ -/
def TC (h : zH) (x b d : Nat) (A : zSt) (τ : zN') : Prop := CK h x b d A ∧ CN h x A ∧ SR false h (x + 117) (anc A) τ
def csq (A : zSt) (τ : zN') : Prop := ∀ j, 4 ≤ j → j < 24 → τ j = aρ A j
/-- what a try of the component does to the trial -/
def TcR (h : zH) (x b d : Nat) (A : zSt) (τ : zN') (r : Option (Int32 × zH)) (o : Option zN') : Prop := (o = none → ∃ g, r = some (nI 0, g) ∧ TC g x b d A τ ∧ Fr x (x + 801) h g) ∧ ∀ τ', o = some τ' → ∃ g, r = some (nI 1, g) ∧ TC g x b d A τ' ∧ Fr x (x + 801) h g ∧ rok (anf A) (anc A) τ' ∧ τ' 1 ≤ τ 1 + 1 ∧ csq A τ'
section CTRY
variable {h h' : zH} {x b d t : Nat} {A : zSt} {τ : zN'}
theorem TcR_no {r : Option (Int32 × zH)} (hC : TC h x b d A τ) (e : r = some (nI 0, h)) : TcR h x b d A τ r none := ⟨fun _ => ⟨h, e, hC, Fr.rf⟩, fun _ q => (by cases q)⟩
theorem TcR_yes {r : Option (Int32 × zH)} (hC : TC h x b d A τ) (tr : rok (anf A) (anc A) τ) (hq : csq A τ) (e : r = some (nI 1, h)) : TcR h x b d A τ r (some τ) := ⟨fun q => (by cases q), fun τ' q => by
  cases q
  exact ⟨h, e, hC, Fr.rf, tr, by omega, hq⟩⟩
theorem TcR_if {r : Option (Int32 × zH)} {c : Prop} [Decidable c] {o : Option zN'} (h1 : c → TcR h x b d A τ r o) (h2 : ¬ c → TcR h x b d A τ r none) : TcR h x b d A τ r (if c then o else none) := by
  by_cases q : c
  · rw [if_pos q]; exact h1 q
  · rw [if_neg q]; exact h2 q
/-- the trial's row changes -/
theorem TC_put {τ' : zN'} (hC : TC h x b d A τ) (hA : AI t A) (f : Fr (x + 117) (x + 117 + 39) h h') (hS : SR false h' (x + 117) (anc A) τ') : TC h' x b d A τ' ∧ Fr x (x + 801) h h' := by
  obtain ⟨k, n⟩ := CI_trial hC.1 hC.2.1 hA f hS.1
  exact ⟨⟨k, n, hS⟩, f.wd (by omega) (by omega)⟩
theorem t_copy (hC : TC h x b d A τ) (hA : AI t A) (tr : rok (anf A) (anc A) τ) (hq : csq A τ) (ht : τ 1 + 1 < 10000) (u v : Int32) : TcR h x b d A τ (fX6_tryCopy h x u v) (tryR A 1 τ u v) := by
  obtain ⟨hK, hN, hS⟩ := id hC
  have k1 := hK.1
  have g9 := hK.2.1.g9 k1.1
  have n8 := hA.2.1.1.1
  have n20 := hA.2.1.1.2.1
  have hf := c_hasF (v := u) hK.2.2.2.2.1.1
  have hn := c_isN (h := h) (v := v)
  unfold tryR
  rw [if_pos rfl]
  by_cases c1 : outI u (anf A)
  · rw [if_pos c1] at hf ⊢
    refine TcR_no hC ?_
    unfold fX6_tryCopy
    simp (disch := first | assumption | (simp only [sI_kd, sP_kd, rw_kd, sI_ln, sP_ln, rw_ln] <;> first | assumption | omega) | omega) only [nl, nI_add, pk_mul, Option.bind_some, zb2_some, nI_le_t, nI_le_f, nI_lt_t, nI_lt_f, nI_eq_t, nI_eq_f, nI_m1, nI_em1, ↓reduceIte, Nat.add_zero, k1.1, g9, hf]
  · rw [if_neg c1] at hf ⊢
    obtain ⟨f, f1, f2, f3⟩ := in_f (by omega) c1
    by_cases c2 : newSz v
    · rw [if_neg (fun z => z c2)]
      rw [if_pos c2] at hn
      obtain ⟨s, b1, b2, b3, b4⟩ := in_sz c2
      rw [f3, b4]
      subst f2
      subst b3
      have cn := c_can (f := f) (b := s) hS tr.1 ht b2
      cases hc : ncopy τ f s with
      | none =>
        rw [hc] at cn
        have cn' : fX3_canAddEntry h (x + 117) (nI s) = some (nI 0, h) := cn
        refine TcR_no hC ?_
        unfold fX6_tryCopy
        simp (disch := first | assumption | (simp only [sI_kd, sP_kd, rw_kd, sI_ln, sP_ln, rw_ln] <;> first | assumption | omega) | omega) only [nl, nI_add, pk_mul, Option.bind_some, zb2_some, nI_le_t, nI_le_f, nI_lt_t, nI_lt_f, nI_eq_t, nI_eq_f, nI_m1, nI_em1, ↓reduceIte, Nat.add_zero, k1.1, g9, hf, hn, k1.g5, cn']
      | some ρ' =>
        rw [hc] at cn
        have cn' : fX3_canAddEntry h (x + 117) (nI s) = some (nI 1, h) := cn
        obtain ⟨r1, r2, r3⟩ := rok_copy tr n20 ht f1 n8 ⟨b1, b2⟩ hc
        obtain ⟨h13, w1, w2, w3⟩ := c_addEntry hS n20 tr.1 ht (show f < 8 by omega) b2 hc
        obtain ⟨C', F'⟩ := TC_put hC hA w3 w2
        refine ⟨fun q => (by cases q), fun τ' q => ?_⟩
        cases q
        refine ⟨h13, ?_, C', F', r1, by omega, fun j h1 h2 => by rw [cs_copy tr.1 ht hc h1 h2]; exact hq j h1 h2⟩
        unfold fX6_tryCopy
        simp (disch := first | assumption | (simp only [sI_kd, sP_kd, rw_kd, sI_ln, sP_ln, rw_ln] <;> first | assumption | omega) | omega) only [nl, nI_add, pk_mul, Option.bind_some, zb2_some, nI_le_t, nI_le_f, nI_lt_t, nI_lt_f, nI_eq_t, nI_eq_f, nI_m1, nI_em1, ↓reduceIte, Nat.add_zero, k1.1, g9, hf, hn, k1.g5, cn', w1]
    · rw [if_pos c2]
      rw [if_neg c2] at hn
      refine TcR_no hC ?_
      unfold fX6_tryCopy
      simp (disch := first | assumption | (simp only [sI_kd, sP_kd, rw_kd, sI_ln, sP_ln, rw_ln] <;> first | assumption | omega) | omega) only [nl, nI_add, pk_mul, Option.bind_some, zb2_some, nI_le_t, nI_le_f, nI_lt_t, nI_lt_f, nI_eq_t, nI_eq_f, nI_m1, nI_em1, ↓reduceIte, Nat.add_zero, k1.1, g9, hf, hn]
theorem t_offer (hC : TC h x b d A τ) (hA : AI t A) (tr : rok (anf A) (anc A) τ) (hq : csq A τ) (ht : τ 1 + 1 < 10000) (u v : Int32) : TcR h x b d A τ (fX6_tryOffer h x u v) (tryR A 2 τ u v) := by
  obtain ⟨hK, hN, hS⟩ := id hC
  have k1 := hK.1
  have g9 := hK.2.1.g9 k1.1
  have n8 := hA.2.1.1.1
  have n20 := hA.2.1.1.2.1
  have hf := c_hasF (v := u) hK.2.2.2.2.1.1
  have hn := c_isN (h := h) (v := v)
  unfold tryR
  rw [if_neg (by decide), if_pos rfl]
  by_cases c1 : outI u (anf A)
  · rw [if_pos c1] at hf ⊢
    refine TcR_no hC ?_
    unfold fX6_tryOffer
    simp (disch := first | assumption | (simp only [sI_kd, sP_kd, rw_kd, sI_ln, sP_ln, rw_ln] <;> first | assumption | omega) | omega) only [nl, nI_add, pk_mul, Option.bind_some, zb2_some, nI_le_t, nI_le_f, nI_lt_t, nI_lt_f, nI_eq_t, nI_eq_f, nI_m1, nI_em1, ↓reduceIte, Nat.add_zero, k1.1, g9, hf]
  · rw [if_neg c1] at hf ⊢
    obtain ⟨f, f1, f2, f3⟩ := in_f (by omega) c1
    by_cases c2 : newSz v
    · rw [if_neg (fun z => z c2)]
      rw [if_pos c2] at hn
      obtain ⟨s, b1, b2, b3, b4⟩ := in_sz c2
      rw [f3, b4]
      subst f2
      subst b3
      have cn := c_canForm (f := f) (b := s) hS tr.1 ht (show f < 8 by omega) b2
      cases hc : noffer τ f s with
      | none =>
        rw [hc] at cn
        have cn' : fX3_canAddForm h (x + 117) (nI f) (nI s) = some (nI 0, h) := cn
        refine TcR_no hC ?_
        unfold fX6_tryOffer
        simp (disch := first | assumption | (simp only [sI_kd, sP_kd, rw_kd, sI_ln, sP_ln, rw_ln] <;> first | assumption | omega) | omega) only [nl, nI_add, pk_mul, Option.bind_some, zb2_some, nI_le_t, nI_le_f, nI_lt_t, nI_lt_f, nI_eq_t, nI_eq_f, nI_m1, nI_em1, ↓reduceIte, Nat.add_zero, k1.1, g9, hf, hn, k1.g5, cn']
      | some ρ' =>
        rw [hc] at cn
        have cn' : fX3_canAddForm h (x + 117) (nI f) (nI s) = some (nI 1, h) := cn
        obtain ⟨r1, r2⟩ := rok_offer tr n20 ht f1 n8 ⟨b1, b2⟩ hc
        obtain ⟨h13, w1, w2, w3⟩ := c_addForm hS n20 tr.1 ht (show f < 8 by omega) b2 hc
        obtain ⟨C', F'⟩ := TC_put hC hA w3 w2
        refine ⟨fun q => (by cases q), fun τ' q => ?_⟩
        cases q
        refine ⟨h13, ?_, C', F', r1, by omega, fun j h1 h2 => by rw [cs_offer tr.1 ht (by omega) hc h1 h2]; exact hq j h1 h2⟩
        unfold fX6_tryOffer
        simp (disch := first | assumption | (simp only [sI_kd, sP_kd, rw_kd, sI_ln, sP_ln, rw_ln] <;> first | assumption | omega) | omega) only [nl, nI_add, pk_mul, Option.bind_some, zb2_some, nI_le_t, nI_le_f, nI_lt_t, nI_lt_f, nI_eq_t, nI_eq_f, nI_m1, nI_em1, ↓reduceIte, Nat.add_zero, k1.1, g9, hf, hn, k1.g5, cn', w1]
    · rw [if_pos c2]
      rw [if_neg c2] at hn
      refine TcR_no hC ?_
      unfold fX6_tryOffer
      simp (disch := first | assumption | (simp only [sI_kd, sP_kd, rw_kd, sI_ln, sP_ln, rw_ln] <;> first | assumption | omega) | omega) only [nl, nI_add, pk_mul, Option.bind_some, zb2_some, nI_le_t, nI_le_f, nI_lt_t, nI_lt_f, nI_eq_t, nI_eq_f, nI_m1, nI_em1, ↓reduceIte, Nat.add_zero, k1.1, g9, hf, hn]
theorem t_paste (hC : TC h x b d A τ) (hA : AI t A) (tr : rok (anf A) (anc A) τ) (hq : csq A τ) (ht : τ 1 + 1 < 10000) (u v : Int32) : TcR h x b d A τ (fX6_tryPaste h x u v) (tryR A 3 τ u v) := by
  obtain ⟨hK, hN, hS⟩ := id hC
  have k1 := hK.1
  have g9 := hK.2.1.g9 k1.1
  have hO := hA.2.1
  have n8 := hA.2.1.1.1
  have n20 := hA.2.1.1.2.1
  have n6 := hA.2.1.2.2.1
  have c12 := tr.1.1
  have he := c_hasX hS u
  have hp := c_hasP (v := v) hK.2.2.2.2.1.1
  unfold tryR
  rw [if_neg (by decide), if_neg (by decide)]
  by_cases c1 : outI u (τ 0)
  · rw [if_pos c1] at he ⊢
    refine TcR_no hC ?_
    unfold fX6_tryPaste
    simp (disch := first | assumption | (simp only [sI_kd, sP_kd, rw_kd, sI_ln, sP_ln, rw_ln] <;> first | assumption | omega) | omega) only [nl, nI_add, pk_mul, Option.bind_some, zb2_some, nI_le_t, nI_le_f, nI_lt_t, nI_lt_f, nI_eq_t, nI_eq_f, nI_m1, nI_em1, ↓reduceIte, Nat.add_zero, k1.1, k1.g5, he]
  · rw [if_neg c1] at he ⊢
    obtain ⟨e, f1, f2, f3⟩ := in_f (by omega) c1
    by_cases c2 : outI v (anp A)
    · rw [if_pos c2] at hp ⊢
      refine TcR_no hC ?_
      unfold fX6_tryPaste
      simp (disch := first | assumption | (simp only [sI_kd, sP_kd, rw_kd, sI_ln, sP_ln, rw_ln] <;> first | assumption | omega) | omega) only [nl, nI_add, pk_mul, Option.bind_some, zb2_some, nI_le_t, nI_le_f, nI_lt_t, nI_lt_f, nI_eq_t, nI_eq_f, nI_m1, nI_em1, ↓reduceIte, Nat.add_zero, k1.1, k1.g5, he, g9, hp]
    · rw [if_neg c2] at hp ⊢
      obtain ⟨p, p1, p2, p3⟩ := in_f (by omega) c2
      rw [f3, p3]
      subst f2
      subst p2
      obtain ⟨wa, wb⟩ := c_way (q := x + 117) (e := e) (p := p) hK hN hA hS (by omega) tr (fun c hc => hq (4 + c) (by omega) (by omega)) f1 p1
      cases hw : away A τ e p with
      | none =>
        obtain ⟨h1, l1, l2⟩ := wa hw
        obtain ⟨K1, N1⟩ := CI_way hK hN hA l2.fr
        refine ⟨fun _ => ⟨h1, ?_, ⟨K1, N1, SR_fr l2.fr (by omega) hS c12⟩, l2.fr.wd (by omega) (by omega)⟩, fun _ q => (by cases q)⟩
        unfold fX6_tryPaste
        simp (disch := first | assumption | (simp only [sI_kd, sP_kd, rw_kd, sI_ln, sP_ln, rw_ln] <;> first | assumption | omega) | omega) only [nl, nI_add, pk_mul, Option.bind_some, zb2_some, nI_le_t, nI_le_f, nI_lt_t, nI_lt_f, nI_eq_t, nI_eq_f, nI_m1, nI_em1, ↓reduceIte, Nat.add_zero, k1.1, k1.g5, he, g9, hp, l1]
      | some w =>
        obtain ⟨h1, l1, l2, l3⟩ := wb w hw
        obtain ⟨K1, N1⟩ := CI_way hK hN hA l3.fr
        have hw' : nway (afr A) (att A) (agr A) (alo A) (aac A) (ali A) (anc A) (anf A) τ e p = some w := hw
        obtain ⟨u1, u2, u3, u4, u5⟩ := nway_ok hO tr.2.2.1 (tr.1.2.2.2.2 e f1) hw'
        obtain ⟨r1, r2⟩ := rok_paste hO tr ht f1 hw'
        have S1 := SR_fr l3.fr (by omega) hS c12
        obtain ⟨h15, w1, w2, w3⟩ := c_use (fw := x + 77) S1 n20 tr.1 ht f1 l2 (by omega) (by omega) u4
        obtain ⟨C', F'⟩ := TC_put ⟨K1, N1, S1⟩ hA w3 w2
        refine ⟨fun q => (by cases q), fun τ' q => ?_⟩
        have q' : npaste τ e w = τ' := Option.some.inj q
        subst q'
        refine ⟨h15, ?_, C', (l3.fr.wd (by omega) (by omega)).tr F', r1, by omega, fun j h1 h2 => by rw [cs_paste tr.1 ht f1 h1 h2]; exact hq j h1 h2⟩
        unfold fX6_tryPaste
        simp (disch := first | assumption | (simp only [sI_kd, sP_kd, rw_kd, sI_ln, sP_ln, rw_ln] <;> first | assumption | omega) | omega) only [nl, nI_add, pk_mul, Option.bind_some, zb2_some, nI_le_t, nI_le_f, nI_lt_t, nI_lt_f, nI_eq_t, nI_eq_f, nI_m1, nI_em1, ↓reduceIte, Nat.add_zero, k1.1, k1.g5, he, g9, hp, l1, K1.1.g5, K1.1.g3, w1]
theorem has_n {q nc e : Nat} {ρ : zN'} (hS : SR false h q nc ρ) (hc : ρ 0 ≤ 12) (he : e < 2 ^ 30) : fX3_hasEntry h q (nI e) = some (if e < ρ 0 then nI 1 else nI 0, h) := by
  have := c_hasX hS (nI e)
  refine this.trans ?_
  by_cases z : e < ρ 0
  · rw [if_pos z, if_neg (fun z => z.elim (fun z => absurd ((nI_ltI (b := 0) (by omega) (by omega)).mp z) (by omega)) (fun z => absurd ((nI_leI (by omega) (by omega)).mp z) (by omega)))]
  · rw [if_neg z, if_pos (Or.inr ((nI_leI (by omega) (by omega)).mpr (by omega)))]
theorem t_cmd {g : Nat} (hC : TC h x b d A τ) (hA : AI t A) (tr : rok (anf A) (anc A) τ) (hq : csq A τ) (ht : τ 1 + 1 < 10000) (hg : g < 1000000) : TcR h x b d A τ (fX6_runCommand h x (nI g)) (cmdR A τ g) := by
  obtain ⟨hK, hN, hS⟩ := id hC
  have k1 := hK.1
  have n8 := hA.2.1.1.1
  have n20 := hA.2.1.1.2.1
  have c12 := tr.1.1
  obtain ⟨d5, s5⟩ := sdm (a := g) (b := 100000) (by omega) (by omega) (by omega)
  obtain ⟨d4, s4⟩ := sdm (a := g) (b := 10000) (by omega) (by omega) (by omega)
  obtain ⟨d3, s3⟩ := sdm (a := g) (b := 1000) (by omega) (by omega) (by omega)
  obtain ⟨d2, s2⟩ := sdm (a := g) (b := 100) (by omega) (by omega) (by omega)
  obtain ⟨d41, s41⟩ := sdm (a := g / 10000) (b := 10) (by omega) (by omega) (by omega)
  obtain ⟨d32, s32⟩ := sdm (a := g / 1000) (b := 100) (by omega) (by omega) (by omega)
  obtain ⟨d21, s21⟩ := sdm (a := g / 100) (b := 10) (by omega) (by omega) (by omega)
  have he := has_n (e := g / 1000 % 100) hS c12 (by omega)
  unfold cmdR
  by_cases q1 : g / 100000 = 1
  · rw [if_pos q1]
    obtain ⟨t1, t2⟩ := t_copy hC hA tr hq ht (nI (g / 10000 % 10)) (nI (g % 10000))
    rw [q1] at d5
    refine ⟨fun q => ?_, fun τ' q => ?_⟩
    · obtain ⟨g1, p1, p2⟩ := t1 q
      refine ⟨g1, ?_, p2⟩
      unfold fX6_runCommand
      simp (disch := first | assumption | (simp only [sI_kd, sP_kd, rw_kd, sI_ln, sP_ln, rw_ln] <;> first | assumption | omega) | omega) only [nl, nI_add, pk_mul, Option.bind_some, zb2_some, nI_le_t, nI_le_f, nI_lt_t, nI_lt_f, nI_eq_t, nI_eq_f, nI_m1, nI_em1, ↓reduceIte, Nat.add_zero, k1.1, d5, d4, d41, s4, s41, p1]
      rfl
    · obtain ⟨g1, p1, p2⟩ := t2 τ' q
      refine ⟨g1, ?_, p2⟩
      unfold fX6_runCommand
      simp (disch := first | assumption | (simp only [sI_kd, sP_kd, rw_kd, sI_ln, sP_ln, rw_ln] <;> first | assumption | omega) | omega) only [nl, nI_add, pk_mul, Option.bind_some, zb2_some, nI_le_t, nI_le_f, nI_lt_t, nI_lt_f, nI_eq_t, nI_eq_f, nI_m1, nI_em1, ↓reduceIte, Nat.add_zero, k1.1, d5, d4, d41, s4, s41, p1]
      rfl
  rw [if_neg q1]
  by_cases q2 : g / 100000 = 2
  · rw [if_pos q2]
    obtain ⟨t1, t2⟩ := t_offer hC hA tr hq ht (nI (g / 10000 % 10)) (nI (g % 10000))
    rw [q2] at d5
    refine ⟨fun q => ?_, fun τ' q => ?_⟩
    · obtain ⟨g1, p1, p2⟩ := t1 q
      refine ⟨g1, ?_, p2⟩
      unfold fX6_runCommand
      simp (disch := first | assumption | (simp only [sI_kd, sP_kd, rw_kd, sI_ln, sP_ln, rw_ln] <;> first | assumption | omega) | omega) only [nl, nI_add, pk_mul, Option.bind_some, zb2_some, nI_le_t, nI_le_f, nI_lt_t, nI_lt_f, nI_eq_t, nI_eq_f, nI_m1, nI_em1, ↓reduceIte, Nat.add_zero, k1.1, d5, d4, d41, s4, s41, p1]
      rfl
    · obtain ⟨g1, p1, p2⟩ := t2 τ' q
      refine ⟨g1, ?_, p2⟩
      unfold fX6_runCommand
      simp (disch := first | assumption | (simp only [sI_kd, sP_kd, rw_kd, sI_ln, sP_ln, rw_ln] <;> first | assumption | omega) | omega) only [nl, nI_add, pk_mul, Option.bind_some, zb2_some, nI_le_t, nI_le_f, nI_lt_t, nI_lt_f, nI_eq_t, nI_eq_f, nI_m1, nI_em1, ↓reduceIte, Nat.add_zero, k1.1, d5, d4, d41, s4, s41, p1]
      rfl
  rw [if_neg q2]
  by_cases q3 : g / 100000 = 3
  · rw [if_pos q3]
    rw [q3] at d5
    refine TcR_if (fun c => ?_) (fun c => TcR_no hC ?_)
    · obtain ⟨t1, t2⟩ := t_paste hC hA tr hq ht (nI (g / 1000 % 100)) (nI (g / 100 % 10))
      rw [c] at s2
      refine ⟨fun q => ?_, fun τ' q => ?_⟩
      · obtain ⟨g1, p1, p2⟩ := t1 q
        refine ⟨g1, ?_, p2⟩
        unfold fX6_runCommand
        simp (disch := first | assumption | (simp only [sI_kd, sP_kd, rw_kd, sI_ln, sP_ln, rw_ln] <;> first | assumption | omega) | omega) only [nl, nI_add, pk_mul, Option.bind_some, zb2_some, nI_le_t, nI_le_f, nI_lt_t, nI_lt_f, nI_eq_t, nI_eq_f, nI_m1, nI_em1, ↓reduceIte, Nat.add_zero, k1.1, d5, d2, s2, d3, d32, s32, d21, s21, p1]
      · obtain ⟨g1, p1, p2⟩ := t2 τ' q
        refine ⟨g1, ?_, p2⟩
        unfold fX6_runCommand
        simp (disch := first | assumption | (simp only [sI_kd, sP_kd, rw_kd, sI_ln, sP_ln, rw_ln] <;> first | assumption | omega) | omega) only [nl, nI_add, pk_mul, Option.bind_some, zb2_some, nI_le_t, nI_le_f, nI_lt_t, nI_lt_f, nI_eq_t, nI_eq_f, nI_m1, nI_em1, ↓reduceIte, Nat.add_zero, k1.1, d5, d2, s2, d3, d32, s32, d21, s21, p1]
    · unfold fX6_runCommand
      simp (disch := first | assumption | (simp only [sI_kd, sP_kd, rw_kd, sI_ln, sP_ln, rw_ln] <;> first | assumption | omega) | omega) only [nl, nI_add, pk_mul, Option.bind_some, zb2_some, nI_le_t, nI_le_f, nI_lt_t, nI_lt_f, nI_eq_t, nI_eq_f, nI_m1, nI_em1, ↓reduceIte, Nat.add_zero, k1.1, d5, d2, s2]
  rw [if_neg q3]
  by_cases q4 : g / 100000 = 4
  · rw [if_pos q4]
    rw [q4] at d5
    by_cases c : g % 1000 = 0
    · rw [c] at s3
      by_cases c2 : g / 1000 % 100 < τ 0
      · rw [if_pos ⟨c, c2⟩]
        rw [if_pos c2] at he
        obtain ⟨h6, w1, w2, w3⟩ := c_pin hS n20 tr.1 c2
        obtain ⟨C', F'⟩ := TC_put hC hA w3.fr w2
        have rp := rok_pin tr n20 c2
        have tp : fX6_tryTogglePin h x (nI (g / 1000 % 100)) = some (nI 1, h6) := by
          unfold fX6_tryTogglePin
          simp (disch := first | assumption | (simp only [sI_kd, sP_kd, rw_kd, sI_ln, sP_ln, rw_ln] <;> first | assumption | omega) | omega) only [nl, nI_add, pk_mul, Option.bind_some, zb2_some, nI_le_t, nI_le_f, nI_lt_t, nI_lt_f, nI_eq_t, nI_eq_f, nI_m1, nI_em1, ↓reduceIte, Nat.add_zero, k1.1, k1.g5, he, w1]
        refine ⟨fun q => (by cases q), fun τ' q => ?_⟩
        cases q
        refine ⟨h6, ?_, C', F', rp, by rw [up_b (by omega)]; omega, fun j h1 h2 => by rw [up_b (by omega)]; exact hq j h1 h2⟩
        unfold fX6_runCommand
        simp (disch := first | assumption | (simp only [sI_kd, sP_kd, rw_kd, sI_ln, sP_ln, rw_ln] <;> first | assumption | omega) | omega) only [nl, nI_add, pk_mul, Option.bind_some, zb2_some, nI_le_t, nI_le_f, nI_lt_t, nI_lt_f, nI_eq_t, nI_eq_f, nI_m1, nI_em1, ↓reduceIte, Nat.add_zero, k1.1, d5, d3, s3, d32, s32, tp]
      · rw [if_neg (fun z => c2 z.2)]
        rw [if_neg c2] at he
        have tp : fX6_tryTogglePin h x (nI (g / 1000 % 100)) = some (nI 0, h) := by
          unfold fX6_tryTogglePin
          simp (disch := first | assumption | (simp only [sI_kd, sP_kd, rw_kd, sI_ln, sP_ln, rw_ln] <;> first | assumption | omega) | omega) only [nl, nI_add, pk_mul, Option.bind_some, zb2_some, nI_le_t, nI_le_f, nI_lt_t, nI_lt_f, nI_eq_t, nI_eq_f, nI_m1, nI_em1, ↓reduceIte, Nat.add_zero, k1.1, k1.g5, he]
        refine TcR_no hC ?_
        unfold fX6_runCommand
        simp (disch := first | assumption | (simp only [sI_kd, sP_kd, rw_kd, sI_ln, sP_ln, rw_ln] <;> first | assumption | omega) | omega) only [nl, nI_add, pk_mul, Option.bind_some, zb2_some, nI_le_t, nI_le_f, nI_lt_t, nI_lt_f, nI_eq_t, nI_eq_f, nI_m1, nI_em1, ↓reduceIte, Nat.add_zero, k1.1, d5, d3, s3, d32, s32, tp]
    · rw [if_neg (fun z => c z.1)]
      refine TcR_no hC ?_
      unfold fX6_runCommand
      simp (disch := first | assumption | (simp only [sI_kd, sP_kd, rw_kd, sI_ln, sP_ln, rw_ln] <;> first | assumption | omega) | omega) only [nl, nI_add, pk_mul, Option.bind_some, zb2_some, nI_le_t, nI_le_f, nI_lt_t, nI_lt_f, nI_eq_t, nI_eq_f, nI_m1, nI_em1, ↓reduceIte, Nat.add_zero, k1.1, d5, d3, s3]
  rw [if_neg q4]
  by_cases q5 : g / 100000 = 5
  · rw [if_pos q5]
    rw [q5] at d5
    by_cases c : g % 1000 = 0
    · rw [c] at s3
      by_cases c2 : g / 1000 % 100 < τ 0
      · rw [if_pos ⟨c, c2⟩]
        rw [if_pos c2] at he
        obtain ⟨h6, w1, w2, w3⟩ := c_dropEntry hS n20 c12 c2
        obtain ⟨C', F'⟩ := TC_put hC hA w3 w2
        have rp := rok_drop tr n20 c2
        have tp : fX6_tryRemove h x (nI (g / 1000 % 100)) = some (nI 1, h6) := by
          unfold fX6_tryRemove
          simp (disch := first | assumption | (simp only [sI_kd, sP_kd, rw_kd, sI_ln, sP_ln, rw_ln] <;> first | assumption | omega) | omega) only [nl, nI_add, pk_mul, Option.bind_some, zb2_some, nI_le_t, nI_le_f, nI_lt_t, nI_lt_f, nI_eq_t, nI_eq_f, nI_m1, nI_em1, ↓reduceIte, Nat.add_zero, k1.1, k1.g5, he, w1]
        refine ⟨fun q => (by cases q), fun τ' q => ?_⟩
        cases q
        refine ⟨h6, ?_, C', F', rp, by rw [ndrop_hd c2 (by omega), if_neg (by omega)]; omega, fun j h1 h2 => by rw [ndrop_hd c2 h2, if_neg (by omega)]; exact hq j h1 h2⟩
        unfold fX6_runCommand
        simp (disch := first | assumption | (simp only [sI_kd, sP_kd, rw_kd, sI_ln, sP_ln, rw_ln] <;> first | assumption | omega) | omega) only [nl, nI_add, pk_mul, Option.bind_some, zb2_some, nI_le_t, nI_le_f, nI_lt_t, nI_lt_f, nI_eq_t, nI_eq_f, nI_m1, nI_em1, ↓reduceIte, Nat.add_zero, k1.1, d5, d3, s3, d32, s32, tp]
      · rw [if_neg (fun z => c2 z.2)]
        rw [if_neg c2] at he
        have tp : fX6_tryRemove h x (nI (g / 1000 % 100)) = some (nI 0, h) := by
          unfold fX6_tryRemove
          simp (disch := first | assumption | (simp only [sI_kd, sP_kd, rw_kd, sI_ln, sP_ln, rw_ln] <;> first | assumption | omega) | omega) only [nl, nI_add, pk_mul, Option.bind_some, zb2_some, nI_le_t, nI_le_f, nI_lt_t, nI_lt_f, nI_eq_t, nI_eq_f, nI_m1, nI_em1, ↓reduceIte, Nat.add_zero, k1.1, k1.g5, he]
        refine TcR_no hC ?_
        unfold fX6_runCommand
        simp (disch := first | assumption | (simp only [sI_kd, sP_kd, rw_kd, sI_ln, sP_ln, rw_ln] <;> first | assumption | omega) | omega) only [nl, nI_add, pk_mul, Option.bind_some, zb2_some, nI_le_t, nI_le_f, nI_lt_t, nI_lt_f, nI_eq_t, nI_eq_f, nI_m1, nI_em1, ↓reduceIte, Nat.add_zero, k1.1, d5, d3, s3, d32, s32, tp]
    · rw [if_neg (fun z => c z.1)]
      refine TcR_no hC ?_
      unfold fX6_runCommand
      simp (disch := first | assumption | (simp only [sI_kd, sP_kd, rw_kd, sI_ln, sP_ln, rw_ln] <;> first | assumption | omega) | omega) only [nl, nI_add, pk_mul, Option.bind_some, zb2_some, nI_le_t, nI_le_f, nI_lt_t, nI_lt_f, nI_eq_t, nI_eq_f, nI_m1, nI_em1, ↓reduceIte, Nat.add_zero, k1.1, d5, d3, s3]
  rw [if_neg q5]
  by_cases q6 : g / 100000 = 6
  · rw [if_pos q6]
    have us := c_used hS c12
    have ul := nus_le tr.1
    rw [q6] at d5 s5
    refine TcR_if (fun c => TcR_yes hC tr hq ?_) (fun c => TcR_no hC ?_)
    · unfold fX6_runCommand
      simp (disch := first | assumption | (simp only [sI_kd, sP_kd, rw_kd, sI_ln, sP_ln, rw_ln] <;> first | assumption | omega) | omega) only [nl, nI_add, pk_mul, Option.bind_some, zb2_some, nI_le_t, nI_le_f, nI_lt_t, nI_lt_f, nI_eq_t, nI_eq_f, nI_m1, nI_em1, ↓reduceIte, Nat.add_zero, k1.1, d5, s5, k1.g5, us]
    · unfold fX6_runCommand
      simp (disch := first | assumption | (simp only [sI_kd, sP_kd, rw_kd, sI_ln, sP_ln, rw_ln] <;> first | assumption | omega) | omega) only [nl, nI_add, pk_mul, Option.bind_some, zb2_some, nI_le_t, nI_le_f, nI_lt_t, nI_lt_f, nI_eq_t, nI_eq_f, nI_m1, nI_em1, ↓reduceIte, Nat.add_zero, k1.1, d5, s5, k1.g5, us]
  rw [if_neg q6]
  by_cases q7 : g / 100000 = 7
  · rw [if_pos q7]
    rw [q7] at d5 s5
    refine TcR_if (fun c => TcR_yes hC tr hq ?_) (fun c => TcR_no hC ?_)
    · have cn := hS.cn
      rw [c] at cn
      unfold fX6_runCommand
      simp (disch := first | assumption | (simp only [sI_kd, sP_kd, rw_kd, sI_ln, sP_ln, rw_ln] <;> first | assumption | omega) | omega) only [nl, nI_add, pk_mul, Option.bind_some, zb2_some, nI_le_t, nI_le_f, nI_lt_t, nI_lt_f, nI_eq_t, nI_eq_f, nI_m1, nI_em1, ↓reduceIte, Nat.add_zero, k1.1, d5, s5, k1.g5, cn]
    · unfold fX6_runCommand
      simp (disch := first | assumption | (simp only [sI_kd, sP_kd, rw_kd, sI_ln, sP_ln, rw_ln] <;> first | assumption | omega) | omega) only [nl, nI_add, pk_mul, Option.bind_some, zb2_some, nI_le_t, nI_le_f, nI_lt_t, nI_lt_f, nI_eq_t, nI_eq_f, nI_m1, nI_em1, ↓reduceIte, Nat.add_zero, k1.1, d5, s5, k1.g5, hS.cn]
  rw [if_neg q7]
  by_cases q8 : g / 100000 = 8
  · rw [if_pos q8]
    rw [q8] at d5
    by_cases c : g % 100 = 0
    · rw [c] at s2
      by_cases c2 : g / 1000 % 100 < τ 0
      · rw [if_pos c2] at he
        have en := hS.1.en (i := g / 1000 % 100) (by omega)
        have es := hS.1.sh (i := g / 1000 % 100) (by omega)
        have er := hS.er c2
        have ch : fX1_holds h (zP h (x + 117 + 1) (g / 1000 % 100)) (nI (g / 100 % 10)) = some (if g / 100 % 10 < anf A ∧ τ (24 + 28 * (g / 1000 % 100) + 16 + g / 100 % 10) ≠ 0 then nI 1 else nI 0, h) := by
          by_cases z : g / 100 % 10 < 8
          · have := c_holds (f := g / 100 % 10) es er z
            rw [this]
            by_cases z2 : τ (24 + 28 * (g / 1000 % 100) + 16 + g / 100 % 10) = 0
            · rw [if_pos z2, if_neg (fun w => w.2 z2)]
            · have z3 : g / 100 % 10 < anf A := Nat.lt_of_not_le fun w => z2 (tr.2.2.2 _ _ c2 z w)
              rw [if_neg z2, if_pos ⟨z3, z2⟩]
          · rw [c_holds8 es (by omega) (by omega), if_neg (fun w => by omega)]
        by_cases c3 : g / 100 % 10 < anf A ∧ τ (24 + 28 * (g / 1000 % 100) + 16 + g / 100 % 10) ≠ 0
        · rw [if_pos ⟨c, c2, c3⟩]
          rw [if_pos c3] at ch
          refine TcR_yes hC tr hq ?_
          unfold fX6_runCommand
          simp (disch := first | assumption | (simp only [sI_kd, sP_kd, rw_kd, sI_ln, sP_ln, rw_ln] <;> first | assumption | omega) | omega) only [nl, nI_add, pk_mul, Option.bind_some, zb2_some, nI_le_t, nI_le_f, nI_lt_t, nI_lt_f, nI_eq_t, nI_eq_f, nI_m1, nI_em1, ↓reduceIte, Nat.add_zero, k1.1, d5, d2, s2, k1.g5, d3, d32, s32, he, hS.1.es, en, d21, s21, ch]
        · rw [if_neg (fun z => c3 z.2.2)]
          rw [if_neg c3] at ch
          refine TcR_no hC ?_
          unfold fX6_runCommand
          simp (disch := first | assumption | (simp only [sI_kd, sP_kd, rw_kd, sI_ln, sP_ln, rw_ln] <;> first | assumption | omega) | omega) only [nl, nI_add, pk_mul, Option.bind_some, zb2_some, nI_le_t, nI_le_f, nI_lt_t, nI_lt_f, nI_eq_t, nI_eq_f, nI_m1, nI_em1, ↓reduceIte, Nat.add_zero, k1.1, d5, d2, s2, k1.g5, d3, d32, s32, he, hS.1.es, en, d21, s21, ch]
      · rw [if_neg (fun z => c2 z.2.1)]
        rw [if_neg c2] at he
        refine TcR_no hC ?_
        unfold fX6_runCommand
        simp (disch := first | assumption | (simp only [sI_kd, sP_kd, rw_kd, sI_ln, sP_ln, rw_ln] <;> first | assumption | omega) | omega) only [nl, nI_add, pk_mul, Option.bind_some, zb2_some, nI_le_t, nI_le_f, nI_lt_t, nI_lt_f, nI_eq_t, nI_eq_f, nI_m1, nI_em1, ↓reduceIte, Nat.add_zero, k1.1, d5, d2, s2, k1.g5, d3, d32, s32, he]
    · rw [if_neg (fun z => c z.1)]
      refine TcR_no hC ?_
      unfold fX6_runCommand
      simp (disch := first | assumption | (simp only [sI_kd, sP_kd, rw_kd, sI_ln, sP_ln, rw_ln] <;> first | assumption | omega) | omega) only [nl, nI_add, pk_mul, Option.bind_some, zb2_some, nI_le_t, nI_le_f, nI_lt_t, nI_lt_f, nI_eq_t, nI_eq_f, nI_m1, nI_em1, ↓reduceIte, Nat.add_zero, k1.1, d5, d2, s2]
  rw [if_neg q8]
  refine TcR_no hC ?_
  unfold fX6_runCommand
  simp (disch := first | assumption | (simp only [sI_kd, sP_kd, rw_kd, sI_ln, sP_ln, rw_ln] <;> first | assumption | omega) | omega) only [nl, nI_add, pk_mul, Option.bind_some, zb2_some, nI_le_t, nI_le_f, nI_lt_t, nI_lt_f, nI_eq_t, nI_eq_f, nI_m1, nI_em1, ↓reduceIte, Nat.add_zero, k1.1, d5]
end CTRY
