/-! pure: the component's copy and offer -/
theorem cs_copy {ρ ρ' : zN'} {f b j : Nat} (ho : nok ρ) (ht : ρ 1 + 1 < 10000) (h : ncopy ρ f b = some ρ') (h1 : 4 ≤ j) (h2 : j < 24) : ρ' j = ρ j := by
  have hot := nok_time ho ht
  have tj : ∀ j, 4 ≤ j → j < 24 → va_up ρ 1 (ρ 1 + 1) j = ρ j := fun j h1 h2 => up_b (by omega)
  unfold ncopy at h
  generalize va_up ρ 1 (ρ 1 + 1) = σ at *
  cases hp : ncp0 σ with
  | none => rw [hp] at h; cases h
  | some σ1 =>
    rw [hp, Option.bind_some] at h
    obtain ⟨p1, p2, p3, p4⟩ := ncp0_ok hot hp
    cases hm : nroom b 99 true σ1 with
    | none => rw [hm] at h; cases h
    | some σ2 =>
      rw [hm] at h
      have h : some (ncpf σ2 f b) = some ρ' := h
      cases h
      obtain ⟨k1, k2, k3⟩ := nroom_keep p1 hm
      rw [ncpf_hd h2, if_neg (by omega), k3 j (by omega) h2, p4 j (by omega) h2, tj j h1 h2]
theorem cs_offer {ρ ρ' : zN'} {f b j : Nat} (ho : nok ρ) (ht : ρ 1 + 1 < 10000) (hf : f < 8) (h : noffer ρ f b = some ρ') (h1 : 4 ≤ j) (h2 : j < 24) : ρ' j = ρ j := by
  unfold noffer at h
  by_cases c : ρ 0 = 0 ∨ ρ (40 + f) = 1
  · rw [if_pos c] at h; cases h
  · rw [if_neg c] at h
    have hot := nok_time ho ht
    have e0 : va_up ρ 1 (ρ 1 + 1) 0 = ρ 0 := rfl
    have ndo := nok_df hot (e := 0) (f := f) (by rw [e0]; omega) hf
    cases hm : nroom b 0 true (ndf (va_up ρ 1 (ρ 1 + 1)) 0 f) with
    | none => rw [hm] at h; cases h
    | some σ2 =>
      rw [hm] at h
      have h : some (npf σ2 0 f b 0 1) = some ρ' := h
      cases h
      obtain ⟨k1, k2, k3⟩ := nroom_keep ndo hm
      rw [npf_hd h2, k3 j (by omega) h2, ndf_at, if_neg (by omega), up_b (by omega)]
theorem cs_paste {ρ : zN'} {e j : Nat} {w : Nat × Nat × Nat × Nat × Nat} (ho : nok ρ) (ht : ρ 1 + 1 < 10000) (he : e < ρ 0) (h1 : 4 ≤ j) (h2 : j < 24) : npaste ρ e w j = ρ j := by
  have q1 := nok_npq (w := w.1) ho ht he
  have q4 : npq ρ e w.1 j = ρ j := npq_hd h2 (by omega) (by omega)
  unfold npaste
  rw [nfront_hd h2]
  unfold npd
  split
  · cases hm : nroom w.2.2.2.1 e false (npq ρ e w.1) with
    | none => exact q4
    | some σ2 =>
      obtain ⟨k1, k2, k3⟩ := nroom_keep q1 hm
      show npf σ2 e w.2.2.1 w.2.2.2.1 w.2.2.2.2 2 j = ρ j
      rw [npf_hd h2, k3 j (by omega) h2, q4]
  · exact q4
section CACT1
variable {h : zH} {x : Nat} {A : zSt}
theorem AI_note {t : Nat} (hA : AI t A) : AI (t + 1) (anote A) := AI_new hA hA.2.2.1.1 (Nat.le_succ_of_le hA.2.2.1.2)
/-- what an action finds behind rememberNow -/
theorem c_now {t : Nat} (hC : CI h x A) (hA : AI t A) : ∃ h9 b d, fX6_rememberNow h x = some h9 ∧ CK h9 x b d (anote A) ∧ CN h9 x (anote A) ∧ Fr x (x + 801) h h9 ∧ zgP h9 6 x 4 = some (x + 78) ∧ zgP h9 6 x 3 = some (x + 77) ∧ SR false h9 (x + 78) (anc A) (aρ A) ∧ SR false h9 (x + 78) (anc A) (atg A) ∧ ∀ a, x + 1 ≤ a → a < x + 156 → zI h9 a = zI h a := by
  obtain ⟨h9, e1, ⟨b, d, e2, e3⟩, e4, e5⟩ := c_rem hC hA
  exact ⟨h9, b, d, e1, e2, e3, e4, e2.1.g4, e2.1.g3, e3.2.2.1, SR_tg hA.2.1.1.2.1 e3.2.2.1, e5⟩
theorem c_put {h9 h11 : zH} {b d t : Nat} {ρ' : zN'} (hA : AI t A) (hK : CK h9 x b d (anote A)) (hN : CN h9 x (anote A)) (f : Fr (x + 78) (x + 78 + 39) h9 h11) (hS : SR false h11 (x + 78) (anc A) ρ') (hc : ∀ j, 4 ≤ j → j < 24 → ρ' j = aρ A j) : CI h11 x (anew A ρ') ∧ Fr x (x + 801) h9 h11 ∧ zgP h11 6 x 4 = some (x + 78) := by
  have n20 := hA.2.1.1.2.1
  have f' : Fr (x + 78) (x + 117) h9 h11 := f.wd (by omega) (by omega)
  have C := CI_put hK hN (AI_note hA) f' hS (fun c hc' => hc (4 + c) (by omega) (by have : c < anc A := hc'; omega))
  exact ⟨C, f'.wd (by omega) (by omega), (CSt_fr f' (by omega) hK.1).g4⟩
theorem k_copy {t : Nat} (hC : CI h x A) (hA : AI t A) (ht : t < 9000) (v w : Int32) : CO h x (fX6_copy h x v w) (copyS A v w) [xI, xA, xS] := by
  obtain ⟨b, d, hK, hN⟩ := id hC
  obtain ⟨a1, hO, ⟨a3, a3t⟩, a4, a5, a6⟩ := id hA
  have n8 := hO.1.1
  have n20 := hO.1.2.1
  have tr := atg_rok a3 n20
  have tt : atg A 1 = aρ A 1 := ntg_h (by omega)
  have tj : ∀ j, j < 24 → atg A j = aρ A j := fun j hj => ntg_h hj
  obtain ⟨qa, qb⟩ := q_F (v := v) hK
  obtain ⟨na, nb⟩ := q_N (h := h) (v := w)
  unfold copyS
  by_cases c1 : outI v (anf A)
  · rw [if_pos c1]
    refine CO_no hA (by omega) (by decide) hC ?_
    unfold fX6_copy
    simp (disch := first | assumption | (simp only [sI_kd, sP_kd, rw_kd, sI_ln, sP_ln, rw_ln] <;> first | assumption | omega) | omega) only [nl, nI_add, pk_mul, Option.bind_some, zb2_some, nI_le_t, nI_le_f, nI_lt_t, nI_lt_f, nI_eq_t, nI_eq_f, nI_m1, nI_em1, ↓reduceIte, Nat.add_zero, hK.1.1, qa c1, zb4_some]
    rfl
  · rw [if_neg c1]
    obtain ⟨f, f1, f2, f3⟩ := in_f (by omega) c1
    by_cases c2 : newSz w
    · rw [if_neg (fun z => z c2)]
      obtain ⟨s, b1, b2, b3, b4⟩ := in_sz c2
      rw [f3, b4]
      have S0 := SR_tg (k := aρ A 0) n20 hN.2.2.1
      have S0' : SR false h (x + 78) (anc A) (atg A) := S0
      have cn := c_can (f := f) (b := s) S0' tr.1 (by omega) b2
      cases hc : ncopy (atg A) f s with
      | none =>
        rw [hc] at cn
        have cn' : fX3_canAddEntry h (x + 78) w = some (nI 0, h) := by rw [b3]; exact cn
        refine CO_no hA (by omega) (by decide) hC ?_
        unfold fX6_copy
        simp (disch := first | assumption | (simp only [sI_kd, sP_kd, rw_kd, sI_ln, sP_ln, rw_ln] <;> first | assumption | omega) | omega) only [nl, nI_add, pk_mul, Option.bind_some, zb2_some, nI_le_t, nI_le_f, nI_lt_t, nI_lt_f, nI_eq_t, nI_eq_f, nI_m1, nI_em1, ↓reduceIte, Nat.add_zero, hK.1.1, qb c1, zb4_none, nb c2, hK.1.g4, cn']
        rfl
      | some ρ' =>
        rw [hc] at cn
        have cn' : fX3_canAddEntry h (x + 78) w = some (nI 1, h) := by rw [b3]; exact cn
        obtain ⟨k1, k2, k3⟩ := rok_copy tr n20 (by omega) f1 n8 ⟨b1, b2⟩ hc
        obtain ⟨h9, b', d', e1, e2, e3, e4, g4, g3, -, S9, -⟩ := c_now hC hA
        obtain ⟨h11, p1, p2, p3⟩ := c_addEntry S9 n20 tr.1 (by omega) (show f < 8 by omega) b2 hc
        obtain ⟨C, F, g4'⟩ := c_put hA e2 e3 p3 p2 (fun j h1 h2 => by rw [cs_copy tr.1 (by omega) hc h1 h2, tj j h2])
        have us := c_used p2 k1.1.1
        have p1' : fX3_addEntry h9 (x + 78) v w = some h11 := by rw [f2, b3]; exact p1
        refine CO_ok ?_ C (e4.tr F)
        unfold fX6_copy
        simp (disch := first | assumption | (simp only [sI_kd, sP_kd, rw_kd, sI_ln, sP_ln, rw_ln] <;> first | assumption | omega) | omega) only [nl, nI_add, pk_mul, Option.bind_some, zb2_some, nI_le_t, nI_le_f, nI_lt_t, nI_lt_f, nI_eq_t, nI_eq_f, nI_m1, nI_em1, ↓reduceIte, Nat.add_zero, hK.1.1, qb c1, zb4_none, nb c2, hK.1.g4, cn', e1, g4, p1', g4', us]
    · rw [if_pos c2]
      refine CO_no hA (by omega) (by decide) hC ?_
      unfold fX6_copy
      simp (disch := first | assumption | (simp only [sI_kd, sP_kd, rw_kd, sI_ln, sP_ln, rw_ln] <;> first | assumption | omega) | omega) only [nl, nI_add, pk_mul, Option.bind_some, zb2_some, nI_le_t, nI_le_f, nI_lt_t, nI_lt_f, nI_eq_t, nI_eq_f, nI_m1, nI_em1, ↓reduceIte, Nat.add_zero, hK.1.1, qb c1, zb4_none, na c2, zb4_some]
      rfl
theorem k_offer {t : Nat} (hC : CI h x A) (hA : AI t A) (ht : t < 9000) (v w : Int32) : CO h x (fX6_offer h x v w) (offerS A v w) [xI, xA, xS] := by
  obtain ⟨b, d, hK, hN⟩ := id hC
  obtain ⟨a1, hO, ⟨a3, a3t⟩, a4, a5, a6⟩ := id hA
  have n8 := hO.1.1
  have n20 := hO.1.2.1
  have tr := atg_rok a3 n20
  have tt : atg A 1 = aρ A 1 := ntg_h (by omega)
  have tj : ∀ j, j < 24 → atg A j = aρ A j := fun j hj => ntg_h hj
  obtain ⟨qa, qb⟩ := q_F (v := v) hK
  obtain ⟨na, nb⟩ := q_N (h := h) (v := w)
  unfold offerS
  by_cases c1 : outI v (anf A)
  · rw [if_pos c1]
    refine CO_no hA (by omega) (by decide) hC ?_
    unfold fX6_offer
    simp (disch := first | assumption | (simp only [sI_kd, sP_kd, rw_kd, sI_ln, sP_ln, rw_ln] <;> first | assumption | omega) | omega) only [nl, nI_add, pk_mul, Option.bind_some, zb2_some, nI_le_t, nI_le_f, nI_lt_t, nI_lt_f, nI_eq_t, nI_eq_f, nI_m1, nI_em1, ↓reduceIte, Nat.add_zero, hK.1.1, qa c1, zb4_some]
    rfl
  · rw [if_neg c1]
    obtain ⟨f, f1, f2, f3⟩ := in_f (by omega) c1
    by_cases c2 : newSz w
    · rw [if_neg (fun z => z c2)]
      obtain ⟨s, b1, b2, b3, b4⟩ := in_sz c2
      rw [f3, b4]
      have S0' : SR false h (x + 78) (anc A) (atg A) := SR_tg (k := aρ A 0) n20 hN.2.2.1
      have cn := c_canForm (f := f) (b := s) S0' tr.1 (by omega) (show f < 8 by omega) b2
      cases hc : noffer (atg A) f s with
      | none =>
        rw [hc] at cn
        have cn' : fX3_canAddForm h (x + 78) v w = some (nI 0, h) := by rw [f2, b3]; exact cn
        refine CO_no hA (by omega) (by decide) hC ?_
        unfold fX6_offer
        simp (disch := first | assumption | (simp only [sI_kd, sP_kd, rw_kd, sI_ln, sP_ln, rw_ln] <;> first | assumption | omega) | omega) only [nl, nI_add, pk_mul, Option.bind_some, zb2_some, nI_le_t, nI_le_f, nI_lt_t, nI_lt_f, nI_eq_t, nI_eq_f, nI_m1, nI_em1, ↓reduceIte, Nat.add_zero, hK.1.1, qb c1, zb4_none, nb c2, hK.1.g4, cn']
        rfl
      | some ρ' =>
        rw [hc] at cn
        have cn' : fX3_canAddForm h (x + 78) v w = some (nI 1, h) := by rw [f2, b3]; exact cn
        obtain ⟨k1, k2⟩ := rok_offer tr n20 (by omega) f1 n8 ⟨b1, b2⟩ hc
        obtain ⟨h9, b', d', e1, e2, e3, e4, g4, g3, -, S9, -⟩ := c_now hC hA
        obtain ⟨h11, p1, p2, p3⟩ := c_addForm S9 n20 tr.1 (by omega) (show f < 8 by omega) b2 hc
        obtain ⟨C, F, g4'⟩ := c_put hA e2 e3 p3 p2 (fun j h1 h2 => by rw [cs_offer tr.1 (by omega) (by omega) hc h1 h2, tj j h2])
        have us := c_used p2 k1.1.1
        have p1' : fX3_addForm h9 (x + 78) v w = some h11 := by rw [f2, b3]; exact p1
        refine CO_ok ?_ C (e4.tr F)
        unfold fX6_offer
        simp (disch := first | assumption | (simp only [sI_kd, sP_kd, rw_kd, sI_ln, sP_ln, rw_ln] <;> first | assumption | omega) | omega) only [nl, nI_add, pk_mul, Option.bind_some, zb2_some, nI_le_t, nI_le_f, nI_lt_t, nI_lt_f, nI_eq_t, nI_eq_f, nI_m1, nI_em1, ↓reduceIte, Nat.add_zero, hK.1.1, qb c1, zb4_none, nb c2, hK.1.g4, cn', e1, g4, p1', g4', us]
    · rw [if_pos c2]
      refine CO_no hA (by omega) (by decide) hC ?_
      unfold fX6_offer
      simp (disch := first | assumption | (simp only [sI_kd, sP_kd, rw_kd, sI_ln, sP_ln, rw_ln] <;> first | assumption | omega) | omega) only [nl, nI_add, pk_mul, Option.bind_some, zb2_some, nI_le_t, nI_le_f, nI_lt_t, nI_lt_f, nI_eq_t, nI_eq_f, nI_m1, nI_em1, ↓reduceIte, Nat.add_zero, hK.1.1, qb c1, zb4_none, na c2, zb4_some]
      rfl
end CACT1
