/-! pure: the reference's ranked -/
section RRANK
variable {h : zH} {m : Nat} {A : zSt}
theorem r_rnk_i {ρ : zN'} {e : Nat} {u1 u2 : Int32} (hT : RefT h m) (e15 : zI h (m + 15) = nr ρ) (ho : nok ρ) (he : e < ρ 0) (k : zH → Int32 → Int32 → Option (Int32 × zH)) : ∀ d i n, i + d = ρ 0 → d < n → fX7_ranked_L45 k m u1 u2 (nI e) n h (nI (nrk ρ e i)) (nI i) = k h (nI (nrk ρ e (ρ 0))) (nI (ρ 0)) := by
  have r0 : zaI h (m + 15) (nI 0) = some (nI (ρ 0)) := by rw [qa15 hT (by omega), e15]; rfl
  have c12 := ho.1
  have we : fX7_weight h (m + 15) (nI e) = some (nI (nwt ρ e), h) := n_weight (h := h) (I := zI h) (rk15 hT) (rl15 hT) e15 ho.2.1 (ho.2.2.2.2 e he) (by omega)
  have le := nwt_le ρ e
  intro d
  induction d with
  | zero =>
    intro i n hf hn
    obtain ⟨n, rfl⟩ := fuel1 hn
    have e8 : i = ρ 0 := by omega
    rw [fX7_ranked_L45, e8]
    simp (disch := first | assumption | ((repeat apply RefT.s) <;> assumption) | omega) only [nl, nI_add, pk_mul, Option.bind_some, zb2_some, nI_le_t, nI_le_f, nI_lt_t, nI_lt_f, nI_eq_t, nI_eq_f, nI_m1, nI_em1, ↓reduceIte, Nat.add_zero, nI_n9, qg15, r0]
  | succ d ih =>
    intro i n hf hn
    obtain ⟨n, rfl⟩ := fuel1 hn
    have wi : fX7_weight h (m + 15) (nI i) = some (nI (nwt ρ i), h) := n_weight (h := h) (I := zI h) (rk15 hT) (rl15 hT) e15 ho.2.1 (ho.2.2.2.2 i (by omega)) (by omega)
    have li := nwt_le ρ i
    have i1 := ih (i + 1) n (by omega) (by omega)
    have st : nrk ρ e (i + 1) = nrk ρ e i + if nwt ρ e < nwt ρ i ∨ (nwt ρ i = nwt ρ e ∧ e < i) then 1 else 0 := rfl
    rw [fX7_ranked_L45]
    rw [st] at i1
    by_cases c1 : nwt ρ e < nwt ρ i
    · rw [if_pos (Or.inl c1)] at i1
      simp (disch := first | assumption | ((repeat apply RefT.s) <;> assumption) | omega) only [nl, nI_add, pk_mul, Option.bind_some, zb2_some, nI_le_t, nI_le_f, nI_lt_t, nI_lt_f, nI_eq_t, nI_eq_f, nI_m1, nI_em1, ↓reduceIte, Nat.add_zero, nI_n9, qg15, r0, wi, we]
      exact i1
    · by_cases c2 : nwt ρ i = nwt ρ e
      · by_cases c3 : e < i
        · rw [if_pos (Or.inr ⟨c2, c3⟩)] at i1
          simp (disch := first | assumption | ((repeat apply RefT.s) <;> assumption) | omega) only [nl, nI_add, pk_mul, Option.bind_some, zb2_some, nI_le_t, nI_le_f, nI_lt_t, nI_lt_f, nI_eq_t, nI_eq_f, nI_m1, nI_em1, ↓reduceIte, Nat.add_zero, nI_n9, qg15, r0, wi, we]
          exact i1
        · rw [if_neg (by omega), Nat.add_zero] at i1
          simp (disch := first | assumption | ((repeat apply RefT.s) <;> assumption) | omega) only [nl, nI_add, pk_mul, Option.bind_some, zb2_some, nI_le_t, nI_le_f, nI_lt_t, nI_lt_f, nI_eq_t, nI_eq_f, nI_m1, nI_em1, ↓reduceIte, Nat.add_zero, nI_n9, qg15, r0, wi, we]
          exact i1
      · rw [if_neg (by omega), Nat.add_zero] at i1
        simp (disch := first | assumption | ((repeat apply RefT.s) <;> assumption) | omega) only [nl, nI_add, pk_mul, Option.bind_some, zb2_some, nI_le_t, nI_le_f, nI_lt_t, nI_lt_f, nI_eq_t, nI_eq_f, nI_m1, nI_em1, ↓reduceIte, Nat.add_zero, nI_n9, qg15, r0, wi, we]
        exact i1
theorem r_rnk_o {ρ : zN'} {j : Nat} (hT : RefT h m) (e15 : zI h (m + 15) = nr ρ) (ho : nok ρ) (hj : j < ρ 0) : ∀ d e n, e + d = ρ 0 → d < n → fX7_ranked_L29 (fun h8 y9 y10 => some (y9, h8)) m (nI j) n h (nI (rkf ρ j e)) (nI e) = some (nI (rkf ρ j (ρ 0)), h) := by
  have r0 : zaI h (m + 15) (nI 0) = some (nI (ρ 0)) := by rw [qa15 hT (by omega), e15]; rfl
  have c12 := ho.1
  intro d
  induction d with
  | zero =>
    intro e n hf hn
    obtain ⟨n, rfl⟩ := fuel1 hn
    have e8 : e = ρ 0 := by omega
    rw [fX7_ranked_L29, e8]
    simp (disch := first | assumption | ((repeat apply RefT.s) <;> assumption) | omega) only [nl, nI_add, pk_mul, Option.bind_some, zb2_some, nI_le_t, nI_le_f, nI_lt_t, nI_lt_f, nI_eq_t, nI_eq_f, nI_m1, nI_em1, ↓reduceIte, Nat.add_zero, nI_n9, qg15, r0]
  | succ d ih =>
    intro e n hf hn
    obtain ⟨n, rfl⟩ := fuel1 hn
    have i1 := ih (e + 1) n (by omega) (by omega)
    have st : rkf ρ j (e + 1) = if nrk ρ e (ρ 0) = j then e else rkf ρ j e := rfl
    have li := fun k => r_rnk_i (h := h) (m := m) (e := e) (u1 := nI j) (u2 := nI (rkf ρ j e)) hT e15 ho (by omega) k (ρ 0) 0 zF (by omega) (by unfold zF; omega)
    have z0 : nrk ρ e 0 = 0 := rfl
    have nl' := nrk_le (ρ := ρ) e (ρ 0)
    rw [z0] at li
    rw [fX7_ranked_L29]
    rw [st] at i1
    by_cases c : nrk ρ e (ρ 0) = j
    · rw [if_pos c] at i1
      simp (disch := first | assumption | ((repeat apply RefT.s) <;> assumption) | omega) only [nl, nI_add, pk_mul, Option.bind_some, zb2_some, nI_le_t, nI_le_f, nI_lt_t, nI_lt_f, nI_eq_t, nI_eq_f, nI_m1, nI_em1, ↓reduceIte, Nat.add_zero, nI_n9, qg15, r0]
      rw [li, c, if_pos rfl]
      exact i1
    · rw [if_neg c] at i1
      simp (disch := first | assumption | ((repeat apply RefT.s) <;> assumption) | omega) only [nl, nI_add, pk_mul, Option.bind_some, zb2_some, nI_le_t, nI_le_f, nI_lt_t, nI_lt_f, nI_eq_t, nI_eq_f, nI_m1, nI_em1, ↓reduceIte, Nat.add_zero, nI_n9, qg15, r0]
      rw [li, if_neg (fun z => c ((nI_eq (by omega) (by omega)).mp z))]
      exact i1
theorem r_rnk {t : Nat} (hR : RI h m A) (hA : AI t A) (x : Int32) : RO h m (fX7_ranked h m x) (rnkS A x) := by
  have hT := hR.1
  have r5 := hR.2.2.2.1
  have ho := hA.2.2.1.1.1
  have c12 := ho.1
  have ise := q_isEntry hT r5 c12 x
  have rf1 := r_ref (k := 1) hT (by omega)
  have rf0 := r_ref (k := 0) hT (by omega)
  rw [if_neg (by decide)] at rf1
  rw [if_pos rfl] at rf0
  unfold rnkS
  by_cases c1 : outI x (aρ A 0)
  · rw [if_pos c1] at ise ⊢
    refine RO_err hR (by omega) ?_
    unfold fX7_ranked
    simp (disch := first | assumption | ((repeat apply RefT.s) <;> assumption) | omega) only [nl, nI_add, pk_mul, Option.bind_some, zb2_some, nI_le_t, nI_le_f, nI_lt_t, nI_lt_f, nI_eq_t, nI_eq_f, nI_m1, nI_em1, ↓reduceIte, Nat.add_zero, nI_n9, hT.1, qg15, ise, rf1]
  · rw [if_neg c1] at ise ⊢
    obtain ⟨a, a1, a2, a3⟩ := in_f (by omega) c1
    rw [a3]
    have R0 := RI_0 (v := nI 0) hR
    have l1 := r_rnk_o (j := a) R0.1 R0.2.2.2.1 ho a1 (aρ A 0) 0 zF (by omega) (by unfold zF; omega)
    have lp : fX7_ranked_L29 (fun h8 y9 y10 => some (y9, h8)) m (nI a) zF (zsI h m 0 (nI 0)) (nI 0) (nI 0) = some (nI (rkf (aρ A) a (aρ A 0)), zsI h m 0 (nI 0)) := l1
    refine ⟨_, _, ?_, fun _ => rfl, sI_at, R0, fr0⟩
    subst a2
    unfold fX7_ranked
    simp (disch := first | assumption | ((repeat apply RefT.s) <;> assumption) | omega) only [nl, nI_add, pk_mul, Option.bind_some, zb2_some, nI_le_t, nI_le_f, nI_lt_t, nI_lt_f, nI_eq_t, nI_eq_f, nI_m1, nI_em1, ↓reduceIte, Nat.add_zero, nI_n9, hT.1, qg15, ise, rf0]
    exact lp
end RRANK
