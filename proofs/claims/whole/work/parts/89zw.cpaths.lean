/-! pure: the component's paths -/
section CPATHS
variable {h h' : zH} {x b d : Nat} {A : zSt}
theorem AI_cok {t : Nat} (hA : AI t A) (skip : Nat) : cok (acm A skip) (anf A) ∧ cfr (afr A) (att A) (anc A) (acm A skip) := ⟨cok_cmt hA.2.1.1 (fun c hc => (hA.2.2.1.1.2.2.1 c hc).2), cfr_cmt⟩
theorem k_pth {t : Nat} (hC : CI h x A) (hA : AI t A) (u v w : Int32) : CO h x (fX6_path h x u v w) (pthS A u v w) [xI, xA] := by
  obtain ⟨b, d, hK, hN⟩ := id hC
  have k1 := hK.1
  have g9 := hK.2.1.g9 k1.1
  have n8 := hA.2.1.1.1
  obtain ⟨hc, hf⟩ := AI_cok hA 4294967287
  obtain ⟨qa, qb⟩ := q_F (v := u) hK
  obtain ⟨pa, pb⟩ := q_F (v := v) hK
  unfold pthS
  by_cases c1 : outI u (anf A)
  · rw [if_pos c1]
    refine CO_no hA (by omega) (by decide) hC ?_
    unfold fX6_path
    simp (disch := first | assumption | (simp only [sI_kd, sP_kd, rw_kd, sI_ln, sP_ln, rw_ln] <;> first | assumption | omega) | omega) only [nl, nI_add, pk_mul, Option.bind_some, zb2_some, nI_le_t, nI_le_f, nI_lt_t, nI_lt_f, nI_eq_t, nI_eq_f, nI_m1, nI_em1, ↓reduceIte, Nat.add_zero, k1.1, qa c1, zb4_some]
    rfl
  · rw [if_neg c1]
    by_cases c2 : outI v (anf A)
    · rw [if_pos c2]
      refine CO_no hA (by omega) (by decide) hC ?_
      unfold fX6_path
      simp (disch := first | assumption | (simp only [sI_kd, sP_kd, rw_kd, sI_ln, sP_ln, rw_ln] <;> first | assumption | omega) | omega) only [nl, nI_add, pk_mul, Option.bind_some, zb2_some, nI_le_t, nI_le_f, nI_lt_t, nI_lt_f, nI_eq_t, nI_eq_f, nI_m1, nI_em1, ↓reduceIte, Nat.add_zero, k1.1, qb c1, zb4_none, pa c2, zb4_some]
      rfl
    · rw [if_neg c2]
      by_cases c3 : outI w 3
      · rw [if_pos c3]
        refine CO_no hA (by omega) (by decide) hC ?_
        unfold fX6_path
        simp (disch := first | assumption | (simp only [sI_kd, sP_kd, rw_kd, sI_ln, sP_ln, rw_ln] <;> first | assumption | omega) | omega) only [nl, nI_add, pk_mul, Option.bind_some, zb2_some, nI_le_t, nI_le_f, nI_lt_t, nI_lt_f, nI_eq_t, nI_eq_f, nI_m1, nI_em1, ↓reduceIte, Nat.add_zero, k1.1, qb c1, zb4_none, pb c2, out_ne (k := 0) c3, out_ne (k := 1) c3, out_ne (k := 2) c3]
        rfl
      · rw [if_neg c3]
        obtain ⟨a, a1, a2, a3⟩ := in_f (by omega) c1
        obtain ⟨e, e1, e2, e3⟩ := in_f (by omega) c2
        obtain ⟨k, k1', k2, k3⟩ := in_f (by omega) c3
        rw [a3, e3, k3]
        have q := qb c1
        have p := pb c2
        have f1 := f_cost hN.1 hc a1 e1
        have f2 := f_steps hN.1 hc a1 e1
        have f3 := f_loss hN.1 hK.2.2.2.2.1.1 hA.2.1 hc hf a1 e1
        refine CO_get hC ?_
        subst a2
        subst e2
        subst k2
        unfold fX6_path pthV
        by_cases z : fD 16 (acm0 A) (anf A) a e < fINF
        · rw [if_pos z] at f1 f2 f3 ⊢
          match k, k1' with
          | 0, _ => simp (disch := first | assumption | (simp only [sI_kd, sP_kd, rw_kd, sI_ln, sP_ln, rw_ln] <;> first | assumption | omega) | omega) only [nl, nI_add, pk_mul, Option.bind_some, zb2_some, nI_le_t, nI_le_f, nI_lt_t, nI_lt_f, nI_eq_t, nI_eq_f, nI_m1, nI_em1, ↓reduceIte, Nat.add_zero, k1.1, q, zb4_none, p, k1.g1, f1]
          | 1, _ => simp (disch := first | assumption | (simp only [sI_kd, sP_kd, rw_kd, sI_ln, sP_ln, rw_ln] <;> first | assumption | omega) | omega) only [nl, nI_add, pk_mul, Option.bind_some, zb2_some, nI_le_t, nI_le_f, nI_lt_t, nI_lt_f, nI_eq_t, nI_eq_f, nI_m1, nI_em1, ↓reduceIte, Nat.add_zero, k1.1, q, zb4_none, p, k1.g1, f2]; rfl
          | 2, _ => simp (disch := first | assumption | (simp only [sI_kd, sP_kd, rw_kd, sI_ln, sP_ln, rw_ln] <;> first | assumption | omega) | omega) only [nl, nI_add, pk_mul, Option.bind_some, zb2_some, nI_le_t, nI_le_f, nI_lt_t, nI_lt_f, nI_eq_t, nI_eq_f, nI_m1, nI_em1, ↓reduceIte, Nat.add_zero, k1.1, q, zb4_none, p, k1.g1, g9, f3]; rfl
        · rw [if_neg z] at f1 f2 f3 ⊢
          match k, k1' with
          | 0, _ => simp (disch := first | assumption | (simp only [sI_kd, sP_kd, rw_kd, sI_ln, sP_ln, rw_ln] <;> first | assumption | omega) | omega) only [nl, nI_add, pk_mul, Option.bind_some, zb2_some, nI_le_t, nI_le_f, nI_lt_t, nI_lt_f, nI_eq_t, nI_eq_f, nI_m1, nI_em1, ↓reduceIte, Nat.add_zero, k1.1, q, zb4_none, p, k1.g1, f1]
          | 1, _ => simp (disch := first | assumption | (simp only [sI_kd, sP_kd, rw_kd, sI_ln, sP_ln, rw_ln] <;> first | assumption | omega) | omega) only [nl, nI_add, pk_mul, Option.bind_some, zb2_some, nI_le_t, nI_le_f, nI_lt_t, nI_lt_f, nI_eq_t, nI_eq_f, nI_m1, nI_em1, ↓reduceIte, Nat.add_zero, k1.1, q, zb4_none, p, k1.g1, f2]
          | 2, _ => simp (disch := first | assumption | (simp only [sI_kd, sP_kd, rw_kd, sI_ln, sP_ln, rw_ln] <;> first | assumption | omega) | omega) only [nl, nI_add, pk_mul, Option.bind_some, zb2_some, nI_le_t, nI_le_f, nI_lt_t, nI_lt_f, nI_eq_t, nI_eq_f, nI_m1, nI_em1, ↓reduceIte, Nat.add_zero, k1.1, q, zb4_none, p, k1.g1, g9, f3]
theorem k_stp {t : Nat} (hC : CI h x A) (hA : AI t A) (u v w : Int32) : CO h x (fX6_step h x u v w) (stpS A u v w) [xI, xA] := by
  obtain ⟨b, d, hK, hN⟩ := id hC
  have k1 := hK.1
  have g9 := hK.2.1.g9 k1.1
  have n8 := hA.2.1.1.1
  obtain ⟨hc, hf⟩ := AI_cok hA 4294967287
  obtain ⟨qa, qb⟩ := q_F (v := u) hK
  obtain ⟨pa, pb⟩ := q_F (v := v) hK
  unfold stpS
  by_cases c1 : outI u (anf A)
  · rw [if_pos c1]
    refine CO_no hA (by omega) (by decide) hC ?_
    unfold fX6_step
    simp (disch := first | assumption | (simp only [sI_kd, sP_kd, rw_kd, sI_ln, sP_ln, rw_ln] <;> first | assumption | omega) | omega) only [nl, nI_add, pk_mul, Option.bind_some, zb2_some, nI_le_t, nI_le_f, nI_lt_t, nI_lt_f, nI_eq_t, nI_eq_f, nI_m1, nI_em1, ↓reduceIte, Nat.add_zero, k1.1, qa c1, zb4_some]
    rfl
  · rw [if_neg c1]
    by_cases c2 : outI v (anf A)
    · rw [if_pos c2]
      refine CO_no hA (by omega) (by decide) hC ?_
      unfold fX6_step
      simp (disch := first | assumption | (simp only [sI_kd, sP_kd, rw_kd, sI_ln, sP_ln, rw_ln] <;> first | assumption | omega) | omega) only [nl, nI_add, pk_mul, Option.bind_some, zb2_some, nI_le_t, nI_le_f, nI_lt_t, nI_lt_f, nI_eq_t, nI_eq_f, nI_m1, nI_em1, ↓reduceIte, Nat.add_zero, k1.1, qb c1, zb4_none, pa c2, zb4_some]
      rfl
    · rw [if_neg c2]
      by_cases c3 : outI w 8
      · rw [if_pos c3]
        refine CO_no hA (by omega) (by decide) hC ?_
        unfold fX6_step
        rw [if_pos k1.1, qb c1, zb4_none, pb c2, zb4_none]
        by_cases c4 : w < 0
        · rw [if_pos c4]; rfl
        · rw [if_neg c4, show (8 : Int32) = nI 8 from rfl, if_neg (Int32.not_lt.mpr (c3.resolve_left c4))]
          rfl
      · rw [if_neg c3]
        obtain ⟨a, a1, a2, a3⟩ := in_f (by omega) c1
        obtain ⟨e, e1, e2, e3⟩ := in_f (by omega) c2
        obtain ⟨k, k1', k2, k3⟩ := in_f (by omega) c3
        rw [a3, e3, k3]
        have q := qb c1
        have p := pb c2
        have f1 := f_fmt (x := k) hN.1 hK.2.2.2.2.1.1 hA.2.1 hc hf a1 e1 (by omega)
        refine CO_get hC ?_
        subst a2
        subst e2
        subst k2
        unfold fX6_step stpV
        simp (disch := first | assumption | (simp only [sI_kd, sP_kd, rw_kd, sI_ln, sP_ln, rw_ln] <;> first | assumption | omega) | omega) only [nl, nI_add, pk_mul, Option.bind_some, zb2_some, nI_le_t, nI_le_f, nI_lt_t, nI_lt_f, nI_eq_t, nI_eq_f, nI_m1, nI_em1, ↓reduceIte, Nat.add_zero, k1.1, q, zb4_none, p, k1.g1, g9, f1]
theorem k_sza {t : Nat} (hC : CI h x A) (hA : AI t A) (u v w : Int32) : CO h x (fX6_sizeAfter h x u v w) (szaS A u v w) [xI, xA] := by
  obtain ⟨b, d, hK, hN⟩ := id hC
  have k1 := hK.1
  have g9 := hK.2.1.g9 k1.1
  have n8 := hA.2.1.1.1
  obtain ⟨hc, hf⟩ := AI_cok hA 4294967287
  obtain ⟨qa, qb⟩ := q_F (v := u) hK
  obtain ⟨pa, pb⟩ := q_F (v := v) hK
  unfold szaS
  by_cases c1 : outI u (anf A)
  · rw [if_pos c1]
    refine CO_no hA (by omega) (by decide) hC ?_
    unfold fX6_sizeAfter
    simp (disch := first | assumption | (simp only [sI_kd, sP_kd, rw_kd, sI_ln, sP_ln, rw_ln] <;> first | assumption | omega) | omega) only [nl, nI_add, pk_mul, Option.bind_some, zb2_some, nI_le_t, nI_le_f, nI_lt_t, nI_lt_f, nI_eq_t, nI_eq_f, nI_m1, nI_em1, ↓reduceIte, Nat.add_zero, k1.1, qa c1, zb4_some]
    rfl
  · rw [if_neg c1]
    by_cases c2 : outI v (anf A)
    · rw [if_pos c2]
      refine CO_no hA (by omega) (by decide) hC ?_
      unfold fX6_sizeAfter
      simp (disch := first | assumption | (simp only [sI_kd, sP_kd, rw_kd, sI_ln, sP_ln, rw_ln] <;> first | assumption | omega) | omega) only [nl, nI_add, pk_mul, Option.bind_some, zb2_some, nI_le_t, nI_le_f, nI_lt_t, nI_lt_f, nI_eq_t, nI_eq_f, nI_m1, nI_em1, ↓reduceIte, Nat.add_zero, k1.1, qb c1, zb4_none, pa c2, zb4_some]
      rfl
    · rw [if_neg c2]
      by_cases c3 : 1 ≤ w ∧ w ≤ 99999
      · rw [if_neg (fun z => z c3)]
        obtain ⟨a, a1, a2, a3⟩ := in_f (by omega) c1
        obtain ⟨e, e1, e2, e3⟩ := in_f (by omega) c2
        obtain ⟨s, v1, v2, v3, v4⟩ := in_cost (K := 99999) (k := 99999) rfl (by omega) c3
        rw [a3, e3, v4]
        have q := qb c1
        have p := pb c2
        have f1 := f_size (v := s) hN.1 hK.2.2.2.2.1.1 hA.2.1 hc hf a1 e1 v2
        refine CO_get hC ?_
        subst a2
        subst e2
        subst v3
        unfold fX6_sizeAfter szaV
        simp (disch := first | assumption | (simp only [sI_kd, sP_kd, rw_kd, sI_ln, sP_ln, rw_ln] <;> first | assumption | omega) | omega) only [nl, nI_add, pk_mul, Option.bind_some, zb2_some, nI_le_t, nI_le_f, nI_lt_t, nI_lt_f, nI_eq_t, nI_eq_f, nI_m1, nI_em1, ↓reduceIte, Nat.add_zero, k1.1, q, zb4_none, p, k1.g1, g9, f1]
      · rw [if_pos c3]
        refine CO_no hA (by omega) (by decide) hC ?_
        unfold fX6_sizeAfter
        rw [if_pos k1.1, qb c1, zb4_none, pb c2, zb4_none]
        by_cases c4 : w < 1
        · rw [if_pos c4]; rfl
        · rw [if_neg c4, if_neg (fun z => c3 ⟨Int32.not_lt.mp c4, z⟩)]
          rfl
theorem rch_L {a : Nat} (hK : CK h x b d A) (hN : CN h x A) (hc : cok (acm0 A) (anf A)) (ha : a < anf A) : ∀ n' f n, f + n' = anf A → n' < n → fX6_reachable_L9 (fun h3 y4 y5 => some (Sum.inl y4, h3)) x (nI a) n h (nI (bsm (rchP A a) f)) (nI f) = some (Sum.inl (nI (bsm (rchP A a) (anf A))), h) := by
  have k1 := hK.1
  have g9 := hK.2.1.g9 k1.1
  have gn := hK.2.2.2.2.1.1.gnf
  have n8 := hc.1
  intro n'
  induction n' with
  | zero =>
    intro f n hf hn
    obtain ⟨n, rfl⟩ := fuel1 hn
    have e8 : f = anf A := by omega
    rw [fX6_reachable_L9, e8]
    simp (disch := first | assumption | (simp only [sI_kd, sP_kd, rw_kd, sI_ln, sP_ln, rw_ln] <;> first | assumption | omega) | omega) only [nl, nI_add, pk_mul, Option.bind_some, zb2_some, nI_le_t, nI_le_f, nI_lt_t, nI_lt_f, nI_eq_t, nI_eq_f, nI_m1, nI_em1, ↓reduceIte, Nat.add_zero, g9, gn]
  | succ n' ih =>
    intro f n hf hn
    obtain ⟨n, rfl⟩ := fuel1 hn
    have i1 := ih (f + 1) n (by omega) (by omega)
    have fc := f_conn (a := a) (b := f) hN.1 hc ha (by omega)
    have ob := or_bsm (p := rchP A a) (n := f) (by omega)
    rw [fX6_reachable_L9]
    by_cases q : fD 16 (acm0 A) (anf A) a f < fINF
    · have pq : rchP A a f = true := decide_eq_true q
      rw [if_pos pq] at ob
      rw [if_pos q] at fc
      simp (disch := first | assumption | (simp only [sI_kd, sP_kd, rw_kd, sI_ln, sP_ln, rw_ln] <;> first | assumption | omega) | omega) only [nl, nI_add, pk_mul, Option.bind_some, zb2_some, nI_le_t, nI_le_f, nI_lt_t, nI_lt_f, nI_eq_t, nI_eq_f, nI_m1, nI_em1, ↓reduceIte, Nat.add_zero, g9, gn, k1.g1, fc, ob]
      exact i1
    · have pq : ¬ rchP A a f = true := fun z => q (of_decide_eq_true z)
      rw [if_neg pq] at ob
      rw [if_neg q] at fc
      have bs : bsm (rchP A a) (f + 1) = bsm (rchP A a) f := by rw [bsm_s, if_neg pq, Nat.add_zero]
      rw [bs] at i1
      simp (disch := first | assumption | (simp only [sI_kd, sP_kd, rw_kd, sI_ln, sP_ln, rw_ln] <;> first | assumption | omega) | omega) only [nl, nI_add, pk_mul, Option.bind_some, zb2_some, nI_le_t, nI_le_f, nI_lt_t, nI_lt_f, nI_eq_t, nI_eq_f, nI_m1, nI_em1, ↓reduceIte, Nat.add_zero, g9, gn, k1.g1, fc]
      exact i1
theorem k_rch {t : Nat} (hC : CI h x A) (hA : AI t A) (u : Int32) : CO h x (fX6_reachable h x u) (rchS A u) [xI] := by
  obtain ⟨b, d, hK, hN⟩ := id hC
  have k1 := hK.1
  have n8 := hA.2.1.1.1
  obtain ⟨hc, hf⟩ := AI_cok hA 4294967287
  obtain ⟨qa, qb⟩ := q_F (v := u) hK
  unfold rchS
  by_cases c1 : outI u (anf A)
  · rw [if_pos c1]
    refine CO_no hA (by omega) (by decide) hC ?_
    unfold fX6_reachable
    simp (disch := first | assumption | (simp only [sI_kd, sP_kd, rw_kd, sI_ln, sP_ln, rw_ln] <;> first | assumption | omega) | omega) only [nl, nI_add, pk_mul, Option.bind_some, zb2_some, nI_le_t, nI_le_f, nI_lt_t, nI_lt_f, nI_eq_t, nI_eq_f, nI_m1, nI_em1, ↓reduceIte, Nat.add_zero, k1.1, qa c1, zb4_some]
    rfl
  · rw [if_neg c1]
    obtain ⟨a, a1, a2, a3⟩ := in_f (by omega) c1
    rw [a3]
    have q := qb c1
    have L := rch_L (a := a) hK hN hc a1 (anf A) 0 zF (by omega) (by unfold zF; omega)
    have lp : fX6_reachable_L9 (fun h3 y4 y5 => some (Sum.inl y4, h3)) x (nI a) zF h (nI 0) (nI 0) = some (Sum.inl (nI (bsm (rchP A a) (anf A))), h) := L
    refine CO_get hC ?_
    subst a2
    unfold fX6_reachable
    simp (disch := first | assumption | (simp only [sI_kd, sP_kd, rw_kd, sI_ln, sP_ln, rw_ln] <;> first | assumption | omega) | omega) only [nl, nI_add, pk_mul, Option.bind_some, zb2_some, nI_le_t, nI_le_f, nI_lt_t, nI_lt_f, nI_eq_t, nI_eq_f, nI_m1, nI_em1, ↓reduceIte, Nat.add_zero, k1.1, q, zb4_none]
    exact lp
/-- the paths without a conversion -/
theorem c_fo {t c : Nat} (hK : CK h x b d A) (hN : CN h x A) (hA : AI t A) (hc : c < anc A) : ∃ h', fX2_find h (x + 40) b (x + 78 + 2) (nI c) = some h' ∧ CK h' x b d A ∧ CN h' x A ∧ PF h' (x + 40) (anf A) (anc A) (afr A) (att A) (acm A c) ∧ FrI (x + 40) (x + 40 + 37) h h' := by
  obtain ⟨n1, n2, n3, n4⟩ := id hN
  obtain ⟨M, hM⟩ := PSh_PR n2
  have bd := hK.2.1.bd
  have n20 := hA.2.1.1.2.1
  obtain ⟨h', M', p1, p2, p3, p4⟩ := c_find (u3 := nI c) (skip := c) (co := rco (aρ A)) (cs := x + 78 + 2) hM hK.2.2.2.2.1.1 n3.1.2.2.2.2.2.1 n3.1.2.2.2.2.2.2.1 (fun c hc => n3.co hc) (fun c hc => hA.2.2.1.1.2.2.1 c hc) hA.2.1.1 (by omega) (by omega) (fun c' hc' => nI_eq (by omega) (by omega))
  exact ⟨h', p1, CK_fr hA p4.fr (Or.inl ⟨by omega, by omega⟩) hK, ⟨PF_fr p4.fr (by omega) hA.2.1.1.1 n1, p2.1, SR_fr p4.fr (by omega) n3 hA.2.2.1.1.1.1, SSh_fr p4.fr (by omega) n4⟩, p2, p4⟩
theorem k_wo {t : Nat} (hC : CI h x A) (hA : AI t A) (u v w : Int32) : CO h x (fX6_without h x u v w) (woS A u v w) [xI] := by
  obtain ⟨b, d, hK, hN⟩ := id hC
  have k1 := hK.1
  have g9 := hK.2.1.g9 k1.1
  have n8 := hA.2.1.1.1
  have n20 := hA.2.1.1.2.1
  obtain ⟨qa, qb⟩ := q_C (v := u) hK
  obtain ⟨pa, pb⟩ := q_F (v := v) hK
  obtain ⟨ra, rb⟩ := q_F (v := w) hK
  unfold woS
  by_cases c1 : outI u (anc A)
  · rw [if_pos c1]
    refine CO_no hA (by omega) (by decide) hC ?_
    unfold fX6_without
    simp (disch := first | assumption | (simp only [sI_kd, sP_kd, rw_kd, sI_ln, sP_ln, rw_ln] <;> first | assumption | omega) | omega) only [nl, nI_add, pk_mul, Option.bind_some, zb2_some, nI_le_t, nI_le_f, nI_lt_t, nI_lt_f, nI_eq_t, nI_eq_f, nI_m1, nI_em1, ↓reduceIte, Nat.add_zero, k1.1, qa c1, zb4_some]
    rfl
  · rw [if_neg c1]
    by_cases c2 : outI v (anf A)
    · rw [if_pos c2]
      refine CO_no hA (by omega) (by decide) hC ?_
      unfold fX6_without
      simp (disch := first | assumption | (simp only [sI_kd, sP_kd, rw_kd, sI_ln, sP_ln, rw_ln] <;> first | assumption | omega) | omega) only [nl, nI_add, pk_mul, Option.bind_some, zb2_some, nI_le_t, nI_le_f, nI_lt_t, nI_lt_f, nI_eq_t, nI_eq_f, nI_m1, nI_em1, ↓reduceIte, Nat.add_zero, k1.1, qb c1, zb4_none, pa c2, zb4_some]
      rfl
    · rw [if_neg c2]
      by_cases c3 : outI w (anf A)
      · rw [if_pos c3]
        refine CO_no hA (by omega) (by decide) hC ?_
        unfold fX6_without
        simp (disch := first | assumption | (simp only [sI_kd, sP_kd, rw_kd, sI_ln, sP_ln, rw_ln] <;> first | assumption | omega) | omega) only [nl, nI_add, pk_mul, Option.bind_some, zb2_some, nI_le_t, nI_le_f, nI_lt_t, nI_lt_f, nI_eq_t, nI_eq_f, nI_m1, nI_em1, ↓reduceIte, Nat.add_zero, k1.1, qb c1, zb4_none, pb c2, ra c3, zb4_some]
        rfl
      · rw [if_neg c3]
        obtain ⟨c, a1, a2, a3⟩ := in_f (by omega) c1
        obtain ⟨a, e1, e2, e3⟩ := in_f (by omega) c2
        obtain ⟨e, k1', k2, k3⟩ := in_f (by omega) c3
        rw [a3, e3, k3]
        obtain ⟨hc, hf⟩ := AI_cok hA c
        obtain ⟨h', p1, p2, p3, p4, p5⟩ := c_fo hK hN hA a1
        have f1 := f_cost p4 hc e1 k1'
        have q := qb c1
        have p := pb c2
        have r := rb c3
        refine CO_ok ?_ ⟨b, d, p2, p3⟩ (p5.fr.wd (by omega) (by omega))
        subst a2
        subst e2
        subst k2
        unfold fX6_without woV
        simp (disch := first | assumption | (simp only [sI_kd, sP_kd, rw_kd, sI_ln, sP_ln, rw_ln] <;> first | assumption | omega) | omega) only [nl, nI_add, pk_mul, Option.bind_some, zb2_some, nI_le_t, nI_le_f, nI_lt_t, nI_lt_f, nI_eq_t, nI_eq_f, nI_m1, nI_em1, ↓reduceIte, Nat.add_zero, k1.1, q, zb4_none, p, r, k1.g2, g9, k1.g4, hN.2.2.1.1.cs, p1, p2.1.g2, f1]
theorem k_wor {t : Nat} (hC : CI h x A) (hA : AI t A) (u : Int32) : CO h x (fX6_worth h x u) (worS A u) [xI] := by
  obtain ⟨b, d, hK, hN⟩ := id hC
  have k1 := hK.1
  have g9 := hK.2.1.g9 k1.1
  have n8 := hA.2.1.1.1
  have n20 := hA.2.1.1.2.1
  obtain ⟨qa, qb⟩ := q_C (v := u) hK
  unfold worS
  by_cases c1 : outI u (anc A)
  · rw [if_pos c1]
    refine CO_no hA (by omega) (by decide) hC ?_
    unfold fX6_worth
    simp (disch := first | assumption | (simp only [sI_kd, sP_kd, rw_kd, sI_ln, sP_ln, rw_ln] <;> first | assumption | omega) | omega) only [nl, nI_add, pk_mul, Option.bind_some, zb2_some, nI_le_t, nI_le_f, nI_lt_t, nI_lt_f, nI_eq_t, nI_eq_f, nI_m1, nI_em1, ↓reduceIte, Nat.add_zero, k1.1, qa c1, zb4_some]
    rfl
  · rw [if_neg c1]
    obtain ⟨c, a1, a2, a3⟩ := in_f (by omega) c1
    rw [a3]
    obtain ⟨hc, hf⟩ := AI_cok hA c
    obtain ⟨h', p1, p2, p3, p4, p5⟩ := c_fo hK hN hA a1
    obtain ⟨b1, b2, b3⟩ := hA.2.1.1.2.2.1 c a1
    have f1 := f_cost p4 hc b1 b2
    have q := qb c1
    have B' := p2.2.2.2.2.1.1
    have g9' := p2.2.1.g9 p2.1.1
    have fi : fINF = 1000000 := rfl
    refine CO_ok ?_ ⟨b, d, p2, p3⟩ (p5.fr.wd (by omega) (by omega))
    subst a2
    by_cases z : fD 16 (acm A c) (anf A) (afr A c) (att A c) < fINF
    · rw [if_pos z] at f1
      have ne : (nI (fD 16 (acm A c) (anf A) (afr A c) (att A c) / 16) = nI 4294967287) = False := eq_false fun q => by
        have := (nI_eqN (by omega) (by omega)).mp q
        omega
      by_cases z2 : fD 16 (acm A c) (anf A) (afr A c) (att A c) / 16 ≤ 99
      · have wv : worV A c = fD 16 (acm A c) (anf A) (afr A c) (att A c) / 16 := by unfold worV; rw [if_pos ⟨z, z2⟩]
        rw [wv]
        unfold fX6_worth
        simp (disch := first | assumption | (simp only [sI_kd, sP_kd, rw_kd, sI_ln, sP_ln, rw_ln] <;> first | assumption | omega) | omega) only [nl, nI_add, pk_mul, Option.bind_some, zb2_some, nI_le_t, nI_le_f, nI_lt_t, nI_lt_f, nI_eq_t, nI_eq_f, nI_m1, nI_em1, ↓reduceIte, Nat.add_zero, k1.1, q, zb4_none, k1.g2, g9, k1.g4, hN.2.2.1.1.cs, p1, p2.1.g2, g9', B'.1.p0, B'.1.p1, B'.gfr n20 a1, B'.gtt n20 a1, f1, nI_n9, ne]
      · have wv : worV A c = 99 := by unfold worV; rw [if_neg (fun w => z2 w.2)]
        rw [wv]
        unfold fX6_worth
        simp (disch := first | assumption | (simp only [sI_kd, sP_kd, rw_kd, sI_ln, sP_ln, rw_ln] <;> first | assumption | omega) | omega) only [nl, nI_add, pk_mul, Option.bind_some, zb2_some, nI_le_t, nI_le_f, nI_lt_t, nI_lt_f, nI_eq_t, nI_eq_f, nI_m1, nI_em1, ↓reduceIte, Nat.add_zero, k1.1, q, zb4_none, k1.g2, g9, k1.g4, hN.2.2.1.1.cs, p1, p2.1.g2, g9', B'.1.p0, B'.1.p1, B'.gfr n20 a1, B'.gtt n20 a1, f1, nI_n9, ne]
    · rw [if_neg z] at f1
      have wv : worV A c = 99 := by unfold worV; rw [if_neg (fun w => z w.1)]
      rw [wv]
      unfold fX6_worth
      simp (disch := first | assumption | (simp only [sI_kd, sP_kd, rw_kd, sI_ln, sP_ln, rw_ln] <;> first | assumption | omega) | omega) only [nl, nI_add, pk_mul, Option.bind_some, zb2_some, nI_le_t, nI_le_f, nI_lt_t, nI_lt_f, nI_eq_t, nI_eq_f, nI_m1, nI_em1, ↓reduceIte, Nat.add_zero, k1.1, q, zb4_none, k1.g2, g9, k1.g4, hN.2.2.1.1.cs, p1, p2.1.g2, g9', B'.1.p0, B'.1.p1, B'.gfr n20 a1, B'.gtt n20 a1, f1, nI_n9]
end CPATHS
