/-! pure: the component's budget, costs, undo, slots -/
def awith (A : zSt) (ρ : zN') (nh : Nat) : zSt := (A.1, A.2.1, ρ, nh, A.2.2.2.2)
section CACT3
variable {h h' : zH} {x b d : Nat} {A : zSt}
theorem PSh_PR {w : Nat} (hs : PSh h w) : ∃ M, PR h w M := ⟨fun j a b => Classical.choose (any_nI (zI h (w + 2 + 9 * j + a) b)), hs, fun j a b _ _ _ => Classical.choose_spec (any_nI (zI h (w + 2 + 9 * j + a) b))⟩
theorem k_bud {t : Nat} (hC : CI h x A) (hA : AI t A) (v : Int32) : CO h x (fX6_setBudget h x v) (budS A v) [xA, xS] := by
  obtain ⟨b, d, hK, hN⟩ := id hC
  obtain ⟨a1, hO, ⟨a3, a3t⟩, a4, a5, a6⟩ := id hA
  have n20 := hO.1.2.1
  have tr := atg_rok a3 n20
  have tj : ∀ j, j < 24 → atg A j = aρ A j := fun j hj => ntg_h hj
  unfold budS
  by_cases c1 : 1 ≤ v ∧ v ≤ 99999
  · rw [if_neg (fun z => z c1)]
    obtain ⟨s, v1, v2, v3, v4⟩ := in_cost (K := 99999) (k := 99999) rfl (by omega) c1
    rw [v4]
    have S0' : SR false h (x + 78) (anc A) (atg A) := SR_tg (k := aρ A 0) n20 hN.2.2.1
    have L := c_least false S0' tr.1 nbut_m1
    rw [if_neg (by decide)] at L
    have nl' := nls_bd tr.1 99 false
    have it := nbud_iff tr.1 ⟨v1, v2⟩
    subst v3
    cases hb : nbud (atg A) s with
    | none =>
      have ng : ¬ nls (atg A) 99 false ≤ s := fun z => by
        obtain ⟨r, hr⟩ := it.mpr z
        rw [hb] at hr
        cases hr
      refine CO_no hA (by omega) (by decide) hC ?_
      unfold fX6_setBudget
      simp (disch := first | assumption | (simp only [sI_kd, sP_kd, rw_kd, sI_ln, sP_ln, rw_ln] <;> first | assumption | omega) | omega) only [nl, nI_add, pk_mul, Option.bind_some, zb2_some, nI_le_t, nI_le_f, nI_lt_t, nI_lt_f, nI_eq_t, nI_eq_f, nI_m1, nI_em1, ↓reduceIte, Nat.add_zero, hK.1.1, hK.1.g4, L]
      rfl
    | some ρ' =>
      have ng : nls (atg A) 99 false ≤ s := it.mp ⟨ρ', hb⟩
      obtain ⟨k1, k2⟩ := rok_bud tr n20 ⟨v1, v2⟩ hb
      obtain ⟨h9, b', d', e1, e2, e3, e4, g4, g3, -, S9, -⟩ := c_now hC hA
      have S10 := SR_budget (t := s) S9 tr.1.1
      have b1 := nok_bud tr.1 (v := s) ⟨v1, v2⟩
      obtain ⟨h11, p1, p2, p3⟩ := c_makeRoom S10 n20 b1 nbut_m1 (by omega) hb
      have F0 : Fr (x + 78) (x + 78 + 39) h9 (zsI h9 (x + 78) 5 (nI s)) := (FrI.sI (by omega) (by omega)).fr
      obtain ⟨kk1, kk2, kk3⟩ := nroom_keep b1 hb
      obtain ⟨C, F, g4'⟩ := c_put hA e2 e3 (F0.tr p3) p2 (fun j h1 h2 => by rw [kk3 j (by omega) h2, up_b (by omega), tj j h2])
      have us := c_used p2 k1.1.1
      have w1 : zpI h9 3 (x + 78) 5 (nI s) = some (zsI h9 (x + 78) 5 (nI s)) := pI_ S9.1.1
      have g4'' : zgP (zsI h9 (x + 78) 5 (nI s)) 6 x 4 = some (x + 78) := (e2.1.s).g4
      refine CO_ok ?_ C (e4.tr F)
      unfold fX6_setBudget
      simp (disch := first | assumption | (simp only [sI_kd, sP_kd, rw_kd, sI_ln, sP_ln, rw_ln] <;> first | assumption | omega) | omega) only [nl, nI_add, pk_mul, Option.bind_some, zb2_some, nI_le_t, nI_le_f, nI_lt_t, nI_lt_f, nI_eq_t, nI_eq_f, nI_m1, nI_em1, ↓reduceIte, Nat.add_zero, hK.1.1, hK.1.g4, L, e1, g4, w1, g4'', p1, g4', us]
  · rw [if_pos c1]
    refine CO_no hA (by omega) (by decide) hC ?_
    unfold fX6_setBudget
    rw [if_pos hK.1.1]
    by_cases c2 : v < 1
    · rw [if_pos c2]
      rfl
    · rw [if_neg c2, if_neg (fun z => c1 ⟨Int32.not_lt.mp c2, z⟩)]
      rfl
theorem c_fp {t : Nat} (hK : CK h x b d A) (hP : PSh h (x + 3)) (hP2 : PSh h (x + 40)) (hS : SR false h (x + 78) (anc A) (aρ A)) (hT : SSh h (x + 117)) (hA : AI t A) : ∃ h', fX6_findPaths h x = some h' ∧ CK h' x b d A ∧ CN h' x A ∧ FrI (x + 3) (x + 3 + 37) h h' := by
  obtain ⟨M, hM⟩ := PSh_PR hP
  have bd := hK.2.1.bd
  obtain ⟨h', M', p1, p2, p3, p4⟩ := c_find (u3 := nI 4294967295) (skip := 4294967287) (co := rco (aρ A)) (cs := x + 78 + 2) hM hK.2.2.2.2.1.1 hS.1.2.2.2.2.2.1 hS.1.2.2.2.2.2.2.1 (fun c hc => hS.co hc) (fun c hc => hA.2.2.1.1.2.2.1 c hc) hA.2.1.1 (by omega) (by omega) (fun c hc => ⟨fun z => by rw [nI_em1 (by omega)] at z; exact z.elim, fun z => by omega⟩)
  refine ⟨h', ?_, CK_fr hA p4.fr (Or.inl ⟨by omega, by omega⟩) hK, ⟨p2, PSh_fr p4.fr (by omega) hP2, SR_fr p4.fr (by omega) hS hA.2.2.1.1.1.1, SSh_fr p4.fr (by omega) hT⟩, p4⟩
  unfold fX6_findPaths
  simp (disch := first | assumption | (simp only [sI_kd, sP_kd, rw_kd, sI_ln, sP_ln, rw_ln] <;> first | assumption | omega) | omega) only [nl, nI_add, pk_mul, Option.bind_some, zb2_some, nI_le_t, nI_le_f, nI_lt_t, nI_lt_f, nI_eq_t, nI_eq_f, nI_m1, nI_em1, ↓reduceIte, Nat.add_zero, hK.1.1, hK.1.g1, hK.2.1.g9 hK.1.1, hK.1.g4, hS.1.cs, p1]
theorem SR_cost {q nc c v : Nat} {ρ : zN'} (hS : SR false h q nc ρ) (hn : nc ≤ 20) (hc : c < nc) (h0 : ρ 0 ≤ 12) : SR false (zsI h (q + 2) c (nI v)) q nc (va_up ρ (4 + c) v) := by
  obtain ⟨s1, s2, s3, s4, s5, s6, s7⟩ := id hS
  refine ⟨SSh_fI (FrI.sI (lo := q + 2) (hi := q + 3) (by omega) (by omega)) s1, ?_, ?_, ?_, ?_, fun j hj => ?_, fun i hi => ?_⟩
  · rw [sI_a (by omega), up_b (by omega)]; exact s2
  · rw [sI_a (by omega), up_b (by omega)]; exact s3
  · rw [sI_a (by omega), up_b (by omega)]; exact s4
  · rw [sI_a (by omega), up_b (by omega)]; exact s5
  · by_cases e : j = c
    · rw [e, sI_at, up_at]
    · rw [sI_k (by omega), up_b (by omega)]; exact s6 j hj
  · rw [up_b (by omega)] at hi
    obtain ⟨j, hj, ej⟩ := s1.ea (i := i) (by omega)
    rw [sI_P]
    refine ER_en (fun k hk => up_b (by omega)) (ER_fr (fun a g1 g2 => ?_) (s7 i hi))
    rw [ej] at g1 g2
    rw [sI_a (by omega)]
theorem k_cost {t : Nat} (hC : CI h x A) (hA : AI t A) (v w : Int32) : CO h x (fX6_setCost h x v w) (costS A v w) [xI, xA] := by
  obtain ⟨b, d, hK, hN⟩ := id hC
  obtain ⟨a1, hO, ⟨a3, a3t⟩, a4, a5, a6⟩ := id hA
  have n20 := hO.1.2.1
  have c12 := a3.1.1
  obtain ⟨qa, qb⟩ := q_C (v := v) hK
  unfold costS
  by_cases c1 : outI v (anc A)
  · rw [if_pos c1]
    refine CO_no hA (by omega) (by decide) hC ?_
    unfold fX6_setCost
    simp (disch := first | assumption | (simp only [sI_kd, sP_kd, rw_kd, sI_ln, sP_ln, rw_ln] <;> first | assumption | omega) | omega) only [nl, nI_add, pk_mul, Option.bind_some, zb2_some, nI_le_t, nI_le_f, nI_lt_t, nI_lt_f, nI_eq_t, nI_eq_f, nI_m1, nI_em1, ↓reduceIte, Nat.add_zero, hK.1.1, qa c1, zb4_some]
    rfl
  · rw [if_neg c1]
    obtain ⟨c, f1, f2, f3⟩ := in_f (by omega) c1
    by_cases c2 : 1 ≤ w ∧ w ≤ 99
    · rw [if_neg (fun z => z c2)]
      obtain ⟨s, v1, v2, v3, v4⟩ := in_cost (K := 99) (k := 99) rfl (by omega) c2
      rw [f3, v4]
      obtain ⟨h9, b', d', e1, e2, e3, e4, g4, g3, S9, -, -⟩ := c_now hC hA
      have S10 := SR_cost (c := c) (v := s) S9 n20 f1 c12
      have k1 := rok_cost a3 n20 f1 ⟨v1, v2⟩
      have A1 : AI (t + 1) (anew A (va_up (aρ A) (4 + c) s)) := AI_new hA k1 (by rw [up_b (by omega)]; omega)
      have F0 : FrI (x + 78) (x + 78 + 39) h9 (zsI h9 (x + 78 + 2) c (nI s)) := FrI.sI (by omega) (by omega)
      have K10 : CK (zsI h9 (x + 78 + 2) c (nI s)) x b' d' (anote A) := CK_fr (AI_note hA) F0.fr (Or.inl ⟨by omega, by omega⟩) e2
      obtain ⟨m1, m2, m3, m4⟩ := e3
      obtain ⟨h12, p1, p2, p3, p4⟩ := c_fp (A := anew A (va_up (aρ A) (4 + c) s)) K10 (PSh_fr F0.fr (by omega) m1.1) (PSh_fr F0.fr (by omega) m2) S10 (SSh_fr F0.fr (by omega) m4) A1
      have rd : zaI h9 (x + 78 + 2) (nI c) = some (nI (aρ A (4 + c))) := by
        rw [aI_ S9.1.2.2.2.2.2.1 (by rw [S9.1.2.2.2.2.2.2.1]; omega) (by rw [S9.1.2.2.2.2.2.2.1]; omega), S9.co f1]
      have wr : zbI h9 (x + 78 + 2) (nI c) (nI s) = some (zsI h9 (x + 78 + 2) c (nI s)) := bI_ S9.1.2.2.2.2.2.1 (by rw [S9.1.2.2.2.2.2.2.1]; omega) (by rw [S9.1.2.2.2.2.2.2.1]; omega)
      refine CO_ok ?_ ⟨b', d', p2, p3⟩ (e4.tr ((F0.fr.wd (by omega) (by omega)).tr (p4.fr.wd (by omega) (by omega))))
      subst f2
      subst v3
      unfold fX6_setCost
      simp (disch := first | assumption | (simp only [sI_kd, sP_kd, rw_kd, sI_ln, sP_ln, rw_ln] <;> first | assumption | omega) | omega) only [nl, nI_add, pk_mul, Option.bind_some, zb2_some, nI_le_t, nI_le_f, nI_lt_t, nI_lt_f, nI_eq_t, nI_eq_f, nI_m1, nI_em1, ↓reduceIte, Nat.add_zero, hK.1.1, qb c1, zb4_none, e1, g4, S9.1.cs, rd, wr, p1]
    · rw [if_pos c2]
      refine CO_no hA (by omega) (by decide) hC ?_
      unfold fX6_setCost
      rw [if_pos hK.1.1, qb c1, zb4_none]
      by_cases c3 : w < 1
      · rw [if_pos c3]
        rfl
      · rw [if_neg c3, if_neg (fun z => c2 ⟨Int32.not_lt.mp c3, z⟩)]
        rfl
theorem CK_11 {t nh : Nat} {ρ : zN'} (hK : CK h x b d A) (hA : AI t A) (hn : nh ≤ anh A) : CK (zsI h x 11 (nI nh)) x b d (awith A ρ nh) := by
  obtain ⟨k1, k2, k3, k4, ⟨k5, k5'⟩, k6, k7⟩ := hK
  obtain ⟨c1, c2⟩ := AI_hc hA
  have bd := k2.bd
  have hh := hA.2.2.2.1
  have F1 := fr_11 (h := h) (x := x) (v := nI nh)
  have M : CMm h x (anc A) nh (aH A) := ⟨k6.1, k6.2.1, k6.2.2.1, fun i hi => k6.2.2.2 i (by omega)⟩
  have M2 := CMm_fr F1 (by omega) (fun i (hi : i < nh) => c1 i (by omega)) (by omega) M
  exact ⟨k1.s, k2.s, sI_at, by rw [sI_a (by omega), sI_a (by omega)]; exact k4, ⟨BR_fr F1 (by omega) k5, BSh_fr F1 (by omega) k5'⟩, M2, CSl_fr F1 (by omega) c2 k7⟩
theorem k_undo {t : Nat} (hC : CI h x A) (hA : AI t A) : CO h x (fX6_undo h x) (undoS A) [xS] := by
  obtain ⟨b, d, hK, hN⟩ := id hC
  obtain ⟨a1, hO, ⟨a3, a3t⟩, a4, a5, a6⟩ := id hA
  have n20 := hO.1.2.1
  have g11 := hK.g11
  have uA := AI_undo hA
  unfold undoS
  unfold undoS at uA
  by_cases c : anh A = 0
  · rw [if_pos c]
    rw [c] at g11
    refine CO_no hA (by omega) (by decide) hC ?_
    unfold fX6_undo
    simp (disch := first | assumption | (simp only [sI_kd, sP_kd, rw_kd, sI_ln, sP_ln, rw_ln] <;> first | assumption | omega) | omega) only [nl, nI_add, pk_mul, Option.bind_some, zb2_some, nI_le_t, nI_le_f, nI_lt_t, nI_lt_f, nI_eq_t, nI_eq_f, nI_m1, nI_em1, ↓reduceIte, Nat.add_zero, hK.1.1, g11]
    rfl
  · rw [if_neg c] at uA ⊢
    have K8 : CK (zsI h x 11 (nI (anh A - 1))) x b d (aback A) := CK_11 hK hA (by omega)
    have F1 := fr_11 (h := h) (x := x) (v := nI (anh A - 1))
    have N8 : CN (zsI h x 11 (nI (anh A - 1))) x A := CN_fr hA F1 (by omega) hN
    obtain ⟨n1, n2, n3, n4⟩ := N8
    have k6 := hK.2.2.2.2.2.1
    obtain ⟨j, hj, ej⟩ := k6.1 (anh A - 1) (by omega)
    have S := k6.2.2.2 (anh A - 1) (by omega)
    have o := hA.2.2.2.2.1 (anh A - 1) (by omega)
    rw [ej] at S
    have S8 : SR false (zsI h x 11 (nI (anh A - 1))) (x + 177 + 39 * j) (anc A) (aH A (anh A - 1)) := SR_fr F1 (by omega) S o.1.1.1
    obtain ⟨h13, p1, p2, p3⟩ := c_take n3.1 S8 n20 o.1.1 (Or.inl (by omega))
    have K13 : CK h13 x b d (aback A) := CK_fr uA p3.fr (Or.inl ⟨by omega, by omega⟩) K8
    obtain ⟨h14, r1, r2, r3, r4⟩ := c_fp (A := aback A) K13 (PSh_fr p3.fr (by omega) n1.1) (PSh_fr p3.fr (by omega) n2) p2 (SSh_fr p3.fr (by omega) n4) uA
    have sb : nI (anh A) - nI 1 = nI (anh A - 1) := pk_sub (by omega)
    have w1 : zpI h 6 x 11 (nI (anh A - 1)) = some (zsI h x 11 (nI (anh A - 1))) := pI_ hK.1.1
    have g8 : zgI (zsI h x 11 (nI (anh A - 1))) 6 x 11 = some (nI (anh A - 1)) := K8.g11
    have g14 : zgI h14 6 x 11 = some (nI (anh A - 1)) := r2.g11
    have mm : zaP (zsI h x 11 (nI (anh A - 1))) (x + 156) (nI (anh A - 1)) = some (x + 177 + 39 * j) := by
      rw [K8.2.2.2.2.2.1.m K8.1 (by omega), sI_P, ej]
    refine CO_ok ?_ ⟨b, d, r2, r3⟩ ((F1.wd (by omega) (by omega)).tr ((p3.fr.wd (by omega) (by omega)).tr (r4.fr.wd (by omega) (by omega))))
    unfold fX6_undo
    simp (disch := first | assumption | (simp only [sI_kd, sP_kd, rw_kd, sI_ln, sP_ln, rw_ln] <;> first | assumption | omega) | omega) only [nl, nI_add, pk_mul, Option.bind_some, zb2_some, nI_le_t, nI_le_f, nI_lt_t, nI_lt_f, nI_eq_t, nI_eq_f, nI_m1, nI_em1, ↓reduceIte, Nat.add_zero, hK.1.1, g11, hK.1.g6, hK.1.l6, sb, w1, K8.1.g4, K8.1.g6, g8, mm, p1, r1, g14]
theorem k_save {t : Nat} (hC : CI h x A) (hA : AI t A) (v : Int32) : CO h x (fX6_save h x v) (saveS A v) [xI] := by
  obtain ⟨b, d, hK, hN⟩ := id hC
  obtain ⟨a1, hO, ⟨a3, a3t⟩, a4, a5, a6⟩ := id hA
  have n20 := hO.1.2.1
  have c12 := a3.1.1
  obtain ⟨c1', c2'⟩ := AI_hc hA
  obtain ⟨qa, qb⟩ := q_S (h := h) (v := v)
  have bd := hK.2.1.bd
  unfold saveS
  by_cases c1 : outI v 2
  · rw [if_pos c1]
    refine CO_no hA (by omega) (by decide) hC ?_
    unfold fX6_save
    simp (disch := first | assumption | (simp only [sI_kd, sP_kd, rw_kd, sI_ln, sP_ln, rw_ln] <;> first | assumption | omega) | omega) only [nl, nI_add, pk_mul, Option.bind_some, zb2_some, nI_le_t, nI_le_f, nI_lt_t, nI_lt_f, nI_eq_t, nI_eq_f, nI_m1, nI_em1, ↓reduceIte, Nat.add_zero, hK.1.1, qa c1, zb4_some]
    rfl
  · rw [if_neg c1]
    obtain ⟨k, f1, f2, f3⟩ := in_f (by omega) c1
    rw [f3]
    obtain ⟨k1, k2, k3, k4, ⟨k5, k5'⟩, k6, k7⟩ := id hK
    obtain ⟨h6, p1, p2, p3⟩ := c_take (k7.1 k f1) hN.2.2.1 n20 a3.1 (Or.inr (by omega))
    have F := p3.fr
    have s6 : CSt h6 x := CSt_fr F (by omega) k1
    have wr : zbZ h6 (x + 158) (nI k) (nI 1) = some (zsI h6 (x + 158) k (nI 1)) := bZ_ s6.2.2.2.2.1.1 (Or.inr rfl) (by rw [s6.2.2.2.2.1.2]; exact f1) (by rw [s6.2.2.2.2.1.2]; omega)
    have F1 : Fr (x + 158) (x + 159) h6 (zsI h6 (x + 158) k (nI 1)) := (FrI.sI (by omega) (by omega)).fr
    have s8 : CSt (zsI h6 (x + 158) k (nI 1)) x := s6.s
    have S8 : SR false (zsI h6 (x + 158) k (nI 1)) (x + 78) (anc A) (aρ A) := SR_fr F1 (by omega) (SR_fr F (by omega) hN.2.2.1 c12) c12
    have N8 : CN (zsI h6 (x + 158) k (nI 1)) x A := CN_fr hA F1 (by omega) (CN_fr hA F (by omega) hN)
    have cn : zgI (zsI h6 (x + 158) k (nI 1)) 3 (x + 78) 2 = some (nI (aρ A 0)) := S8.cn
    have CB : CBa (zsI h6 (x + 158) k (nI 1)) x b d := by
      refine CBa.s ?_
      unfold CBa
      rw [(F.2.2.2 x (by omega)).2]
      exact k2
    have K8 : CK (zsI h6 (x + 158) k (nI 1)) x b d (asave A k) := by
      refine ⟨s8, CB, ?_, ?_, ⟨BR_fr F1 (by omega) (BR_fr F (by omega) k5), BSh_fr F1 (by omega) (BSh_fr F (by omega) k5')⟩, CMm_fr F1 (by omega) c1' a4 (CMm_fr F (by omega) c1' a4 k6), ?_⟩
      · rw [sI_a (by omega), (F.2.2.2 x (by omega)).1]; exact k3
      · rw [sI_a (by omega), sI_a (by omega), (F.2.2.2 (x + 1) (by omega)).1, (F.2.2.2 (x + 2) (by omega)).1]; exact k4
      · refine ⟨fun i hi => SSh_fI (FrI.sI (lo := x + 158) (hi := x + 159) (by omega) (by omega)) (SSh_fI p3 (k7.1 i hi)), fun i hi => ?_, fun i hi fl => ?_⟩
        · show zI (zsI h6 (x + 158) k (nI 1)) (x + 158) i = nI (if (if i = k then true else afl A i) = true then 1 else 0)
          by_cases e : i = k
          · rw [e, sI_at, if_pos rfl, if_pos rfl]
          · rw [sI_k e, if_neg e, (F.2.2.2 (x + 158) (by omega)).1]
            exact k7.2.1 i hi
        · show SR false (zsI h6 (x + 158) k (nI 1)) (x + 723 + 39 * i) (anc A) (if i = k then aρ A else aK A i)
          by_cases e : i = k
          · rw [if_pos e, e]
            exact SR_fr F1 (by omega) p2 c12
          · rw [if_neg e]
            have fl' : afl A i = true := by
              have : (if i = k then true else afl A i) = true := fl
              rw [if_neg e] at this
              exact this
            exact SR_fr F1 (by omega) (SR_fr F (by omega) (k7.2.2 i hi fl') (c2' i hi fl')) (c2' i hi fl')
    refine CO_ok ?_ ⟨b, d, K8, N8⟩ ((F.wd (by omega) (by omega)).tr (F1.wd (by omega) (by omega)))
    subst f2
    unfold fX6_save
    simp (disch := first | assumption | (simp only [sI_kd, sP_kd, rw_kd, sI_ln, sP_ln, rw_ln] <;> first | assumption | omega) | omega) only [nl, nI_add, pk_mul, Option.bind_some, zb2_some, nI_le_t, nI_le_f, nI_lt_t, nI_lt_f, nI_eq_t, nI_eq_f, nI_m1, nI_em1, ↓reduceIte, Nat.add_zero, hK.1.1, qb c1, zb4_none, k1.g7, k1.sl, k1.g4, p1, s6.g8, wr, s8.g4, cn]
theorem k_res {t : Nat} (hC : CI h x A) (hA : AI t A) (v : Int32) : CO h x (fX6_restore h x v) (resS A v) [xI, xS] := by
  obtain ⟨b, d, hK, hN⟩ := id hC
  obtain ⟨a1, hO, ⟨a3, a3t⟩, a4, a5, a6⟩ := id hA
  have n20 := hO.1.2.1
  obtain ⟨qa, qb⟩ := q_S (h := h) (v := v)
  have rA := AI_res hA v
  unfold resS
  unfold resS at rA
  by_cases c1 : outI v 2
  · rw [if_pos c1]
    refine CO_no hA (by omega) (by decide) hC ?_
    unfold fX6_restore
    simp (disch := first | assumption | (simp only [sI_kd, sP_kd, rw_kd, sI_ln, sP_ln, rw_ln] <;> first | assumption | omega) | omega) only [nl, nI_add, pk_mul, Option.bind_some, zb2_some, nI_le_t, nI_le_f, nI_lt_t, nI_lt_f, nI_eq_t, nI_eq_f, nI_m1, nI_em1, ↓reduceIte, Nat.add_zero, hK.1.1, qa c1, zb4_some]
    rfl
  · rw [if_neg c1] at rA ⊢
    obtain ⟨k, f1, f2, f3⟩ := in_f (by omega) c1
    rw [f3] at rA ⊢
    have k1 := hK.1
    have k7 := hK.2.2.2.2.2.2
    have rd : zaZ h (x + 158) (nI k) = some (nI (if afl A k = true then 1 else 0)) := by
      rw [aZ_ k1.2.2.2.2.1.1 (by rw [k1.2.2.2.2.1.2]; exact f1) (by rw [k1.2.2.2.2.1.2]; omega), k7.2.1 k f1]
    subst f2
    cases fl : afl A k with
    | false =>
      rw [if_pos rfl]
      rw [fl, if_neg (by decide)] at rd
      refine CO_no hA (by omega) (by decide) hC ?_
      unfold fX6_restore
      simp (disch := first | assumption | (simp only [sI_kd, sP_kd, rw_kd, sI_ln, sP_ln, rw_ln] <;> first | assumption | omega) | omega) only [nl, nI_add, pk_mul, Option.bind_some, zb2_some, nI_le_t, nI_le_f, nI_lt_t, nI_lt_f, nI_eq_t, nI_eq_f, nI_m1, nI_em1, ↓reduceIte, Nat.add_zero, hK.1.1, qb c1, zb4_none, k1.g8, rd]
      rfl
    | true =>
      have nf : ¬ true = false := fun z => by cases z
      rw [if_neg nf]
      rw [fl, if_neg nf] at rA
      rw [fl, if_pos rfl] at rd
      have S := k7.2.2 k f1 fl
      have o := a6 k f1 fl
      obtain ⟨h9, p1, p2, p3⟩ := c_take hN.2.2.1.1 S n20 o.1.1 (Or.inl (by omega))
      have K9 : CK h9 x b d A := CK_fr hA p3.fr (Or.inl ⟨by omega, by omega⟩) hK
      have K10 : CK (zsI h9 x 11 (nI 0)) x b d (ares A k) := CK_11 K9 hA (Nat.zero_le _)
      have F1 := fr_11 (h := h9) (x := x) (v := nI 0)
      have S10 : SR false (zsI h9 x 11 (nI 0)) (x + 78) (anc A) (aK A k) := SR_fr F1 (by omega) p2 o.1.1.1
      obtain ⟨n1, n2, n3, n4⟩ := hN
      obtain ⟨h11, r1, r2, r3, r4⟩ := c_fp (A := ares A k) K10 (PSh_fr F1 (by omega) (PSh_fr p3.fr (by omega) n1.1)) (PSh_fr F1 (by omega) (PSh_fr p3.fr (by omega) n2)) S10 (SSh_fr F1 (by omega) (SSh_fr p3.fr (by omega) n4)) rA
      have w1 : zpI h9 6 x 11 (nI 0) = some (zsI h9 x 11 (nI 0)) := pI_ K9.1.1
      have cn : zgI h11 3 (x + 78) 2 = some (nI (aK A k 0)) := r3.2.2.1.cn
      refine CO_ok ?_ ⟨b, d, r2, r3⟩ ((p3.fr.wd (by omega) (by omega)).tr ((F1.wd (by omega) (by omega)).tr (r4.fr.wd (by omega) (by omega))))
      unfold fX6_restore
      simp (disch := first | assumption | (simp only [sI_kd, sP_kd, rw_kd, sI_ln, sP_ln, rw_ln] <;> first | assumption | omega) | omega) only [nl, nI_add, pk_mul, Option.bind_some, zb2_some, nI_le_t, nI_le_f, nI_lt_t, nI_lt_f, nI_eq_t, nI_eq_f, nI_m1, nI_em1, ↓reduceIte, Nat.add_zero, hK.1.1, qb c1, zb4_none, k1.g8, rd, k1.g4, k1.g7, k1.sl, p1, w1, r1, r2.1.g4, cn]
end CACT3
