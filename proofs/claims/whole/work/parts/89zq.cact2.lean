/-! pure: the component's paste, pins and removals -/
section CACT2
variable {h h' : zH} {x b d : Nat} {A : zSt}
theorem CI_way {t : Nat} (hK : CK h x b d A) (hN : CN h x A) (hA : AI t A) (f : Fr (x + 77) (x + 77 + 1) h h') : CK h' x b d A ∧ CN h' x A := by
  obtain ⟨n1, n2, n3, n4⟩ := hN
  exact ⟨CK_fr hA f (Or.inl ⟨by omega, by omega⟩) hK, PF_fr f (by omega) hA.2.1.1.1 n1, PSh_fr f (by omega) n2, SR_fr f (by omega) n3 hA.2.2.1.1.1.1, SSh_fr f (by omega) n4⟩
theorem c_way {t q e p : Nat} {ρ : zN'} (hK : CK h x b d A) (hN : CN h x A) (hA : AI t A) (hS : SR false h q (anc A) ρ) (hq : x + 78 ≤ q) (hr : rok (anf A) (anc A) ρ) (hc : ∀ c, c < anc A → ρ (4 + c) = aρ A (4 + c)) (he : e < ρ 0) (hp : p < anp A) : (away A ρ e p = none → ∃ h', fX6_findWay h x q (nI e) (nI p) = some (nI 0, h') ∧ FrI (x + 77) (x + 77 + 1) h h') ∧ ∀ w, away A ρ e p = some w → ∃ h', fX6_findWay h x q (nI e) (nI p) = some (nI 1, h') ∧ WR h' (x + 77) w ∧ FrI (x + 77) (x + 77 + 1) h h' := by
  obtain ⟨n1, n2, n3, n4⟩ := hN
  have c12 := hr.1.1
  have bd := hK.2.1.bd
  have ec : acm0 A = rcm (afr A) (att A) (anc A) ρ := by
    show cmt (afr A) (att A) (rco (aρ A)) 4294967287 (anc A) = cmt (afr A) (att A) (rco ρ) 4294967287 (anc A)
    exact (cmt_cg (fun c hc' => hc c hc')).symm
  rw [ec] at n1
  obtain ⟨j, hj, ej⟩ := hS.1.ea (i := e) (by omega)
  have L := c_search (h := h) (w := x + 3) (bd := b) (x := zP h (q + 1) e) (p := p) (fw := x + 77) n1 hK.2.2.2.2.1.1 hA.2.1 hr.2.2.1 (hS.1.sh (by omega)) (hS.er he) (hr.1.2.2.2.2 e he) hp hK.1.2.2.2.2.2.1 (by omega) (by omega) (by omega)
  constructor
  · intro hw
    have hw' : nway (afr A) (att A) (agr A) (alo A) (aac A) (ali A) (anc A) (anf A) ρ e p = none := hw
    rw [hw'] at L
    obtain ⟨h', l1, l2⟩ := L
    refine ⟨h', ?_, l2⟩
    unfold fX6_findWay
    simp (disch := first | assumption | (simp only [sI_kd, sP_kd, rw_kd, sI_ln, sP_ln, rw_ln] <;> first | assumption | omega) | omega) only [nl, nI_add, pk_mul, Option.bind_some, zb2_some, nI_le_t, nI_le_f, nI_lt_t, nI_lt_f, nI_eq_t, nI_eq_f, nI_m1, nI_em1, ↓reduceIte, Nat.add_zero, hK.1.1, hK.1.g3, hS.1.es, hS.1.en, hK.2.1.g9 hK.1.1, hK.1.g1, l1]
    rfl
  · intro w hw
    have hw' : nway (afr A) (att A) (agr A) (alo A) (aac A) (ali A) (anc A) (anf A) ρ e p = some w := hw
    rw [hw'] at L
    obtain ⟨h', l1, l2, l3⟩ := L
    refine ⟨h', ?_, l2, l3⟩
    unfold fX6_findWay
    simp (disch := first | assumption | (simp only [sI_kd, sP_kd, rw_kd, sI_ln, sP_ln, rw_ln] <;> first | assumption | omega) | omega) only [nl, nI_add, pk_mul, Option.bind_some, zb2_some, nI_le_t, nI_le_f, nI_lt_t, nI_lt_f, nI_eq_t, nI_eq_f, nI_m1, nI_em1, ↓reduceIte, Nat.add_zero, hK.1.1, hK.1.g3, hS.1.es, hS.1.en, hK.2.1.g9 hK.1.1, hK.1.g1, l1]
    rfl
theorem k_paste {t : Nat} (hC : CI h x A) (hA : AI t A) (ht : t < 9000) (v w : Int32) : CO h x (fX6_paste h x v w) (pasteS A v w) [xI, xS] := by
  obtain ⟨b, d, hK, hN⟩ := id hC
  obtain ⟨a1, hO, ⟨a3, a3t⟩, a4, a5, a6⟩ := id hA
  have n8 := hO.1.1
  have n20 := hO.1.2.1
  have n6 := hO.2.2.1
  have c12 := a3.1.1
  have tr := atg_rok a3 n20
  have tt : atg A 1 = aρ A 1 := ntg_h (by omega)
  have t0 : atg A 0 = aρ A 0 := ntg_h (by omega)
  have tj : ∀ j, j < 24 → atg A j = aρ A j := fun j hj => ntg_h hj
  obtain ⟨qa, qb⟩ := q_E (v := v) hK hN
  obtain ⟨na, nb⟩ := q_P (v := w) hK
  unfold pasteS
  by_cases c1 : outI v (aρ A 0)
  · rw [if_pos c1]
    refine CO_no hA (by omega) (by decide) hC ?_
    unfold fX6_paste
    simp (disch := first | assumption | (simp only [sI_kd, sP_kd, rw_kd, sI_ln, sP_ln, rw_ln] <;> first | assumption | omega) | omega) only [nl, nI_add, pk_mul, Option.bind_some, zb2_some, nI_le_t, nI_le_f, nI_lt_t, nI_lt_f, nI_eq_t, nI_eq_f, nI_m1, nI_em1, ↓reduceIte, Nat.add_zero, hK.1.1, qa c1, zb4_some]
    rfl
  · rw [if_neg c1]
    obtain ⟨e, f1, f2, f3⟩ := in_f (by omega) c1
    by_cases c2 : outI w (anp A)
    · rw [if_pos c2]
      refine CO_no hA (by omega) (by decide) hC ?_
      unfold fX6_paste
      simp (disch := first | assumption | (simp only [sI_kd, sP_kd, rw_kd, sI_ln, sP_ln, rw_ln] <;> first | assumption | omega) | omega) only [nl, nI_add, pk_mul, Option.bind_some, zb2_some, nI_le_t, nI_le_f, nI_lt_t, nI_lt_f, nI_eq_t, nI_eq_f, nI_m1, nI_em1, ↓reduceIte, Nat.add_zero, hK.1.1, qb c1, zb4_none, na c2, zb4_some]
      rfl
    · rw [if_neg c2]
      obtain ⟨p, p1, p2, p3⟩ := in_f (by omega) c2
      rw [f3, p3]
      have S0' : SR false h (x + 78) (anc A) (atg A) := SR_tg (k := aρ A 0) n20 hN.2.2.1
      obtain ⟨wa, wb⟩ := c_way (q := x + 78) (e := e) (p := p) hK hN hA S0' (by omega) tr (fun c hc => tj (4 + c) (by omega)) (by omega) p1
      cases hw : away A (atg A) e p with
      | none =>
        obtain ⟨h1, l1, l2⟩ := wa hw
        have l1' : fX6_findWay h x (x + 78) v w = some (nI 0, h1) := by rw [f2, p2]; exact l1
        obtain ⟨K1, N1⟩ := CI_way hK hN hA l2.fr
        refine CO_no2 hA (by omega) (by decide) ⟨b, d, K1, N1⟩ (l2.fr.wd (by omega) (by omega)) ?_
        unfold fX6_paste
        simp (disch := first | assumption | (simp only [sI_kd, sP_kd, rw_kd, sI_ln, sP_ln, rw_ln] <;> first | assumption | omega) | omega) only [nl, nI_add, pk_mul, Option.bind_some, zb2_some, nI_le_t, nI_le_f, nI_lt_t, nI_lt_f, nI_eq_t, nI_eq_f, nI_m1, nI_em1, ↓reduceIte, Nat.add_zero, hK.1.1, qb c1, zb4_none, nb c2, hK.1.g4, l1']
        rfl
      | some u =>
        obtain ⟨h1, l1, l2, l3⟩ := wb u hw
        have l1' : fX6_findWay h x (x + 78) v w = some (nI 1, h1) := by rw [f2, p2]; exact l1
        obtain ⟨K1, N1⟩ := CI_way hK hN hA l3.fr
        have hw' : nway (afr A) (att A) (agr A) (alo A) (aac A) (ali A) (anc A) (anf A) (atg A) e p = some u := hw
        obtain ⟨u1, u2, u3, u4, u5⟩ := nway_ok hO tr.2.2.1 (tr.1.2.2.2.2 e (by omega)) hw'
        obtain ⟨k1, k2⟩ := rok_paste hO tr (by omega) (show e < atg A 0 by omega) hw'
        obtain ⟨h9, b', d', e1, e2, e3, e4, g4, g3, -, S9, e5⟩ := c_now ⟨b, d, K1, N1⟩ hA
        have W9 : WR h9 (x + 77) u := by
          unfold WR
          rw [e5 (x + 77) (by omega) (by omega), e4.1]
          exact l2
        obtain ⟨h12, r1, r2, r3⟩ := c_use (fw := x + 77) S9 n20 tr.1 (by omega) (show e < atg A 0 by omega) W9 (by omega) (by omega) u4
        obtain ⟨C, F, g4'⟩ := c_put hA e2 e3 r3 r2 (fun j h1 h2 => by rw [cs_paste tr.1 (by omega) (by omega) h1 h2, tj j h2])
        have r1' : fX3_useEntry h9 (x + 78) v (x + 77) = some h12 := by rw [f2]; exact r1
        have g3' : zgP h12 6 x 3 = some (x + 77) := by
          obtain ⟨b2, d2, K2, N2⟩ := id C
          exact K2.1.g3
        have g2' : zgI h12 5 (x + 77) 2 = some (nI u.2.2.1) := by
          obtain ⟨b2, d2, K2, N2⟩ := id C
          rw [gI_ K2.1.2.2.2.2.2.1, (r3.2.2.2 (x + 77) (by omega)).1]
          exact congrArg some W9.2.2.2.1
        refine CO_ok ?_ C ((l3.fr.wd (by omega) (by omega)).tr (e4.tr F))
        unfold fX6_paste
        simp (disch := first | assumption | (simp only [sI_kd, sP_kd, rw_kd, sI_ln, sP_ln, rw_ln] <;> first | assumption | omega) | omega) only [nl, nI_add, pk_mul, Option.bind_some, zb2_some, nI_le_t, nI_le_f, nI_lt_t, nI_lt_f, nI_eq_t, nI_eq_f, nI_m1, nI_em1, ↓reduceIte, Nat.add_zero, hK.1.1, qb c1, zb4_none, nb c2, hK.1.g4, l1', e1, g4, g3, r1', g3', g2']
theorem k_pin {t : Nat} (hC : CI h x A) (hA : AI t A) (v : Int32) : CO h x (fX6_togglePin h x v) (pinS A v) [xI] := by
  obtain ⟨b, d, hK, hN⟩ := id hC
  obtain ⟨a1, hO, ⟨a3, a3t⟩, a4, a5, a6⟩ := id hA
  have n20 := hO.1.2.1
  have c12 := a3.1.1
  obtain ⟨qa, qb⟩ := q_E (v := v) hK hN
  unfold pinS
  by_cases c1 : outI v (aρ A 0)
  · rw [if_pos c1]
    refine CO_no hA (by omega) (by decide) hC ?_
    unfold fX6_togglePin
    simp (disch := first | assumption | (simp only [sI_kd, sP_kd, rw_kd, sI_ln, sP_ln, rw_ln] <;> first | assumption | omega) | omega) only [nl, nI_add, pk_mul, Option.bind_some, zb2_some, nI_le_t, nI_le_f, nI_lt_t, nI_lt_f, nI_eq_t, nI_eq_f, nI_m1, nI_em1, ↓reduceIte, Nat.add_zero, hK.1.1, qa c1, zb4_some]
    rfl
  · rw [if_neg c1]
    obtain ⟨e, f1, f2, f3⟩ := in_f (by omega) c1
    rw [f3]
    obtain ⟨h9, b', d', e1, e2, e3, e4, g4, g3, S9, -, e5⟩ := c_now hC hA
    obtain ⟨h5, p1, p2, p3⟩ := c_pin S9 n20 a3.1 f1
    obtain ⟨C, F, g4'⟩ := c_put hA e2 e3 p3.fr p2 (fun j h1 h2 => up_b (by omega))
    have k1 := rok_pin a3 n20 f1
    have pc := c_pinned p2 k1.1
    have e0 : va_up (aρ A) (24 + 28 * e + 24) (1 - aρ A (24 + 28 * e + 24)) 0 = aρ A 0 := up_b (by omega)
    rw [e0] at pc
    have p1' : fX3_switchPin h9 (x + 78) v = some h5 := by rw [f2]; exact p1
    refine CO_ok ?_ C (e4.tr F)
    unfold fX6_togglePin
    simp (disch := first | assumption | (simp only [sI_kd, sP_kd, rw_kd, sI_ln, sP_ln, rw_ln] <;> first | assumption | omega) | omega) only [nl, nI_add, pk_mul, Option.bind_some, zb2_some, nI_le_t, nI_le_f, nI_lt_t, nI_lt_f, nI_eq_t, nI_eq_f, nI_m1, nI_em1, ↓reduceIte, Nat.add_zero, hK.1.1, qb c1, zb4_none, e1, g4, p1', g4', pc]
theorem k_rem {t : Nat} (hC : CI h x A) (hA : AI t A) (v : Int32) : CO h x (fX6_remove h x v) (remS A v) [xI] := by
  obtain ⟨b, d, hK, hN⟩ := id hC
  obtain ⟨a1, hO, ⟨a3, a3t⟩, a4, a5, a6⟩ := id hA
  have n20 := hO.1.2.1
  have c12 := a3.1.1
  obtain ⟨qa, qb⟩ := q_E (v := v) hK hN
  unfold remS
  by_cases c1 : outI v (aρ A 0)
  · rw [if_pos c1]
    refine CO_no hA (by omega) (by decide) hC ?_
    unfold fX6_remove
    simp (disch := first | assumption | (simp only [sI_kd, sP_kd, rw_kd, sI_ln, sP_ln, rw_ln] <;> first | assumption | omega) | omega) only [nl, nI_add, pk_mul, Option.bind_some, zb2_some, nI_le_t, nI_le_f, nI_lt_t, nI_lt_f, nI_eq_t, nI_eq_f, nI_m1, nI_em1, ↓reduceIte, Nat.add_zero, hK.1.1, qa c1, zb4_some]
    rfl
  · rw [if_neg c1]
    obtain ⟨e, f1, f2, f3⟩ := in_f (by omega) c1
    rw [f3]
    obtain ⟨h9, b', d', e1, e2, e3, e4, g4, g3, S9, -, e5⟩ := c_now hC hA
    obtain ⟨h5, p1, p2, p3⟩ := c_dropEntry S9 n20 c12 f1
    obtain ⟨C, F, g4'⟩ := c_put hA e2 e3 p3 p2 (fun j h1 h2 => by rw [ndrop_hd f1 h2, if_neg (by omega)])
    refine CO_ok ?_ C (e4.tr F)
    subst f2
    unfold fX6_remove
    simp (disch := first | assumption | (simp only [sI_kd, sP_kd, rw_kd, sI_ln, sP_ln, rw_ln] <;> first | assumption | omega) | omega) only [nl, nI_add, pk_mul, Option.bind_some, zb2_some, nI_le_t, nI_le_f, nI_lt_t, nI_lt_f, nI_eq_t, nI_eq_f, nI_m1, nI_em1, ↓reduceIte, Nat.add_zero, hK.1.1, qb c1, zb4_none, e1, g4, S9.1.es, S9.1.en, S9.e4 c12, p1]
end CACT2
