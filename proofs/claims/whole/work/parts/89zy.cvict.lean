/-! pure: the component's victims -/
theorem bsm_cmp {p : Nat → Bool} {n : Nat} (hn : n < 31) : nI (2 ^ n - 1) &&& (nI (bsm p n) ^^^ nI 4294967295) = nI (bsm (fun i => !p i) n) := by
  rw [← bsm_true, nI_xor, nI_and]
  congr 1
  refine Nat.eq_of_testBit_eq fun i => ?_
  rw [Nat.testBit_and, Nat.testBit_xor, bsm_tb, bsm_tb, bsm_tb, show 4294967295 = 2 ^ 32 - 1 from rfl, Nat.testBit_two_pow_sub_one]
  by_cases c : i < n
  · rw [decide_eq_true c, decide_eq_true (show i < 32 by omega)]
    simp
  · rw [decide_eq_false c]
    simp
section CVICT
variable {h h' : zH} {x b d : Nat} {A : zSt}
/-- the trial changes -/
theorem CI_trial {t : Nat} (hK : CK h x b d A) (hN : CN h x A) (hA : AI t A) (f : Fr (x + 117) (x + 117 + 39) h h') (hs : SSh h' (x + 117)) : CK h' x b d A ∧ CN h' x A := by
  obtain ⟨n1, n2, n3, n4⟩ := hN
  exact ⟨CK_fr hA f (Or.inl ⟨by omega, by omega⟩) hK, PF_fr f (by omega) hA.2.1.1.1 n1, PSh_fr f (by omega) n2, SR_fr f (by omega) n3 hA.2.2.1.1.1.1, hs⟩
theorem ts_L {q nc k : Nat} {ρ : zN'} (hS : SR true h q nc ρ) (hc : ρ 0 ≤ 12) (hk : k ≤ 12) (h0 : ρ 0 ≠ 0 → ρ (24 + 27) = 4294967287) (ht : ∀ e, 1 ≤ e → e < ρ 0 → ρ (24 + 28 * e + 27) < k) : ∀ n' e n, e + n' = ρ 0 → n' < n → fX3_tagSet_L4 (fun h1 y2 y3 => some (y2, h1)) q n h (nI (bsm (fun i => !vfr ρ e i) k)) (nI e) = some (nI (bsm (fun i => !vfr ρ (ρ 0) i) k), h) := by
  intro n'
  induction n' with
  | zero =>
    intro e n hf hn
    obtain ⟨n, rfl⟩ := fuel1 hn
    have e8 : e = ρ 0 := by omega
    rw [fX3_tagSet_L4, e8]
    simp (disch := first | assumption | (simp only [sI_kd, sP_kd, rw_kd, sI_ln, sP_ln, rw_ln] <;> first | assumption | omega) | omega) only [nl, nI_add, pk_mul, Option.bind_some, zb2_some, nI_le_t, nI_le_f, nI_lt_t, nI_lt_f, nI_eq_t, nI_eq_f, nI_m1, nI_em1, ↓reduceIte, Nat.add_zero, hS.cn]
  | succ n' ih =>
    intro e n hf hn
    obtain ⟨n, rfl⟩ := fuel1 hn
    have i1 := ih (e + 1) n (by omega) (by omega)
    have en := hS.1.en (i := e) (by omega)
    have ek := hS.1.ek (i := e) (by omega)
    have tg := (hS.er (i := e) (by omega)).2.2.2.2.2.2.2 rfl
    have gt : zgI h 1 (zP h (q + 1) e) 8 = some (ttg (ρ (24 + 28 * e + 27))) := by rw [gI_ ek, tg]
    rw [fX3_tagSet_L4]
    by_cases c : e = 0
    · have t0 : ttg (ρ (24 + 28 * e + 27)) = nI 4294967295 := by
        rw [c]
        show ttg (ρ (24 + 27)) = _
        rw [h0 (by omega)]
        rfl
      rw [t0] at gt
      have ev : bsm (fun i => !vfr ρ (e + 1) i) k = bsm (fun i => !vfr ρ e i) k := bsm_congr fun i _ => by
        show (!(vfr ρ e i && (decide (e = 0) || !decide (i = ρ (24 + 28 * e + 27))))) = _
        rw [decide_eq_true c, Bool.true_or, Bool.and_true]
      rw [ev] at i1
      simp (disch := first | assumption | (simp only [sI_kd, sP_kd, rw_kd, sI_ln, sP_ln, rw_ln] <;> first | assumption | omega) | omega) only [nl, nI_add, pk_mul, Option.bind_some, zb2_some, nI_le_t, nI_le_f, nI_lt_t, nI_lt_f, nI_eq_t, nI_eq_f, nI_m1, nI_em1, ↓reduceIte, Nat.add_zero, hS.cn, hS.1.es, en, gt]
      exact i1
    · have tk := ht e (by omega) (by omega)
      have t0 : ttg (ρ (24 + 28 * e + 27)) = nI (ρ (24 + 28 * e + 27)) := if_neg (by omega)
      rw [t0] at gt
      have sb := shl_bit (ρ (24 + 28 * e + 27)) (by omega)
      have ob : nI (bsm (fun i => !vfr ρ e i) k) ||| nI (2 ^ ρ (24 + 28 * e + 27)) = nI (bsm (fun i => !vfr ρ (e + 1) i) k) := by
        rw [nI_or, bsm_or tk]
        congr 1
        refine bsm_congr fun i _ => ?_
        show (!vfr ρ e i || decide (i = ρ (24 + 28 * e + 27))) = !(vfr ρ e i && (decide (e = 0) || !decide (i = ρ (24 + 28 * e + 27))))
        rw [decide_eq_false c, Bool.false_or, Bool.not_and, Bool.not_not]
      simp (disch := first | assumption | (simp only [sI_kd, sP_kd, rw_kd, sI_ln, sP_ln, rw_ln] <;> first | assumption | omega) | omega) only [nl, nI_add, pk_mul, Option.bind_some, zb2_some, nI_le_t, nI_le_f, nI_lt_t, nI_lt_f, nI_eq_t, nI_eq_f, nI_m1, nI_em1, ↓reduceIte, Nat.add_zero, hS.cn, hS.1.es, en, gt, sb, ob]
      exact i1
theorem k_vct {t : Nat} (hC : CI h x A) (hA : AI t A) (ht : t < 9000) (v : Int32) : CO h x (fX6_victims h x v) (vicS A v) [xA] := by
  obtain ⟨b, d, hK, hN⟩ := id hC
  obtain ⟨a1, hO, ⟨a3, a3t⟩, a4, a5, a6⟩ := id hA
  have k1 := hK.1
  have n8 := hO.1.1
  have n20 := hO.1.2.1
  have n1 := hO.2.1
  have c12 := a3.1.1
  have tr := atg_rok a3 n20
  have tt : atg A 1 = aρ A 1 := ntg_h (by omega)
  have t0 : atg A 0 = aρ A 0 := ntg_h (by omega)
  obtain ⟨na, nb⟩ := q_N (h := h) (v := v)
  unfold vicS
  by_cases c2 : newSz v
  · rw [if_neg (fun z => z c2)]
    obtain ⟨s, b1, b2, b3, b4⟩ := in_sz c2
    rw [b4]
    have S0 : SR false h (x + 78) (anc A) (atg A) := SR_tg (k := aρ A 0) n20 hN.2.2.1
    have cn := c_can (f := 0) (b := s) S0 tr.1 (by omega) b2
    have nb' := nb c2
    subst b3
    unfold vicV
    cases hc : ncopy (atg A) 0 s with
    | none =>
      rw [hc] at cn
      have cn' : fX3_canAddEntry h (x + 78) (nI s) = some (nI 0, h) := cn
      refine CO_get hC ?_
      unfold fX6_victims
      simp (disch := first | assumption | (simp only [sI_kd, sP_kd, rw_kd, sI_ln, sP_ln, rw_ln] <;> first | assumption | omega) | omega) only [nl, nI_add, pk_mul, Option.bind_some, zb2_some, nI_le_t, nI_le_f, nI_lt_t, nI_lt_f, nI_eq_t, nI_eq_f, nI_m1, nI_em1, ↓reduceIte, Nat.add_zero, k1.1, nb', zb4_none, k1.g4, cn']
      rfl
    | some ρ' =>
      rw [hc] at cn
      have cn' : fX3_canAddEntry h (x + 78) (nI s) = some (nI 1, h) := cn
      obtain ⟨r1, r2, r3⟩ := rok_copy tr n20 (by omega) (show 0 < anf A by omega) n8 ⟨b1, b2⟩ hc
      obtain ⟨h9, p1, p2, p3⟩ := c_take hN.2.2.2 S0 n20 tr.1 (Or.inr (by omega))
      obtain ⟨h11, u1, u2, u3⟩ := c_tags p2 tr.1.1 (fun i hi => by rw [t0] at hi; exact ntg_t _ hi)
      obtain ⟨h13, w1, w2, w3⟩ := c_addEntry u2 n20 tr.1 (by omega) (show 0 < 8 by omega) b2 hc
      have K9 := (CI_trial hK hN hA p3.fr p2.1).1
      have K11 := (CI_trial hK hN hA (p3.tr u3).fr u2.1).1
      obtain ⟨K13, N13⟩ := CI_trial hK hN hA ((p3.tr u3).fr.tr w3) w2.1
      have tb : tbk (aρ A 0) (atg A) := fun e he => by
        rw [t0] at he
        unfold atg
        rw [ntg_t _ he]
        exact he
      have tc := tbk_copy tb (by omega) hc
      have tz : ρ' 0 ≠ 0 → ρ' (24 + 27) = 4294967287 := fun _ => by
        unfold ncopy at hc
        obtain ⟨r3, -, hr⟩ := Option.map_eq_some_iff.mp hc
        rw [← hr]
        exact (ncpf_en (ρ := r3) (f := 0) (b := s) (i := 0) (k := 27) (by omega) (by omega)).trans (by rw [if_pos rfl, if_neg (by omega), if_neg (by omega), if_neg (by omega), if_pos rfl])
      have lp := ts_L w2 r1.1.1 c12 tz tc (ρ' 0) 0 zF (by omega) (by have := r1.1.1; unfold zF; omega)
      have z0 : bsm (fun i => !vfr ρ' 0 i) (aρ A 0) = 0 := nsum_zero fun j _ => if_neg (fun q => by cases q)
      rw [z0] at lp
      have ts : fX3_tagSet h13 (x + 117) = some (nI (bsm (fun i => !vfr ρ' (ρ' 0) i) (aρ A 0)), h13) := by
        unfold fX3_tagSet
        rw [if_pos w2.1.1]
        exact lp
      have sb := shl_bit (aρ A 0) (by omega)
      have p1' : 1 ≤ 2 ^ aρ A 0 := Nat.one_le_two_pow
      have sb2 : nI (2 ^ aρ A 0) - nI 1 = nI (2 ^ aρ A 0 - 1) := pk_sub p1'
      have bc := bsm_cmp (p := fun i => !vfr ρ' (ρ' 0) i) (n := aρ A 0) (by omega)
      have bn : bsm (fun i => !!vfr ρ' (ρ' 0) i) (aρ A 0) = bsm (vfr ρ' (ρ' 0)) (aρ A 0) := bsm_congr fun i _ => Bool.not_not _
      rw [bn] at bc
      refine CO_ok ?_ ⟨b, d, K13, N13⟩ (((p3.tr u3).fr.tr w3).wd (by omega) (by omega))
      unfold fX6_victims
      simp (disch := first | assumption | (simp only [sI_kd, sP_kd, rw_kd, sI_ln, sP_ln, rw_ln] <;> first | assumption | omega) | omega) only [nl, nI_add, pk_mul, Option.bind_some, zb2_some, nI_le_t, nI_le_f, nI_lt_t, nI_lt_f, nI_eq_t, nI_eq_f, nI_m1, nI_em1, ↓reduceIte, Nat.add_zero, k1.1, nb', zb4_none, k1.g4, cn', k1.g5, p1, K9.1.g5, u1, K11.1.g5, w1, K13.1.g4, N13.2.2.1.cn, K13.1.g5, ts, sb, sb2, bc]
  · rw [if_pos c2]
    refine CO_no hA (by omega) (by decide) hC ?_
    unfold fX6_victims
    simp (disch := first | assumption | (simp only [sI_kd, sP_kd, rw_kd, sI_ln, sP_ln, rw_ln] <;> first | assumption | omega) | omega) only [nl, nI_add, pk_mul, Option.bind_some, zb2_some, nI_le_t, nI_le_f, nI_lt_t, nI_lt_f, nI_eq_t, nI_eq_f, nI_m1, nI_em1, ↓reduceIte, Nat.add_zero, k1.1, na c2, zb4_some]
    rfl
end CVICT
