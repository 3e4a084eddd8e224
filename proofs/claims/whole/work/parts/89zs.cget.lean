/-! pure: the component's text and numbers -/
/-- the component answers so, without a throw -/
def CP (h : zH) (x : Nat) (r : Option (Int32 × zH)) (S : zAn) : Prop := S.1 = 0 ∧ ∃ h', r = some (S.2.1, h') ∧ CI h' x S.2.2 ∧ Fr x (x + 801) h h'
theorem out_ne {y : Int32} {n k : Nat} (h : outI y n) (hk : k < n) (hn : n < 2 ^ 31) : (y = nI k) = False := eq_false fun e => by
  rw [e] at h
  rcases h with z | z
  · exact absurd ((nI_ltI (b := 0) (by omega) (by omega)).mp z) (by omega)
  · exact absurd ((nI_leI (by omega) (by omega)).mp z) (by omega)
section CGET
variable {h h' : zH} {x b d : Nat} {A : zSt}
/-- the text's cells change -/
theorem CK_txt {t : Nat} {A' : zSt} (hK : CK h x b d A) (hA : AI t A) (e2 : A'.2 = A.2) (f : Fr (x + 1) (x + 3) h h') (fp : zP h' = zP h) (ht : zI h' (x + 1) 1 = nI (an A') ∧ ∀ i, i < an A' → zI h' (x + 2) i = nI (aT A' i)) : CK h' x b d A' := by
  obtain ⟨k1, k2, k3, k4, ⟨k5, k5'⟩, k6, k7⟩ := hK
  obtain ⟨c1, c2⟩ := AI_hc hA
  have bd := k2.bd
  obtain ⟨T', R'⟩ := A'
  have e3 : R' = A.2 := e2
  subst e3
  have s : CSt h' x := by
    obtain ⟨s1, s2, s3, s4, s5, s6, ⟨s7, s8, s9⟩, s10⟩ := k1
    unfold CSt CSh
    rw [f.1, f.2.1, fp]
    exact ⟨s1, s2, s3, s4, s5, s6, ⟨s7, s8, s9⟩, s10⟩
  refine ⟨s, ?_, ?_, ht, ⟨BR_fr f (by omega) k5, BSh_fr f (by omega) k5'⟩, CMm_fr f (by omega) c1 hA.2.2.2.1 k6, CSl_fr f (by omega) c2 k7⟩
  · unfold CBa
    rw [fp]
    exact k2
  · rw [(f.2.2.2 x (by omega)).1]
    exact k3
theorem k_app {t : Nat} (hC : CI h x A) (hA : AI t A) (v : Int32) : CO h x (fX6_append h x v) (appS A v) [xA, xS] := by
  obtain ⟨b, d, hK, hN⟩ := id hC
  have k1 := hK.1
  have ks := hK.1.2.2.2.2.2.2.1
  have k4 := hK.2.2.2.1
  have t1 := hA.1.1
  have gl : zgI h 4 (x + 1) 1 = some (nI (an A)) := by rw [gI_ ks.1, k4.1]
  unfold appS
  by_cases c1 : outI v 256
  · rw [if_pos c1]
    refine CO_no hA (by omega) (by decide) hC ?_
    unfold fX6_append
    rw [if_pos k1.1]
    by_cases c2 : v < 0
    · rw [if_pos c2]; rfl
    · rw [if_neg c2, if_neg (fun z => by
        have q := c1.resolve_left c2
        have := Int32.le_trans q z
        exact absurd this (by decide))]
      rfl
  · rw [if_neg c1]
    obtain ⟨c, f1, f2, f3⟩ := in_f (by omega) c1
    rw [f3]
    by_cases c2 : an A = 160
    · rw [if_pos c2]
      rw [c2] at gl
      have fu : fX4_isFull h (x + 1) = some (nI 1, h) := by
        unfold fX4_isFull
        simp (disch := first | assumption | (simp only [sI_kd, sP_kd, rw_kd, sI_ln, sP_ln, rw_ln] <;> first | assumption | omega) | omega) only [nl, nI_add, pk_mul, Option.bind_some, zb2_some, nI_le_t, nI_le_f, nI_lt_t, nI_lt_f, nI_eq_t, nI_eq_f, nI_m1, nI_em1, ↓reduceIte, Nat.add_zero, ks.1, gl]
      refine CO_no hA (by omega) (by decide) hC ?_
      subst f2
      unfold fX6_append
      simp (disch := first | assumption | (simp only [sI_kd, sP_kd, rw_kd, sI_ln, sP_ln, rw_ln] <;> first | assumption | omega) | omega) only [nl, nI_add, pk_mul, Option.bind_some, zb2_some, nI_le_t, nI_le_f, nI_lt_t, nI_lt_f, nI_eq_t, nI_eq_f, nI_m1, nI_em1, ↓reduceIte, Nat.add_zero, k1.1, k1.g0, fu]
      rfl
    · rw [if_neg c2]
      have fu : fX4_isFull h (x + 1) = some (nI 0, h) := by
        unfold fX4_isFull
        simp (disch := first | assumption | (simp only [sI_kd, sP_kd, rw_kd, sI_ln, sP_ln, rw_ln] <;> first | assumption | omega) | omega) only [nl, nI_add, pk_mul, Option.bind_some, zb2_some, nI_le_t, nI_le_f, nI_lt_t, nI_lt_f, nI_eq_t, nI_eq_f, nI_m1, nI_em1, ↓reduceIte, Nat.add_zero, ks.1, gl]
      have gs : zgP h 4 (x + 1) 0 = some (x + 1 + 1) := gP_ ks.1 ks.2.1 (by omega)
      have wr : zbI h (x + 1 + 1) (nI (an A)) (nI c) = some (zsI h (x + 1 + 1) (an A) (nI c)) := bI_ ks.2.2.1 (by rw [ks.2.2.2]; omega) (by rw [ks.2.2.2]; omega)
      have g2 : zgI (zsI h (x + 1 + 1) (an A) (nI c)) 4 (x + 1) 1 = some (nI (an A)) := by
        rw [gI_ (h := zsI h (x + 1 + 1) (an A) (nI c)) ks.1, sI_a (by omega), k4.1]
      have w2 : zpI (zsI h (x + 1 + 1) (an A) (nI c)) 4 (x + 1) 1 (nI (an A + 1)) = some (zsI (zsI h (x + 1 + 1) (an A) (nI c)) (x + 1) 1 (nI (an A + 1))) := pI_ ks.1
      have ad : fX4_addSign h (x + 1) (nI c) = some (zsI (zsI h (x + 1 + 1) (an A) (nI c)) (x + 1) 1 (nI (an A + 1))) := by
        unfold fX4_addSign
        simp (disch := first | assumption | (simp only [sI_kd, sP_kd, rw_kd, sI_ln, sP_ln, rw_ln] <;> first | assumption | omega) | omega) only [nl, nI_add, pk_mul, Option.bind_some, zb2_some, nI_le_t, nI_le_f, nI_lt_t, nI_lt_f, nI_eq_t, nI_eq_f, nI_m1, nI_em1, ↓reduceIte, Nat.add_zero, ks.1, fu, gs, gl, wr, g2, w2]
      have F : Fr (x + 1) (x + 3) h (zsI (zsI h (x + 1 + 1) (an A) (nI c)) (x + 1) 1 (nI (an A + 1))) := (FrI.sI (by omega) (by omega)).fr.tr (FrI.sI (by omega) (by omega)).fr
      have g3 : zgI (zsI (zsI h (x + 1 + 1) (an A) (nI c)) (x + 1) 1 (nI (an A + 1))) 4 (x + 1) 1 = some (nI (an A + 1)) := by
        rw [gI_ (h := zsI (zsI h (x + 1 + 1) (an A) (nI c)) (x + 1) 1 (nI (an A + 1))) ks.1, sI_at]
      have K' : CK (zsI (zsI h (x + 1 + 1) (an A) (nI c)) (x + 1) 1 (nI (an A + 1))) x b d (atext A c) := by
        refine CK_txt hK hA rfl F rfl ⟨sI_at, fun i hi => ?_⟩
        have hi : i < an A + 1 := hi
        show zI (zsI (zsI h (x + 1 + 1) (an A) (nI c)) (x + 1) 1 (nI (an A + 1))) (x + 2) i = nI (va_up (aT A) (an A) c i)
        rw [sI_a (by omega)]
        by_cases q : i = an A
        · rw [q, up_at]
          exact sI_at
        · rw [sI_k q, up_b q]
          exact k4.2 i (by omega)
      have N' : CN (zsI (zsI h (x + 1 + 1) (an A) (nI c)) (x + 1) 1 (nI (an A + 1))) x A := CN_fr hA F (by omega) hN
      refine CO_ok ?_ ⟨b, d, K', N'⟩ (F.wd (by omega) (by omega))
      subst f2
      unfold fX6_append
      simp (disch := first | assumption | (simp only [sI_kd, sP_kd, rw_kd, sI_ln, sP_ln, rw_ln] <;> first | assumption | omega) | omega) only [nl, nI_add, pk_mul, Option.bind_some, zb2_some, nI_le_t, nI_le_f, nI_lt_t, nI_lt_f, nI_eq_t, nI_eq_f, nI_m1, nI_em1, ↓reduceIte, Nat.add_zero, k1.1, k1.g0, fu, ad, K'.1.g0, g3]
theorem k_clr {t : Nat} (hC : CI h x A) (hA : AI t A) : CP h x (fX6_clearText h x) (clrS A) := by
  obtain ⟨b, d, hK, hN⟩ := id hC
  have k1 := hK.1
  have ks := hK.1.2.2.2.2.2.2.1
  have k4 := hK.2.2.2.1
  have gl : zgI h 4 (x + 1) 1 = some (nI (an A)) := by rw [gI_ ks.1, k4.1]
  have w : zpI h 4 (x + 1) 1 (nI 0) = some (zsI h (x + 1) 1 (nI 0)) := pI_ ks.1
  have F : Fr (x + 1) (x + 3) h (zsI h (x + 1) 1 (nI 0)) := (FrI.sI (by omega) (by omega)).fr
  have K' : CK (zsI h (x + 1) 1 (nI 0)) x b d ((aT A, 0), A.2) := CK_txt hK hA rfl F rfl ⟨sI_at, fun i hi => absurd hi (Nat.not_lt_zero _)⟩
  have N' : CN (zsI h (x + 1) 1 (nI 0)) x A := CN_fr hA F (by omega) hN
  refine ⟨rfl, zsI h (x + 1) 1 (nI 0), ?_, ⟨b, d, K', N'⟩, F.wd (by omega) (by omega)⟩
  unfold fX6_clearText
  simp (disch := first | assumption | (simp only [sI_kd, sP_kd, rw_kd, sI_ln, sP_ln, rw_ln] <;> first | assumption | omega) | omega) only [nl, nI_add, pk_mul, Option.bind_some, zb2_some, nI_le_t, nI_le_f, nI_lt_t, nI_lt_f, nI_eq_t, nI_eq_f, nI_m1, nI_em1, ↓reduceIte, Nat.add_zero, k1.1, k1.g0, gl, w]
  rfl
/-- reading the text changes the draft and the reader's place -/
theorem CI_read {t : Nat} (hK : CK h x b d A) (hN : CN h x A) (hA : AI t A) (f : CTF (x + 1) d h h') : CK h' x b d A ∧ CN h' x A ∧ Fr x (x + 801) h h' := by
  obtain ⟨f1, f2, f3, f4, f5, f6⟩ := f
  obtain ⟨k1, k2, k3, k4, ⟨k5, k5'⟩, k6, k7⟩ := id hK
  obtain ⟨c1, c2⟩ := AI_hc hA
  have bd := k2.bd
  obtain ⟨n1, n2, n3, n4⟩ := id hN
  let g : zH := (zkd h, zln h, fun a => if d ≤ a ∧ a < d + 9 then zI h a else zI h' a, zJ h, zP h, zn h)
  have F1 : Fr (x + 1) (x + 3) h g := ⟨rfl, rfl, rfl, fun a ha => ⟨by
    show (if d ≤ a ∧ a < d + 9 then zI h a else zI h' a) = zI h a
    by_cases c : d ≤ a ∧ a < d + 9
    · rw [if_pos c]
    · rw [if_neg c]; exact f5 a (by omega) (by omega), rfl⟩⟩
  have g1 : zI g (x + 1) = zI h' (x + 1) := if_neg (by omega)
  have g2 : zI g (x + 2) = zI h' (x + 2) := if_neg (by omega)
  have Kg : CK g x b d A := CK_txt hK hA rfl F1 rfl ⟨by rw [g1, f6 1 (by omega)]; exact k4.1, fun i hi => by rw [g2, f5 (x + 2) (by omega) (by omega)]; exact k4.2 i hi⟩
  have Ng : CN g x A := CN_fr hA F1 (by omega) hN
  have F2 : Fr d (d + 9) g h' := ⟨f1, f2, f3, fun a ha => ⟨by
    show zI h' a = (if d ≤ a ∧ a < d + 9 then zI h a else zI h' a)
    rw [if_neg (by omega)], by rw [f4]; rfl⟩⟩
  obtain ⟨q1, q2, q3, q4, ⟨q5, q5'⟩, q6, q7⟩ := Kg
  refine ⟨⟨?_, ?_, ?_, ?_, ⟨BR_fr F2 (by omega) q5, ?_⟩, CMm_fr F2 (by omega) c1 hA.2.2.2.1 q6, CSl_fr F2 (by omega) c2 q7⟩, CN_fr hA F2 (by omega) Ng, ⟨f1, f2, f3, fun a ha => ⟨f5 a (by omega) (by omega), by rw [f4]⟩⟩⟩
  · obtain ⟨s1, s2, s3, s4, s5, s6, ⟨s7, s8, s9⟩, s10⟩ := k1
    unfold CSt CSh
    rw [f1, f2, f4]
    exact ⟨s1, s2, s3, s4, s5, s6, ⟨s7, s8, s9⟩, s10⟩
  · unfold CBa; rw [f4]; exact k2
  · rw [f5 x (by omega) (by omega)]; exact k3
  · rw [f6 1 (by omega), f5 (x + 2) (by omega) (by omega)]; exact k4
  · unfold BSh
    rw [f1, f2, f4]
    exact k5'
theorem k_err {t : Nat} (hC : CI h x A) (hA : AI t A) : CP h x (fX6_errorPosition h x) (errS A) := by
  obtain ⟨b, d, hK, hN⟩ := id hC
  have k1 := hK.1
  have k4 := hK.2.2.2.1
  have bd := hK.2.1.bd
  obtain ⟨s, hs⟩ := any_nI (zI h (x + 1) 2)
  have X : CX h (x + 1) (aT A) (an A) s := ⟨k1.2.2.2.2.2.2.1, k4.1, hs, k4.2⟩
  have R := k_text (d := d) X hA.1 hK.2.2.2.2.1.2 (Or.inl (by omega))
  have key : ∀ v h2, fX4_readInto h (x + 1) d = some (v, h2) → CTF (x + 1) d h h2 → v = errV A → CP h x (fX6_errorPosition h x) (errS A) := fun v h2 e1 e2 e3 => by
    obtain ⟨r1, r2, r3⟩ := CI_read hK hN hA e2
    refine ⟨rfl, h2, ?_, ⟨b, d, r1, r2⟩, r3⟩
    subst e3
    unfold fX6_errorPosition
    simp (disch := first | assumption | (simp only [sI_kd, sP_kd, rw_kd, sI_ln, sP_ln, rw_ln] <;> first | assumption | omega) | omega) only [nl, nI_add, pk_mul, Option.bind_some, zb2_some, nI_le_t, nI_le_f, nI_lt_t, nI_lt_f, nI_eq_t, nI_eq_f, nI_m1, nI_em1, ↓reduceIte, Nat.add_zero, k1.1, k1.g0, hK.2.1.g10 k1.1, e1]
    rfl
  have ev : errV A = match ptext (aT A) (an A) with
    | .inl p => nI p
    | .inr _ => nI 4294967287 := rfl
  cases hp : ptext (aT A) (an A) with
  | inl p =>
    rw [hp] at R ev
    obtain ⟨h2, e1, e2⟩ := R
    exact key _ h2 e1 e2 ev.symm
  | inr w =>
    obtain ⟨f, bu, B⟩ := w
    rw [hp] at R ev
    obtain ⟨h2, e1, -, -, e2⟩ := R
    exact key _ h2 e1 e2 ev.symm
end CGET
