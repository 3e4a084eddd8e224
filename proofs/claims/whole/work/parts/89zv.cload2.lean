/-! pure: the component's load -/
section CLOAD
variable {h h' : zH} {x b d : Nat} {A : zSt}
theorem k_load {t : Nat} {S : zAn} (hC : CI h x A) (hA : AI t A) (hS : loadR A S) : CO h x (fX6_load h x) S [xS] := by
  have AS := AI_load hA hS
  obtain ⟨b, d, hK, hN⟩ := id hC
  have k1 := hK.1
  have k4 := hK.2.2.2.1
  have bd := hK.2.1.bd
  obtain ⟨s, hs⟩ := any_nI (zI h (x + 1) 2)
  have X : CX h (x + 1) (aT A) (an A) s := ⟨k1.2.2.2.2.2.2.1, k4.1, hs, k4.2⟩
  have R := k_text (d := d) X hA.1 hK.2.2.2.2.1.2 (Or.inl (by omega))
  unfold loadR at hS
  cases hp : ptext (aT A) (an A) with
  | inl p =>
    rw [hp] at R hS
    have hS' : S = (1, 0, A) := hS
    rw [hS']
    obtain ⟨h2, e1, e2⟩ := R
    obtain ⟨r1, r2, r3⟩ := CI_read hK hN hA e2
    have pl : p < 1000 := ptext_lt hA.1.1 hp
    have ne : (nI p = nI 4294967287) = False := eq_false fun q => by
      have := (nI_eqN (by omega) (by omega)).mp q
      omega
    refine CO_no2 hA (by omega) (by decide) ⟨b, d, r1, r2⟩ r3 ?_
    unfold fX6_load
    simp (disch := first | assumption | (simp only [sI_kd, sP_kd, rw_kd, sI_ln, sP_ln, rw_ln] <;> first | assumption | omega) | omega) only [nl, nI_add, pk_mul, Option.bind_some, zb2_some, nI_le_t, nI_le_f, nI_lt_t, nI_lt_f, nI_eq_t, nI_eq_f, nI_m1, nI_em1, ↓reduceIte, Nat.add_zero, k1.1, k1.g0, hK.2.1.g10 k1.1, e1, nI_n9, ne]
    rfl
  | inr w =>
    obtain ⟨f, bu, B⟩ := w
    rw [hp] at R hS
    have hS' : ∃ ac li : zN', (∀ p, p < bnp B → ac p = bac B p ∧ li p = bli B p) ∧ S = (0, nI (bnc B), loadA A f bu B ac li) := hS
    obtain ⟨ac, li, hal, hS2⟩ := hS'
    rw [hS2] at AS ⊢
    have AS' : AI t (loadA A f bu B ac li) := AS
    obtain ⟨h4, e1, eB, e11, e2⟩ := R
    obtain ⟨r1, r2, r3⟩ := CI_read hK hN hA e2
    obtain ⟨q1, q2, q3, q4, ⟨q5, q5'⟩, q6, q7⟩ := id r1
    obtain ⟨n1, n2, n3, n4⟩ := r2
    have w8 : zpP h4 6 x 9 d = some (zsP h4 x 9 d) := if_pos ⟨q1.1, by omega⟩
    have w9 : zpP (zsP h4 x 9 d) 6 x 10 b = some (zsP (zsP h4 x 9 d) x 10 b) := if_pos ⟨q1.1, by omega⟩
    have F9 : Fr x (x + 1) h4 (zsP (zsP h4 x 9 d) x 10 b) := (Fr.sP (by omega) (by omega)).tr (Fr.sP (by omega) (by omega))
    have pk : ∀ k, k ≠ 9 → k ≠ 10 → zP (zsP (zsP h4 x 9 d) x 10 b) x k = zP h4 x k := fun k h1 h2 => by rw [sP_k h2, sP_k h1]
    have p9 : zP (zsP (zsP h4 x 9 d) x 10 b) x 9 = d := by rw [sP_k (by omega), sP_at]
    have p10 : zP (zsP (zsP h4 x 9 d) x 10 b) x 10 = b := sP_at
    have zi : zI (zsP (zsP h4 x 9 d) x 10 b) = zI h4 := rfl
    generalize zsP (zsP h4 x 9 d) x 10 b = g at *
    have s9 : CSt g x := by
      obtain ⟨s1, ⟨t0, t1, t2, t3, t4, t5, t6, t7, t8⟩, s3, s4, s5, s6, ⟨s7, s8, s9⟩, s10⟩ := q1
      unfold CSt CSh
      rw [F9.1, F9.2.1, pk 0 (by omega) (by omega), pk 1 (by omega) (by omega), pk 2 (by omega) (by omega), pk 3 (by omega) (by omega), pk 4 (by omega) (by omega), pk 5 (by omega) (by omega), pk 6 (by omega) (by omega), pk 7 (by omega) (by omega), pk 8 (by omega) (by omega), (F9.2.2.2 (x + 1) (by omega)).2, (F9.2.2.2 (x + 157) (by omega)).2]
      exact ⟨s1, ⟨t0, t1, t2, t3, t4, t5, t6, t7, t8⟩, s3, s4, s5, s6, ⟨s7, s8, s9⟩, s10⟩
    have cb9 : CBa g x d b := ⟨by rcases q2.1 with ⟨z1, z2⟩ | ⟨z1, z2⟩ <;> omega, p9, p10⟩
    have eB9 : CBr g d f B := by
      obtain ⟨u1, u2⟩ := eB
      refine ⟨BSh_fr F9 (by omega) u1, ?_⟩
      rw [zi]
      exact u2
    obtain ⟨u1, u2, u3, u4, u5, u6, u7⟩ := eB9
    have hBR : BR g d f (bnc B) (bnp B) (mix (bnc B) (bfr B) (afr A)) (mix (bnc B) (btt B) (att A)) (mix (bnc B) (bgr B) (agr A)) (mix (bnc B) (blo B) (alo A)) ac li := by
      refine ⟨u1, u2, u3, u4, fun c hc => ?_, fun p hp => ?_⟩
      · rw [mix_lt hc, mix_lt hc, mix_lt hc, mix_lt hc]
        obtain ⟨v1, v2, v3, v4, v5⟩ := u5 c hc
        exact ⟨v1, v2, v4, v5⟩
      · rw [(hal p hp).1, (hal p hp).2]
        exact u6 p hp
    have ld3 : ldρ bu B (bnc B) 3 = bu := if_pos rfl
    have ldc : ∀ c, c < bnc B → ldρ bu B (bnc B) (4 + c) = bco B c := fun c hc => by
      unfold ldρ
      rw [if_neg (by omega), if_pos (by omega), Nat.add_sub_cancel_left]
    have ldz : ∀ j, j < 3 → ldρ bu B (bnc B) j = 0 := fun j hj => by
      unfold ldρ
      rw [if_neg (by omega), if_neg (by omega)]
    have M0 : CMm h4 x (bnc B) 0 (aH A) := ⟨q6.1, q6.2.1, q6.2.2.1, fun i hi => absurd hi (by omega)⟩
    have M9 : CMm g x (bnc B) 0 (aH A) := CMm_fr F9 (by omega) (fun i (hi : i < 0) => absurd hi (by omega)) (by omega) M0
    obtain ⟨h', o1, ⟨o2, o3⟩, o4⟩ := c_start (A := loadA A f bu B ac li) (h := g) (b := d) (d := b) AS' s9 cb9 (by rw [zi]; exact q4) hBR (BSh_fr F9 (by omega) q5.1) (by show zI g d 11 = nI (ldρ bu B (bnc B) 3); rw [ld3, zi]; exact e11) (fun c hc => by
      have hc' : c < bnc B := hc
      show zI g (d + 3) c = nI (ldρ bu B (bnc B) (4 + c))
      rw [ldc c hc']
      exact (u5 c hc').2.2.1) (ldz 0 (by omega)) (ldz 1 (by omega)) (ldz 2 (by omega)) rfl (fun _ => rfl) M9 (fun k hk => SSh_fr F9 (by omega) (q7.1 k hk)) (PSh_fr F9 (by omega) n1.1) (PSh_fr F9 (by omega) n2) (SSh_fr F9 (by omega) n3.1) (SSh_fr F9 (by omega) n4)
    have g9' : zgP h' 6 x 9 = some d := o2.2.1.g9 o2.1.1
    have gn : zgI h' 0 d 9 = some (nI (bnc B)) := o2.2.2.2.2.1.1.gnc
    refine CO_ok ?_ ⟨d, b, o2, o3⟩ (r3.tr ((F9.wd (by omega) (by omega)).tr o4))
    unfold fX6_load
    simp (disch := first | assumption | (simp only [sI_kd, sP_kd, rw_kd, sI_ln, sP_ln, rw_ln] <;> first | assumption | omega) | omega) only [nl, nI_add, pk_mul, Option.bind_some, zb2_some, nI_le_t, nI_le_f, nI_lt_t, nI_lt_f, nI_eq_t, nI_eq_f, nI_m1, nI_em1, ↓reduceIte, Nat.add_zero, k1.1, k1.g0, hK.2.1.g10 k1.1, e1, nI_n9, q2.g9 q1.1, q2.g10 q1.1, w8, w9, o1, g9', gn]
end CLOAD
