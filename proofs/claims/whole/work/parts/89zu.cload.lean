/-! pure: the component starts over; load -/
section CSTART
variable {h h' : zH} {x b d : Nat} {A : zSt}
theorem c_begin3 {nc bu : Nat} {ρ : zN'} (hs : SSh h (x + 78)) (hB : BSh h b) (hb : b + 9 ≤ x + 78 ∨ x + 117 ≤ b) (hbu : zI h b 11 = nI bu) (hn : nc ≤ 20) (h0 : ρ 0 = 0) (h1 : ρ 1 = 0) (h2 : ρ 2 = 0) (h3 : ρ 3 = bu) (hc : ∀ c, c < nc → zI h (b + 3) c = nI (ρ (4 + c))) : ∃ h', fX3_begin h (x + 78) b = some h' ∧ SR false h' (x + 78) nc ρ ∧ FrI (x + 78) (x + 78 + 39) h h' := by
  have kd := hs.1
  have w1 : zpI h 3 (x + 78) 2 (nI 0) = some (zsI h (x + 78) 2 (nI 0)) := pI_ kd
  have w2 : zpI (zsI h (x + 78) 2 (nI 0)) 3 (x + 78) 3 (nI 0) = some (zsI (zsI h (x + 78) 2 (nI 0)) (x + 78) 3 (nI 0)) := pI_ kd
  have w3 : zpI (zsI (zsI h (x + 78) 2 (nI 0)) (x + 78) 3 (nI 0)) 3 (x + 78) 4 (nI 0) = some (zsI (zsI (zsI h (x + 78) 2 (nI 0)) (x + 78) 3 (nI 0)) (x + 78) 4 (nI 0)) := pI_ kd
  have g3 : zgI (zsI (zsI (zsI h (x + 78) 2 (nI 0)) (x + 78) 3 (nI 0)) (x + 78) 4 (nI 0)) 0 b 11 = some (nI bu) := by
    rw [gI_ (h := zsI (zsI (zsI h (x + 78) 2 (nI 0)) (x + 78) 3 (nI 0)) (x + 78) 4 (nI 0)) hB.1, sI_a (by omega), sI_a (by omega), sI_a (by omega), hbu]
  have w5 : zpI (zsI (zsI (zsI h (x + 78) 2 (nI 0)) (x + 78) 3 (nI 0)) (x + 78) 4 (nI 0)) 3 (x + 78) 5 (nI bu) = some (zsI (zsI (zsI (zsI h (x + 78) 2 (nI 0)) (x + 78) 3 (nI 0)) (x + 78) 4 (nI 0)) (x + 78) 5 (nI bu)) := pI_ kd
  have F5 : FrI (x + 78) (x + 79) h (zsI (zsI (zsI (zsI h (x + 78) 2 (nI 0)) (x + 78) 3 (nI 0)) (x + 78) 4 (nI 0)) (x + 78) 5 (nI bu)) := (((FrI.sI (by omega) (by omega)).tr (FrI.sI (by omega) (by omega))).tr (FrI.sI (by omega) (by omega))).tr (FrI.sI (by omega) (by omega))
  have v2 : zI (zsI (zsI (zsI (zsI h (x + 78) 2 (nI 0)) (x + 78) 3 (nI 0)) (x + 78) 4 (nI 0)) (x + 78) 5 (nI bu)) (x + 78) 2 = nI 0 := by rw [sI_k (by omega), sI_k (by omega), sI_k (by omega), sI_at]
  have v3 : zI (zsI (zsI (zsI (zsI h (x + 78) 2 (nI 0)) (x + 78) 3 (nI 0)) (x + 78) 4 (nI 0)) (x + 78) 5 (nI bu)) (x + 78) 3 = nI 0 := by rw [sI_k (by omega), sI_k (by omega), sI_at]
  have v4 : zI (zsI (zsI (zsI (zsI h (x + 78) 2 (nI 0)) (x + 78) 3 (nI 0)) (x + 78) 4 (nI 0)) (x + 78) 5 (nI bu)) (x + 78) 4 = nI 0 := by rw [sI_k (by omega), sI_at]
  have v5 : zI (zsI (zsI (zsI (zsI h (x + 78) 2 (nI 0)) (x + 78) 3 (nI 0)) (x + 78) 4 (nI 0)) (x + 78) 5 (nI bu)) (x + 78) 5 = nI bu := sI_at
  have g6 : zgP (zsI (zsI (zsI (zsI h (x + 78) 2 (nI 0)) (x + 78) 3 (nI 0)) (x + 78) 4 (nI 0)) (x + 78) 5 (nI bu)) 0 b 2 = some (b + 3) := (BSh_fr F5.fr (by omega) hB).p2
  have s5 : SSh (zsI (zsI (zsI (zsI h (x + 78) 2 (nI 0)) (x + 78) 3 (nI 0)) (x + 78) 4 (nI 0)) (x + 78) 5 (nI bu)) (x + 78) := SSh_fI F5 hs
  have hB5 : BSh (zsI (zsI (zsI (zsI h (x + 78) 2 (nI 0)) (x + 78) 3 (nI 0)) (x + 78) 4 (nI 0)) (x + 78) 5 (nI bu)) b := BSh_fr F5.fr (by omega) hB
  have st : fX3_begin h (x + 78) b = (zcp (zsI (zsI (zsI (zsI h (x + 78) 2 (nI 0)) (x + 78) 3 (nI 0)) (x + 78) 4 (nI 0)) (x + 78) 5 (nI bu)) (b + 3) (nI 0) (x + 78 + 2) (nI 0) (nI 20)).bind fun h8 => some h8 := by
    unfold fX3_begin
    simp (disch := first | assumption | (simp only [sI_kd, sP_kd, rw_kd, sI_ln, sP_ln, rw_ln] <;> first | assumption | omega) | omega) only [nl, nI_add, pk_mul, Option.bind_some, zb2_some, nI_le_t, nI_le_f, nI_lt_t, nI_lt_f, nI_eq_t, nI_eq_f, nI_m1, nI_em1, ↓reduceIte, Nat.add_zero, kd, w1, w2, w3, g3, w5, g6, s5.cs]
  rw [st]
  generalize zsI (zsI (zsI (zsI h (x + 78) 2 (nI 0)) (x + 78) 3 (nI 0)) (x + 78) 4 (nI 0)) (x + 78) 5 (nI bu) = g at *
  have cp := cp_ (h := g) (a := b + 3) (b := x + 78 + 2) (n := 20) hB5.k2 s5.2.2.2.2.2.1 (by rw [hB5.l2]; omega) (by rw [s5.2.2.2.2.2.2.1]; omega) (by omega)
  refine ⟨zrow g (x + 78 + 2) (va_cpy (zI g (b + 3)) (zI g (x + 78 + 2)) 0 0 20), by rw [cp]; rfl, ⟨SSh_fI (FrI.row (lo := x + 78) (hi := x + 117) (by omega) (by omega)) s5, ?_, ?_, ?_, ?_, fun c hc' => ?_, fun i hi => absurd hi (by omega)⟩, (F5.wd (by omega) (by omega)).tr (FrI.row (by omega) (by omega))⟩
  · rw [rw_a (by omega), v2, h0]
  · rw [rw_a (by omega), v3, h1]
  · rw [rw_a (by omega), v4, h2]
  · rw [rw_a (by omega), v5, h3]
  · rw [rw_at, row_at (a := 0) (b := 0) (by omega), (F5.fr.2.2.2 (b + 3) (by omega)).1]
    exact hc c hc'
theorem so_L (s : CSt h x) {k : zH → Int32 → Option zH} {n : Nat} : fX6_startOver_L18 k x (n + 3) h (nI 0) = k (zsI (zsI h (x + 158) 0 (nI 0)) (x + 158) 1 (nI 0)) (nI 2) := by
  have z : ∀ g : zH, CSt g x → ∀ i, i < 2 → zbZ g (x + 158) (nI i) (nI 0) = some (zsI g (x + 158) i (nI 0)) := fun g sg i hi => bZ_ sg.2.2.2.2.1.1 (Or.inl rfl) (by rw [sg.2.2.2.2.1.2]; exact hi) (by rw [sg.2.2.2.2.1.2]; omega)
  have s1 : CSt (zsI h (x + 158) 0 (nI 0)) x := s.s
  have s2 : CSt (zsI (zsI h (x + 158) 0 (nI 0)) (x + 158) 1 (nI 0)) x := s1.s
  have z0 := z h s 0 (by omega)
  have z1 := z _ s1 1 (by omega)
  have e0 : fX6_startOver_L18 k x (n + 3) h (nI 0) = fX6_startOver_L18 k x (n + 2) (zsI h (x + 158) 0 (nI 0)) (nI 1) := by
    rw [fX6_startOver_L18]
    simp (disch := first | assumption | (simp only [sI_kd, sP_kd, rw_kd, sI_ln, sP_ln, rw_ln] <;> first | assumption | omega) | omega) only [nl, nI_add, pk_mul, Option.bind_some, zb2_some, nI_le_t, nI_le_f, nI_lt_t, nI_lt_f, nI_eq_t, nI_eq_f, nI_m1, nI_em1, ↓reduceIte, Nat.add_zero, s.g8, s.l8, z0]
  have e1 : fX6_startOver_L18 k x (n + 2) (zsI h (x + 158) 0 (nI 0)) (nI 1) = fX6_startOver_L18 k x (n + 1) (zsI (zsI h (x + 158) 0 (nI 0)) (x + 158) 1 (nI 0)) (nI 2) := by
    rw [fX6_startOver_L18]
    simp (disch := first | assumption | (simp only [sI_kd, sP_kd, rw_kd, sI_ln, sP_ln, rw_ln] <;> first | assumption | omega) | omega) only [nl, nI_add, pk_mul, Option.bind_some, zb2_some, nI_le_t, nI_le_f, nI_lt_t, nI_lt_f, nI_eq_t, nI_eq_f, nI_m1, nI_em1, ↓reduceIte, Nat.add_zero, s1.g8, s1.l8, z1]
  rw [e0, e1, fX6_startOver_L18]
  simp (disch := first | assumption | (simp only [sI_kd, sP_kd, rw_kd, sI_ln, sP_ln, rw_ln] <;> first | assumption | omega) | omega) only [nl, nI_add, pk_mul, Option.bind_some, zb2_some, nI_le_t, nI_le_f, nI_lt_t, nI_lt_f, nI_eq_t, nI_eq_f, nI_m1, nI_em1, ↓reduceIte, Nat.add_zero, s2.g8, s2.l8]
theorem c_start {t : Nat} (hA : AI t A) (s : CSt h x) (cb : CBa h x b d) (tx : zI h (x + 1) 1 = nI (an A) ∧ ∀ i, i < an A → zI h (x + 2) i = nI (aT A i)) (hB : BR h b (anf A) (anc A) (anp A) (afr A) (att A) (agr A) (alo A) (aac A) (ali A)) (hd : BSh h d) (hbu : zI h b 11 = nI (aρ A 3)) (hco : ∀ c, c < anc A → zI h (b + 3) c = nI (aρ A (4 + c))) (h0 : aρ A 0 = 0) (h1 : aρ A 1 = 0) (h2 : aρ A 2 = 0) (hnh : anh A = 0) (hfl : ∀ k, afl A k = false) (mm : CMm h x (anc A) 0 (aH A)) (sl : ∀ k, k < 2 → SSh h (x + 723 + 39 * k)) (P1 : PSh h (x + 3)) (P2 : PSh h (x + 40)) (q1 : SSh h (x + 78)) (q2 : SSh h (x + 117)) : ∃ h', fX6_startOver h x = some h' ∧ (∃ K : CK h' x b d A, CN h' x A) ∧ Fr x (x + 801) h h' := by
  have bd := cb.bd
  have n20 := hA.2.1.1.2.1
  obtain ⟨h3, b1, b2, b3⟩ := c_begin3 (nc := anc A) (ρ := aρ A) q1 hB.1 (by omega) hbu n20 h0 h1 h2 rfl hco
  have s3 : CSt h3 x := CSt_fr b3.fr (by omega) s
  have w4 : zpI h3 6 x 11 (nI 0) = some (zsI h3 x 11 (nI 0)) := pI_ s3.1
  have s4 : CSt (zsI h3 x 11 (nI 0)) x := s3.s
  have F4 := fr_11 (h := h3) (x := x) (v := nI 0)
  have L := fun k => so_L (n := 9997) (k := k) s4
  have F6 : Fr (x + 158) (x + 159) (zsI h3 x 11 (nI 0)) (zsI (zsI (zsI h3 x 11 (nI 0)) (x + 158) 0 (nI 0)) (x + 158) 1 (nI 0)) := ((FrI.sI (by omega) (by omega)).tr (FrI.sI (by omega) (by omega))).fr
  have s6 : CSt (zsI (zsI (zsI h3 x 11 (nI 0)) (x + 158) 0 (nI 0)) (x + 158) 1 (nI 0)) x := s4.s.s
  have z6 : ∀ k, k < 2 → zI (zsI (zsI (zsI h3 x 11 (nI 0)) (x + 158) 0 (nI 0)) (x + 158) 1 (nI 0)) (x + 158) k = nI 0 := fun k hk => by
    match k, hk with
    | 0, _ => rw [sI_k (by omega), sI_at]
    | 1, _ => rw [sI_at]
  have st : ∀ g, fX6_findPaths (zsI (zsI (zsI h3 x 11 (nI 0)) (x + 158) 0 (nI 0)) (x + 158) 1 (nI 0)) x = some g → fX6_startOver h x = some g := fun g e => by
    have e' : fX6_startOver_L18 (fun h5 y6 => (fX6_findPaths h5 x).bind fun h7 => some h7) x zF (zsI h3 x 11 (nI 0)) (nI 0) = some g := by
      refine (L _).trans ?_
      show (fX6_findPaths (zsI (zsI (zsI h3 x 11 (nI 0)) (x + 158) 0 (nI 0)) (x + 158) 1 (nI 0)) x).bind (fun h7 => some h7) = some g
      rw [e, Option.bind_some]
    unfold fX6_startOver
    simp (disch := first | assumption | (simp only [sI_kd, sP_kd, rw_kd, sI_ln, sP_ln, rw_ln] <;> first | assumption | omega) | omega) only [nl, nI_add, pk_mul, Option.bind_some, zb2_some, nI_le_t, nI_le_f, nI_lt_t, nI_lt_f, nI_eq_t, nI_eq_f, nI_m1, nI_em1, ↓reduceIte, Nat.add_zero, s.1, s.g4, cb.g9 s.1, b1, w4]
    exact e'
  have i11 : zI (zsI (zsI (zsI h3 x 11 (nI 0)) (x + 158) 0 (nI 0)) (x + 158) 1 (nI 0)) x 11 = nI 0 := by rw [sI_a (by omega), sI_a (by omega), sI_at]
  have cb6 : CBa (zsI (zsI (zsI h3 x 11 (nI 0)) (x + 158) 0 (nI 0)) (x + 158) 1 (nI 0)) x b d := by
    refine CBa.s (CBa.s (CBa.s ?_))
    unfold CBa
    rw [(b3.fr.2.2.2 x (by omega)).2]
    exact cb
  generalize zsI (zsI (zsI h3 x 11 (nI 0)) (x + 158) 0 (nI 0)) (x + 158) 1 (nI 0) = g6 at *
  generalize zsI h3 x 11 (nI 0) = g4 at *
  have fn : ∀ k, k < 2 → afl A k = true → aK A k 0 ≤ 12 := fun k _ f => by rw [hfl k] at f; cases f
  have M1 := CMm_fr b3.fr (by omega) (fun i (hi : i < 0) => absurd hi (by omega)) (by omega) mm
  have M2 := CMm_fr F4 (by omega) (fun i (hi : i < 0) => absurd hi (by omega)) (by omega) M1
  have M3 := CMm_fr F6 (by omega) (fun i (hi : i < 0) => absurd hi (by omega)) (by omega) M2
  have K6 : CK g6 x b d A := by
    refine ⟨s6, cb6, by rw [i11, hnh], ?_, ⟨BR_fr F6 (by omega) (BR_fr F4 (by omega) (BR_fr b3.fr (by omega) hB)), BSh_fr F6 (by omega) (BSh_fr F4 (by omega) (BSh_fr b3.fr (by omega) hd))⟩, by rw [hnh]; exact M3, ⟨fun k hk => SSh_fr F6 (by omega) (SSh_fr F4 (by omega) (SSh_fr b3.fr (by omega) (sl k hk))), fun k hk => ?_, fun k hk f => ?_⟩⟩
    · rw [(F6.2.2.2 (x + 1) (by omega)).1, (F6.2.2.2 (x + 2) (by omega)).1, (F4.2.2.2 (x + 1) (by omega)).1, (F4.2.2.2 (x + 2) (by omega)).1, (b3.fr.2.2.2 (x + 1) (by omega)).1, (b3.fr.2.2.2 (x + 2) (by omega)).1]
      exact tx
    · rw [z6 k hk, hfl k]
      rfl
    · rw [hfl k] at f
      cases f
  have S6 : SR false g6 (x + 78) (anc A) (aρ A) := SR_fr F6 (by omega) (SR_fr F4 (by omega) b2 (by omega)) (by omega)
  obtain ⟨h', p1, p2, p3, p4⟩ := c_fp (A := A) K6 (PSh_fr F6 (by omega) (PSh_fr F4 (by omega) (PSh_fr b3.fr (by omega) P1))) (PSh_fr F6 (by omega) (PSh_fr F4 (by omega) (PSh_fr b3.fr (by omega) P2))) S6 (SSh_fr F6 (by omega) (SSh_fr F4 (by omega) (SSh_fr b3.fr (by omega) q2))) hA
  exact ⟨h', st h' p1, ⟨p2, p3⟩, (b3.fr.wd (by omega) (by omega)).tr ((F4.wd (by omega) (by omega)).tr ((F6.wd (by omega) (by omega)).tr (p4.fr.wd (by omega) (by omega))))⟩
end CSTART
