/-! pure: the component remembers -/
def fX6_rem_b (a0 : Nat) (h : zH) : Option zH :=
    (zgP h 6 a0 6).bind fun w5 =>
    (zgI h 6 a0 11).bind fun w6 =>
    (zaP h w5 (w6)).bind fun w7 =>
    (zgP h 6 a0 4).bind fun w8 =>
    (fX3_takeOver h (w7) (w8)).bind fun h9 =>
    (zgI h9 6 a0 11).bind fun w10 =>
    (zpI h9 6 a0 11 ((w10 : Int32) + 1)).bind fun h11 =>
    some h11
theorem fX6_rememberNow_e {h : zH} {a0 : Nat} : fX6_rememberNow h a0 = (
    if zkd h a0 = 7 then
    (zgI h 6 a0 11).bind fun w1 =>
    (zgP h 6 a0 6).bind fun w2 =>
    (zle h w2).bind fun w3 =>
    if (w1 : Int32) < w3 then
    fX6_rem_b a0 h
    else
    (fX6_forgetOldest h (a0)).bind fun h12 => fX6_rem_b a0 h12
    else none) := rfl
def afg (A : zSt) : zSt := (A.1, A.2.1, A.2.2.1, 13, fun i => aH A (i + 1), A.2.2.2.2.2)
section CREM
variable {h h' : zH} {x b d : Nat} {A : zSt}
theorem CSt.s {a k : Nat} {v : Int32} (s : CSt h x) : CSt (zsI h a k v) x := s
theorem CBa.s {a k : Nat} {v : Int32} (s : CBa h x b d) : CBa (zsI h a k v) x b d := s
theorem CMm.cg {nc nh : Nat} {H H' : Nat → zN'} (e : ∀ i, i < nh → H' i = H i) (hM : CMm h x nc nh H) : CMm h x nc nh H' := ⟨hM.1, hM.2.1, hM.2.2.1, fun i hi => by rw [e i hi]; exact hM.2.2.2 i hi⟩
theorem fr_11 {v : Int32} : Fr x (x + 1) h (zsI h x 11 v) := (FrI.sI (by omega) (by omega)).fr
theorem c_rem_b {t : Nat} (hK : CK h x b d A) (hN : CN h x A) (hA : AI t A) (hn : anh A < 14) : ∃ h', fX6_rem_b x h = some h' ∧ CK h' x b d (anote A) ∧ CN h' x (anote A) ∧ Fr x (x + 801) h h' ∧ ∀ a, x + 1 ≤ a → a < x + 156 → zI h' a = zI h a := by
  obtain ⟨k1, k2, k3, k4, ⟨k5, k5'⟩, k6, k7⟩ := id hK
  obtain ⟨n1, n2, n3, n4⟩ := id hN
  obtain ⟨c1, c2⟩ := AI_hc hA
  have bd := k2.bd
  obtain ⟨j, hj, ej⟩ := k6.1 (anh A) hn
  have hs : SSh h (x + 177 + 39 * j) := k6.2.2.1 j hj
  obtain ⟨h9, t1, t2, t3⟩ := c_take hs n3 hA.2.1.1.2.1 hA.2.2.1.1.1 (Or.inr (by omega))
  have F := t3.fr
  have s9 : CSt h9 x := CSt_fr F (by omega) k1
  have i9 : zI h9 x 11 = nI (anh A) := by rw [(F.2.2.2 x (by omega)).1]; exact k3
  have g9 : zgI h9 6 x 11 = some (nI (anh A)) := by rw [gI_ s9.1, i9]
  have p9 : zpI h9 6 x 11 (nI (anh A + 1)) = some (zsI h9 x 11 (nI (anh A + 1))) := pI_ s9.1
  have rd : zaP h (x + 156) (nI (anh A)) = some (x + 177 + 39 * j) := by rw [k6.m k1 hn, ej]
  have nc : ¬ anh A = 14 := by omega
  have a1 : anh (anote A) = anh A + 1 := by show (hpush (anh A) (aH A) (aρ A)).1 = _; unfold hpush; rw [if_neg nc]
  have a2 : ∀ i, aH (anote A) i = if i = anh A then aρ A else aH A i := fun i => by show (hpush (anh A) (aH A) (aρ A)).2 i = _; unfold hpush; rw [if_neg nc]
  have F1 := fr_11 (h := h9) (x := x) (v := nI (anh A + 1))
  have P0 : zP h9 (x + 156) = zP h (x + 156) := (F.2.2.2 _ (by omega)).2
  have N1 : CN (zsI h9 x 11 (nI (anh A + 1))) x A := CN_fr hA F1 (by omega) (CN_fr hA F (by omega) hN)
  refine ⟨zsI h9 x 11 (nI (anh A + 1)), ?_, ⟨s9.s, ?_, ?_, ?_, ⟨BR_fr F1 (by omega) (BR_fr F (by omega) k5), BSh_fr F1 (by omega) (BSh_fr F (by omega) k5')⟩, ?_, CSl_fr F1 (by omega) c2 (CSl_fr F (by omega) c2 k7)⟩, N1, (F.wd (by omega) (by omega)).tr (F1.wd (by omega) (by omega)), fun a g1 g2 => by rw [(F1.2.2.2 a (by omega)).1, (F.2.2.2 a (by omega)).1]⟩
  · unfold fX6_rem_b
    simp (disch := first | assumption | (simp only [sI_kd, sP_kd, rw_kd, sI_ln, sP_ln, rw_ln] <;> first | assumption | omega) | omega) only [nl, nI_add, pk_mul, Option.bind_some, zb2_some, nI_le_t, nI_le_f, nI_lt_t, nI_lt_f, nI_eq_t, nI_eq_f, nI_m1, nI_em1, ↓reduceIte, Nat.add_zero, k1.g6, hK.g11, rd, k1.g4, t1, g9, p9]
  · refine CBa.s ?_
    unfold CBa
    rw [(F.2.2.2 x (by omega)).2]
    exact k2
  · rw [sI_at, a1]
  · rw [sI_a (by omega), sI_a (by omega), (F.2.2.2 (x + 1) (by omega)).1, (F.2.2.2 (x + 2) (by omega)).1]
    exact k4
  · rw [a1]
    have M1 : CMm h9 x (anc A) (anh A + 1) (aH (anote A)) := by
      refine ⟨fun i hi => by rw [P0]; exact k6.1 i hi, fun i j hi hj => by rw [P0]; exact k6.2.1 i j hi hj, fun j hj => SSh_fI t3 (k6.2.2.1 j hj), fun i hi => ?_⟩
      rw [P0, a2]
      by_cases c : i = anh A
      · rw [if_pos c, c, ej]
        exact t2
      · rw [if_neg c]
        obtain ⟨j2, hj2, ej2⟩ := k6.1 i (by omega)
        have ne : j2 ≠ j := fun z => c (k6.2.1 i (anh A) (by omega) hn (by rw [ej, ej2, z]))
        have g := k6.2.2.2 i (by omega)
        rw [ej2] at g ⊢
        exact SR_fr F (by omega) g (c1 i (by omega))
    have hc : ∀ i, i < anh A + 1 → aH (anote A) i 0 ≤ 12 := fun i hi => by
      rw [a2]
      by_cases c : i = anh A
      · rw [if_pos c]; exact hA.2.2.1.1.1.1
      · rw [if_neg c]; exact c1 i (by omega)
    exact CMm_fr F1 (by omega) hc (by omega) M1
theorem fo_L (k1 : CSt h x) (pn : ∀ i, i < 14 → ∃ j, j < 14 ∧ zP h (x + 156) i = x + 177 + 39 * j) (pk : ∀ j, j < 14 → zkd h (x + 177 + 39 * j) = 4) {u1 : Nat} (k : zH → Int32 → Option zH) : ∀ d v n, v + d = 14 → d < n → 1 ≤ v → fX6_forgetOldest_L9 k x u1 n (zrP h (x + 156) (pdr (zP h (x + 156)) 0 v)) (nI v) = k (zrP h (x + 156) (pdr (zP h (x + 156)) 0 14)) (nI 14) := by
  have s1 : ∀ r, CSt (zrP h (x + 156) r) x := fun r => by
    obtain ⟨s1, s2, s3, s4, s5, s6, ⟨s7, s8, s9⟩, s10⟩ := k1
    unfold CSt CSh
    rw [rP_a (by omega), rP_a (by omega), rP_a (by omega)]
    exact ⟨s1, s2, s3, s4, s5, s6, ⟨s7, s8, s9⟩, s10⟩
  intro d
  induction d with
  | zero =>
    intro v n hf hn he
    obtain ⟨n, rfl⟩ := fuel1 hn
    have e8 : v = 14 := by omega
    subst e8
    rw [fX6_forgetOldest_L9]
    simp (disch := first | assumption | (simp only [sI_kd, sP_kd, rw_kd, sI_ln, sP_ln, rw_ln] <;> first | assumption | omega) | omega) only [nl, nI_add, pk_mul, Option.bind_some, zb2_some, nI_le_t, nI_le_f, nI_lt_t, nI_lt_f, nI_eq_t, nI_eq_f, nI_m1, nI_em1, ↓reduceIte, Nat.add_zero, (s1 _).g6, (s1 _).l6]
  | succ d ih =>
    intro v n hf hn he
    obtain ⟨n, rfl⟩ := fuel1 hn
    obtain ⟨j, hj, ej⟩ := pn v (by omega)
    have pv : pdr (zP h (x + 156)) 0 v v = zP h (x + 156) v := if_neg (by omega)
    have rd : zaP (zrP h (x + 156) (pdr (zP h (x + 156)) 0 v)) (x + 156) (nI v) = some (zP h (x + 156) v) := aP_ (by rw [(s1 _).2.2.1.1]; omega) (by rw [(s1 _).2.2.1.2]; omega) (by rw [(s1 _).2.2.1.2]; omega) (by rw [rP_at, pv]) (by omega)
    have kz : zkd h (zP h (x + 156) v) = 4 := by rw [ej]; exact pk j hj
    have wr : zbP (zrP h (x + 156) (pdr (zP h (x + 156)) 0 v)) (x + 156) (nI (v - 1)) (zP h (x + 156) v) = some (zrP h (x + 156) (pdr (zP h (x + 156)) 0 (v + 1))) := by
      rw [bP_ (h := zrP h (x + 156) (pdr (zP h (x + 156)) 0 v)) (Or.inr ⟨k1.2.2.1.1, kz⟩) (by rw [(s1 _).2.2.1.2]; omega) (by rw [(s1 _).2.2.1.2]; omega) (by omega), zsP_rP, pdr_s (by omega)]
    rw [fX6_forgetOldest_L9]
    simp (disch := first | assumption | (simp only [sI_kd, sP_kd, rw_kd, sI_ln, sP_ln, rw_ln] <;> first | assumption | omega) | omega) only [nl, nI_add, pk_mul, Option.bind_some, zb2_some, nI_le_t, nI_le_f, nI_lt_t, nI_lt_f, nI_eq_t, nI_eq_f, nI_m1, nI_em1, ↓reduceIte, Nat.add_zero, (s1 _).g6, (s1 _).l6, rd, pk_sub, wr]
    exact ih (v + 1) n (by omega) (by omega) (by omega)
theorem c_forget {t : Nat} (hK : CK h x b d A) (hN : CN h x A) (hA : AI t A) (hn : anh A = 14) : ∃ h', fX6_forgetOldest h x = some h' ∧ CK h' x b d (afg A) ∧ CN h' x (afg A) ∧ Fr x (x + 801) h h' ∧ ∀ a, x + 1 ≤ a → a < x + 156 → zI h' a = zI h a := by
  obtain ⟨k1, k2, k3, k4, ⟨k5, k5'⟩, k6, k7⟩ := id hK
  obtain ⟨c1, c2⟩ := AI_hc hA
  have bd := k2.bd
  have pk : ∀ j, j < 14 → zkd h (x + 177 + 39 * j) = 4 := fun j hj => (k6.2.2.1 j hj).1
  obtain ⟨j0, hj0, ej0⟩ := k6.1 0 (by omega)
  have s1 : ∀ r, CSt (zrP h (x + 156) r) x := fun r => by
    obtain ⟨s1, s2, s3, s4, s5, s6, ⟨s7, s8, s9⟩, s10⟩ := k1
    unfold CSt CSh
    rw [rP_a (by omega), rP_a (by omega), rP_a (by omega)]
    exact ⟨s1, s2, s3, s4, s5, s6, ⟨s7, s8, s9⟩, s10⟩
  have L := fun k => fo_L k1 k6.1 pk (u1 := zP h (x + 156) 0) k 13 1 zF (by omega) (by unfold zF; omega) (by omega)
  have p0 : pdr (zP h (x + 156)) 0 1 = zP h (x + 156) := pdr_0
  simp only [p0, zrP_self] at L
  have wr : zbP (zrP h (x + 156) (pdr (zP h (x + 156)) 0 14)) (x + 156) (nI 13) (zP h (x + 156) 0) = some (zrP h (x + 156) (va_up (pdr (zP h (x + 156)) 0 14) 13 (zP h (x + 156) 0))) := by
    rw [bP_ (h := zrP h (x + 156) (pdr (zP h (x + 156)) 0 14)) (Or.inr ⟨k1.2.2.1.1, by rw [ej0]; exact pk j0 hj0⟩) (by rw [(s1 _).2.2.1.2]; omega) (by rw [(s1 _).2.2.1.2]; omega) (by omega), zsP_rP]
  have row : ∀ i, i < 14 → va_up (pdr (zP h (x + 156)) 0 14) 13 (zP h (x + 156) 0) i = zP h (x + 156) (if i = 13 then 0 else i + 1) := fun i hi => by
    unfold va_up pdr
    by_cases c : i = 13
    · rw [if_pos c, if_pos c]
    · rw [if_neg c, if_neg c, if_pos (by omega)]
  have sb : nI 14 - nI 1 = nI 13 := pk_sub (by omega)
  have F : Fr (x + 156) (x + 157) h (zrP h (x + 156) (va_up (pdr (zP h (x + 156)) 0 14) 13 (zP h (x + 156) 0))) := ⟨rfl, rfl, rfl, fun a ha => ⟨rfl, rP_a (by omega)⟩⟩
  have s2 := s1 (va_up (pdr (zP h (x + 156)) 0 14) 13 (zP h (x + 156) 0))
  have zp : zP (zrP h (x + 156) (va_up (pdr (zP h (x + 156)) 0 14) 13 (zP h (x + 156) 0))) (x + 156) = va_up (pdr (zP h (x + 156)) 0 14) 13 (zP h (x + 156) 0) := rP_at
  have st : fX6_forgetOldest h x = some (zsI (zrP h (x + 156) (va_up (pdr (zP h (x + 156)) 0 14) 13 (zP h (x + 156) 0))) x 11 (nI 13)) := by
    unfold fX6_forgetOldest
    simp (disch := first | assumption | (simp only [sI_kd, sP_kd, rw_kd, sI_ln, sP_ln, rw_ln] <;> first | assumption | omega) | omega) only [nl, nI_add, pk_mul, Option.bind_some, zb2_some, nI_le_t, nI_le_f, nI_lt_t, nI_lt_f, nI_eq_t, nI_eq_f, nI_m1, nI_em1, ↓reduceIte, Nat.add_zero, k1.1, k1.g6, k6.m k1, L, (s1 _).g6, (s1 _).l6, sb, wr, pI_ (s1 _).1]
  rw [st]
  generalize zrP h (x + 156) (va_up (pdr (zP h (x + 156)) 0 14) 13 (zP h (x + 156) 0)) = g at *
  have F1 := fr_11 (h := g) (x := x) (v := nI 13)
  have N1 : CN (zsI g x 11 (nI 13)) x A := CN_fr hA F1 (by omega) (CN_fr hA F (by omega) hN)
  refine ⟨zsI g x 11 (nI 13), rfl, ⟨s2.s, ?_, sI_at, ?_, ⟨BR_fr F1 (by omega) (BR_fr F (by omega) k5), BSh_fr F1 (by omega) (BSh_fr F (by omega) k5')⟩, ?_, CSl_fr F1 (by omega) c2 (CSl_fr F (by omega) c2 k7)⟩, N1, (F.wd (by omega) (by omega)).tr (F1.wd (by omega) (by omega)), fun a g1 g2 => by rw [(F1.2.2.2 a (by omega)).1, (F.2.2.2 a (by omega)).1]⟩
  · refine CBa.s ?_
    unfold CBa
    rw [(F.2.2.2 x (by omega)).2]
    exact k2
  · rw [sI_a (by omega), sI_a (by omega), (F.2.2.2 (x + 1) (by omega)).1, (F.2.2.2 (x + 2) (by omega)).1]
    exact k4
  · have M1 : CMm g x (anc A) 13 (fun i => aH A (i + 1)) := by
      refine ⟨fun i hi => ?_, fun i j hi hj e => ?_, fun j hj => SSh_fr F (by omega) (k6.2.2.1 j hj), fun i hi => ?_⟩
      · rw [zp, row i hi]; exact k6.1 _ (by split <;> omega)
      · rw [zp, row i hi, row j hj] at e
        have := k6.2.1 _ _ (by split <;> omega) (by split <;> omega) e
        repeat' split at this
        all_goals omega
      · rw [zp, row i (by omega), if_neg (by omega)]
        obtain ⟨j2, hj2, ej2⟩ := k6.1 (i + 1) (by omega)
        have q := k6.2.2.2 (i + 1) (by omega)
        rw [ej2] at q ⊢
        exact SR_fr F (by omega) q (c1 (i + 1) (by omega))
    have M2 := CMm_fr F1 (by omega) (fun i (hi : i < 13) => c1 (i + 1) (by omega)) (by omega) M1
    exact M2
theorem c_rem {t : Nat} (hC : CI h x A) (hA : AI t A) : ∃ h', fX6_rememberNow h x = some h' ∧ CI h' x (anote A) ∧ Fr x (x + 801) h h' ∧ ∀ a, x + 1 ≤ a → a < x + 156 → zI h' a = zI h a := by
  obtain ⟨b, d, hK, hN⟩ := hC
  have k1 := hK.1
  have hh := hA.2.2.2.1
  rw [fX6_rememberNow_e]
  by_cases c : anh A = 14
  · obtain ⟨h1, e1, e2, e3, e4, e5⟩ := c_forget hK hN hA c
    have hA1 : AI t (afg A) := ⟨hA.1, hA.2.1, hA.2.2.1, by show 13 ≤ 14; omega, fun i hi => hA.2.2.2.2.1 (i + 1) (by have : i < 13 := hi; omega), hA.2.2.2.2.2⟩
    obtain ⟨h2, f1, f2, f3, f4, f5⟩ := c_rem_b e2 e3 hA1 (by show 13 < 14; omega)
    have g11 := hK.g11
    rw [c] at g11
    refine ⟨h2, ?_, ⟨b, d, ?_, f3⟩, e4.tr f4, fun a g1 g2 => (f5 a g1 g2).trans (e5 a g1 g2)⟩
    · simp (disch := first | assumption | (simp only [sI_kd, sP_kd, rw_kd, sI_ln, sP_ln, rw_ln] <;> first | assumption | omega) | omega) only [nl, nI_add, pk_mul, Option.bind_some, zb2_some, nI_le_t, nI_le_f, nI_lt_t, nI_lt_f, nI_eq_t, nI_eq_f, nI_m1, nI_em1, ↓reduceIte, Nat.add_zero, k1.1, g11, k1.g6, k1.l6, e1]
      exact f1
    · obtain ⟨q1, q2, q3, q4, q5, q6, q7⟩ := f2
      have a1 : anh (anote A) = 14 := by show (hpush (anh A) (aH A) (aρ A)).1 = _; unfold hpush; rw [if_pos c]
      have a2 : ∀ i, aH (anote A) i = if i < 13 then aH A (i + 1) else aρ A := fun i => by show (hpush (anh A) (aH A) (aρ A)).2 i = _; unfold hpush; rw [if_pos c]
      refine ⟨q1, q2, by rw [a1]; exact q3, q4, q5, ?_, q7⟩
      rw [a1]
      refine CMm.cg (fun i hi => ?_) q6
      show aH (anote A) i = (if i = 13 then aρ A else aH A (i + 1))
      rw [a2]
      by_cases z : i < 13
      · rw [if_pos z, if_neg (by omega)]
      · rw [if_neg z, if_pos (by omega)]
  · obtain ⟨h2, f1, f2, f3, f4, f5⟩ := c_rem_b hK hN hA (by omega)
    refine ⟨h2, ?_, ⟨b, d, f2, f3⟩, f4, f5⟩
    simp (disch := first | assumption | (simp only [sI_kd, sP_kd, rw_kd, sI_ln, sP_ln, rw_ln] <;> first | assumption | omega) | omega) only [nl, nI_add, pk_mul, Option.bind_some, zb2_some, nI_le_t, nI_le_f, nI_lt_t, nI_lt_f, nI_eq_t, nI_eq_f, nI_m1, nI_em1, ↓reduceIte, Nat.add_zero, k1.1, hK.g11, k1.g6, k1.l6]
    exact f1
end CREM
