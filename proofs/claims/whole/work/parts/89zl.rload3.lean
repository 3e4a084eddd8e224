/-! pure: the reference's load, whole -/
section RLOAD3
variable {h : zH} {m : Nat} {A : zSt}
theorem row_at {a b j n : Nat} {f g : Nat → Int32} (hj : j < n) : va_cpy f g 0 0 n j = f j := by
  unfold va_cpy
  rw [if_pos (by omega)]
  congr 1
  omega
theorem fX7_load_b0 {h5 : zH} {a0 : Nat} : fX7_load_b a0 (nI 0) h5 = fX7_load_L25 (fun h7 y8 => fX7_load_s a0 h7) (a0) zF h5 (0) := by
  unfold fX7_load_b
  exact if_pos rfl
theorem r_ld_t {g : zH} {n : Nat} (hT : RefT g m) (h5 : zI g m 5 = nI n) : ∃ g', fX7_load_t m g = some (nI n, g') ∧ zkd g' = zkd g ∧ zln g' = zln g ∧ zJ g' = zJ g ∧ zP g' = zP g ∧ (∀ a, a ≠ m → a ≠ m + 6 → a ≠ m + 7 → a ≠ m + 20 → zI g' a = zI g a) ∧ (∀ k, k ≠ 28 → zI g' m k = zI g m k) ∧ zI g' m 28 = nI 0 ∧ (∀ j, j < 6 → zI g' (m + 6) j = zI g (m + 13) j) ∧ (∀ j, j < 6 → zI g' (m + 7) j = zI g (m + 14) j) ∧ ∀ k, k < 2 → zI g' (m + 20) k = nI 0 := by
  have c1 : fX7_copyRow g (m + 13) (nI 0) (m + 6) (nI 0) (nI 6) = some (zrow g (m + 6) (va_cpy (zI g (m + 13)) (zI g (m + 6)) 0 0 6)) := q_copyRow 0 0 6 (rk13 hT) (rk6 hT) (by rw [rl13 hT]; omega) (by rw [rl6 hT]; omega) (by rw [rl13 hT]; omega) (by rw [rl6 hT]; omega) (Or.inl (by omega))
  have g6 : ∀ j, j < 6 → zI (zrow g (m + 6) (va_cpy (zI g (m + 13)) (zI g (m + 6)) 0 0 6)) (m + 6) j = zI g (m + 13) j := fun j hj => by rw [rw_at, row_at (a := 0) (b := 0) hj]
  have ga : ∀ a, a ≠ m + 6 → zI (zrow g (m + 6) (va_cpy (zI g (m + 13)) (zI g (m + 6)) 0 0 6)) a = zI g a := fun a ha => rw_a ha
  have k1 : zkd (zrow g (m + 6) (va_cpy (zI g (m + 13)) (zI g (m + 6)) 0 0 6)) = zkd g ∧ zln (zrow g (m + 6) (va_cpy (zI g (m + 13)) (zI g (m + 6)) 0 0 6)) = zln g ∧ zJ (zrow g (m + 6) (va_cpy (zI g (m + 13)) (zI g (m + 6)) 0 0 6)) = zJ g ∧ zP (zrow g (m + 6) (va_cpy (zI g (m + 13)) (zI g (m + 6)) 0 0 6)) = zP g := ⟨rfl, rfl, rfl, rfl⟩
  have hT1 := hT.r (a := m + 6) (r := va_cpy (zI g (m + 13)) (zI g (m + 6)) 0 0 6)
  generalize zrow g (m + 6) (va_cpy (zI g (m + 13)) (zI g (m + 6)) 0 0 6) = g1 at *
  have c2 : fX7_copyRow g1 (m + 14) (nI 0) (m + 7) (nI 0) (nI 6) = some (zrow g1 (m + 7) (va_cpy (zI g1 (m + 14)) (zI g1 (m + 7)) 0 0 6)) := q_copyRow 0 0 6 (rk14 hT1) (rk7 hT1) (by rw [rl14 hT1]; omega) (by rw [rl7 hT1]; omega) (by rw [rl14 hT1]; omega) (by rw [rl7 hT1]; omega) (Or.inl (by omega))
  have e7 : ∀ j, j < 6 → zI (zrow g1 (m + 7) (va_cpy (zI g1 (m + 14)) (zI g1 (m + 7)) 0 0 6)) (m + 7) j = zI g1 (m + 14) j := fun j hj => by rw [rw_at, row_at (a := 0) (b := 0) hj]
  have gb : ∀ a, a ≠ m + 7 → zI (zrow g1 (m + 7) (va_cpy (zI g1 (m + 14)) (zI g1 (m + 7)) 0 0 6)) a = zI g1 a := fun a ha => rw_a ha
  have k2 : zkd (zrow g1 (m + 7) (va_cpy (zI g1 (m + 14)) (zI g1 (m + 7)) 0 0 6)) = zkd g1 ∧ zln (zrow g1 (m + 7) (va_cpy (zI g1 (m + 14)) (zI g1 (m + 7)) 0 0 6)) = zln g1 ∧ zJ (zrow g1 (m + 7) (va_cpy (zI g1 (m + 14)) (zI g1 (m + 7)) 0 0 6)) = zJ g1 ∧ zP (zrow g1 (m + 7) (va_cpy (zI g1 (m + 14)) (zI g1 (m + 7)) 0 0 6)) = zP g1 := ⟨rfl, rfl, rfl, rfl⟩
  have hT2 := hT1.r (a := m + 7) (r := va_cpy (zI g1 (m + 14)) (zI g1 (m + 7)) 0 0 6)
  generalize zrow g1 (m + 7) (va_cpy (zI g1 (m + 14)) (zI g1 (m + 7)) 0 0 6) = g2 at *
  have i5 : zI g2 m 5 = nI n := by rw [gb m (by omega), ga m (by omega)]; exact h5
  have z1 : ∀ g, RefT g m → zbZ g (m + 20) (nI 0) (nI 0) = some (zsI g (m + 20) 0 (nI 0)) := fun g hg => qb20 hg (Or.inl rfl) (by omega)
  have z2 : ∀ g, RefT g m → zbZ g (m + 20) (nI 1) (nI 0) = some (zsI g (m + 20) 1 (nI 0)) := fun g hg => qb20 hg (Or.inl rfl) (by omega)
  have j5 : zI (zsI (zsI (zsI g2 m 28 (nI 0)) (m + 20) 0 (nI 0)) (m + 20) 1 (nI 0)) m 5 = nI n := by rw [sI_a (by omega), sI_a (by omega), sI_k (by omega)]; exact i5
  refine ⟨zsI (zsI (zsI g2 m 28 (nI 0)) (m + 20) 0 (nI 0)) (m + 20) 1 (nI 0), ?_, k2.1.trans k1.1, k2.2.1.trans k1.2.1, k2.2.2.1.trans k1.2.2.1, k2.2.2.2.trans k1.2.2.2, fun a h1 h2 h3 h4 => ?_, fun k hk => ?_, ?_, fun j hj => ?_, fun j hj => ?_, fun k hk => ?_⟩
  · unfold fX7_load_t
    simp (disch := first | assumption | ((repeat apply RefT.s) <;> assumption) | omega) only [nl, nI_add, pk_mul, Option.bind_some, zb2_some, nI_le_t, nI_le_f, nI_lt_t, nI_lt_f, nI_eq_t, nI_eq_f, nI_m1, nI_em1, ↓reduceIte, Nat.add_zero, nI_n9, qg13, qg6, c1, qg14, qg7, c2, qp, qg20, z1, z2, qI, j5]
  · rw [sI_a h4, sI_a h4, sI_a h1, gb a h3, ga a h2]
  · rw [sI_a (by omega), sI_a (by omega), sI_k hk, gb m (by omega), ga m (by omega)]
  · rw [sI_a (by omega), sI_a (by omega), sI_at]
  · rw [sI_a (by omega), sI_a (by omega), sI_a (by omega), gb _ (by omega), g6 j hj]
  · rw [sI_a (by omega), sI_a (by omega), sI_a (by omega), e7 j hj, ga _ (by omega)]
  · match k, hk with
    | 0, _ => rw [sI_k (by omega), sI_at]
    | 1, _ => rw [sI_at]
theorem r_ld_s {g : zH} {f bu : Nat} {B : zBd} (hR : RI g m A) (hb : RBr g m f B) (h16 : zI g m 16 = nI bu) (n20 : bnc B ≤ 20) : ∃ g', fX7_load_s m (zrow g (m + 15) (nr (fun _ => 0))) = some (nI (bnc B), g') ∧ (∃ ac li : zN', (∀ p, p < bnp B → p < 6 → nI (ac p) = nI (bac B p) ∧ nI (li p) = nI (bli B p) ∧ ac p < 2 ^ 32 ∧ li p < 2 ^ 32) ∧ RI g' m (loadA A f bu B ac li)) ∧ Fr m (m + 24) g g' ∧ zI g' m 0 = zI g m 0 := by
  obtain ⟨hT, ⟨r2, r3⟩, ⟨q1, q2, q3, q4, q5, q6, q7, q8, q9⟩, r5, r6, r7, r8, r9, s1, s2, s3, s4, s5⟩ := id hR
  have hT0 := hT.r (a := m + 15) (r := nr (fun _ => 0))
  have ga : ∀ a, a ≠ m + 15 → zI (zrow g (m + 15) (nr (fun _ => 0))) a = zI g a := fun a ha => rw_a ha
  have g15 : zI (zrow g (m + 15) (nr (fun _ => 0))) (m + 15) = nr (fun _ => 0) := rw_at
  have k0 : zkd (zrow g (m + 15) (nr (fun _ => 0))) = zkd g ∧ zln (zrow g (m + 15) (nr (fun _ => 0))) = zln g ∧ zJ (zrow g (m + 15) (nr (fun _ => 0))) = zJ g ∧ zP (zrow g (m + 15) (nr (fun _ => 0))) = zP g := ⟨rfl, rfl, rfl, rfl⟩
  generalize zrow g (m + 15) (nr (fun _ => 0)) = g0 at *
  have b13 : zI g0 m 13 = nI f := by rw [ga m (by omega)]; exact hb.1
  have b14 : zI g0 m 14 = nI (bnc B) := by rw [ga m (by omega)]; exact hb.2.1
  have b15 : zI g0 m 15 = nI (bnp B) := by rw [ga m (by omega)]; exact hb.2.2.1
  have b16 : zI g0 m 16 = nI bu := by rw [ga m (by omega)]; exact h16
  -- the heap before the loop
  have st : fX7_load_s m g0 = fX7_load_L81 (fun h18 y19 => fX7_load_t m h18) m zF (zsI (zsI (zsI (zsI g0 m 4 (nI f)) m 5 (nI (bnc B))) m 6 (nI (bnp B))) (m + 15) 3 (nI bu)) (nI 0) := by
    have e14 : zI (zsI g0 m 4 (nI f)) m 14 = nI (bnc B) := by rw [sI_k (by omega)]; exact b14
    have e15 : zI (zsI (zsI g0 m 4 (nI f)) m 5 (nI (bnc B))) m 15 = nI (bnp B) := by rw [sI_k (by omega), sI_k (by omega)]; exact b15
    have e16 : zI (zsI (zsI (zsI g0 m 4 (nI f)) m 5 (nI (bnc B))) m 6 (nI (bnp B))) m 16 = nI bu := by rw [sI_k (by omega), sI_k (by omega), sI_k (by omega)]; exact b16
    unfold fX7_load_s
    simp (disch := first | assumption | ((repeat apply RefT.s) <;> assumption) | omega) only [nl, nI_add, pk_mul, Option.bind_some, zb2_some, nI_le_t, nI_le_f, nI_lt_t, nI_lt_f, nI_eq_t, nI_eq_f, nI_m1, nI_em1, ↓reduceIte, Nat.add_zero, nI_n9, qI, b13, qp, e14, e15, e16, qg15, qb15]
  have o : ∀ a, a ≠ m → a ≠ m + 15 → zI (zsI (zsI (zsI (zsI g0 m 4 (nI f)) m 5 (nI (bnc B))) m 6 (nI (bnp B))) (m + 15) 3 (nI bu)) a = zI g a := fun a h1 h2 => by rw [sI_a h2, sI_a h1, sI_a h1, sI_a h1, ga a h2]
  have om : ∀ k, k ≠ 4 → k ≠ 5 → k ≠ 6 → zI (zsI (zsI (zsI (zsI g0 m 4 (nI f)) m 5 (nI (bnc B))) m 6 (nI (bnp B))) (m + 15) 3 (nI bu)) m k = zI g m k := fun k h1 h2 h3 => by rw [sI_a (by omega), sI_k h3, sI_k h2, sI_k h1, ga m (by omega)]
  have m4 : zI (zsI (zsI (zsI (zsI g0 m 4 (nI f)) m 5 (nI (bnc B))) m 6 (nI (bnp B))) (m + 15) 3 (nI bu)) m 4 = nI f := by rw [sI_a (by omega), sI_k (by omega), sI_k (by omega), sI_at]
  have m5 : zI (zsI (zsI (zsI (zsI g0 m 4 (nI f)) m 5 (nI (bnc B))) m 6 (nI (bnp B))) (m + 15) 3 (nI bu)) m 5 = nI (bnc B) := by rw [sI_a (by omega), sI_k (by omega), sI_at]
  have m6 : zI (zsI (zsI (zsI (zsI g0 m 4 (nI f)) m 5 (nI (bnc B))) m 6 (nI (bnp B))) (m + 15) 3 (nI bu)) m 6 = nI (bnp B) := by rw [sI_a (by omega), sI_at]
  have ld : zI (zsI (zsI (zsI (zsI g0 m 4 (nI f)) m 5 (nI (bnc B))) m 6 (nI (bnp B))) (m + 15) 3 (nI bu)) (m + 15) = nr (ldρ bu B 0) := by
    rw [sI_row2, sI_a (by omega), sI_a (by omega), sI_a (by omega), g15, up_n]
    congr 1
    funext j
    unfold va_up ldρ
    by_cases c : j = 3
    · rw [if_pos c, if_pos c]
    · rw [if_neg c, if_neg c, if_neg (by omega)]
  have kk : zkd (zsI (zsI (zsI (zsI g0 m 4 (nI f)) m 5 (nI (bnc B))) m 6 (nI (bnp B))) (m + 15) 3 (nI bu)) = zkd g ∧ zln (zsI (zsI (zsI (zsI g0 m 4 (nI f)) m 5 (nI (bnc B))) m 6 (nI (bnp B))) (m + 15) 3 (nI bu)) = zln g ∧ zJ (zsI (zsI (zsI (zsI g0 m 4 (nI f)) m 5 (nI (bnc B))) m 6 (nI (bnp B))) (m + 15) 3 (nI bu)) = zJ g ∧ zP (zsI (zsI (zsI (zsI g0 m 4 (nI f)) m 5 (nI (bnc B))) m 6 (nI (bnp B))) (m + 15) 3 (nI bu)) = zP g := k0
  have hT4 : RefT (zsI (zsI (zsI (zsI g0 m 4 (nI f)) m 5 (nI (bnc B))) m 6 (nI (bnp B))) (m + 15) 3 (nI bu)) m := hT0.s.s.s.s
  generalize zsI (zsI (zsI (zsI g0 m 4 (nI f)) m 5 (nI (bnc B))) m 6 (nI (bnp B))) (m + 15) 3 (nI bu) = g1 at *
  have hb1 : RBr g1 m f B := by
    obtain ⟨u1, u2, u3, u4, u5⟩ := hb
    refine ⟨by rw [om 13 (by omega) (by omega) (by omega)]; exact u1, by rw [om 14 (by omega) (by omega) (by omega)]; exact u2, by rw [om 15 (by omega) (by omega) (by omega)]; exact u3, fun c hc => ?_, fun p hp => ?_⟩
    · rw [o _ (by omega) (by omega), o _ (by omega) (by omega), o _ (by omega) (by omega), o _ (by omega) (by omega), o _ (by omega) (by omega)]
      exact u4 c hc
    · rw [o _ (by omega) (by omega), o _ (by omega) (by omega)]
      exact u5 p hp
  have mix0 : ∀ f g : zN', mix 0 f g = g := fun f g => funext fun j => if_neg (by omega)
  have L0 : LD m A f bu B g1 g1 0 := by
    refine ⟨hT4, rfl, rfl, rfl, rfl, fun _ _ _ _ _ _ => rfl, ?_, ?_, ?_, ?_, ld⟩
    · rw [mix0, o _ (by omega) (by omega)]; exact q4
    · rw [mix0, o _ (by omega) (by omega)]; exact q5
    · rw [mix0, o _ (by omega) (by omega)]; exact q6
    · rw [mix0, o _ (by omega) (by omega)]; exact q7
  obtain ⟨g2, l0, hT2, l1, l2, l3, l4, l5, l6, l7, l8, l9, l10⟩ := r_ld81 (k := fun h18 y19 => fX7_load_t m h18) hb1 m5 n20 (bnc B) 0 zF g1 (by omega) (by unfold zF; omega) L0
  have i5 : zI g2 m 5 = nI (bnc B) := by rw [l5 m (by omega) (by omega) (by omega) (by omega) (by omega)]; exact m5
  obtain ⟨g3, t0, t1, t2, t3, t4, t5, t6, t7, t8, t9, t10⟩ := r_ld_t hT2 i5
  have mm : ∀ k, k ≠ 28 → zI g3 m k = zI g1 m k := fun k hk => by rw [t6 k hk, l5 m (by omega) (by omega) (by omega) (by omega) (by omega)]
  have oo : ∀ a, a ≠ m → (a < m + 2 ∨ m + 7 < a) → a ≠ m + 15 → a ≠ m + 20 → zI g3 a = zI g a := fun a h1 h2 h3 h4 => by rw [t5 a h1 (by omega) (by omega) h4, l5 a (by omega) (by omega) (by omega) (by omega) h3, o a h1 h3]
  obtain ⟨ac, ea, ba⟩ := nr_all (zI g3 (m + 6))
  obtain ⟨li, el, bl⟩ := nr_all (zI g3 (m + 7))
  refine ⟨g3, st.trans (l0.trans t0), ⟨ac, li, fun p hp h6 => ?_, ?_⟩, ?_, ?_⟩
  · have e1 : nI (ac p) = nI (bac B p) := by
      have := congrFun ea p
      rw [t8 p h6, l5 _ (by omega) (by omega) (by omega) (by omega) (by omega), (hb1.2.2.2.2 p hp).1] at this
      exact this.symm
    have e2 : nI (li p) = nI (bli B p) := by
      have := congrFun el p
      rw [t9 p h6, l5 _ (by omega) (by omega) (by omega) (by omega) (by omega), (hb1.2.2.2.2 p hp).2] at this
      exact this.symm
    exact ⟨e1, e2, ba p, bl p⟩
  · refine ⟨RefT.fI t1 t2 (by rw [t4]) hT2, ⟨?_, fun i hi => ?_⟩, ⟨?_, ?_, ?_, ?_, ?_, ?_, ?_, ea, el⟩, ?_, t7, fun i hi => absurd hi (Nat.not_lt_zero _), fun k hk => t10 k hk, fun k _ z => (by cases z), ?_⟩
    · rw [mm 2 (by omega), om 2 (by omega) (by omega) (by omega)]; exact r2
    · rw [oo (m + 1) (by omega) (by omega) (by omega) (by omega)]; exact r3 i hi
    · rw [mm 4 (by omega)]; exact m4
    · rw [mm 5 (by omega)]; exact m5
    · rw [mm 6 (by omega)]; exact m6
    · rw [t5 _ (by omega) (by omega) (by omega) (by omega)]; exact l6
    · rw [t5 _ (by omega) (by omega) (by omega) (by omega)]; exact l7
    · rw [t5 _ (by omega) (by omega) (by omega) (by omega)]; exact l8
    · rw [t5 _ (by omega) (by omega) (by omega) (by omega)]; exact l9
    · rw [t5 _ (by omega) (by omega) (by omega) (by omega)]; exact l10
    · unfold Scr
      rw [oo (m + 16) (by omega) (by omega) (by omega) (by omega), oo (m + 17) (by omega) (by omega) (by omega) (by omega), oo (m + 23) (by omega) (by omega) (by omega) (by omega), oo (m + 21) (by omega) (by omega) (by omega) (by omega), oo (m + 22) (by omega) (by omega) (by omega) (by omega)]
      exact ⟨s1, s2, s3, s4, s5⟩
  · refine ⟨(t1.trans l1).trans kk.1, (t2.trans l2).trans kk.2.1, (t3.trans l3).trans kk.2.2.1, fun a ha => ⟨oo a (by omega) (by omega) (by omega) (by omega), by rw [t4, l4, kk.2.2.2]⟩⟩
  · rw [mm 0 (by omega), om 0 (by omega) (by omega) (by omega)]
theorem r_load {t : Nat} (hR : RI h m A) (hA : AI t A) : ∃ S, loadR A S ∧ RO h m (fX7_load h m) S := by
  have hT := hR.1
  obtain ⟨s, hs⟩ := any_nI (zI h m 3)
  have X : RX h m (aT A) (an A) s := ⟨hT, hR.2.1.1, hs, hR.2.1.2⟩
  have R := r_text X hA.1
  rw [fX7_load_e]
  unfold loadR
  cases hp : ptext (aT A) (an A) with
  | inl p =>
    rw [hp] at R
    obtain ⟨h2, e1, e2⟩ := R
    have R2 := RI_rtg hR e2
    have hT2 := R2.1
    have rf1 := r_ref (k := 1) hT2 (by omega)
    rw [if_neg (by decide)] at rf1
    have pl : p < 1000 := ptext_lt hA.1.1 hp
    have ne : (nI p = nI 4294967287) = False := eq_false fun q => by
      have := (nI_eqN (by omega) (by omega)).mp q
      omega
    refine ⟨(1, 0, A), rfl, nI 0, zsI h2 m 0 (nI 1), ?_, fun z => (by cases z), sI_at, RI_0 R2, (fr_rtg e2).tr fr0⟩
    simp (disch := first | assumption | ((repeat apply RefT.s) <;> assumption) | omega) only [nl, nI_add, pk_mul, Option.bind_some, zb2_some, nI_le_t, nI_le_f, nI_lt_t, nI_lt_f, nI_eq_t, nI_eq_f, nI_m1, nI_em1, ↓reduceIte, Nat.add_zero, nI_n9, hT.1, e1, ne, rf1]
    rfl
  | inr w =>
    obtain ⟨f, bu, B⟩ := w
    rw [hp] at R
    obtain ⟨h2, e1, eb, e16, e2⟩ := R
    have R2 := RI_rtg hR e2
    have hT2 := R2.1
    have rf0 := r_ref (k := 0) hT2 (by omega)
    rw [if_pos rfl] at rf0
    obtain ⟨p1, p2, p3, p4, ⟨⟨k1, k1', k2, k3⟩, k4, k5, k6⟩⟩ := ptext_ok hA.1.1 hp
    have R3 := RI_0 (v := nI 0) R2
    have eb3 : RBr (zsI h2 m 0 (nI 0)) m f B := by
      obtain ⟨u1, u2, u3, u4, u5⟩ := eb
      refine ⟨by rw [sI_k (by omega)]; exact u1, by rw [sI_k (by omega)]; exact u2, by rw [sI_k (by omega)]; exact u3, fun c hc => ?_, fun p hp => ?_⟩
      · rw [sI_a (by omega), sI_a (by omega), sI_a (by omega), sI_a (by omega), sI_a (by omega)]; exact u4 c hc
      · rw [sI_a (by omega), sI_a (by omega)]; exact u5 p hp
    obtain ⟨g', g0, ⟨ac, li, g1, g2⟩, g3, g4⟩ := r_ld_s R3 eb3 (by rw [sI_k (by omega)]; exact e16) k1'
    have z25 := r_ld25 (m := m) (ρ := aρ A) (k := fun h7 y8 => fX7_load_s m h7) hA.2.2.1.1.2.1 360 0 zF (zsI h2 m 0 (nI 0)) (by omega) (by unfold zF; omega) R3.1 (by
      have e0 : mix 0 (fun _ => 0) (aρ A) = aρ A := funext fun j => if_neg (by omega)
      rw [e0]
      exact R3.2.2.2.1)
    have fin : fX7_load_b m (nI 0) (zsI h2 m 0 (nI 0)) = some (nI (bnc B), g') := fX7_load_b0.trans (z25.trans g0)
    refine ⟨(0, nI (bnc B), loadA A f bu B ac li), ⟨ac, li, fun p hp => ?_, rfl⟩, nI (bnc B), g', ?_, fun _ => rfl, ?_, g2, ((fr_rtg e2).tr fr0).tr g3⟩
    · obtain ⟨w1, w2, w3, w4⟩ := g1 p hp (by omega)
      obtain ⟨v1, v2, v3, v4, v5⟩ := k6 p hp
      exact ⟨(nI_eqN w3 (by omega)).mp w1, (nI_eqN w4 (by omega)).mp w2⟩
    · simp (disch := first | assumption | ((repeat apply RefT.s) <;> assumption) | omega) only [nl, nI_add, pk_mul, Option.bind_some, zb2_some, nI_le_t, nI_le_f, nI_lt_t, nI_lt_f, nI_eq_t, nI_eq_f, nI_m1, nI_em1, ↓reduceIte, Nat.add_zero, nI_n9, hT.1, e1, rf0]
      exact fin
    · rw [g4, sI_at]
end RLOAD3
