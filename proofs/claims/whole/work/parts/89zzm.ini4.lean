/-! pure: the component's constructor, arrays and boards -/
def BN (p : Nat) (g : zH) : Prop := BSh g p ∧ zI g p 8 = nI 1 ∧ zI g p 9 = nI 0 ∧ zI g p 10 = nI 0 ∧ zI g p 11 = nI 1000
/-- all fields -/
def PB (x : Nat) (h : zH) : Prop := zkd h x = 7 ∧ (zP h x 0 = x + 1 ∧ zP h x 1 = x + 3 ∧ zP h x 2 = x + 40 ∧ zP h x 3 = x + 77 ∧ zP h x 4 = x + 78 ∧ zP h x 5 = x + 117) ∧ (CSh h (x + 1) ∧ zI h (x + 1) = fun _ => 0) ∧ PSh h (x + 3) ∧ PSh h (x + 40) ∧ zkd h (x + 77) = 6 ∧ SSh h (x + 78) ∧ SSh h (x + 117) ∧ (zP h x 6 = x + 156 ∧ zP h x 7 = x + 157 ∧ zP h x 8 = x + 158 ∧ zP h x 9 = x + 159 ∧ zP h x 10 = x + 168) ∧ (zkd h (x + 156) = 13 ∧ zln h (x + 156) = 14) ∧ (zkd h (x + 157) = 13 ∧ zln h (x + 157) = 2) ∧ (zkd h (x + 158) = 11 ∧ zln h (x + 158) = 2) ∧ BN (x + 159) h ∧ BSh h (x + 168)
section INI4
variable {h h' : zH} {x p : Nat}
theorem BN_sm (e : ∀ a, p ≤ a → a < p + 9 → Sm h h' a) (s : BN p h) : BN p h' := by
  obtain ⟨s1, s2, s3, s4, s5⟩ := s
  have q := (e p (by omega) (by omega)).2.2.1
  refine ⟨BSh_sm e s1, ?_, ?_, ?_, ?_⟩
  · rw [q]; exact s2
  · rw [q]; exact s3
  · rw [q]; exact s4
  · rw [q]; exact s5
theorem i_BN {g : zH} (g1 : zkd g p = 1) (g2 : zn g = p + 1) : ∃ g', fX0_init g p = some g' ∧ BN p g' ∧ zn g' = p + 9 ∧ ∀ a, a < p → Sm g g' a := by
  obtain ⟨g', i1, ⟨i2, i3, i4, i5, -⟩, i6, i7, i8⟩ := i_brd g1 g2
  exact ⟨g', i1, ⟨i2, i3, i4, i5, i6⟩, i7, i8⟩
theorem i_B {K : zH → Option zH} {Q : zH → Prop} (s : PA x h) (hk : ∀ h', PB x h' → zn h' = x + 177 → ∃ g, K h' = some g ∧ Q g) : ∃ g, ((zmk h 13 14).bind fun h19 =>
    (zpP h19 6 x 6 (zn h)).bind fun h20 =>
    (zmk h20 13 2).bind fun h21 =>
    (zpP h21 6 x 7 (zn h20)).bind fun h22 =>
    (zmk h22 11 2).bind fun h23 =>
    (zpP h23 6 x 8 (zn h22)).bind fun h24 =>
    (zmk h24 1 0).bind fun h25 =>
    (fX0_init h25 ((zn h24))).bind fun h26 =>
    (zpP h26 6 x 9 (zn h24)).bind fun h27 =>
    (zmk h27 1 0).bind fun h28 =>
    (fX0_init h28 ((zn h27))).bind fun h29 =>
    (zpP h29 6 x 10 (zn h27)).bind K) = some g ∧ Q g := by
  refine stA (p := x + 156) s.1.2 (by omega) (by omega) s.1.1 (fun h1 s1 => ?_)
  have k1 := s1.2.1.1.trans s.1.1
  refine stA (p := x + 157) s1.2.2.2.2.2 (by omega) (by omega) k1 (fun h2 s2 => ?_)
  have k2 := s2.2.1.1.trans k1
  refine stA (p := x + 158) s2.2.2.2.2.2 (by omega) (by omega) k2 (fun h3 s3 => ?_)
  have k3 := s3.2.1.1.trans k2
  refine stO (p := x + 159) (sz := 9) (Sh := BN (x + 159)) s3.2.2.2.2.2 (by omega) k3 (fun g g1 g2 g3 => i_BN g1 g2) (fun h4 s4 => ?_)
  have k4 := s4.2.1.1.trans k3
  refine stO (p := x + 168) (sz := 9) (Sh := BN (x + 168)) s4.2.2.2.2.2 (by omega) k4 (fun g g1 g2 g3 => i_BN g1 g2) (fun h5 s5 => hk h5 ?_ s5.2.2.2.2.2)
  have k5 := s5.2.1.1.trans k4
  have m4 : ∀ a, a < x + 168 → a ≠ x → Sm h4 h5 a := s5.1
  have m3 : ∀ a, a < x + 159 → a ≠ x → Sm h3 h5 a := fun a u1 u2 => (s4.1 a u1 u2).tr (m4 a (by omega) u2)
  have m2 : ∀ a, a < x + 158 → a ≠ x → Sm h2 h5 a := fun a u1 u2 => (s3.1 a u2 (by omega)).tr (m3 a (by omega) u2)
  have m1 : ∀ a, a < x + 157 → a ≠ x → Sm h1 h5 a := fun a u1 u2 => (s2.1 a u2 (by omega)).tr (m2 a (by omega) u2)
  have m0 : ∀ a, a < x + 156 → a ≠ x → Sm h h5 a := fun a u1 u2 => (s1.1 a u2 (by omega)).tr (m1 a (by omega) u2)
  have ep : ∀ j, j < 6 → zP h5 x j = zP h x j := fun j hj => by
    rw [s5.2.2.2.1 j (by omega), s4.2.2.2.1 j (by omega), s3.2.2.2.1 j (by omega), s2.2.2.2.1 j (by omega), s1.2.2.2.1 j (by omega)]
  obtain ⟨b1, b2, b3, b4, b5, b6, b7, b8⟩ := PA_sm m0 (k5.trans s.1.1.symm) ep s
  obtain ⟨g4, q4, t4⟩ := s4.2.2.2.2.1
  obtain ⟨g5, q5, t5⟩ := s5.2.2.2.2.1
  have f1 := m1 (x + 156) (by omega) (by omega)
  have f2 := m2 (x + 157) (by omega) (by omega)
  have f3 := m3 (x + 158) (by omega) (by omega)
  refine ⟨b1, b2, b3, b4, b5, b6, b7, b8, ⟨?_, ?_, ?_, ?_, s5.2.2.1⟩, ⟨f1.1.trans s1.2.2.2.2.1.1, f1.2.1.trans s1.2.2.2.2.1.2.1⟩, ⟨f2.1.trans s2.2.2.2.2.1.1, f2.2.1.trans s2.2.2.2.2.1.2.1⟩, ⟨f3.1.trans s3.2.2.2.2.1.1, f3.2.1.trans s3.2.2.2.2.1.2.1⟩, BN_sm (fun a u1 u2 => (t4 a u1).tr (m4 a (by omega) (by omega))) q4, BSh_sm (fun a u1 u2 => t5 a u1) q5.1⟩
  · rw [s5.2.2.2.1 6 (by decide), s4.2.2.2.1 6 (by decide), s3.2.2.2.1 6 (by decide), s2.2.2.2.1 6 (by decide)]; exact s1.2.2.1
  · rw [s5.2.2.2.1 7 (by decide), s4.2.2.2.1 7 (by decide), s3.2.2.2.1 7 (by decide)]; exact s2.2.2.1
  · rw [s5.2.2.2.1 8 (by decide), s4.2.2.2.1 8 (by decide)]; exact s3.2.2.1
  · rw [s5.2.2.2.1 9 (by decide)]; exact s4.2.2.1
/-- all but two arrays' references -/
theorem PB_sm (e : ∀ a, a < x + 177 → a ≠ x + 156 → a ≠ x + 157 → Sm h h' a) (e1 : zkd h' (x + 156) = zkd h (x + 156) ∧ zln h' (x + 156) = zln h (x + 156)) (e2 : zkd h' (x + 157) = zkd h (x + 157) ∧ zln h' (x + 157) = zln h (x + 157)) (s : PB x h) : PB x h' := by
  obtain ⟨a1, a2, ⟨a3, a3'⟩, a4, a5, a6, a7, a8, a9, a10, a11, a12, a13, a14⟩ := s
  have q := e x (by omega) (by omega) (by omega)
  have q8 := e (x + 158) (by omega) (by omega) (by omega)
  refine ⟨q.1.trans a1, by rw [q.2.2.2]; exact a2, ⟨CSh_sm (fun a u1 u2 => e a (by omega) (by omega) (by omega)) a3, (e (x + 1) (by omega) (by omega) (by omega)).2.2.1.trans a3'⟩, PSh_sm (fun a u1 u2 => e a (by omega) (by omega) (by omega)) a4, PSh_sm (fun a u1 u2 => e a (by omega) (by omega) (by omega)) a5, (e (x + 77) (by omega) (by omega) (by omega)).1.trans a6, SSh_sm (fun a u1 u2 => e a (by omega) (by omega) (by omega)) a7, SSh_sm (fun a u1 u2 => e a (by omega) (by omega) (by omega)) a8, by rw [q.2.2.2]; exact a9, ⟨e1.1.trans a10.1, e1.2.trans a10.2⟩, ⟨e2.1.trans a11.1, e2.2.trans a11.2⟩, ⟨q8.1.trans a12.1, q8.2.1.trans a12.2⟩, BN_sm (fun a u1 u2 => e a (by omega) (by omega) (by omega)) a13, BSh_sm (fun a u1 u2 => e a (by omega) (by omega) (by omega)) a14⟩
/-- the memory is being made -/
def IM (x : Nat) (h : zH) (i : Nat) : Prop := PB x h ∧ zn h = x + 177 + 39 * i ∧ ∀ j, j < i → zP h (x + 156) j = x + 177 + 39 * j ∧ SSh h (x + 177 + 39 * j)
theorem i_M {K : zH → Int32 → Option zH} {Q : zH → Prop} (hk : ∀ h y, IM x h 14 → ∃ g, K h y = some g ∧ Q g) : ∀ d i n (h : zH), i + d = 14 → d < n → IM x h i → ∃ g, fX6_init_L118 K x n h (nI i) = some g ∧ Q g := by
  intro d
  induction d with
  | zero =>
    intro i n h hi hn s
    obtain ⟨n, rfl⟩ := fuel1 hn
    have e : i = 14 := by omega
    subst e
    obtain ⟨a1, a2, a3⟩ := id s
    have g0 : zgP h 6 x 6 = some (x + 156) := gP_ a1.1 a1.2.2.2.2.2.2.2.2.1.1 (by omega)
    have l0 : zle h (x + 156) = some (nI 14) := le_ (by rw [a1.2.2.2.2.2.2.2.2.2.1.1]; omega) a1.2.2.2.2.2.2.2.2.2.1.2
    obtain ⟨g, k1, k2⟩ := hk h (nI 14) s
    refine ⟨g, ?_, k2⟩
    rw [fX6_init_L118]
    simp (disch := first | assumption | (simp only [sI_kd, sP_kd, rw_kd, sI_ln, sP_ln, rw_ln] <;> first | assumption | omega) | omega) only [nl, nI_add, pk_mul, Option.bind_some, zb2_some, nI_le_t, nI_le_f, nI_lt_t, nI_lt_f, nI_eq_t, nI_eq_f, nI_m1, nI_em1, ↓reduceIte, Nat.add_zero, g0, l0]
    exact k1
  | succ d ih =>
    intro i n h hi hn s
    obtain ⟨n, rfl⟩ := fuel1 hn
    obtain ⟨a1, a2, a3⟩ := id s
    have kd6 := a1.2.2.2.2.2.2.2.2.2.1
    have g0 : zgP h 6 x 6 = some (x + 156) := gP_ a1.1 a1.2.2.2.2.2.2.2.2.1.1 (by omega)
    have l0 : zle h (x + 156) = some (nI 14) := le_ (by rw [kd6.1]; omega) kd6.2
    have mk := mk_ (h := h) (kd := 4) (len := 0) (by omega)
    have k5 : zkd (zal h 4 0) (x + 177 + 39 * i) = 4 := by rw [← a2]; exact al_kd
    have n5 : zn (zal h 4 0) = x + 177 + 39 * i + 1 := by rw [al_n, a2]
    have m5 : ∀ a, a < x + 177 + 39 * i → Sm h (zal h 4 0) a := fun a ha => al_sm (by omega)
    generalize zal h 4 0 = h5 at *
    obtain ⟨h6, e1, e2, e3, e4⟩ := i_st k5 n5
    have m6 : ∀ a, a < x + 177 + 39 * i → Sm h h6 a := fun a ha => (m5 a ha).tr (e4 a ha)
    have q6 := m6 (x + 156) (by omega)
    have wr : zbP h6 (x + 156) (nI i) (x + 177 + 39 * i) = some (zsP h6 (x + 156) i (x + 177 + 39 * i)) := bP_ (Or.inr ⟨q6.1.trans kd6.1, e2.1⟩) (by rw [q6.2.1, kd6.2]; omega) (by rw [q6.2.1, kd6.2]; omega) (by omega)
    have m7 : ∀ a, a < x + 177 + 39 * i → a ≠ x + 156 → Sm h (zsP h6 (x + 156) i (x + 177 + 39 * i)) a := fun a h1 h2 => (m6 a h1).tr (sP_sm h2)
    have q7 := m7 (x + 157) (by omega) (by omega)
    have s7 : IM x (zsP h6 (x + 156) i (x + 177 + 39 * i)) (i + 1) := by
      refine ⟨PB_sm (fun a h1 h2 h3 => m7 a (by omega) h2) ⟨q6.1, q6.2.1⟩ ⟨q7.1, q7.2.1⟩ a1, ?_, fun j hj => ?_⟩
      · show zn h6 = _
        rw [e3]
        omega
      · by_cases c : j = i
        · subst c
          exact ⟨sP_at, SSh_sm (fun a h1 h2 => sP_sm (by omega)) e2⟩
        · obtain ⟨u1, u2⟩ := a3 j (by omega)
          refine ⟨?_, SSh_sm (fun a h1 h2 => m7 a (by omega) (by omega)) u2⟩
          rw [sP_k c, q6.2.2.2, u1]
    obtain ⟨g, i1, i2⟩ := ih (i + 1) n _ (by omega) (by omega) s7
    refine ⟨g, ?_, i2⟩
    rw [fX6_init_L118, a2]
    simp (disch := first | assumption | (simp only [sI_kd, sP_kd, rw_kd, sI_ln, sP_ln, rw_ln] <;> first | assumption | omega) | omega) only [nl, nI_add, pk_mul, Option.bind_some, zb2_some, nI_le_t, nI_le_f, nI_lt_t, nI_lt_f, nI_eq_t, nI_eq_f, nI_m1, nI_em1, ↓reduceIte, Nat.add_zero, g0, l0, mk, e1, wr]
    exact i1
/-- the slots are being made -/
def IK (x : Nat) (h : zH) (i : Nat) : Prop := PB x h ∧ zn h = x + 723 + 39 * i ∧ (∀ j, j < 14 → zP h (x + 156) j = x + 177 + 39 * j ∧ SSh h (x + 177 + 39 * j)) ∧ ∀ j, j < i → zP h (x + 157) j = x + 723 + 39 * j ∧ SSh h (x + 723 + 39 * j)
theorem i_K {K : zH → Int32 → Option zH} {Q : zH → Prop} (hk : ∀ h y, IK x h 2 → ∃ g, K h y = some g ∧ Q g) : ∀ d i n (h : zH), i + d = 2 → d < n → IK x h i → ∃ g, fX6_init_L148 K x n h (nI i) = some g ∧ Q g := by
  intro d
  induction d with
  | zero =>
    intro i n h hi hn s
    obtain ⟨n, rfl⟩ := fuel1 hn
    have e : i = 2 := by omega
    subst e
    obtain ⟨a1, a2, a3, a4⟩ := id s
    have kd7 := a1.2.2.2.2.2.2.2.2.2.2.1
    have g0 : zgP h 6 x 7 = some (x + 157) := gP_ a1.1 a1.2.2.2.2.2.2.2.2.1.2.1 (by omega)
    have l0 : zle h (x + 157) = some (nI 2) := le_ (by rw [kd7.1]; omega) kd7.2
    obtain ⟨g, k1, k2⟩ := hk h (nI 2) s
    refine ⟨g, ?_, k2⟩
    rw [fX6_init_L148]
    simp (disch := first | assumption | (simp only [sI_kd, sP_kd, rw_kd, sI_ln, sP_ln, rw_ln] <;> first | assumption | omega) | omega) only [nl, nI_add, pk_mul, Option.bind_some, zb2_some, nI_le_t, nI_le_f, nI_lt_t, nI_lt_f, nI_eq_t, nI_eq_f, nI_m1, nI_em1, ↓reduceIte, Nat.add_zero, g0, l0]
    exact k1
  | succ d ih =>
    intro i n h hi hn s
    obtain ⟨n, rfl⟩ := fuel1 hn
    obtain ⟨a1, a2, a3, a4⟩ := id s
    have kd7 := a1.2.2.2.2.2.2.2.2.2.2.1
    have g0 : zgP h 6 x 7 = some (x + 157) := gP_ a1.1 a1.2.2.2.2.2.2.2.2.1.2.1 (by omega)
    have l0 : zle h (x + 157) = some (nI 2) := le_ (by rw [kd7.1]; omega) kd7.2
    have mk := mk_ (h := h) (kd := 4) (len := 0) (by omega)
    have k5 : zkd (zal h 4 0) (x + 723 + 39 * i) = 4 := by rw [← a2]; exact al_kd
    have n5 : zn (zal h 4 0) = x + 723 + 39 * i + 1 := by rw [al_n, a2]
    have m5 : ∀ a, a < x + 723 + 39 * i → Sm h (zal h 4 0) a := fun a ha => al_sm (by omega)
    generalize zal h 4 0 = h5 at *
    obtain ⟨h6, e1, e2, e3, e4⟩ := i_st k5 n5
    have m6 : ∀ a, a < x + 723 + 39 * i → Sm h h6 a := fun a ha => (m5 a ha).tr (e4 a ha)
    have q6 := m6 (x + 157) (by omega)
    have wr : zbP h6 (x + 157) (nI i) (x + 723 + 39 * i) = some (zsP h6 (x + 157) i (x + 723 + 39 * i)) := bP_ (Or.inr ⟨q6.1.trans kd7.1, e2.1⟩) (by rw [q6.2.1, kd7.2]; omega) (by rw [q6.2.1, kd7.2]; omega) (by omega)
    have m7 : ∀ a, a < x + 723 + 39 * i → a ≠ x + 157 → Sm h (zsP h6 (x + 157) i (x + 723 + 39 * i)) a := fun a h1 h2 => (m6 a h1).tr (sP_sm h2)
    have q7 := m7 (x + 156) (by omega) (by omega)
    have s7 : IK x (zsP h6 (x + 157) i (x + 723 + 39 * i)) (i + 1) := by
      refine ⟨PB_sm (fun a h1 h2 h3 => m7 a (by omega) h3) ⟨q7.1, q7.2.1⟩ ⟨q6.1, q6.2.1⟩ a1, ?_, fun j hj => ?_, fun j hj => ?_⟩
      · show zn h6 = _
        rw [e3]
        omega
      · obtain ⟨u1, u2⟩ := a3 j hj
        exact ⟨by rw [q7.2.2.2]; exact u1, SSh_sm (fun a h1 h2 => m7 a (by omega) (by omega)) u2⟩
      · by_cases c : j = i
        · subst c
          exact ⟨sP_at, SSh_sm (fun a h1 h2 => sP_sm (by omega)) e2⟩
        · obtain ⟨u1, u2⟩ := a4 j (by omega)
          refine ⟨?_, SSh_sm (fun a h1 h2 => m7 a (by omega) (by omega)) u2⟩
          rw [sP_k c, q6.2.2.2, u1]
    obtain ⟨g, i1, i2⟩ := ih (i + 1) n _ (by omega) (by omega) s7
    refine ⟨g, ?_, i2⟩
    rw [fX6_init_L148, a2]
    simp (disch := first | assumption | (simp only [sI_kd, sP_kd, rw_kd, sI_ln, sP_ln, rw_ln] <;> first | assumption | omega) | omega) only [nl, nI_add, pk_mul, Option.bind_some, zb2_some, nI_le_t, nI_le_f, nI_lt_t, nI_lt_f, nI_eq_t, nI_eq_f, nI_m1, nI_em1, ↓reduceIte, Nat.add_zero, g0, l0, mk, e1, wr]
    exact i1
end INI4
