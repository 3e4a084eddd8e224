/-! pure: new objects: entries and states -/
def Sm (h h' : zH) (a : Nat) : Prop := zkd h' a = zkd h a ∧ zln h' a = zln h a ∧ zI h' a = zI h a ∧ zP h' a = zP h a
section INI
variable {h h' g : zH} {a m p q kd len f c k v : Nat}
theorem Sm.rf : Sm h h a := ⟨rfl, rfl, rfl, rfl⟩
theorem Sm.tr (s : Sm h h' a) (t : Sm h' g a) : Sm h g a := ⟨t.1.trans s.1, t.2.1.trans s.2.1, t.2.2.1.trans s.2.2.1, t.2.2.2.trans s.2.2.2⟩
theorem al_sm (e : a ≠ zn h) : Sm h (zal h kd len) a := ⟨if_neg e, if_neg e, zz_ne e, zz_ne e⟩
theorem al_kd : zkd (zal h kd len) (zn h) = kd := if_pos rfl
theorem al_ln : zln (zal h kd len) (zn h) = len := if_pos rfl
theorem al_I : zI (zal h kd len) (zn h) = fun _ => 0 := zz_at
theorem al_n : zn (zal h kd len) = zn h + 1 := rfl
theorem sP_sm (e : a ≠ q) : Sm h (zsP h q k v) a := ⟨rfl, rfl, rfl, sP_a e⟩
theorem mk_ (e : zn h ≠ 0) : zmk h kd len = some (zal h kd len) := if_neg e
theorem pP_ (e : zkd h m = c + 1) (v0 : v ≠ 0) : zpP h c m k v = some (zsP h m k v) := if_pos ⟨e, v0⟩
/-- a cell is made and a field of m is set to it -/
def SA (m p kd len f : Nat) (h h' : zH) : Prop := (∀ a, a ≠ m → a ≠ p → Sm h h' a) ∧ (zkd h' m = zkd h m ∧ zln h' m = zln h m ∧ zI h' m = zI h m) ∧ zP h' m f = p ∧ (∀ j, j ≠ f → zP h' m j = zP h m j) ∧ (zkd h' p = kd ∧ zln h' p = len ∧ zI h' p = fun _ => 0) ∧ zn h' = p + 1
theorem sa_ (hn : zn h = p) (hm : m ≠ p) : SA m p kd len f h (zsP (zal h kd len) m f p) := by
  subst hn
  have s := al_sm (h := h) (kd := kd) (len := len) hm
  refine ⟨fun a h1 h2 => (al_sm h2).tr (sP_sm h1), ⟨s.1, s.2.1, s.2.2.1⟩, sP_at, fun j hj => ?_, ⟨al_kd (h := h) (kd := kd) (len := len), al_ln (h := h) (kd := kd) (len := len), al_I (h := h) (kd := kd) (len := len)⟩, rfl⟩
  rw [sP_k hj, s.2.2.2]
theorem stA {K : zH → Option zH} {Q : zH → Prop} (hn : zn h = p) (h0 : p ≠ 0) (hm : m ≠ p) (km : zkd h m = c + 1) (hk : ∀ h', SA m p kd len f h h' → ∃ g, K h' = some g ∧ Q g) : ∃ g, ((zmk h kd len).bind fun h1 => (zpP h1 c m f (zn h)).bind K) = some g ∧ Q g := by
  rw [mk_ (by omega), Option.bind_some, hn, pP_ (by rw [(al_sm (by omega)).1]; exact km) h0, Option.bind_some]
  exact hk _ (sa_ hn hm)
theorem ESh_sm (e : ∀ a, q ≤ a → a < q + 3 → Sm h h' a) (s : ESh h q) : ESh h' q := by
  unfold ESh
  rw [(e q (by omega) (by omega)).1, (e q (by omega) (by omega)).2.2.2, (e (q + 1) (by omega) (by omega)).1, (e (q + 1) (by omega) (by omega)).2.1, (e (q + 2) (by omega) (by omega)).1, (e (q + 2) (by omega) (by omega)).2.1]
  exact s
theorem i_ent (kd : zkd h q = 2) (hn : zn h = q + 1) : ∃ h', fX1_init h q = some h' ∧ (ESh h' q ∧ zn h' = q + 3 ∧ ∀ a, a < q → Sm h h' a) := by
  unfold fX1_init
  rw [if_pos kd]
  refine stA (p := q + 1) hn (by omega) (by omega) kd (fun h2 s1 => ?_)
  obtain ⟨a1, a2, a3, a4, a5, a6⟩ := s1
  refine stA (p := q + 2) a6 (by omega) (by omega) (a2.1.trans kd) (fun h4 s2 => ⟨h4, rfl, ?_⟩)
  obtain ⟨b1, b2, b3, b4, b5, b6⟩ := s2
  have m1 := b1 (q + 1) (by omega) (by omega)
  refine ⟨⟨by rw [b2.1, a2.1]; exact kd, by rw [b4 0 (by omega), a3], b3, by rw [m1.1]; exact a5.1, by rw [m1.2.1]; exact a5.2.1, b5.1, b5.2.1⟩, b6, fun a ha => (a1 a (by omega) (by omega)).tr (b1 a (by omega) (by omega))⟩
/-- a state that is being made, i entries are -/
def IS (q : Nat) (h : zH) (i : Nat) : Prop := zkd h q = 4 ∧ zP h q 0 = q + 1 ∧ zP h q 1 = q + 2 ∧ zkd h (q + 1) = 12 ∧ zln h (q + 1) = 12 ∧ zkd h (q + 2) = 9 ∧ zln h (q + 2) = 20 ∧ zn h = q + 3 + 3 * i ∧ ∀ j, j < i → ESh h (q + 3 + 3 * j) ∧ zP h (q + 1) j = q + 3 + 3 * j
theorem i_st_L : ∀ d i n (h : zH), i + d = 12 → d < n → IS q h i → ∃ h', fX3_init_L23 (fun h5 y6 => some h5) q n h (nI i) = some h' ∧ IS q h' 12 ∧ ∀ a, a < q → Sm h h' a := by
  intro d
  induction d with
  | zero =>
    intro i n h hi hn s
    obtain ⟨n, rfl⟩ := fuel1 hn
    have e : i = 12 := by omega
    subst e
    obtain ⟨a1, a2, a3, a4, a5, a6, a7, a8, a9⟩ := id s
    have g0 : zgP h 3 q 0 = some (q + 1) := gP_ a1 a2 (by omega)
    have l0 : zle h (q + 1) = some (nI 12) := le_ (by rw [a4]; omega) a5
    refine ⟨h, ?_, s, fun a _ => Sm.rf⟩
    rw [fX3_init_L23]
    simp (disch := first | assumption | (simp only [sI_kd, sP_kd, rw_kd, sI_ln, sP_ln, rw_ln] <;> first | assumption | omega) | omega) only [nl, nI_add, pk_mul, Option.bind_some, zb2_some, nI_le_t, nI_le_f, nI_lt_t, nI_lt_f, nI_eq_t, nI_eq_f, nI_m1, nI_em1, ↓reduceIte, Nat.add_zero, g0, l0]
  | succ d ih =>
    intro i n h hi hn s
    obtain ⟨n, rfl⟩ := fuel1 hn
    obtain ⟨a1, a2, a3, a4, a5, a6, a7, a8, a9⟩ := id s
    have g0 : zgP h 3 q 0 = some (q + 1) := gP_ a1 a2 (by omega)
    have l0 : zle h (q + 1) = some (nI 12) := le_ (by rw [a4]; omega) a5
    have mk := mk_ (h := h) (kd := 2) (len := 0) (by omega)
    have k5 : zkd (zal h 2 0) (q + 3 + 3 * i) = 2 := by rw [← a8]; exact al_kd
    have n5 : zn (zal h 2 0) = q + 3 + 3 * i + 1 := by rw [al_n, a8]
    have m5 : ∀ a, a < q + 3 + 3 * i → Sm h (zal h 2 0) a := fun a ha => al_sm (by omega)
    generalize zal h 2 0 = h5 at *
    obtain ⟨h6, e1, e2, e3, e4⟩ := i_ent k5 n5
    have m6 : ∀ a, a < q + 3 + 3 * i → Sm h h6 a := fun a ha => (m5 a ha).tr (e4 a ha)
    have wr : zbP h6 (q + 1) (nI i) (q + 3 + 3 * i) = some (zsP h6 (q + 1) i (q + 3 + 3 * i)) := bP_ (Or.inl ⟨by rw [(m6 (q + 1) (by omega)).1]; exact a4, e2.1⟩) (by rw [(m6 (q + 1) (by omega)).2.1, a5]; omega) (by rw [(m6 (q + 1) (by omega)).2.1, a5]; omega) (by omega)
    have m7 : ∀ a, a < q + 3 + 3 * i → a ≠ q + 1 → Sm h (zsP h6 (q + 1) i (q + 3 + 3 * i)) a := fun a h1 h2 => (m6 a h1).tr (sP_sm h2)
    have s7 : IS q (zsP h6 (q + 1) i (q + 3 + 3 * i)) (i + 1) := by
      have mq := m7 q (by omega) (by omega)
      have mc := m7 (q + 2) (by omega) (by omega)
      refine ⟨by rw [mq.1]; exact a1, by rw [mq.2.2.2]; exact a2, by rw [mq.2.2.2]; exact a3, (m6 (q + 1) (by omega)).1.trans a4, (m6 (q + 1) (by omega)).2.1.trans a5, by rw [mc.1]; exact a6, by rw [mc.2.1]; exact a7, ?_, fun j hj => ?_⟩
      · show zn h6 = _
        rw [e3]
        omega
      · by_cases c : j = i
        · subst c
          exact ⟨ESh_sm (fun a h1 h2 => sP_sm (by omega)) e2, sP_at⟩
        · obtain ⟨u1, u2⟩ := a9 j (by omega)
          refine ⟨ESh_sm (fun a h1 h2 => m7 a (by omega) (by omega)) u1, ?_⟩
          rw [sP_k c, (m6 (q + 1) (by omega)).2.2.2, u2]
    obtain ⟨h', i1, i2, i3⟩ := ih (i + 1) n _ (by omega) (by omega) s7
    refine ⟨h', ?_, i2, fun a ha => (m7 a (by omega) (by omega)).tr (i3 a ha)⟩
    rw [fX3_init_L23, a8]
    simp (disch := first | assumption | (simp only [sI_kd, sP_kd, rw_kd, sI_ln, sP_ln, rw_ln] <;> first | assumption | omega) | omega) only [nl, nI_add, pk_mul, Option.bind_some, zb2_some, nI_le_t, nI_le_f, nI_lt_t, nI_lt_f, nI_eq_t, nI_eq_f, nI_m1, nI_em1, ↓reduceIte, Nat.add_zero, g0, l0, mk, e1, wr]
    exact i1
theorem SSh_sm (e : ∀ a, q ≤ a → a < q + 39 → Sm h h' a) (s : SSh h q) : SSh h' q := by
  obtain ⟨a1, a2, a3, a4, a5, a6, a7, a8, a9, a10⟩ := s
  unfold SSh
  rw [(e q (by omega) (by omega)).1, (e q (by omega) (by omega)).2.2.2, (e (q + 1) (by omega) (by omega)).1, (e (q + 1) (by omega) (by omega)).2.1, (e (q + 1) (by omega) (by omega)).2.2.2, (e (q + 2) (by omega) (by omega)).1, (e (q + 2) (by omega) (by omega)).2.1]
  exact ⟨a1, a2, a3, a4, a5, a6, a7, fun j hj => ESh_sm (fun a h1 h2 => e a (by omega) (by omega)) (a8 j hj), a9, a10⟩
theorem i_st (kd : zkd h q = 4) (hn : zn h = q + 1) : ∃ h', fX3_init h q = some h' ∧ (SSh h' q ∧ zn h' = q + 39 ∧ ∀ a, a < q → Sm h h' a) := by
  unfold fX3_init
  rw [if_pos kd]
  refine stA (p := q + 1) hn (by omega) (by omega) kd (fun h2 s1 => ?_)
  obtain ⟨a1, a2, a3, a4, a5, a6⟩ := s1
  refine stA (p := q + 2) a6 (by omega) (by omega) (a2.1.trans kd) (fun h4 s2 => ?_)
  obtain ⟨b1, b2, b3, b4, b5, b6⟩ := s2
  have m1 := b1 (q + 1) (by omega) (by omega)
  have s0 : IS q h4 0 := ⟨by rw [b2.1, a2.1]; exact kd, by rw [b4 0 (by omega), a3], b3, by rw [m1.1]; exact a5.1, by rw [m1.2.1]; exact a5.2.1, b5.1, b5.2.1, b6, fun j hj => absurd hj (by omega)⟩
  obtain ⟨h', i1, i2, i3⟩ := i_st_L (q := q) 12 0 13 h4 (by omega) (by omega) s0
  obtain ⟨c1, c2, c3, c4, c5, c6, c7, c8, c9⟩ := i2
  refine ⟨h', i1, ⟨c1, c2, c3, c4, c5, c6, c7, fun j hj => (c9 j hj).1, fun i hi => ⟨i, hi, (c9 i hi).2⟩, fun i j hi hj e => ?_⟩, by rw [c8], fun a ha => ((a1 a (by omega) (by omega)).tr (b1 a (by omega) (by omega))).tr (i3 a ha)⟩
  rw [(c9 i hi).2, (c9 j hj).2] at e
  omega
end INI
