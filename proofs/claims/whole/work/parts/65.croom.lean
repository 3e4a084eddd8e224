/-! pure: the component makes room as the reference does -/
def tie (ρ : zN') (but : Nat) (s : Option (Nat × Nat) × Nat) (lo n : Nat) : Prop :=
  (∀ e' f', (lo < e' ∧ e' < ρ 0 ∧ f' < 8 ∨ e' = lo ∧ f' < n) → e' ≠ but → ρ (24 + 28 * e' + 16 + f') = 2 → ρ (24 + 28 * e' + f') ≤ s.2) ∧
  ∀ a b, s.1 = some (a, b) → s.2 = ρ (24 + 28 * a + b) ∧ lo ≤ a ∧ (a = lo → b < n) ∧ ∀ e' f', (lo < e' ∧ e' < ρ 0 ∧ f' < 8 ∨ e' = lo ∧ f' < n) → e' ≠ but → ρ (24 + 28 * e' + 16 + f') = 2 → (a < e' ∨ e' = a ∧ f' < b) → ρ (24 + 28 * e' + f') < s.2
theorem tie_s {ρ : zN'} {but e f : Nat} {s : Option (Nat × Nat) × Nat} (t : tie ρ but s e f) : tie ρ but (nlgs ρ but e f s) e (f + 1) := by
  obtain ⟨t1, t2⟩ := t
  unfold nlgs
  by_cases c : e ≠ but ∧ ρ (24 + 28 * e + 16 + f) = 2 ∧ s.2 < ρ (24 + 28 * e + f)
  · rw [if_pos c]
    refine ⟨fun e' f' hp hb hd => ?_, fun a b hab => ?_⟩
    · show _ ≤ ρ (24 + 28 * e + f)
      by_cases z : e' = e ∧ f' = f
      · rw [z.1, z.2]; exact Nat.le_refl _
      · have := t1 e' f' (by omega) hb hd
        omega
    · cases hab
      refine ⟨rfl, Nat.le_refl _, fun _ => by omega, fun e' f' hp hb hd ho => ?_⟩
      show _ < ρ (24 + 28 * e + f)
      have := t1 e' f' (by omega) hb hd
      omega
  · rw [if_neg c]
    have key : e ≠ but → ρ (24 + 28 * e + 16 + f) = 2 → ρ (24 + 28 * e + f) ≤ s.2 := fun h1 h2 => by
      rcases Nat.lt_or_ge s.2 (ρ (24 + 28 * e + f)) with q | q
      · exact absurd ⟨h1, h2, q⟩ c
      · exact q
    refine ⟨fun e' f' hp hb hd => ?_, fun a b hab => ?_⟩
    · by_cases z : e' = e ∧ f' = f
      · obtain ⟨rfl, rfl⟩ := z
        exact key hb hd
      · exact t1 e' f' (by omega) hb hd
    · obtain ⟨u1, u2, u3, u4⟩ := t2 a b hab
      refine ⟨u1, u2, fun w => by have := u3 w; omega, fun e' f' hp hb hd ho => ?_⟩
      by_cases z : e' = e ∧ f' = f
      · obtain ⟨rfl, rfl⟩ := z
        rcases ho with ho | ho
        · omega
        · have := u3 ho.1.symm
          omega
      · exact u4 e' f' (by omega) hb hd ho
theorem tie_i {ρ : zN'} {but e : Nat} {s : Option (Nat × Nat) × Nat} (t : tie ρ but s e 0) : ∀ n, tie ρ but (nlgi ρ but e s n) e n := by
  intro n
  induction n with
  | zero => exact t
  | succ n ih => exact tie_s ih
theorem tie_d {ρ : zN'} {but lo : Nat} {s : Option (Nat × Nat) × Nat} (t : tie ρ but s (lo + 1) 8) : tie ρ but s lo 0 := by
  obtain ⟨t1, t2⟩ := t
  refine ⟨fun e' f' hp hb hd => t1 e' f' (by omega) hb hd, fun a b hab => ?_⟩
  obtain ⟨u1, u2, u3, u4⟩ := t2 a b hab
  exact ⟨u1, by omega, fun w => by omega, fun e' f' hp hb hd ho => u4 e' f' (by omega) hb hd ho⟩
theorem tie_o {ρ : zN'} {but : Nat} : ∀ j, j + 1 ≤ ρ 0 → tie ρ but (nlgo ρ but (ρ 0) (j + 1)) (ρ 0 - 1 - j) 8 := by
  intro j
  induction j with
  | zero =>
    intro hj
    have t0 : tie ρ but (none, 0) (ρ 0 - 1) 0 := ⟨fun e' f' hp => by omega, fun a b hab => by cases hab⟩
    exact tie_i t0 8
  | succ j ih =>
    intro hj
    have i := ih (by omega)
    rw [show ρ 0 - 1 - j = (ρ 0 - 1 - (j + 1)) + 1 by omega] at i
    exact tie_i (tie_d i) 8
theorem nlg_tie {ρ : zN'} {but e f : Nat} (h : nlg ρ but = some (e, f)) : ∀ e' f', e' < ρ 0 → f' < 8 → e' ≠ but → ρ (24 + 28 * e' + 16 + f') = 2 → (e < e' ∨ e' = e ∧ f' < f) → ρ (24 + 28 * e' + f') < ρ (24 + 28 * e + f) := by
  have h1 := (nlg_some h).1
  obtain ⟨j, hj⟩ : ∃ j, ρ 0 = j + 1 := ⟨ρ 0 - 1, by omega⟩
  have t := tie_o (ρ := ρ) (but := but) j (by omega)
  unfold nlg at h
  rw [show nlgo ρ but (ρ 0) (ρ 0) = nlgo ρ but (ρ 0) (j + 1) by rw [← hj]] at h
  intro e' f' g1 g2 g3 g4 g5
  obtain ⟨u1, u2, u3, u4⟩ := t.2 e f h
  have := u4 e' f' (by omega) g3 g4 g5
  omega
def nlv (ρ : zN') (o : Option Nat) : Nat := match o with
  | none => 0
  | some i => match nld ρ i 8 with
    | none => 0
    | some f => ρ (24 + 28 * i + f)
theorem nlv_s {ρ : zN'} {o f : Nat} (h : nld ρ o 8 = some f) : nlv ρ (some o) = ρ (24 + 28 * o + f) := by
  show (match nld ρ o 8 with | none => 0 | some f => ρ (24 + 28 * o + f)) = _
  rw [h]
def ndl (ρ : zN') (but : Nat) : Nat → Option Nat
  | 0 => none
  | i + 1 => if i = but then ndl ρ but i else match nld ρ i 8 with
    | none => ndl ρ but i
    | some f => if ρ (24 + 28 * i + f) < nlv ρ (ndl ρ but i) then ndl ρ but i else some i
theorem ndlN {ρ : zN'} {but : Nat} : ∀ {n : Nat}, ndl ρ but n = none → ∀ i, i < n → i ≠ but → ∀ g, nld ρ i 8 ≠ some g := by
  intro n
  induction n with
  | zero => intro h i hi; omega
  | succ n ih =>
    intro h i hi hb g hg
    unfold ndl at h
    by_cases c : n = but
    · rw [if_pos c] at h
      exact ih h i (by omega) hb g hg
    · rw [if_neg c] at h
      cases hn : nld ρ n 8 with
      | none =>
        rw [hn] at h
        by_cases z : i = n
        · rw [z, hn] at hg; cases hg
        · exact ih h i (by omega) hb g hg
      | some w =>
        rw [hn] at h
        dsimp only at h
        by_cases l : ρ (24 + 28 * n + w) < nlv ρ (ndl ρ but n)
        · rw [if_pos l, ] at h
          rw [h] at l
          exact absurd l (Nat.not_lt_zero _)
        · rw [if_neg l] at h
          cases h
theorem ndl_some {ρ : zN'} {but o : Nat} : ∀ {n : Nat}, ndl ρ but n = some o → o < n ∧ o ≠ but ∧ ∃ f, nld ρ o 8 = some f ∧ ∀ i g, i < n → i ≠ but → nld ρ i 8 = some g → ρ (24 + 28 * i + g) ≤ ρ (24 + 28 * o + f) ∧ (o < i → ρ (24 + 28 * i + g) < ρ (24 + 28 * o + f)) := by
  intro n
  induction n generalizing o with
  | zero => intro h; cases h
  | succ n ih =>
    intro h
    unfold ndl at h
    by_cases c : n = but
    · rw [if_pos c] at h
      obtain ⟨i1, i2, f, i3, i4⟩ := ih h
      refine ⟨by omega, i2, f, i3, fun i g hi hb hg => i4 i g ?_ hb hg⟩
      omega
    · rw [if_neg c] at h
      cases hn : nld ρ n 8 with
      | none =>
        rw [hn] at h
        obtain ⟨i1, i2, f, i3, i4⟩ := ih h
        refine ⟨by omega, i2, f, i3, fun i g hi hb hg => i4 i g ?_ hb hg⟩
        by_cases z : i = n
        · rw [z, hn] at hg; cases hg
        · omega
      | some w =>
        rw [hn] at h
        dsimp only at h
        by_cases l : ρ (24 + 28 * n + w) < nlv ρ (ndl ρ but n)
        · rw [if_pos l] at h
          obtain ⟨i1, i2, f, i3, i4⟩ := ih h
          have lv : nlv ρ (ndl ρ but n) = ρ (24 + 28 * o + f) := by
            rw [h]; exact nlv_s i3
          refine ⟨by omega, i2, f, i3, fun i g hi hb hg => ?_⟩
          by_cases z : i = n
          · rw [z, hn] at hg
            cases hg
            rw [z]
            omega
          · exact i4 i g (by omega) hb hg
        · rw [if_neg l] at h
          cases h
          refine ⟨by omega, c, w, hn, fun i g hi hb hg => ?_⟩
          by_cases z : i = n
          · rw [z, hn] at hg
            cases hg
            rw [z]
            omega
          · cases ho : ndl ρ but n with
            | none =>
              exfalso
              exact ndlN ho i (by omega) hb g hg
            | some o2 =>
              obtain ⟨i1, i2, f, i3, i4⟩ := ih ho
              have lv : nlv ρ (ndl ρ but n) = ρ (24 + 28 * o2 + f) := by
                rw [ho]; exact nlv_s i3
              have := (i4 i g (by omega) hb hg).1
              omega
/-- both choose the same derived form -/
theorem ndl_nlg {ρ : zN'} {but : Nat} (ho : nok ρ) : match ndl ρ but (ρ 0) with
    | none => nlg ρ but = none
    | some o => ∃ f, nld ρ o 8 = some f ∧ nlg ρ but = some (o, f) := by
  cases hd : ndl ρ but (ρ 0) with
  | none =>
    show nlg ρ but = none
    cases hl : nlg ρ but with
    | none => rfl
    | some w =>
      obtain ⟨e, f⟩ := w
      obtain ⟨g1, g2, g3, g4, -⟩ := nlg_some hl
      cases hn : nld ρ e 8 with
      | none => exact absurd g4 (nld_none hn f g2)
      | some g => exact absurd hn (ndlN hd e g1 g3 g)
  | some o =>
    show ∃ f, nld ρ o 8 = some f ∧ nlg ρ but = some (o, f)
    obtain ⟨i1, i2, f, i3, i4⟩ := ndl_some hd
    obtain ⟨d1, d2, d3, d4⟩ := nld_some i3
    refine ⟨f, i3, ?_⟩
    cases hl : nlg ρ but with
    | none => exact absurd d2 (nlg_none ho hl o f i1 d1 i2)
    | some w =>
      obtain ⟨e, f'⟩ := w
      obtain ⟨g1, g2, g3, g4, g5⟩ := nlg_some hl
      have tz := nlg_tie hl
      have m1 := g5 o f i1 d1 i2 d2
      cases hn : nld ρ e 8 with
      | none => exact absurd g4 (nld_none hn f' g2)
      | some g =>
        obtain ⟨k1, k2, k3, k4⟩ := nld_some hn
        have m2 := k3 f' g2 g4
        have m3 := i4 e g g1 g3 hn
        have eo : o = e := by
          rcases Nat.lt_trichotomy o e with q | q | q
          · have := m3.2 q
            omega
          · exact q
          · have := tz o f i1 d1 i2 d2 (Or.inl q)
            omega
        subst eo
        have ef : f = f' := by
          rcases Nat.lt_trichotomy f f' with q | q | q
          · have := tz o f i1 d1 i2 d2 (Or.inr ⟨rfl, q⟩)
            have := d3 f' g2 g4
            omega
          · exact q
          · have := d4 f' q g4
            omega
        rw [ef]
section CROOM
variable {tg : Bool} {q nc : Nat}
theorem nlv_le {ρ : zN'} {but : Nat} (ho : nok ρ) {n : Nat} (hn : n ≤ ρ 0) : nlv ρ (ndl ρ but n) ≤ 99999 := by
  cases hd : ndl ρ but n with
  | none => exact Nat.zero_le _
  | some o =>
    obtain ⟨i1, i2, f, i3, -⟩ := ndl_some hd
    have d1 := (nld_some i3).1
    rw [nlv_s i3]
    exact ((ho.2.2.2.2 o (by omega)).1 f d1).2.1
theorem c_dld_L {h : zH} {ρ : zN'} {b : Int32} {but : Nat} (hS : SR tg h q nc ρ) (ho : nok ρ) (hb : nbut b but) (k : zH → Int32 → Int32 → Int32 → Option (Int32 × zH)) : ∀ d i n, i + d = ρ 0 → d < n → fX3_dropLargestDerived_L7 k q b n h (zom (ndl ρ but i)) (nI (nlv ρ (ndl ρ but i))) (nI i) = k h (zom (ndl ρ but (ρ 0))) (nI (nlv ρ (ndl ρ but (ρ 0)))) (nI (ρ 0)) := by
  have hc := ho.1
  intro d
  induction d with
  | zero =>
    intro i n hf hn
    obtain ⟨n, rfl⟩ := fuel1 hn
    have e8 : i = ρ 0 := by omega
    subst e8
    rw [fX3_dropLargestDerived_L7]
    simp (disch := first | assumption | (simp only [sI_kd, sP_kd, rw_kd, sI_ln, sP_ln, rw_ln] <;> first | assumption | omega) | omega) only [nl, nI_add, pk_mul, Option.bind_some, zb2_some, nI_le_t, nI_le_f, nI_lt_t, nI_lt_f, nI_eq_t, nI_eq_f, nI_m1, nI_em1, ↓reduceIte, Nat.add_zero, hS.cn]
  | succ d ih =>
    intro i n hf hn
    obtain ⟨n, rfl⟩ := fuel1 hn
    have oi := ho.2.2.2.2 i (by omega)
    have hs := hS.1.sh (i := i) (by omega)
    have hr := hS.er (i := i) (by omega)
    have ow := c_ldv hs hr oi
    have lv := nlv_le (but := but) ho (n := i) (by omega)
    have pp : zgP h 1 (zP h (q + 1) i) 0 = some (zP h (q + 1) i + 1) := gP_ hs.1 hs.2.1 (by omega)
    rw [fX3_dropLargestDerived_L7, ← ih (i + 1) n (by omega) (by omega)]
    by_cases c : i = but
    · have cb : (nI i = b) = True := eq_true ((hb i (by omega)).mpr c)
      have v : ndl ρ but (i + 1) = ndl ρ but i := by rw [ndl, if_pos c]
      rw [v]
      simp (disch := first | assumption | (simp only [sI_kd, sP_kd, rw_kd, sI_ln, sP_ln, rw_ln] <;> first | assumption | omega) | omega) only [nl, nI_add, pk_mul, Option.bind_some, zb2_some, nI_le_t, nI_le_f, nI_lt_t, nI_lt_f, nI_eq_t, nI_eq_f, nI_m1, nI_em1, ↓reduceIte, Nat.add_zero, hS.cn, hS.1.es, hS.1.en, ow, cb]
    · have cb : ¬ nI i = b := fun w => c ((hb i (by omega)).mp w)
      cases hn : nld ρ i 8 with
      | none =>
        have v : ndl ρ but (i + 1) = ndl ρ but i := by rw [ndl, if_neg c, hn]
        rw [v]
        rw [hn] at ow
        simp (disch := first | assumption | (simp only [sI_kd, sP_kd, rw_kd, sI_ln, sP_ln, rw_ln] <;> first | assumption | omega) | omega) only [nl, nI_add, pk_mul, Option.bind_some, zb2_some, nI_le_t, nI_le_f, nI_lt_t, nI_lt_f, nI_eq_t, nI_eq_f, nI_m1, nI_em1, ↓reduceIte, Nat.add_zero, hS.cn, hS.1.es, hS.1.en, ow, cb, zom]
      | some f =>
        obtain ⟨d1, d2, -⟩ := nld_some hn
        have bl := (oi.1 f d1).2.1
        have rd := c_rd hs hr d1 (by omega)
        rw [hn] at ow
        have nv : nlv ρ (some i) = ρ (24 + 28 * i + f) := nlv_s hn
        by_cases l : ρ (24 + 28 * i + f) < nlv ρ (ndl ρ but i)
        · have v : ndl ρ but (i + 1) = ndl ρ but i := by rw [ndl, if_neg c, hn]; exact if_pos l
          rw [v]
          have zs : zom (some f) = nI f := rfl
          simp (disch := first | assumption | (simp only [sI_kd, sP_kd, rw_kd, sI_ln, sP_ln, rw_ln] <;> first | assumption | omega) | omega) only [nl, nI_add, pk_mul, Option.bind_some, zb2_some, nI_le_t, nI_le_f, nI_lt_t, nI_lt_f, nI_eq_t, nI_eq_f, nI_m1, nI_em1, ↓reduceIte, Nat.add_zero, hS.cn, hS.1.es, hS.1.en, ow, cb, zs, pp, rd]
        · have v : ndl ρ but (i + 1) = some i := by rw [ndl, if_neg c, hn]; exact if_neg l
          rw [v, nv]
          have zs : zom (some f) = nI f := rfl
          have zs2 : zom (some i) = nI i := rfl
          simp (disch := first | assumption | (simp only [sI_kd, sP_kd, rw_kd, sI_ln, sP_ln, rw_ln] <;> first | assumption | omega) | omega) only [nl, nI_add, pk_mul, Option.bind_some, zb2_some, nI_le_t, nI_le_f, nI_lt_t, nI_lt_f, nI_eq_t, nI_eq_f, nI_m1, nI_em1, ↓reduceIte, Nat.add_zero, hS.cn, hS.1.es, hS.1.en, ow, cb, zs, zs2, pp, rd]
theorem c_dld_no {h : zH} {ρ : zN'} {b : Int32} {but : Nat} (hS : SR tg h q nc ρ) (ho : nok ρ) (hb : nbut b but) (hl : nlg ρ but = none) : fX3_dropLargestDerived h q b = some (nI 0, h) := by
  have hc := ho.1
  have nn : ndl ρ but (ρ 0) = none := by
    have := ndl_nlg (but := but) ho
    cases hd : ndl ρ but (ρ 0) with
    | none => rfl
    | some o => rw [hd] at this; obtain ⟨f, -, w⟩ := this; rw [hl] at w; cases w
  unfold fX3_dropLargestDerived
  rw [if_pos hS.kd]
  have L := fun k => c_dld_L hS ho hb k (ρ 0) 0 zF (by omega) (by unfold zF; omega)
  rw [nn] at L
  have L' : ∀ k, fX3_dropLargestDerived_L7 k q b zF h (-1) 0 0 = k h (nI 4294967295) (nI 0) (nI (ρ 0)) := L
  rw [L']
  simp (disch := first | assumption | (simp only [sI_kd, sP_kd, rw_kd, sI_ln, sP_ln, rw_ln] <;> first | assumption | omega) | omega) only [nl, nI_add, pk_mul, Option.bind_some, zb2_some, nI_le_t, nI_le_f, nI_lt_t, nI_lt_f, nI_eq_t, nI_eq_f, nI_m1, nI_em1, ↓reduceIte, Nat.add_zero]
theorem c_dld {h : zH} {ρ : zN'} {b : Int32} {but e f : Nat} (hS : SR tg h q nc ρ) (hn : nc ≤ 20) (ho : nok ρ) (hb : nbut b but) (hl : nlg ρ but = some (e, f)) : ∃ h', fX3_dropLargestDerived h q b = some (nI 1, h') ∧ SR tg h' q nc (ndf ρ e f) ∧ FrI q (q + 39) h h' := by
  have hc := ho.1
  obtain ⟨g1, g2, g3, g4, -⟩ := nlg_some hl
  have nn : ndl ρ but (ρ 0) = some e ∧ nld ρ e 8 = some f := by
    have := ndl_nlg (but := but) ho
    cases hd : ndl ρ but (ρ 0) with
    | none => rw [hd] at this; have t : nlg ρ but = none := this; rw [hl] at t; cases t
    | some o => rw [hd] at this; obtain ⟨f', w1, w⟩ := this; rw [hl] at w; cases w; exact ⟨rfl, w1⟩
  have L := fun k => c_dld_L hS ho hb k (ρ 0) 0 zF (by omega) (by unfold zF; omega)
  rw [nn.1] at L
  have L' : ∀ k, fX3_dropLargestDerived_L7 k q b zF h (-1) 0 0 = k h (nI e) (nI (nlv ρ (some e))) (nI (ρ 0)) := L
  have hs := hS.1.sh (i := e) (by omega)
  have hr := hS.er (i := e) (by omega)
  have oe := ho.2.2.2.2 e (by omega)
  have ow := c_ldv hs hr oe
  rw [nn.2] at ow
  have ow' : fX1_largestDerived h (zP h (q + 1) e) = some (nI f, h) := ow
  obtain ⟨h', d1, d2, d3⟩ := c_dropForm hs hr oe g2
  obtain ⟨m1, m2⟩ := SR_mod hS hn hc g1 d3 d2 (fun j hj => by rw [ndf_at, if_neg (by omega)]) (fun j k hj _ hk => ndf_ne hj hk g2)
  refine ⟨h', ?_, m1, m2⟩
  unfold fX3_dropLargestDerived
  rw [if_pos hS.kd, L']
  simp (disch := first | assumption | (simp only [sI_kd, sP_kd, rw_kd, sI_ln, sP_ln, rw_ln] <;> first | assumption | omega) | omega) only [nl, nI_add, pk_mul, Option.bind_some, zb2_some, nI_le_t, nI_le_f, nI_lt_t, nI_lt_f, nI_eq_t, nI_eq_f, nI_m1, nI_em1, ↓reduceIte, Nat.add_zero, hS.1.es, hS.1.en, ow', d1]
theorem c_mk_L {b but : Nat} {bb : Int32} {et : Bool} {ρ' : zN'} (hn : nc ≤ 20) (hb : nbut bb but) (hbn : b ≤ 99999) : ∀ n (ρ : zN') (h : zH) i fu, SR tg h q nc ρ → nok ρ → nmk b but et n ρ = some (true, ρ') → i + nmu ρ ≤ 108 → 108 < i + fu → ∃ h', fX3_makeRoom_L2 (fun h1 y2 => some h1) q (nI b) bb fu h (nI i) = some h' ∧ SR tg h' q nc ρ' ∧ Fr q (q + 39) h h' ∧ (et = false → zP h' = zP h) := by
  intro n
  induction n with
  | zero => intro ρ h i fu _ _ e; cases e
  | succ n ih =>
    intro ρ h i fu hS ho e hi hf
    obtain ⟨fu, rfl⟩ : ∃ m, fu = m + 1 := ⟨fu - 1, by omega⟩
    have hc := ho.1
    have ul := nus_le ho
    have b3 := ho.2.2.2.1
    unfold nmk at e
    by_cases c : nus ρ (ρ 0) + b ≤ ρ 3
    · rw [if_pos c] at e
      cases e
      refine ⟨h, ?_, hS, Fr.rf, fun _ => rfl⟩
      rw [fX3_makeRoom_L2]
      by_cases z : 108 ≤ i
      · simp (disch := first | assumption | (simp only [sI_kd, sP_kd, rw_kd, sI_ln, sP_ln, rw_ln] <;> first | assumption | omega) | omega) only [nl, nI_add, pk_mul, Option.bind_some, zb2_some, nI_le_t, nI_le_f, nI_lt_t, nI_lt_f, nI_eq_t, nI_eq_f, nI_m1, nI_em1, ↓reduceIte, Nat.add_zero, z]
      · simp (disch := first | assumption | (simp only [sI_kd, sP_kd, rw_kd, sI_ln, sP_ln, rw_ln] <;> first | assumption | omega) | omega) only [nl, nI_add, pk_mul, Option.bind_some, zb2_some, nI_le_t, nI_le_f, nI_lt_t, nI_lt_f, nI_eq_t, nI_eq_f, nI_m1, nI_em1, ↓reduceIte, Nat.add_zero, z, c_used hS hc, hS.bg]
    · rw [if_neg c] at e
      cases hl : nlg ρ but with
      | some w =>
        obtain ⟨e', f'⟩ := w
        rw [hl] at e
        dsimp only at e
        obtain ⟨g1, g2, g3, g4, -⟩ := nlg_some hl
        have mu := nmu_df g1 g2 g4
        obtain ⟨h1, d1, d2, d3⟩ := c_dld hS hn ho hb hl
        obtain ⟨h', i1, i2, i3, i4⟩ := ih _ h1 (i + 1) fu d2 (nok_df ho g1 g2) e (by omega) (by omega)
        refine ⟨h', ?_, i2, d3.fr.tr i3, fun w => (i4 w).trans d3.2.2.2.1⟩
        rw [fX3_makeRoom_L2]
        simp (disch := first | assumption | (simp only [sI_kd, sP_kd, rw_kd, sI_ln, sP_ln, rw_ln] <;> first | assumption | omega) | omega) only [nl, nI_add, pk_mul, Option.bind_some, zb2_some, nI_le_t, nI_le_f, nI_lt_t, nI_lt_f, nI_eq_t, nI_eq_f, nI_m1, nI_em1, ↓reduceIte, Nat.add_zero, c_used hS hc, hS.bg, d1]
        exact i1
      | none =>
        rw [hl] at e
        dsimp only at e
        cases et with
        | false => rw [if_neg (by decide)] at e; cases e
        | true =>
          rw [if_pos rfl] at e
          cases hv : nhv ρ but (ρ 0) with
          | none => rw [hv] at e; cases e
          | some e' =>
            rw [hv] at e
            dsimp only at e
            obtain ⟨g1, g2, g3⟩ := nhv_lt hv
            have mu := nmu_drop g1
            have d0 := c_dld_no hS ho hb hl
            have hw := c_heavy hS ho hb
            rw [hv] at hw
            have hw' : fX3_heaviest h q bb = some (nI e', h) := hw
            obtain ⟨h1, d1, d2, d3⟩ := c_dropEntry hS hn hc g1
            obtain ⟨h', i1, i2, i3, -⟩ := ih _ h1 (i + 1) fu d2 (nok_drop ho g1) e (by omega) (by omega)
            refine ⟨h', ?_, i2, d3.tr i3, fun w => by cases w⟩
            rw [fX3_makeRoom_L2]
            simp (disch := first | assumption | (simp only [sI_kd, sP_kd, rw_kd, sI_ln, sP_ln, rw_ln] <;> first | assumption | omega) | omega) only [nl, nI_add, pk_mul, Option.bind_some, zb2_some, nI_le_t, nI_le_f, nI_lt_t, nI_lt_f, nI_eq_t, nI_eq_f, nI_m1, nI_em1, ↓reduceIte, Nat.add_zero, c_used hS hc, hS.bg, d0, hw', d1]
            exact i1
theorem c_makeRoomP {h : zH} {ρ ρ' : zN'} {b but : Nat} {bb : Int32} {et : Bool} (hS : SR tg h q nc ρ) (hn : nc ≤ 20) (ho : nok ρ) (hb : nbut bb but) (hbn : b ≤ 99999) (hr : nroom b but et ρ = some ρ') : ∃ h', fX3_makeRoom h q (nI b) bb = some h' ∧ SR tg h' q nc ρ' ∧ Fr q (q + 39) h h' ∧ (et = false → zP h' = zP h) := by
  have e : nmk b but et zF ρ = some (true, ρ') := by
    unfold nroom at hr
    cases hm : nmk b but et zF ρ with
    | none => rw [hm] at hr; cases hr
    | some w =>
      obtain ⟨ok, r⟩ := w
      rw [hm] at hr
      cases ok with
      | true => cases hr; rfl
      | false => cases hr
  have mu := nmu_le ho.1
  obtain ⟨h', i1, i2, i3, i4⟩ := c_mk_L hn hb hbn zF ρ h 0 zF hS ho e (by omega) (by unfold zF; omega)
  refine ⟨h', ?_, i2, i3, i4⟩
  unfold fX3_makeRoom
  rw [if_pos hS.kd]
  exact i1
theorem c_makeRoom {h : zH} {ρ ρ' : zN'} {b but : Nat} {bb : Int32} {et : Bool} (hS : SR tg h q nc ρ) (hn : nc ≤ 20) (ho : nok ρ) (hb : nbut bb but) (hbn : b ≤ 99999) (hr : nroom b but et ρ = some ρ') : ∃ h', fX3_makeRoom h q (nI b) bb = some h' ∧ SR tg h' q nc ρ' ∧ Fr q (q + 39) h h' := by
  obtain ⟨h', i1, i2, i3, -⟩ := c_makeRoomP hS hn ho hb hbn hr
  exact ⟨h', i1, i2, i3⟩
end CROOM
