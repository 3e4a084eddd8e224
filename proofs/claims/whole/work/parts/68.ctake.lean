/-! pure: the component copies, tags and ranks -/
section CTAKE
variable {tg : Bool} {h : zH} {q nc : Nat} {ρ ρ' : zN'}
theorem c_pin {e : Nat} (hS : SR tg h q nc ρ) (hn : nc ≤ 20) (ho : nok ρ) (he : e < ρ 0) : ∃ h', fX3_switchPin h q (nI e) = some h' ∧ SR tg h' q nc (va_up ρ (24 + 28 * e + 24) (1 - ρ (24 + 28 * e + 24))) ∧ FrI q (q + 39) h h' := by
  have hc := ho.1
  have p1 := (ho.2.2.2.2 e he).2.1
  have ek := hS.1.ek (i := e) (by omega)
  obtain ⟨j0, hj0, e0⟩ := hS.1.ea (i := e) (by omega)
  have er := hS.er he
  have lo : ∀ j, j ≠ 24 + 28 * e + 24 → va_up ρ (24 + 28 * e + 24) (1 - ρ (24 + 28 * e + 24)) j = ρ j := fun j hj => up_b hj
  have er' : ER tg (zsI h (zP h (q + 1) e) 5 (nI (1 - ρ (24 + 28 * e + 24)))) (zP h (q + 1) e) (va_up ρ (24 + 28 * e + 24) (1 - ρ (24 + 28 * e + 24))) e := by
    obtain ⟨r2, r3, r4, r5, r6, r7, rf, rt⟩ := er
    have eb : ∀ k, ebs (va_up ρ (24 + 28 * e + 24) (1 - ρ (24 + 28 * e + 24))) e k = ebs ρ e k := fun k => bsm_congr fun f hf => by rw [lo _ (by omega)]
    have es : nsz (va_up ρ (24 + 28 * e + 24) (1 - ρ (24 + 28 * e + 24))) e = nsz ρ e := nsum_congr fun f hf => lo _ (by omega)
    refine ⟨?_, ?_, ?_, ?_, ?_, ?_, fun f hf hn => ?_, fun tt => ?_⟩
    · rw [eb]; simp (disch := first | assumption | (simp only [sI_kd, sP_kd, rw_kd, sI_ln, sP_ln, rw_ln] <;> first | assumption | omega) | omega) only [nl, nI_add, pk_mul, Option.bind_some, zb2_some, nI_le_t, nI_le_f, nI_lt_t, nI_lt_f, nI_eq_t, nI_eq_f, nI_m1, nI_em1, ↓reduceIte, Nat.add_zero, sI_k, r2]
    · rw [eb]; simp (disch := first | assumption | (simp only [sI_kd, sP_kd, rw_kd, sI_ln, sP_ln, rw_ln] <;> first | assumption | omega) | omega) only [nl, nI_add, pk_mul, Option.bind_some, zb2_some, nI_le_t, nI_le_f, nI_lt_t, nI_lt_f, nI_eq_t, nI_eq_f, nI_m1, nI_em1, ↓reduceIte, Nat.add_zero, sI_k, r3]
    · rw [es]; simp (disch := first | assumption | (simp only [sI_kd, sP_kd, rw_kd, sI_ln, sP_ln, rw_ln] <;> first | assumption | omega) | omega) only [nl, nI_add, pk_mul, Option.bind_some, zb2_some, nI_le_t, nI_le_f, nI_lt_t, nI_lt_f, nI_eq_t, nI_eq_f, nI_m1, nI_em1, ↓reduceIte, Nat.add_zero, sI_k, r4]
    · rw [up_at]; simp (disch := first | assumption | (simp only [sI_kd, sP_kd, rw_kd, sI_ln, sP_ln, rw_ln] <;> first | assumption | omega) | omega) only [nl, nI_add, pk_mul, Option.bind_some, zb2_some, nI_le_t, nI_le_f, nI_lt_t, nI_lt_f, nI_eq_t, nI_eq_f, nI_m1, nI_em1, ↓reduceIte, Nat.add_zero, sI_at]
    · rw [lo _ (by omega)]; simp (disch := first | assumption | (simp only [sI_kd, sP_kd, rw_kd, sI_ln, sP_ln, rw_ln] <;> first | assumption | omega) | omega) only [nl, nI_add, pk_mul, Option.bind_some, zb2_some, nI_le_t, nI_le_f, nI_lt_t, nI_lt_f, nI_eq_t, nI_eq_f, nI_m1, nI_em1, ↓reduceIte, Nat.add_zero, sI_k, r6]
    · rw [lo _ (by omega)]; simp (disch := first | assumption | (simp only [sI_kd, sP_kd, rw_kd, sI_ln, sP_ln, rw_ln] <;> first | assumption | omega) | omega) only [nl, nI_add, pk_mul, Option.bind_some, zb2_some, nI_le_t, nI_le_f, nI_lt_t, nI_lt_f, nI_eq_t, nI_eq_f, nI_m1, nI_em1, ↓reduceIte, Nat.add_zero, sI_k, r7]
    · rw [lo _ (by omega)] at hn
      rw [lo _ (by omega), lo _ (by omega), sI_a (by omega), sI_a (by omega)]
      exact rf f hf hn
    · rw [lo _ (by omega), ← rt tt]; simp (disch := first | assumption | (simp only [sI_kd, sP_kd, rw_kd, sI_ln, sP_ln, rw_ln] <;> first | assumption | omega) | omega) only [nl, nI_add, pk_mul, Option.bind_some, zb2_some, nI_le_t, nI_le_f, nI_lt_t, nI_lt_f, nI_eq_t, nI_eq_f, nI_m1, nI_em1, ↓reduceIte, Nat.add_zero, sI_k]
  obtain ⟨S, F⟩ := SR_mod (i := e) hS hn hc he (FrI.sI (by omega) (by omega)) er' (fun j hj => lo j (by omega)) (fun j k hj _ hk => lo _ (by omega))
  refine ⟨_, ?_, S, F⟩
  have o0 : nI 0 = 0 ∨ nI 0 = 1 := Or.inl rfl
  have o1 : nI 1 = 0 ∨ nI 1 = 1 := Or.inr rfl
  unfold fX3_switchPin
  by_cases c : ρ (24 + 28 * e + 24) = 0
  · simp (disch := first | assumption | (simp only [sI_kd, sP_kd, rw_kd, sI_ln, sP_ln, rw_ln] <;> first | assumption | omega) | omega) only [nl, nI_add, pk_mul, Option.bind_some, zb2_some, nI_le_t, nI_le_f, nI_lt_t, nI_lt_f, nI_eq_t, nI_eq_f, nI_m1, nI_em1, ↓reduceIte, Nat.add_zero, hS.kd, c_has hS hc, hS.1.es, hS.1.en, hS.e5 hc, c, pZ_, Nat.sub_zero]
  · have c1 : ρ (24 + 28 * e + 24) = 1 := by omega
    simp (disch := first | assumption | (simp only [sI_kd, sP_kd, rw_kd, sI_ln, sP_ln, rw_ln] <;> first | assumption | omega) | omega) only [nl, nI_add, pk_mul, Option.bind_some, zb2_some, nI_le_t, nI_le_f, nI_lt_t, nI_lt_f, nI_eq_t, nI_eq_f, nI_m1, nI_em1, ↓reduceIte, Nat.add_zero, hS.kd, c_has hS hc, hS.1.es, hS.1.en, hS.e5 hc, c1, pZ_, Nat.sub_self]
def TK (h : zH) (q nc : Nat) (ρ : zN') (g : zH) (i : Nat) : Prop := FrI q (q + 39) h g ∧ zI g q 2 = nI (ρ 0) ∧ zI g q 3 = nI (ρ 1) ∧ zI g q 4 = nI (ρ 2) ∧ zI g q 5 = nI (ρ 3) ∧ (∀ c, c < nc → zI g (q + 2) c = nI (ρ (4 + c))) ∧ ∀ j, j < i → ER false g (zP h (q + 1) j) ρ j
theorem c_take_L {s : Nat} (hs : SSh h q) (hS : SR tg h s nc ρ) (ho : nok ρ) (d : q + 39 ≤ s ∨ s + 39 ≤ q) : ∀ c i n g, i + c = ρ 0 → c < n → TK h q nc ρ g i → ∃ h', fX3_takeOver_L49 (fun h12 y13 => some h12) q s n g (nI i) = some h' ∧ TK h q nc ρ h' (ρ 0) := by
  have hc := ho.1
  intro c
  induction c with
  | zero =>
    intro i n g hf hn hT
    obtain ⟨n, rfl⟩ := fuel1 hn
    have e8 : i = ρ 0 := by omega
    subst e8
    refine ⟨g, ?_, hT⟩
    have kd : zkd g q = 4 := by rw [hT.1.1]; exact hs.1
    have cn : zgI g 3 q 2 = some (nI (ρ 0)) := by rw [gI_ kd, hT.2.1]
    rw [fX3_takeOver_L49]
    simp (disch := first | assumption | (simp only [sI_kd, sP_kd, rw_kd, sI_ln, sP_ln, rw_ln] <;> first | assumption | omega) | omega) only [nl, nI_add, pk_mul, Option.bind_some, zb2_some, nI_le_t, nI_le_f, nI_lt_t, nI_lt_f, nI_eq_t, nI_eq_f, nI_m1, nI_em1, ↓reduceIte, Nat.add_zero, cn]
  | succ c ih =>
    intro i n g hf hn hT
    obtain ⟨n, rfl⟩ := fuel1 hn
    obtain ⟨F, t2, t3, t4, t5, tc, te⟩ := id hT
    have hsg := SSh_fI F hs
    have Sg := SR_fr F.fr (by omega) hS hc
    have cn : zgI g 3 q 2 = some (nI (ρ 0)) := by rw [gI_ hsg.1, t2]
    obtain ⟨j0, hj0, e0⟩ := hsg.ea (i := i) (by omega)
    obtain ⟨j1, hj1, e1⟩ := Sg.1.ea (i := i) (by omega)
    obtain ⟨g', a1, a2, a3⟩ := c_etake (x := zP g (q + 1) i) (y := zP g (s + 1) i) (hsg.sh (by omega)) (Sg.1.sh (by omega)) (by omega) (Sg.er (by omega)) (ho.2.2.2.2 i (by omega)).2.1
    have F' : FrI q (q + 39) g g' := a3.wd (by omega) (by omega)
    have o : ∀ a, a < q + 3 → zI g' a = zI g a := fun a ha => a3.2.2.2.2 a (by omega)
    have pe : zP g = zP h := F.2.2.2.1
    obtain ⟨h', i1, i2⟩ := ih (i + 1) n g' (by omega) (by omega) (by
      refine ⟨F.tr F', by rw [o q (by omega)]; exact t2, by rw [o q (by omega)]; exact t3, by rw [o q (by omega)]; exact t4, by rw [o q (by omega)]; exact t5, fun c hc => by rw [o (q + 2) (by omega)]; exact tc c hc, fun j hj => ?_⟩
      by_cases z : j = i
      · rw [z, ← pe]; exact a2
      · obtain ⟨j2, hj2, e2⟩ := hsg.ea (i := j) (by omega)
        have ne : j2 ≠ j0 := fun w => z (hsg.inj (by omega) (by omega) (by rw [e0, e2, w]))
        rw [pe] at e2
        refine ER_fr (fun a g1 g2 => a3.2.2.2.2 a ?_) (te j (by omega))
        rw [e2] at g1 g2
        omega)
    refine ⟨h', ?_, i2⟩
    rw [fX3_takeOver_L49]
    simp (disch := first | assumption | (simp only [sI_kd, sP_kd, rw_kd, sI_ln, sP_ln, rw_ln] <;> first | assumption | omega) | omega) only [nl, nI_add, pk_mul, Option.bind_some, zb2_some, nI_le_t, nI_le_f, nI_lt_t, nI_lt_f, nI_eq_t, nI_eq_f, nI_m1, nI_em1, ↓reduceIte, Nat.add_zero, cn, hsg.es, hsg.en, Sg.1.es, Sg.1.en, a1]
    exact i1
theorem c_take {s : Nat} (hs : SSh h q) (hS : SR tg h s nc ρ) (hn : nc ≤ 20) (ho : nok ρ) (d : q + 39 ≤ s ∨ s + 39 ≤ q) : ∃ h', fX3_takeOver h q s = some h' ∧ SR false h' q nc ρ ∧ FrI q (q + 39) h h' := by
  have hc := ho.1
  obtain ⟨k1, p0, p1, k2, l2, k3, l3, -⟩ := id hs
  obtain ⟨hss, b2, b3, b4, b5, bc, be⟩ := id hS
  obtain ⟨m1, n0, n1, m2, o2, m3, o3, -⟩ := id hss
  have ne : s ≠ q := by omega
  let g4 := zsI (zsI (zsI (zsI h q 2 (nI (ρ 0))) q 3 (nI (ρ 1))) q 4 (nI (ρ 2))) q 5 (nI (ρ 3))
  have F4 : FrI q (q + 39) h g4 := (((FrI.sI (by omega) (by omega)).tr (FrI.sI (by omega) (by omega))).tr (FrI.sI (by omega) (by omega))).tr (FrI.sI (by omega) (by omega))
  have c1 : zgP g4 3 s 1 = some (s + 2) := gP_ m1 n1 (by omega)
  have c2 : zgP g4 3 q 1 = some (q + 2) := gP_ k1 p1 (by omega)
  have c3 : zcp g4 (s + 2) (nI 0) (q + 2) (nI 0) (nI 20) = some (zrow g4 (q + 2) (va_cpy (zI h (s + 2)) (zI h (q + 2)) 0 0 20)) := by
    have := cp_ (h := g4) (a := s + 2) (b := q + 2) (n := 20) m3 k3 (by show 20 ≤ zln h (s + 2); omega) (by show 20 ≤ zln h (q + 2); omega) (by omega)
    rw [show zI g4 (s + 2) = zI h (s + 2) from F4.2.2.2.2 _ (by omega)] at this
    have q2 : zI g4 (q + 2) = zI h (q + 2) := by
      show zI (zsI (zsI (zsI (zsI h q 2 (nI (ρ 0))) q 3 (nI (ρ 1))) q 4 (nI (ρ 2))) q 5 (nI (ρ 3))) (q + 2) = _
      rw [sI_a (by omega), sI_a (by omega), sI_a (by omega), sI_a (by omega)]
    rw [q2] at this
    exact this
  have F5 : FrI q (q + 39) g4 (zrow g4 (q + 2) (va_cpy (zI h (s + 2)) (zI h (q + 2)) 0 0 20)) := FrI.row (by omega) (by omega)
  have i0 : ∀ k, zI (zrow g4 (q + 2) (va_cpy (zI h (s + 2)) (zI h (q + 2)) 0 0 20)) q k = zI g4 q k := fun k => by rw [rw_a (by omega)]
  obtain ⟨h', e1, e2⟩ := c_take_L hs hS ho d (ρ 0) 0 zF (zrow g4 (q + 2) (va_cpy (zI h (s + 2)) (zI h (q + 2)) 0 0 20)) (by omega) (by unfold zF; omega) (by
    refine ⟨F4.tr F5, ?_, ?_, ?_, ?_, fun c hc => ?_, fun j hj => by omega⟩
    · rw [i0]; show zI (zsI (zsI (zsI (zsI h q 2 (nI (ρ 0))) q 3 (nI (ρ 1))) q 4 (nI (ρ 2))) q 5 (nI (ρ 3))) q 2 = _; simp (disch := first | assumption | (simp only [sI_kd, sP_kd, rw_kd, sI_ln, sP_ln, rw_ln] <;> first | assumption | omega) | omega) only [nl, nI_add, pk_mul, Option.bind_some, zb2_some, nI_le_t, nI_le_f, nI_lt_t, nI_lt_f, nI_eq_t, nI_eq_f, nI_m1, nI_em1, ↓reduceIte, Nat.add_zero, sI_k, sI_at]
    · rw [i0]; show zI (zsI (zsI (zsI (zsI h q 2 (nI (ρ 0))) q 3 (nI (ρ 1))) q 4 (nI (ρ 2))) q 5 (nI (ρ 3))) q 3 = _; simp (disch := first | assumption | (simp only [sI_kd, sP_kd, rw_kd, sI_ln, sP_ln, rw_ln] <;> first | assumption | omega) | omega) only [nl, nI_add, pk_mul, Option.bind_some, zb2_some, nI_le_t, nI_le_f, nI_lt_t, nI_lt_f, nI_eq_t, nI_eq_f, nI_m1, nI_em1, ↓reduceIte, Nat.add_zero, sI_k, sI_at]
    · rw [i0]; show zI (zsI (zsI (zsI (zsI h q 2 (nI (ρ 0))) q 3 (nI (ρ 1))) q 4 (nI (ρ 2))) q 5 (nI (ρ 3))) q 4 = _; simp (disch := first | assumption | (simp only [sI_kd, sP_kd, rw_kd, sI_ln, sP_ln, rw_ln] <;> first | assumption | omega) | omega) only [nl, nI_add, pk_mul, Option.bind_some, zb2_some, nI_le_t, nI_le_f, nI_lt_t, nI_lt_f, nI_eq_t, nI_eq_f, nI_m1, nI_em1, ↓reduceIte, Nat.add_zero, sI_k, sI_at]
    · rw [i0]; show zI (zsI (zsI (zsI (zsI h q 2 (nI (ρ 0))) q 3 (nI (ρ 1))) q 4 (nI (ρ 2))) q 5 (nI (ρ 3))) q 5 = _; simp (disch := first | assumption | (simp only [sI_kd, sP_kd, rw_kd, sI_ln, sP_ln, rw_ln] <;> first | assumption | omega) | omega) only [nl, nI_add, pk_mul, Option.bind_some, zb2_some, nI_le_t, nI_le_f, nI_lt_t, nI_lt_f, nI_eq_t, nI_eq_f, nI_m1, nI_em1, ↓reduceIte, Nat.add_zero, sI_at]
    · rw [rw_at, pk_cpy_in (by omega) (by omega), ← bc c hc]
      congr 1; omega)
  obtain ⟨F, t2, t3, t4, t5, tc, te⟩ := e2
  refine ⟨h', ?_, ⟨SSh_fI F hs, t2, t3, t4, t5, tc, fun i hi => by rw [F.2.2.2.1]; exact te i hi⟩, F⟩
  have e1' : fX3_takeOver_L49 (fun h12 y13 => some h12) q s zF (zrow g4 (q + 2) (va_cpy (zI h (s + 2)) (zI h (q + 2)) 0 0 20)) (nI 0) = some h' := e1
  have r2 : zI h s 2 = nI (ρ 0) := b2
  have w1 : zgI (zsI h q 2 (nI (ρ 0))) 3 s 3 = some (nI (ρ 1)) := by rw [gI_ (h := zsI h q 2 (nI (ρ 0))) m1, sI_a ne, b3]
  have w2 : zgI (zsI (zsI h q 2 (nI (ρ 0))) q 3 (nI (ρ 1))) 3 s 4 = some (nI (ρ 2)) := by rw [gI_ (h := zsI (zsI h q 2 (nI (ρ 0))) q 3 (nI (ρ 1))) m1, sI_a ne, sI_a ne, b4]
  have w3 : zgI (zsI (zsI (zsI h q 2 (nI (ρ 0))) q 3 (nI (ρ 1))) q 4 (nI (ρ 2))) 3 s 5 = some (nI (ρ 3)) := by rw [gI_ (h := zsI (zsI (zsI h q 2 (nI (ρ 0))) q 3 (nI (ρ 1))) q 4 (nI (ρ 2))) m1, sI_a ne, sI_a ne, sI_a ne, b5]
  have x0 : zpI h 3 q 2 (nI (ρ 0)) = some (zsI h q 2 (nI (ρ 0))) := pI_ k1
  have x1 : zpI (zsI h q 2 (nI (ρ 0))) 3 q 3 (nI (ρ 1)) = some (zsI (zsI h q 2 (nI (ρ 0))) q 3 (nI (ρ 1))) := pI_ k1
  have x2 : zpI (zsI (zsI h q 2 (nI (ρ 0))) q 3 (nI (ρ 1))) 3 q 4 (nI (ρ 2)) = some (zsI (zsI (zsI h q 2 (nI (ρ 0))) q 3 (nI (ρ 1))) q 4 (nI (ρ 2))) := pI_ k1
  have x3 : zpI (zsI (zsI (zsI h q 2 (nI (ρ 0))) q 3 (nI (ρ 1))) q 4 (nI (ρ 2))) 3 q 5 (nI (ρ 3)) = some g4 := pI_ k1
  unfold fX3_takeOver
  simp (disch := first | assumption | (simp only [sI_kd, sP_kd, rw_kd, sI_ln, sP_ln, rw_ln] <;> first | assumption | omega) | omega) only [nl, nI_add, pk_mul, Option.bind_some, zb2_some, nI_le_t, nI_le_f, nI_lt_t, nI_lt_f, nI_eq_t, nI_eq_f, nI_m1, nI_em1, ↓reduceIte, Nat.add_zero, k1, hS.cn, x0, w1, x1, w2, x2, w3, x3, c1, c2, c3, e1']
theorem c_tags_L (hc : ρ 0 ≤ 12) (ht : ∀ i, i < ρ 0 → ρ (24 + 28 * i + 27) = i) : ∀ c i n g, i + c = ρ 0 → c < n → FrI q (q + 39) h g → SR false g q nc ρ → (∀ j, j < i → zI g (zP g (q + 1) j) 8 = nI j) → ∃ h', fX3_tagEntries_L2 (fun h1 y2 => some h1) q n g (nI i) = some h' ∧ SR true h' q nc ρ ∧ FrI q (q + 39) h h' := by
  intro c
  induction c with
  | zero =>
    intro i n g hf hn F S T
    obtain ⟨n, rfl⟩ := fuel1 hn
    have e8 : i = ρ 0 := by omega
    subst e8
    refine ⟨g, ?_, ?_, F⟩
    · rw [fX3_tagEntries_L2]
      simp (disch := first | assumption | (simp only [sI_kd, sP_kd, rw_kd, sI_ln, sP_ln, rw_ln] <;> first | assumption | omega) | omega) only [nl, nI_add, pk_mul, Option.bind_some, zb2_some, nI_le_t, nI_le_f, nI_lt_t, nI_lt_f, nI_eq_t, nI_eq_f, nI_m1, nI_em1, ↓reduceIte, Nat.add_zero, S.cn]
    · obtain ⟨hs, b2, b3, b4, b5, bc, be⟩ := S
      refine ⟨hs, b2, b3, b4, b5, bc, fun i hi => ?_⟩
      obtain ⟨r2, r3, r4, r5, r6, r7, rf, -⟩ := be i hi
      refine ⟨r2, r3, r4, r5, r6, r7, rf, fun _ => ?_⟩
      rw [ht i hi, T i hi]
      unfold ttg
      rw [if_neg (by omega)]
  | succ c ih =>
    intro i n g hf hn F S T
    obtain ⟨n, rfl⟩ := fuel1 hn
    obtain ⟨j0, hj0, e0⟩ := S.1.ea (i := i) (by omega)
    have er := S.er (i := i) (by omega)
    have pw : zpI g 1 (zP g (q + 1) i) 8 (nI i) = some (zsI g (zP g (q + 1) i) 8 (nI i)) := pI_ (S.1.ek (by omega))
    have F1 : FrI q (q + 39) g (zsI g (zP g (q + 1) i) 8 (nI i)) := FrI.sI (by omega) (by omega)
    have S1 : SR false (zsI g (zP g (q + 1) i) 8 (nI i)) q nc ρ := by
      obtain ⟨hs, b2, b3, b4, b5, bc, be⟩ := S
      refine ⟨SSh_fI F1 hs, by rw [sI_a (by omega)]; exact b2, by rw [sI_a (by omega)]; exact b3, by rw [sI_a (by omega)]; exact b4, by rw [sI_a (by omega)]; exact b5, fun c hc => by rw [sI_a (by omega)]; exact bc c hc, fun j hj => ?_⟩
      obtain ⟨j1, hj1, e1⟩ := hs.ea (i := j) (by omega)
      obtain ⟨r2, r3, r4, r5, r6, r7, rf, -⟩ := be j hj
      refine ⟨by rw [sI_k (by omega)]; exact r2, by rw [sI_k (by omega)]; exact r3, by rw [sI_k (by omega)]; exact r4, by rw [sI_k (by omega)]; exact r5, by rw [sI_k (by omega)]; exact r6, by rw [sI_k (by omega)]; exact r7, fun f hf hn => ?_, fun t => by cases t⟩
      rw [sI_k (by omega), sI_k (by omega)]
      exact rf f hf hn
    obtain ⟨h', i1, i2, i3⟩ := ih (i + 1) n _ (by omega) (by omega) (F.tr F1) S1 (fun j hj => by
      rw [sI_P]
      by_cases z : j = i
      · rw [z, sI_at]
      · have ne : zP g (q + 1) j ≠ zP g (q + 1) i := fun w => z (S.1.inj (by omega) (by omega) w)
        rw [sI_a ne]
        exact T j (by omega))
    refine ⟨h', ?_, i2, i3⟩
    rw [fX3_tagEntries_L2]
    simp (disch := first | assumption | (simp only [sI_kd, sP_kd, rw_kd, sI_ln, sP_ln, rw_ln] <;> first | assumption | omega) | omega) only [nl, nI_add, pk_mul, Option.bind_some, zb2_some, nI_le_t, nI_le_f, nI_lt_t, nI_lt_f, nI_eq_t, nI_eq_f, nI_m1, nI_em1, ↓reduceIte, Nat.add_zero, S.cn, S.1.es, S.1.en, pw]
    exact i1
theorem c_tags (hS : SR false h q nc ρ) (hc : ρ 0 ≤ 12) (ht : ∀ i, i < ρ 0 → ρ (24 + 28 * i + 27) = i) : ∃ h', fX3_tagEntries h q = some h' ∧ SR true h' q nc ρ ∧ FrI q (q + 39) h h' := by
  unfold fX3_tagEntries
  rw [if_pos hS.kd]
  exact c_tags_L hc ht (ρ 0) 0 zF h (by omega) (by unfold zF; omega) FrI.rf hS (fun j hj => by omega)
def nrk (ρ : zN') (e n : Nat) : Nat := nsum (fun i => if nwt ρ e < nwt ρ i ∨ (nwt ρ i = nwt ρ e ∧ e < i) then 1 else 0) n
theorem nrk_le (e n : Nat) : nrk ρ e n ≤ n := by
  have := nsum_le (g := fun i => if nwt ρ e < nwt ρ i ∨ (nwt ρ i = nwt ρ e ∧ e < i) then 1 else 0) (n := n) (b := 1) (fun j _ => by split <;> omega)
  unfold nrk
  omega
theorem sub_pos {a b : Nat} (ha : a < 2 ^ 30) (hb : b < 2 ^ 30) : (nI 0 < nI a - nI b) = (b < a) := propext (by
  rw [Int32.lt_iff_toInt_lt, pk_sub_toInt ha hb, nI_toInt (by omega)]
  omega)
theorem sub_zero' {a b : Nat} (ha : a < 2 ^ 30) (hb : b < 2 ^ 30) : (nI a - nI b = nI 0) = (a = b) := propext (by
  constructor
  · intro e
    have := congrArg Int32.toInt e
    rw [pk_sub_toInt ha hb, nI_toInt (by omega)] at this
    omega
  · intro e
    rw [e, pk_sub (Nat.le_refl _), Nat.sub_self])
theorem c_rank_L {e : Nat} (hS : SR tg h q nc ρ) (ho : nok ρ) (he : e < ρ 0) (k : zH → Int32 → Int32 → Option (Int32 × zH)) : ∀ d i n, i + d = ρ 0 → d < n → fX3_rankOf_L4 k q (nI e) n h (nI (nrk ρ e i)) (nI i) = k h (nI (nrk ρ e (ρ 0))) (nI (ρ 0)) := by
  have hc := ho.1
  have we := c_weight (hS.1.sh (i := e) (by omega)) (hS.er he) ho.2.1 (ho.2.2.2.2 e he)
  have le := nwt_le ρ e
  intro d
  induction d with
  | zero =>
    intro i n hf hn
    obtain ⟨n, rfl⟩ := fuel1 hn
    have e8 : i = ρ 0 := by omega
    subst e8
    rw [fX3_rankOf_L4]
    simp (disch := first | assumption | (simp only [sI_kd, sP_kd, rw_kd, sI_ln, sP_ln, rw_ln] <;> first | assumption | omega) | omega) only [nl, nI_add, pk_mul, Option.bind_some, zb2_some, nI_le_t, nI_le_f, nI_lt_t, nI_lt_f, nI_eq_t, nI_eq_f, nI_m1, nI_em1, ↓reduceIte, Nat.add_zero, hS.cn]
  | succ d ih =>
    intro i n hf hn
    obtain ⟨n, rfl⟩ := fuel1 hn
    have wi := c_weight (hS.1.sh (i := i) (by omega)) (hS.er (i := i) (by omega)) ho.2.1 (ho.2.2.2.2 i (by omega))
    have li := nwt_le ρ i
    have sp := sub_pos (a := nwt ρ i) (b := nwt ρ e) (by omega) (by omega)
    have sz := sub_zero' (a := nwt ρ i) (b := nwt ρ e) (by omega) (by omega)
    have st : nrk ρ e (i + 1) = nrk ρ e i + if nwt ρ e < nwt ρ i ∨ (nwt ρ i = nwt ρ e ∧ e < i) then 1 else 0 := rfl
    rw [fX3_rankOf_L4, ← ih (i + 1) n (by omega) (by omega), st]
    by_cases c1 : nwt ρ e < nwt ρ i
    · rw [if_pos (Or.inl c1)]
      simp (disch := first | assumption | (simp only [sI_kd, sP_kd, rw_kd, sI_ln, sP_ln, rw_ln] <;> first | assumption | omega) | omega) only [nl, nI_add, pk_mul, Option.bind_some, zb2_some, nI_le_t, nI_le_f, nI_lt_t, nI_lt_f, nI_eq_t, nI_eq_f, nI_m1, nI_em1, ↓reduceIte, Nat.add_zero, hS.cn, hS.tm, hS.1.es, hS.1.en, wi, we, sp, c1]
    · by_cases c2 : nwt ρ i = nwt ρ e
      · by_cases c3 : e < i
        · rw [if_pos (Or.inr ⟨c2, c3⟩)]
          simp (disch := first | assumption | (simp only [sI_kd, sP_kd, rw_kd, sI_ln, sP_ln, rw_ln] <;> first | assumption | omega) | omega) only [nl, nI_add, pk_mul, Option.bind_some, zb2_some, nI_le_t, nI_le_f, nI_lt_t, nI_lt_f, nI_eq_t, nI_eq_f, nI_m1, nI_em1, ↓reduceIte, Nat.add_zero, hS.cn, hS.tm, hS.1.es, hS.1.en, wi, we, sp, sz, c1]
          rw [if_pos c2]
        · rw [if_neg (by omega)]
          simp (disch := first | assumption | (simp only [sI_kd, sP_kd, rw_kd, sI_ln, sP_ln, rw_ln] <;> first | assumption | omega) | omega) only [nl, nI_add, pk_mul, Option.bind_some, zb2_some, nI_le_t, nI_le_f, nI_lt_t, nI_lt_f, nI_eq_t, nI_eq_f, nI_m1, nI_em1, ↓reduceIte, Nat.add_zero, hS.cn, hS.tm, hS.1.es, hS.1.en, wi, we, sp, sz, c1]
          rw [if_pos c2]
      · rw [if_neg (by omega)]
        simp (disch := first | assumption | (simp only [sI_kd, sP_kd, rw_kd, sI_ln, sP_ln, rw_ln] <;> first | assumption | omega) | omega) only [nl, nI_add, pk_mul, Option.bind_some, zb2_some, nI_le_t, nI_le_f, nI_lt_t, nI_lt_f, nI_eq_t, nI_eq_f, nI_m1, nI_em1, ↓reduceIte, Nat.add_zero, hS.cn, hS.tm, hS.1.es, hS.1.en, wi, we, sp, sz, c1]
        rw [if_neg c2]
theorem c_rank {e : Nat} (hS : SR tg h q nc ρ) (ho : nok ρ) (he : e < ρ 0) : fX3_rankOf h q (nI e) = some (nI (nrk ρ e (ρ 0)), h) := by
  have hc := ho.1
  unfold fX3_rankOf
  rw [if_pos hS.kd]
  exact c_rank_L hS ho he _ (ρ 0) 0 zF (by omega) (by unfold zF; omega)
end CTAKE
