/-! pure: the reference's choices, and making room -/
def zon (o : Option Nat) : Int32 := match o with
  | none => -9
  | some e => nI e
def nhv (ρ : zN') (but : Nat) : Nat → Option Nat
  | 0 => none
  | e + 1 => if e = but ∨ ρ (24 + 28 * e + 24) ≠ 0 then nhv ρ but e else match nhv ρ but e with
    | none => some e
    | some f => if nwt ρ e < nwt ρ f then some f else some e
theorem nhv_lt {ρ : zN'} {but : Nat} : ∀ {n e : Nat}, nhv ρ but n = some e → e < n ∧ e ≠ but ∧ ρ (24 + 28 * e + 24) = 0 := by
  intro n
  induction n with
  | zero => intro e h; cases h
  | succ n ih =>
    intro e h
    unfold nhv at h
    by_cases c : n = but ∨ ρ (24 + 28 * n + 24) ≠ 0
    · rw [if_pos c] at h
      have := ih h
      exact ⟨by omega, this.2⟩
    · rw [if_neg c] at h
      have c1 : n ≠ but := fun q => c (Or.inl q)
      have c2 : ρ (24 + 28 * n + 24) = 0 := Classical.byContradiction fun q => c (Or.inr q)
      cases hq : nhv ρ but n with
      | none => rw [hq] at h; cases h; exact ⟨by omega, c1, c2⟩
      | some f =>
        rw [hq] at h
        have := ih hq
        by_cases w : nwt ρ n < nwt ρ f
        · simp only [w, if_true] at h
          cases h
          exact ⟨by omega, this.2⟩
        · simp only [w, if_false] at h
          cases h
          exact ⟨by omega, c1, c2⟩
/-- an entry's number that is left alone: as an int it is b -/
def nbut (b : Int32) (but : Nat) : Prop := ∀ e, e < 12 → (nI e = b ↔ e = but)
theorem nbut_none : nbut (-9) 99 := fun e he => ⟨fun q => by
    exfalso
    have h1 := congrArg Int32.toInt q
    rw [nI_toInt (by omega)] at h1
    have h2 : (-9 : Int32).toInt = -9 := rfl
    omega, fun q => by omega⟩
theorem nbut_at {x : Nat} (hx : x < 12) : nbut (nI x) x := fun e he => nI_eq (by omega) (by omega)
theorem nI_neg9 : (-9 : Int32) < 0 := by decide
section MAKE
variable {h : zH} {I : Nat → Nat → Int32} {a : Nat} {ρ : zN'}
theorem n_heaviest_L {but : Nat} {b : Int32} (hk : zkd h a = 9) (hl : zln h a = 360) (hI : I a = nr ρ) (ho : nok ρ) (hb : nbut b but) (k : zH → Int32 → Int32 → Option (Int32 × zH)) : ∀ d e n, e + d = ρ 0 → d < n → fX7_heaviest_L5 k a b n (zw h I) (zon (nhv ρ but e)) (nI e) = k (zw h I) (zon (nhv ρ but (ρ 0))) (nI (ρ 0)) := by
  have hc := ho.1
  have r0 : zaI (zw h I) a 0 = some (nI (ρ 0)) := by
    have := zaIw (h := h) (I := I) (a := a) 0 hk (by omega) (by omega)
    rw [hI] at this
    exact this
  intro d
  induction d with
  | zero =>
    intro e n hf hn
    obtain ⟨n, rfl⟩ := fuel1 hn
    have ee : e = ρ 0 := by omega
    subst ee
    rw [fX7_heaviest_L5, r0, Option.bind_some, if_pos (Int32.le_refl _)]
  | succ d ih =>
    intro e n hf hn
    obtain ⟨n, rfl⟩ := fuel1 hn
    have goal := ih (e + 1) n (by omega) (by omega)
    rw [fX7_heaviest_L5, r0, Option.bind_some, if_neg (by rw [nI_leI (by omega) (by omega)]; omega)]
    rw [show nhv ρ but (e + 1) = (if e = but ∨ ρ (24 + 28 * e + 24) ≠ 0 then nhv ρ but e else match nhv ρ but e with
      | none => some e
      | some f => if nwt ρ e < nwt ρ f then some f else some e) from rfl] at goal
    by_cases c1 : e = but
    · rw [if_pos ((hb e (by omega)).mpr c1), nI_1]
      rw [if_pos (Or.inl c1)] at goal
      exact goal
    · rw [if_neg (fun q => c1 ((hb e (by omega)).mp q)), p_at, zb2_some, show (24 : Int32) = nI 24 from rfl, nI_add, zaIw _ hk (by omega) (by omega), Option.bind_some, hI]
      show (if nI (ρ (24 + 28 * e + 24)) = 0 then _ else _) = _
      have hp : ρ (24 + 28 * e + 24) ≤ 1 := (ho.2.2.2.2 e (by omega)).2.1
      by_cases c2 : ρ (24 + 28 * e + 24) = 0
      · rw [if_pos (by rw [c2]; rfl)]
        rw [if_neg (fun q => q.elim c1 (fun z => z c2))] at goal
        cases hq : nhv ρ but e with
        | none =>
          rw [hq] at goal
          rw [if_pos (show zon none < 0 from nI_neg9), nI_1]
          exact goal
        | some f =>
          rw [hq] at goal
          have hf2 := nhv_lt hq
          rw [if_neg (show ¬ zon (some f) < 0 from nI_pos (by omega)), n_weight hk hl hI ho.2.1 (ho.2.2.2.2 e (by omega)) (by omega), zb2_some]
          show zb2 (fX7_weight (zw h I) a (nI f)) _ = _
          rw [n_weight hk hl hI ho.2.1 (ho.2.2.2.2 f (by omega)) (by omega), zb2_some]
          have w1 := nwt_le ρ e
          have w2 := nwt_le ρ f
          by_cases w : nwt ρ e < nwt ρ f
          · rw [if_pos ((nI_ltI (by omega) (by omega)).mpr w), nI_1]
            simp only [w, if_true] at goal
            exact goal
          · rw [if_neg (fun q => w ((nI_ltI (by omega) (by omega)).mp q)), nI_1]
            simp only [w, if_false] at goal
            exact goal
      · have q0 : ¬ nI (ρ (24 + 28 * e + 24)) = 0 := fun q => c2 ((nI_eq (by omega) (by omega)).mp (show nI _ = nI 0 from q))
        rw [if_neg q0, nI_1]
        rw [if_pos (Or.inr c2)] at goal
        exact goal
theorem n_heaviest {but : Nat} {b : Int32} (hk : zkd h a = 9) (hl : zln h a = 360) (hI : I a = nr ρ) (ho : nok ρ) (hb : nbut b but) : fX7_heaviest (zw h I) a b = some (zon (nhv ρ but (ρ 0)), zw h I) := by
  unfold fX7_heaviest
  exact n_heaviest_L hk hl hI ho hb _ (ρ 0) 0 zF (by omega) (by have := ho.1; unfold zF; omega)
end MAKE
/-- the largest derived form of others: found so far, its size -/
def nlgs (ρ : zN') (but e f : Nat) (s : Option (Nat × Nat) × Nat) : Option (Nat × Nat) × Nat := if e ≠ but ∧ ρ (24 + 28 * e + 16 + f) = 2 ∧ s.2 < ρ (24 + 28 * e + f) then (some (e, f), ρ (24 + 28 * e + f)) else s
def nlgi (ρ : zN') (but e : Nat) (s : Option (Nat × Nat) × Nat) : Nat → Option (Nat × Nat) × Nat
  | 0 => s
  | f + 1 => nlgs ρ but e f (nlgi ρ but e s f)
/-- behind the entries c - 1 .. c - j -/
def nlgo (ρ : zN') (but c : Nat) : Nat → Option (Nat × Nat) × Nat
  | 0 => (none, 0)
  | j + 1 => nlgi ρ but (c - 1 - j) (nlgo ρ but c j) 8
def nlg (ρ : zN') (but : Nat) : Option (Nat × Nat) := (nlgo ρ but (ρ 0) (ρ 0)).1
def zol2 (o : Option (Nat × Nat)) : Int32 := match o with
  | none => -9
  | some (e, f) => nI (8 * e + f)
section MAKE2
variable {h : zH} {I : Nat → Nat → Int32} {a : Nat} {ρ : zN'}
theorem nlgi_le {but e : Nat} {s : Option (Nat × Nat) × Nat} (ho : ∀ f, f < 8 → ρ (24 + 28 * e + f) ≤ 99999) (hs : s.2 ≤ 99999) : ∀ n, n ≤ 8 → (nlgi ρ but e s n).2 ≤ 99999 := by
  intro n
  induction n with
  | zero => intro _; exact hs
  | succ n ih =>
    intro hn
    have := ih (by omega)
    unfold nlgi nlgs
    split
    · exact ho n (by omega)
    · exact this
theorem nlgo_le {but : Nat} (ho : nok ρ) : ∀ j, j ≤ ρ 0 → (nlgo ρ but (ρ 0) j).2 ≤ 99999 := by
  intro j
  induction j with
  | zero => intro _; show 0 ≤ 99999; omega
  | succ j ih =>
    intro hj
    unfold nlgo
    exact nlgi_le (fun f hf => ((ho.2.2.2.2 (ρ 0 - 1 - j) (by omega)).1 f hf).2.1) (ih (by omega)) 8 (Nat.le_refl 8)
theorem n_largest_L20 {but e : Nat} {b : Int32} {s : Option (Nat × Nat) × Nat} (hk : zkd h a = 9) (hl : zln h a = 360) (hI : I a = nr ρ) (ho : nok ρ) (hb : nbut b but) (he : e < ρ 0) (hs : s.2 ≤ 99999) (k : zH → Int32 → Int32 → Int32 → Option (Int32 × zH)) : ∀ d f n, f + d = 8 → d < n → fX7_largest_L20 k a b (nI e) n (zw h I) (zol2 (nlgi ρ but e s f).1) (nI (nlgi ρ but e s f).2) (nI f) = k (zw h I) (zol2 (nlgi ρ but e s 8).1) (nI (nlgi ρ but e s 8).2) (nI 8) := by
  have hc := ho.1
  intro d
  induction d with
  | zero =>
    intro f n hf hn
    obtain ⟨n, rfl⟩ := fuel1 hn
    have ee : f = 8 := by omega
    subst ee
    rw [fX7_largest_L20, if_pos (by decide)]
  | succ d ih =>
    intro f n hf hn
    obtain ⟨n, rfl⟩ := fuel1 hn
    have goal := ih (f + 1) n (by omega) (by omega)
    have hmost := nlgi_le (but := but) (s := s) (fun f hf => ((ho.2.2.2.2 e he).1 f hf).2.1) hs f (by omega)
    rw [fX7_largest_L20, if_neg (by rw [show (8 : Int32) = nI 8 from rfl, nI_leI (by omega) (by omega)]; omega)]
    rw [show nlgi ρ but e s (f + 1) = nlgs ρ but e f (nlgi ρ but e s f) from rfl] at goal
    generalize nlgi ρ but e s f = s1 at goal hmost ⊢
    by_cases c1 : e = but
    · rw [if_pos ((hb e (by omega)).mpr c1), nI_1]
      rw [show nlgs ρ but e f s1 = s1 from if_neg (fun q => q.1 c1)] at goal
      exact goal
    · rw [if_neg (fun q => c1 ((hb e (by omega)).mp q)), p_at, zb2_some, show (16 : Int32) = nI 16 from rfl, nI_add, nI_add, zaIw _ hk (by omega) (by omega), Option.bind_some, hI]
      show (if nI (ρ (24 + 28 * e + 16 + f)) = 2 then _ else _) = _
      have hkind := ((ho.2.2.2.2 e he).1 f (by omega)).1
      by_cases c2 : ρ (24 + 28 * e + 16 + f) = 2
      · rw [if_pos (by rw [c2]; rfl), p_at, zb2_some, show (0 : Int32) = nI 0 from rfl, nI_add, nI_add, zaIw _ hk (by omega) (by omega), Option.bind_some, hI]
        have hsz := ((ho.2.2.2.2 e he).1 f (by omega)).2.1
        show (if nI (ρ (24 + 28 * e + 0 + f)) ≤ nI s1.2 then _ else _) = _
        rw [Nat.add_zero]
        by_cases c3 : ρ (24 + 28 * e + f) ≤ s1.2
        · rw [if_pos ((nI_leI (by omega) (by omega)).mpr c3), nI_1]
          rw [show nlgs ρ but e f s1 = s1 from if_neg (fun q => absurd q.2.2 (Nat.not_lt.mpr c3))] at goal
          exact goal
        · rw [if_neg (fun q => c3 ((nI_leI (by omega) (by omega)).mp q)), p_at, zb2_some, nI_add, nI_add, zaIw _ hk (by omega) (by omega), Option.bind_some, hI, show (8 : Int32) = nI 8 from rfl, pk_mul, nI_add, nI_1]
          rw [show nlgs ρ but e f s1 = (some (e, f), ρ (24 + 28 * e + f)) from if_pos ⟨c1, c2, Nat.not_le.mp c3⟩] at goal
          exact goal
      · have q0 : ¬ nI (ρ (24 + 28 * e + 16 + f)) = 2 := fun q => c2 ((nI_eq (by omega) (by omega)).mp (show nI _ = nI 2 from q))
        rw [if_neg q0, nI_1]
        rw [show nlgs ρ but e f s1 = s1 from if_neg (fun q => c2 q.2.1)] at goal
        exact goal
theorem n_largest_L12 {but : Nat} {b : Int32} (hk : zkd h a = 9) (hl : zln h a = 360) (hI : I a = nr ρ) (ho : nok ρ) (hb : nbut b but) (k : zH → Int32 → Int32 → Int32 → Option (Int32 × zH)) : ∀ d j n, j + d = ρ 0 → d < n → fX7_largest_L12 k a b n (zw h I) (zol2 (nlgo ρ but (ρ 0) j).1) (nI (nlgo ρ but (ρ 0) j).2) (nI d - 1) = k (zw h I) (zol2 (nlg ρ but)) (nI (nlgo ρ but (ρ 0) (ρ 0)).2) (-1) := by
  have hc := ho.1
  intro d
  induction d with
  | zero =>
    intro j n hf hn
    obtain ⟨n, rfl⟩ := fuel1 hn
    have ee : j = ρ 0 := by omega
    subst ee
    rw [fX7_largest_L12, show nI 0 - 1 = (-1 : Int32) from by decide, if_pos (by decide)]
    rfl
  | succ d ih =>
    intro j n hf hn
    obtain ⟨n, rfl⟩ := fuel1 hn
    have goal := ih (j + 1) n (by omega) (by omega)
    rw [fX7_largest_L12, nI_pred, if_neg (nI_pos (by omega))]
    have ed : ρ 0 - 1 - j = d := by omega
    have inn := n_largest_L20 (h := h) (I := I) (a := a) (ρ := ρ) (but := but) (e := d) (b := b) (s := nlgo ρ but (ρ 0) j) hk hl hI ho hb (by omega) (nlgo_le ho j (by omega)) (fun h2 y3 y4 y5 => fX7_largest_L12 k a b n h2 y3 y4 (nI d + -1)) 8 0 zF (by omega) (by decide)
    rw [show nlgo ρ but (ρ 0) (j + 1) = nlgi ρ but d (nlgo ρ but (ρ 0) j) 8 from by rw [← ed]; rfl] at goal
    refine inn.trans ?_
    have em : nI d + (-1 : Int32) = nI d - 1 := by
      rw [Int32.sub_eq_add_neg]
    show fX7_largest_L12 k a b n (zw h I) _ _ (nI d + -1) = _
    rw [em]
    exact goal
theorem n_largest {but : Nat} {b : Int32} (hk : zkd h a = 9) (hl : zln h a = 360) (hI : I a = nr ρ) (ho : nok ρ) (hb : nbut b but) : fX7_largest (zw h I) a b = some (zol2 (nlg ρ but), zw h I) := by
  unfold fX7_largest
  have r0 : zaI (zw h I) a 0 = some (nI (ρ 0)) := by
    have := zaIw (h := h) (I := I) (a := a) 0 hk (by omega) (by omega)
    rw [hI] at this
    exact this
  rw [r0, Option.bind_some]
  exact n_largest_L12 hk hl hI ho hb _ (ρ 0) 0 zF (by omega) (by have := ho.1; unfold zF; omega)
end MAKE2
