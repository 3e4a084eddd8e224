/-! pure: the reference's steps along a path -/
def nnx (td dd : zN') (nf a b : Nat) : Nat → Option Nat
  | 0 => none
  | d + 1 => if nf - (d + 1) ≠ a ∧ dd (8 * a + (nf - (d + 1))) < fINF ∧ dd (8 * a + (nf - (d + 1))) + td (8 * (nf - (d + 1)) + b) = td (8 * a + b) then some (nf - (d + 1)) else nnx td dd nf a b d
theorem nnx_some {td dd : zN'} {nf a b f : Nat} : ∀ {d : Nat}, d ≤ nf → nnx td dd nf a b d = some f → f < nf ∧ nf - d ≤ f ∧ f ≠ a ∧ dd (8 * a + f) < fINF ∧ dd (8 * a + f) + td (8 * f + b) = td (8 * a + b) ∧ ∀ g, nf - d ≤ g → g < f → ¬ (g ≠ a ∧ dd (8 * a + g) < fINF ∧ dd (8 * a + g) + td (8 * g + b) = td (8 * a + b)) := by
  intro d
  induction d with
  | zero => intro _ e; cases e
  | succ d ih =>
    intro hd e
    unfold nnx at e
    split at e
    · rename_i c
      cases e
      exact ⟨by omega, by omega, c.1, c.2.1, c.2.2, fun g h1 h2 => absurd h2 (by omega)⟩
    · rename_i c
      obtain ⟨a1, a2, a3, a4, a5, a6⟩ := ih (by omega) e
      refine ⟨a1, by omega, a3, a4, a5, fun g h1 h2 => ?_⟩
      by_cases q : g = nf - (d + 1)
      · rw [q]; exact c
      · exact a6 g (by omega) h2
theorem nnx_none {td dd : zN'} {nf a b : Nat} : ∀ {d : Nat}, d ≤ nf → nnx td dd nf a b d = none → ∀ g, nf - d ≤ g → g < nf → ¬ (g ≠ a ∧ dd (8 * a + g) < fINF ∧ dd (8 * a + g) + td (8 * g + b) = td (8 * a + b)) := by
  intro d
  induction d with
  | zero => intro _ _ g h1 h2; omega
  | succ d ih =>
    intro hd e g h1 h2
    unfold nnx at e
    split at e
    · cases e
    · rename_i c
      by_cases q : g = nf - (d + 1)
      · rw [q]; exact c
      · exact ih (by omega) e g (by omega) h2
section NEXT
variable {h : zH} {I : Nat → Nat → Int32} {m nf : Nat} {td dd : zN'}
theorem n_costOf {a b : Nat} (hT : RefT h m) (h21 : I (m + 21) = nr td) (ha : a < 8) (hb : b < 8) : fX7_costOf (zw h I) m (nI a) (nI b) = some (nI (td (8 * a + b)), zw h I) := by
  unfold fX7_costOf
  simp (disch := first | assumption | omega) only [nl, nI_add, pk_mul, Option.bind_some, zb2_some, zz_at, zz_zz, zz_ne, nr_at, up_n, zaIw, zbIw, zgIw, zpIw, nI_le_t, nI_le_f, nI_lt_t, nI_lt_f, nI_eq_t, nI_eq_f, ↓reduceIte, zw_kd, zw_ln, zw_P, zw_I, nI_n9, Nat.add_zero, rgI hT, rpI hT, rkd hT, rg21 hT, ra21 hT, rb21 hT, h21]
theorem n_nextOn_L {a b : Nat} (hT : RefT h m) (h4 : I m 4 = nI nf) (hn : nf ≤ 8) (h21 : I (m + 21) = nr td) (h22 : I (m + 22) = nr dd) (htd : ∀ j, j < 64 → td j ≤ fINF) (hdd : ∀ j, j < 64 → dd j ≤ fINF) (ha : a < nf) (hb : b < nf) (k : zH → Int32 → Option (Int32 × zH)) : ∀ d f n, f + d = nf → d < n → fX7_nextOn_L2 k m (nI a) (nI b) n (zw h I) (nI f) = match nnx td dd nf a b d with | some g => some (nI g, zw h I) | none => k (zw h I) (nI nf) := by
  intro d
  induction d with
  | zero =>
    intro f n hf hn
    obtain ⟨n, rfl⟩ := fuel1 hn
    have e : f = nf := by omega
    subst e
    rw [fX7_nextOn_L2]
    simp (disch := first | assumption | omega) only [nl, nI_add, pk_mul, Option.bind_some, zb2_some, zz_at, zz_zz, zz_ne, nr_at, up_n, zaIw, zbIw, zgIw, zpIw, nI_le_t, nI_le_f, nI_lt_t, nI_lt_f, nI_eq_t, nI_eq_f, ↓reduceIte, zw_kd, zw_ln, zw_P, zw_I, nI_n9, Nat.add_zero, rgI hT, rpI hT, rkd hT, h4]
    rfl
  | succ d ih =>
    intro f n hf hn
    obtain ⟨n, rfl⟩ := fuel1 hn
    have goal := ih (f + 1) n (by omega) (by omega)
    have e : nf - (d + 1) = f := by omega
    have b1 := htd (8 * f + b) (by omega)
    have b2 := htd (8 * a + b) (by omega)
    have b3 := hdd (8 * a + f) (by omega)
    unfold fINF at b1 b2 b3
    have ex : ∀ q : Prop, (q ↔ (f ≠ a ∧ dd (8 * a + f) < fINF ∧ dd (8 * a + f) + td (8 * f + b) = td (8 * a + b))) → (q → nnx td dd nf a b (d + 1) = some f) ∧ (¬ q → nnx td dd nf a b (d + 1) = nnx td dd nf a b d) := fun q hq => ⟨fun z => by rw [nnx, e, if_pos (hq.mp z)], fun z => by rw [nnx, e, if_neg (fun y => z (hq.mpr y))]⟩
    have ex := ex _ Iff.rfl
    rw [fX7_nextOn_L2]
    by_cases c1 : f = a
    · rw [ex.2 (fun q => q.1 c1)]
      simp (disch := first | assumption | omega) only [nl, nI_add, pk_mul, Option.bind_some, zb2_some, zz_at, zz_zz, zz_ne, nr_at, up_n, zaIw, zbIw, zgIw, zpIw, nI_le_t, nI_le_f, nI_lt_t, nI_lt_f, nI_eq_t, nI_eq_f, ↓reduceIte, zw_kd, zw_ln, zw_P, zw_I, nI_n9, Nat.add_zero, rgI hT, rpI hT, rkd hT, h4, goal]
    · by_cases c2 : dd (8 * a + f) < fINF
      · have c2' := c2
        unfold fINF at c2'
        simp (disch := first | assumption | omega) only [nl, nI_add, pk_mul, Option.bind_some, zb2_some, zz_at, zz_zz, zz_ne, nr_at, up_n, zaIw, zbIw, zgIw, zpIw, nI_le_t, nI_le_f, nI_lt_t, nI_lt_f, nI_eq_t, nI_eq_f, ↓reduceIte, zw_kd, zw_ln, zw_P, zw_I, nI_n9, Nat.add_zero, rgI hT, rpI hT, rkd hT, rg21 hT, ra21 hT, rb21 hT, rg22 hT, ra22 hT, rb22 hT, h4, h22, n_costOf hT h21]
        by_cases c3 : dd (8 * a + f) + td (8 * f + b) = td (8 * a + b)
        · rw [ex.1 ⟨c1, c2, c3⟩]
          simp (disch := first | assumption | omega) only [nl, nI_add, pk_mul, Option.bind_some, zb2_some, zz_at, zz_zz, zz_ne, nr_at, up_n, zaIw, zbIw, zgIw, zpIw, nI_le_t, nI_le_f, nI_lt_t, nI_lt_f, nI_eq_t, nI_eq_f, ↓reduceIte, zw_kd, zw_ln, zw_P, zw_I, nI_n9, Nat.add_zero]
        · rw [ex.2 (fun q => c3 q.2.2)]
          simp (disch := first | assumption | omega) only [nl, nI_add, pk_mul, Option.bind_some, zb2_some, zz_at, zz_zz, zz_ne, nr_at, up_n, zaIw, zbIw, zgIw, zpIw, nI_le_t, nI_le_f, nI_lt_t, nI_lt_f, nI_eq_t, nI_eq_f, ↓reduceIte, zw_kd, zw_ln, zw_P, zw_I, nI_n9, Nat.add_zero, goal]
      · have c2' := c2
        unfold fINF at c2'
        rw [ex.2 (fun q => c2 q.2.1)]
        simp (disch := first | assumption | omega) only [nl, nI_add, pk_mul, Option.bind_some, zb2_some, zz_at, zz_zz, zz_ne, nr_at, up_n, zaIw, zbIw, zgIw, zpIw, nI_le_t, nI_le_f, nI_lt_t, nI_lt_f, nI_eq_t, nI_eq_f, ↓reduceIte, zw_kd, zw_ln, zw_P, zw_I, nI_n9, Nat.add_zero, rgI hT, rpI hT, rkd hT, rg21 hT, ra21 hT, rb21 hT, rg22 hT, ra22 hT, rb22 hT, h4, h22, goal]
theorem n_nextOn {a b : Nat} (hT : RefT h m) (h4 : I m 4 = nI nf) (hn : nf ≤ 8) (h21 : I (m + 21) = nr td) (h22 : I (m + 22) = nr dd) (htd : ∀ j, j < 64 → td j ≤ fINF) (hdd : ∀ j, j < 64 → dd j ≤ fINF) (ha : a < nf) (hb : b < nf) : fX7_nextOn (zw h I) m (nI a) (nI b) = some (zon (nnx td dd nf a b nf), zw h I) := by
  unfold fX7_nextOn
  rw [if_pos (rkd hT)]
  refine Eq.trans (n_nextOn_L hT h4 hn h21 h22 htd hdd ha hb _ nf 0 zF (by omega) (by unfold zF; omega)) ?_
  cases nnx td dd nf a b nf <;> rfl
/-- the conversion between two formats: the last of them -/
def ncv (fr tt : zN') (a b : Nat) : Nat → Option Nat
  | 0 => none
  | c + 1 => if fr c = a ∧ tt c = b then some c else ncv fr tt a b c
theorem ncv_some {fr tt : zN'} {a b c : Nat} : ∀ {n : Nat}, ncv fr tt a b n = some c → c < n ∧ fr c = a ∧ tt c = b := by
  intro n
  induction n with
  | zero => intro e; cases e
  | succ n ih =>
    intro e
    unfold ncv at e
    split at e
    · rename_i q
      cases e
      exact ⟨by omega, q.1, q.2⟩
    · have := ih e
      exact ⟨by omega, this.2⟩
theorem ncv_is {fr tt : zN'} {nc nf c : Nat} (hb : bok fr tt nc nf) (hc : c < nc) : ncv fr tt (fr c) (tt c) nc = some c := by
  have key : ∀ n, n ≤ nc → c < n → ncv fr tt (fr c) (tt c) n = some c := by
    intro n
    induction n with
    | zero => intro _ h; omega
    | succ n ih =>
      intro hn h
      unfold ncv
      by_cases q : fr n = fr c ∧ tt n = tt c
      · rw [if_pos q, hb.2.2.2 n c (by omega) hc q.1 q.2]
      · rw [if_neg q]
        refine ih (by omega) ?_
        by_cases z : c = n
        · exact absurd (show fr n = fr c ∧ tt n = tt c by rw [z]; exact ⟨rfl, rfl⟩) q
        · omega
  exact key nc (by omega) hc
theorem n_conversionOf_L {a b nc : Nat} {fr tt : zN'} (hT : RefT h m) (h5 : I m 5 = nI nc) (hfr : I (m + 2) = nr fr) (htt : I (m + 3) = nr tt) (hb : bok fr tt nc nf) (ha : a < 8) (hb' : b < 8) (k : zH → Int32 → Int32 → Option (Int32 × zH)) : ∀ d c n, c + d = nc → d < n → fX7_conversionOf_L6 k m (nI a) (nI b) n (zw h I) (zon (ncv fr tt a b c)) (nI c) = k (zw h I) (zon (ncv fr tt a b nc)) (nI nc) := by
  have hnc := hb.2.1
  have hnf := hb.1
  intro d
  induction d with
  | zero =>
    intro c n hc hn
    obtain ⟨n, rfl⟩ := fuel1 hn
    have e : c = nc := by omega
    subst e
    rw [fX7_conversionOf_L6]
    simp (disch := first | assumption | omega) only [nl, nI_add, pk_mul, Option.bind_some, zb2_some, zz_at, zz_zz, zz_ne, nr_at, up_n, zaIw, zbIw, zgIw, zpIw, nI_le_t, nI_le_f, nI_lt_t, nI_lt_f, nI_eq_t, nI_eq_f, ↓reduceIte, zw_kd, zw_ln, zw_P, zw_I, nI_n9, Nat.add_zero, rgI hT, rpI hT, rkd hT, h5]
  | succ d ih =>
    intro c n hc hn
    obtain ⟨n, rfl⟩ := fuel1 hn
    have goal := ih (c + 1) n (by omega) (by omega)
    obtain ⟨b1, b2, -⟩ := hb.2.2.1 c (by omega)
    have ex : ∀ q : Prop, (q ↔ (fr c = a ∧ tt c = b)) → (q → ncv fr tt a b (c + 1) = some c) ∧ (¬ q → ncv fr tt a b (c + 1) = ncv fr tt a b c) := fun q hq => ⟨fun z => by rw [ncv, if_pos (hq.mp z)], fun z => by rw [ncv, if_neg (fun y => z (hq.mpr y))]⟩
    have ex := ex _ Iff.rfl
    rw [← goal, fX7_conversionOf_L6]
    by_cases c1 : fr c = a
    · by_cases c2 : tt c = b
      · rw [ex.1 ⟨c1, c2⟩]
        simp (disch := first | assumption | omega) only [nl, nI_add, pk_mul, Option.bind_some, zb2_some, zz_at, zz_zz, zz_ne, nr_at, up_n, zaIw, zbIw, zgIw, zpIw, nI_le_t, nI_le_f, nI_lt_t, nI_lt_f, nI_eq_t, nI_eq_f, ↓reduceIte, zw_kd, zw_ln, zw_P, zw_I, nI_n9, Nat.add_zero, rgI hT, rpI hT, rkd hT, rg2 hT, ra2 hT, rb2 hT, rg3 hT, ra3 hT, rb3 hT, h5, hfr, htt]
        rfl
      · rw [ex.2 (fun q => c2 q.2)]
        simp (disch := first | assumption | omega) only [nl, nI_add, pk_mul, Option.bind_some, zb2_some, zz_at, zz_zz, zz_ne, nr_at, up_n, zaIw, zbIw, zgIw, zpIw, nI_le_t, nI_le_f, nI_lt_t, nI_lt_f, nI_eq_t, nI_eq_f, ↓reduceIte, zw_kd, zw_ln, zw_P, zw_I, nI_n9, Nat.add_zero, rgI hT, rpI hT, rkd hT, rg2 hT, ra2 hT, rb2 hT, rg3 hT, ra3 hT, rb3 hT, h5, hfr, htt]
    · rw [ex.2 (fun q => c1 q.1)]
      simp (disch := first | assumption | omega) only [nl, nI_add, pk_mul, Option.bind_some, zb2_some, zz_at, zz_zz, zz_ne, nr_at, up_n, zaIw, zbIw, zgIw, zpIw, nI_le_t, nI_le_f, nI_lt_t, nI_lt_f, nI_eq_t, nI_eq_f, ↓reduceIte, zw_kd, zw_ln, zw_P, zw_I, nI_n9, Nat.add_zero, rgI hT, rpI hT, rkd hT, rg2 hT, ra2 hT, rb2 hT, rg3 hT, ra3 hT, rb3 hT, h5, hfr, htt]
theorem n_conversionOf {a b nc : Nat} {fr tt : zN'} (hT : RefT h m) (h5 : I m 5 = nI nc) (hfr : I (m + 2) = nr fr) (htt : I (m + 3) = nr tt) (hb : bok fr tt nc nf) (ha : a < 8) (hb' : b < 8) : fX7_conversionOf (zw h I) m (nI a) (nI b) = some (zon (ncv fr tt a b nc), zw h I) := by
  unfold fX7_conversionOf
  rw [if_pos (rkd hT)]
  exact n_conversionOf_L hT h5 hfr htt hb ha hb' _ nc 0 zF (by omega) (by unfold zF; have := hb.2.1; omega)
end NEXT
