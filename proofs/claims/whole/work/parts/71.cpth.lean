/-! pure: the component's board, and its tables of paths -/
theorem sgP {h : zH} {a k c b j : Nat} {v : Int32} : zgP (zsI h a k v) c b j = zgP h c b j := rfl
theorem saP {h : zH} {a k b : Nat} {v i : Int32} : zaP (zsI h a k v) b i = zaP h b i := rfl
def BSh (h : zH) (b : Nat) : Prop := zkd h b = 1 ∧ (∀ j, j < 8 → zP h b j = b + 1 + j) ∧ (∀ j, j < 7 → zkd h (b + 1 + j) = 9) ∧ (∀ j, j < 5 → zln h (b + 1 + j) = 20) ∧ zln h (b + 6) = 6 ∧ zln h (b + 7) = 6 ∧ zkd h (b + 8) = 11 ∧ zln h (b + 8) = 64
def BR (h : zH) (b nf nc np : Nat) (fr tt gr lo ac li : zN') : Prop := BSh h b ∧ zI h b 8 = nI nf ∧ zI h b 9 = nI nc ∧ zI h b 10 = nI np ∧ (∀ c, c < nc → zI h (b + 1) c = nI (fr c) ∧ zI h (b + 2) c = nI (tt c) ∧ zI h (b + 4) c = nI (gr c) ∧ zI h (b + 5) c = nI (lo c)) ∧ ∀ p, p < np → zI h (b + 6) p = nI (ac p) ∧ zI h (b + 7) p = nI (li p)
section CBRD
variable {h h' : zH} {b nf nc np lo' hi : Nat} {fr tt gr lo ac li : zN'}
theorem BSh_fr (f : Fr lo' hi h h') (d : b + 9 ≤ lo' ∨ hi ≤ b) (hs : BSh h b) : BSh h' b := by
  unfold BSh
  rw [f.1, f.2.1, (f.2.2.2 b (by omega)).2]
  exact hs
theorem BR_fr (f : Fr lo' hi h h') (d : b + 9 ≤ lo' ∨ hi ≤ b) (hB : BR h b nf nc np fr tt gr lo ac li) : BR h' b nf nc np fr tt gr lo ac li := by
  obtain ⟨s, r⟩ := hB
  refine ⟨BSh_fr f d s, ?_⟩
  rw [(f.2.2.2 b (by omega)).1, (f.2.2.2 (b + 1) (by omega)).1, (f.2.2.2 (b + 2) (by omega)).1, (f.2.2.2 (b + 4) (by omega)).1, (f.2.2.2 (b + 5) (by omega)).1, (f.2.2.2 (b + 6) (by omega)).1, (f.2.2.2 (b + 7) (by omega)).1]
  exact r
theorem BSh.p0 (hs : BSh h b) : zgP h 0 b 0 = some (b + 1) := gP_ hs.1 (hs.2.1 0 (by omega)) (by omega)
theorem BSh.p1 (hs : BSh h b) : zgP h 0 b 1 = some (b + 2) := gP_ hs.1 (hs.2.1 1 (by omega)) (by omega)
theorem BSh.p2 (hs : BSh h b) : zgP h 0 b 2 = some (b + 3) := gP_ hs.1 (hs.2.1 2 (by omega)) (by omega)
theorem BSh.p3 (hs : BSh h b) : zgP h 0 b 3 = some (b + 4) := gP_ hs.1 (hs.2.1 3 (by omega)) (by omega)
theorem BSh.p4 (hs : BSh h b) : zgP h 0 b 4 = some (b + 5) := gP_ hs.1 (hs.2.1 4 (by omega)) (by omega)
theorem BSh.p5 (hs : BSh h b) : zgP h 0 b 5 = some (b + 6) := gP_ hs.1 (hs.2.1 5 (by omega)) (by omega)
theorem BSh.p6 (hs : BSh h b) : zgP h 0 b 6 = some (b + 7) := gP_ hs.1 (hs.2.1 6 (by omega)) (by omega)
theorem BSh.p7 (hs : BSh h b) : zgP h 0 b 7 = some (b + 8) := gP_ hs.1 (hs.2.1 7 (by omega)) (by omega)
theorem BSh.k0 (hs : BSh h b) : zkd h (b + 1) = 9 := hs.2.2.1 0 (by omega)
theorem BSh.l0 (hs : BSh h b) : zln h (b + 1) = 20 := hs.2.2.2.1 0 (by omega)
theorem BSh.k1 (hs : BSh h b) : zkd h (b + 2) = 9 := hs.2.2.1 1 (by omega)
theorem BSh.l1 (hs : BSh h b) : zln h (b + 2) = 20 := hs.2.2.2.1 1 (by omega)
theorem BSh.k2 (hs : BSh h b) : zkd h (b + 3) = 9 := hs.2.2.1 2 (by omega)
theorem BSh.l2 (hs : BSh h b) : zln h (b + 3) = 20 := hs.2.2.2.1 2 (by omega)
theorem BSh.k3 (hs : BSh h b) : zkd h (b + 4) = 9 := hs.2.2.1 3 (by omega)
theorem BSh.l3 (hs : BSh h b) : zln h (b + 4) = 20 := hs.2.2.2.1 3 (by omega)
theorem BSh.k4 (hs : BSh h b) : zkd h (b + 5) = 9 := hs.2.2.1 4 (by omega)
theorem BSh.l4 (hs : BSh h b) : zln h (b + 5) = 20 := hs.2.2.2.1 4 (by omega)
theorem BSh.k5 (hs : BSh h b) : zkd h (b + 6) = 9 := hs.2.2.1 5 (by omega)
theorem BSh.l5 (hs : BSh h b) : zln h (b + 6) = 6 := hs.2.2.2.2.1
theorem BSh.k6 (hs : BSh h b) : zkd h (b + 7) = 9 := hs.2.2.1 6 (by omega)
theorem BSh.l6 (hs : BSh h b) : zln h (b + 7) = 6 := hs.2.2.2.2.2.1
theorem BR.gfr (hB : BR h b nf nc np fr tt gr lo ac li) (hn : nc ≤ 20) {c : Nat} (hc : c < nc) : zaI h (b + 1) (nI c) = some (nI (fr c)) := by rw [aI_ hB.1.k0 (by rw [hB.1.l0]; omega) (by rw [hB.1.l0]; omega), (hB.2.2.2.2.1 c hc).1]
theorem BR.gtt (hB : BR h b nf nc np fr tt gr lo ac li) (hn : nc ≤ 20) {c : Nat} (hc : c < nc) : zaI h (b + 2) (nI c) = some (nI (tt c)) := by rw [aI_ hB.1.k1 (by rw [hB.1.l1]; omega) (by rw [hB.1.l1]; omega), (hB.2.2.2.2.1 c hc).2.1]
theorem BR.ggr (hB : BR h b nf nc np fr tt gr lo ac li) (hn : nc ≤ 20) {c : Nat} (hc : c < nc) : zaI h (b + 4) (nI c) = some (nI (gr c)) := by rw [aI_ hB.1.k3 (by rw [hB.1.l3]; omega) (by rw [hB.1.l3]; omega), (hB.2.2.2.2.1 c hc).2.2.1]
theorem BR.glo (hB : BR h b nf nc np fr tt gr lo ac li) (hn : nc ≤ 20) {c : Nat} (hc : c < nc) : zaI h (b + 5) (nI c) = some (nI (lo c)) := by rw [aI_ hB.1.k4 (by rw [hB.1.l4]; omega) (by rw [hB.1.l4]; omega), (hB.2.2.2.2.1 c hc).2.2.2]
theorem BR.gac (hB : BR h b nf nc np fr tt gr lo ac li) (hn : np ≤ 6) {p : Nat} (hp : p < np) : zaI h (b + 6) (nI p) = some (nI (ac p)) := by rw [aI_ hB.1.k5 (by rw [hB.1.l5]; omega) (by rw [hB.1.l5]; omega), (hB.2.2.2.2.2 p hp).1]
theorem BR.gli (hB : BR h b nf nc np fr tt gr lo ac li) (hn : np ≤ 6) {p : Nat} (hp : p < np) : zaI h (b + 7) (nI p) = some (nI (li p)) := by rw [aI_ hB.1.k6 (by rw [hB.1.l6]; omega) (by rw [hB.1.l6]; omega), (hB.2.2.2.2.2 p hp).2]
theorem BR.gnf (hB : BR h b nf nc np fr tt gr lo ac li) : zgI h 0 b 8 = some (nI nf) := by rw [gI_ hB.1.1, hB.2.1]
theorem BR.gnc (hB : BR h b nf nc np fr tt gr lo ac li) : zgI h 0 b 9 = some (nI nc) := by rw [gI_ hB.1.1, hB.2.2.1]
theorem BR.gnp (hB : BR h b nf nc np fr tt gr lo ac li) : zgI h 0 b 10 = some (nI np) := by rw [gI_ hB.1.1, hB.2.2.2.1]
end CBRD
def PSh (h : zH) (w : Nat) : Prop := zkd h w = 3 ∧ (∀ j, j < 4 → zP h w j = w + 1 + 9 * j ∧ zkd h (w + 1 + 9 * j) = 14 ∧ zln h (w + 1 + 9 * j) = 8) ∧ ∀ j a, j < 4 → a < 8 → zP h (w + 1 + 9 * j) a = w + 2 + 9 * j + a ∧ zkd h (w + 2 + 9 * j + a) = 9 ∧ zln h (w + 2 + 9 * j + a) = 8
def PR (h : zH) (w : Nat) (M : Nat → Nat → Nat → Nat) : Prop := PSh h w ∧ ∀ j a b, j < 4 → a < 8 → b < 8 → zI h (w + 2 + 9 * j + a) b = nI (M j a b)
def mu3 (M : Nat → Nat → Nat → Nat) (j a b v : Nat) : Nat → Nat → Nat → Nat := fun i => if i = j then mup (M j) a b v else M i
theorem mu3_e {M : Nat → Nat → Nat → Nat} {j a b v : Nat} : mu3 M j a b v j = mup (M j) a b v := if_pos rfl
theorem mu3_n {M : Nat → Nat → Nat → Nat} {i j a b v : Nat} (h : i ≠ j) : mu3 M j a b v i = M i := if_neg h
section CPTH
variable {h h' g : zH} {w lo hi : Nat} {M : Nat → Nat → Nat → Nat}
theorem PSh_fr (f : Fr lo hi h h') (d : w + 37 ≤ lo ∨ hi ≤ w) (hs : PSh h w) : PSh h' w := by
  obtain ⟨f1, f2, -, f4⟩ := f
  obtain ⟨a1, a2, a3⟩ := hs
  unfold PSh
  rw [f1, f2]
  refine ⟨a1, fun j hj => ?_, fun j a hj ha => ?_⟩
  · rw [(f4 w (by omega)).2]; exact a2 j hj
  · rw [(f4 (w + 1 + 9 * j) (by omega)).2]; exact a3 j a hj ha
theorem PSh_fI (f : FrI lo hi h h') (hs : PSh h w) : PSh h' w := by
  unfold PSh
  rw [f.1, f.2.1, f.2.2.2.1]
  exact hs
theorem PSh.p (hs : PSh h w) {j : Nat} (hj : j < 4) : zgP h 2 w j = some (w + 1 + 9 * j) := gP_ hs.1 (hs.2.1 j hj).1 (by omega)
theorem PSh.r (hs : PSh h w) {j a : Nat} (hj : j < 4) (ha : a < 8) : zaP h (w + 1 + 9 * j) (nI a) = some (w + 2 + 9 * j + a) := aP_ (by rw [(hs.2.1 j hj).2.1]; omega) (by rw [(hs.2.1 j hj).2.2]; exact ha) (by rw [(hs.2.1 j hj).2.2]; omega) (hs.2.2 j a hj ha).1 (by omega)
theorem PR.rd (hP : PR h w M) {j a b : Nat} (hj : j < 4) (ha : a < 8) (hb : b < 8) : zaI h (w + 2 + 9 * j + a) (nI b) = some (nI (M j a b)) := by rw [aI_ (hP.1.2.2 j a hj ha).2.1 (by rw [(hP.1.2.2 j a hj ha).2.2]; exact hb) (by rw [(hP.1.2.2 j a hj ha).2.2]; omega), hP.2 j a b hj ha hb]
theorem PSh.s {a k : Nat} {v : Int32} (hs : PSh h w) : PSh (zsI h a k v) w := hs
theorem PSwr (hs : PSh g w) {j a b : Nat} {v : Int32} (hj : j < 4) (ha : a < 8) (hb : b < 8) : zbI g (w + 2 + 9 * j + a) (nI b) v = some (zsI g (w + 2 + 9 * j + a) b v) := bI_ (hs.2.2 j a hj ha).2.1 (by rw [(hs.2.2 j a hj ha).2.2]; exact hb) (by rw [(hs.2.2 j a hj ha).2.2]; omega)
theorem PR.wt (hP : PR h w M) {j a b v : Nat} (hj : j < 4) (ha : a < 8) : PR (zsI h (w + 2 + 9 * j + a) b (nI v)) w (mu3 M j a b v) := by
  refine ⟨PSh_fI (lo := 0) (hi := w + 3 + 9 * j + a) (FrI.sI (by omega) (by omega)) hP.1, fun i x y hi hx hy => ?_⟩
  by_cases c : i = j
  · subst c
    rw [mu3_e]
    unfold mup
    by_cases d : x = a ∧ y = b
    · rw [if_pos d, d.1, d.2, sI_at]
    · rw [if_neg d, ← hP.2 i x y hi hx hy]
      by_cases e : x = a
      · rw [sI_k (by omega)]
      · rw [sI_a (by omega)]
  · rw [mu3_n c, ← hP.2 i x y hi hx hy, sI_a (by omega)]
theorem PW {j a b : Nat} {v : Int32} (hj : j < 4) (ha : a < 8) : FrI w (w + 37) h (zsI h (w + 2 + 9 * j + a) b v) := FrI.sI (by omega) (by omega)
theorem PR_cg {M' : Nat → Nat → Nat → Nat} (e : ∀ j a b, j < 4 → a < 8 → b < 8 → M' j a b = M j a b) (hP : PR h w M) : PR h w M' := ⟨hP.1, fun j a b hj ha hb => by rw [e j a b hj ha hb]; exact hP.2 j a b hj ha hb⟩
def Clr (M : Nat → Nat → Nat → Nat) (a b : Nat) : Prop := ∀ x y, x < 8 → y < 8 → (x < a ∨ (x = a ∧ y < b)) → M 0 x y = fINF ∧ M 1 x y = 4294967295 ∧ M 2 x y = (if x = y then 0 else fINF) ∧ M 3 x y = 4294967295
theorem Clr_s {a b z : Nat} (hz : z = if a = b then 0 else fINF) (hC : Clr M a b) : Clr (mu3 (mu3 (mu3 (mu3 M 0 a b fINF) 1 a b 4294967295) 2 a b z) 3 a b 4294967295) a (b + 1) := by
  intro x y hx hy q
  rw [mu3_n (i := 0) (by omega), mu3_n (i := 0) (by omega), mu3_n (i := 0) (by omega), mu3_e, mu3_n (i := 1) (by omega), mu3_n (i := 1) (by omega), mu3_e, mu3_n (i := 2) (by omega), mu3_e, mu3_e, mu3_n (i := 1) (by omega), mu3_n (i := 2) (by omega), mu3_n (i := 2) (by omega), mu3_n (i := 3) (by omega), mu3_n (i := 3) (by omega), mu3_n (i := 3) (by omega)]
  unfold mup
  by_cases c : x = a ∧ y = b
  · simp only [if_pos c]
    rw [c.1, c.2]
    exact ⟨trivial, trivial, hz, trivial⟩
  · simp only [if_neg c]
    exact hC x y hx hy (by omega)
theorem clr_10 {a : Nat} (ha : a < 8) (k : zH → Int32 → Option zH) : ∀ d b n h M, b + d = 8 → d < n → PR h w M → Clr M a b → ∃ h' M', fX2_clearSteps_L10 k w (nI a) n h (nI b) = k h' (nI 8) ∧ PR h' w M' ∧ Clr M' (a + 1) 0 ∧ FrI w (w + 37) h h' := by
  intro d
  induction d with
  | zero =>
    intro b n h M hf hn hP hC
    obtain ⟨n, rfl⟩ := fuel1 hn
    have e8 : b = 8 := by omega
    subst e8
    refine ⟨h, M, ?_, hP, fun x y hx hy q => hC x y hx hy (by omega), FrI.rf⟩
    rw [fX2_clearSteps_L10]
    simp (disch := first | assumption | (simp only [sI_kd, sP_kd, rw_kd, sI_ln, sP_ln, rw_ln] <;> first | assumption | omega) | omega) only [nl, nI_add, pk_mul, Option.bind_some, zb2_some, nI_le_t, nI_le_f, nI_lt_t, nI_lt_f, nI_eq_t, nI_eq_f, nI_m1, nI_em1, ↓reduceIte, Nat.add_zero]
  | succ d ih =>
    intro b n h M hf hn hP hC
    obtain ⟨n, rfl⟩ := fuel1 hn
    have hs := hP.1
    by_cases c : a = b
    · have P4 := (((hP.wt (j := 0) (b := b) (v := 1000000) (by omega) ha).wt (j := 1) (b := b) (v := 4294967295) (by omega) ha).wt (j := 2) (b := b) (v := 0) (by omega) ha).wt (j := 3) (b := b) (v := 4294967295) (by omega) ha
      obtain ⟨h', M', i1, i2, i3, i4⟩ := ih (b + 1) n _ _ (by omega) (by omega) P4 (Clr_s (by rw [if_pos c]) hC)
      refine ⟨h', M', ?_, i2, i3, ((((PW (by omega) ha).tr (PW (by omega) ha)).tr (PW (by omega) ha)).tr (PW (by omega) ha)).tr i4⟩
      rw [fX2_clearSteps_L10]
      simp (disch := first | assumption | omega | (apply PSh.s; first | assumption | (apply PSh.s; first | assumption | (apply PSh.s; assumption)))) only [nl, nI_add, pk_mul, Option.bind_some, zb2_some, nI_le_t, nI_le_f, nI_lt_t, nI_lt_f, nI_eq_t, nI_eq_f, nI_m1, nI_em1, ↓reduceIte, Nat.add_zero, hs.p, hs.r, PSwr, sgP, saP]
      exact i1
    · have P4 := (((hP.wt (j := 0) (b := b) (v := 1000000) (by omega) ha).wt (j := 1) (b := b) (v := 4294967295) (by omega) ha).wt (j := 2) (b := b) (v := 1000000) (by omega) ha).wt (j := 3) (b := b) (v := 4294967295) (by omega) ha
      obtain ⟨h', M', i1, i2, i3, i4⟩ := ih (b + 1) n _ _ (by omega) (by omega) P4 (Clr_s (by rw [if_neg c]; rfl) hC)
      refine ⟨h', M', ?_, i2, i3, ((((PW (by omega) ha).tr (PW (by omega) ha)).tr (PW (by omega) ha)).tr (PW (by omega) ha)).tr i4⟩
      rw [fX2_clearSteps_L10]
      simp (disch := first | assumption | omega | (apply PSh.s; first | assumption | (apply PSh.s; first | assumption | (apply PSh.s; assumption)))) only [nl, nI_add, pk_mul, Option.bind_some, zb2_some, nI_le_t, nI_le_f, nI_lt_t, nI_lt_f, nI_eq_t, nI_eq_f, nI_m1, nI_em1, ↓reduceIte, Nat.add_zero, hs.p, hs.r, PSwr, sgP, saP]
      exact i1
theorem clr_2 : ∀ d a n h M, a + d = 8 → d < n → PR h w M → Clr M a 0 → ∃ h' M', fX2_clearSteps_L2 (fun h1 y2 => some h1) w n h (nI a) = some h' ∧ PR h' w M' ∧ Clr M' 8 0 ∧ FrI w (w + 37) h h' := by
  intro d
  induction d with
  | zero =>
    intro a n h M hf hn hP hC
    obtain ⟨n, rfl⟩ := fuel1 hn
    have e8 : a = 8 := by omega
    subst e8
    refine ⟨h, M, ?_, hP, hC, FrI.rf⟩
    rw [fX2_clearSteps_L2]
    simp (disch := first | assumption | (simp only [sI_kd, sP_kd, rw_kd, sI_ln, sP_ln, rw_ln] <;> first | assumption | omega) | omega) only [nl, nI_add, pk_mul, Option.bind_some, zb2_some, nI_le_t, nI_le_f, nI_lt_t, nI_lt_f, nI_eq_t, nI_eq_f, nI_m1, nI_em1, ↓reduceIte, Nat.add_zero]
  | succ d ih =>
    intro a n h M hf hn hP hC
    obtain ⟨n, rfl⟩ := fuel1 hn
    obtain ⟨h1, M1, j1, j2, j3, j4⟩ := clr_10 (w := w) (a := a) (by omega) (fun h2 y3 => fX2_clearSteps_L2 (fun h1 y2 => some h1) w n h2 (nI (a + 1))) 8 0 zF h M rfl (by decide) hP hC
    obtain ⟨h', M', i1, i2, i3, i4⟩ := ih (a + 1) n h1 M1 (by omega) (by omega) j2 j3
    refine ⟨h', M', ?_, i2, i3, j4.tr i4⟩
    rw [fX2_clearSteps_L2]
    simp (disch := first | assumption | (simp only [sI_kd, sP_kd, rw_kd, sI_ln, sP_ln, rw_ln] <;> first | assumption | omega) | omega) only [nl, nI_add, pk_mul, Option.bind_some, zb2_some, nI_le_t, nI_le_f, nI_lt_t, nI_lt_f, nI_eq_t, nI_eq_f, nI_m1, nI_em1, ↓reduceIte, Nat.add_zero]
    rw [j1]
    exact i1
/-- all is far -/
def Mat (D S R F : Nat → Nat → Nat) : Nat → Nat → Nat → Nat := fun j => if j = 0 then D else if j = 1 then S else if j = 2 then R else F
theorem Mat_0 {D S R F : Nat → Nat → Nat} : Mat D S R F 0 = D := rfl
theorem Mat_1 {D S R F : Nat → Nat → Nat} : Mat D S R F 1 = S := rfl
theorem Mat_2 {D S R F : Nat → Nat → Nat} : Mat D S R F 2 = R := rfl
theorem Mat_3 {D S R F : Nat → Nat → Nat} : Mat D S R F 3 = F := rfl
theorem Mat_w0 {D S R F : Nat → Nat → Nat} {a b v : Nat} : mu3 (Mat D S R F) 0 a b v = Mat (mup D a b v) S R F := by
  funext j
  unfold mu3 Mat
  by_cases c : j = 0
  · rw [if_pos c, if_pos c]; rfl
  · rw [if_neg c, if_neg c, if_neg c]
theorem Mat_w1 {D S R F : Nat → Nat → Nat} {a b v : Nat} : mu3 (Mat D S R F) 1 a b v = Mat D (mup S a b v) R F := by
  funext j
  unfold mu3 Mat
  by_cases c : j = 1
  · subst c; rfl
  · rw [if_neg c, if_neg c, if_neg c]
theorem Mat_w2 {D S R F : Nat → Nat → Nat} {a b v : Nat} : mu3 (Mat D S R F) 2 a b v = Mat D S (mup R a b v) F := by
  funext j
  unfold mu3 Mat
  by_cases c : j = 2
  · subst c; rfl
  · rw [if_neg c, if_neg c, if_neg c]
theorem Mat_w3 {D S R F : Nat → Nat → Nat} {a b v : Nat} : ∀ j, j < 4 → mu3 (Mat D S R F) 3 a b v j = Mat D S R (mup F a b v) j := by
  intro j hj
  unfold mu3 Mat
  by_cases c : j = 3
  · subst c; rfl
  · rw [if_neg c]
    by_cases c0 : j = 0
    · rw [if_pos c0, if_pos c0]
    · rw [if_neg c0, if_neg c0]
      by_cases c1 : j = 1
      · rw [if_pos c1, if_pos c1]
      · rw [if_neg c1, if_neg c1, if_pos (by omega), if_pos (by omega)]
theorem c_clear {fr tt co : zN'} {skip : Nat} (hP : PR h w M) : ∃ h', fX2_clearSteps h w = some h' ∧ PR h' w (Mat (fwd 8 (cmt fr tt co skip 0)) (stp fr tt skip 0) (fw0 8 (cmt fr tt co skip 0)) (fun _ _ => 4294967295)) ∧ FrI w (w + 37) h h' := by
  obtain ⟨h', M', i1, i2, i3, i4⟩ := clr_2 (w := w) 8 0 zF h M rfl (by decide) hP (fun x y _ _ q => by omega)
  refine ⟨h', ?_, PR_cg (fun j a b hj ha hb => ?_) i2, i4⟩
  · unfold fX2_clearSteps
    rw [if_pos hP.1.1]
    exact i1
  · obtain ⟨c1, c2, c3, c4⟩ := i3 a b ha hb (by omega)
    match j, hj with
    | 0, _ => exact c1.symm
    | 1, _ => exact c2.symm
    | 2, _ => exact c3.symm
    | 3, _ => exact c4.symm
end CPTH
