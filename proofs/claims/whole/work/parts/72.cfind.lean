/-! pure: the component finds the paths -/
theorem zle_ {h : zH} {a : Nat} (hk : zkd h a = 9) : zle h a = some (nI (zln h a)) := if_pos (by omega)
section CFIND
variable {h : zH} {w : Nat} {D S R F : Nat → Nat → Nat}
theorem sh_10 {k : zH → Int32 → Option zH} {M : Nat → Nat → Nat} {v a : Nat} (hv : v < 8) (ha : a < 8) (hM : ∀ x y, M x y ≤ fINF) (hd : M v v = 0) : ∀ d b n g, b + d = 8 → d < n → PR g w (Mat D S (fwq M v 8 a b) F) → ∃ g', fX2_shortenBy_L10 k w (nI v) (nI a) n g (nI b) = k g' (nI 8) ∧ PR g' w (Mat D S (fwq M v 8 (a + 1) 0) F) ∧ FrI w (w + 37) g g' := by
  intro d
  induction d with
  | zero =>
    intro b n g hf hn hP
    obtain ⟨n, rfl⟩ := fuel1 hn
    have e8 : b = 8 := by omega
    subst e8
    rw [fwq_line] at hP
    refine ⟨g, ?_, hP, FrI.rf⟩
    rw [fX2_shortenBy_L10]
    simp (disch := first | assumption | (simp only [sI_kd, sP_kd, rw_kd, sI_ln, sP_ln, rw_ln] <;> first | assumption | omega) | omega) only [nl, nI_add, pk_mul, Option.bind_some, zb2_some, nI_le_t, nI_le_f, nI_lt_t, nI_lt_f, nI_eq_t, nI_eq_f, nI_m1, nI_em1, ↓reduceIte, Nat.add_zero]
  | succ d ih =>
    intro b n g hf hn hP
    obtain ⟨n, rfl⟩ := fuel1 hn
    have hs := hP.1
    have r1 : zaI g (w + 2 + 9 * 2 + a) (nI b) = some (nI (M a b)) := by rw [hP.rd (by omega) ha (by omega), Mat_2, fwq_self]
    have r2 : zaI g (w + 2 + 9 * 2 + a) (nI v) = some (nI (M a v)) := by rw [hP.rd (by omega) ha (by omega), Mat_2, fwq_col hd]
    have r3 : zaI g (w + 2 + 9 * 2 + v) (nI b) = some (nI (M v b)) := by rw [hP.rd (by omega) hv (by omega), Mat_2, fwq_rw hd]
    have b1 := hM a v
    have b2 := hM v b
    have b3 := hM a b
    have P1 := hP.wt (j := 2) (b := b) (v := fws M v a b) (by omega) ha
    rw [Mat_w2, fwq_step ha (by omega)] at P1
    obtain ⟨g', i1, i2, i3⟩ := ih (b + 1) n _ (by omega) (by omega) P1
    refine ⟨g', ?_, i2, (PW (by omega) ha).tr i3⟩
    have fi : fINF = 1000000 := rfl
    rw [fX2_shortenBy_L10]
    by_cases c : M a v + M v b < M a b
    · have ev : fws M v a b = M a v + M v b := if_pos c
      rw [ev] at i1
      simp (disch := first | assumption | omega | (apply PSh.s; first | assumption | (apply PSh.s; first | assumption | (apply PSh.s; assumption)))) only [nl, nI_add, pk_mul, Option.bind_some, zb2_some, nI_le_t, nI_le_f, nI_lt_t, nI_lt_f, nI_eq_t, nI_eq_f, nI_m1, nI_em1, ↓reduceIte, Nat.add_zero, hs.p, hs.r, PSwr, r1, r2, r3]
      exact i1
    · have ev : fws M v a b = M a b := if_neg c
      rw [ev] at i1
      simp (disch := first | assumption | omega | (apply PSh.s; first | assumption | (apply PSh.s; first | assumption | (apply PSh.s; assumption)))) only [nl, nI_add, pk_mul, Option.bind_some, zb2_some, nI_le_t, nI_le_f, nI_lt_t, nI_lt_f, nI_eq_t, nI_eq_f, nI_m1, nI_em1, ↓reduceIte, Nat.add_zero, hs.p, hs.r, PSwr, r1, r2, r3]
      exact i1
theorem sh_2 {M : Nat → Nat → Nat} {v : Nat} (hv : v < 8) (hM : ∀ x y, M x y ≤ fINF) (hd : M v v = 0) : ∀ d a n g, a + d = 8 → d < n → PR g w (Mat D S (fwq M v 8 a 0) F) → ∃ g', fX2_shortenBy_L2 (fun h1 y2 => some h1) w (nI v) n g (nI a) = some g' ∧ PR g' w (Mat D S (fwq M v 8 8 0) F) ∧ FrI w (w + 37) g g' := by
  intro d
  induction d with
  | zero =>
    intro a n g hf hn hP
    obtain ⟨n, rfl⟩ := fuel1 hn
    have e8 : a = 8 := by omega
    subst e8
    refine ⟨g, ?_, hP, FrI.rf⟩
    rw [fX2_shortenBy_L2]
    simp (disch := first | assumption | (simp only [sI_kd, sP_kd, rw_kd, sI_ln, sP_ln, rw_ln] <;> first | assumption | omega) | omega) only [nl, nI_add, pk_mul, Option.bind_some, zb2_some, nI_le_t, nI_le_f, nI_lt_t, nI_lt_f, nI_eq_t, nI_eq_f, nI_m1, nI_em1, ↓reduceIte, Nat.add_zero]
  | succ d ih =>
    intro a n g hf hn hP
    obtain ⟨n, rfl⟩ := fuel1 hn
    obtain ⟨g1, j1, j2, j3⟩ := sh_10 (k := fun h2 y3 => fX2_shortenBy_L2 (fun h1 y2 => some h1) w (nI v) n h2 (nI (a + 1))) (a := a) hv (by omega) hM hd 8 0 zF g rfl (by decide) hP
    obtain ⟨g', i1, i2, i3⟩ := ih (a + 1) n g1 (by omega) (by omega) j2
    refine ⟨g', ?_, i2, j3.tr i3⟩
    rw [fX2_shortenBy_L2]
    simp (disch := first | assumption | (simp only [sI_kd, sP_kd, rw_kd, sI_ln, sP_ln, rw_ln] <;> first | assumption | omega) | omega) only [nl, nI_add, pk_mul, Option.bind_some, zb2_some, nI_le_t, nI_le_f, nI_lt_t, nI_lt_f, nI_eq_t, nI_eq_f, nI_m1, nI_em1, ↓reduceIte, Nat.add_zero]
    rw [j1]
    exact i1
theorem c_shorten {M : Nat → Nat → Nat} {v : Nat} (hv : v < 8) (hM : ∀ x y, M x y ≤ fINF) (hd : ∀ a, M a a = 0) (hP : PR h w (Mat D S (fwn 8 M v) F)) : ∃ g', fX2_shortenBy h w (nI v) = some g' ∧ PR g' w (Mat D S (fwn 8 M (v + 1)) F) ∧ FrI w (w + 37) h g' := by
  unfold fX2_shortenBy
  rw [if_pos hP.1.1]
  have e : PR h w (Mat D S (fwq (fwn 8 M v) v 8 0 0) F) := by rw [fwq_0]; exact hP
  obtain ⟨g', i1, i2, i3⟩ := sh_2 hv (fwn_le hM v) (fwn_diag hd v v) 8 0 zF h rfl (by decide) e
  rw [fwq_all] at i2
  exact ⟨g', i1, i2, i3⟩
theorem fi_107 {u1 u2 : Nat} {u3 : Int32} {k : zH → Int32 → Option zH} {M : Nat → Nat → Nat} (hM : ∀ x y, M x y ≤ fINF) (hd : ∀ a, M a a = 0) : ∀ d v n g, v + d = 8 → d < n → PR g w (Mat D S (fwn 8 M v) F) → ∃ g', fX2_find_L107 k w u1 u2 u3 n g (nI v) = k g' (nI 8) ∧ PR g' w (Mat D S (fwn 8 M 8) F) ∧ FrI w (w + 37) g g' := by
  intro d
  induction d with
  | zero =>
    intro v n g hf hn hP
    obtain ⟨n, rfl⟩ := fuel1 hn
    have e8 : v = 8 := by omega
    subst e8
    refine ⟨g, ?_, hP, FrI.rf⟩
    rw [fX2_find_L107]
    simp (disch := first | assumption | (simp only [sI_kd, sP_kd, rw_kd, sI_ln, sP_ln, rw_ln] <;> first | assumption | omega) | omega) only [nl, nI_add, pk_mul, Option.bind_some, zb2_some, nI_le_t, nI_le_f, nI_lt_t, nI_lt_f, nI_eq_t, nI_eq_f, nI_m1, nI_em1, ↓reduceIte, Nat.add_zero]
  | succ d ih =>
    intro v n g hf hn hP
    obtain ⟨n, rfl⟩ := fuel1 hn
    obtain ⟨g1, j1, j2, j3⟩ := c_shorten (by omega) hM hd hP
    obtain ⟨g', i1, i2, i3⟩ := ih (v + 1) n g1 (by omega) (by omega) j2
    refine ⟨g', ?_, i2, j3.tr i3⟩
    rw [fX2_find_L107]
    simp (disch := first | assumption | (simp only [sI_kd, sP_kd, rw_kd, sI_ln, sP_ln, rw_ln] <;> first | assumption | omega) | omega) only [nl, nI_add, pk_mul, Option.bind_some, zb2_some, nI_le_t, nI_le_f, nI_lt_t, nI_lt_f, nI_eq_t, nI_eq_f, nI_m1, nI_em1, ↓reduceIte, Nat.add_zero, j1]
    exact i1
theorem fi_7 {h0 : zH} {cs bd skip nc nf np : Nat} {u3 : Int32} {fr tt gr lo ac li co : zN'} {k : zH → Int32 → Option zH} (hB : BR h0 bd nf nc np fr tt gr lo ac li) (hcs : zkd h0 cs = 9) (hcl : zln h0 cs = 20) (hcv : ∀ c, c < nc → zI h0 cs c = nI (co c)) (hco : ∀ c, c < nc → 1 ≤ co c ∧ co c ≤ 99) (hb : bok fr tt nc nf) (d1 : bd + 9 ≤ w ∨ w + 37 ≤ bd) (d2 : cs < w ∨ w + 37 ≤ cs) (hu : ∀ c, c < 20 → (nI c = u3 ↔ c = skip)) : ∀ d c n g, c + d = nc → d < n → FrI w (w + 37) h0 g → PR g w (Mat (fwd 8 (cmt fr tt co skip c)) (stp fr tt skip c) (fw0 8 (cmt fr tt co skip c)) F) → ∃ g', fX2_find_L7 k w bd cs u3 n g (nI c) = k g' (nI nc) ∧ PR g' w (Mat (fwd 8 (cmt fr tt co skip nc)) (stp fr tt skip nc) (fw0 8 (cmt fr tt co skip nc)) F) ∧ FrI w (w + 37) h0 g' := by
  have hn20 := hb.2.1
  have hn8 := hb.1
  intro d
  induction d with
  | zero =>
    intro c n g hf hn hF hP
    obtain ⟨n, rfl⟩ := fuel1 hn
    have e8 : c = nc := by omega
    subst e8
    have B := BR_fr hF.fr d1 hB
    refine ⟨g, ?_, hP, hF⟩
    rw [fX2_find_L7]
    simp (disch := first | assumption | (simp only [sI_kd, sP_kd, rw_kd, sI_ln, sP_ln, rw_ln] <;> first | assumption | omega) | omega) only [nl, nI_add, pk_mul, Option.bind_some, zb2_some, nI_le_t, nI_le_f, nI_lt_t, nI_lt_f, nI_eq_t, nI_eq_f, nI_m1, nI_em1, ↓reduceIte, Nat.add_zero, B.gnc]
  | succ d ih =>
    intro c n g hf hn hF hP
    obtain ⟨n, rfl⟩ := fuel1 hn
    have B := BR_fr hF.fr d1 hB
    have hs := hP.1
    have ck : zkd g cs = 9 := by rw [hF.1]; exact hcs
    have cl : zln g cs = 20 := by rw [hF.2.1]; exact hcl
    have le : zle g cs = some (nI 20) := by rw [zle_ ck, cl]
    by_cases s : c = skip
    · have cu : (nI c = u3) = True := eq_true ((hu c (by omega)).mpr s)
      have e1 := cmt_skip (co := co) (skip := skip) hb (c := c) (by omega) s
      have e2 : stp fr tt skip (c + 1) = stp fr tt skip c := by
        show (if c = skip then stp fr tt skip c else _) = _
        rw [if_pos s]
      rw [← e1, ← e2] at hP
      obtain ⟨g', i1, i2, i3⟩ := ih (c + 1) n g (by omega) (by omega) hF hP
      refine ⟨g', ?_, i2, i3⟩
      rw [fX2_find_L7]
      simp (disch := first | assumption | (simp only [sI_kd, sP_kd, rw_kd, sI_ln, sP_ln, rw_ln] <;> first | assumption | omega) | omega) only [nl, nI_add, pk_mul, Option.bind_some, zb2_some, nI_le_t, nI_le_f, nI_lt_t, nI_lt_f, nI_eq_t, nI_eq_f, nI_m1, nI_em1, ↓reduceIte, Nat.add_zero, B.gnc, le, cu]
      exact i1
    · have cu : ¬ nI c = u3 := fun z => s ((hu c (by omega)).mp z)
      obtain ⟨o1, o2⟩ := hco c (by omega)
      obtain ⟨f1, f2, f3⟩ := hb.2.2.1 c (by omega)
      have f8 : fr c < 8 := by omega
      have t8 : tt c < 8 := by omega
      have rc : zaI g cs (nI c) = some (nI (co c)) := by rw [aI_ ck (by omega) (by omega), hF.2.2.2.2 cs (by omega), hcv c (by omega)]
      have P1 := hP.wt (j := 0) (b := tt c) (v := 8 * co c + 1) (by omega) f8
      rw [Mat_w0, fwd_up8 o1 s] at P1
      have P2 := P1.wt (j := 1) (b := tt c) (v := c) (by omega) f8
      rw [Mat_w1] at P2
      have e2 : mup (stp fr tt skip c) (fr c) (tt c) c = stp fr tt skip (c + 1) := by
        show _ = (if c = skip then stp fr tt skip c else mup (stp fr tt skip c) (fr c) (tt c) c)
        rw [if_neg s]
      rw [e2] at P2
      have rd := P2.rd (j := 0) (by omega) f8 t8
      have dv : fwd 8 (cmt fr tt co skip (c + 1)) (fr c) (tt c) = 8 * co c + 1 := by
        rw [← fwd_up8 o1 s]
        exact if_pos ⟨rfl, rfl⟩
      rw [Mat_0, dv] at rd
      have P3 := P2.wt (j := 2) (b := tt c) (v := 8 * co c + 1) (by omega) f8
      rw [Mat_w2, fw0_up8 o1 s f3] at P3
      obtain ⟨g', i1, i2, i3⟩ := ih (c + 1) n _ (by omega) (by omega) (((hF.tr (PW (j := 0) (by omega) f8)).tr (PW (j := 1) (by omega) f8)).tr (PW (j := 2) (by omega) f8)) P3
      refine ⟨g', ?_, i2, i3⟩
      rw [fX2_find_L7]
      simp (disch := first | assumption | omega | (apply PSh.s; first | assumption | (apply PSh.s; first | assumption | (apply PSh.s; assumption)))) only [nl, nI_add, pk_mul, Option.bind_some, zb2_some, nI_le_t, nI_le_f, nI_lt_t, nI_lt_f, nI_eq_t, nI_eq_f, nI_m1, nI_em1, ↓reduceIte, Nat.add_zero, B.gnc, le, cu, B.1.p0, B.1.p1, B.gfr hn20, B.gtt hn20, hs.p, hs.r, rc, Nat.mul_comm (co c) 8, PSwr, sgP, saP, rd]
      exact i1
theorem c_lfs {a b : Nat} (ha : a < 8) (hb : b < 8) (hP : PR h w (Mat D S R F)) (hD : ∀ x y, D x y ≤ fINF) (hR : ∀ x y, R x y ≤ fINF) : fX2_lowestFirstStep h w (nI a) (nI b) = some (nI (lfs D S R a b 8), h) := by
  have key : ∀ d i n, i + d = 8 → d < n → fX2_lowestFirstStep_L2 (fun h1 y2 => some ((-1), h1)) w (nI a) (nI b) n h (nI i) = some (nI (lfs D S R a b d), h) := by
    have hs := hP.1
    have fi : fINF = 1000000 := rfl
    intro d
    induction d with
    | zero =>
      intro i n hf hn
      obtain ⟨n, rfl⟩ := fuel1 hn
      have e8 : i = 8 := by omega
      subst e8
      rw [fX2_lowestFirstStep_L2]
      simp (disch := first | assumption | (simp only [sI_kd, sP_kd, rw_kd, sI_ln, sP_ln, rw_ln] <;> first | assumption | omega) | omega) only [nl, nI_add, pk_mul, Option.bind_some, zb2_some, nI_le_t, nI_le_f, nI_lt_t, nI_lt_f, nI_eq_t, nI_eq_f, nI_m1, nI_em1, ↓reduceIte, Nat.add_zero]
      rfl
    | succ d ih =>
      intro i n hf hn
      obtain ⟨n, rfl⟩ := fuel1 hn
      have r0 := hP.rd (j := 0) (a := a) (b := i) (by omega) ha (by omega)
      have r1 := hP.rd (j := 1) (a := a) (b := i) (by omega) ha (by omega)
      have r2 := hP.rd (j := 2) (a := i) (b := b) (by omega) (by omega) hb
      have r3 := hP.rd (j := 2) (a := a) (b := b) (by omega) ha hb
      rw [Mat_0] at r0
      rw [Mat_1] at r1
      rw [Mat_2] at r2 r3
      have b1 := hD a i
      have b2 := hR i b
      have b3 := hR a b
      have ei : 8 - (d + 1) = i := by omega
      rw [fX2_lowestFirstStep_L2]
      by_cases c : D a i + R i b = R a b
      · have v : lfs D S R a b (d + 1) = S a i := by rw [lfs, ei, if_pos c]
        rw [v]
        simp (disch := first | assumption | (simp only [sI_kd, sP_kd, rw_kd, sI_ln, sP_ln, rw_ln] <;> first | assumption | omega) | omega) only [nl, nI_add, pk_mul, Option.bind_some, zb2_some, nI_le_t, nI_le_f, nI_lt_t, nI_lt_f, nI_eq_t, nI_eq_f, nI_m1, nI_em1, ↓reduceIte, Nat.add_zero, hs.p, hs.r, r0, r1, r2, r3, c]
      · have v : lfs D S R a b (d + 1) = lfs D S R a b d := by rw [lfs, ei, if_neg c]
        rw [v]
        simp (disch := first | assumption | (simp only [sI_kd, sP_kd, rw_kd, sI_ln, sP_ln, rw_ln] <;> first | assumption | omega) | omega) only [nl, nI_add, pk_mul, Option.bind_some, zb2_some, nI_le_t, nI_le_f, nI_lt_t, nI_lt_f, nI_eq_t, nI_eq_f, nI_m1, nI_em1, ↓reduceIte, Nat.add_zero, hs.p, hs.r, r0, r1, r2, r3]
        exact ih (i + 1) n (by omega) (by omega)
  unfold fX2_lowestFirstStep
  rw [if_pos hP.1.1]
  exact key 8 0 zF rfl (by decide)
theorem c_conn {a b : Nat} (ha : a < 8) (hb : b < 8) (hP : PR h w (Mat D S R F)) (hR : R a b ≤ fINF) : fX2_connects h w (nI a) (nI b) = some (if R a b < fINF then nI 1 else nI 0, h) := by
  have hs := hP.1
  have fi : fINF = 1000000 := rfl
  have r3 := hP.rd (j := 2) (a := a) (b := b) (by omega) ha hb
  rw [Mat_2] at r3
  unfold fX2_connects
  by_cases c : R a b < fINF
  · rw [if_pos c]
    simp (disch := first | assumption | (simp only [sI_kd, sP_kd, rw_kd, sI_ln, sP_ln, rw_ln] <;> first | assumption | omega) | omega) only [nl, nI_add, pk_mul, Option.bind_some, zb2_some, nI_le_t, nI_le_f, nI_lt_t, nI_lt_f, nI_eq_t, nI_eq_f, nI_m1, nI_em1, ↓reduceIte, Nat.add_zero, hs.1, hs.p, hs.r, r3]
  · rw [if_neg c]
    simp (disch := first | assumption | (simp only [sI_kd, sP_kd, rw_kd, sI_ln, sP_ln, rw_ln] <;> first | assumption | omega) | omega) only [nl, nI_add, pk_mul, Option.bind_some, zb2_some, nI_le_t, nI_le_f, nI_lt_t, nI_lt_f, nI_eq_t, nI_eq_f, nI_m1, nI_em1, ↓reduceIte, Nat.add_zero, hs.1, hs.p, hs.r, r3]
def Fch (D S R : Nat → Nat → Nat) (a b : Nat) : Nat → Nat → Nat := fun x y => if (x < a ∨ (x = a ∧ y < b)) ∧ x ≠ y ∧ R x y < fINF then lfs D S R x y 8 else 4294967295
theorem Fch_w {a b : Nat} (hab : a ≠ b) (hr : R a b < fINF) : mup (Fch D S R a b) a b (lfs D S R a b 8) = Fch D S R a (b + 1) := by
  funext x y
  unfold mup Fch
  by_cases c : x = a ∧ y = b
  · rw [if_pos c, c.1, c.2, if_pos ⟨Or.inr ⟨rfl, by omega⟩, hab, hr⟩]
  · rw [if_neg c]
    by_cases q : (x < a ∨ (x = a ∧ y < b)) ∧ x ≠ y ∧ R x y < fINF
    · rw [if_pos q, if_pos ⟨by omega, q.2⟩]
    · rw [if_neg q, if_neg (fun z => q ⟨by omega, z.2⟩)]
theorem Fch_n {a b : Nat} (hn : ¬ (a ≠ b ∧ R a b < fINF)) : Fch D S R a b = Fch D S R a (b + 1) := by
  funext x y
  unfold Fch
  by_cases q : (x < a ∨ (x = a ∧ y < b)) ∧ x ≠ y ∧ R x y < fINF
  · rw [if_pos q, if_pos ⟨by omega, q.2⟩]
  · rw [if_neg q, if_neg]
    intro z
    by_cases c : x = a ∧ y = b
    · rw [c.1, c.2] at z
      exact hn z.2
    · exact q ⟨by omega, z.2⟩
theorem ch_10 {k : zH → Int32 → Option zH} {a : Nat} (ha : a < 8) (hD : ∀ x y, D x y ≤ fINF) (hR : ∀ x y, R x y ≤ fINF) : ∀ d b n g, b + d = 8 → d < n → PR g w (Mat D S R (Fch D S R a b)) → ∃ g', fX2_chooseFirstSteps_L10 k w (nI a) n g (nI b) = k g' (nI 8) ∧ PR g' w (Mat D S R (Fch D S R (a + 1) 0)) ∧ FrI w (w + 37) g g' := by
  intro d
  induction d with
  | zero =>
    intro b n g hf hn hP
    obtain ⟨n, rfl⟩ := fuel1 hn
    have e8 : b = 8 := by omega
    subst e8
    refine ⟨g, ?_, PR_cg (fun j x y hj hx hy => ?_) hP, FrI.rf⟩
    · rw [fX2_chooseFirstSteps_L10]
      simp (disch := first | assumption | (simp only [sI_kd, sP_kd, rw_kd, sI_ln, sP_ln, rw_ln] <;> first | assumption | omega) | omega) only [nl, nI_add, pk_mul, Option.bind_some, zb2_some, nI_le_t, nI_le_f, nI_lt_t, nI_lt_f, nI_eq_t, nI_eq_f, nI_m1, nI_em1, ↓reduceIte, Nat.add_zero]
    · match j, hj with
      | 0, _ => rfl
      | 1, _ => rfl
      | 2, _ => rfl
      | 3, _ =>
        show Fch D S R (a + 1) 0 x y = Fch D S R a 8 x y
        unfold Fch
        by_cases q : (x < a ∨ (x = a ∧ y < 8)) ∧ x ≠ y ∧ R x y < fINF
        · rw [if_pos q, if_pos ⟨by omega, q.2⟩]
        · rw [if_neg q, if_neg (fun z => q ⟨by omega, z.2⟩)]
  | succ d ih =>
    intro b n g hf hn hP
    obtain ⟨n, rfl⟩ := fuel1 hn
    have hs := hP.1
    rw [fX2_chooseFirstSteps_L10]
    by_cases c : a = b
    · rw [Fch_n (fun z => z.1 c)] at hP
      obtain ⟨g', i1, i2, i3⟩ := ih (b + 1) n g (by omega) (by omega) hP
      refine ⟨g', ?_, i2, i3⟩
      simp (disch := first | assumption | (simp only [sI_kd, sP_kd, rw_kd, sI_ln, sP_ln, rw_ln] <;> first | assumption | omega) | omega) only [nl, nI_add, pk_mul, Option.bind_some, zb2_some, nI_le_t, nI_le_f, nI_lt_t, nI_lt_f, nI_eq_t, nI_eq_f, nI_m1, nI_em1, ↓reduceIte, Nat.add_zero, c]
      rw [c] at i1
      exact i1
    · have cn := c_conn ha (b := b) (by omega) hP (hR a b)
      by_cases r : R a b < fINF
      · rw [if_pos r] at cn
        have lf := c_lfs ha (b := b) (by omega) hP hD hR
        have P1 := hP.wt (j := 3) (b := b) (v := lfs D S R a b 8) (by omega) ha
        have P1' : PR (zsI g (w + 2 + 9 * 3 + a) b (nI (lfs D S R a b 8))) w (Mat D S R (Fch D S R a (b + 1))) := by
          rw [← Fch_w c r]
          exact PR_cg (fun j x y hj _ _ => by rw [Mat_w3 j hj]) P1
        obtain ⟨g', i1, i2, i3⟩ := ih (b + 1) n _ (by omega) (by omega) P1'
        refine ⟨g', ?_, i2, (PW (by omega) ha).tr i3⟩
        simp (disch := first | assumption | omega | (apply PSh.s; first | assumption | (apply PSh.s; first | assumption | (apply PSh.s; assumption)))) only [nl, nI_add, pk_mul, Option.bind_some, zb2_some, nI_le_t, nI_le_f, nI_lt_t, nI_lt_f, nI_eq_t, nI_eq_f, nI_m1, nI_em1, ↓reduceIte, Nat.add_zero, cn, hs.p, hs.r, lf, PSwr]
        exact i1
      · rw [if_neg r] at cn
        rw [Fch_n (fun z => r z.2)] at hP
        obtain ⟨g', i1, i2, i3⟩ := ih (b + 1) n g (by omega) (by omega) hP
        refine ⟨g', ?_, i2, i3⟩
        simp (disch := first | assumption | (simp only [sI_kd, sP_kd, rw_kd, sI_ln, sP_ln, rw_ln] <;> first | assumption | omega) | omega) only [nl, nI_add, pk_mul, Option.bind_some, zb2_some, nI_le_t, nI_le_f, nI_lt_t, nI_lt_f, nI_eq_t, nI_eq_f, nI_m1, nI_em1, ↓reduceIte, Nat.add_zero, cn]
        exact i1
theorem ch_2 (hD : ∀ x y, D x y ≤ fINF) (hR : ∀ x y, R x y ≤ fINF) : ∀ d a n g, a + d = 8 → d < n → PR g w (Mat D S R (Fch D S R a 0)) → ∃ g', fX2_chooseFirstSteps_L2 (fun h1 y2 => some h1) w n g (nI a) = some g' ∧ PR g' w (Mat D S R (Fch D S R 8 0)) ∧ FrI w (w + 37) g g' := by
  intro d
  induction d with
  | zero =>
    intro a n g hf hn hP
    obtain ⟨n, rfl⟩ := fuel1 hn
    have e8 : a = 8 := by omega
    subst e8
    refine ⟨g, ?_, hP, FrI.rf⟩
    rw [fX2_chooseFirstSteps_L2]
    simp (disch := first | assumption | (simp only [sI_kd, sP_kd, rw_kd, sI_ln, sP_ln, rw_ln] <;> first | assumption | omega) | omega) only [nl, nI_add, pk_mul, Option.bind_some, zb2_some, nI_le_t, nI_le_f, nI_lt_t, nI_lt_f, nI_eq_t, nI_eq_f, nI_m1, nI_em1, ↓reduceIte, Nat.add_zero]
  | succ d ih =>
    intro a n g hf hn hP
    obtain ⟨n, rfl⟩ := fuel1 hn
    obtain ⟨g1, j1, j2, j3⟩ := ch_10 (k := fun h2 y3 => fX2_chooseFirstSteps_L2 (fun h1 y2 => some h1) w n h2 (nI (a + 1))) (a := a) (by omega) hD hR 8 0 zF g rfl (by decide) hP
    obtain ⟨g', i1, i2, i3⟩ := ih (a + 1) n g1 (by omega) (by omega) j2
    refine ⟨g', ?_, i2, j3.tr i3⟩
    rw [fX2_chooseFirstSteps_L2]
    simp (disch := first | assumption | (simp only [sI_kd, sP_kd, rw_kd, sI_ln, sP_ln, rw_ln] <;> first | assumption | omega) | omega) only [nl, nI_add, pk_mul, Option.bind_some, zb2_some, nI_le_t, nI_le_f, nI_lt_t, nI_lt_f, nI_eq_t, nI_eq_f, nI_m1, nI_em1, ↓reduceIte, Nat.add_zero]
    rw [j1]
    exact i1
/-- the tables as the questions see them -/
def PF (h : zH) (w nf nc : Nat) (fr tt : zN') (cm : Nat → Nat → Nat) : Prop := PSh h w ∧ ∀ a b, a < nf → b < nf → zI h (w + 2 + 9 * 2 + a) b = nI (fD 8 cm nf a b) ∧ zI h (w + 2 + 9 * 3 + a) b = nI (pfs fr tt nc cm nf a b)
theorem PF_fr {h' : zH} {lo hi nf nc : Nat} {fr tt : zN'} {cm : Nat → Nat → Nat} (f : Fr lo hi h h') (d : w + 37 ≤ lo ∨ hi ≤ w) (hn : nf ≤ 8) (hP : PF h w nf nc fr tt cm) : PF h' w nf nc fr tt cm := by
  refine ⟨PSh_fr f d hP.1, fun a b ha hb => ?_⟩
  rw [(f.2.2.2 (w + 2 + 9 * 2 + a) (by omega)).1, (f.2.2.2 (w + 2 + 9 * 3 + a) (by omega)).1]
  exact hP.2 a b ha hb
theorem c_find {M0 : Nat → Nat → Nat → Nat} {cs bd skip nc nf np : Nat} {u3 : Int32} {fr tt gr lo ac li co : zN'} (hP : PR h w M0) (hB : BR h bd nf nc np fr tt gr lo ac li) (hcs : zkd h cs = 9) (hcl : zln h cs = 20) (hcv : ∀ c, c < nc → zI h cs c = nI (co c)) (hco : ∀ c, c < nc → 1 ≤ co c ∧ co c ≤ 99) (hb : bok fr tt nc nf) (d1 : bd + 9 ≤ w ∨ w + 37 ≤ bd) (d2 : cs < w ∨ w + 37 ≤ cs) (hu : ∀ c, c < 20 → (nI c = u3 ↔ c = skip)) : ∃ h' M', fX2_find h w bd cs u3 = some h' ∧ PF h' w nf nc fr tt (cmt fr tt co skip nc) ∧ PR h' w M' ∧ FrI w (w + 37) h h' := by
  have hc : cok (cmt fr tt co skip nc) nf := cok_cmt hb (fun c h => (hco c h).2)
  have hn := hc.1
  have hM : ∀ x y, fw0 8 (cmt fr tt co skip nc) x y ≤ fINF := fw0_le (by omega) hc.2.2
  have hD : ∀ x y, fwd 8 (cmt fr tt co skip nc) x y ≤ fINF := fun x y => by
    have := hc.2.2 x y
    unfold fwd fINF
    split <;> omega
  obtain ⟨h1, a1, a2, a3⟩ := c_clear (fr := fr) (tt := tt) (co := co) (skip := skip) hP
  obtain ⟨h2, b1, b2, b3⟩ := fi_7 (h0 := h) (k := fun h2 y3 => fX2_find_L107 (fun h4 y5 => (fX2_chooseFirstSteps h4 w).bind fun h6 => some h6) w bd cs u3 zF h2 (nI 0)) hB hcs hcl hcv hco hb d1 d2 hu nc 0 zF h1 (by omega) (by have := hb.2.1; unfold zF; omega) a3 a2
  obtain ⟨h3, c1, c2, c3⟩ := fi_107 (u1 := bd) (u2 := cs) (u3 := u3) (k := fun h4 y5 => (fX2_chooseFirstSteps h4 w).bind fun h6 => some h6) hM (fw0_diag 8 _) 8 0 zF h2 rfl (by decide) b2
  have hR : ∀ x y, fwn 8 (fw0 8 (cmt fr tt co skip nc)) 8 x y ≤ fINF := fwn_le hM 8
  have c2' : PR h3 w (Mat (fwd 8 (cmt fr tt co skip nc)) (stp fr tt skip nc) (fwn 8 (fw0 8 (cmt fr tt co skip nc)) 8) (Fch (fwd 8 (cmt fr tt co skip nc)) (stp fr tt skip nc) (fwn 8 (fw0 8 (cmt fr tt co skip nc)) 8) 0 0)) := by
    refine PR_cg (fun j x y hj _ _ => ?_) c2
    match j, hj with
    | 0, _ => rfl
    | 1, _ => rfl
    | 2, _ => rfl
    | 3, _ => exact if_neg (fun z => by omega)
  obtain ⟨h4, e1, e2, e3⟩ := ch_2 hD hR 8 0 zF h3 rfl (by decide) c2'
  have e1' : fX2_chooseFirstSteps h3 w = some h4 := by
    unfold fX2_chooseFirstSteps
    rw [if_pos c2.1.1]
    exact e1
  refine ⟨h4, _, ?_, ⟨e2.1, fun a b ha hb' => ?_⟩, e2, (b3.tr c3).tr e3⟩
  · unfold fX2_find
    simp (disch := first | assumption | (simp only [sI_kd, sP_kd, rw_kd, sI_ln, sP_ln, rw_ln] <;> first | assumption | omega) | omega) only [nl, nI_add, pk_mul, Option.bind_some, zb2_some, nI_le_t, nI_le_f, nI_lt_t, nI_lt_f, nI_eq_t, nI_eq_f, nI_m1, nI_em1, ↓reduceIte, Nat.add_zero, hP.1.1, a1, b1, c1, e1']
  · have rk : fwn 8 (fw0 8 (cmt fr tt co skip nc)) 8 = fun x y => fwn 8 (fw0 8 (cmt fr tt co skip nc)) 8 x y := rfl
    have r8 : ∀ x y, x < 8 → y < 8 → fwn 8 (fw0 8 (cmt fr tt co skip nc)) 8 x y = fD 8 (cmt fr tt co skip nc) nf x y := fun x y hx hy => by
      rw [fwn_eq 8 (Nat.le_refl _) x y hx hy, ← fD_8 hc]
      rfl
    have v2 := e2.2 2 a b (by omega) (by omega) (by omega)
    have v3 := e2.2 3 a b (by omega) (by omega) (by omega)
    rw [Mat_2, r8 a b (by omega) (by omega)] at v2
    rw [Mat_3] at v3
    refine ⟨v2, v3.trans ?_⟩
    unfold Fch pfs
    rw [r8 a b (by omega) (by omega)]
    have bo := (fD_both hn hc.2.1 hc.2.2 (a := a) (b := b) ha).1
    by_cases q : a = b ∨ fINF ≤ fD 16 (cmt fr tt co skip nc) nf a b
    · rw [if_pos q, if_neg (fun z => q.elim z.2.1 (fun y => by have := bo.mpr z.2.2; omega))]
    · have q1 : a ≠ b := fun z => q (Or.inl z)
      have q2 : fD 16 (cmt fr tt co skip nc) nf a b < fINF := Nat.lt_of_not_le fun z => q (Or.inr z)
      rw [if_neg q, if_pos ⟨Or.inl (by omega), q1, bo.mp q2⟩]
      have lc : ∀ d, d ≤ 8 → lfs (fwd 8 (cmt fr tt co skip nc)) (stp fr tt skip nc) (fwn 8 (fw0 8 (cmt fr tt co skip nc)) 8) a b d = lfs (fwd 8 (cmt fr tt co skip nc)) (stp fr tt skip nc) (fD 8 (cmt fr tt co skip nc) nf) a b d := by
        intro d
        induction d with
        | zero => intro _; rfl
        | succ d ih =>
          intro hd
          unfold lfs
          rw [r8 _ b (by omega) (by omega), r8 a b (by omega) (by omega), ih (by omega)]
      rw [lc 8 (by omega), lfs_pcv hb hco ha q1 q2]
end CFIND
