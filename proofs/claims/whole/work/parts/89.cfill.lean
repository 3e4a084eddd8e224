/-! pure: the component adds to a board, and reads items -/
section CFILL
variable {h h' g : zH} {x d n s nf : Nat} {T : zN'} {B : zBd}
theorem lk_add {a b c gg l : Nat} (y z : Nat) : lk (badd B a b c gg l) y z = (lk B y z || decide (a = y ∧ b = z)) := by
  show (lkn (va_up (bfr B) (bnc B) a) (va_up (btt B) (bnc B) b) y z (bnc B) || decide (va_up (bfr B) (bnc B) a (bnc B) = y ∧ va_up (btt B) (bnc B) b (bnc B) = z)) = _
  rw [up_at, up_at]
  congr 1
  have : ∀ k, k ≤ bnc B → lkn (va_up (bfr B) (bnc B) a) (va_up (btt B) (bnc B) b) y z k = lkn (bfr B) (btt B) y z k := by
    intro k
    induction k with
    | zero => intro _; rfl
    | succ k ih =>
      intro hk
      show (lkn _ _ y z k || decide (va_up (bfr B) (bnc B) a k = y ∧ va_up (btt B) (bnc B) b k = z)) = (lkn _ _ y z k || decide (bfr B k = y ∧ btt B k = z))
      rw [ih (by omega), up_b (by omega), up_b (by omega)]
  exact this (bnc B) (Nat.le_refl _)
theorem k_add {a b c gg l : Nat} (hB : CBr h d nf B) (hk : bkk nf B) (h1 : 1 ≤ nf) (hm : bnc B < 20 ∧ bnc B < nf * (nf - 1)) (ha : a < nf) (hb : b < nf) (hab : a ≠ b) (hl : lk B a b = false) : ∃ h', fX0_addConversion h d (nI a) (nI b) (nI c) (nI gg) (nI l) = some h' ∧ CBr h' d nf (badd B a b c gg l) ∧ FrI d (d + 9) h h' ∧ zI h' d 11 = zI h d 11 := by
  have n8 := hk.1.1
  have cn := k_can hB hk h1
  have lnk := k_link (a := a) (b := b) hB n8 (by omega) (by omega)
  rw [if_pos hm] at cn
  have yy : a < nf ∧ b < nf ∧ a ≠ b ∧ lk B a b = false := ⟨ha, hb, hab, hl⟩
  rw [if_pos yy] at lnk
  obtain ⟨m1, m2⟩ := hm
  obtain ⟨b0, b1, b2, b3, b4, b5, b6⟩ := id hB
  have k0 := b0.1
  have W0 : ∀ g v, zkd g = zkd h → zln g = zln h → zbI g (d + 1) (nI (bnc B)) v = some (zsI g (d + 1) (bnc B) v) := fun g v e1 e2 => bI_ (by rw [e1]; exact b0.k0) (by rw [e2, b0.l0]; omega) (by rw [e2, b0.l0]; omega)
  have W1 : ∀ g v, zkd g = zkd h → zln g = zln h → zbI g (d + 2) (nI (bnc B)) v = some (zsI g (d + 2) (bnc B) v) := fun g v e1 e2 => bI_ (by rw [e1]; exact b0.k1) (by rw [e2, b0.l1]; omega) (by rw [e2, b0.l1]; omega)
  have W2 : ∀ g v, zkd g = zkd h → zln g = zln h → zbI g (d + 3) (nI (bnc B)) v = some (zsI g (d + 3) (bnc B) v) := fun g v e1 e2 => bI_ (by rw [e1]; exact b0.k2) (by rw [e2, b0.l2]; omega) (by rw [e2, b0.l2]; omega)
  have W3 : ∀ g v, zkd g = zkd h → zln g = zln h → zbI g (d + 4) (nI (bnc B)) v = some (zsI g (d + 4) (bnc B) v) := fun g v e1 e2 => bI_ (by rw [e1]; exact b0.k3) (by rw [e2, b0.l3]; omega) (by rw [e2, b0.l3]; omega)
  have W4 : ∀ g v, zkd g = zkd h → zln g = zln h → zbI g (d + 5) (nI (bnc B)) v = some (zsI g (d + 5) (bnc B) v) := fun g v e1 e2 => bI_ (by rw [e1]; exact b0.k4) (by rw [e2, b0.l4]; omega) (by rw [e2, b0.l4]; omega)
  have W7 : ∀ g, zkd g = zkd h → zln g = zln h → zbZ g (d + 8) (nI (8 * a + b)) (nI 1) = some (zsI g (d + 8) (8 * a + b) (nI 1)) := fun g e1 e2 => bZ_ (by rw [e1]; exact b0.2.2.2.2.2.2.1) (Or.inr rfl) (by rw [e2, b0.2.2.2.2.2.2.2]; omega) (by rw [e2, b0.2.2.2.2.2.2.2]; omega)
  have g9 : ∀ g, zkd g = zkd h → zI g d 9 = nI (bnc B) → zgI g 0 d 9 = some (nI (bnc B)) := fun g e1 e2 => by rw [gI_ (by rw [e1]; exact k0), e2]
  have pr : ∀ g v, zkd g = zkd h → zpI g 0 d 9 v = some (zsI g d 9 v) := fun g v e1 => pI_ (by rw [e1]; exact k0)
  have mc := Nat.mul_comm a 8
  refine ⟨zsI (zsI (zsI (zsI (zsI (zsI (zsI h (d + 1) (bnc B) (nI a)) (d + 2) (bnc B) (nI b)) (d + 3) (bnc B) (nI c)) (d + 4) (bnc B) (nI gg)) (d + 5) (bnc B) (nI l)) (d + 8) (8 * a + b) (nI 1)) d 9 (nI (bnc B + 1)), ?_, ?_, ?_, ?_⟩
  · unfold fX0_addConversion
    rw [if_pos k0, cn, zb2_some, if_neg (by decide), lnk, zb2_some, if_neg (by decide)]
    rw [b0.p0, Option.bind_some, g9 h rfl b2, Option.bind_some, W0 h _ rfl rfl, Option.bind_some]
    rw [sgP, b0.p1, Option.bind_some, g9 (zsI h (d + 1) (bnc B) (nI a)) rfl (by rw [sI_a (by omega)]; exact b2), Option.bind_some, W1 (zsI h (d + 1) (bnc B) (nI a)) _ rfl rfl, Option.bind_some]
    rw [sgP, sgP, b0.p2, Option.bind_some, g9 (zsI (zsI h (d + 1) (bnc B) (nI a)) (d + 2) (bnc B) (nI b)) rfl (by rw [sI_a (by omega), sI_a (by omega)]; exact b2), Option.bind_some, W2 (zsI (zsI h (d + 1) (bnc B) (nI a)) (d + 2) (bnc B) (nI b)) _ rfl rfl, Option.bind_some]
    rw [sgP, sgP, sgP, b0.p3, Option.bind_some, g9 (zsI (zsI (zsI h (d + 1) (bnc B) (nI a)) (d + 2) (bnc B) (nI b)) (d + 3) (bnc B) (nI c)) rfl (by rw [sI_a (by omega), sI_a (by omega), sI_a (by omega)]; exact b2), Option.bind_some, W3 (zsI (zsI (zsI h (d + 1) (bnc B) (nI a)) (d + 2) (bnc B) (nI b)) (d + 3) (bnc B) (nI c)) _ rfl rfl, Option.bind_some]
    rw [sgP, sgP, sgP, sgP, b0.p4, Option.bind_some, g9 (zsI (zsI (zsI (zsI h (d + 1) (bnc B) (nI a)) (d + 2) (bnc B) (nI b)) (d + 3) (bnc B) (nI c)) (d + 4) (bnc B) (nI gg)) rfl (by rw [sI_a (by omega), sI_a (by omega), sI_a (by omega), sI_a (by omega)]; exact b2), Option.bind_some, W4 (zsI (zsI (zsI (zsI h (d + 1) (bnc B) (nI a)) (d + 2) (bnc B) (nI b)) (d + 3) (bnc B) (nI c)) (d + 4) (bnc B) (nI gg)) _ rfl rfl, Option.bind_some]
    rw [sgP, sgP, sgP, sgP, sgP, b0.p7, Option.bind_some]
    simp (disch := first | assumption | (simp only [sI_kd, sP_kd, rw_kd, sI_ln, sP_ln, rw_ln] <;> first | assumption | omega) | omega) only [nl, nI_add, pk_mul, Option.bind_some, zb2_some, nI_le_t, nI_le_f, nI_lt_t, nI_lt_f, nI_eq_t, nI_eq_f, nI_m1, nI_em1, ↓reduceIte, Nat.add_zero, mc]
    rw [W7 (zsI (zsI (zsI (zsI (zsI h (d + 1) (bnc B) (nI a)) (d + 2) (bnc B) (nI b)) (d + 3) (bnc B) (nI c)) (d + 4) (bnc B) (nI gg)) (d + 5) (bnc B) (nI l)) rfl rfl, Option.bind_some, g9 (zsI (zsI (zsI (zsI (zsI (zsI h (d + 1) (bnc B) (nI a)) (d + 2) (bnc B) (nI b)) (d + 3) (bnc B) (nI c)) (d + 4) (bnc B) (nI gg)) (d + 5) (bnc B) (nI l)) (d + 8) (8 * a + b) (nI 1)) rfl (by rw [sI_a (by omega), sI_a (by omega), sI_a (by omega), sI_a (by omega), sI_a (by omega), sI_a (by omega)]; exact b2), Option.bind_some, nI_add, pr (zsI (zsI (zsI (zsI (zsI (zsI h (d + 1) (bnc B) (nI a)) (d + 2) (bnc B) (nI b)) (d + 3) (bnc B) (nI c)) (d + 4) (bnc B) (nI gg)) (d + 5) (bnc B) (nI l)) (d + 8) (8 * a + b) (nI 1)) _ rfl, Option.bind_some]
  · refine ⟨b0.w.w.w.w.w.w.w, ?_, sI_at, ?_, fun y hy => ?_, fun p hp => ?_, fun y z hy hz => ?_⟩
    · simp (disch := first | assumption | (simp only [sI_kd, sP_kd, rw_kd, sI_ln, sP_ln, rw_ln] <;> first | assumption | omega) | omega) only [nl, nI_add, pk_mul, Option.bind_some, zb2_some, nI_le_t, nI_le_f, nI_lt_t, nI_lt_f, nI_eq_t, nI_eq_f, nI_m1, nI_em1, ↓reduceIte, Nat.add_zero, sI_k, sI_a]
      exact b1
    · simp (disch := first | assumption | (simp only [sI_kd, sP_kd, rw_kd, sI_ln, sP_ln, rw_ln] <;> first | assumption | omega) | omega) only [nl, nI_add, pk_mul, Option.bind_some, zb2_some, nI_le_t, nI_le_f, nI_lt_t, nI_lt_f, nI_eq_t, nI_eq_f, nI_m1, nI_em1, ↓reduceIte, Nat.add_zero, sI_k, sI_a]
      exact b3
    · have hy : y < bnc B + 1 := hy
      show zI _ (d + 1) y = nI (va_up (bfr B) (bnc B) a y) ∧ zI _ (d + 2) y = nI (va_up (btt B) (bnc B) b y) ∧ zI _ (d + 3) y = nI (va_up (bco B) (bnc B) c y) ∧ zI _ (d + 4) y = nI (va_up (bgr B) (bnc B) gg y) ∧ zI _ (d + 5) y = nI (va_up (blo B) (bnc B) l y)
      by_cases q : y = bnc B
      · subst q
        rw [up_at, up_at, up_at, up_at, up_at]
        simp (disch := first | assumption | (simp only [sI_kd, sP_kd, rw_kd, sI_ln, sP_ln, rw_ln] <;> first | assumption | omega) | omega) only [nl, nI_add, pk_mul, Option.bind_some, zb2_some, nI_le_t, nI_le_f, nI_lt_t, nI_lt_f, nI_eq_t, nI_eq_f, nI_m1, nI_em1, ↓reduceIte, Nat.add_zero, sI_a, sI_at]
        exact ⟨trivial, trivial, trivial, trivial, trivial⟩
      · rw [up_b q, up_b q, up_b q, up_b q, up_b q]
        simp (disch := first | assumption | (simp only [sI_kd, sP_kd, rw_kd, sI_ln, sP_ln, rw_ln] <;> first | assumption | omega) | omega) only [nl, nI_add, pk_mul, Option.bind_some, zb2_some, nI_le_t, nI_le_f, nI_lt_t, nI_lt_f, nI_eq_t, nI_eq_f, nI_m1, nI_em1, ↓reduceIte, Nat.add_zero, sI_a, sI_k]
        exact b4 y (by omega)
    · simp (disch := first | assumption | (simp only [sI_kd, sP_kd, rw_kd, sI_ln, sP_ln, rw_ln] <;> first | assumption | omega) | omega) only [nl, nI_add, pk_mul, Option.bind_some, zb2_some, nI_le_t, nI_le_f, nI_lt_t, nI_lt_f, nI_eq_t, nI_eq_f, nI_m1, nI_em1, ↓reduceIte, Nat.add_zero, sI_a]
      exact b5 p hp
    · rw [lk_add]
      by_cases q : a = y ∧ b = z
      · obtain ⟨rfl, rfl⟩ := q
        have tt : (lk B a b || decide (a = a ∧ b = b)) = true := by rw [decide_eq_true ⟨rfl, rfl⟩, Bool.or_true]
        rw [tt, if_pos rfl, sI_a (by omega), sI_at]
      · have ff : (lk B y z || decide (a = y ∧ b = z)) = lk B y z := by rw [decide_eq_false q, Bool.or_false]
        rw [ff, sI_a (by omega), sI_k (by omega)]
        simp (disch := first | assumption | (simp only [sI_kd, sP_kd, rw_kd, sI_ln, sP_ln, rw_ln] <;> first | assumption | omega) | omega) only [nl, nI_add, pk_mul, Option.bind_some, zb2_some, nI_le_t, nI_le_f, nI_lt_t, nI_lt_f, nI_eq_t, nI_eq_f, nI_m1, nI_em1, ↓reduceIte, Nat.add_zero, sI_a]
        exact b6 y z hy hz
  · exact ((((((FrI.sI (by omega) (by omega)).tr (FrI.sI (by omega) (by omega))).tr (FrI.sI (by omega) (by omega))).tr (FrI.sI (by omega) (by omega))).tr (FrI.sI (by omega) (by omega))).tr (FrI.sI (by omega) (by omega))).tr (FrI.sI (by omega) (by omega))
  · simp (disch := first | assumption | (simp only [sI_kd, sP_kd, rw_kd, sI_ln, sP_ln, rw_ln] <;> first | assumption | omega) | omega) only [nl, nI_add, pk_mul, Option.bind_some, zb2_some, nI_le_t, nI_le_f, nI_lt_t, nI_lt_f, nI_eq_t, nI_eq_f, nI_m1, nI_em1, ↓reduceIte, Nat.add_zero, sI_k, sI_a]
theorem k_addP {st v : Nat} (hB : CBr h d nf B) (hk : bkk nf B) (h6 : bnp B < 6) : ∃ h', fX0_addPlace h d (nI st) (nI v) = some h' ∧ CBr h' d nf (bpl B st v) ∧ FrI d (d + 9) h h' ∧ zI h' d 11 = zI h d 11 := by
  have cn := k_canP hB hk
  rw [if_pos h6] at cn
  obtain ⟨b0, b1, b2, b3, b4, b5, b6⟩ := id hB
  have k0 := b0.1
  have W5 : zbI h (d + 6) (nI (bnp B)) (nI st) = some (zsI h (d + 6) (bnp B) (nI st)) := bI_ b0.k5 (by rw [b0.l5]; omega) (by rw [b0.l5]; omega)
  have W6 : zbI (zsI h (d + 6) (bnp B) (nI st)) (d + 7) (nI (bnp B)) (nI v) = some (zsI (zsI h (d + 6) (bnp B) (nI st)) (d + 7) (bnp B) (nI v)) := bI_ b0.w.k6 (by rw [b0.w.l6]; omega) (by rw [b0.w.l6]; omega)
  have g1 : zgI h 0 d 10 = some (nI (bnp B)) := by rw [gI_ k0, b3]
  have g2 : zgI (zsI h (d + 6) (bnp B) (nI st)) 0 d 10 = some (nI (bnp B)) := by rw [gI_ b0.w.1, sI_a (by omega), b3]
  have g3 : zgI (zsI (zsI h (d + 6) (bnp B) (nI st)) (d + 7) (bnp B) (nI v)) 0 d 10 = some (nI (bnp B)) := by rw [gI_ b0.w.w.1, sI_a (by omega), sI_a (by omega), b3]
  have p1 : zpI (zsI (zsI h (d + 6) (bnp B) (nI st)) (d + 7) (bnp B) (nI v)) 0 d 10 (nI (bnp B + 1)) = some (zsI (zsI (zsI h (d + 6) (bnp B) (nI st)) (d + 7) (bnp B) (nI v)) d 10 (nI (bnp B + 1))) := pI_ b0.w.w.1
  refine ⟨zsI (zsI (zsI h (d + 6) (bnp B) (nI st)) (d + 7) (bnp B) (nI v)) d 10 (nI (bnp B + 1)), ?_, ?_, ?_, ?_⟩
  · unfold fX0_addPlace
    simp (disch := first | assumption | (simp only [sI_kd, sP_kd, rw_kd, sI_ln, sP_ln, rw_ln] <;> first | assumption | omega) | omega) only [nl, nI_add, pk_mul, Option.bind_some, zb2_some, nI_le_t, nI_le_f, nI_lt_t, nI_lt_f, nI_eq_t, nI_eq_f, nI_m1, nI_em1, ↓reduceIte, Nat.add_zero, k0, cn, b0.p5, b0.p6, sgP, g1, W5, g2, W6, g3, p1]
  · refine ⟨b0.w.w.w, ?_, ?_, sI_at, fun y hy => ?_, fun p hp => ?_, fun y z hy hz => ?_⟩
    · simp (disch := first | assumption | (simp only [sI_kd, sP_kd, rw_kd, sI_ln, sP_ln, rw_ln] <;> first | assumption | omega) | omega) only [nl, nI_add, pk_mul, Option.bind_some, zb2_some, nI_le_t, nI_le_f, nI_lt_t, nI_lt_f, nI_eq_t, nI_eq_f, nI_m1, nI_em1, ↓reduceIte, Nat.add_zero, sI_k, sI_a]
      exact b1
    · simp (disch := first | assumption | (simp only [sI_kd, sP_kd, rw_kd, sI_ln, sP_ln, rw_ln] <;> first | assumption | omega) | omega) only [nl, nI_add, pk_mul, Option.bind_some, zb2_some, nI_le_t, nI_le_f, nI_lt_t, nI_lt_f, nI_eq_t, nI_eq_f, nI_m1, nI_em1, ↓reduceIte, Nat.add_zero, sI_k, sI_a]
      exact b2
    · simp (disch := first | assumption | (simp only [sI_kd, sP_kd, rw_kd, sI_ln, sP_ln, rw_ln] <;> first | assumption | omega) | omega) only [nl, nI_add, pk_mul, Option.bind_some, zb2_some, nI_le_t, nI_le_f, nI_lt_t, nI_lt_f, nI_eq_t, nI_eq_f, nI_m1, nI_em1, ↓reduceIte, Nat.add_zero, sI_a]
      exact b4 y hy
    · have hp : p < bnp B + 1 := hp
      show zI _ (d + 6) p = nI (va_up (bac B) (bnp B) st p) ∧ zI _ (d + 7) p = nI (va_up (bli B) (bnp B) v p)
      by_cases q : p = bnp B
      · subst q
        rw [up_at, up_at]
        simp (disch := first | assumption | (simp only [sI_kd, sP_kd, rw_kd, sI_ln, sP_ln, rw_ln] <;> first | assumption | omega) | omega) only [nl, nI_add, pk_mul, Option.bind_some, zb2_some, nI_le_t, nI_le_f, nI_lt_t, nI_lt_f, nI_eq_t, nI_eq_f, nI_m1, nI_em1, ↓reduceIte, Nat.add_zero, sI_a, sI_at]
        exact ⟨trivial, trivial⟩
      · rw [up_b q, up_b q]
        simp (disch := first | assumption | (simp only [sI_kd, sP_kd, rw_kd, sI_ln, sP_ln, rw_ln] <;> first | assumption | omega) | omega) only [nl, nI_add, pk_mul, Option.bind_some, zb2_some, nI_le_t, nI_le_f, nI_lt_t, nI_lt_f, nI_eq_t, nI_eq_f, nI_m1, nI_em1, ↓reduceIte, Nat.add_zero, sI_a, sI_k]
        exact b5 p (by omega)
    · simp (disch := first | assumption | (simp only [sI_kd, sP_kd, rw_kd, sI_ln, sP_ln, rw_ln] <;> first | assumption | omega) | omega) only [nl, nI_add, pk_mul, Option.bind_some, zb2_some, nI_le_t, nI_le_f, nI_lt_t, nI_lt_f, nI_eq_t, nI_eq_f, nI_m1, nI_em1, ↓reduceIte, Nat.add_zero, sI_a]
      exact b6 y z hy hz
  · exact ((FrI.sI (by omega) (by omega)).tr (FrI.sI (by omega) (by omega))).tr (FrI.sI (by omega) (by omega))
  · simp (disch := first | assumption | (simp only [sI_kd, sP_kd, rw_kd, sI_ln, sP_ln, rw_ln] <;> first | assumption | omega) | omega) only [nl, nI_add, pk_mul, Option.bind_some, zb2_some, nI_le_t, nI_le_f, nI_lt_t, nI_lt_f, nI_eq_t, nI_eq_f, nI_m1, nI_em1, ↓reduceIte, Nat.add_zero, sI_k, sI_a]
theorem CTF.ob (f : FrI d (d + 9) h h') (hd : x < d ∨ d + 9 ≤ x) : CTF x d h h' := ⟨f.1, f.2.1, f.2.2.1, f.2.2.2.1, fun a _ h2 => f.2.2.2.2 a h2, fun k _ => by rw [f.2.2.2.2 x hd]⟩
theorem k_begin {f bu : Nat} (hs : BSh h d) (h1 : 1 ≤ f) (h8 : f ≤ 8) : ∃ h', fX0_begin h d (nI f) (nI bu) = some h' ∧ CBr h' d f bz ∧ zI h' d 11 = nI bu ∧ FrI d (d + 9) h h' := by
  have key : ∀ c j fu g, j + c = 64 → c < fu → FrI d (d + 9) h g → zI g d 8 = nI f → zI g d 9 = nI 0 → zI g d 10 = nI 0 → zI g d 11 = nI bu → (∀ k, k < j → zI g (d + 8) k = nI 0) → ∃ h', fX0_begin_L31 (fun h5 y6 => some h5) d (nI f) (nI bu) fu g (nI j) = some h' ∧ CBr h' d f bz ∧ zI h' d 11 = nI bu ∧ FrI d (d + 9) h h' := by
    intro c
    induction c with
    | zero =>
      intro j fu g hj hf F g8 g9 g10 g11 gl
      obtain ⟨fu, rfl⟩ := fuel1 hf
      have e : j = 64 := by omega
      subst e
      have hs' : BSh g d := by
        unfold BSh
        rw [F.1, F.2.1, F.2.2.2.1]
        exact hs
      have le : zle g (d + 8) = some (nI 64) := by
        unfold zle
        rw [hs'.2.2.2.2.2.2.1, hs'.2.2.2.2.2.2.2]
        rfl
      refine ⟨g, ?_, ⟨hs', g8, g9, g10, fun y hy => absurd hy (Nat.not_lt_zero _), fun y hy => absurd hy (Nat.not_lt_zero _), fun y z hy hz => ?_⟩, g11, F⟩
      · rw [fX0_begin_L31]
        simp (disch := first | assumption | (simp only [sI_kd, sP_kd, rw_kd, sI_ln, sP_ln, rw_ln] <;> first | assumption | omega) | omega) only [nl, nI_add, pk_mul, Option.bind_some, zb2_some, nI_le_t, nI_le_f, nI_lt_t, nI_lt_f, nI_eq_t, nI_eq_f, nI_m1, nI_em1, ↓reduceIte, Nat.add_zero, hs'.p7, le]
      · rw [gl _ (by omega)]
        rfl
    | succ c ih =>
      intro j fu g hj hf F g8 g9 g10 g11 gl
      obtain ⟨fu, rfl⟩ := fuel1 hf
      have hs' : BSh g d := by
        unfold BSh
        rw [F.1, F.2.1, F.2.2.2.1]
        exact hs
      have le : zle g (d + 8) = some (nI 64) := by
        unfold zle
        rw [hs'.2.2.2.2.2.2.1, hs'.2.2.2.2.2.2.2]
        rfl
      have wr : zbZ g (d + 8) (nI j) (nI 0) = some (zsI g (d + 8) j (nI 0)) := bZ_ hs'.2.2.2.2.2.2.1 (Or.inl rfl) (by rw [hs'.2.2.2.2.2.2.2]; omega) (by rw [hs'.2.2.2.2.2.2.2]; omega)
      obtain ⟨h', i1, i2⟩ := ih (j + 1) fu (zsI g (d + 8) j (nI 0)) (by omega) (by omega) (F.tr (FrI.sI (by omega) (by omega))) (by rw [sI_a (by omega)]; exact g8) (by rw [sI_a (by omega)]; exact g9) (by rw [sI_a (by omega)]; exact g10) (by rw [sI_a (by omega)]; exact g11) (fun k hk => by
        by_cases e : k = j
        · rw [e, sI_at]
        · rw [sI_k e]; exact gl k (by omega))
      refine ⟨h', ?_, i2⟩
      rw [fX0_begin_L31]
      simp (disch := first | assumption | (simp only [sI_kd, sP_kd, rw_kd, sI_ln, sP_ln, rw_ln] <;> first | assumption | omega) | omega) only [nl, nI_add, pk_mul, Option.bind_some, zb2_some, nI_le_t, nI_le_f, nI_lt_t, nI_lt_f, nI_eq_t, nI_eq_f, nI_m1, nI_em1, ↓reduceIte, Nat.add_zero, hs'.p7, le, wr]
      exact i1
  have k0 := hs.1
  obtain ⟨h', e1, e2⟩ := key 64 0 zF (zsI (zsI (zsI (zsI h d 8 (nI f)) d 11 (nI bu)) d 9 (nI 0)) d 10 (nI 0)) rfl (by decide) ((((FrI.sI (by omega) (by omega)).tr (FrI.sI (by omega) (by omega))).tr (FrI.sI (by omega) (by omega))).tr (FrI.sI (by omega) (by omega))) (by rw [sI_k (by omega), sI_k (by omega), sI_k (by omega), sI_at]) (by rw [sI_k (by omega), sI_at]) (by rw [sI_at]) (by rw [sI_k (by omega), sI_k (by omega), sI_at]) (fun k hk => by omega)
  refine ⟨h', ?_, e2⟩
  have q0 : zpI h 0 d 8 (nI f) = some (zsI h d 8 (nI f)) := pI_ k0
  have q1 : zpI (zsI h d 8 (nI f)) 0 d 11 (nI bu) = some (zsI (zsI h d 8 (nI f)) d 11 (nI bu)) := pI_ hs.w.1
  have q2 : zpI (zsI (zsI h d 8 (nI f)) d 11 (nI bu)) 0 d 9 (nI 0) = some (zsI (zsI (zsI h d 8 (nI f)) d 11 (nI bu)) d 9 (nI 0)) := pI_ hs.w.w.1
  have q3 : zpI (zsI (zsI (zsI h d 8 (nI f)) d 11 (nI bu)) d 9 (nI 0)) 0 d 10 (nI 0) = some (zsI (zsI (zsI (zsI h d 8 (nI f)) d 11 (nI bu)) d 9 (nI 0)) d 10 (nI 0)) := pI_ hs.w.w.w.1
  have mx : (if nI 1 < nI f then nI f else nI 1) = nI f := by
    by_cases z : f = 1
    · rw [z]; rfl
    · rw [if_pos ((nI_ltI (by omega) (by omega)).mpr (by omega))]
  unfold fX0_begin
  simp (disch := first | assumption | (simp only [sI_kd, sP_kd, rw_kd, sI_ln, sP_ln, rw_ln] <;> first | assumption | omega) | omega) only [nl, nI_add, pk_mul, Option.bind_some, zb2_some, nI_le_t, nI_le_f, nI_lt_t, nI_lt_f, nI_eq_t, nI_eq_f, nI_m1, nI_em1, ↓reduceIte, Nat.add_zero, k0, mx, q0, q1, q2, q3, e1]
end CFILL
