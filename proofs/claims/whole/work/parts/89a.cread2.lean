/-! pure: the component reads items -/
section CREAD2
variable {h h' g : zH} {x d n s nf : Nat} {T : zN'} {B : zBd}
theorem pnum1 {p : Nat} : pnum T n false 1 0 p = match dg T n p with
    | none => (none, p)
    | some y => (some y, p + 1) := by
  rw [pnum_s]
  cases hd : dg T n p with
  | none => rfl
  | some y =>
    show (if false = true ∧ 0 = 0 ∧ 0 = 0 ∧ y = 0 then (none, p) else pnum T n false 0 (10 * 0 + y) (p + 1)) = (some y, p + 1)
    rw [if_neg (fun z => by cases z.1)]
    show (some (10 * 0 + y), p + 1) = (some y, p + 1)
    rw [Nat.mul_zero, Nat.zero_add]
theorem neM {w : Nat} (hw : w < 4294967295) : (nI w = nI 4294967295) = False := nI_em1 hw
/-- what reading an item leaves -/
def itR (h : zH) (x d : Nat) (T : zN') (n nf : Nat) (r : Option (Int32 × zH)) (o : Nat ⊕ (zBd × Nat)) : Prop :=
  match o with
  | .inl p => ∃ h', r = some (nI 0, h') ∧ zI h' x 2 = nI p ∧ CTF x d h h'
  | .inr (B', s') => ∃ h', r = some (nI 1, h') ∧ zI h' x 2 = nI s' ∧ CBr h' d nf B' ∧ CTF x d h h' ∧ zI h' d 11 = zI h d 11
theorem itR_mono {r : Option (Int32 × zH)} {o : Nat ⊕ (zBd × Nat)} (R : itR g x d T n nf r o) (f : CTF x d h g) (e : zI g d 11 = zI h d 11) : itR h x d T n nf r o := by
  cases o with
  | inl p =>
    obtain ⟨h', r1, r2, r3⟩ := R
    exact ⟨h', r1, r2, f.tr r3⟩
  | inr w =>
    obtain ⟨B', s'⟩ := w
    obtain ⟨h', r1, r2, r3, r4, r5⟩ := R
    exact ⟨h', r1, r2, r3, f.tr r4, r5.trans e⟩
theorem k_c3 {a b : Nat} (hX : CX h x T n s) (ht : txt T n) (hs : s ≤ n) (hB : CBr h d nf B) (hk : bkk nf B) (h1 : 1 ≤ nf) (hd : x + 1 < d ∨ d + 9 ≤ x) (hm : bnc B < 20 ∧ bnc B < nf * (nf - 1)) (ha : a < nf) (hb : b < nf) (hab : a ≠ b) (hl : lk B a b = false) :
    itR h x d T n nf (fX4_readConversion_c3 x d (nI a) (nI b) h) (match pnum T n true 2 0 s with
      | (none, p) => .inl p
      | (some c, p) => match pnum T n true 2 0 p with
        | (none, p) => .inl p
        | (some g, p) => match pnum T n false 1 0 p with
          | (none, p) => .inl p
          | (some l, p) => .inr (badd B a b c g l, p)) := by
  have N1 := k_number (D := 2) hX ht hs (by omega)
  have k1 := pnum_ok (T := T) (n := n) (ab := true) 2 0 s hs
  unfold fX4_readConversion_c3
  cases hp1 : pnum T n true 2 0 s with
  | mk o1 p1 =>
  rw [hp1] at N1 k1
  dsimp only at N1 k1 ⊢
  obtain ⟨m1, m2, m3⟩ := k1
  cases o1 with
  | none =>
    have N1' : fX4_readNumber h x (nI 2) = some (nI 4294967295, zsI h x 2 (nI p1)) := N1
    refine ⟨zsI h x 2 (nI p1), ?_, sI_at, CTF.sx⟩
    simp (disch := first | assumption | (simp only [sI_kd, sP_kd, rw_kd, sI_ln, sP_ln, rw_ln] <;> first | assumption | omega) | omega) only [nl, nI_add, pk_mul, Option.bind_some, zb2_some, nI_le_t, nI_le_f, nI_lt_t, nI_lt_f, nI_eq_t, nI_eq_f, nI_m1, nI_em1, ↓reduceIte, Nat.add_zero, N1']
  | some vc =>
    obtain ⟨l1, l2, -, l4⟩ := m3 vc rfl
    have N1' : fX4_readNumber h x (nI 2) = some (nI vc, zsI h x 2 (nI p1)) := N1
    have nv := neM (w := vc) (by omega)
    have N2 := k_number (D := 2) (hX.sp (p := p1)) ht m2 (by omega)
    have k2 := pnum_ok (T := T) (n := n) (ab := true) 2 0 p1 m2
    rw [sI_sI] at N2
    dsimp only
    cases hp2 : pnum T n true 2 0 p1 with
    | mk o2 p2 =>
    rw [hp2] at N2 k2
    dsimp only at N2 k2 ⊢
    obtain ⟨n1, n2, n3⟩ := k2
    cases o2 with
    | none =>
      have N2' : fX4_readNumber (zsI h x 2 (nI p1)) x (nI 2) = some (nI 4294967295, zsI h x 2 (nI p2)) := N2
      refine ⟨zsI h x 2 (nI p2), ?_, sI_at, CTF.sx⟩
      simp (disch := first | assumption | (simp only [sI_kd, sP_kd, rw_kd, sI_ln, sP_ln, rw_ln] <;> first | assumption | omega) | omega) only [nl, nI_add, pk_mul, Option.bind_some, zb2_some, nI_le_t, nI_le_f, nI_lt_t, nI_lt_f, nI_eq_t, nI_eq_f, nI_m1, nI_em1, ↓reduceIte, Nat.add_zero, N1', nv, N2']
    | some vg =>
      obtain ⟨q1, q2, -, q4⟩ := n3 vg rfl
      have N2' : fX4_readNumber (zsI h x 2 (nI p1)) x (nI 2) = some (nI vg, zsI h x 2 (nI p2)) := N2
      have nw := neM (w := vg) (by omega)
      have R := k_rdigit (lo := 0) (hi := 9) (hX.sp (p := p2)) ht n2 (by omega) (by omega)
      dsimp only
      rw [pnum1]
      cases hdg : dg T n p2 with
      | none =>
        rw [hdg] at R
        refine ⟨zsI h x 2 (nI p2), ?_, sI_at, CTF.sx⟩
        simp (disch := first | assumption | (simp only [sI_kd, sP_kd, rw_kd, sI_ln, sP_ln, rw_ln] <;> first | assumption | omega) | omega) only [nl, nI_add, pk_mul, Option.bind_some, zb2_some, nI_le_t, nI_le_f, nI_lt_t, nI_lt_f, nI_eq_t, nI_eq_f, nI_m1, nI_em1, ↓reduceIte, Nat.add_zero, N1', nv, N2', nw, R]
      | some y =>
        obtain ⟨d1, d2, d3, d4, d5⟩ := dg_some hdg
        rw [hdg] at R
        dsimp only at R
        have r0 : 0 ≤ y ∧ y ≤ 9 := by omega
        rw [if_pos r0, sI_sI] at R
        have ny := neM (w := y) (by omega)
        obtain ⟨h', e1, e2, e3, e4⟩ := k_add (c := vc) (gg := vg) (l := y) (CBr_x (v := nI (p2 + 1)) (x := x) (by omega) hB) hk h1 hm ha hb hab hl
        refine ⟨h', ?_, ?_, e2, CTF.tr CTF.sx (CTF.ob e3 (by omega)), ?_⟩
        · simp (disch := first | assumption | (simp only [sI_kd, sP_kd, rw_kd, sI_ln, sP_ln, rw_ln] <;> first | assumption | omega) | omega) only [nl, nI_add, pk_mul, Option.bind_some, zb2_some, nI_le_t, nI_le_f, nI_lt_t, nI_lt_f, nI_eq_t, nI_eq_f, nI_m1, nI_em1, ↓reduceIte, Nat.add_zero, N1', nv, N2', nw, R, ny, e1]
        · rw [e3.2.2.2.2 x (by omega), sI_at]
        · rw [e4, sI_a (by omega)]
theorem k_conv (hX : CX h x T n s) (ht : txt T n) (hs : s < n) (h99 : T s = 99) (hB : CBr h d nf B) (hk : bkk nf B) (h1 : 1 ≤ nf) (hd : x + 1 < d ∨ d + 9 ≤ x) :
    itR h x d T n nf (fX4_readConversion h x d) (if bnc B < 20 ∧ bnc B < nf * (nf - 1) then pconv T n nf B (s + 1) else .inl s) := by
  have n8 := hk.1.1
  have kx := hX.1.1
  have cn := k_can hB hk h1
  rw [fX4_readConversion_e]
  by_cases cm : bnc B < 20 ∧ bnc B < nf * (nf - 1)
  · rw [if_pos cm] at cn ⊢
    have R := k_rsign (c := 99) hX ht (by omega) (by omega)
    have c9 : s < n ∧ T s = 99 := ⟨hs, h99⟩
    rw [if_pos c9] at R
    have X1 : CX (zsI h x 2 (nI (s + 1))) x T n (s + 1) := hX.sp
    have B1 : CBr (zsI h x 2 (nI (s + 1))) d nf B := CBr_x (by omega) hB
    have D1 := k_sdigit X1 ht (by omega)
    have st : (if zkd h x = 5 then zb2 (fX0_canAddConversion h d) fun w1 h2 => if (w1 : Int32) = 0 then some (0, h2) else zb2 (fX4_readSign h2 x 99) fun w4 h5 => if (w4 : Int32) = 0 then some (0, h5) else fX4_readConversion_c1 x d h5 else none) = fX4_readConversion_c1 x d (zsI h x 2 (nI (s + 1))) := by
      simp (disch := first | assumption | (simp only [sI_kd, sP_kd, rw_kd, sI_ln, sP_ln, rw_ln] <;> first | assumption | omega) | omega) only [nl, nI_add, pk_mul, Option.bind_some, zb2_some, nI_le_t, nI_le_f, nI_lt_t, nI_lt_f, nI_eq_t, nI_eq_f, nI_m1, nI_em1, ↓reduceIte, Nat.add_zero, kx, cn, R]
    rw [st]
    unfold fX4_readConversion_c1 pconv
    cases hd1 : dg T n (s + 1) with
    | none =>
      rw [hd1] at D1
      have D1' : fX4_shownDigit (zsI h x 2 (nI (s + 1))) x = some (nI 4294967295, zsI h x 2 (nI (s + 1))) := D1
      refine ⟨zsI h x 2 (nI (s + 1)), ?_, sI_at, CTF.sx⟩
      simp (disch := first | assumption | (simp only [sI_kd, sP_kd, rw_kd, sI_ln, sP_ln, rw_ln] <;> first | assumption | omega) | omega) only [nl, nI_add, pk_mul, Option.bind_some, zb2_some, nI_le_t, nI_le_f, nI_lt_t, nI_lt_f, nI_eq_t, nI_eq_f, nI_m1, nI_em1, ↓reduceIte, Nat.add_zero, D1', k_fromN B1 n8]
    | some a =>
      obtain ⟨d1, d2, d3, d4, d5⟩ := dg_some hd1
      rw [hd1] at D1
      have D1' : fX4_shownDigit (zsI h x 2 (nI (s + 1))) x = some (nI a, zsI h x 2 (nI (s + 1))) := D1
      have Fr := k_from (a := a) B1 n8 (by omega)
      dsimp only
      by_cases ca : a < nf ∧ frm B a nf = true
      · rw [if_pos ca] at Fr ⊢
        have kx1 : zkd (zsI h x 2 (nI (s + 1))) x = 5 := X1.1.1
        have x2 : zI (zsI h x 2 (nI (s + 1))) x 2 = nI (s + 1) := sI_at
        have X2 : CX (zsI h x 2 (nI (s + 2))) x T n (s + 2) := hX.sp
        have B2 : CBr (zsI h x 2 (nI (s + 2))) d nf B := CBr_x (by omega) hB
        have D2 := k_sdigit X2 ht (by omega)
        have st2 : (zb2 (fX4_shownDigit (zsI h x 2 (nI (s + 1))) x) fun w7 h8 => zb2 (fX0_canAddConversionFrom h8 d w7) fun w9 h10 => if (w9 : Int32) = 0 then some (0, h10) else (zgI h10 4 x 2).bind fun w12 => (zpI h10 4 x 2 ((w12 : Int32) + 1)).bind fun h13 => fX4_readConversion_c2 x d w7 h13) = fX4_readConversion_c2 x d (nI a) (zsI h x 2 (nI (s + 2))) := by
          simp (disch := first | assumption | (simp only [sI_kd, sP_kd, rw_kd, sI_ln, sP_ln, rw_ln] <;> first | assumption | omega) | omega) only [nl, nI_add, pk_mul, Option.bind_some, zb2_some, nI_le_t, nI_le_f, nI_lt_t, nI_lt_f, nI_eq_t, nI_eq_f, nI_m1, nI_em1, ↓reduceIte, Nat.add_zero, D1', Fr, gI_, x2, pI_, sI_sI]
        rw [st2]
        unfold fX4_readConversion_c2
        cases hd2 : dg T n (s + 2) with
        | none =>
          rw [hd2] at D2
          have D2' : fX4_shownDigit (zsI h x 2 (nI (s + 2))) x = some (nI 4294967295, zsI h x 2 (nI (s + 2))) := D2
          refine ⟨zsI h x 2 (nI (s + 2)), ?_, sI_at, CTF.sx⟩
          simp (disch := first | assumption | (simp only [sI_kd, sP_kd, rw_kd, sI_ln, sP_ln, rw_ln] <;> first | assumption | omega) | omega) only [nl, nI_add, pk_mul, Option.bind_some, zb2_some, nI_le_t, nI_le_f, nI_lt_t, nI_lt_f, nI_eq_t, nI_eq_f, nI_m1, nI_em1, ↓reduceIte, Nat.add_zero, D2', k_linkB B2 n8 (a := a) (by omega)]
        | some b =>
          obtain ⟨f1, f2, f3, f4, f5⟩ := dg_some hd2
          rw [hd2] at D2
          have D2' : fX4_shownDigit (zsI h x 2 (nI (s + 2))) x = some (nI b, zsI h x 2 (nI (s + 2))) := D2
          have Lk := k_link (a := a) (b := b) B2 n8 (by omega) (by omega)
          dsimp only
          by_cases cb : b < nf ∧ a ≠ b ∧ lk B a b = false
          · rw [if_pos cb]
            have yy : a < nf ∧ b < nf ∧ a ≠ b ∧ lk B a b = false := ⟨ca.1, cb⟩
            rw [if_pos yy] at Lk
            have kx2 : zkd (zsI h x 2 (nI (s + 2))) x = 5 := X2.1.1
            have x22 : zI (zsI h x 2 (nI (s + 2))) x 2 = nI (s + 2) := sI_at
            have X3 : CX (zsI h x 2 (nI (s + 3))) x T n (s + 3) := hX.sp
            have B3 : CBr (zsI h x 2 (nI (s + 3))) d nf B := CBr_x (by omega) hB
            have st3 : (zb2 (fX4_shownDigit (zsI h x 2 (nI (s + 2))) x) fun w14 h15 => zb2 (fX0_canLink h15 d (nI a) w14) fun w16 h17 => if (w16 : Int32) = 0 then some (0, h17) else (zgI h17 4 x 2).bind fun w19 => (zpI h17 4 x 2 ((w19 : Int32) + 1)).bind fun h20 => fX4_readConversion_c3 x d (nI a) w14 h20) = fX4_readConversion_c3 x d (nI a) (nI b) (zsI h x 2 (nI (s + 3))) := by
              simp (disch := first | assumption | (simp only [sI_kd, sP_kd, rw_kd, sI_ln, sP_ln, rw_ln] <;> first | assumption | omega) | omega) only [nl, nI_add, pk_mul, Option.bind_some, zb2_some, nI_le_t, nI_le_f, nI_lt_t, nI_lt_f, nI_eq_t, nI_eq_f, nI_m1, nI_em1, ↓reduceIte, Nat.add_zero, D2', Lk, gI_, x22, pI_, sI_sI]
            rw [st3]
            have R3 := k_c3 (a := a) (b := b) X3 ht (by omega) B3 hk h1 hd cm ca.1 cb.1 cb.2.1 cb.2.2
            rw [show s + 1 + 2 = s + 3 from rfl]
            exact itR_mono R3 CTF.sx (by rw [sI_a (by omega)])
          · rw [if_neg cb]
            have nn : ¬ (a < nf ∧ b < nf ∧ a ≠ b ∧ lk B a b = false) := fun z => cb z.2
            rw [if_neg nn] at Lk
            refine ⟨zsI h x 2 (nI (s + 2)), ?_, sI_at, CTF.sx⟩
            simp (disch := first | assumption | (simp only [sI_kd, sP_kd, rw_kd, sI_ln, sP_ln, rw_ln] <;> first | assumption | omega) | omega) only [nl, nI_add, pk_mul, Option.bind_some, zb2_some, nI_le_t, nI_le_f, nI_lt_t, nI_lt_f, nI_eq_t, nI_eq_f, nI_m1, nI_em1, ↓reduceIte, Nat.add_zero, D2', Lk]
      · rw [if_neg ca] at Fr ⊢
        refine ⟨zsI h x 2 (nI (s + 1)), ?_, sI_at, CTF.sx⟩
        simp (disch := first | assumption | (simp only [sI_kd, sP_kd, rw_kd, sI_ln, sP_ln, rw_ln] <;> first | assumption | omega) | omega) only [nl, nI_add, pk_mul, Option.bind_some, zb2_some, nI_le_t, nI_le_f, nI_lt_t, nI_lt_f, nI_eq_t, nI_eq_f, nI_m1, nI_em1, ↓reduceIte, Nat.add_zero, D1', Fr]
  · rw [if_neg cm] at cn ⊢
    refine ⟨h, ?_, hX.2.2.1, CTF.rf⟩
    simp (disch := first | assumption | (simp only [sI_kd, sP_kd, rw_kd, sI_ln, sP_ln, rw_ln] <;> first | assumption | omega) | omega) only [nl, nI_add, pk_mul, Option.bind_some, zb2_some, nI_le_t, nI_le_f, nI_lt_t, nI_lt_f, nI_eq_t, nI_eq_f, nI_m1, nI_em1, ↓reduceIte, Nat.add_zero, kx, cn]
theorem k_set_L {K : zH → Int32 → Int32 → Int32 → Option (Int32 × zH)} (ht : txt T n) (h1 : 1 ≤ nf) (hn : nf ≤ 8) (hd : x + 1 < d ∨ d + 9 ≤ x) : ∀ k st le s h i fu, i + k = 8 → k < fu → st < 2 ^ le → le ≤ 8 → CX h x T n s → s ≤ n → zkd h d = 1 → zI h d 8 = nI nf → ∃ y z, fX4_readPlace_L25 K x d fu h (nI st) (nI le) (nI i) = K (zsI h x 2 (nI (pset T n nf k st le s).2)) (nI (pset T n nf k st le s).1) y z := by
  intro k
  induction k with
  | zero =>
    intro st le s h i fu hi hfu hst hle hX hs k0 h8
    obtain ⟨fu, rfl⟩ := fuel1 hfu
    have se : zsI h x 2 (nI s) = h := sI_self hX.2.2.1
    refine ⟨nI le, nI i, ?_⟩
    show _ = K (zsI h x 2 (nI s)) (nI st) (nI le) (nI i)
    rw [se, fX4_readPlace_L25]
    simp (disch := first | assumption | (simp only [sI_kd, sP_kd, rw_kd, sI_ln, sP_ln, rw_ln] <;> first | assumption | omega) | omega) only [nl, nI_add, pk_mul, Option.bind_some, zb2_some, nI_le_t, nI_le_f, nI_lt_t, nI_lt_f, nI_eq_t, nI_eq_f, nI_m1, nI_em1, ↓reduceIte, Nat.add_zero]
  | succ k ih =>
    intro st le s h i fu hi hfu hst hle hX hs k0 h8
    obtain ⟨fu, rfl⟩ := fuel1 hfu
    have se : zsI h x 2 (nI s) = h := sI_self hX.2.2.1
    have g8 : zgI h 0 d 8 = some (nI nf) := by rw [gI_ k0, h8]
    have R := k_rdigit (lo := le) (hi := nf - 1) hX ht hs (by omega) (by omega)
    have e : pset T n nf (k + 1) st le s = match dg T n s with
      | none => (st, s)
      | some d => if le ≤ d ∧ d < nf then pset T n nf k (st + 2 ^ d) (d + 1) (s + 1) else (st, s) := rfl
    rw [e, fX4_readPlace_L25]
    cases hdg : dg T n s with
    | none =>
      rw [hdg] at R
      refine ⟨nI le, nI i, ?_⟩
      dsimp only
      rw [se]
      simp (disch := first | assumption | (simp only [sI_kd, sP_kd, rw_kd, sI_ln, sP_ln, rw_ln] <;> first | assumption | omega) | omega) only [nl, nI_add, pk_mul, Option.bind_some, zb2_some, nI_le_t, nI_le_f, nI_lt_t, nI_lt_f, nI_eq_t, nI_eq_f, nI_m1, nI_em1, ↓reduceIte, Nat.add_zero, g8, pk_sub, R]
    | some dd =>
      obtain ⟨d1, d2, d3, d4, d5⟩ := dg_some hdg
      rw [hdg] at R
      dsimp only at R ⊢
      by_cases c : le ≤ dd ∧ dd < nf
      · have c' : le ≤ dd ∧ dd ≤ nf - 1 := by omega
        rw [if_pos c'] at R
        rw [if_pos c]
        have l2 : st < 2 ^ dd := Nat.lt_of_lt_of_le hst (Nat.pow_le_pow_right (by omega) c.1)
        have sh := shl1 (f := dd) (by omega)
        have o := or_pow l2
        have ny := neM (w := dd) (by omega)
        obtain ⟨y, z, I⟩ := ih (st + 2 ^ dd) (dd + 1) (s + 1) (zsI h x 2 (nI (s + 1))) (i + 1) fu (by omega) (by omega) (by rw [Nat.pow_succ]; omega) (by omega) hX.sp (by omega) (by rw [sI_kd]; exact k0) (by rw [sI_a (by omega)]; exact h8)
        rw [sI_sI] at I
        refine ⟨y, z, ?_⟩
        simp (disch := first | assumption | (simp only [sI_kd, sP_kd, rw_kd, sI_ln, sP_ln, rw_ln] <;> first | assumption | omega) | omega) only [nl, nI_add, pk_mul, Option.bind_some, zb2_some, nI_le_t, nI_le_f, nI_lt_t, nI_lt_f, nI_eq_t, nI_eq_f, nI_m1, nI_em1, ↓reduceIte, Nat.add_zero, g8, pk_sub, R, ny, sh, nI_or, o]
        exact I
      · have c' : ¬ (le ≤ dd ∧ dd ≤ nf - 1) := by omega
        rw [if_neg c'] at R
        rw [if_neg c]
        refine ⟨nI le, nI i, ?_⟩
        dsimp only
        rw [se]
        simp (disch := first | assumption | (simp only [sI_kd, sP_kd, rw_kd, sI_ln, sP_ln, rw_ln] <;> first | assumption | omega) | omega) only [nl, nI_add, pk_mul, Option.bind_some, zb2_some, nI_le_t, nI_le_f, nI_lt_t, nI_lt_f, nI_eq_t, nI_eq_f, nI_m1, nI_em1, ↓reduceIte, Nat.add_zero, g8, pk_sub, R]
end CREAD2
