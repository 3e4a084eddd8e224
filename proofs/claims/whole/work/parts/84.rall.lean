/-! pure: the reference reads the whole text -/
section RALL
variable {h g : zH} {m n s nf : Nat} {T : zN'} {B : zBd}
theorem RBr_add {a b c x l : Nat} {h2 : zH} (hB : RBr h m nf B) (e13 : zI h2 m 13 = zI h m 13) (e14 : zI h2 m 14 = nI (bnc B + 1)) (e15 : zI h2 m 15 = zI h m 15) (eo : ∀ y, y ≠ bnc B → zI h2 (m + 8) y = zI h (m + 8) y ∧ zI h2 (m + 9) y = zI h (m + 9) y ∧ zI h2 (m + 10) y = zI h (m + 10) y ∧ zI h2 (m + 11) y = zI h (m + 11) y ∧ zI h2 (m + 12) y = zI h (m + 12) y) (ep : zI h2 (m + 13) = zI h (m + 13) ∧ zI h2 (m + 14) = zI h (m + 14)) (w1 : zI h2 (m + 8) (bnc B) = nI a) (w2 : zI h2 (m + 9) (bnc B) = nI b) (w3 : zI h2 (m + 10) (bnc B) = nI c) (w4 : zI h2 (m + 11) (bnc B) = nI x) (w5 : zI h2 (m + 12) (bnc B) = nI l) : RBr h2 m nf (badd B a b c x l) := by
  obtain ⟨b1, b2, b3, b4, b5⟩ := hB
  refine ⟨by rw [e13]; exact b1, e14, by rw [e15]; exact b3, fun y hy => ?_, fun p hp => by rw [ep.1, ep.2]; exact b5 p hp⟩
  have hy : y < bnc B + 1 := hy
  show zI h2 (m + 8) y = nI (va_up (bfr B) (bnc B) a y) ∧ zI h2 (m + 9) y = nI (va_up (btt B) (bnc B) b y) ∧ zI h2 (m + 10) y = nI (va_up (bco B) (bnc B) c y) ∧ zI h2 (m + 11) y = nI (va_up (bgr B) (bnc B) x y) ∧ zI h2 (m + 12) y = nI (va_up (blo B) (bnc B) l y)
  by_cases z : y = bnc B
  · subst z
    rw [up_at, up_at, up_at, up_at, up_at]
    exact ⟨w1, w2, w3, w4, w5⟩
  · obtain ⟨o1, o2, o3, o4, o5⟩ := eo y z
    rw [up_b z, up_b z, up_b z, up_b z, up_b z, o1, o2, o3, o4, o5]
    exact b4 y (by omega)
theorem r_conv (hX : RX h m T n s) (ht : txt T n) (hs : s ≤ n) (hB : RBr h m nf B) (hk : bkk nf B) (h1 : 1 ≤ nf) (h20 : bnc B < 20) :
    match pconv T n nf B s with
    | .inl p => ∃ h', fX7_readConversion h m = some (nI 0, h') ∧ zI h' m 3 = nI p ∧ RTF m h h'
    | .inr (B', s') => ∃ h', fX7_readConversion h m = some (nI 1, h') ∧ RX h' m T n s' ∧ RBr h' m nf B' ∧ RTF m h h' := by
  have n8 := hk.1.1
  obtain ⟨hT, x2, x3, xt⟩ := id hX
  obtain ⟨b1, b2, b3, b4, b5⟩ := id hB
  obtain ⟨p0, p8⟩ := pow8 n8
  have sh := shl1 (f := nf) (by omega)
  have D1 := r_digit hX ht hs
  unfold pconv
  rw [fX7_readConversion_e]
  cases hd : dg T n s with
  | none =>
    rw [hd] at D1
    have D1' : fX7_digit h m = some (nI 4294967287, h) := D1
    have i1 := inZn h (c := nf) (by omega) h1
    refine ⟨h, ?_, x3, RTF.rf⟩
    simp (disch := first | assumption | ((repeat apply RefT.s) <;> assumption) | omega) only [nl, nI_add, pk_mul, Option.bind_some, zb2_some, nI_le_t, nI_le_f, nI_lt_t, nI_lt_f, nI_eq_t, nI_eq_f, nI_m1, nI_em1, ↓reduceIte, Nat.add_zero, nI_n9, hT.1, D1', qI, b1, pk_sub, i1]
  | some a =>
    rw [hd] at D1
    have D1' : fX7_digit h m = some (nI a, h) := D1
    obtain ⟨d1, d2, d3, d4, d5⟩ := dg_some hd
    have i1 := inZ h (c := nf) (d := a) (by omega) h1 (by omega)
    dsimp only
    by_cases ca : a < nf
    · rw [if_pos ca] at i1
      have aw := r_away hT hB hk ca
      have al := away_all (B := B) ca
      have bl := bsm_lt (awp B a (bnc B)) nf
      cases fm : frm B a nf with
      | false =>
        have e := al.mpr fm
        have nn : ¬ (a < nf ∧ false = true) := fun z => by cases z.2
        rw [if_neg nn]
        refine ⟨h, ?_, x3, RTF.rf⟩
        simp (disch := first | assumption | ((repeat apply RefT.s) <;> assumption) | omega) only [nl, nI_add, pk_mul, Option.bind_some, zb2_some, nI_le_t, nI_le_f, nI_lt_t, nI_lt_f, nI_eq_t, nI_eq_f, nI_m1, nI_em1, ↓reduceIte, Nat.add_zero, nI_n9, hT.1, D1', qI, b1, pk_sub, i1, aw]
        unfold fX7_readConversion_c1
        simp (disch := first | assumption | ((repeat apply RefT.s) <;> assumption) | omega) only [nl, nI_add, pk_mul, Option.bind_some, zb2_some, nI_le_t, nI_le_f, nI_lt_t, nI_lt_f, nI_eq_t, nI_eq_f, nI_m1, nI_em1, ↓reduceIte, Nat.add_zero, nI_n9, qI, b1, sh, pk_sub, e]
      | true =>
        have e : bsm (awp B a (bnc B)) nf ≠ 2 ^ nf - 1 := fun z => by rw [al.mp z] at fm; cases fm
        have yy : a < nf ∧ true = true := ⟨ca, rfl⟩
        rw [if_pos yy]
        have X1 := hX.sp (p := s + 1)
        have hT1 : RefT (zsI h m 3 (nI (s + 1))) m := hT
        have B1 : RBr (zsI h m 3 (nI (s + 1))) m nf B := RBr_3 hB
        have D2 := r_digit X1 ht (by omega)
        have i13 : zI (zsI h m 3 (nI (s + 1))) m 13 = nI nf := by rw [sI_k (by omega)]; exact b1
        cases hd2 : dg T n (s + 1) with
        | none =>
          rw [hd2] at D2
          have D2' : fX7_digit (zsI h m 3 (nI (s + 1))) m = some (nI 4294967287, zsI h m 3 (nI (s + 1))) := D2
          have i2 := inZn (zsI h m 3 (nI (s + 1))) (c := nf) (by omega) h1
          refine ⟨zsI h m 3 (nI (s + 1)), ?_, sI_at, RTF.sm (Or.inl rfl)⟩
          simp (disch := first | assumption | ((repeat apply RefT.s) <;> assumption) | omega) only [nl, nI_add, pk_mul, Option.bind_some, zb2_some, nI_le_t, nI_le_f, nI_lt_t, nI_lt_f, nI_eq_t, nI_eq_f, nI_m1, nI_em1, ↓reduceIte, Nat.add_zero, nI_n9, hT.1, D1', qI, b1, pk_sub, i1, aw]
          unfold fX7_readConversion_c1
          simp (disch := first | assumption | ((repeat apply RefT.s) <;> assumption) | omega) only [nl, nI_add, pk_mul, Option.bind_some, zb2_some, nI_le_t, nI_le_f, nI_lt_t, nI_lt_f, nI_eq_t, nI_eq_f, nI_m1, nI_em1, ↓reduceIte, Nat.add_zero, nI_n9, qI, b1, sh, pk_sub, x3, qp, D2', i13]
          unfold fX7_readConversion_c2
          simp (disch := first | assumption | ((repeat apply RefT.s) <;> assumption) | omega) only [nl, nI_add, pk_mul, Option.bind_some, zb2_some, nI_le_t, nI_le_f, nI_lt_t, nI_lt_f, nI_eq_t, nI_eq_f, nI_m1, nI_em1, ↓reduceIte, Nat.add_zero, nI_n9, pk_sub, i2]
        | some b =>
          rw [hd2] at D2
          have D2' : fX7_digit (zsI h m 3 (nI (s + 1))) m = some (nI b, zsI h m 3 (nI (s + 1))) := D2
          obtain ⟨f1, f2, f3, f4, f5⟩ := dg_some hd2
          have i2 := inZ (zsI h m 3 (nI (s + 1))) (c := nf) (d := b) (by omega) h1 (by omega)
          dsimp only
          have fail : ∀ (_ : fX7_readConversion_c2 m (nI a) (nI b) (zsI h m 3 (nI (s + 1))) (nI nf) = some (nI 0, zsI h m 3 (nI (s + 1)))), ∃ h', (if zkd h m = 8 then zb2 (fX7_digit h m) fun w1 h2 => (zgI h2 7 m 13).bind fun w3 => zb2 (fX7_in h2 w1.toInt64 0 (w3 - 1).toInt64) fun w4 h5 => if w4 = 0 then some (0, h5) else zb2 (fX7_readAway h5 m w1) fun w7 h8 => fX7_readConversion_c1 m w1 w7 h8 else none) = some (nI 0, h') ∧ zI h' m 3 = nI (s + 1) ∧ RTF m h h' := fun q => by
            refine ⟨zsI h m 3 (nI (s + 1)), ?_, sI_at, RTF.sm (Or.inl rfl)⟩
            simp (disch := first | assumption | ((repeat apply RefT.s) <;> assumption) | omega) only [nl, nI_add, pk_mul, Option.bind_some, zb2_some, nI_le_t, nI_le_f, nI_lt_t, nI_lt_f, nI_eq_t, nI_eq_f, nI_m1, nI_em1, ↓reduceIte, Nat.add_zero, nI_n9, hT.1, D1', qI, b1, pk_sub, i1, aw]
            unfold fX7_readConversion_c1
            simp (disch := first | assumption | ((repeat apply RefT.s) <;> assumption) | omega) only [nl, nI_add, pk_mul, Option.bind_some, zb2_some, nI_le_t, nI_le_f, nI_lt_t, nI_lt_f, nI_eq_t, nI_eq_f, nI_m1, nI_em1, ↓reduceIte, Nat.add_zero, nI_n9, qI, b1, sh, pk_sub, x3, qp, D2', i13]
            exact q
          by_cases cb : b < nf
          · rw [if_pos cb] at i2
            have aw2 := r_away hT1 B1 hk ca
            have bt := bit_at (bsm (awp B a (bnc B)) nf) (by omega) b (by omega)
            rw [bsm_bit cb] at bt
            by_cases cl : a ≠ b ∧ lk B a b = false
            · have av : awp B a (bnc B) b = false := by
                show (decide (b = a) || lkn (bfr B) (btt B) a b (bnc B)) = false
                have := cl.2
                unfold lk at this
                rw [this, decide_eq_false (fun z => cl.1 z.symm)]
                rfl
              rw [av, if_neg (by decide)] at bt
              have yy : b < nf ∧ a ≠ b ∧ lk B a b = false := ⟨cb, cl.1, cl.2⟩
              rw [if_pos yy]
              have Fg : RTF m h (zsI (zsI (zsI h m 3 (nI (s + 2))) (m + 8) (bnc B) (nI a)) (m + 9) (bnc B) (nI b)) := ((RTF.sm (Or.inl rfl)).tr (RTF.sa (by omega) (by omega))).tr (RTF.sa (by omega) (by omega))
              have X3 : RX (zsI (zsI (zsI h m 3 (nI (s + 2))) (m + 8) (bnc B) (nI a)) (m + 9) (bnc B) (nI b)) m T n (s + 2) := hX.f Fg (by rw [sI_a (by omega), sI_a (by omega), sI_at])
              have e14 : zI (zsI (zsI (zsI h m 3 (nI (s + 2))) (m + 8) (bnc B) (nI a)) (m + 9) (bnc B) (nI b)) m 14 = nI (bnc B) := by rw [sI_a (by omega), sI_a (by omega), sI_k (by omega)]; exact b2
              have R := rc4 X3 ht (by omega) e14 h20
              have f14 : zI (zsI h m 3 (nI (s + 2))) m 14 = nI (bnc B) := by rw [sI_k (by omega)]; exact b2
              have start : fX7_readConversion_c4 m (nI (bnc B)) (zsI (zsI (zsI h m 3 (nI (s + 2))) (m + 8) (bnc B) (nI a)) (m + 9) (bnc B) (nI b)) (m + 10) = (if zkd h m = 8 then zb2 (fX7_digit h m) fun w1 h2 => (zgI h2 7 m 13).bind fun w3 => zb2 (fX7_in h2 w1.toInt64 0 (w3 - 1).toInt64) fun w4 h5 => if w4 = 0 then some (0, h5) else zb2 (fX7_readAway h5 m w1) fun w7 h8 => fX7_readConversion_c1 m w1 w7 h8 else none) := by
                symm
                simp (disch := first | assumption | ((repeat apply RefT.s) <;> assumption) | omega) only [nl, nI_add, pk_mul, Option.bind_some, zb2_some, nI_le_t, nI_le_f, nI_lt_t, nI_lt_f, nI_eq_t, nI_eq_f, nI_m1, nI_em1, ↓reduceIte, Nat.add_zero, nI_n9, hT.1, D1', qI, b1, pk_sub, i1, aw]
                unfold fX7_readConversion_c1
                simp (disch := first | assumption | ((repeat apply RefT.s) <;> assumption) | omega) only [nl, nI_add, pk_mul, Option.bind_some, zb2_some, nI_le_t, nI_le_f, nI_lt_t, nI_lt_f, nI_eq_t, nI_eq_f, nI_m1, nI_em1, ↓reduceIte, Nat.add_zero, nI_n9, qI, b1, sh, pk_sub, x3, qp, D2', i13]
                unfold fX7_readConversion_c2
                simp (disch := first | assumption | ((repeat apply RefT.s) <;> assumption) | omega) only [nl, nI_add, pk_mul, Option.bind_some, zb2_some, nI_le_t, nI_le_f, nI_lt_t, nI_lt_f, nI_eq_t, nI_eq_f, nI_m1, nI_em1, ↓reduceIte, Nat.add_zero, nI_n9, pk_sub, i2, aw2, bt, qI, sI_at, qp, sI_sI]
                unfold fX7_readConversion_c3
                simp (disch := first | assumption | ((repeat apply RefT.s) <;> assumption) | omega) only [nl, nI_add, pk_mul, Option.bind_some, zb2_some, nI_le_t, nI_le_f, nI_lt_t, nI_lt_f, nI_eq_t, nI_eq_f, nI_m1, nI_em1, ↓reduceIte, Nat.add_zero, nI_n9, qI, f14, sgP, qg8, qg9, qg10, qb8, qb9]
              rw [start] at R
              unfold rcR at R
              cases hp1 : pnum T n true 2 0 (s + 2) with
              | mk o1 p1 =>
              rw [hp1] at R
              cases o1 with
              | none =>
                obtain ⟨g', r1, r2, r3⟩ := R
                exact ⟨g', r1, r2, Fg.tr r3⟩
              | some vc =>
                dsimp only at R ⊢
                cases hp2 : pnum T n true 2 0 p1 with
                | mk o2 p2 =>
                rw [hp2] at R
                cases o2 with
                | none =>
                  obtain ⟨g', r1, r2, r3⟩ := R
                  exact ⟨g', r1, r2, Fg.tr r3⟩
                | some vg =>
                  dsimp only at R ⊢
                  cases hp3 : pnum T n false 1 0 p2 with
                  | mk o3 p3 =>
                  rw [hp3] at R
                  cases o3 with
                  | none =>
                    obtain ⟨g', r1, r2, r3⟩ := R
                    exact ⟨g', r1, r2, Fg.tr r3⟩
                  | some vl =>
                    obtain ⟨g', r1, r2, r3, r4, r5, r6, r7, r8, r9, r10, r11, r12, r13, r14⟩ := R
                    refine ⟨g', r1, hX.f (Fg.tr r3) r2, RBr_add hB ?_ r4 ?_ (fun y hy => ?_) ⟨?_, ?_⟩ ?_ ?_ r7 r8 r9, Fg.tr r3⟩
                    · rw [r5, sI_a (by omega), sI_a (by omega), sI_k (by omega)]
                    · rw [r6, sI_a (by omega), sI_a (by omega), sI_k (by omega)]
                    · obtain ⟨y1, y2, y3⟩ := r10 y hy
                      rw [r11, r12, y1, y2, y3]
                      refine ⟨?_, ?_, ?_, ?_, ?_⟩
                      · rw [sI_a (by omega), sI_k (by omega), sI_a (by omega)]
                      · rw [sI_k (by omega), sI_a (by omega), sI_a (by omega)]
                      · rw [sI_a (by omega), sI_a (by omega), sI_a (by omega)]
                      · rw [sI_a (by omega), sI_a (by omega), sI_a (by omega)]
                      · rw [sI_a (by omega), sI_a (by omega), sI_a (by omega)]
                    · rw [r13, sI_a (by omega), sI_a (by omega), sI_a (by omega)]
                    · rw [r14, sI_a (by omega), sI_a (by omega), sI_a (by omega)]
                    · rw [r11, sI_a (by omega), sI_at]
                    · rw [r12, sI_at]
            · have av : awp B a (bnc B) b = true := by
                show (decide (b = a) || lkn (bfr B) (btt B) a b (bnc B)) = true
                by_cases z : b = a
                · rw [decide_eq_true z, Bool.true_or]
                · cases q : lkn (bfr B) (btt B) a b (bnc B) with
                  | true => rw [Bool.or_true]
                  | false => exact absurd ⟨fun w => z w.symm, q⟩ cl
              rw [av, if_pos rfl] at bt
              have nn : ¬ (b < nf ∧ a ≠ b ∧ lk B a b = false) := fun z => cl z.2
              rw [if_neg nn]
              refine fail ?_
              unfold fX7_readConversion_c2
              simp (disch := first | assumption | ((repeat apply RefT.s) <;> assumption) | omega) only [nl, nI_add, pk_mul, Option.bind_some, zb2_some, nI_le_t, nI_le_f, nI_lt_t, nI_lt_f, nI_eq_t, nI_eq_f, nI_m1, nI_em1, ↓reduceIte, Nat.add_zero, nI_n9, pk_sub, i2, aw2, bt]
          · rw [if_neg cb] at i2
            have nn : ¬ (b < nf ∧ a ≠ b ∧ lk B a b = false) := fun z => cb z.1
            rw [if_neg nn]
            refine fail ?_
            unfold fX7_readConversion_c2
            simp (disch := first | assumption | ((repeat apply RefT.s) <;> assumption) | omega) only [nl, nI_add, pk_mul, Option.bind_some, zb2_some, nI_le_t, nI_le_f, nI_lt_t, nI_lt_f, nI_eq_t, nI_eq_f, nI_m1, nI_em1, ↓reduceIte, Nat.add_zero, nI_n9, pk_sub, i2]
    · rw [if_neg ca] at i1
      have nn : ¬ (a < nf ∧ frm B a nf = true) := fun z => ca z.1
      rw [if_neg nn]
      refine ⟨h, ?_, x3, RTF.rf⟩
      simp (disch := first | assumption | ((repeat apply RefT.s) <;> assumption) | omega) only [nl, nI_add, pk_mul, Option.bind_some, zb2_some, nI_le_t, nI_le_f, nI_lt_t, nI_lt_f, nI_eq_t, nI_eq_f, nI_m1, nI_em1, ↓reduceIte, Nat.add_zero, nI_n9, hT.1, D1', qI, b1, pk_sub, i1]
theorem r_set_L {K : zH → Int32 → Int32 → Option (Int32 × zH)} (ht : txt T n) (h1 : 1 ≤ nf) (hn : nf ≤ 8) : ∀ k st le s h fu, nf ≤ le + k → k < fu → st < 2 ^ le → le ≤ 8 → RX h m T n s → s ≤ n → zI h m 13 = nI nf → ∃ y, fX7_readPlace_L4 K m fu h (nI st) (nI le) = K (zsI h m 3 (nI (pset T n nf k st le s).2)) (nI (pset T n nf k st le s).1) y := by
  intro k
  induction k with
  | zero =>
    intro st le s h fu hk hfu hst hle hX hs h13
    obtain ⟨fu, rfl⟩ := fuel1 hfu
    have D := r_digit hX ht hs
    have se : zsI h m 3 (nI s) = h := sI_self hX.2.2.1
    have hT := hX.1
    refine ⟨nI le, ?_⟩
    show _ = K (zsI h m 3 (nI s)) (nI st) (nI le)
    rw [se, fX7_readPlace_L4]
    cases hd : dg T n s with
    | none =>
      rw [hd] at D
      have D' : fX7_digit h m = some (nI 4294967287, h) := D
      have i := inLn h (c := nf) (l := le) (by omega)
      simp (disch := first | assumption | ((repeat apply RefT.s) <;> assumption) | omega) only [nl, nI_add, pk_mul, Option.bind_some, zb2_some, nI_le_t, nI_le_f, nI_lt_t, nI_lt_f, nI_eq_t, nI_eq_f, nI_m1, nI_em1, ↓reduceIte, Nat.add_zero, nI_n9, D', qI, h13, pk_sub, i]
    | some d =>
      rw [hd] at D
      have D' : fX7_digit h m = some (nI d, h) := D
      obtain ⟨d1, d2, d3, d4, d5⟩ := dg_some hd
      have i := inL h (c := nf) (l := le) (d := d) (by omega) h1 (by omega) (by omega)
      rw [if_neg (by omega)] at i
      simp (disch := first | assumption | ((repeat apply RefT.s) <;> assumption) | omega) only [nl, nI_add, pk_mul, Option.bind_some, zb2_some, nI_le_t, nI_le_f, nI_lt_t, nI_lt_f, nI_eq_t, nI_eq_f, nI_m1, nI_em1, ↓reduceIte, Nat.add_zero, nI_n9, D', qI, h13, pk_sub, i]
  | succ k ih =>
    intro st le s h fu hk hfu hst hle hX hs h13
    obtain ⟨fu, rfl⟩ := fuel1 hfu
    have D := r_digit hX ht hs
    have se : zsI h m 3 (nI s) = h := sI_self hX.2.2.1
    have hT := hX.1
    have x3 := hX.2.2.1
    have e : pset T n nf (k + 1) st le s = match dg T n s with
      | none => (st, s)
      | some d => if le ≤ d ∧ d < nf then pset T n nf k (st + 2 ^ d) (d + 1) (s + 1) else (st, s) := rfl
    rw [e, fX7_readPlace_L4]
    cases hd : dg T n s with
    | none =>
      rw [hd] at D
      have D' : fX7_digit h m = some (nI 4294967287, h) := D
      have i := inLn h (c := nf) (l := le) (by omega)
      refine ⟨nI le, ?_⟩
      dsimp only
      rw [se]
      simp (disch := first | assumption | ((repeat apply RefT.s) <;> assumption) | omega) only [nl, nI_add, pk_mul, Option.bind_some, zb2_some, nI_le_t, nI_le_f, nI_lt_t, nI_lt_f, nI_eq_t, nI_eq_f, nI_m1, nI_em1, ↓reduceIte, Nat.add_zero, nI_n9, D', qI, h13, pk_sub, i]
    | some d =>
      rw [hd] at D
      have D' : fX7_digit h m = some (nI d, h) := D
      obtain ⟨d1, d2, d3, d4, d5⟩ := dg_some hd
      have i := inL h (c := nf) (l := le) (d := d) (by omega) h1 (by omega) (by omega)
      dsimp only
      by_cases c : le ≤ d ∧ d < nf
      · rw [if_pos c] at i ⊢
        have l2 : st < 2 ^ d := Nat.lt_of_lt_of_le hst (Nat.pow_le_pow_right (by omega) c.1)
        have sh := shl1 (f := d) (by omega)
        have o := or_pow l2
        obtain ⟨y, I⟩ := ih (st + 2 ^ d) (d + 1) (s + 1) (zsI h m 3 (nI (s + 1))) fu (by omega) (by omega) (by rw [Nat.pow_succ]; omega) (by omega) hX.sp (by omega) (by rw [sI_k (by omega)]; exact h13)
        rw [sI_sI] at I
        refine ⟨y, ?_⟩
        simp (disch := first | assumption | ((repeat apply RefT.s) <;> assumption) | omega) only [nl, nI_add, pk_mul, Option.bind_some, zb2_some, nI_le_t, nI_le_f, nI_lt_t, nI_lt_f, nI_eq_t, nI_eq_f, nI_m1, nI_em1, ↓reduceIte, Nat.add_zero, nI_n9, D', qI, h13, pk_sub, i, x3, qp, sh, nI_or, o]
        exact I
      · rw [if_neg c] at i ⊢
        refine ⟨nI le, ?_⟩
        dsimp only
        rw [se]
        simp (disch := first | assumption | ((repeat apply RefT.s) <;> assumption) | omega) only [nl, nI_add, pk_mul, Option.bind_some, zb2_some, nI_le_t, nI_le_f, nI_lt_t, nI_lt_f, nI_eq_t, nI_eq_f, nI_m1, nI_em1, ↓reduceIte, Nat.add_zero, nI_n9, D', qI, h13, pk_sub, i]
theorem r_place (hX : RX h m T n s) (ht : txt T n) (hs : s ≤ n) (hB : RBr h m nf B) (hk : bkk nf B) (h1 : 1 ≤ nf) (h6 : bnp B < 6) :
    match pplace T n nf B s with
    | .inl p => ∃ h', fX7_readPlace h m = some (nI 0, h') ∧ zI h' m 3 = nI p ∧ RTF m h h'
    | .inr (B', s') => ∃ h', fX7_readPlace h m = some (nI 1, h') ∧ RX h' m T n s' ∧ RBr h' m nf B' ∧ RTF m h h' := by
  have n8 := hk.1.1
  obtain ⟨hT, x2, x3, xt⟩ := id hX
  obtain ⟨b1, b2, b3, b4, b5⟩ := id hB
  obtain ⟨p0, p8⟩ := pow8 n8
  have po := pset_ok (T := T) (n := n) n8 8 0 0 s hs (by decide) (by omega)
  have L := fun K => r_set_L (K := K) (m := m) ht h1 n8 8 0 0 s h zF (by omega) (by decide) (by decide) (by omega) hX hs b1
  unfold pplace
  cases hp : pset T n nf 8 0 0 s with
  | mk st q =>
  rw [hp] at L po
  dsimp only at L po ⊢
  have Xq : RX (zsI h m 3 (nI q)) m T n q := hX.sp
  have hTq : RefT (zsI h m 3 (nI q)) m := hT
  have P := r_passes (c := 58) Xq ht (by omega) (by omega)
  unfold fX7_readPlace
  rw [if_pos hT.1]
  by_cases c0 : st = 0
  · rw [if_pos c0]
    refine ⟨zsI h m 3 (nI q), ?_, sI_at, RTF.sm (Or.inl rfl)⟩
    obtain ⟨y, e⟩ := L (fun h1 y2 y3 => if (y2 : Int32) = 0 then some (0, h1) else zb2 (fX7_passes h1 m 58) fun w5 h6 => if (w5 : Int32) = 0 then some (0, h6) else zb2 (fX7_number h6 m 5 1) fun w8 h9 => if (w8 : Int32) = (-9) then some (0, h9) else (zgP h9 7 m 22).bind fun w11 => (zgI h9 7 m 15).bind fun w12 => (zbI h9 w11 w12 y2).bind fun h13 => (zgP h13 7 m 23).bind fun w14 => (zgI h13 7 m 15).bind fun w15 => (zbI h13 w14 w15 w8).bind fun h16 => (zgI h16 7 m 15).bind fun w17 => (zpI h16 7 m 15 (w17 + 1)).bind fun h18 => some (1, h18))
    refine Eq.trans e ?_
    rw [c0]
    exact if_pos rfl
  · rw [if_neg c0]
    obtain ⟨y, e⟩ := L (fun h1 y2 y3 => if (y2 : Int32) = 0 then some (0, h1) else zb2 (fX7_passes h1 m 58) fun w5 h6 => if (w5 : Int32) = 0 then some (0, h6) else zb2 (fX7_number h6 m 5 1) fun w8 h9 => if (w8 : Int32) = (-9) then some (0, h9) else (zgP h9 7 m 22).bind fun w11 => (zgI h9 7 m 15).bind fun w12 => (zbI h9 w11 w12 y2).bind fun h13 => (zgP h13 7 m 23).bind fun w14 => (zgI h13 7 m 15).bind fun w15 => (zbI h13 w14 w15 w8).bind fun h16 => (zgI h16 7 m 15).bind fun w17 => (zpI h16 7 m 15 (w17 + 1)).bind fun h18 => some (1, h18))
    by_cases c1 : q < n ∧ T q = 58
    · rw [if_pos c1] at P ⊢
      have X2 : RX (zsI h m 3 (nI (q + 1))) m T n (q + 1) := hX.sp
      have N := r_number (D := 5) (ab := true) X2 ht (by omega) (by omega)
      rw [if_pos rfl] at N
      have kn := pnum_ok (T := T) (n := n) (ab := true) 5 0 (q + 1) (by omega)
      rw [sI_sI] at P
      cases hpn : pnum T n true 5 0 (q + 1) with
      | mk o p =>
      rw [hpn] at N kn
      rw [sI_sI] at N
      cases o with
      | none =>
        have N' : fX7_number (zsI h m 3 (nI (q + 1))) m (nI 5) (nI 1) = some (nI 4294967287, zsI h m 3 (nI p)) := N
        refine ⟨zsI h m 3 (nI p), Eq.trans e ?_, sI_at, RTF.sm (Or.inl rfl)⟩
        simp (disch := first | assumption | ((repeat apply RefT.s) <;> assumption) | omega) only [nl, nI_add, pk_mul, Option.bind_some, zb2_some, nI_le_t, nI_le_f, nI_lt_t, nI_lt_f, nI_eq_t, nI_eq_f, nI_m1, nI_em1, ↓reduceIte, Nat.add_zero, nI_n9, P, N']
      | some v =>
        obtain ⟨m1, m2, m3⟩ := kn
        obtain ⟨k1, k2, -, -⟩ := m3 v rfl
        have nv := ne9 (w := v) (by omega)
        have N' : fX7_number (zsI h m 3 (nI (q + 1))) m (nI 5) (nI 1) = some (nI v, zsI h m 3 (nI p)) := N
        have f15 : zI (zsI h m 3 (nI p)) m 15 = nI (bnp B) := by rw [sI_k (by omega)]; exact b3
        have g15 : zI (zsI (zsI h m 3 (nI p)) (m + 13) (bnp B) (nI st)) m 15 = nI (bnp B) := by rw [sI_a (by omega)]; exact f15
        have k15 : zI (zsI (zsI (zsI h m 3 (nI p)) (m + 13) (bnp B) (nI st)) (m + 14) (bnp B) (nI v)) m 15 = nI (bnp B) := by rw [sI_a (by omega)]; exact g15
        have F : RTF m h (zsI (zsI (zsI (zsI h m 3 (nI p)) (m + 13) (bnp B) (nI st)) (m + 14) (bnp B) (nI v)) m 15 (nI (bnp B + 1))) := (((RTF.sm (Or.inl rfl)).tr (RTF.sa (by omega) (by omega))).tr (RTF.sa (by omega) (by omega))).tr (RTF.sm (by omega))
        refine ⟨_, Eq.trans e ?_, hX.f F (by rw [sI_k (by omega), sI_a (by omega), sI_a (by omega), sI_at]), ?_, F⟩
        · simp (disch := first | assumption | ((repeat apply RefT.s) <;> assumption) | omega) only [nl, nI_add, pk_mul, Option.bind_some, zb2_some, nI_le_t, nI_le_f, nI_lt_t, nI_lt_f, nI_eq_t, nI_eq_f, nI_m1, nI_em1, ↓reduceIte, Nat.add_zero, nI_n9, P, N', nv, sgP, qg13, qg14, qI, f15, qb13, g15, qb14, k15, qp]
        · refine ⟨?_, ?_, sI_at, fun c hc => ?_, fun x hx => ?_⟩
          · simp (disch := first | assumption | (simp only [sI_kd, sP_kd, rw_kd, sI_ln, sP_ln, rw_ln] <;> first | assumption | omega) | omega) only [nl, nI_add, pk_mul, Option.bind_some, zb2_some, nI_le_t, nI_le_f, nI_lt_t, nI_lt_f, nI_eq_t, nI_eq_f, nI_m1, nI_em1, ↓reduceIte, Nat.add_zero, sI_k, sI_a]
            exact b1
          · simp (disch := first | assumption | (simp only [sI_kd, sP_kd, rw_kd, sI_ln, sP_ln, rw_ln] <;> first | assumption | omega) | omega) only [nl, nI_add, pk_mul, Option.bind_some, zb2_some, nI_le_t, nI_le_f, nI_lt_t, nI_lt_f, nI_eq_t, nI_eq_f, nI_m1, nI_em1, ↓reduceIte, Nat.add_zero, sI_k, sI_a]
            exact b2
          · simp (disch := first | assumption | (simp only [sI_kd, sP_kd, rw_kd, sI_ln, sP_ln, rw_ln] <;> first | assumption | omega) | omega) only [nl, nI_add, pk_mul, Option.bind_some, zb2_some, nI_le_t, nI_le_f, nI_lt_t, nI_lt_f, nI_eq_t, nI_eq_f, nI_m1, nI_em1, ↓reduceIte, Nat.add_zero, sI_a]
            exact b4 c hc
          · have hx : x < bnp B + 1 := hx
            show zI _ (m + 13) x = nI (va_up (bac B) (bnp B) st x) ∧ zI _ (m + 14) x = nI (va_up (bli B) (bnp B) v x)
            by_cases z : x = bnp B
            · subst z
              rw [up_at, up_at]
              simp (disch := first | assumption | (simp only [sI_kd, sP_kd, rw_kd, sI_ln, sP_ln, rw_ln] <;> first | assumption | omega) | omega) only [nl, nI_add, pk_mul, Option.bind_some, zb2_some, nI_le_t, nI_le_f, nI_lt_t, nI_lt_f, nI_eq_t, nI_eq_f, nI_m1, nI_em1, ↓reduceIte, Nat.add_zero, sI_a, sI_at]
              exact ⟨trivial, trivial⟩
            · rw [up_b z, up_b z]
              simp (disch := first | assumption | (simp only [sI_kd, sP_kd, rw_kd, sI_ln, sP_ln, rw_ln] <;> first | assumption | omega) | omega) only [nl, nI_add, pk_mul, Option.bind_some, zb2_some, nI_le_t, nI_le_f, nI_lt_t, nI_lt_f, nI_eq_t, nI_eq_f, nI_m1, nI_em1, ↓reduceIte, Nat.add_zero, sI_a, sI_k]
              exact b5 x (by omega)
    · rw [if_neg c1] at P ⊢
      refine ⟨zsI h m 3 (nI q), Eq.trans e ?_, sI_at, RTF.sm (Or.inl rfl)⟩
      simp (disch := first | assumption | ((repeat apply RefT.s) <;> assumption) | omega) only [nl, nI_add, pk_mul, Option.bind_some, zb2_some, nI_le_t, nI_le_f, nI_lt_t, nI_lt_f, nI_eq_t, nI_eq_f, nI_m1, nI_em1, ↓reduceIte, Nat.add_zero, nI_n9, P]
end RALL
