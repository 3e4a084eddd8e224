/-! pure: the reference's step -/
def fX7_step_b (a0 : Nat) (a1 a2 a3 : Int32) (w4 : Int32) (h5 : zH) : Option (Int32 × zH) :=
    if (w4 : Int32) = 0 then
    (zgP h5 7 a0 24).bind fun w7 =>
    (fX7_layTable h5 (a0) (w7) ((-9))).bind fun h8 =>
    zb2 (fX7_costOf h8 (a0) (a1) (a2)) fun w9 h10 =>
    if (1000000 : Int32) ≤ w9 then
    some ((-9), h10)
    else
    zb2 (fX7_costOf h10 (a0) (a1) (a2)) fun w12 h13 =>
    if (a3 : Int32) ≤ ((w12 : Int32) - w12 / 16 * 16) then
    fX7_step_L90 (fun h15 y16 y17 => some (y16, h15)) (a0) (a1) (a2) (a3) zF h13 (a1) (0)
    else
    some ((-9), h13)
    else
    some (0, h5)
theorem fX7_step_e {h : zH} {a0 : Nat} {a1 : Int32} {a2 : Int32} {a3 : Int32} : fX7_step h a0 a1 a2 a3 = (
    if zkd h a0 = 8 then
    zb2 (fX7_isFormat h (a0) (a1)) fun w1 h2 =>
    if (w1 : Int32) = 0 then
    zb2 (fX7_refused h2 (a0) (1)) fun w4 h5 => fX7_step_b a0 a1 a2 a3 w4 h5
    else
    zb2 (fX7_isFormat h2 (a0) (a2)) fun w18 h19 =>
    if (w18 : Int32) = 0 then
    zb2 (fX7_refused h19 (a0) (1)) fun w4 h5 => fX7_step_b a0 a1 a2 a3 w4 h5
    else
    zb2 (fX7_in h19 ((a3 : Int32).toInt64) (0) (7)) fun w35 h36 =>
    if (w35 : Int32) = 0 then
    zb2 (fX7_refused h36 (a0) (2)) fun w4 h5 => fX7_step_b a0 a1 a2 a3 w4 h5
    else
    zb2 (fX7_refused h36 (a0) (0)) fun w4 h5 => fX7_step_b a0 a1 a2 a3 w4 h5
    else none) := rfl
def stpV (A : zSt) (a b x : Nat) : Nat := if fD 16 (acm0 A) (anf A) a b < fINF ∧ x ≤ pst (acm0 A) (anf A) a b then pat (acm0 A) (anf A) b x a else 4294967287
def stpS (A : zSt) (x y z : Int32) : zAn := if outI x (anf A) then (1, 0, A) else if outI y (anf A) then (1, 0, A) else if outI z 8 then (2, 0, A) else (0, nI (stpV A (cl x) (cl y) (cl z)), A)
section RSTEP
variable {h h' : zH} {m : Nat} {A : zSt}
theorem n_step_L {I : Nat → Nat → Int32} {nf b x : Nat} {cm : Nat → Nat → Nat} {u1 : Int32} (hT : RefT h m) (h4 : I m 4 = nI nf) (ht : rTab I m nf cm) (hc : cok cm nf) (hb : b < nf) (hx : x ≤ 7) : ∀ d f i n, i + d = x → d < n → f < nf → fD 16 cm nf f b < fINF → d ≤ pst cm nf f b → fX7_step_L90 (fun h4 y5 y6 => some (y5, h4)) m u1 (nI b) (nI x) n (zw h I) (nI f) (nI i) = some (nI (pat cm nf b d f), zw h I) := by
  have hn := hc.1
  intro d
  induction d with
  | zero =>
    intro f i n hd hn' hf' hr hp
    obtain ⟨n, rfl⟩ := fuel1 hn'
    rw [fX7_step_L90]
    simp (disch := first | assumption | omega) only [nl, nI_add, pk_mul, Option.bind_some, zb2_some, zz_at, zz_zz, zz_ne, nr_at, up_n, zaIw, zbIw, zgIw, zpIw, nI_le_t, nI_le_f, nI_lt_t, nI_lt_f, nI_eq_t, nI_eq_f, ↓reduceIte, zw_kd, zw_ln, zw_P, zw_I, nI_n9, Nat.add_zero, rgI hT, rpI hT, rkd hT]
    rfl
  | succ d ih =>
    intro f i n hd hn' hf' hr hp
    obtain ⟨n, rfl⟩ := fuel1 hn'
    have ne : f ≠ b := fun q => by
      have := (pst_0 hc hf' hr).mpr q
      omega
    obtain ⟨p1, p2, p3, p4, p5, p6, p7, p8⟩ := pn_step hc hf' ne hr
    have goal := ih (pn cm nf f b) (i + 1) n (by omega) (by omega) p2 p5 (by omega)
    have e1 := t_next hT h4 ht hc hf' hb
    rw [p1] at e1
    have z1 : ∀ x, zon (some x) = nI x := fun _ => rfl
    rw [z1] at e1
    rw [fX7_step_L90]
    simp (disch := first | assumption | omega) only [nl, nI_add, pk_mul, Option.bind_some, zb2_some, zz_at, zz_zz, zz_ne, nr_at, up_n, zaIw, zbIw, zgIw, zpIw, nI_le_t, nI_le_f, nI_lt_t, nI_lt_f, nI_eq_t, nI_eq_f, ↓reduceIte, zw_kd, zw_ln, zw_P, zw_I, nI_n9, Nat.add_zero, rgI hT, rpI hT, rkd hT, e1, goal]
    rfl
theorem r_stp {t : Nat} (hR : RI h m A) (hA : AI t A) (x y z : Int32) : RO h m (fX7_step h m x y z) (stpS A x y z) := by
  have hT := hR.1
  have n8 := hA.2.1.1.1
  have isx : fX7_isFormat h m x = some (if x < 0 ∨ nI (anf A) ≤ x then 0 else 1, h) := m_isFormat (h := h) (I := zI h) hT.1 hR.2.2.1.1 n8 x
  have isy : fX7_isFormat h m y = some (if y < 0 ∨ nI (anf A) ≤ y then 0 else 1, h) := m_isFormat (h := h) (I := zI h) hT.1 hR.2.2.1.1 n8 y
  have pin : fX7_in h z.toInt64 0 7 = some (if z < 0 ∨ nI 8 ≤ z then 0 else 1, h) := p_in0 h z (c := 8) (by omega)
  have rf1 := r_ref (k := 1) hT (by omega)
  have rf2 := r_ref (k := 2) hT (by omega)
  have rf0 := r_ref (k := 0) hT (by omega)
  rw [if_neg (by decide)] at rf1 rf2
  rw [if_pos rfl] at rf0
  unfold stpS
  rw [fX7_step_e]
  by_cases c1 : outI x (anf A)
  · rw [if_pos c1] at isx ⊢
    refine RO_err hR (by omega) ?_
    simp (disch := first | assumption | ((repeat apply RefT.s) <;> assumption) | omega) only [nl, nI_add, pk_mul, Option.bind_some, zb2_some, nI_le_t, nI_le_f, nI_lt_t, nI_lt_f, nI_eq_t, nI_eq_f, nI_m1, nI_em1, ↓reduceIte, Nat.add_zero, nI_n9, hT.1, isx, rf1]
    unfold fX7_step_b
    simp (disch := first | assumption | ((repeat apply RefT.s) <;> assumption) | omega) only [nl, nI_add, pk_mul, Option.bind_some, zb2_some, nI_le_t, nI_le_f, nI_lt_t, nI_lt_f, nI_eq_t, nI_eq_f, nI_m1, nI_em1, ↓reduceIte, Nat.add_zero, nI_n9]
  · rw [if_neg c1] at isx ⊢
    by_cases c2 : outI y (anf A)
    · rw [if_pos c2] at isy ⊢
      refine RO_err hR (by omega) ?_
      simp (disch := first | assumption | ((repeat apply RefT.s) <;> assumption) | omega) only [nl, nI_add, pk_mul, Option.bind_some, zb2_some, nI_le_t, nI_le_f, nI_lt_t, nI_lt_f, nI_eq_t, nI_eq_f, nI_m1, nI_em1, ↓reduceIte, Nat.add_zero, nI_n9, hT.1, isx, isy, rf1]
      unfold fX7_step_b
      simp (disch := first | assumption | ((repeat apply RefT.s) <;> assumption) | omega) only [nl, nI_add, pk_mul, Option.bind_some, zb2_some, nI_le_t, nI_le_f, nI_lt_t, nI_lt_f, nI_eq_t, nI_eq_f, nI_m1, nI_em1, ↓reduceIte, Nat.add_zero, nI_n9]
    · rw [if_neg c2] at isy ⊢
      by_cases c3 : outI z 8
      · rw [if_pos c3] at pin ⊢
        refine RO_err hR (by omega) ?_
        simp (disch := first | assumption | ((repeat apply RefT.s) <;> assumption) | omega) only [nl, nI_add, pk_mul, Option.bind_some, zb2_some, nI_le_t, nI_le_f, nI_lt_t, nI_lt_f, nI_eq_t, nI_eq_f, nI_m1, nI_em1, ↓reduceIte, Nat.add_zero, nI_n9, hT.1, isx, isy, pin, rf2]
        unfold fX7_step_b
        simp (disch := first | assumption | ((repeat apply RefT.s) <;> assumption) | omega) only [nl, nI_add, pk_mul, Option.bind_some, zb2_some, nI_le_t, nI_le_f, nI_lt_t, nI_lt_f, nI_eq_t, nI_eq_f, nI_m1, nI_em1, ↓reduceIte, Nat.add_zero, nI_n9]
      · rw [if_neg c3] at pin ⊢
        obtain ⟨a, a1, a2, a3⟩ := in_f (by omega) c1
        obtain ⟨b, b1, b2, b3⟩ := in_f (by omega) c2
        obtain ⟨v, v1, v3, v4⟩ := in_f (by omega) c3
        rw [a3, b3, v4]
        have R0 := RI_0 (v := nI 0) hR
        obtain ⟨h2, l1, l2, l3, l4, l5⟩ := r_lay (skip := 4294967287) (u := -9) R0 hA none_no
        have l1' : fX7_layTable (zsI h m 0 (nI 0)) m (m + 15) (nI 4294967287) = some h2 := by rw [← nI_n9]; exact l1
        have hT0 : RefT (zsI h m 0 (nI 0)) m := hT.s
        have hT2 := l2.1
        have hc := acm_ok (skip := 4294967287) hA
        have co : fX7_costOf h2 m (nI a) (nI b) = some (nI (fD 16 (acm0 A) (anf A) a b), h2) := t_cost (h := h2) (I := zI h2) hT2 l3 hc a1 b1
        have le : fD 16 (acm0 A) (anf A) a b ≤ fINF := fD_le hc
        have fi : fINF = 1000000 := rfl
        have dr : nI (fD 16 (acm0 A) (anf A) a b) - nI (fD 16 (acm0 A) (anf A) a b) / nI 16 * nI 16 = nI (fD 16 (acm0 A) (anf A) a b % 16) := pk_rem (by omega) (by omega) (by omega)
        have head : ∀ r, fX7_step_b m (nI a) (nI b) (nI v) (nI 0) (zsI h m 0 (nI 0)) = r → (if zkd h m = 8 then zb2 (fX7_isFormat h m x) fun w1 h2 => if (w1 : Int32) = 0 then zb2 (fX7_refused h2 m 1) fun w4 h5 => fX7_step_b m x y z w4 h5 else zb2 (fX7_isFormat h2 m y) fun w18 h19 => if (w18 : Int32) = 0 then zb2 (fX7_refused h19 m 1) fun w4 h5 => fX7_step_b m x y z w4 h5 else zb2 (fX7_in h19 z.toInt64 0 7) fun w35 h36 => if (w35 : Int32) = 0 then zb2 (fX7_refused h36 m 2) fun w4 h5 => fX7_step_b m x y z w4 h5 else zb2 (fX7_refused h36 m 0) fun w4 h5 => fX7_step_b m x y z w4 h5 else none) = r := fun r e => by
          subst a2
          subst b2
          subst v3
          simp (disch := first | assumption | ((repeat apply RefT.s) <;> assumption) | omega) only [nl, nI_add, pk_mul, Option.bind_some, zb2_some, nI_le_t, nI_le_f, nI_lt_t, nI_lt_f, nI_eq_t, nI_eq_f, nI_m1, nI_em1, ↓reduceIte, Nat.add_zero, nI_n9, hT.1, isx, isy, pin, rf0]
          exact e
        refine ⟨nI (stpV A a b v), h2, head _ ?_, fun _ => rfl, ?_, l2, fr0.tr l4⟩
        · unfold fX7_step_b stpV
          by_cases c : fD 16 (acm0 A) (anf A) a b < fINF
          · by_cases q : v ≤ fD 16 (acm0 A) (anf A) a b % 16
            · have lp : fX7_step_L90 (fun h4 y5 y6 => some (y5, h4)) m (nI a) (nI b) (nI v) zF h2 (nI a) (nI 0) = some (nI (pat (acm0 A) (anf A) b v a), h2) := n_step_L (h := h2) (I := zI h2) (u1 := nI a) hT2 l2.2.2.1.1 l3 hc b1 (by omega) v a 0 zF (by omega) (by unfold zF; omega) a1 c q
              rw [if_pos (show fD 16 (acm0 A) (anf A) a b < fINF ∧ v ≤ pst (acm0 A) (anf A) a b from ⟨c, q⟩)]
              simp (disch := first | assumption | ((repeat apply RefT.s) <;> assumption) | omega) only [nl, nI_add, pk_mul, Option.bind_some, zb2_some, nI_le_t, nI_le_f, nI_lt_t, nI_lt_f, nI_eq_t, nI_eq_f, nI_m1, nI_em1, ↓reduceIte, Nat.add_zero, nI_n9, qg15, l1', co, dr]
              exact lp
            · rw [if_neg (show ¬ (fD 16 (acm0 A) (anf A) a b < fINF ∧ v ≤ pst (acm0 A) (anf A) a b) from fun z => q z.2)]
              simp (disch := first | assumption | ((repeat apply RefT.s) <;> assumption) | omega) only [nl, nI_add, pk_mul, Option.bind_some, zb2_some, nI_le_t, nI_le_f, nI_lt_t, nI_lt_f, nI_eq_t, nI_eq_f, nI_m1, nI_em1, ↓reduceIte, Nat.add_zero, nI_n9, qg15, l1', co, dr]
          · rw [if_neg (show ¬ (fD 16 (acm0 A) (anf A) a b < fINF ∧ v ≤ pst (acm0 A) (anf A) a b) from fun z => c z.1)]
            simp (disch := first | assumption | ((repeat apply RefT.s) <;> assumption) | omega) only [nl, nI_add, pk_mul, Option.bind_some, zb2_some, nI_le_t, nI_le_f, nI_lt_t, nI_lt_f, nI_eq_t, nI_eq_f, nI_m1, nI_em1, ↓reduceIte, Nat.add_zero, nI_n9, qg15, l1', co, dr]
        · rw [l5, sI_at]
end RSTEP
