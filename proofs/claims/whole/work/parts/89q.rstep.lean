/-! pure: the reference's step -/
def fX7_step_b (a0 : Nat) (a1 a2 a3 : Int32) (w4 : Int32) (h5 : zH) : Option (Int32 × zH) :=
    if (w4 : Int32) = 0 then
    (zgP h5 7 a0 24).bind fun w7 =>
    (fX7_layTable h5 (a0) (w7) ((-9))).bind fun h8 =>
    zb2 (fX7_costOf h8 (a0) (a1) (a2)) fun w9 h10 =>
    if (1000000 : Int32) ≤ w9 then
    some ((-9), h10)
    else
    zb2 (fX7_costOf h10 (a0) (a1) (a2)) fun w12 h13 =>
    if (a3 : Int32) ≤ ((w12 : Int32) - w12 / 16 * 16) then
    fX7_step_L90 (fun h15 y16 y17 => some (y16, h15)) (a0) (a1) (a2) (a3) zF h13 (a1) (0)
    else
    some ((-9), h13)
    else
    some (0, h5)
theorem fX7_step_e {h : zH} {a0 : Nat} {a1 : Int32} {a2 : Int32} {a3 : Int32} : fX7_step h a0 a1 a2 a3 = (
    if zkd h a0 = 8 then
    zb2 (fX7_isFormat h (a0) (a1)) fun w1 h2 =>
    if (w1 : Int32) = 0 then
    zb2 (fX7_refused h2 (a0) (1)) fun w4 h5 => fX7_step_b a0 a1 a2 a3 w4 h5
    else
    zb2 (fX7_isFormat h2 (a0) (a2)) fun w18 h19 =>
    if (w18 : Int32) = 0 then
    zb2 (fX7_refused h19 (a0) (1)) fun w4 h5 => fX7_step_b a0 a1 a2 a3 w4 h5
    else
    zb2 (fX7_in h19 ((a3 : Int32).toInt64) (0) (7)) fun w35 h36 =>
    if (w35 : Int32) = 0 then
    zb2 (fX7_refused h36 (a0) (2)) fun w4 h5 => fX7_step_b a0 a1 a2 a3 w4 h5
    else
    zb2 (fX7_refused h36 (a0) (0)) fun w4 h5 => fX7_step_b a0 a1 a2 a3 w4 h5
    else none) := rfl
def stpV (A : zSt) (a b x : Nat) : Nat := if fD 16 (acm0 A) (anf A) a b < fINF ∧ x ≤ pst (acm0 A) (anf A) a b then pat (acm0 A) (anf A) b x a else 4294967287
def stpS (A : zSt) (x y z : Int32) : zAn := if outI x (anf A) then (1, 0, A) else if outI y (anf A) then (1, 0, A) else if outI z 8 then (2, 0, A) else (0, nI (stpV A (cl x) (cl y) (cl z)), A)
section RSTEP
variable {h h' : zH} {m : Nat} {A : zSt}
theorem n_step_L {I : Nat → Nat → Int32} {nf b x : Nat} {cm : Nat → Nat → Nat} {u1 : Int32} (hT : RefT h m) (h4 : I m 4 = nI nf) (ht : rTab I m nf cm) (hc : cok cm nf) (hb : b < nf) (hx : x ≤ 7) : ∀ d f i n, i + d = x → d < n → f < nf → fD 16 cm nf f b < fINF → d ≤ pst cm nf f b → fX7_step_L90 (fun h4 y5 y6 => some (y5, h4)) m u1 (nI b) (nI x) n (zw h I) (nI f) (nI i) = some (nI (pat cm nf b d f), zw h I) := by
  have hn := hc.1
  intro d
  induction d with
  | zero =>
    intro f i n hd hn' hf' hr hp
    obtain ⟨n, rfl⟩ := fuel1 hn'
    rw [fX7_step_L90]
    simp (disch := first | assumption | omega) only [nl, nI_add, pk_mul, Option.bind_some, zb2_some, zz_at, zz_zz, zz_ne, nr_at, up_n, zaIw, zbIw, zgIw, zpIw, nI_le_t, nI_le_f, nI_lt_t, nI_lt_f, nI_eq_t, nI_eq_f, ↓reduceIte, zw_kd, zw_ln, zw_P, zw_I, nI_n9, Nat.add_zero, rgI hT, rpI hT, rkd hT]
    rfl
  | succ d ih =>
    intro f i n hd hn' hf' hr hp
    obtain ⟨n, rfl⟩ := fuel1 hn'
    have ne : f ≠ b := fun q => by
      have := (pst_0 hc hf' hr).mpr q
      omega
    obtain ⟨p1, p2, p3, p4, p5, p6, p7, p8⟩ := pn_step hc hf' ne hr
    have goal := ih (pn cm nf f b) (i + 1) n (by omega) (by omega) p2 p5 (by omega)
    have e1 := t_next hT h4 ht hc hf' hb
    rw [p1] at e1
    have z1 : ∀ x, zon (some x) = nI x := fun _ => rfl
    rw [z1] at e1
    rw [fX7_step_L90]
    simp (disch := first | assumption | omega) only [nl, nI_add, pk_mul, Option.bind_some, zb2_some, zz_at, zz_zz, zz_ne, nr_at, up_n, zaIw, zbIw, zgIw, zpIw, nI_le_t, nI_le_f, nI_lt_t, nI_lt_f, nI_eq_t, nI_eq_f, ↓reduceIte, zw_kd, zw_ln, zw_P, zw_I, nI_n9, Nat.add_zero, rgI hT, rpI hT, rkd hT, e1, goal]
    rfl
end RSTEP
