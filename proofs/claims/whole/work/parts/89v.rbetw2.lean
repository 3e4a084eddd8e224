/-! pure: the reference's between -/
def btwC (A : zSt) (f a b : Nat) : Bool := decide (a ≠ b ∧ a ≠ f ∧ b ≠ f ∧ fD 16 (acm0 A) (anf A) a b < fINF) && ppb (acm0 A) (anf A) b f (pst (acm0 A) (anf A) a b) a
def btwR (A : zSt) (f a n : Nat) : Nat := nsum (fun b => if btwC A f a b = true then 1 else 0) n
def btwV (A : zSt) (f n : Nat) : Nat := nsum (fun a => btwR A f a (anf A)) n
def btwS (A : zSt) (x : Int32) : zAn := if outI x (anf A) then (1, 0, A) else (0, nI (btwV A (cl x) (anf A)), A)
section RBETW2
variable {h : zH} {m : Nat} {A : zSt}
theorem btwR_s {f a b : Nat} : btwR A f a (b + 1) = btwR A f a b + if btwC A f a b = true then 1 else 0 := rfl
theorem btwV_s {f a : Nat} : btwV A f (a + 1) = btwV A f a + btwR A f a (anf A) := rfl
theorem n_btw_I {f a s : Nat} (hT : RefT h m) (h4 : zI h m 4 = nI (anf A)) (ht : rTab (zI h) m (anf A) (acm0 A)) (hc : cok (acm0 A) (anf A)) (hf : f < anf A) (ha : a < anf A) (k : zH → Int32 → Int32 → Option (Int32 × zH)) : ∀ d b n, b + d = anf A → d < n → fX7_between_L47 k m (nI f) (nI a) n h (nI (s + btwR A f a b)) (nI b) = k h (nI (s + btwR A f a (anf A))) (nI (anf A)) := by
  have hn := hc.1
  intro d
  induction d with
  | zero =>
    intro b n hd hn'
    obtain ⟨n, rfl⟩ := fuel1 hn'
    have e : b = anf A := by omega
    rw [fX7_between_L47, e]
    simp (disch := first | assumption | ((repeat apply RefT.s) <;> assumption) | omega) only [nl, nI_add, pk_mul, Option.bind_some, zb2_some, nI_le_t, nI_le_f, nI_lt_t, nI_lt_f, nI_eq_t, nI_eq_f, nI_m1, nI_em1, ↓reduceIte, Nat.add_zero, nI_n9, qI, h4]
  | succ d ih =>
    intro b n hd hn'
    obtain ⟨n, rfl⟩ := fuel1 hn'
    have goal := ih (b + 1) n (by omega) (by omega)
    rw [btwR_s] at goal
    have rd : zaI h (m + 21) (nI (8 * a + b)) = some (nI (fD 16 (acm0 A) (anf A) a b)) := by
      obtain ⟨ot, od, t1, t2⟩ := ht
      rw [qa21 hT (by omega), t1]
      show some (nI (mrow _ ot (8 * a + b))) = _
      rw [mrow_at (by omega) (by omega), fwn_eq (anf A) (by omega) _ _ ha (by omega)]
      rfl
    have le : fD 16 (acm0 A) (anf A) a b ≤ fINF := fD_le hc
    have fi : fINF = 1000000 := rfl
    have no : ¬ (a ≠ b ∧ a ≠ f ∧ b ≠ f ∧ fD 16 (acm0 A) (anf A) a b < fINF) → btwC A f a b = false := fun q => by
      unfold btwC
      rw [decide_eq_false q, Bool.false_and]
    have g0 : btwC A f a b = false → fX7_between_L47 k m (nI f) (nI a) n h (nI (s + btwR A f a b)) (nI (b + 1)) = k h (nI (s + btwR A f a (anf A))) (nI (anf A)) := fun q => by
      rw [q] at goal
      exact goal
    rw [fX7_between_L47]
    by_cases c1 : a = b
    · have g := g0 (no fun q => q.1 c1)
      have c1' : (nI a = nI b) = True := nI_eq_t c1
      simp (disch := first | assumption | ((repeat apply RefT.s) <;> assumption) | omega) only [nl, nI_add, pk_mul, Option.bind_some, zb2_some, nI_le_t, nI_le_f, nI_lt_t, nI_lt_f, nI_eq_t, nI_eq_f, nI_m1, nI_em1, ↓reduceIte, Nat.add_zero, nI_n9, qI, h4, c1', Nat.add_zero, g]
    · have c1' : (nI a = nI b) = False := nI_eq_f c1 (by omega) (by omega)
      by_cases c2 : a = f
      · have g := g0 (no fun q => q.2.1 c2)
        have c2' : (nI a = nI f) = True := nI_eq_t c2
        simp (disch := first | assumption | ((repeat apply RefT.s) <;> assumption) | omega) only [nl, nI_add, pk_mul, Option.bind_some, zb2_some, nI_le_t, nI_le_f, nI_lt_t, nI_lt_f, nI_eq_t, nI_eq_f, nI_m1, nI_em1, ↓reduceIte, Nat.add_zero, nI_n9, qI, h4, c1', c2', Nat.add_zero, g]
      · have c2' : (nI a = nI f) = False := nI_eq_f c2 (by omega) (by omega)
        by_cases c3 : b = f
        · have g := g0 (no fun q => q.2.2.1 c3)
          have c3' : (nI b = nI f) = True := nI_eq_t c3
          simp (disch := first | assumption | ((repeat apply RefT.s) <;> assumption) | omega) only [nl, nI_add, pk_mul, Option.bind_some, zb2_some, nI_le_t, nI_le_f, nI_lt_t, nI_lt_f, nI_eq_t, nI_eq_f, nI_m1, nI_em1, ↓reduceIte, Nat.add_zero, nI_n9, qI, h4, c1', c2', c3', Nat.add_zero, g]
        · have c3' : (nI b = nI f) = False := nI_eq_f c3 (by omega) (by omega)
          by_cases c4 : fD 16 (acm0 A) (anf A) a b < fINF
          · have pb := n_pby hT h4 ht hc ha (show b < anf A by omega) hf c4
            have be : btwC A f a b = ppb (acm0 A) (anf A) b f (pst (acm0 A) (anf A) a b) a := by
              unfold btwC
              rw [decide_eq_true (show a ≠ b ∧ a ≠ f ∧ b ≠ f ∧ fD 16 (acm0 A) (anf A) a b < fINF from ⟨c1, c2, c3, c4⟩), Bool.true_and]
            rw [be] at goal
            by_cases q : ppb (acm0 A) (anf A) b f (pst (acm0 A) (anf A) a b) a = true
            · rw [if_pos q] at pb goal
              rw [← Nat.add_assoc] at goal
              simp (disch := first | assumption | ((repeat apply RefT.s) <;> assumption) | omega) only [nl, nI_add, pk_mul, Option.bind_some, zb2_some, nI_le_t, nI_le_f, nI_lt_t, nI_lt_f, nI_eq_t, nI_eq_f, nI_m1, nI_em1, ↓reduceIte, Nat.add_zero, nI_n9, qI, h4, c1', c2', c3', qg21, rd, pb, goal]
            · rw [if_neg q] at pb goal
              rw [Nat.add_zero] at goal
              simp (disch := first | assumption | ((repeat apply RefT.s) <;> assumption) | omega) only [nl, nI_add, pk_mul, Option.bind_some, zb2_some, nI_le_t, nI_le_f, nI_lt_t, nI_lt_f, nI_eq_t, nI_eq_f, nI_m1, nI_em1, ↓reduceIte, Nat.add_zero, nI_n9, qI, h4, c1', c2', c3', qg21, rd, pb, Nat.add_zero, goal]
          · have g := g0 (no fun q => c4 q.2.2.2)
            simp (disch := first | assumption | ((repeat apply RefT.s) <;> assumption) | omega) only [nl, nI_add, pk_mul, Option.bind_some, zb2_some, nI_le_t, nI_le_f, nI_lt_t, nI_lt_f, nI_eq_t, nI_eq_f, nI_m1, nI_em1, ↓reduceIte, Nat.add_zero, nI_n9, qI, h4, c1', c2', c3', qg21, rd, Nat.add_zero, g]
theorem n_btw_L {f : Nat} (hT : RefT h m) (h4 : zI h m 4 = nI (anf A)) (ht : rTab (zI h) m (anf A) (acm0 A)) (hc : cok (acm0 A) (anf A)) (hf : f < anf A) : ∀ d a n, a + d = anf A → d < n → fX7_between_L36 (fun h1 y2 y3 => some (y2, h1)) m (nI f) n h (nI (btwV A f a)) (nI a) = some (nI (btwV A f (anf A)), h) := by
  have hn := hc.1
  intro d
  induction d with
  | zero =>
    intro a n hd hn'
    obtain ⟨n, rfl⟩ := fuel1 hn'
    have e : a = anf A := by omega
    rw [fX7_between_L36, e]
    simp (disch := first | assumption | ((repeat apply RefT.s) <;> assumption) | omega) only [nl, nI_add, pk_mul, Option.bind_some, zb2_some, nI_le_t, nI_le_f, nI_lt_t, nI_lt_f, nI_eq_t, nI_eq_f, nI_m1, nI_em1, ↓reduceIte, Nat.add_zero, nI_n9, qI, h4]
  | succ d ih =>
    intro a n hd hn'
    obtain ⟨n, rfl⟩ := fuel1 hn'
    have goal := ih (a + 1) n (by omega) (by omega)
    rw [btwV_s] at goal
    have inn : ∀ k : zH → Int32 → Int32 → Option (Int32 × zH), fX7_between_L47 k m (nI f) (nI a) zF h (nI (btwV A f a)) (nI 0) = k h (nI (btwV A f a + btwR A f a (anf A))) (nI (anf A)) := fun k => n_btw_I (s := btwV A f a) hT h4 ht hc hf (by omega) k (anf A) 0 zF (by omega) (by unfold zF; omega)
    rw [fX7_between_L36]
    simp (disch := first | assumption | ((repeat apply RefT.s) <;> assumption) | omega) only [nl, nI_add, pk_mul, Option.bind_some, zb2_some, nI_le_t, nI_le_f, nI_lt_t, nI_lt_f, nI_eq_t, nI_eq_f, nI_m1, nI_em1, ↓reduceIte, Nat.add_zero, nI_n9, qI, h4, inn, goal]
theorem r_btw {t : Nat} (hR : RI h m A) (hA : AI t A) (x : Int32) : RO h m (fX7_between h m x) (btwS A x) := by
  have hT := hR.1
  have n8 := hA.2.1.1.1
  have isx : fX7_isFormat h m x = some (if x < 0 ∨ nI (anf A) ≤ x then 0 else 1, h) := m_isFormat (h := h) (I := zI h) hT.1 hR.2.2.1.1 n8 x
  have rf1 := r_ref (k := 1) hT (by omega)
  have rf0 := r_ref (k := 0) hT (by omega)
  rw [if_neg (by decide)] at rf1
  rw [if_pos rfl] at rf0
  unfold btwS
  by_cases c1 : outI x (anf A)
  · rw [if_pos c1] at isx ⊢
    refine RO_err hR (by omega) ?_
    unfold fX7_between
    simp (disch := first | assumption | ((repeat apply RefT.s) <;> assumption) | omega) only [nl, nI_add, pk_mul, Option.bind_some, zb2_some, nI_le_t, nI_le_f, nI_lt_t, nI_lt_f, nI_eq_t, nI_eq_f, nI_m1, nI_em1, ↓reduceIte, Nat.add_zero, nI_n9, hT.1, isx, rf1]
  · rw [if_neg c1] at isx ⊢
    obtain ⟨a, a1, a2, a3⟩ := in_f (by omega) c1
    rw [a3]
    have R0 := RI_0 (v := nI 0) hR
    have hT0 : RefT (zsI h m 0 (nI 0)) m := hT.s
    obtain ⟨h2, l1, l2, l3, l4, l5⟩ := r_lay (skip := 4294967287) (u := -9) R0 hA none_no
    have l1' : fX7_layTable (zsI h m 0 (nI 0)) m (m + 15) (nI 4294967287) = some h2 := by rw [← nI_n9]; exact l1
    have hc := acm_ok (skip := 4294967287) hA
    have lp : fX7_between_L36 (fun h1 y2 y3 => some (y2, h1)) m (nI a) zF h2 (nI 0) (nI 0) = some (nI (btwV A a (anf A)), h2) := n_btw_L l2.1 l2.2.2.1.1 l3 hc a1 (anf A) 0 zF (by omega) (by unfold zF; omega)
    refine ⟨nI (btwV A a (anf A)), h2, ?_, fun _ => rfl, ?_, l2, fr0.tr l4⟩
    · subst a2
      unfold fX7_between
      simp (disch := first | assumption | ((repeat apply RefT.s) <;> assumption) | omega) only [nl, nI_add, pk_mul, Option.bind_some, zb2_some, nI_le_t, nI_le_f, nI_lt_t, nI_lt_f, nI_eq_t, nI_eq_f, nI_m1, nI_em1, ↓reduceIte, Nat.add_zero, nI_n9, hT.1, isx, rf0, qg15, l1']
      exact lp
    · rw [l5, sI_at]
end RBETW2
