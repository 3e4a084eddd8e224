/-! pure: the reference's passesBy and between -/
def ppb (cm : Nat → Nat → Nat) (nf b f : Nat) : Nat → Nat → Bool
  | 0, _ => false
  | s + 1, a => decide (pn cm nf a b = f) || ppb cm nf b f s (pn cm nf a b)
section RBETW
variable {h : zH} {m : Nat} {A : zSt}
theorem n_pby_L {nf b f : Nat} {cm : Nat → Nat → Nat} {u1 : Int32} (hT : RefT h m) (h4 : zI h m 4 = nI nf) (ht : rTab (zI h) m nf cm) (hc : cok cm nf) (hb : b < nf) (hf : f < nf) (k : zH → Int32 → Int32 → Option (Int32 × zH)) : ∀ s g (w : Bool) n, g < nf → fD 16 cm nf g b < fINF → pst cm nf g b = s → s < n → fX7_passesBy_L6 k m u1 (nI b) (nI f) n h (nI g) (nI (if w = true then 1 else 0)) = k h (nI b) (nI (if (w || ppb cm nf b f s g) = true then 1 else 0)) := by
  have hn := hc.1
  intro s
  induction s with
  | zero =>
    intro g w n hg hr hs hn'
    obtain ⟨n, rfl⟩ := fuel1 hn'
    have e := (pst_0 hc hg hr).mp hs
    subst e
    rw [fX7_passesBy_L6, if_pos rfl]
    unfold ppb
    rw [Bool.or_false]
  | succ s ih =>
    intro g w n hg hr hs hn'
    obtain ⟨n, rfl⟩ := fuel1 hn'
    have ne : g ≠ b := fun q => by
      have := (pst_0 hc hg hr).mpr q
      omega
    obtain ⟨p1, p2, p3, p4, p5, p6, p7, p8⟩ := pn_step hc hg ne hr
    have e1 : fX7_nextOn h m (nI g) (nI b) = some (zon (pnx cm nf g b nf), h) := t_next (h := h) (I := zI h) hT h4 ht hc hg hb
    rw [p1] at e1
    have z1 : ∀ x, zon (some x) = nI x := fun _ => rfl
    rw [z1] at e1
    have i0 := ih (pn cm nf g b) false n p2 p5 (by omega) (by omega)
    have i1 := ih (pn cm nf g b) true n p2 p5 (by omega) (by omega)
    rw [Bool.true_or] at i1
    rw [Bool.false_or] at i0
    have t1 : (if true = true then 1 else 0 : Nat) = 1 := rfl
    have t0 : (if false = true then 1 else 0 : Nat) = 0 := rfl
    rw [t1] at i1
    rw [t0] at i0
    have pe : ppb cm nf b f (s + 1) g = (decide (pn cm nf g b = f) || ppb cm nf b f s (pn cm nf g b)) := rfl
    rw [fX7_passesBy_L6, pe]
    cases w with
    | true =>
      rw [Bool.true_or, t1]
      simp (disch := first | assumption | ((repeat apply RefT.s) <;> assumption) | omega) only [nl, nI_add, pk_mul, Option.bind_some, zb2_some, nI_le_t, nI_le_f, nI_lt_t, nI_lt_f, nI_eq_t, nI_eq_f, nI_m1, nI_em1, ↓reduceIte, Nat.add_zero, nI_n9, e1, i1]
    | false =>
      rw [Bool.false_or, t0]
      by_cases q : pn cm nf g b = f
      · rw [decide_eq_true q, Bool.true_or, t1]
        simp (disch := first | assumption | ((repeat apply RefT.s) <;> assumption) | omega) only [nl, nI_add, pk_mul, Option.bind_some, zb2_some, nI_le_t, nI_le_f, nI_lt_t, nI_lt_f, nI_eq_t, nI_eq_f, nI_m1, nI_em1, ↓reduceIte, Nat.add_zero, nI_n9, e1, i1]
      · rw [decide_eq_false q, Bool.false_or]
        simp (disch := first | assumption | ((repeat apply RefT.s) <;> assumption) | omega) only [nl, nI_add, pk_mul, Option.bind_some, zb2_some, nI_le_t, nI_le_f, nI_lt_t, nI_lt_f, nI_eq_t, nI_eq_f, nI_m1, nI_em1, ↓reduceIte, Nat.add_zero, nI_n9, e1, i0]
theorem n_pby {nf a b f : Nat} {cm : Nat → Nat → Nat} (hT : RefT h m) (h4 : zI h m 4 = nI nf) (ht : rTab (zI h) m nf cm) (hc : cok cm nf) (ha : a < nf) (hb : b < nf) (hf : f < nf) (hr : fD 16 cm nf a b < fINF) : fX7_passesBy h m (nI a) (nI b) (nI f) = some (nI (if ppb cm nf b f (pst cm nf a b) a = true then 1 else 0), h) := by
  have s7 : pst cm nf a b < 16 := Nat.mod_lt _ (by omega)
  have lp := n_pby_L (u1 := nI a) hT h4 ht hc hb hf (fun h1 y2 y3 => if (y3 : Int32) = 0 ∨ y3 = 1 then some (y3, h1) else none) (pst cm nf a b) a false zF ha hr rfl (by unfold zF; omega)
  rw [Bool.false_or] at lp
  have lp' : fX7_passesBy_L6 (fun h1 y2 y3 => if (y3 : Int32) = 0 ∨ y3 = 1 then some (y3, h1) else none) m (nI a) (nI b) (nI f) zF h (nI a) 0 = some (nI (if ppb cm nf b f (pst cm nf a b) a = true then 1 else 0), h) := by
    refine Eq.trans lp ?_
    cases ppb cm nf b f (pst cm nf a b) a with
    | true => exact if_pos (Or.inr rfl)
    | false => exact if_pos (Or.inl rfl)
  unfold fX7_passesBy
  rw [if_pos hT.1]
  exact lp'
end RBETW
