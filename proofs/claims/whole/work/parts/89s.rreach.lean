/-! pure: the reference's reachable and idle -/
def rchP (A : zSt) (a : Nat) (f : Nat) : Bool := decide (fD 16 (acm0 A) (anf A) a f < fINF)
def rchS (A : zSt) (x : Int32) : zAn := if outI x (anf A) then (1, 0, A) else (0, nI (bsm (rchP A (cl x)) (anf A)), A)
def idlP (A : zSt) (c : Nat) : Bool := decide (worV A c < aρ A (4 + c))
def idlS (A : zSt) : zAn := (0, nI (bsm (idlP A) (anc A)), A)
section RREACH
variable {h h' : zH} {m : Nat} {A : zSt}
theorem n_rch_L {a : Nat} (hT : RefT h m) (h4 : zI h m 4 = nI (anf A)) (ht : rTab (zI h) m (anf A) (acm0 A)) (hc : cok (acm0 A) (anf A)) (ha : a < anf A) : ∀ d f n, f + d = anf A → d < n → fX7_reachable_L36 (fun h1 y2 y3 => some (y2, h1)) m (nI a) n h (nI (bsm (rchP A a) f)) (nI f) = some (nI (bsm (rchP A a) (anf A)), h) := by
  have hn := hc.1
  intro d
  induction d with
  | zero =>
    intro f n hd hn'
    obtain ⟨n, rfl⟩ := fuel1 hn'
    have e : f = anf A := by omega
    rw [fX7_reachable_L36, e]
    simp (disch := first | assumption | ((repeat apply RefT.s) <;> assumption) | omega) only [nl, nI_add, pk_mul, Option.bind_some, zb2_some, nI_le_t, nI_le_f, nI_lt_t, nI_lt_f, nI_eq_t, nI_eq_f, nI_m1, nI_em1, ↓reduceIte, Nat.add_zero, nI_n9, qI, h4]
  | succ d ih =>
    intro f n hd hn'
    obtain ⟨n, rfl⟩ := fuel1 hn'
    have goal := ih (f + 1) n (by omega) (by omega)
    have co : fX7_costOf h m (nI a) (nI f) = some (nI (fD 16 (acm0 A) (anf A) a f), h) := t_cost (h := h) (I := zI h) hT ht hc ha (by omega)
    have le : fD 16 (acm0 A) (anf A) a f ≤ fINF := fD_le hc
    have fi : fINF = 1000000 := rfl
    have ob := or_bsm (p := rchP A a) (n := f) (by omega)
    rw [fX7_reachable_L36]
    by_cases q : fD 16 (acm0 A) (anf A) a f < fINF
    · have pq : rchP A a f = true := decide_eq_true q
      rw [if_pos pq] at ob
      simp (disch := first | assumption | ((repeat apply RefT.s) <;> assumption) | omega) only [nl, nI_add, pk_mul, Option.bind_some, zb2_some, nI_le_t, nI_le_f, nI_lt_t, nI_lt_f, nI_eq_t, nI_eq_f, nI_m1, nI_em1, ↓reduceIte, Nat.add_zero, nI_n9, qI, h4, co, ob, goal]
    · have pq : ¬ rchP A a f = true := fun z => q (of_decide_eq_true z)
      rw [if_neg pq] at ob
      simp (disch := first | assumption | ((repeat apply RefT.s) <;> assumption) | omega) only [nl, nI_add, pk_mul, Option.bind_some, zb2_some, nI_le_t, nI_le_f, nI_lt_t, nI_lt_f, nI_eq_t, nI_eq_f, nI_m1, nI_em1, ↓reduceIte, Nat.add_zero, nI_n9, qI, h4, co, ob, goal]
theorem r_rch {t : Nat} (hR : RI h m A) (hA : AI t A) (x : Int32) : RO h m (fX7_reachable h m x) (rchS A x) := by
  have hT := hR.1
  have n8 := hA.2.1.1.1
  have isx : fX7_isFormat h m x = some (if x < 0 ∨ nI (anf A) ≤ x then 0 else 1, h) := m_isFormat (h := h) (I := zI h) hT.1 hR.2.2.1.1 n8 x
  have rf1 := r_ref (k := 1) hT (by omega)
  have rf0 := r_ref (k := 0) hT (by omega)
  rw [if_neg (by decide)] at rf1
  rw [if_pos rfl] at rf0
  unfold rchS
  by_cases c1 : outI x (anf A)
  · rw [if_pos c1] at isx ⊢
    refine RO_err hR (by omega) ?_
    unfold fX7_reachable
    simp (disch := first | assumption | ((repeat apply RefT.s) <;> assumption) | omega) only [nl, nI_add, pk_mul, Option.bind_some, zb2_some, nI_le_t, nI_le_f, nI_lt_t, nI_lt_f, nI_eq_t, nI_eq_f, nI_m1, nI_em1, ↓reduceIte, Nat.add_zero, nI_n9, hT.1, isx, rf1]
  · rw [if_neg c1] at isx ⊢
    obtain ⟨a, a1, a2, a3⟩ := in_f (by omega) c1
    rw [a3]
    have R0 := RI_0 (v := nI 0) hR
    have hT0 : RefT (zsI h m 0 (nI 0)) m := hT.s
    obtain ⟨h2, l1, l2, l3, l4, l5⟩ := r_lay (skip := 4294967287) (u := -9) R0 hA none_no
    have l1' : fX7_layTable (zsI h m 0 (nI 0)) m (m + 15) (nI 4294967287) = some h2 := by rw [← nI_n9]; exact l1
    have hc := acm_ok (skip := 4294967287) hA
    have lp : fX7_reachable_L36 (fun h1 y2 y3 => some (y2, h1)) m (nI a) zF h2 (nI 0) (nI 0) = some (nI (bsm (rchP A a) (anf A)), h2) := n_rch_L l2.1 l2.2.2.1.1 l3 hc a1 (anf A) 0 zF (by omega) (by unfold zF; omega)
    refine ⟨nI (bsm (rchP A a) (anf A)), h2, ?_, fun _ => rfl, ?_, l2, fr0.tr l4⟩
    · subst a2
      unfold fX7_reachable
      simp (disch := first | assumption | ((repeat apply RefT.s) <;> assumption) | omega) only [nl, nI_add, pk_mul, Option.bind_some, zb2_some, nI_le_t, nI_le_f, nI_lt_t, nI_lt_f, nI_eq_t, nI_eq_f, nI_m1, nI_em1, ↓reduceIte, Nat.add_zero, nI_n9, hT.1, isx, rf0, qg15, l1']
      exact lp
    · rw [l5, sI_at]
end RREACH
