/-! pure: the reference's text calls and numbers -/
def errV (A : zSt) : Int32 := match ptext (aT A) (an A) with
  | .inl p => nI p
  | .inr _ => nI 4294967287
def errS (A : zSt) : zAn := (0, errV A, A)
def abtV (A : zSt) (k : Nat) : Nat := if k = 0 then anf A else if k = 1 then anc A else if k = 2 then anp A else if k = 3 then aρ A 0 else if k = 4 then aρ A 3 else if k = 5 then nus (aρ A) (aρ A 0) else if k = 6 then aρ A 1 else aρ A 2
def abtS (A : zSt) (x : Int32) : zAn := if outI x 8 then (1, 0, A) else (0, nI (abtV A (cl x)), A)
def cvV (A : zSt) (c k : Nat) : Nat := if k = 0 then afr A c else if k = 1 then att A c else if k = 2 then aρ A (4 + c) else if k = 3 then agr A c else alo A c
def cvS (A : zSt) (x y : Int32) : zAn := if outI x (anc A) then (1, 0, A) else if outI y 5 then (2, 0, A) else (0, nI (cvV A (cl x) (cl y)), A)
def plV (A : zSt) (p k : Nat) : Nat := if k = 0 then aac A p else ali A p
def plS (A : zSt) (x y : Int32) : zAn := if outI x (anp A) then (1, 0, A) else if outI y 2 then (2, 0, A) else (0, nI (plV A (cl x) (cl y)), A)
section RGET2
variable {h h' : zH} {m : Nat} {A : zSt}
theorem any_nI (v : Int32) : ∃ s, v = nI s := by
  obtain ⟨ρ, e, -⟩ := nr_all (fun _ => v)
  exact ⟨ρ 0, congrFun e 0⟩
theorem RI_rtg (hR : RI h m A) (f : RTG m h h') : RI h' m A := by
  obtain ⟨-, -, -, -, -, -, -, -, s1, s2, s3, s4, s5⟩ := id hR
  obtain ⟨f1, f2, f3, f4, f5, f6⟩ := f
  refine RI_keep hR f1 f2 (by rw [f4]) (fun a ha => f5 a (by omega) (by omega)) (fun k hk => f6 k (by omega) (by omega)) ?_
  unfold Scr
  rw [f5 (m + 16) (by omega) (by omega), f5 (m + 17) (by omega) (by omega), f5 (m + 23) (by omega) (by omega), f5 (m + 21) (by omega) (by omega), f5 (m + 22) (by omega) (by omega)]
  exact ⟨s1, s2, s3, s4, s5⟩
theorem fr_rtg (f : RTG m h h') : Fr m (m + 24) h h' := ⟨f.1, f.2.1, f.2.2.1, fun a ha => ⟨f.2.2.2.2.1 a (by omega) (by omega), by rw [f.2.2.2.1]⟩⟩
theorem r_err {t : Nat} (hR : RI h m A) (hA : AI t A) : RO h m (fX7_errorPosition h m) (errS A) := by
  have hT := hR.1
  have R0 := RI_0 (v := nI 0) hR
  have hT0 : RefT (zsI h m 0 (nI 0)) m := hT.s
  obtain ⟨s, hs⟩ := any_nI (zI (zsI h m 0 (nI 0)) m 3)
  have X : RX (zsI h m 0 (nI 0)) m (aT A) (an A) s := ⟨hT0, R0.2.1.1, hs, R0.2.1.2⟩
  have R := r_text X hA.1
  have key : ∀ v h2, fX7_readText (zsI h m 0 (nI 0)) m = some (v, h2) → RTG m (zsI h m 0 (nI 0)) h2 → v = errV A → RO h m (fX7_errorPosition h m) (errS A) := fun v h2 e1 e2 e3 => by
    refine ⟨v, h2, ?_, fun _ => e3, ?_, RI_rtg R0 e2, fr0.tr (fr_rtg e2)⟩
    · unfold fX7_errorPosition
      simp (disch := first | assumption | ((repeat apply RefT.s) <;> assumption) | omega) only [nl, nI_add, pk_mul, Option.bind_some, zb2_some, nI_le_t, nI_le_f, nI_lt_t, nI_lt_f, nI_eq_t, nI_eq_f, nI_m1, nI_em1, ↓reduceIte, Nat.add_zero, nI_n9, hT.1, qp, e1]
    · rw [e2.2.2.2.2.2 0 (by omega) (by omega), sI_at]
      rfl
  have ev : errV A = match ptext (aT A) (an A) with
    | .inl p => nI p
    | .inr _ => nI 4294967287 := rfl
  cases hp : ptext (aT A) (an A) with
  | inl p =>
    rw [hp] at R ev
    obtain ⟨h2, e1, e2⟩ := R
    exact key _ h2 e1 e2 ev.symm
  | inr w =>
    obtain ⟨f, bu, B⟩ := w
    rw [hp] at R ev
    obtain ⟨h2, e1, -, -, e2⟩ := R
    exact key _ h2 e1 e2 ev.symm
theorem r_clr (hR : RI h m A) : RO h m (fX7_clearText h m) (clrS A) := by
  obtain ⟨hT, ⟨r2, r3⟩, r4, r5, r6, r7, r8, r9, s1, s2, s3, s4, s5⟩ := id hR
  have hT1 : RefT (zsI h m 0 (nI 0)) m := hT.s
  have hT2 : RefT (zsI (zsI h m 0 (nI 0)) m 2 (nI 0)) m := hT1.s
  have i2 : zI (zsI h m 0 (nI 0)) m 2 = nI (an A) := by rw [sI_k (by omega)]; exact r2
  have o : ∀ a, a ≠ m → zI (zsI (zsI h m 0 (nI 0)) m 2 (nI 0)) a = zI h a := fun a h1 => by rw [sI_a h1, sI_a h1]
  have om : ∀ j, j ≠ 0 → j ≠ 2 → zI (zsI (zsI h m 0 (nI 0)) m 2 (nI 0)) m j = zI h m j := fun j h0 h1 => by rw [sI_k h1, sI_k h0]
  refine ⟨nI (an A), zsI (zsI h m 0 (nI 0)) m 2 (nI 0), ?_, fun _ => rfl, by rw [sI_k (by omega), sI_at]; rfl, ?_, ⟨rfl, rfl, rfl, fun a ha => ⟨o a (by omega), rfl⟩⟩⟩
  · unfold fX7_clearText
    simp (disch := first | assumption | ((repeat apply RefT.s) <;> assumption) | omega) only [nl, nI_add, pk_mul, Option.bind_some, zb2_some, nI_le_t, nI_le_f, nI_lt_t, nI_lt_f, nI_eq_t, nI_eq_f, nI_m1, nI_em1, ↓reduceIte, Nat.add_zero, nI_n9, hT.1, qp, qI, i2]
  · refine ⟨hT2, ⟨sI_at, fun i hi => absurd hi (Nat.not_lt_zero _)⟩, ?_, by rw [o _ (by omega)]; exact r5, by rw [om 28 (by omega) (by omega)]; exact r6, fun i hi j hj => by rw [o _ (by omega)]; exact r7 i hi j hj, fun i hi => by rw [o _ (by omega)]; exact r8 i hi, fun i hi f j hj => by rw [o _ (by omega)]; exact r9 i hi f j hj, ?_⟩
    · unfold RBd
      rw [om 4 (by omega) (by omega), om 5 (by omega) (by omega), om 6 (by omega) (by omega), o (m + 2) (by omega), o (m + 3) (by omega), o (m + 4) (by omega), o (m + 5) (by omega), o (m + 6) (by omega), o (m + 7) (by omega)]
      exact r4
    · unfold Scr
      rw [o _ (by omega), o _ (by omega), o _ (by omega), o _ (by omega), o _ (by omega)]
      exact ⟨s1, s2, s3, s4, s5⟩
theorem r_abt {t : Nat} (hR : RI h m A) (hA : AI t A) (x : Int32) : RO h m (fX7_about h m x) (abtS A x) := by
  obtain ⟨hT, ⟨r2, r3⟩, ⟨r4, r4b, r4c, -⟩, r5, r6, r7, r8, r9, s1, s2, s3, s4, s5⟩ := id hR
  have pin : fX7_in h x.toInt64 0 7 = some (if x < 0 ∨ nI 8 ≤ x then 0 else 1, h) := p_in0 h x (c := 8) (by omega)
  unfold abtS
  by_cases c1 : outI x 8
  · rw [if_pos c1] at pin ⊢
    have rf := r_ref (k := 1) hT (by omega)
    rw [if_neg (by decide)] at rf
    refine RO_err hR (by omega) ?_
    unfold fX7_about
    simp (disch := first | assumption | ((repeat apply RefT.s) <;> assumption) | omega) only [nl, nI_add, pk_mul, Option.bind_some, zb2_some, nI_le_t, nI_le_f, nI_lt_t, nI_lt_f, nI_eq_t, nI_eq_f, nI_m1, nI_em1, ↓reduceIte, Nat.add_zero, nI_n9, hT.1, pin, rf]
  · rw [if_neg c1] at pin ⊢
    obtain ⟨k, f1, f2, f3⟩ := in_f (by omega) c1
    rw [f3]
    have rf := r_ref (k := 0) hT (by omega)
    rw [if_pos rfl] at rf
    have hT1 : RefT (zsI h m 0 (nI 0)) m := hT.s
    have e4 : zI (zsI h m 0 (nI 0)) m 4 = nI (anf A) := by rw [sI_k (by omega)]; exact r4
    have e5 : zI (zsI h m 0 (nI 0)) m 5 = nI (anc A) := by rw [sI_k (by omega)]; exact r4b
    have e6 : zI (zsI h m 0 (nI 0)) m 6 = nI (anp A) := by rw [sI_k (by omega)]; exact r4c
    have e15 : zI (zsI h m 0 (nI 0)) (m + 15) = nr (aρ A) := by rw [sI_a (by omega)]; exact r5
    have rd : ∀ j, j < 360 → zaI (zsI h m 0 (nI 0)) (m + 15) (nI j) = some (nI (aρ A j)) := fun j hj => by rw [qa15 hT1 hj, e15]; rfl
    have us : fX7_used (zsI h m 0 (nI 0)) (m + 15) = some (nI (nus (aρ A) (aρ A 0)), zsI h m 0 (nI 0)) := n_used (h := zsI h m 0 (nI 0)) (I := zI (zsI h m 0 (nI 0))) (rk15 hT1) (rl15 hT1) e15 hA.2.2.1.1.1.1
    refine RO_get hR ?_
    subst f2
    unfold fX7_about
    match k, f1 with
    | 0, _ => simp (disch := first | assumption | ((repeat apply RefT.s) <;> assumption) | omega) only [nl, nI_add, pk_mul, Option.bind_some, zb2_some, nI_le_t, nI_le_f, nI_lt_t, nI_lt_f, nI_eq_t, nI_eq_f, nI_m1, nI_em1, ↓reduceIte, Nat.add_zero, nI_n9, hT.1, pin, rf, qI, e4]; rfl
    | 1, _ => simp (disch := first | assumption | ((repeat apply RefT.s) <;> assumption) | omega) only [nl, nI_add, pk_mul, Option.bind_some, zb2_some, nI_le_t, nI_le_f, nI_lt_t, nI_lt_f, nI_eq_t, nI_eq_f, nI_m1, nI_em1, ↓reduceIte, Nat.add_zero, nI_n9, hT.1, pin, rf, qI, e5]; rfl
    | 2, _ => simp (disch := first | assumption | ((repeat apply RefT.s) <;> assumption) | omega) only [nl, nI_add, pk_mul, Option.bind_some, zb2_some, nI_le_t, nI_le_f, nI_lt_t, nI_lt_f, nI_eq_t, nI_eq_f, nI_m1, nI_em1, ↓reduceIte, Nat.add_zero, nI_n9, hT.1, pin, rf, qI, e6]; rfl
    | 3, _ => simp (disch := first | assumption | ((repeat apply RefT.s) <;> assumption) | omega) only [nl, nI_add, pk_mul, Option.bind_some, zb2_some, nI_le_t, nI_le_f, nI_lt_t, nI_lt_f, nI_eq_t, nI_eq_f, nI_m1, nI_em1, ↓reduceIte, Nat.add_zero, nI_n9, hT.1, pin, rf, qg15, rd]; rfl
    | 4, _ => simp (disch := first | assumption | ((repeat apply RefT.s) <;> assumption) | omega) only [nl, nI_add, pk_mul, Option.bind_some, zb2_some, nI_le_t, nI_le_f, nI_lt_t, nI_lt_f, nI_eq_t, nI_eq_f, nI_m1, nI_em1, ↓reduceIte, Nat.add_zero, nI_n9, hT.1, pin, rf, qg15, rd]; rfl
    | 5, _ => simp (disch := first | assumption | ((repeat apply RefT.s) <;> assumption) | omega) only [nl, nI_add, pk_mul, Option.bind_some, zb2_some, nI_le_t, nI_le_f, nI_lt_t, nI_lt_f, nI_eq_t, nI_eq_f, nI_m1, nI_em1, ↓reduceIte, Nat.add_zero, nI_n9, hT.1, pin, rf, qg15, us]; rfl
    | 6, _ => simp (disch := first | assumption | ((repeat apply RefT.s) <;> assumption) | omega) only [nl, nI_add, pk_mul, Option.bind_some, zb2_some, nI_le_t, nI_le_f, nI_lt_t, nI_lt_f, nI_eq_t, nI_eq_f, nI_m1, nI_em1, ↓reduceIte, Nat.add_zero, nI_n9, hT.1, pin, rf, qg15, rd]; rfl
    | 7, _ => simp (disch := first | assumption | ((repeat apply RefT.s) <;> assumption) | omega) only [nl, nI_add, pk_mul, Option.bind_some, zb2_some, nI_le_t, nI_le_f, nI_lt_t, nI_lt_f, nI_eq_t, nI_eq_f, nI_m1, nI_em1, ↓reduceIte, Nat.add_zero, nI_n9, hT.1, pin, rf, qg15, rd]; rfl
end RGET2
