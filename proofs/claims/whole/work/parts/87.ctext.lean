/-! pure: the component reads signs and numbers -/
def CSh (h : zH) (x : Nat) : Prop := zkd h x = 5 ∧ zP h x 0 = x + 1 ∧ zkd h (x + 1) = 9 ∧ zln h (x + 1) = 160
def CX (h : zH) (x : Nat) (T : zN') (n s : Nat) : Prop := CSh h x ∧ zI h x 1 = nI n ∧ zI h x 2 = nI s ∧ ∀ i, i < n → zI h (x + 1) i = nI (T i)
section CTEXT
variable {h : zH} {x n s : Nat} {T : zN'}
theorem CSh.w {a k : Nat} {v : Int32} (hs : CSh h x) : CSh (zsI h a k v) x := hs
theorem CX.sp {p : Nat} (hX : CX h x T n s) : CX (zsI h x 2 (nI p)) x T n p := ⟨hX.1.w, by rw [sI_k (by omega)]; exact hX.2.1, sI_at, fun i hi => by rw [sI_a (by omega)]; exact hX.2.2.2 i hi⟩
theorem k_sign (hX : CX h x T n s) (ht : txt T n) (hs : s ≤ n) : fX4_shownSign h x = some (nI (if s < n then T s else 4294967295), h) := by
  obtain ⟨⟨k1, p1, k2, l2⟩, x1, x2, xt⟩ := hX
  obtain ⟨t1, t2⟩ := ht
  have gp : zgP h 4 x 0 = some (x + 1) := gP_ k1 p1 (by omega)
  unfold fX4_shownSign
  by_cases c : s < n
  · have xs := xt s c
    have ra : zaI h (x + 1) (nI s) = some (nI (T s)) := by rw [aI_ k2 (by omega) (by omega), xs]
    rw [if_pos c]
    simp (disch := first | assumption | (simp only [sI_kd, sP_kd, rw_kd, sI_ln, sP_ln, rw_ln] <;> first | assumption | omega) | omega) only [nl, nI_add, pk_mul, Option.bind_some, zb2_some, nI_le_t, nI_le_f, nI_lt_t, nI_lt_f, nI_eq_t, nI_eq_f, nI_m1, nI_em1, ↓reduceIte, Nat.add_zero, k1, gI_, x1, x2, gp, ra]
  · rw [if_neg c]
    simp (disch := first | assumption | (simp only [sI_kd, sP_kd, rw_kd, sI_ln, sP_ln, rw_ln] <;> first | assumption | omega) | omega) only [nl, nI_add, pk_mul, Option.bind_some, zb2_some, nI_le_t, nI_le_f, nI_lt_t, nI_lt_f, nI_eq_t, nI_eq_f, nI_m1, nI_em1, ↓reduceIte, Nat.add_zero, k1, gI_, x1, x2]
theorem k_rsign {c : Nat} (hX : CX h x T n s) (ht : txt T n) (hs : s ≤ n) (hc : c ≤ 255) : fX4_readSign h x (nI c) = some (if s < n ∧ T s = c then (nI 1, zsI h x 2 (nI (s + 1))) else (nI 0, h)) := by
  have S := k_sign hX ht hs
  obtain ⟨⟨k1, p1, k2, l2⟩, x1, x2, xt⟩ := hX
  obtain ⟨t1, t2⟩ := ht
  by_cases c0 : s < n ∧ T s = c
  · rw [if_pos c0]
    obtain ⟨c1, c2⟩ := c0
    rw [if_pos c1] at S
    unfold fX4_readSign
    simp (disch := first | assumption | (simp only [sI_kd, sP_kd, rw_kd, sI_ln, sP_ln, rw_ln] <;> first | assumption | omega) | omega) only [nl, nI_add, pk_mul, Option.bind_some, zb2_some, nI_le_t, nI_le_f, nI_lt_t, nI_lt_f, nI_eq_t, nI_eq_f, nI_m1, nI_em1, ↓reduceIte, Nat.add_zero, k1, S, c2, gI_, x2, pI_]
  · rw [if_neg c0]
    unfold fX4_readSign
    by_cases c1 : s < n
    · have c2 : T s ≠ c := fun z => c0 ⟨c1, z⟩
      have := t2 s c1
      rw [if_pos c1] at S
      simp (disch := first | assumption | (simp only [sI_kd, sP_kd, rw_kd, sI_ln, sP_ln, rw_ln] <;> first | assumption | omega) | omega) only [nl, nI_add, pk_mul, Option.bind_some, zb2_some, nI_le_t, nI_le_f, nI_lt_t, nI_lt_f, nI_eq_t, nI_eq_f, nI_m1, nI_em1, ↓reduceIte, Nat.add_zero, k1, S]
    · rw [if_neg c1] at S
      have ne : (nI 4294967295 = nI c) = False := eq_false fun z => by
        have := (nI_eqN (by omega) (by omega)).mp z
        omega
      simp (disch := first | assumption | (simp only [sI_kd, sP_kd, rw_kd, sI_ln, sP_ln, rw_ln] <;> first | assumption | omega) | omega) only [nl, nI_add, pk_mul, Option.bind_some, zb2_some, nI_le_t, nI_le_f, nI_lt_t, nI_lt_f, nI_eq_t, nI_eq_f, nI_m1, nI_em1, ↓reduceIte, Nat.add_zero, k1, S, ne]
theorem k_sdigit (hX : CX h x T n s) (ht : txt T n) (hs : s ≤ n) : fX4_shownDigit h x = some (zom (dg T n s), h) := by
  have S := k_sign hX ht hs
  obtain ⟨⟨k1, p1, k2, l2⟩, x1, x2, xt⟩ := hX
  obtain ⟨t1, t2⟩ := ht
  unfold fX4_shownDigit
  by_cases c : s < n
  · have b := t2 s c
    rw [if_pos c] at S
    by_cases c1 : T s < 48
    · have dv : dg T n s = none := if_neg (by omega)
      rw [dv]
      simp (disch := first | assumption | (simp only [sI_kd, sP_kd, rw_kd, sI_ln, sP_ln, rw_ln] <;> first | assumption | omega) | omega) only [nl, nI_add, pk_mul, Option.bind_some, zb2_some, nI_le_t, nI_le_f, nI_lt_t, nI_lt_f, nI_eq_t, nI_eq_f, nI_m1, nI_em1, ↓reduceIte, Nat.add_zero, k1, S, zom]
    · by_cases c2 : T s ≤ 57
      · have dv : dg T n s = some (T s - 48) := if_pos (by omega)
        rw [dv]
        simp (disch := first | assumption | (simp only [sI_kd, sP_kd, rw_kd, sI_ln, sP_ln, rw_ln] <;> first | assumption | omega) | omega) only [nl, nI_add, pk_mul, Option.bind_some, zb2_some, nI_le_t, nI_le_f, nI_lt_t, nI_lt_f, nI_eq_t, nI_eq_f, nI_m1, nI_em1, ↓reduceIte, Nat.add_zero, k1, S, pk_sub, zom]
      · have dv : dg T n s = none := if_neg (by omega)
        rw [dv]
        simp (disch := first | assumption | (simp only [sI_kd, sP_kd, rw_kd, sI_ln, sP_ln, rw_ln] <;> first | assumption | omega) | omega) only [nl, nI_add, pk_mul, Option.bind_some, zb2_some, nI_le_t, nI_le_f, nI_lt_t, nI_lt_f, nI_eq_t, nI_eq_f, nI_m1, nI_em1, ↓reduceIte, Nat.add_zero, k1, S, zom]
  · have dv : dg T n s = none := if_neg (by omega)
    rw [dv]
    rw [if_neg c] at S
    have lt : (nI 4294967295 < nI 48) = True := eq_true (by decide)
    simp (disch := first | assumption | (simp only [sI_kd, sP_kd, rw_kd, sI_ln, sP_ln, rw_ln] <;> first | assumption | omega) | omega) only [nl, nI_add, pk_mul, Option.bind_some, zb2_some, nI_le_t, nI_le_f, nI_lt_t, nI_lt_f, nI_eq_t, nI_eq_f, nI_m1, nI_em1, ↓reduceIte, Nat.add_zero, k1, S, lt, zom]
theorem k_rdigit {lo hi : Nat} (hX : CX h x T n s) (ht : txt T n) (hs : s ≤ n) (hl : lo < 2 ^ 30) (hh : hi < 2 ^ 30) : fX4_readDigit h x (nI lo) (nI hi) = some (match dg T n s with
    | none => (nI 4294967295, h)
    | some d => if lo ≤ d ∧ d ≤ hi then (nI d, zsI h x 2 (nI (s + 1))) else (nI 4294967295, h)) := by
  have S := k_sdigit hX ht hs
  obtain ⟨⟨k1, p1, k2, l2⟩, x1, x2, xt⟩ := hX
  unfold fX4_readDigit
  cases hd : dg T n s with
  | none =>
    rw [hd] at S
    simp (disch := first | assumption | (simp only [sI_kd, sP_kd, rw_kd, sI_ln, sP_ln, rw_ln] <;> first | assumption | omega) | omega) only [nl, nI_add, pk_mul, Option.bind_some, zb2_some, nI_le_t, nI_le_f, nI_lt_t, nI_lt_f, nI_eq_t, nI_eq_f, nI_m1, nI_em1, ↓reduceIte, Nat.add_zero, k1, S, zom]
  | some d =>
    obtain ⟨d1, d2, d3, d4, d5⟩ := dg_some hd
    rw [hd] at S
    dsimp only
    by_cases c1 : lo ≤ d
    · by_cases c2 : d ≤ hi
      · have cc : lo ≤ d ∧ d ≤ hi := ⟨c1, c2⟩
        rw [if_pos cc]
        simp (disch := first | assumption | (simp only [sI_kd, sP_kd, rw_kd, sI_ln, sP_ln, rw_ln] <;> first | assumption | omega) | omega) only [nl, nI_add, pk_mul, Option.bind_some, zb2_some, nI_le_t, nI_le_f, nI_lt_t, nI_lt_f, nI_eq_t, nI_eq_f, nI_m1, nI_em1, ↓reduceIte, Nat.add_zero, k1, S, zom, gI_, x2, pI_]
      · have cc : ¬ (lo ≤ d ∧ d ≤ hi) := fun z => c2 z.2
        rw [if_neg cc]
        simp (disch := first | assumption | (simp only [sI_kd, sP_kd, rw_kd, sI_ln, sP_ln, rw_ln] <;> first | assumption | omega) | omega) only [nl, nI_add, pk_mul, Option.bind_some, zb2_some, nI_le_t, nI_le_f, nI_lt_t, nI_lt_f, nI_eq_t, nI_eq_f, nI_m1, nI_em1, ↓reduceIte, Nat.add_zero, k1, S, zom]
    · have cc : ¬ (lo ≤ d ∧ d ≤ hi) := fun z => c1 z.1
      rw [if_neg cc]
      simp (disch := first | assumption | (simp only [sI_kd, sP_kd, rw_kd, sI_ln, sP_ln, rw_ln] <;> first | assumption | omega) | omega) only [nl, nI_add, pk_mul, Option.bind_some, zb2_some, nI_le_t, nI_le_f, nI_lt_t, nI_lt_f, nI_eq_t, nI_eq_f, nI_m1, nI_em1, ↓reduceIte, Nat.add_zero, k1, S, zom]
theorem k_num_L {D : Nat} {k : zH → Int32 → Int32 → Option (Int32 × zH)} (ht : txt T n) (hD : D ≤ 5) : ∀ d i v s h fu, i + d = D → v < 10 ^ i → CX h x T n s → s ≤ n → d < fu → fX4_readNumber_L4 k x (nI D) fu h (nI v) (nI i) = match pnum T n true d v s with
    | (none, p) => some (nI 4294967295, zsI h x 2 (nI p))
    | (some w, p) => k (zsI h x 2 (nI p)) (nI w) (nI D) := by
  intro d
  induction d with
  | zero =>
    intro i v s h fu hi hv hX hs hf
    obtain ⟨fu, rfl⟩ := fuel1 hf
    have e : i = D := by omega
    subst e
    rw [fX4_readNumber_L4]
    have se : zsI h x 2 (nI s) = h := sI_self hX.2.2.1
    show _ = k (zsI h x 2 (nI s)) (nI v) (nI i)
    rw [se]
    simp (disch := first | assumption | (simp only [sI_kd, sP_kd, rw_kd, sI_ln, sP_ln, rw_ln] <;> first | assumption | omega) | omega) only [nl, nI_add, pk_mul, Option.bind_some, zb2_some, nI_le_t, nI_le_f, nI_lt_t, nI_lt_f, nI_eq_t, nI_eq_f, nI_m1, nI_em1, ↓reduceIte, Nat.add_zero]
  | succ d ih =>
    intro i v s h fu hi hv hX hs hf
    obtain ⟨fu, rfl⟩ := fuel1 hf
    have se : zsI h x 2 (nI s) = h := sI_self hX.2.2.1
    have v5 : v < 10 ^ 5 := Nat.lt_of_lt_of_le hv (Nat.pow_le_pow_right (by omega) (by omega))
    have R0 := k_rdigit (lo := 0) (hi := 9) hX ht hs (by omega) (by omega)
    have R1 := k_rdigit (lo := 1) (hi := 9) hX ht hs (by omega) (by omega)
    rw [fX4_readNumber_L4, pnum_s]
    cases hd : dg T n s with
    | none =>
      rw [hd] at R0 R1
      dsimp only at R0 R1 ⊢
      rw [se]
      by_cases c1 : d = 0
      · by_cases c2 : v = 0
        · simp (disch := first | assumption | (simp only [sI_kd, sP_kd, rw_kd, sI_ln, sP_ln, rw_ln] <;> first | assumption | omega) | omega) only [nl, nI_add, pk_mul, Option.bind_some, zb2_some, nI_le_t, nI_le_f, nI_lt_t, nI_lt_f, nI_eq_t, nI_eq_f, nI_m1, nI_em1, ↓reduceIte, Nat.add_zero, pk_sub, c2, R1]
        · simp (disch := first | assumption | (simp only [sI_kd, sP_kd, rw_kd, sI_ln, sP_ln, rw_ln] <;> first | assumption | omega) | omega) only [nl, nI_add, pk_mul, Option.bind_some, zb2_some, nI_le_t, nI_le_f, nI_lt_t, nI_lt_f, nI_eq_t, nI_eq_f, nI_m1, nI_em1, ↓reduceIte, Nat.add_zero, pk_sub, R0]
      · simp (disch := first | assumption | (simp only [sI_kd, sP_kd, rw_kd, sI_ln, sP_ln, rw_ln] <;> first | assumption | omega) | omega) only [nl, nI_add, pk_mul, Option.bind_some, zb2_some, nI_le_t, nI_le_f, nI_lt_t, nI_lt_f, nI_eq_t, nI_eq_f, nI_m1, nI_em1, ↓reduceIte, Nat.add_zero, pk_sub, R0]
    | some y =>
      obtain ⟨d1, d2, d3, d4, d5⟩ := dg_some hd
      rw [hd] at R0 R1
      dsimp only at R0 R1 ⊢
      have I := ih (i + 1) (10 * v + y) (s + 1) (zsI h x 2 (nI (s + 1))) fu (by omega) (by rw [Nat.pow_succ]; omega) hX.sp (by omega) (by omega)
      simp only [sI_sI] at I
      have r0 : 0 ≤ y ∧ y ≤ 9 := by omega
      rw [if_pos r0] at R0
      have mc := Nat.mul_comm v 10
      by_cases c : true = true ∧ d = 0 ∧ v = 0 ∧ y = 0
      · rw [if_pos c]
        obtain ⟨-, c2, c3, c4⟩ := c
        have r1 : ¬ (1 ≤ y ∧ y ≤ 9) := by omega
        rw [if_neg r1] at R1
        dsimp only
        rw [se]
        simp (disch := first | assumption | (simp only [sI_kd, sP_kd, rw_kd, sI_ln, sP_ln, rw_ln] <;> first | assumption | omega) | omega) only [nl, nI_add, pk_mul, Option.bind_some, zb2_some, nI_le_t, nI_le_f, nI_lt_t, nI_lt_f, nI_eq_t, nI_eq_f, nI_m1, nI_em1, ↓reduceIte, Nat.add_zero, pk_sub, c3, R1]
      · rw [if_neg c, ← I]
        by_cases c2 : d = 0
        · by_cases c3 : v = 0
          · have c4 : y ≠ 0 := fun z => c ⟨rfl, c2, c3, z⟩
            have r1 : 1 ≤ y ∧ y ≤ 9 := by omega
            rw [if_pos r1] at R1
            simp (disch := first | assumption | (simp only [sI_kd, sP_kd, rw_kd, sI_ln, sP_ln, rw_ln] <;> first | assumption | omega) | omega) only [nl, nI_add, pk_mul, Option.bind_some, zb2_some, nI_le_t, nI_le_f, nI_lt_t, nI_lt_f, nI_eq_t, nI_eq_f, nI_m1, nI_em1, ↓reduceIte, Nat.add_zero, pk_sub, c3, R1, Nat.zero_mul, Nat.mul_zero]
          · simp (disch := first | assumption | (simp only [sI_kd, sP_kd, rw_kd, sI_ln, sP_ln, rw_ln] <;> first | assumption | omega) | omega) only [nl, nI_add, pk_mul, Option.bind_some, zb2_some, nI_le_t, nI_le_f, nI_lt_t, nI_lt_f, nI_eq_t, nI_eq_f, nI_m1, nI_em1, ↓reduceIte, Nat.add_zero, pk_sub, R0, mc]
        · simp (disch := first | assumption | (simp only [sI_kd, sP_kd, rw_kd, sI_ln, sP_ln, rw_ln] <;> first | assumption | omega) | omega) only [nl, nI_add, pk_mul, Option.bind_some, zb2_some, nI_le_t, nI_le_f, nI_lt_t, nI_lt_f, nI_eq_t, nI_eq_f, nI_m1, nI_em1, ↓reduceIte, Nat.add_zero, pk_sub, R0, mc]
theorem k_number {D : Nat} (hX : CX h x T n s) (ht : txt T n) (hs : s ≤ n) (hD : D ≤ 5) : fX4_readNumber h x (nI D) = some (zom (pnum T n true D 0 s).1, zsI h x 2 (nI (pnum T n true D 0 s).2)) := by
  unfold fX4_readNumber
  rw [if_pos hX.1.1]
  refine (k_num_L ht hD D 0 0 s h zF (by omega) (by decide) hX hs (by unfold zF; omega)).trans ?_
  cases hp : pnum T n true D 0 s with
  | mk o p =>
    cases o with
    | none => rfl
    | some w => rfl
end CTEXT
