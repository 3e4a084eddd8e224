/-! pure: the reference reads a text -/
def txt (T : zN') (n : Nat) : Prop := n ≤ 160 ∧ ∀ i, i < n → T i ≤ 255
def RX (h : zH) (m : Nat) (T : zN') (n s : Nat) : Prop := RefT h m ∧ zI h m 2 = nI n ∧ zI h m 3 = nI s ∧ ∀ i, i < n → zI h (m + 1) i = nI (T i)
def zo9 (o : Option Nat) : Int32 := match o with
  | none => nI 4294967287
  | some e => nI e
theorem in09a (h : zH) {d : Nat} (hd : d < 2 ^ 31) : fX7_in h (nI d).toInt64 0 9 = some (if d ≤ 9 then nI 1 else nI 0, h) := by
  have := p_in h (nI d) 0 9
  by_cases c : d ≤ 9
  · rw [if_pos ⟨nI_pos' hd, (nI_leI (b := 9) hd (by omega)).mpr c⟩] at this
    rw [if_pos c]; exact this
  · rw [if_neg (fun z => c ((nI_leI (b := 9) hd (by omega)).mp z.2))] at this
    rw [if_neg c]; exact this
theorem in09b (h : zH) {a : Nat} (ha : a < 48) : fX7_in h (nI a - nI 48).toInt64 0 9 = some (nI 0, h) := by
  have := p_in h (nI a - nI 48) 0 9
  rw [if_neg (fun z => by
    have q := pk_sneg (a := a) (b := 48) (by omega) ha
    exact Int32.not_lt.mpr z.1 q)] at this
  exact this
theorem in09c (h : zH) : fX7_in h (nI 4294967287).toInt64 0 9 = some (nI 0, h) := p_in h (nI 4294967287) 0 9
section RTEXT
variable {h : zH} {m n s : Nat} {T : zN'}
theorem RX.sp {p : Nat} (hX : RX h m T n s) : RX (zsI h m 3 (nI p)) m T n p := ⟨hX.1, by rw [sI_k (by omega)]; exact hX.2.1, sI_at, fun i hi => by rw [sI_a (by omega)]; exact hX.2.2.2 i hi⟩
theorem r_digit (hX : RX h m T n s) (ht : txt T n) (hs : s ≤ n) : fX7_digit h m = some (zo9 (dg T n s), h) := by
  obtain ⟨hT, x2, x3, xt⟩ := hX
  obtain ⟨t1, t2⟩ := ht
  by_cases c : s < n
  · have b := t2 s c
    have xs := xt s c
    by_cases c1 : T s < 48
    · have dv : dg T n s = none := if_neg (by omega)
      rw [dv]
      unfold fX7_digit
      simp (disch := first | assumption | ((repeat apply RefT.s) <;> assumption) | omega) only [nl, nI_add, pk_mul, Option.bind_some, zb2_some, nI_le_t, nI_le_f, nI_lt_t, nI_lt_f, nI_eq_t, nI_eq_f, nI_m1, nI_em1, ↓reduceIte, Nat.add_zero, nI_n9, hT.1, qI, x2, x3, qg1, qa1, xs, in09b, zo9]
    · by_cases c2 : T s ≤ 57
      · have dv : dg T n s = some (T s - 48) := if_pos (by omega)
        rw [dv]
        have e := in09a h (d := T s - 48) (by omega)
        rw [if_pos (by omega)] at e
        unfold fX7_digit
        simp (disch := first | assumption | ((repeat apply RefT.s) <;> assumption) | omega) only [nl, nI_add, pk_mul, Option.bind_some, zb2_some, nI_le_t, nI_le_f, nI_lt_t, nI_lt_f, nI_eq_t, nI_eq_f, nI_m1, nI_em1, ↓reduceIte, Nat.add_zero, nI_n9, hT.1, qI, x2, x3, qg1, qa1, xs, pk_sub, e, zo9]
      · have dv : dg T n s = none := if_neg (by omega)
        rw [dv]
        have e := in09a h (d := T s - 48) (by omega)
        rw [if_neg (by omega)] at e
        unfold fX7_digit
        simp (disch := first | assumption | ((repeat apply RefT.s) <;> assumption) | omega) only [nl, nI_add, pk_mul, Option.bind_some, zb2_some, nI_le_t, nI_le_f, nI_lt_t, nI_lt_f, nI_eq_t, nI_eq_f, nI_m1, nI_em1, ↓reduceIte, Nat.add_zero, nI_n9, hT.1, qI, x2, x3, qg1, qa1, xs, pk_sub, e, zo9]
  · have dv : dg T n s = none := if_neg (by omega)
    rw [dv]
    unfold fX7_digit
    simp (disch := first | assumption | ((repeat apply RefT.s) <;> assumption) | omega) only [nl, nI_add, pk_mul, Option.bind_some, zb2_some, nI_le_t, nI_le_f, nI_lt_t, nI_lt_f, nI_eq_t, nI_eq_f, nI_m1, nI_em1, ↓reduceIte, Nat.add_zero, nI_n9, hT.1, qI, x2, x3, in09c, zo9]
theorem r_passes {c : Nat} (hX : RX h m T n s) (ht : txt T n) (hs : s ≤ n) (hc : c ≤ 255) : fX7_passes h m (nI c) = some (if s < n ∧ T s = c then (nI 1, zsI h m 3 (nI (s + 1))) else (nI 0, h)) := by
  obtain ⟨hT, x2, x3, xt⟩ := hX
  obtain ⟨t1, t2⟩ := ht
  have se : zsI h m 3 (nI s) = h := sI_self x3
  by_cases c0 : s < n ∧ T s = c
  · obtain ⟨c1, c2⟩ := id c0
    have xs := xt s c1
    rw [if_pos c0]
    unfold fX7_passes
    simp (disch := first | assumption | ((repeat apply RefT.s) <;> assumption) | omega) only [nl, nI_add, pk_mul, Option.bind_some, zb2_some, nI_le_t, nI_le_f, nI_lt_t, nI_lt_f, nI_eq_t, nI_eq_f, nI_m1, nI_em1, ↓reduceIte, Nat.add_zero, nI_n9, hT.1, qI, x2, x3, qg1, qa1, xs, c2, qp]
  · rw [if_neg c0]
    unfold fX7_passes
    by_cases c1 : s < n
    · have c2 : T s ≠ c := fun z => c0 ⟨c1, z⟩
      have b := t2 s c1
      have xs := xt s c1
      simp (disch := first | assumption | ((repeat apply RefT.s) <;> assumption) | omega) only [nl, nI_add, pk_mul, Option.bind_some, zb2_some, nI_le_t, nI_le_f, nI_lt_t, nI_lt_f, nI_eq_t, nI_eq_f, nI_m1, nI_em1, ↓reduceIte, Nat.add_zero, nI_n9, hT.1, qI, x2, x3, qg1, qa1, xs, qp, se]
    · simp (disch := first | assumption | ((repeat apply RefT.s) <;> assumption) | omega) only [nl, nI_add, pk_mul, Option.bind_some, zb2_some, nI_le_t, nI_le_f, nI_lt_t, nI_lt_f, nI_eq_t, nI_eq_f, nI_m1, nI_em1, ↓reduceIte, Nat.add_zero, nI_n9, hT.1, qI, x2, x3, qp, se]
theorem r_num_L {D : Nat} {ab : Bool} {k : zH → Int32 → Int32 → Option (Int32 × zH)} (ht : txt T n) (hD : D ≤ 5) : ∀ d i v s h fu, i + d = D → v < 10 ^ i → RX h m T n s → s ≤ n → d < fu → fX7_number_L5 k m (nI D) (nI (if ab = true then 1 else 0)) fu h (nI v) (nI i) = match pnum T n ab d v s with
    | (none, p) => some (nI 4294967287, zsI h m 3 (nI p))
    | (some w, p) => k (zsI h m 3 (nI p)) (nI w) (nI D) := by
  intro d
  induction d with
  | zero =>
    intro i v s h fu hi hv hX hs hf
    obtain ⟨fu, rfl⟩ := fuel1 hf
    have e : i = D := by omega
    subst e
    rw [fX7_number_L5]
    have se : zsI h m 3 (nI s) = h := sI_self hX.2.2.1
    show _ = k (zsI h m 3 (nI s)) (nI v) (nI i)
    rw [se]
    simp (disch := first | assumption | ((repeat apply RefT.s) <;> assumption) | omega) only [nl, nI_add, pk_mul, Option.bind_some, zb2_some, nI_le_t, nI_le_f, nI_lt_t, nI_lt_f, nI_eq_t, nI_eq_f, nI_m1, nI_em1, ↓reduceIte, Nat.add_zero, nI_n9]
  | succ d ih =>
    intro i v s h fu hi hv hX hs hf
    obtain ⟨fu, rfl⟩ := fuel1 hf
    have dgt := r_digit hX ht hs
    obtain ⟨hT, x2, x3, xt⟩ := id hX
    have se : zsI h m 3 (nI s) = h := sI_self x3
    have v5 : v < 10 ^ 5 := Nat.lt_of_lt_of_le hv (Nat.pow_le_pow_right (by omega) (by omega))
    rw [fX7_number_L5, pnum_s]
    cases hd : dg T n s with
    | none =>
      rw [hd] at dgt
      dsimp only
      rw [se]
      simp (disch := first | assumption | ((repeat apply RefT.s) <;> assumption) | omega) only [nl, nI_add, pk_mul, Option.bind_some, zb2_some, nI_le_t, nI_le_f, nI_lt_t, nI_lt_f, nI_eq_t, nI_eq_f, nI_m1, nI_em1, ↓reduceIte, Nat.add_zero, nI_n9, dgt, zo9]
    | some x =>
      obtain ⟨d1, d2, d3, d4, d5⟩ := dg_some hd
      rw [hd] at dgt
      dsimp only
      have ne : (nI x = nI 4294967287) = False := eq_false fun z => by
        have := (nI_eqN (by omega) (by omega)).mp z
        omega
      have I := ih (i + 1) (10 * v + x) (s + 1) (zsI h m 3 (nI (s + 1))) fu (by omega) (by rw [Nat.pow_succ]; omega) hX.sp (by omega) (by omega)
      simp only [sI_sI] at I
      have goal : fX7_number_L5 k m (nI D) (nI (if ab = true then 1 else 0)) fu (zsI h m 3 (nI (s + 1))) (nI (10 * v + x)) (nI (i + 1)) = match pnum T n ab d (10 * v + x) (s + 1) with
          | (none, p) => some (nI 4294967287, zsI h m 3 (nI p))
          | (some w, p) => k (zsI h m 3 (nI p)) (nI w) (nI D) := I
      by_cases c : ab = true ∧ d = 0 ∧ v = 0 ∧ x = 0
      · rw [if_pos c]
        obtain ⟨c1, c2, c3, c4⟩ := c
        subst c1
        dsimp only
        rw [se]
        simp (disch := first | assumption | ((repeat apply RefT.s) <;> assumption) | omega) only [nl, nI_add, pk_mul, Option.bind_some, zb2_some, nI_le_t, nI_le_f, nI_lt_t, nI_lt_f, nI_eq_t, nI_eq_f, nI_m1, nI_em1, ↓reduceIte, Nat.add_zero, nI_n9, dgt, zo9, ne, pk_sub, c3, c4, ite_self]
      · rw [if_neg c, ← goal]
        cases ab with
        | false =>
          simp (disch := first | assumption | ((repeat apply RefT.s) <;> assumption) | omega) only [nl, nI_add, pk_mul, Option.bind_some, zb2_some, nI_le_t, nI_le_f, nI_lt_t, nI_lt_f, nI_eq_t, nI_eq_f, nI_m1, nI_em1, ↓reduceIte, Nat.add_zero, nI_n9, dgt, zo9, ne, Bool.false_eq_true, qI, qp, x3]
        | true =>
          by_cases c2 : d = 0
          · by_cases c3 : v = 0
            · have c4 : x ≠ 0 := fun z => c ⟨rfl, c2, c3, z⟩
              simp (disch := first | assumption | ((repeat apply RefT.s) <;> assumption) | omega) only [nl, nI_add, pk_mul, Option.bind_some, zb2_some, nI_le_t, nI_le_f, nI_lt_t, nI_lt_f, nI_eq_t, nI_eq_f, nI_m1, nI_em1, ↓reduceIte, Nat.add_zero, nI_n9, dgt, zo9, ne, pk_sub, c3, qI, qp, x3]
            · simp (disch := first | assumption | ((repeat apply RefT.s) <;> assumption) | omega) only [nl, nI_add, pk_mul, Option.bind_some, zb2_some, nI_le_t, nI_le_f, nI_lt_t, nI_lt_f, nI_eq_t, nI_eq_f, nI_m1, nI_em1, ↓reduceIte, Nat.add_zero, nI_n9, dgt, zo9, ne, pk_sub, qI, qp, x3]
          · simp (disch := first | assumption | ((repeat apply RefT.s) <;> assumption) | omega) only [nl, nI_add, pk_mul, Option.bind_some, zb2_some, nI_le_t, nI_le_f, nI_lt_t, nI_lt_f, nI_eq_t, nI_eq_f, nI_m1, nI_em1, ↓reduceIte, Nat.add_zero, nI_n9, dgt, zo9, ne, pk_sub, qI, qp, x3]
theorem r_number {D : Nat} {ab : Bool} (hX : RX h m T n s) (ht : txt T n) (hs : s ≤ n) (hD : D ≤ 5) : fX7_number h m (nI D) (nI (if ab = true then 1 else 0)) = some (zo9 (pnum T n ab D 0 s).1, zsI h m 3 (nI (pnum T n ab D 0 s).2)) := by
  unfold fX7_number
  rw [if_pos hX.1.1]
  refine (r_num_L ht hD D 0 0 s h zF (by omega) (by decide) hX hs (by unfold zF; omega)).trans ?_
  cases hp : pnum T n ab D 0 s with
  | mk o p =>
    cases o with
    | none => rfl
    | some w => rfl
end RTEXT
