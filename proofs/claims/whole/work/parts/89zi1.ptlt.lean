/-! pure: an error position lies in the text -/
theorem pset_pos {T : zN'} {n nf : Nat} : ∀ k st le s, s ≤ n → (pset T n nf k st le s).2 ≤ n := by
  intro k
  induction k with
  | zero => intro st le s hs; exact hs
  | succ k ih =>
    intro st le s hs
    have e : pset T n nf (k + 1) st le s = match dg T n s with
      | none => (st, s)
      | some d => if le ≤ d ∧ d < nf then pset T n nf k (st + 2 ^ d) (d + 1) (s + 1) else (st, s) := rfl
    rw [e]
    cases hd : dg T n s with
    | none => exact hs
    | some d =>
      obtain ⟨d1, -⟩ := dg_some hd
      dsimp only
      by_cases c : le ≤ d ∧ d < nf
      · rw [if_pos c]; exact ih _ _ _ (by omega)
      · rw [if_neg c]; exact hs
theorem pnum_pos {T : zN'} {n d v s : Nat} {ab : Bool} (hs : s ≤ n) : (pnum T n ab d v s).2 ≤ n := (pnum_ok (T := T) (n := n) (ab := ab) d v s hs).2.1
theorem pconv_pos {T : zN'} {n nf s p : Nat} {B : zBd} (hs : s ≤ n) (h : pconv T n nf B s = .inl p) : p ≤ n := by
  unfold pconv at h
  cases hd : dg T n s with
  | none =>
    rw [hd] at h
    cases h
    exact hs
  | some a =>
    rw [hd] at h
    dsimp only at h
    obtain ⟨d1, -⟩ := dg_some hd
    by_cases c : a < nf ∧ frm B a nf = true
    · rw [if_pos c] at h
      cases he : dg T n (s + 1) with
      | none =>
        rw [he] at h
        cases h
        omega
      | some b =>
        rw [he] at h
        dsimp only at h
        obtain ⟨e1, -⟩ := dg_some he
        by_cases c2 : b < nf ∧ a ≠ b ∧ lk B a b = false
        · rw [if_pos c2] at h
          have p1 := pnum_pos (T := T) (n := n) (d := 2) (v := 0) (s := s + 2) (ab := true) (by omega)
          cases h1 : pnum T n true 2 0 (s + 2) with
          | mk o q1 =>
          rw [h1] at h p1
          cases o with
          | none => cases h; exact p1
          | some x1 =>
            dsimp only at h p1
            have p2 := pnum_pos (T := T) (n := n) (d := 2) (v := 0) (s := q1) (ab := true) p1
            cases h2 : pnum T n true 2 0 q1 with
            | mk o q2 =>
            rw [h2] at h p2
            cases o with
            | none => cases h; exact p2
            | some x2 =>
              dsimp only at h p2
              have p3 := pnum_pos (T := T) (n := n) (d := 1) (v := 0) (s := q2) (ab := false) p2
              cases h3 : pnum T n false 1 0 q2 with
              | mk o q3 =>
              rw [h3] at h p3
              cases o with
              | none => cases h; exact p3
              | some x3 => cases h
        · rw [if_neg c2] at h
          cases h
          omega
    · rw [if_neg c] at h
      cases h
      exact hs
theorem pplace_pos {T : zN'} {n nf s p : Nat} {B : zBd} (hs : s ≤ n) (h : pplace T n nf B s = .inl p) : p ≤ n := by
  unfold pplace at h
  have p0 := pset_pos (T := T) (n := n) (nf := nf) 8 0 0 s hs
  cases h0 : pset T n nf 8 0 0 s with
  | mk st q =>
  rw [h0] at h p0
  dsimp only at h p0
  by_cases c : st = 0
  · rw [if_pos c] at h
    cases h
    exact p0
  · rw [if_neg c] at h
    by_cases c2 : q < n ∧ T q = 58
    · rw [if_pos c2] at h
      have p1 := pnum_pos (T := T) (n := n) (d := 5) (v := 0) (s := q + 1) (ab := true) (by omega)
      cases h1 : pnum T n true 5 0 (q + 1) with
      | mk o q1 =>
      rw [h1] at h p1
      cases o with
      | none => cases h; exact p1
      | some x1 => cases h
    · rw [if_neg c2] at h
      cases h
      exact p0
theorem pitem_pos {T : zN'} {n nf s p : Nat} {B : zBd} (hs : s < n) (h : pitem T n nf B s = .inl p) : p ≤ n := by
  unfold pitem at h
  by_cases c : T s = 99
  · rw [if_pos c] at h
    by_cases c2 : bnc B < 20 ∧ bnc B < nf * (nf - 1)
    · rw [if_pos c2] at h
      exact pconv_pos hs h
    · rw [if_neg c2] at h
      cases h
      omega
  · rw [if_neg c] at h
    by_cases c2 : bnp B < 6 ∧ T s = 112
    · rw [if_pos c2] at h
      exact pplace_pos hs h
    · rw [if_neg c2] at h
      cases h
      omega
theorem pitems_pos {T : zN'} {n nf p : Nat} (hn : nf ≤ 8) : ∀ k B s, s ≤ n → bkk nf B → pitems T n nf k B s = some (.inl p) → p ≤ n := by
  intro k
  induction k with
  | zero => intro B s _ _ h; cases h
  | succ k ih =>
    intro B s hs hB h
    have e : pitems T n nf (k + 1) B s = if s < n then (match pitem T n nf B s with
      | .inl p => some (.inl p)
      | .inr (B', s') => pitems T n nf k B' s') else some (.inr B) := rfl
    rw [e] at h
    by_cases c : s < n
    · rw [if_pos c] at h
      cases hp : pitem T n nf B s with
      | inl q =>
        rw [hp] at h
        cases h
        exact pitem_pos c hp
      | inr w =>
        obtain ⟨B1, s1⟩ := w
        rw [hp] at h
        obtain ⟨k1, k2, k3⟩ := pitem_ok hn c hB hp
        exact ih B1 s1 k3 k1 h
    · rw [if_neg c] at h
      cases h
theorem ptext_lt {T : zN'} {n p : Nat} (hn : n ≤ 160) (h : ptext T n = .inl p) : p < 1000 := by
  unfold ptext at h
  by_cases c : 0 < n ∧ T 0 = 75
  · rw [if_pos c] at h
    cases hd : dg T n 1 with
    | none => rw [hd] at h; cases h; omega
    | some g =>
      rw [hd] at h
      dsimp only at h
      obtain ⟨d1, -⟩ := dg_some hd
      by_cases c2 : 1 ≤ g ∧ g ≤ 8
      · rw [if_pos c2] at h
        have n1 := pnum_pos (T := T) (n := n) (d := 5) (v := 0) (s := 2) (ab := true) (by omega)
        cases hp1 : pnum T n true 5 0 2 with
        | mk o p1 =>
        rw [hp1] at h n1
        cases o with
        | none => cases h; dsimp only at n1; omega
        | some v =>
          dsimp only at h n1
          cases hr : pitems T n g pfu bz p1 with
          | none => rw [hr] at h; cases h; omega
          | some r =>
            rw [hr] at h
            cases r with
            | inl e =>
              cases h
              have := pitems_pos c2.2 pfu bz p1 n1 (bkk_bz c2.2) hr
              omega
            | inr B' => cases h
      · rw [if_neg c2] at h; cases h; omega
  · rw [if_neg c] at h; cases h; omega
