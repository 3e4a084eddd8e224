/-! pure: how a text is read -/
def dg (T : zN') (n s : Nat) : Option Nat := if s < n ∧ 48 ≤ T s ∧ T s ≤ 57 then some (T s - 48) else none
def pnum (T : zN') (n : Nat) (ab : Bool) : Nat → Nat → Nat → Option Nat × Nat
  | 0, v, s => (some v, s)
  | d + 1, v, s => match dg T n s with
    | none => (none, s)
    | some x => if ab = true ∧ d = 0 ∧ v = 0 ∧ x = 0 then (none, s) else pnum T n ab d (10 * v + x) (s + 1)
abbrev zBd : Type := Nat × Nat × zN' × zN' × zN' × zN' × zN' × zN' × zN'
def bnc (B : zBd) : Nat := B.1
def bnp (B : zBd) : Nat := B.2.1
def bfr (B : zBd) : zN' := B.2.2.1
def btt (B : zBd) : zN' := B.2.2.2.1
def bco (B : zBd) : zN' := B.2.2.2.2.1
def bgr (B : zBd) : zN' := B.2.2.2.2.2.1
def blo (B : zBd) : zN' := B.2.2.2.2.2.2.1
def bac (B : zBd) : zN' := B.2.2.2.2.2.2.2.1
def bli (B : zBd) : zN' := B.2.2.2.2.2.2.2.2
def bz : zBd := (0, 0, fun _ => 0, fun _ => 0, fun _ => 0, fun _ => 0, fun _ => 0, fun _ => 0, fun _ => 0)
def badd (B : zBd) (a b c g l : Nat) : zBd := (bnc B + 1, bnp B, va_up (bfr B) (bnc B) a, va_up (btt B) (bnc B) b, va_up (bco B) (bnc B) c, va_up (bgr B) (bnc B) g, va_up (blo B) (bnc B) l, bac B, bli B)
def bpl (B : zBd) (st v : Nat) : zBd := (bnc B, bnp B + 1, bfr B, btt B, bco B, bgr B, blo B, va_up (bac B) (bnp B) st, va_up (bli B) (bnp B) v)
def lkn (fr tt : zN') (a b : Nat) : Nat → Bool
  | 0 => false
  | c + 1 => lkn fr tt a b c || decide (fr c = a ∧ tt c = b)
def lk (B : zBd) (a b : Nat) : Bool := lkn (bfr B) (btt B) a b (bnc B)
def frm (B : zBd) (a : Nat) : Nat → Bool
  | 0 => false
  | b + 1 => frm B a b || (decide (b ≠ a) && !lk B a b)
def pconv (T : zN') (n nf : Nat) (B : zBd) (s : Nat) : Nat ⊕ (zBd × Nat) :=
  match dg T n s with
  | none => .inl s
  | some a => if a < nf ∧ frm B a nf = true then (match dg T n (s + 1) with
    | none => .inl (s + 1)
    | some b => if b < nf ∧ a ≠ b ∧ lk B a b = false then (match pnum T n true 2 0 (s + 2) with
      | (none, p) => .inl p
      | (some c, p) => match pnum T n true 2 0 p with
        | (none, p) => .inl p
        | (some g, p) => match pnum T n false 1 0 p with
          | (none, p) => .inl p
          | (some l, p) => .inr (badd B a b c g l, p)) else .inl (s + 1)) else .inl s
def pset (T : zN') (n nf : Nat) : Nat → Nat → Nat → Nat → Nat × Nat
  | 0, st, _, s => (st, s)
  | k + 1, st, le, s => match dg T n s with
    | none => (st, s)
    | some d => if le ≤ d ∧ d < nf then pset T n nf k (st + 2 ^ d) (d + 1) (s + 1) else (st, s)
def pplace (T : zN') (n nf : Nat) (B : zBd) (s : Nat) : Nat ⊕ (zBd × Nat) :=
  match pset T n nf 8 0 0 s with
  | (st, q) => if st = 0 then .inl q else if q < n ∧ T q = 58 then (match pnum T n true 5 0 (q + 1) with
    | (none, p) => .inl p
    | (some v, p) => .inr (bpl B st v, p)) else .inl q
def pitem (T : zN') (n nf : Nat) (B : zBd) (s : Nat) : Nat ⊕ (zBd × Nat) :=
  if T s = 99 then (if bnc B < 20 ∧ bnc B < nf * (nf - 1) then pconv T n nf B (s + 1) else .inl s) else if bnp B < 6 ∧ T s = 112 then pplace T n nf B (s + 1) else .inl s
def pitems (T : zN') (n nf : Nat) : Nat → zBd → Nat → Option (Nat ⊕ zBd)
  | 0, _, _ => none
  | k + 1, B, s => if s < n then (match pitem T n nf B s with
    | .inl p => some (.inl p)
    | .inr (B', s') => pitems T n nf k B' s') else some (.inr B)
def pfu : Nat := 161
def ptext (T : zN') (n : Nat) : Nat ⊕ (Nat × Nat × zBd) :=
  if 0 < n ∧ T 0 = 75 then (match dg T n 1 with
    | none => .inl 1
    | some f => if 1 ≤ f ∧ f ≤ 8 then (match pnum T n true 5 0 2 with
      | (none, p) => .inl p
      | (some bu, p) => match pitems T n f pfu bz p with
        | some (.inl e) => .inl e
        | some (.inr B) => .inr (f, bu, B)
        | none => .inl 0) else .inl 1) else .inl 0
theorem dg_some {T : zN'} {n s x : Nat} (h : dg T n s = some x) : s < n ∧ 48 ≤ T s ∧ T s ≤ 57 ∧ x = T s - 48 ∧ x ≤ 9 := by
  unfold dg at h
  by_cases c : s < n ∧ 48 ≤ T s ∧ T s ≤ 57
  · rw [if_pos c] at h
    have e : T s - 48 = x := Option.some.inj h
    omega
  · rw [if_neg c] at h; cases h
theorem pnum_s {T : zN'} {n : Nat} {ab : Bool} {d v s : Nat} : pnum T n ab (d + 1) v s = match dg T n s with
    | none => (none, s)
    | some x => if ab = true ∧ d = 0 ∧ v = 0 ∧ x = 0 then (none, s) else pnum T n ab d (10 * v + x) (s + 1) := rfl
theorem pnum_ok {T : zN'} {n : Nat} {ab : Bool} : ∀ d v s, s ≤ n → s ≤ (pnum T n ab d v s).2 ∧ (pnum T n ab d v s).2 ≤ n ∧ ∀ w, (pnum T n ab d v s).1 = some w → (pnum T n ab d v s).2 = s + d ∧ w < (v + 1) * 10 ^ d ∧ v ≤ w ∧ (ab = true → 1 ≤ d → 1 ≤ w) := by
  intro d
  induction d with
  | zero =>
    intro v s hs
    refine ⟨Nat.le_refl _, hs, fun w hw => ?_⟩
    have e : v = w := Option.some.inj hw
    refine ⟨rfl, by omega, by omega, fun _ h => by omega⟩
  | succ d ih =>
    intro v s hs
    rw [pnum_s]
    cases hd : dg T n s with
    | none => exact ⟨Nat.le_refl _, hs, fun w hw => by cases hw⟩
    | some x =>
      obtain ⟨d1, d2, d3, d4, d5⟩ := dg_some hd
      dsimp only
      by_cases c : ab = true ∧ d = 0 ∧ v = 0 ∧ x = 0
      · rw [if_pos c]
        exact ⟨Nat.le_refl _, hs, fun w hw => by cases hw⟩
      · rw [if_neg c]
        obtain ⟨i1, i2, i3⟩ := ih (10 * v + x) (s + 1) (by omega)
        refine ⟨by omega, i2, fun w hw => ?_⟩
        obtain ⟨j1, j2, j3, j4⟩ := i3 w hw
        refine ⟨by omega, ?_, by omega, fun ha _ => ?_⟩
        · have e : (v + 1) * 10 ^ (d + 1) = ((v + 1) * 10) * 10 ^ d := by rw [Nat.pow_succ, Nat.mul_comm (10 ^ d) 10, Nat.mul_assoc]
          rw [e]
          exact Nat.lt_of_lt_of_le j2 (Nat.mul_le_mul_right _ (by omega))
        · by_cases z : d = 0
          · have : ¬ (v = 0 ∧ x = 0) := fun q => c ⟨ha, z, q.1, q.2⟩
            omega
          · exact j4 ha (by omega)
theorem lkn_iff {fr tt : zN'} {a b : Nat} : ∀ {n : Nat}, lkn fr tt a b n = true ↔ ∃ c, c < n ∧ fr c = a ∧ tt c = b := by
  intro n
  induction n with
  | zero => exact ⟨fun h => (by cases h), fun ⟨c, h, _⟩ => by omega⟩
  | succ n ih =>
    show (lkn fr tt a b n || decide (fr n = a ∧ tt n = b)) = true ↔ _
    rw [Bool.or_eq_true, decide_eq_true_eq, ih]
    constructor
    · intro h
      rcases h with ⟨c, h1, h2⟩ | h
      · exact ⟨c, by omega, h2⟩
      · exact ⟨n, by omega, h⟩
    · intro ⟨c, h1, h2⟩
      by_cases z : c = n
      · rw [z] at h2; exact Or.inr h2
      · exact Or.inl ⟨c, by omega, h2⟩
theorem frm_iff {B : zBd} {a : Nat} : ∀ {n : Nat}, frm B a n = true ↔ ∃ b, b < n ∧ b ≠ a ∧ lk B a b = false := by
  intro n
  induction n with
  | zero => exact ⟨fun h => (by cases h), fun ⟨c, h, _⟩ => by omega⟩
  | succ n ih =>
    show (frm B a n || (decide (n ≠ a) && !lk B a n)) = true ↔ _
    rw [Bool.or_eq_true, Bool.and_eq_true, decide_eq_true_eq, ih, Bool.not_eq_true']
    constructor
    · intro h
      rcases h with ⟨c, h1, h2⟩ | h
      · exact ⟨c, by omega, h2⟩
      · exact ⟨n, by omega, h⟩
    · intro ⟨c, h1, h2⟩
      by_cases z : c = n
      · rw [z] at h2; exact Or.inr h2
      · exact Or.inl ⟨c, by omega, h2⟩
/-- what a board that is being read keeps to -/
def bkk (nf : Nat) (B : zBd) : Prop := bok (bfr B) (btt B) (bnc B) nf ∧ bnp B ≤ 6 ∧ (∀ c, c < bnc B → (1 ≤ bco B c ∧ bco B c ≤ 99) ∧ 1 ≤ bgr B c ∧ bgr B c ≤ 99 ∧ blo B c ≤ 9) ∧ ∀ p, p < bnp B → bac B p < 256 ∧ bac B p ≠ 0 ∧ bac B p < 2 ^ nf ∧ 1 ≤ bli B p ∧ bli B p ≤ 99999
theorem bkk_bz {nf : Nat} (hn : nf ≤ 8) : bkk nf bz := ⟨⟨hn, by decide, fun c h => (by cases h), fun c d h => (by cases h)⟩, by decide, fun c h => (by cases h), fun p h => (by cases h)⟩
theorem bkk_add {nf : Nat} {B : zBd} {a b c g l : Nat} (hB : bkk nf B) (h20 : bnc B < 20) (ha : a < nf) (hb : b < nf) (hab : a ≠ b) (hl : lk B a b = false) (hc : 1 ≤ c ∧ c ≤ 99) (hg : 1 ≤ g ∧ g ≤ 99) (h9 : l ≤ 9) : bkk nf (badd B a b c g l) := by
  obtain ⟨⟨b1, b2, b3, b4⟩, b5, b6, b7⟩ := hB
  have nl : ∀ c, c < bnc B → ¬ (bfr B c = a ∧ btt B c = b) := fun c hc z => by
    have : lk B a b = true := lkn_iff.mpr ⟨c, hc, z⟩
    rw [hl] at this; cases this
  have e1 : bfr (badd B a b c g l) = va_up (bfr B) (bnc B) a := rfl
  have e2 : btt (badd B a b c g l) = va_up (btt B) (bnc B) b := rfl
  have e3 : bco (badd B a b c g l) = va_up (bco B) (bnc B) c := rfl
  have e4 : bgr (badd B a b c g l) = va_up (bgr B) (bnc B) g := rfl
  have e5 : blo (badd B a b c g l) = va_up (blo B) (bnc B) l := rfl
  have e0 : bnc (badd B a b c g l) = bnc B + 1 := rfl
  refine ⟨⟨b1, by omega, fun d hd => ?_, fun d d' hd hd' h1 h2 => ?_⟩, b5, fun d hd => ?_, b7⟩
  · rw [e0] at hd
    rw [e1, e2]
    by_cases z : d = bnc B
    · rw [z, up_at, up_at]; exact ⟨ha, hb, hab⟩
    · rw [up_b z, up_b z]; exact b3 d (by omega)
  · rw [e0] at hd hd'
    rw [e1] at h1
    rw [e2] at h2
    by_cases z : d = bnc B
    · by_cases z' : d' = bnc B
      · omega
      · rw [z, up_at, up_b z'] at h1 h2
        exact absurd ⟨h1.symm, h2.symm⟩ (nl d' (by omega))
    · by_cases z' : d' = bnc B
      · rw [z', up_at, up_b z] at h1 h2
        exact absurd ⟨h1, h2⟩ (nl d (by omega))
      · rw [up_b z, up_b z'] at h1 h2
        exact b4 d d' (by omega) (by omega) h1 h2
  · rw [e0] at hd
    rw [e3, e4, e5]
    by_cases z : d = bnc B
    · rw [z, up_at, up_at, up_at]; exact ⟨hc, hg.1, hg.2, h9⟩
    · rw [up_b z, up_b z, up_b z]; exact b6 d (by omega)
theorem bkk_pl {nf : Nat} {B : zBd} {st v : Nat} (hB : bkk nf B) (h6 : bnp B < 6) (hs : st < 256 ∧ st ≠ 0 ∧ st < 2 ^ nf) (hv : 1 ≤ v ∧ v ≤ 99999) : bkk nf (bpl B st v) := by
  obtain ⟨b1, b5, b6, b7⟩ := hB
  have e0 : bnp (bpl B st v) = bnp B + 1 := rfl
  have e1 : bac (bpl B st v) = va_up (bac B) (bnp B) st := rfl
  have e2 : bli (bpl B st v) = va_up (bli B) (bnp B) v := rfl
  refine ⟨b1, by omega, b6, fun p hp => ?_⟩
  rw [e0] at hp
  rw [e1, e2]
  by_cases z : p = bnp B
  · rw [z, up_at, up_at]; exact ⟨hs.1, hs.2.1, hs.2.2, hv⟩
  · rw [up_b z, up_b z]; exact b7 p (by omega)
theorem pset_ok {T : zN'} {n nf : Nat} (hn : nf ≤ 8) : ∀ k st le s, s ≤ n → st < 2 ^ le → le ≤ nf → s ≤ (pset T n nf k st le s).2 ∧ (pset T n nf k st le s).2 ≤ n ∧ (pset T n nf k st le s).1 < 2 ^ nf := by
  intro k
  induction k with
  | zero =>
    intro st le s hs hst hle
    exact ⟨Nat.le_refl _, hs, Nat.lt_of_lt_of_le hst (Nat.pow_le_pow_right (by omega) hle)⟩
  | succ k ih =>
    intro st le s hs hst hle
    have e : pset T n nf (k + 1) st le s = match dg T n s with
      | none => (st, s)
      | some d => if le ≤ d ∧ d < nf then pset T n nf k (st + 2 ^ d) (d + 1) (s + 1) else (st, s) := rfl
    have lt : st < 2 ^ nf := Nat.lt_of_lt_of_le hst (Nat.pow_le_pow_right (by omega) hle)
    rw [e]
    cases hd : dg T n s with
    | none => exact ⟨Nat.le_refl _, hs, lt⟩
    | some d =>
      obtain ⟨d1, -⟩ := dg_some hd
      dsimp only
      by_cases c : le ≤ d ∧ d < nf
      · rw [if_pos c]
        have l2 : st < 2 ^ d := Nat.lt_of_lt_of_le hst (Nat.pow_le_pow_right (by omega) c.1)
        obtain ⟨i1, i2, i3⟩ := ih (st + 2 ^ d) (d + 1) (s + 1) (by omega) (by rw [Nat.pow_succ]; omega) (by omega)
        exact ⟨by omega, i2, i3⟩
      · rw [if_neg c]
        exact ⟨Nat.le_refl _, hs, lt⟩
theorem pconv_ok {T : zN'} {n nf s s' : Nat} {B B' : zBd} (hs : s ≤ n) (hB : bkk nf B) (h20 : bnc B < 20) (h : pconv T n nf B s = .inr (B', s')) : bkk nf B' ∧ s < s' ∧ s' ≤ n := by
  unfold pconv at h
  cases hd : dg T n s with
  | none => rw [hd] at h; cases h
  | some a =>
    rw [hd] at h
    dsimp only at h
    obtain ⟨a1, -⟩ := dg_some hd
    by_cases c : a < nf ∧ frm B a nf = true
    · rw [if_pos c] at h
      cases hd2 : dg T n (s + 1) with
      | none => rw [hd2] at h; cases h
      | some b =>
        rw [hd2] at h
        dsimp only at h
        obtain ⟨b1, -⟩ := dg_some hd2
        by_cases c2 : b < nf ∧ a ≠ b ∧ lk B a b = false
        · rw [if_pos c2] at h
          have n1 := pnum_ok (T := T) (n := n) (ab := true) 2 0 (s + 2) (by omega)
          cases hp1 : pnum T n true 2 0 (s + 2) with
          | mk o p1 =>
          rw [hp1] at h n1
          cases o with
          | none => cases h
          | some cc =>
            dsimp only at h n1
            obtain ⟨m1, m2, m3⟩ := n1
            obtain ⟨k1, k2, -, k4⟩ := m3 cc rfl
            have n2 := pnum_ok (T := T) (n := n) (ab := true) 2 0 p1 (by omega)
            cases hp2 : pnum T n true 2 0 p1 with
            | mk o p2 =>
            rw [hp2] at h n2
            cases o with
            | none => cases h
            | some gg =>
              dsimp only at h n2
              obtain ⟨l1, l2, l3⟩ := n2
              obtain ⟨q1, q2, -, q4⟩ := l3 gg rfl
              have n3 := pnum_ok (T := T) (n := n) (ab := false) 1 0 p2 (by omega)
              cases hp3 : pnum T n false 1 0 p2 with
              | mk o p3 =>
              rw [hp3] at h n3
              cases o with
              | none => cases h
              | some ll =>
                dsimp only at h n3
                obtain ⟨r1, r2, r3⟩ := n3
                obtain ⟨t1, t2, -, -⟩ := r3 ll rfl
                cases h
                have := k4 rfl (by omega)
                have := q4 rfl (by omega)
                exact ⟨bkk_add hB h20 c.1 c2.1 c2.2.1 c2.2.2 (by omega) (by omega) (by omega), by omega, by omega⟩
        · rw [if_neg c2] at h; cases h
    · rw [if_neg c] at h; cases h
theorem pplace_ok {T : zN'} {n nf s s' : Nat} {B B' : zBd} (hn : nf ≤ 8) (hs : s ≤ n) (hB : bkk nf B) (h6 : bnp B < 6) (h : pplace T n nf B s = .inr (B', s')) : bkk nf B' ∧ s < s' ∧ s' ≤ n := by
  unfold pplace at h
  have ps := pset_ok (T := T) (n := n) hn 8 0 0 s hs (by decide) (by omega)
  cases hp : pset T n nf 8 0 0 s with
  | mk st q =>
  rw [hp] at h ps
  dsimp only at h ps
  by_cases c : st = 0
  · rw [if_pos c] at h; cases h
  · rw [if_neg c] at h
    by_cases c2 : q < n ∧ T q = 58
    · rw [if_pos c2] at h
      have n1 := pnum_ok (T := T) (n := n) (ab := true) 5 0 (q + 1) (by omega)
      cases hp1 : pnum T n true 5 0 (q + 1) with
      | mk o p1 =>
      rw [hp1] at h n1
      cases o with
      | none => cases h
      | some v =>
        dsimp only at h n1
        obtain ⟨m1, m2, m3⟩ := n1
        obtain ⟨k1, k2, -, k4⟩ := m3 v rfl
        cases h
        have := k4 rfl (by omega)
        have l8 : (2 : Nat) ^ nf ≤ 2 ^ 8 := Nat.pow_le_pow_right (by omega) hn
        exact ⟨bkk_pl hB h6 ⟨by omega, c, ps.2.2⟩ (by omega), by omega, by omega⟩
    · rw [if_neg c2] at h; cases h
theorem pitem_ok {T : zN'} {n nf s s' : Nat} {B B' : zBd} (hn : nf ≤ 8) (hs : s < n) (hB : bkk nf B) (h : pitem T n nf B s = .inr (B', s')) : bkk nf B' ∧ s < s' ∧ s' ≤ n := by
  unfold pitem at h
  by_cases c : T s = 99
  · rw [if_pos c] at h
    by_cases c2 : bnc B < 20 ∧ bnc B < nf * (nf - 1)
    · rw [if_pos c2] at h
      have := pconv_ok (by omega) hB c2.1 h
      exact ⟨this.1, by omega, this.2.2⟩
    · rw [if_neg c2] at h; cases h
  · rw [if_neg c] at h
    by_cases c2 : bnp B < 6 ∧ T s = 112
    · rw [if_pos c2] at h
      have := pplace_ok hn (by omega) hB c2.1 h
      exact ⟨this.1, by omega, this.2.2⟩
    · rw [if_neg c2] at h; cases h
theorem pitems_ok {T : zN'} {n nf : Nat} (hn : nf ≤ 8) : ∀ k B s, s ≤ n → n - s < k → bkk nf B → ∃ r, pitems T n nf k B s = some r ∧ ∀ B', r = .inr B' → bkk nf B' := by
  intro k
  induction k with
  | zero => intro B s _ h; omega
  | succ k ih =>
    intro B s hs hk hB
    have e : pitems T n nf (k + 1) B s = if s < n then (match pitem T n nf B s with
      | .inl p => some (.inl p)
      | .inr (B', s') => pitems T n nf k B' s') else some (.inr B) := rfl
    rw [e]
    by_cases c : s < n
    · rw [if_pos c]
      cases hp : pitem T n nf B s with
      | inl p => exact ⟨.inl p, rfl, fun B' q => by cases q⟩
      | inr w =>
        obtain ⟨B1, s1⟩ := w
        obtain ⟨k1, k2, k3⟩ := pitem_ok hn c hB hp
        exact ih B1 s1 k3 (by omega) k1
    · rw [if_neg c]
      exact ⟨.inr B, rfl, fun B' q => by cases q; exact hB⟩
/-- a text that is read gives a board -/
theorem ptext_ok {T : zN'} {n f bu : Nat} {B : zBd} (hn : n ≤ 160) (h : ptext T n = .inr (f, bu, B)) : 1 ≤ f ∧ f ≤ 8 ∧ 1 ≤ bu ∧ bu ≤ 99999 ∧ bkk f B := by
  unfold ptext at h
  by_cases c : 0 < n ∧ T 0 = 75
  · rw [if_pos c] at h
    cases hd : dg T n 1 with
    | none => rw [hd] at h; cases h
    | some g =>
      rw [hd] at h
      dsimp only at h
      obtain ⟨d1, -⟩ := dg_some hd
      by_cases c2 : 1 ≤ g ∧ g ≤ 8
      · rw [if_pos c2] at h
        have n1 := pnum_ok (T := T) (n := n) (ab := true) 5 0 2 (by omega)
        cases hp1 : pnum T n true 5 0 2 with
        | mk o p1 =>
        rw [hp1] at h n1
        cases o with
        | none => cases h
        | some v =>
          dsimp only at h n1
          obtain ⟨m1, m2, m3⟩ := n1
          obtain ⟨k1, k2, -, k4⟩ := m3 v rfl
          obtain ⟨r, hr, hb⟩ := pitems_ok (T := T) (n := n) c2.2 pfu bz p1 m2 (by unfold pfu; omega) (bkk_bz c2.2)
          rw [hr] at h
          have := k4 rfl (by omega)
          cases r with
          | inl e => cases h
          | inr B' =>
            cases h
            exact ⟨c2.1, c2.2, by omega, by omega, hb _ rfl⟩
      · rw [if_neg c2] at h; cases h
  · rw [if_neg c] at h; cases h
/-- how many are linked -/
def lkc (fr tt : zN') (nf c : Nat) : Nat := nsum (fun a => nsum (fun b => if lkn fr tt a b c = true then 1 else 0) nf) nf
theorem nsum_sw {g g' : Nat → Nat} {n k : Nat} (hk : k < n) (h : ∀ j, j < n → j ≠ k → g' j = g j) (h1 : g' k = g k + 1) : nsum g' n = nsum g n + 1 := by
  have := nsum_chg hk h
  omega
theorem lkc_is {fr tt : zN'} {nf nc : Nat} (hb : bok fr tt nc nf) : ∀ c, c ≤ nc → lkc fr tt nf c = c := by
  intro c
  induction c with
  | zero =>
    intro _
    exact nsum_zero fun a _ => nsum_zero fun b _ => if_neg (fun z => by cases z)
  | succ c ih =>
    intro hc
    obtain ⟨f1, f2, f3⟩ := hb.2.2.1 c (by omega)
    have no : lkn fr tt (fr c) (tt c) c = false := by
      cases q : lkn fr tt (fr c) (tt c) c with
      | false => rfl
      | true =>
        obtain ⟨d, h1, h2, h3⟩ := lkn_iff.mp q
        have := hb.2.2.2 d c (by omega) (by omega) h2 h3
        omega
    rw [show lkc fr tt nf (c + 1) = lkc fr tt nf c + 1 from ?_, ih (by omega)]
    refine nsum_sw (k := fr c) f1 (fun a ha hn => ?_) ?_
    · refine nsum_congr fun b hb' => ?_
      have : lkn fr tt a b (c + 1) = lkn fr tt a b c := by
        show (lkn fr tt a b c || decide (fr c = a ∧ tt c = b)) = _
        rw [decide_eq_false (fun z => hn z.1.symm), Bool.or_false]
      rw [this]
    · refine nsum_sw (k := tt c) f2 (fun b hb' hn => ?_) ?_
      · have : lkn fr tt (fr c) b (c + 1) = lkn fr tt (fr c) b c := by
          show (lkn fr tt (fr c) b c || decide (fr c = fr c ∧ tt c = b)) = _
          rw [decide_eq_false (fun z => hn z.2.symm), Bool.or_false]
        rw [this]
      · have : lkn fr tt (fr c) (tt c) (c + 1) = true := by
          show (lkn fr tt (fr c) (tt c) c || decide (fr c = fr c ∧ tt c = tt c)) = _
          rw [decide_eq_true ⟨rfl, rfl⟩, Bool.or_true]
        rw [this, no, if_pos rfl, if_neg (by decide)]
theorem nsum_off {nf a : Nat} (ha : a < nf) : nsum (fun b => if b = a then 0 else 1) nf = nf - 1 := by
  have := nsum_sw (g := fun b => if b = a then 0 else 1) (g' := fun _ => 1) ha (fun j _ hn => by rw [if_neg hn]) (by rw [if_pos rfl])
  rw [nsum_one] at this
  omega
theorem nsum_const {n v : Nat} : nsum (fun _ => v) n = n * v := by
  induction n with
  | zero => rw [Nat.zero_mul]; rfl
  | succ n ih =>
    show nsum (fun _ => v) n + v = (n + 1) * v
    rw [ih, Nat.succ_mul]
/-- a pair is free just if there are fewer conversions than pairs -/
theorem may_iff {nf : Nat} {B : zBd} (hb : bok (bfr B) (btt B) (bnc B) nf) : (∃ a, a < nf ∧ frm B a nf = true) ↔ bnc B < nf * (nf - 1) := by
  have cnt := lkc_is hb (bnc B) (Nat.le_refl _)
  have self : ∀ a, lk B a a = false := fun a => by
    cases q : lk B a a with
    | false => rfl
    | true =>
      obtain ⟨d, h1, h2, h3⟩ := lkn_iff.mp q
      have := (hb.2.2.1 d h1).2.2
      rw [h2, h3] at this
      exact absurd rfl this
  have row : ∀ a, a < nf → nsum (fun b => if lkn (bfr B) (btt B) a b (bnc B) = true then 1 else 0) nf ≤ nf - 1 := fun a ha => by
    rw [← nsum_off ha]
    refine nsum_mono fun b hb' => ?_
    by_cases z : b = a
    · have := self a
      unfold lk at this
      rw [z, this, if_neg (by decide), if_pos rfl]
      exact Nat.le_refl _
    · rw [if_neg z]
      split <;> omega
  constructor
  · intro ⟨a, ha, hf⟩
    obtain ⟨b, b1, b2, b3⟩ := frm_iff.mp hf
    have lt : nsum (fun b => if lkn (bfr B) (btt B) a b (bnc B) = true then 1 else 0) nf < nf - 1 := by
      rw [← nsum_off ha]
      refine nsum_lt (k := b) b1 (fun j hj => ?_) ?_
      · by_cases z : j = a
        · have := self a
          unfold lk at this
          rw [z, this, if_neg (by decide), if_pos rfl]
          exact Nat.le_refl _
        · rw [if_neg z]
          split <;> omega
      · unfold lk at b3
        rw [b3, if_neg (by decide), if_neg b2]
        exact Nat.one_pos
    have := nsum_lt (g := fun a => nsum (fun b => if lkn (bfr B) (btt B) a b (bnc B) = true then 1 else 0) nf) (g' := fun _ => nf - 1) ha row lt
    rw [nsum_const] at this
    unfold lkc at cnt
    omega
  · intro h
    refine Classical.byContradiction fun no => ?_
    have all : ∀ a b, a < nf → b < nf → b ≠ a → lk B a b = true := fun a b ha hb' hn => by
      cases q : lk B a b with
      | true => rfl
      | false => exact absurd ⟨a, ha, frm_iff.mpr ⟨b, hb', hn, q⟩⟩ no
    have eq : lkc (bfr B) (btt B) nf (bnc B) = nf * (nf - 1) := by
      rw [← nsum_const]
      refine nsum_congr fun a ha => ?_
      rw [← nsum_off ha]
      refine nsum_congr fun b hb' => ?_
      by_cases z : b = a
      · have := self a
        unfold lk at this
        rw [z, this, if_neg (by decide), if_pos rfl]
      · have := all a b ha hb' z
        unfold lk at this
        rw [this, if_pos rfl, if_neg z]
    omega
