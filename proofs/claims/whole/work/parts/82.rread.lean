/-! pure: the reference reads a text, item by item -/
def RBr (h : zH) (m nf : Nat) (B : zBd) : Prop := zI h m 13 = nI nf ∧ zI h m 14 = nI (bnc B) ∧ zI h m 15 = nI (bnp B) ∧ (∀ c, c < bnc B → zI h (m + 8) c = nI (bfr B c) ∧ zI h (m + 9) c = nI (btt B c) ∧ zI h (m + 10) c = nI (bco B c) ∧ zI h (m + 11) c = nI (bgr B c) ∧ zI h (m + 12) c = nI (blo B c)) ∧ ∀ p, p < bnp B → zI h (m + 13) p = nI (bac B p) ∧ zI h (m + 14) p = nI (bli B p)
def RTF (m : Nat) (h h' : zH) : Prop := zkd h' = zkd h ∧ zln h' = zln h ∧ zJ h' = zJ h ∧ zP h' = zP h ∧ (∀ a, a ≠ m → (a < m + 8 ∨ m + 14 < a) → zI h' a = zI h a) ∧ ∀ k, k ≠ 3 → (k < 13 ∨ 15 < k) → zI h' m k = zI h m k
/-- .. and the budget that was read -/
def RTG (m : Nat) (h h' : zH) : Prop := zkd h' = zkd h ∧ zln h' = zln h ∧ zJ h' = zJ h ∧ zP h' = zP h ∧ (∀ a, a ≠ m → (a < m + 8 ∨ m + 14 < a) → zI h' a = zI h a) ∧ ∀ k, k ≠ 3 → (k < 13 ∨ 16 < k) → zI h' m k = zI h m k
section RREAD
variable {h h' g : zH} {m n s nf : Nat} {T : zN'} {B : zBd}
theorem RTF.rf : RTF m h h := ⟨rfl, rfl, rfl, rfl, fun _ _ _ => rfl, fun _ _ _ => rfl⟩
theorem RTF.tr (f : RTF m h h') (q : RTF m h' g) : RTF m h g := ⟨q.1.trans f.1, q.2.1.trans f.2.1, q.2.2.1.trans f.2.2.1, q.2.2.2.1.trans f.2.2.2.1, fun a h1 h2 => (q.2.2.2.2.1 a h1 h2).trans (f.2.2.2.2.1 a h1 h2), fun k h1 h2 => (q.2.2.2.2.2 k h1 h2).trans (f.2.2.2.2.2 k h1 h2)⟩
theorem RTF.sm {k : Nat} {v : Int32} (hk : k = 3 ∨ (13 ≤ k ∧ k ≤ 15)) : RTF m h (zsI h m k v) := ⟨rfl, rfl, rfl, rfl, fun a h1 _ => sI_a h1, fun j h1 h2 => sI_k (by omega)⟩
theorem RTF.sa {a k : Nat} {v : Int32} (h1 : m + 8 ≤ a) (h2 : a ≤ m + 14) : RTF m h (zsI h a k v) := ⟨rfl, rfl, rfl, rfl, fun b g1 g2 => sI_a (by omega), fun j _ _ => by rw [sI_a (by omega)]⟩
theorem RTF.gg (f : RTF m h h') : RTG m h h' := ⟨f.1, f.2.1, f.2.2.1, f.2.2.2.1, f.2.2.2.2.1, fun k h1 h2 => f.2.2.2.2.2 k h1 (by omega)⟩
theorem RTG.tr (f : RTG m h h') (q : RTG m h' g) : RTG m h g := ⟨q.1.trans f.1, q.2.1.trans f.2.1, q.2.2.1.trans f.2.2.1, q.2.2.2.1.trans f.2.2.2.1, fun a h1 h2 => (q.2.2.2.2.1 a h1 h2).trans (f.2.2.2.2.1 a h1 h2), fun k h1 h2 => (q.2.2.2.2.2 k h1 h2).trans (f.2.2.2.2.2 k h1 h2)⟩
theorem RTG.sm {k : Nat} {v : Int32} (hk : k = 3 ∨ (13 ≤ k ∧ k ≤ 16)) : RTG m h (zsI h m k v) := ⟨rfl, rfl, rfl, rfl, fun a h1 _ => sI_a h1, fun j h1 h2 => sI_k (by omega)⟩
theorem RTG.rt (f : RTG m h h') (hT : RefT h m) : RefT h' m := RefT.fI f.1 f.2.1 (by rw [f.2.2.2.1]) hT
theorem RTF.rt (f : RTF m h h') (hT : RefT h m) : RefT h' m := RefT.fI f.1 f.2.1 (by rw [f.2.2.2.1]) hT
theorem RBr_3 {v : Int32} (hB : RBr h m nf B) : RBr (zsI h m 3 v) m nf B := by
  unfold RBr
  rw [sI_k (by omega), sI_k (by omega), sI_k (by omega), sI_a (by omega), sI_a (by omega), sI_a (by omega), sI_a (by omega), sI_a (by omega), sI_a (by omega), sI_a (by omega)]
  exact hB
theorem shl1 {f : Nat} (hf : f < 31) : nI 1 <<< (nI f &&& nI 31) = nI (2 ^ f) := shl_bit f hf
def awp (B : zBd) (f c : Nat) : Nat → Bool := fun b => decide (b = f) || lkn (bfr B) (btt B) f b c
theorem r_away {f : Nat} (hT : RefT h m) (hB : RBr h m nf B) (hk : bkk nf B) (hf : f < nf) : fX7_readAway h m (nI f) = some (nI (bsm (awp B f (bnc B)) nf), h) := by
  have n8 := hk.1.1
  have n20 := hk.1.2.1
  obtain ⟨b1, b2, b3, b4, b5⟩ := hB
  have key : ∀ d c fu, c + d = bnc B → d < fu → fX7_readAway_L6 (fun h1 y2 y3 => some (y2, h1)) m (nI f) fu h (nI (bsm (awp B f c) nf)) (nI c) = some (nI (bsm (awp B f (bnc B)) nf), h) := by
    intro d
    induction d with
    | zero =>
      intro c fu hc hfu
      obtain ⟨fu, rfl⟩ := fuel1 hfu
      have e : c = bnc B := by omega
      subst e
      rw [fX7_readAway_L6]
      simp (disch := first | assumption | ((repeat apply RefT.s) <;> assumption) | omega) only [nl, nI_add, pk_mul, Option.bind_some, zb2_some, nI_le_t, nI_le_f, nI_lt_t, nI_lt_f, nI_eq_t, nI_eq_f, nI_m1, nI_em1, ↓reduceIte, Nat.add_zero, nI_n9, qI, b2]
    | succ d ih =>
      intro c fu hc hfu
      obtain ⟨fu, rfl⟩ := fuel1 hfu
      obtain ⟨r1, r2, -⟩ := b4 c (by omega)
      obtain ⟨g1, g2, g3⟩ := hk.1.2.2.1 c (by omega)
      rw [fX7_readAway_L6, ← ih (c + 1) fu (by omega) (by omega)]
      by_cases q : bfr B c = f
      · have sh := shl1 (f := btt B c) (by omega)
        have o : bsm (awp B f c) nf ||| 2 ^ btt B c = bsm (awp B f (c + 1)) nf := by
          rw [bsm_or g2]
          refine bsm_congr fun b _ => ?_
          show ((decide (b = f) || lkn (bfr B) (btt B) f b c) || decide (b = btt B c)) = (decide (b = f) || (lkn (bfr B) (btt B) f b c || decide (bfr B c = f ∧ btt B c = b)))
          rw [Bool.or_assoc]
          congr 2
          by_cases z : b = btt B c
          · rw [decide_eq_true z, decide_eq_true ⟨q, z.symm⟩]
          · rw [decide_eq_false z, decide_eq_false (fun w => z w.2.symm)]
        simp (disch := first | assumption | ((repeat apply RefT.s) <;> assumption) | omega) only [nl, nI_add, pk_mul, Option.bind_some, zb2_some, nI_le_t, nI_le_f, nI_lt_t, nI_lt_f, nI_eq_t, nI_eq_f, nI_m1, nI_em1, ↓reduceIte, Nat.add_zero, nI_n9, qI, b2, qg8, qa8, r1, q, qg9, qa9, r2, sh, nI_or, o]
      · have o : bsm (awp B f c) nf = bsm (awp B f (c + 1)) nf := by
          refine bsm_congr fun b _ => ?_
          show (decide (b = f) || lkn (bfr B) (btt B) f b c) = (decide (b = f) || (lkn (bfr B) (btt B) f b c || decide (bfr B c = f ∧ btt B c = b)))
          have z : ¬ (bfr B c = f ∧ btt B c = b) := fun w => q w.1
          rw [decide_eq_false z, Bool.or_false]
        simp (disch := first | assumption | ((repeat apply RefT.s) <;> assumption) | omega) only [nl, nI_add, pk_mul, Option.bind_some, zb2_some, nI_le_t, nI_le_f, nI_lt_t, nI_lt_f, nI_eq_t, nI_eq_f, nI_m1, nI_em1, ↓reduceIte, Nat.add_zero, nI_n9, qI, b2, qg8, qa8, r1, nI_or, Nat.or_zero, o]
  unfold fX7_readAway
  have sh := shl1 (f := f) (by omega)
  have st : bsm (awp B f 0) nf = 2 ^ f := by
    have z : bsm (fun _ => false) nf = 0 := nsum_zero fun j _ => if_neg (fun q => by cases q)
    have o := bsm_or (p := fun _ => false) hf
    rw [z, Nat.zero_or] at o
    rw [o]
    refine bsm_congr fun b _ => ?_
    show (decide (b = f) || false) = (false || decide (b = f))
    rw [Bool.or_false, Bool.false_or]
  rw [if_pos hT.1, show (1 : Int32) <<< (nI f &&& 31) = nI (2 ^ f) from sh, ← st]
  exact key (bnc B) 0 zF (by omega) (by unfold zF; omega)
theorem away_all {f : Nat} (hf : f < nf) : bsm (awp B f (bnc B)) nf = 2 ^ nf - 1 ↔ frm B f nf = false := by
  rw [bsm_all]
  constructor
  · intro q
    cases z : frm B f nf with
    | false => rfl
    | true =>
      obtain ⟨b, b1, b2, b3⟩ := frm_iff.mp z
      have := q b b1
      unfold awp at this
      unfold lk at b3
      rw [b3, decide_eq_false b2] at this
      cases this
  · intro q b hb
    show (decide (b = f) || lkn (bfr B) (btt B) f b (bnc B)) = true
    by_cases z : b = f
    · rw [decide_eq_true z, Bool.true_or]
    · cases w : lkn (bfr B) (btt B) f b (bnc B) with
      | true => rw [Bool.or_true]
      | false =>
        have : frm B f nf = true := frm_iff.mpr ⟨b, hb, z, w⟩
        rw [q] at this; cases this
def myn (B : zBd) (nf : Nat) : Nat → Bool
  | 0 => false
  | f + 1 => myn B nf f || frm B f nf
theorem myn_iff : ∀ {k : Nat}, myn B nf k = true ↔ ∃ a, a < k ∧ frm B a nf = true := by
  intro k
  induction k with
  | zero => exact ⟨fun h => (by cases h), fun ⟨c, h, _⟩ => by omega⟩
  | succ k ih =>
    show (myn B nf k || frm B k nf) = true ↔ _
    rw [Bool.or_eq_true, ih]
    constructor
    · intro h
      rcases h with ⟨c, h1, h2⟩ | h
      · exact ⟨c, by omega, h2⟩
      · exact ⟨k, by omega, h⟩
    · intro ⟨c, h1, h2⟩
      by_cases z : c = k
      · rw [z] at h2; exact Or.inr h2
      · exact Or.inl ⟨c, by omega, h2⟩
theorem pow8 (hn : nf ≤ 8) : 0 < 2 ^ nf ∧ 2 ^ nf ≤ 256 := ⟨Nat.two_pow_pos nf, (Nat.pow_le_pow_right (by omega) hn : 2 ^ nf ≤ 2 ^ 8)⟩
theorem r_may (hT : RefT h m) (hB : RBr h m nf B) (hk : bkk nf B) : fX7_mayConvert h m = some (if bnc B < 20 ∧ bnc B < nf * (nf - 1) then nI 1 else nI 0, h) := by
  have n8 := hk.1.1
  have n20 := hk.1.2.1
  obtain ⟨b1, b2, b3, b4, b5⟩ := id hB
  obtain ⟨p0, p8⟩ := pow8 n8
  have sh := shl1 (f := nf) (by omega)
  have key : ∀ (k : zH → Int32 → Int32 → Option (Int32 × zH)) d f fu, f + d = nf → d < fu → fX7_mayConvert_L4 k m fu h (if myn B nf f = true then nI 1 else nI 0) (nI f) = k h (if myn B nf nf = true then nI 1 else nI 0) (nI nf) := by
    intro k d
    induction d with
    | zero =>
      intro f fu hc hfu
      obtain ⟨fu, rfl⟩ := fuel1 hfu
      have e : f = nf := by omega
      subst e
      rw [fX7_mayConvert_L4]
      simp (disch := first | assumption | ((repeat apply RefT.s) <;> assumption) | omega) only [nl, nI_add, pk_mul, Option.bind_some, zb2_some, nI_le_t, nI_le_f, nI_lt_t, nI_lt_f, nI_eq_t, nI_eq_f, nI_m1, nI_em1, ↓reduceIte, Nat.add_zero, nI_n9, qI, b1]
    | succ d ih =>
      intro f fu hc hfu
      obtain ⟨fu, rfl⟩ := fuel1 hfu
      rw [fX7_mayConvert_L4, ← ih (f + 1) fu (by omega) (by omega)]
      have st : myn B nf (f + 1) = (myn B nf f || frm B f nf) := rfl
      rw [st]
      have aw := r_away hT hB hk (f := f) (by omega)
      have al := away_all (B := B) (f := f) (nf := nf) (by omega)
      have bl := bsm_lt (awp B f (bnc B)) nf
      cases q : myn B nf f with
      | true =>
        rw [Bool.true_or]
        simp (disch := first | assumption | ((repeat apply RefT.s) <;> assumption) | omega) only [nl, nI_add, pk_mul, Option.bind_some, zb2_some, nI_le_t, nI_le_f, nI_lt_t, nI_lt_f, nI_eq_t, nI_eq_f, nI_m1, nI_em1, ↓reduceIte, Nat.add_zero, nI_n9, qI, b1]
      | false =>
        rw [Bool.false_or]
        cases w : frm B f nf with
        | false =>
          have e := al.mpr w
          simp (disch := first | assumption | ((repeat apply RefT.s) <;> assumption) | omega) only [nl, nI_add, pk_mul, Option.bind_some, zb2_some, nI_le_t, nI_le_f, nI_lt_t, nI_lt_f, nI_eq_t, nI_eq_f, nI_m1, nI_em1, ↓reduceIte, Nat.add_zero, nI_n9, qI, b1, aw, sh, pk_sub, e, Bool.false_eq_true]
        | true =>
          have e : bsm (awp B f (bnc B)) nf ≠ 2 ^ nf - 1 := fun z => by rw [al.mp z] at w; cases w
          simp (disch := first | assumption | ((repeat apply RefT.s) <;> assumption) | omega) only [nl, nI_add, pk_mul, Option.bind_some, zb2_some, nI_le_t, nI_le_f, nI_lt_t, nI_lt_f, nI_eq_t, nI_eq_f, nI_m1, nI_em1, ↓reduceIte, Nat.add_zero, nI_n9, qI, b1, aw, sh, pk_sub, Bool.false_eq_true]
  have mi := may_iff (nf := nf) (B := B) hk.1
  have K := fun k => key k nf 0 zF (by omega) (by unfold zF; omega)
  have z0 : (if myn B nf 0 = true then nI 1 else nI 0) = nI 0 := if_neg (fun q => by cases q)
  rw [z0] at K
  by_cases c : bnc B < 20 ∧ bnc B < nf * (nf - 1)
  · have y : myn B nf nf = true := myn_iff.mpr (mi.mpr c.2)
    obtain ⟨c1, c2⟩ := id c
    rw [y] at K
    rw [if_pos c]
    unfold fX7_mayConvert
    simp (disch := first | assumption | ((repeat apply RefT.s) <;> assumption) | omega) only [nl, nI_add, pk_mul, Option.bind_some, zb2_some, nI_le_t, nI_le_f, nI_lt_t, nI_lt_f, nI_eq_t, nI_eq_f, nI_m1, nI_em1, ↓reduceIte, Nat.add_zero, nI_n9, hT.1, K, qI, b2]
  · rw [if_neg c]
    cases y : myn B nf nf with
    | true =>
      have c1 : ¬ bnc B < 20 := fun z => c ⟨z, mi.mp (myn_iff.mp y)⟩
      rw [y] at K
      unfold fX7_mayConvert
      simp (disch := first | assumption | ((repeat apply RefT.s) <;> assumption) | omega) only [nl, nI_add, pk_mul, Option.bind_some, zb2_some, nI_le_t, nI_le_f, nI_lt_t, nI_lt_f, nI_eq_t, nI_eq_f, nI_m1, nI_em1, ↓reduceIte, Nat.add_zero, nI_n9, hT.1, K, qI, b2]
    | false =>
      rw [y] at K
      unfold fX7_mayConvert
      simp (disch := first | assumption | ((repeat apply RefT.s) <;> assumption) | omega) only [nl, nI_add, pk_mul, Option.bind_some, zb2_some, nI_le_t, nI_le_f, nI_lt_t, nI_lt_f, nI_eq_t, nI_eq_f, nI_m1, nI_em1, ↓reduceIte, Nat.add_zero, nI_n9, hT.1, K, Bool.false_eq_true]
theorem inZ (h : zH) {d c : Nat} (hc : c < 2 ^ 30) (h1 : 1 ≤ c) (hd : d < 2 ^ 31) : fX7_in h (nI d).toInt64 0 (nI (c - 1)).toInt64 = some (if d < c then nI 1 else nI 0, h) := by
  have := p_in0 h (nI d) hc
  rw [show nI c - 1 = nI (c - 1) from pk_sub h1] at this
  rw [this]
  by_cases q : d < c
  · rw [if_pos q, if_neg (fun z => z.elim (nI_pos hd) (fun w => by have := (nI_leI (by omega) hd).mp w; omega))]
    rfl
  · rw [if_neg q, if_pos (Or.inr ((nI_leI (by omega) hd).mpr (by omega)))]
    rfl
theorem inZn (h : zH) {c : Nat} (hc : c < 2 ^ 30) (h1 : 1 ≤ c) : fX7_in h (nI 4294967287).toInt64 0 (nI (c - 1)).toInt64 = some (nI 0, h) := by
  have := p_in0 h (nI 4294967287) hc
  rw [show nI c - 1 = nI (c - 1) from pk_sub h1, if_pos (Or.inl (by decide))] at this
  exact this
theorem inL (h : zH) {d c l : Nat} (hc : c < 2 ^ 30) (h1 : 1 ≤ c) (hd : d < 2 ^ 30) (hl : l < 2 ^ 30) : fX7_in h (nI d).toInt64 (nI l).toInt64 (nI (c - 1)).toInt64 = some (if l ≤ d ∧ d < c then nI 1 else nI 0, h) := by
  rw [p_in]
  by_cases q : l ≤ d ∧ d < c
  · rw [if_pos q, if_pos ⟨(nI_leI (by omega) (by omega)).mpr q.1, (nI_leI (by omega) (by omega)).mpr (by omega)⟩]
    rfl
  · rw [if_neg q, if_neg (fun z => q ⟨(nI_leI (by omega) (by omega)).mp z.1, by have := (nI_leI (by omega) (by omega)).mp z.2; omega⟩)]
    rfl
theorem inLn (h : zH) {c l : Nat} (hl : l < 2 ^ 30) : fX7_in h (nI 4294967287).toInt64 (nI l).toInt64 (nI (c - 1)).toInt64 = some (nI 0, h) := by
  rw [p_in, if_neg]
  · rfl
  · intro z
    have q := nI_pos' (n := l) (by omega)
    have w : (nI 4294967287 : Int32) < 0 := by decide
    exact Int32.not_lt.mpr (Int32.le_trans q z.1) w
end RREAD
