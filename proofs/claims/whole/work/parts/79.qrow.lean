/-! pure: the reference's cells, heaps as they are; bits -/
section QROW
variable {h : zH} {m i : Nat} {v : Int32}
theorem qg1 (hT : RefT h m) : zgP h 7 m 1 = some (m + 1) := rg1 (I := zI h) hT
theorem qa1 (hT : RefT h m) (hi : i < 160) : zaI h (m + 1) (nI i) = some (zI h (m + 1) i) := ra1 (I := zI h) hT hi
theorem qb1 (hT : RefT h m) (hi : i < 160) : zbI h (m + 1) (nI i) v = some (zsI h (m + 1) i v) := bI_ (rk1 hT) (by rw [rl1 hT]; exact hi) (by rw [rl1 hT]; decide)
theorem qg2 (hT : RefT h m) : zgP h 7 m 7 = some (m + 2) := rg2 (I := zI h) hT
theorem qa2 (hT : RefT h m) (hi : i < 20) : zaI h (m + 2) (nI i) = some (zI h (m + 2) i) := ra2 (I := zI h) hT hi
theorem qb2 (hT : RefT h m) (hi : i < 20) : zbI h (m + 2) (nI i) v = some (zsI h (m + 2) i v) := bI_ (rk2 hT) (by rw [rl2 hT]; exact hi) (by rw [rl2 hT]; decide)
theorem qg3 (hT : RefT h m) : zgP h 7 m 8 = some (m + 3) := rg3 (I := zI h) hT
theorem qa3 (hT : RefT h m) (hi : i < 20) : zaI h (m + 3) (nI i) = some (zI h (m + 3) i) := ra3 (I := zI h) hT hi
theorem qb3 (hT : RefT h m) (hi : i < 20) : zbI h (m + 3) (nI i) v = some (zsI h (m + 3) i v) := bI_ (rk3 hT) (by rw [rl3 hT]; exact hi) (by rw [rl3 hT]; decide)
theorem qg4 (hT : RefT h m) : zgP h 7 m 9 = some (m + 4) := rg4 (I := zI h) hT
theorem qa4 (hT : RefT h m) (hi : i < 20) : zaI h (m + 4) (nI i) = some (zI h (m + 4) i) := ra4 (I := zI h) hT hi
theorem qb4 (hT : RefT h m) (hi : i < 20) : zbI h (m + 4) (nI i) v = some (zsI h (m + 4) i v) := bI_ (rk4 hT) (by rw [rl4 hT]; exact hi) (by rw [rl4 hT]; decide)
theorem qg5 (hT : RefT h m) : zgP h 7 m 10 = some (m + 5) := rg5 (I := zI h) hT
theorem qa5 (hT : RefT h m) (hi : i < 20) : zaI h (m + 5) (nI i) = some (zI h (m + 5) i) := ra5 (I := zI h) hT hi
theorem qb5 (hT : RefT h m) (hi : i < 20) : zbI h (m + 5) (nI i) v = some (zsI h (m + 5) i v) := bI_ (rk5 hT) (by rw [rl5 hT]; exact hi) (by rw [rl5 hT]; decide)
theorem qg6 (hT : RefT h m) : zgP h 7 m 11 = some (m + 6) := rg6 (I := zI h) hT
theorem qa6 (hT : RefT h m) (hi : i < 6) : zaI h (m + 6) (nI i) = some (zI h (m + 6) i) := ra6 (I := zI h) hT hi
theorem qb6 (hT : RefT h m) (hi : i < 6) : zbI h (m + 6) (nI i) v = some (zsI h (m + 6) i v) := bI_ (rk6 hT) (by rw [rl6 hT]; exact hi) (by rw [rl6 hT]; decide)
theorem qg7 (hT : RefT h m) : zgP h 7 m 12 = some (m + 7) := rg7 (I := zI h) hT
theorem qa7 (hT : RefT h m) (hi : i < 6) : zaI h (m + 7) (nI i) = some (zI h (m + 7) i) := ra7 (I := zI h) hT hi
theorem qb7 (hT : RefT h m) (hi : i < 6) : zbI h (m + 7) (nI i) v = some (zsI h (m + 7) i v) := bI_ (rk7 hT) (by rw [rl7 hT]; exact hi) (by rw [rl7 hT]; decide)
theorem qg8 (hT : RefT h m) : zgP h 7 m 17 = some (m + 8) := rg8 (I := zI h) hT
theorem qa8 (hT : RefT h m) (hi : i < 20) : zaI h (m + 8) (nI i) = some (zI h (m + 8) i) := ra8 (I := zI h) hT hi
theorem qb8 (hT : RefT h m) (hi : i < 20) : zbI h (m + 8) (nI i) v = some (zsI h (m + 8) i v) := bI_ (rk8 hT) (by rw [rl8 hT]; exact hi) (by rw [rl8 hT]; decide)
theorem qg9 (hT : RefT h m) : zgP h 7 m 18 = some (m + 9) := rg9 (I := zI h) hT
theorem qa9 (hT : RefT h m) (hi : i < 20) : zaI h (m + 9) (nI i) = some (zI h (m + 9) i) := ra9 (I := zI h) hT hi
theorem qb9 (hT : RefT h m) (hi : i < 20) : zbI h (m + 9) (nI i) v = some (zsI h (m + 9) i v) := bI_ (rk9 hT) (by rw [rl9 hT]; exact hi) (by rw [rl9 hT]; decide)
theorem qg10 (hT : RefT h m) : zgP h 7 m 19 = some (m + 10) := rg10 (I := zI h) hT
theorem qa10 (hT : RefT h m) (hi : i < 20) : zaI h (m + 10) (nI i) = some (zI h (m + 10) i) := ra10 (I := zI h) hT hi
theorem qb10 (hT : RefT h m) (hi : i < 20) : zbI h (m + 10) (nI i) v = some (zsI h (m + 10) i v) := bI_ (rk10 hT) (by rw [rl10 hT]; exact hi) (by rw [rl10 hT]; decide)
theorem qg11 (hT : RefT h m) : zgP h 7 m 20 = some (m + 11) := rg11 (I := zI h) hT
theorem qa11 (hT : RefT h m) (hi : i < 20) : zaI h (m + 11) (nI i) = some (zI h (m + 11) i) := ra11 (I := zI h) hT hi
theorem qb11 (hT : RefT h m) (hi : i < 20) : zbI h (m + 11) (nI i) v = some (zsI h (m + 11) i v) := bI_ (rk11 hT) (by rw [rl11 hT]; exact hi) (by rw [rl11 hT]; decide)
theorem qg12 (hT : RefT h m) : zgP h 7 m 21 = some (m + 12) := rg12 (I := zI h) hT
theorem qa12 (hT : RefT h m) (hi : i < 20) : zaI h (m + 12) (nI i) = some (zI h (m + 12) i) := ra12 (I := zI h) hT hi
theorem qb12 (hT : RefT h m) (hi : i < 20) : zbI h (m + 12) (nI i) v = some (zsI h (m + 12) i v) := bI_ (rk12 hT) (by rw [rl12 hT]; exact hi) (by rw [rl12 hT]; decide)
theorem qg13 (hT : RefT h m) : zgP h 7 m 22 = some (m + 13) := rg13 (I := zI h) hT
theorem qa13 (hT : RefT h m) (hi : i < 6) : zaI h (m + 13) (nI i) = some (zI h (m + 13) i) := ra13 (I := zI h) hT hi
theorem qb13 (hT : RefT h m) (hi : i < 6) : zbI h (m + 13) (nI i) v = some (zsI h (m + 13) i v) := bI_ (rk13 hT) (by rw [rl13 hT]; exact hi) (by rw [rl13 hT]; decide)
theorem qg14 (hT : RefT h m) : zgP h 7 m 23 = some (m + 14) := rg14 (I := zI h) hT
theorem qa14 (hT : RefT h m) (hi : i < 6) : zaI h (m + 14) (nI i) = some (zI h (m + 14) i) := ra14 (I := zI h) hT hi
theorem qb14 (hT : RefT h m) (hi : i < 6) : zbI h (m + 14) (nI i) v = some (zsI h (m + 14) i v) := bI_ (rk14 hT) (by rw [rl14 hT]; exact hi) (by rw [rl14 hT]; decide)
theorem qg15 (hT : RefT h m) : zgP h 7 m 24 = some (m + 15) := rg15 (I := zI h) hT
theorem qa15 (hT : RefT h m) (hi : i < 360) : zaI h (m + 15) (nI i) = some (zI h (m + 15) i) := ra15 (I := zI h) hT hi
theorem qb15 (hT : RefT h m) (hi : i < 360) : zbI h (m + 15) (nI i) v = some (zsI h (m + 15) i v) := bI_ (rk15 hT) (by rw [rl15 hT]; exact hi) (by rw [rl15 hT]; decide)
theorem qg16 (hT : RefT h m) : zgP h 7 m 25 = some (m + 16) := rg16 (I := zI h) hT
theorem qa16 (hT : RefT h m) (hi : i < 360) : zaI h (m + 16) (nI i) = some (zI h (m + 16) i) := ra16 (I := zI h) hT hi
theorem qb16 (hT : RefT h m) (hi : i < 360) : zbI h (m + 16) (nI i) v = some (zsI h (m + 16) i v) := bI_ (rk16 hT) (by rw [rl16 hT]; exact hi) (by rw [rl16 hT]; decide)
theorem qg17 (hT : RefT h m) : zgP h 7 m 26 = some (m + 17) := rg17 (I := zI h) hT
theorem qa17 (hT : RefT h m) (hi : i < 360) : zaI h (m + 17) (nI i) = some (zI h (m + 17) i) := ra17 (I := zI h) hT hi
theorem qb17 (hT : RefT h m) (hi : i < 360) : zbI h (m + 17) (nI i) v = some (zsI h (m + 17) i v) := bI_ (rk17 hT) (by rw [rl17 hT]; exact hi) (by rw [rl17 hT]; decide)
theorem qg18 (hT : RefT h m) : zgP h 7 m 27 = some (m + 18) := rg18 (I := zI h) hT
theorem qa18 (hT : RefT h m) (hi : i < 5040) : zaI h (m + 18) (nI i) = some (zI h (m + 18) i) := ra18 (I := zI h) hT hi
theorem qb18 (hT : RefT h m) (hi : i < 5040) : zbI h (m + 18) (nI i) v = some (zsI h (m + 18) i v) := bI_ (rk18 hT) (by rw [rl18 hT]; exact hi) (by rw [rl18 hT]; decide)
theorem qg19 (hT : RefT h m) : zgP h 7 m 29 = some (m + 19) := rg19 (I := zI h) hT
theorem qa19 (hT : RefT h m) (hi : i < 720) : zaI h (m + 19) (nI i) = some (zI h (m + 19) i) := ra19 (I := zI h) hT hi
theorem qb19 (hT : RefT h m) (hi : i < 720) : zbI h (m + 19) (nI i) v = some (zsI h (m + 19) i v) := bI_ (rk19 hT) (by rw [rl19 hT]; exact hi) (by rw [rl19 hT]; decide)
theorem qg20 (hT : RefT h m) : zgP h 7 m 30 = some (m + 20) := rg20 (I := zI h) hT
theorem qa20 (hT : RefT h m) (hi : i < 2) : zaZ h (m + 20) (nI i) = some (zI h (m + 20) i) := ra20 (I := zI h) hT hi
theorem qb20 (hT : RefT h m) (hv : v = 0 ∨ v = 1) (hi : i < 2) : zbZ h (m + 20) (nI i) v = some (zsI h (m + 20) i v) := bZ_ (rk20 hT) hv (by rw [rl20 hT]; exact hi) (by rw [rl20 hT]; decide)
theorem qg21 (hT : RefT h m) : zgP h 7 m 31 = some (m + 21) := rg21 (I := zI h) hT
theorem qa21 (hT : RefT h m) (hi : i < 64) : zaI h (m + 21) (nI i) = some (zI h (m + 21) i) := ra21 (I := zI h) hT hi
theorem qb21 (hT : RefT h m) (hi : i < 64) : zbI h (m + 21) (nI i) v = some (zsI h (m + 21) i v) := bI_ (rk21 hT) (by rw [rl21 hT]; exact hi) (by rw [rl21 hT]; decide)
theorem qg22 (hT : RefT h m) : zgP h 7 m 32 = some (m + 22) := rg22 (I := zI h) hT
theorem qa22 (hT : RefT h m) (hi : i < 64) : zaI h (m + 22) (nI i) = some (zI h (m + 22) i) := ra22 (I := zI h) hT hi
theorem qb22 (hT : RefT h m) (hi : i < 64) : zbI h (m + 22) (nI i) v = some (zsI h (m + 22) i v) := bI_ (rk22 hT) (by rw [rl22 hT]; exact hi) (by rw [rl22 hT]; decide)
theorem qg23 (hT : RefT h m) : zgP h 7 m 38 = some (m + 23) := rg23 (I := zI h) hT
theorem qa23 (hT : RefT h m) (hi : i < 360) : zaI h (m + 23) (nI i) = some (zI h (m + 23) i) := ra23 (I := zI h) hT hi
theorem qb23 (hT : RefT h m) (hi : i < 360) : zbI h (m + 23) (nI i) v = some (zsI h (m + 23) i v) := bI_ (rk23 hT) (by rw [rl23 hT]; exact hi) (by rw [rl23 hT]; decide)
theorem qI (hT : RefT h m) {k : Nat} : zgI h 7 m k = some (zI h m k) := gI_ hT.1
theorem qp (hT : RefT h m) {k : Nat} : zpI h 7 m k v = some (zsI h m k v) := pI_ hT.1
theorem RefT.s {a k : Nat} (hT : RefT h m) : RefT (zsI h a k v) m := hT
theorem RefT.fI {h' : zH} (k : zkd h' = zkd h) (l : zln h' = zln h) (p : zP h' m = zP h m) (hT : RefT h m) : RefT h' m := by
  unfold RefT
  rw [k, l, p]
  exact hT
theorem sI_sI {a k : Nat} {w : Int32} : zsI (zsI h a k v) a k w = zsI h a k w := by
  have e : zu (zu (zI h) a k v) a k w = zu (zI h) a k w := by
    funext b j
    unfold zu
    split <;> rfl
  show (zkd h, zln h, zu (zu (zI h) a k v) a k w, zJ h, zP h, zn h) = _
  rw [e]; rfl
theorem sI_self {a k : Nat} (e : zI h a k = v) : zsI h a k v = h := by
  have e : zu (zI h) a k v = zI h := by
    funext b j
    unfold zu
    split
    · rename_i c; rw [c.1, c.2, e]
    · rfl
  show (zkd h, zln h, zu (zI h) a k v, zJ h, zP h, zn h) = _
  rw [e]; rfl
end QROW
theorem bsm_tb {p : Nat → Bool} {n i : Nat} : Nat.testBit (bsm p n) i = (decide (i < n) && p i) := by
  by_cases c : i < n
  · rw [decide_eq_true c, Bool.true_and, Nat.testBit_eq_decide_div_mod_eq, bsm_bit c]
    cases p i with
    | true => rfl
    | false => rfl
  · rw [decide_eq_false c, Bool.false_and]
    exact Nat.testBit_lt_two_pow (Nat.lt_of_lt_of_le (bsm_lt p n) (Nat.pow_le_pow_right (by omega) (by omega)))
theorem bsm_or {p : Nat → Bool} {n c : Nat} (hc : c < n) : bsm p n ||| 2 ^ c = bsm (fun j => p j || decide (j = c)) n := by
  refine Nat.eq_of_testBit_eq fun i => ?_
  rw [Nat.testBit_or, bsm_tb, bsm_tb, Nat.testBit_two_pow]
  by_cases z : c = i
  · subst z
    rw [decide_eq_true hc, decide_eq_true rfl]
    simp
  · have z' : ¬ i = c := fun q => z q.symm
    rw [decide_eq_false z, decide_eq_false z', Bool.or_false, Bool.or_false]
theorem bsm_true : ∀ n, bsm (fun _ => true) n = 2 ^ n - 1 := by
  intro n
  induction n with
  | zero => rfl
  | succ n ih =>
    have := Nat.two_pow_pos n
    rw [bsm_s, ih, if_pos rfl, Nat.pow_succ]
    omega
theorem bsm_all {p : Nat → Bool} {n : Nat} : bsm p n = 2 ^ n - 1 ↔ ∀ j, j < n → p j = true := by
  constructor
  · intro h j hj
    cases q : p j with
    | true => rfl
    | false =>
      have := nsum_lt (g := fun f => if p f = true then 2 ^ f else 0) (g' := fun f => if (fun _ => true) f = true then 2 ^ f else 0) hj (fun i _ => by
        rw [if_pos rfl]
        split
        · exact Nat.le_refl _
        · exact Nat.zero_le _) (by rw [q, if_neg (by decide), if_pos rfl]; exact Nat.two_pow_pos j)
      have e := bsm_true n
      unfold bsm at h e
      omega
  · intro h
    rw [← bsm_true n]
    exact bsm_congr h
