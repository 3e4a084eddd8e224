/-! pure: the component's heap: bits, cells, frames -/
theorem nI_eqN {a b : Nat} (ha : a < 2 ^ 32) (hb : b < 2 ^ 32) : nI a = nI b ↔ a = b := ⟨fun q => by
  have e := congrArg (fun x : Int32 => x.toBitVec.toNat) q
  simp only [pk_tn ha, pk_tn hb] at e
  exact e, fun q => by rw [q]⟩
theorem nI_m1 : -(nI 1) = nI 4294967295 := by decide
theorem nI_em1 {a : Nat} (h : a < 4294967295) : (nI a = nI 4294967295) = False := eq_false fun q => by
  have := (nI_eqN (by omega) (by omega)).mp q
  omega
def bsm (p : Nat → Bool) (n : Nat) : Nat := nsum (fun f => if p f = true then 2 ^ f else 0) n
theorem bsm_s (p : Nat → Bool) (n : Nat) : bsm p (n + 1) = bsm p n + if p n = true then 2 ^ n else 0 := rfl
theorem bsm_lt (p : Nat → Bool) : ∀ n, bsm p n < 2 ^ n := by
  intro n
  induction n with
  | zero => exact Nat.one_pos
  | succ n ih =>
    rw [bsm_s, Nat.pow_succ]
    split <;> omega
theorem bsm_bit {p : Nat → Bool} {j : Nat} : ∀ {n : Nat}, j < n → bsm p n / 2 ^ j % 2 = if p j = true then 1 else 0 := by
  intro n
  induction n with
  | zero => intro h; omega
  | succ n ih =>
    intro h
    have pj : 0 < 2 ^ j := Nat.two_pow_pos j
    rw [bsm_s]
    by_cases c : j = n
    · subst c
      have l := bsm_lt p j
      by_cases q : p j = true
      · rw [if_pos q, if_pos q, Nat.add_div_right _ pj, Nat.div_eq_of_lt l]
      · rw [if_neg q, if_neg q, Nat.add_zero, Nat.div_eq_of_lt l]
    · rw [← ih (by omega)]
      by_cases q : p n = true
      · rw [if_pos q]
        have e : 2 ^ n = 2 ^ j * (2 * 2 ^ (n - j - 1)) := by
          rw [← Nat.mul_assoc, ← Nat.pow_succ, ← Nat.pow_add]
          congr 1
          omega
        rw [e, Nat.add_mul_div_left _ _ pj]
        omega
      · rw [if_neg q, Nat.add_zero]
theorem bsm_congr {p p' : Nat → Bool} {n : Nat} (h : ∀ j, j < n → p j = p' j) : bsm p n = bsm p' n := nsum_congr fun j hj => by rw [h j hj]
theorem bsm_set {p p' : Nat → Bool} {n j : Nat} (hj : j < n) (h : ∀ i, i < n → i ≠ j → p' i = p i) (h0 : p j = false) (h1 : p' j = true) : bsm p' n = bsm p n + 2 ^ j := by
  have := nsum_chg (g := fun f => if p f = true then 2 ^ f else 0) (g' := fun f => if p' f = true then 2 ^ f else 0) hj (fun i hi hn => by rw [h i hi hn])
  rw [h0, h1, if_neg (by decide), if_pos rfl] at this
  unfold bsm
  omega
theorem shl_bit : ∀ f, f < 31 → nI 1 <<< (nI f &&& nI 31) = nI (2 ^ f) := by decide +kernel
theorem nI_or (a b : Nat) : nI a ||| nI b = nI (a ||| b) := Int32.toBitVec_inj.mp (by
  rw [Int32.toBitVec_or]
  exact BitVec.ofNat_or.symm)
theorem nI_and (a b : Nat) : nI a &&& nI b = nI (a &&& b) := Int32.toBitVec_inj.mp (by
  rw [Int32.toBitVec_and]
  exact BitVec.ofNat_and.symm)
theorem or_pow {s f : Nat} (h : s < 2 ^ f) : s ||| 2 ^ f = s + 2 ^ f := by
  have := Nat.two_pow_add_eq_or_of_lt h 1
  rw [Nat.mul_one] at this
  rw [Nat.or_comm, ← this, Nat.add_comm]
theorem or_bsm {p : Nat → Bool} {n : Nat} (hn : n < 31) : nI (bsm p n) ||| (if p n = true then nI 1 <<< (nI n &&& nI 31) else nI 0) = nI (bsm p (n + 1)) := by
  rw [bsm_s]
  by_cases q : p n = true
  · rw [if_pos q, if_pos q, shl_bit n hn, nI_or, or_pow (bsm_lt p n)]
  · rw [if_neg q, if_neg q, nI_or, Nat.or_zero, Nat.add_zero]
theorem bor8 : ∀ s, s < 256 → ∀ f, f < 8 → s / 2 ^ f % 2 = 0 → nI s ||| nI (2 ^ f) = nI (s + 2 ^ f) := by decide +kernel
theorem bcl8 : ∀ s, s < 256 → ∀ f, f < 8 → nI s &&& (nI (2 ^ f) ^^^ nI 4294967295) = nI (if s / 2 ^ f % 2 = 1 then s - 2 ^ f else s) := by decide +kernel
/-- what changes at most: the cells from lo below hi -/
def Fr (lo hi : Nat) (h h' : zH) : Prop := zkd h' = zkd h ∧ zln h' = zln h ∧ zJ h' = zJ h ∧ ∀ a, (a < lo ∨ hi ≤ a) → zI h' a = zI h a ∧ zP h' a = zP h a
/-- .. and no reference -/
def FrI (lo hi : Nat) (h h' : zH) : Prop := zkd h' = zkd h ∧ zln h' = zln h ∧ zJ h' = zJ h ∧ zP h' = zP h ∧ ∀ a, (a < lo ∨ hi ≤ a) → zI h' a = zI h a
section FRA
variable {lo hi lo' hi' a k : Nat} {h h' h2 : zH} {v : Int32}
theorem FrI.fr (f : FrI lo hi h h') : Fr lo hi h h' := ⟨f.1, f.2.1, f.2.2.1, fun a ha => ⟨f.2.2.2.2 a ha, by rw [f.2.2.2.1]⟩⟩
theorem Fr.rf : Fr lo hi h h := ⟨rfl, rfl, rfl, fun _ _ => ⟨rfl, rfl⟩⟩
theorem FrI.rf : FrI lo hi h h := ⟨rfl, rfl, rfl, rfl, fun _ _ => rfl⟩
theorem Fr.tr (f : Fr lo hi h h') (g : Fr lo hi h' h2) : Fr lo hi h h2 := ⟨g.1.trans f.1, g.2.1.trans f.2.1, g.2.2.1.trans f.2.2.1, fun a ha => ⟨(g.2.2.2 a ha).1.trans (f.2.2.2 a ha).1, (g.2.2.2 a ha).2.trans (f.2.2.2 a ha).2⟩⟩
theorem FrI.tr (f : FrI lo hi h h') (g : FrI lo hi h' h2) : FrI lo hi h h2 := ⟨g.1.trans f.1, g.2.1.trans f.2.1, g.2.2.1.trans f.2.2.1, g.2.2.2.1.trans f.2.2.2.1, fun a ha => (g.2.2.2.2 a ha).trans (f.2.2.2.2 a ha)⟩
theorem Fr.wd (f : Fr lo hi h h') (h1 : lo' ≤ lo) (h2 : hi ≤ hi') : Fr lo' hi' h h' := ⟨f.1, f.2.1, f.2.2.1, fun a ha => f.2.2.2 a (by omega)⟩
theorem FrI.wd (f : FrI lo hi h h') (h1 : lo' ≤ lo) (h2 : hi ≤ hi') : FrI lo' hi' h h' := ⟨f.1, f.2.1, f.2.2.1, f.2.2.2.1, fun a ha => f.2.2.2.2 a (by omega)⟩
theorem FrI.sI (h1 : lo ≤ a) (h2 : a < hi) : FrI lo hi h (zsI h a k v) := ⟨rfl, rfl, rfl, rfl, fun b hb => zu_ne (by omega)⟩
theorem Fr.sP {q : Nat} (h1 : lo ≤ a) (h2 : a < hi) : Fr lo hi h (zsP h a k q) := ⟨rfl, rfl, rfl, fun b hb => ⟨rfl, zu_ne (by omega)⟩⟩
theorem FrI.row {r : Nat → Int32} (h1 : lo ≤ a) (h2 : a < hi) : FrI lo hi h (zrow h a r) := ⟨rfl, rfl, rfl, rfl, fun b hb => zz_ne (by omega)⟩
theorem Fr.off : Fr lo hi h (zoff h) := ⟨rfl, rfl, rfl, fun _ _ => ⟨rfl, rfl⟩⟩
theorem Fr.wI {I : Nat → Nat → Int32} (f : ∀ a, (a < lo ∨ hi ≤ a) → I a = zI h a) : Fr lo hi h (zw h I) := ⟨rfl, rfl, rfl, fun a ha => ⟨f a ha, rfl⟩⟩
end FRA
section CELL
variable {h : zH} {a c k i j q : Nat} {v : Int32}
theorem gI_ (hk : zkd h a = c + 1) : zgI h c a k = some (zI h a k) := if_pos hk
theorem gP_ (hk : zkd h a = c + 1) (hq : zP h a k = q) (h0 : q ≠ 0) : zgP h c a k = some q := by
  subst hq
  exact if_pos ⟨hk, h0⟩
theorem pI_ (hk : zkd h a = c + 1) : zpI h c a k v = some (zsI h a k v) := if_pos hk
theorem pZ_ (hk : zkd h a = c + 1) (hv : v = 0 ∨ v = 1) : zpZ h c a k v = some (zsI h a k v) := if_pos ⟨hk, hv⟩
theorem aI_ (hk : zkd h a = 9) (hi : i < zln h a) (hb : zln h a < 2 ^ 31) : zaI h a (nI i) = some (zI h a i) := by
  unfold zaI
  rw [if_pos ⟨hk, zin hi hb⟩, nI_clamp (by omega)]
theorem aZ_ (hk : zkd h a = 11) (hi : i < zln h a) (hb : zln h a < 2 ^ 31) : zaZ h a (nI i) = some (zI h a i) := by
  unfold zaZ
  rw [if_pos ⟨hk, zin hi hb⟩, nI_clamp (by omega)]
theorem bI_ (hk : zkd h a = 9) (hi : i < zln h a) (hb : zln h a < 2 ^ 31) : zbI h a (nI i) v = some (zsI h a i v) := by
  unfold zbI
  rw [if_pos ⟨hk, zin hi hb⟩, nI_clamp (by omega)]
theorem bZ_ (hk : zkd h a = 11) (hv : v = 0 ∨ v = 1) (hi : i < zln h a) (hb : zln h a < 2 ^ 31) : zbZ h a (nI i) v = some (zsI h a i v) := by
  unfold zbZ
  rw [if_pos ⟨hk, zin hi hb, hv⟩, nI_clamp (by omega)]
theorem aP_ (hk : 12 ≤ zkd h a ∧ zkd h a ≤ 14) (hi : i < zln h a) (hb : zln h a < 2 ^ 31) (hq : zP h a i = q) (h0 : q ≠ 0) : zaP h a (nI i) = some q := by
  subst hq
  unfold zaP
  have z := zin hi hb
  rw [nI_clamp (by omega)] at z ⊢
  rw [if_pos ⟨hk.1, hk.2, z, h0⟩]
theorem bP_ (hk : (zkd h a = 12 ∧ zkd h q = 2) ∨ (zkd h a = 13 ∧ zkd h q = 4)) (hi : i < zln h a) (hb : zln h a < 2 ^ 31) (h0 : q ≠ 0) : zbP h a (nI i) q = some (zsP h a i q) := by
  unfold zbP
  rw [if_pos ⟨hk, zin hi hb, h0⟩, nI_clamp (by omega)]
theorem cp_ {b n : Nat} (ha : zkd h a = 9) (hb : zkd h b = 9) (h1 : n ≤ zln h a) (h2 : n ≤ zln h b) (hn : n < 2 ^ 31) : zcp h a (nI 0) b (nI 0) (nI n) = some (zrow h b (va_cpy (zI h a) (zI h b) 0 0 n)) := by
  unfold zcp
  rw [nI_clamp (by omega), nI_clamp (by omega), if_pos ⟨ha, hb, nI_pos (by omega), nI_pos (by omega), nI_pos hn, by omega, by omega⟩]
theorem sI_at : zI (zsI h a k v) a k = v := by simp [zI, zsI, zu]
theorem sI_k (e : j ≠ k) : zI (zsI h a k v) q j = zI h q j := by simp [zI, zsI, zu, e]
theorem sI_a (e : q ≠ a) : zI (zsI h a k v) q = zI h q := zu_ne e
theorem sI_P : zP (zsI h a k v) = zP h := rfl
theorem sI_kd : zkd (zsI h a k v) = zkd h := rfl
theorem sI_ln : zln (zsI h a k v) = zln h := rfl
theorem sP_I : zI (zsP h a k q) = zI h := rfl
theorem sP_kd : zkd (zsP h a k q) = zkd h := rfl
theorem sP_ln : zln (zsP h a k q) = zln h := rfl
theorem sP_at : zP (zsP h a k q) a k = q := by simp [zP, zsP, zu]
theorem sP_k (e : j ≠ k) {b : Nat} : zP (zsP h a k q) b j = zP h b j := by simp [zP, zsP, zu, e]
theorem sP_a {b : Nat} (e : b ≠ a) : zP (zsP h a k q) b = zP h b := zu_ne e
theorem rw_at {r : Nat → Int32} : zI (zrow h a r) a = r := zz_at
theorem rw_a {r : Nat → Int32} (e : q ≠ a) : zI (zrow h a r) q = zI h q := zz_ne e
theorem rw_P {r : Nat → Int32} : zP (zrow h a r) = zP h := rfl
theorem rw_kd {r : Nat → Int32} : zkd (zrow h a r) = zkd h := rfl
theorem rw_ln {r : Nat → Int32} : zln (zrow h a r) = zln h := rfl
end CELL
theorem nsum_upto {g : Nat → Nat} {f n : Nat} (h : f ≤ n) : nsum g f ≤ nsum g n := by
  induction n with
  | zero => rw [Nat.le_zero.mp h]; exact Nat.le_refl _
  | succ n ih =>
    by_cases c : f = n + 1
    · rw [c]; exact Nat.le_refl _
    · exact Nat.le_trans (ih (by omega)) (Nat.le_add_right _ _)
theorem nsum_add {g g' : Nat → Nat} {n : Nat} : nsum (fun j => g j + g' j) n = nsum g n + nsum g' n := by
  induction n with
  | zero => rfl
  | succ n ih =>
    show nsum (fun j => g j + g' j) n + (g n + g' n) = (nsum g n + g n) + (nsum g' n + g' n)
    rw [ih]; omega
