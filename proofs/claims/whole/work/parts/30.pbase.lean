/-! pure: heaps with other ints; rows -/
def zw (h : zH) (I : Nat → Nat → Int32) : zH := (zkd h, zln h, I, zJ h, zP h, zn h)
theorem zw_self (h : zH) : zw h (zI h) = h := rfl
theorem zw_zw (h : zH) (I I' : Nat → Nat → Int32) : zw (zw h I) I' = zw h I' := rfl
theorem zw_I (h : zH) (I : Nat → Nat → Int32) : zI (zw h I) = I := rfl
theorem zw_kd (h : zH) (I : Nat → Nat → Int32) : zkd (zw h I) = zkd h := rfl
theorem zw_ln (h : zH) (I : Nat → Nat → Int32) : zln (zw h I) = zln h := rfl
theorem zw_J (h : zH) (I : Nat → Nat → Int32) : zJ (zw h I) = zJ h := rfl
theorem zw_P (h : zH) (I : Nat → Nat → Int32) : zP (zw h I) = zP h := rfl
theorem zw_n (h : zH) (I : Nat → Nat → Int32) : zn (zw h I) = zn h := rfl
theorem zu_row {α : Type} (f : Nat → Nat → α) (a k : Nat) (v : α) : zu f a k v = zz f a (va_up (f a) k v) := by
  funext b j
  by_cases h : b = a
  · subst h; by_cases e : j = k <;> simp [zu, zz, va_up, e]
  · simp [zu, zz, h]
theorem zsI_w (h : zH) (I : Nat → Nat → Int32) (a k : Nat) (v : Int32) : zsI (zw h I) a k v = zw h (zz I a (va_up (I a) k v)) := by
  rw [← zu_row]; rfl
theorem zrow_w (h : zH) (I : Nat → Nat → Int32) (a : Nat) (f : Nat → Int32) : zrow (zw h I) a f = zw h (zz I a f) := rfl
theorem zz_zz {α : Type} (f : Nat → Nat → α) (a : Nat) (u v : Nat → α) : zz (zz f a u) a v = zz f a v := by
  funext b j; by_cases h : b = a <;> simp [zz, h]
theorem zz_self {α : Type} (f : Nat → Nat → α) (a : Nat) : zz f a (f a) = f := by
  funext b j; by_cases h : b = a <;> simp [zz, h]
theorem zz_comm {α : Type} (f : Nat → Nat → α) {a b : Nat} (n : a ≠ b) (u v : Nat → α) : zz (zz f a u) b v = zz (zz f b v) a u := by
  funext c j
  by_cases h : c = a
  · subst h; simp [zz, n]
  · by_cases h2 : c = b
    · subst h2; simp [zz, h]
    · simp [zz, h, h2]
theorem nl (n : Nat) : (@OfNat.ofNat Int32 n _) = nI n := rfl
theorem zb2_some {α β : Type} (a : α) (h : zH) (f : α → zH → Option β) : zb2 (some (a, h)) f = f a h := rfl
theorem zb4_none {β : Type} (h : zH) (f : zH → Option ((β ⊕ String) × zH)) : zb4 (some (none, h)) f = f h := rfl
theorem zb4_some {β : Type} (h : zH) (E : String) (f : zH → Option ((β ⊕ String) × zH)) : zb4 (some (some E, h)) f = some (.inr E, h) := rfl
theorem zin {i n : Nat} (hi : i < n) (hn : n < 2 ^ 31) : ¬ (nI i < 0 ∨ n ≤ (nI i).toNatClampNeg) := nI_in hi hn
theorem zaIw {h : zH} {I : Nat → Nat → Int32} {a : Nat} (i : Nat) (hk : zkd h a = 9) (hi : i < zln h a) (hb : zln h a < 2 ^ 31) : zaI (zw h I) a (nI i) = some (I a i) := by
  unfold zaI
  rw [if_pos ⟨hk, zin hi hb⟩, nI_clamp (by omega)]
  rfl
theorem zaZw {h : zH} {I : Nat → Nat → Int32} {a : Nat} (i : Nat) (hk : zkd h a = 11) (hi : i < zln h a) (hb : zln h a < 2 ^ 31) : zaZ (zw h I) a (nI i) = some (I a i) := by
  unfold zaZ
  rw [if_pos ⟨hk, zin hi hb⟩, nI_clamp (by omega)]
  rfl
theorem zbIw {h : zH} {I : Nat → Nat → Int32} {a : Nat} (i : Nat) (v : Int32) (hk : zkd h a = 9) (hi : i < zln h a) (hb : zln h a < 2 ^ 31) : zbI (zw h I) a (nI i) v = some (zw h (zz I a (va_up (I a) i v))) := by
  unfold zbI
  rw [if_pos ⟨hk, zin hi hb⟩, nI_clamp (by omega), zsI_w]
theorem zbZw {h : zH} {I : Nat → Nat → Int32} {a : Nat} (i : Nat) (v : Int32) (hv : v = 0 ∨ v = 1) (hk : zkd h a = 11) (hi : i < zln h a) (hb : zln h a < 2 ^ 31) : zbZ (zw h I) a (nI i) v = some (zw h (zz I a (va_up (I a) i v))) := by
  unfold zbZ
  rw [if_pos ⟨hk, zin hi hb, hv⟩, nI_clamp (by omega), zsI_w]
theorem zgIw {h : zH} {I : Nat → Nat → Int32} {c a k : Nat} (hk : zkd h a = c + 1) : zgI (zw h I) c a k = some (I a k) := by
  unfold zgI
  rw [zw_kd, if_pos hk]; rfl
theorem zgPw {h : zH} {I : Nat → Nat → Int32} {c a k q : Nat} (hk : zkd h a = c + 1) (hq : zP h a k = q) (h0 : q ≠ 0) : zgP (zw h I) c a k = some q := by
  subst hq
  unfold zgP
  rw [if_pos ⟨hk, h0⟩]; rfl
theorem zpIw {h : zH} {I : Nat → Nat → Int32} {c a k : Nat} (v : Int32) (hk : zkd h a = c + 1) : zpI (zw h I) c a k v = some (zw h (zz I a (va_up (I a) k v))) := by
  unfold zpI
  rw [zw_kd, if_pos hk, zsI_w]
def zsum (g : Nat → Int32) : Nat → Int32
  | 0 => 0
  | n + 1 => zsum g n + g n
theorem zsum_congr {g g' : Nat → Int32} {n : Nat} (h : ∀ j, j < n → g j = g' j) : zsum g n = zsum g' n := by
  induction n with
  | zero => rfl
  | succ n ih => rw [zsum, zsum, ih (fun j hj => h j (by omega)), h n (by omega)]
/-- rows of the reference -/
abbrev zRow : Type := Nat → Int32
def rsz (r : zRow) (e : Nat) : Int32 := zsum (fun f => r (24 + 28 * e + f)) 8
def rus (r : zRow) (n : Nat) : Int32 := zsum (rsz r) n
theorem fuel1 {n d : Nat} (h : d < n) : ∃ m, n = m + 1 := ⟨n - 1, by omega⟩
theorem p_at (h : zH) (e : Nat) : fX7_at h (nI e) = some (nI (24 + 28 * e), h) := by
  unfold fX7_at
  simp only [nl, pk_mul, nI_add]
theorem p_sizeOf_L {h : zH} {I : Nat → Nat → Int32} {a e : Nat} (hk : zkd h a = 9) (hl : zln h a = 360) (he : e < 12) (k : zH → Int32 → Int32 → Option (Int32 × zH)) : ∀ d f n, f + d = 8 → d < n → fX7_sizeOf_L4 k a (nI e) n (zw h I) (zsum (fun f => I a (24 + 28 * e + f)) f) (nI f) = k (zw h I) (rsz (I a) e) (nI 8) := by
  intro d
  induction d with
  | zero =>
    intro f n hf hn
    obtain ⟨n, rfl⟩ := fuel1 hn
    have e8 : f = 8 := by omega
    subst e8
    rw [fX7_sizeOf_L4, if_pos (by decide)]
    rfl
  | succ d ih =>
    intro f n hf hn
    obtain ⟨n, rfl⟩ := fuel1 hn
    rw [fX7_sizeOf_L4, if_neg (by simp only [nl]; rw [nI_leI (by decide) (by omega)]; omega), p_at, zb2_some]
    simp only [nl, nI_add, Nat.add_zero]
    rw [zaIw _ hk (by omega) (by omega), Option.bind_some]
    exact ih (f + 1) n (by omega) (by omega)
theorem p_sizeOf {h : zH} {I : Nat → Nat → Int32} {a e : Nat} (hk : zkd h a = 9) (hl : zln h a = 360) (he : e < 12) : fX7_sizeOf (zw h I) a (nI e) = some (rsz (I a) e, zw h I) := by
  unfold fX7_sizeOf
  exact p_sizeOf_L hk hl he _ 8 0 zF rfl (by decide)
theorem p_used_L {h : zH} {I : Nat → Nat → Int32} {a c : Nat} (hk : zkd h a = 9) (hl : zln h a = 360) (hc : c ≤ 12) (h0 : I a 0 = nI c) (k : zH → Int32 → Int32 → Option (Int32 × zH)) : ∀ d e n, e + d = c → d < n → fX7_used_L4 k a n (zw h I) (rus (I a) e) (nI e) = k (zw h I) (rus (I a) c) (nI c) := by
  intro d
  induction d with
  | zero =>
    intro e n hf hn
    obtain ⟨n, rfl⟩ := fuel1 hn
    have ee : e = c := by omega
    subst ee
    rw [fX7_used_L4]
    simp only [nl]
    rw [zaIw _ hk (by omega) (by omega), Option.bind_some, h0, if_pos (Int32.le_refl _)]
  | succ d ih =>
    intro e n hf hn
    obtain ⟨n, rfl⟩ := fuel1 hn
    rw [fX7_used_L4]
    simp only [nl]
    rw [zaIw _ hk (by omega) (by omega), Option.bind_some, h0, if_neg (by rw [nI_leI (by omega) (by omega)]; omega), p_sizeOf hk hl (by omega), zb2_some]
    simp only [nI_add]
    exact ih (e + 1) n (by omega) (by omega)
theorem p_used {h : zH} {I : Nat → Nat → Int32} {a c : Nat} (hk : zkd h a = 9) (hl : zln h a = 360) (hc : c ≤ 12) (h0 : I a 0 = nI c) : fX7_used (zw h I) a = some (rus (I a) c, zw h I) := by
  unfold fX7_used
  exact p_used_L hk hl hc h0 _ c 0 zF (by omega) (by unfold zF; omega)
