/-! pure: the reference's rows -/
theorem i64_le (a b : Int32) : a.toInt64 ≤ b.toInt64 ↔ a ≤ b := by
  rw [Int64.le_iff_toInt_le, Int32.le_iff_toInt_le, Int32.toInt_toInt64, Int32.toInt_toInt64]
theorem p_in (h : zH) (a b c : Int32) : fX7_in h a.toInt64 b.toInt64 c.toInt64 = some (if b ≤ a ∧ a ≤ c then 1 else 0, h) := by
  unfold fX7_in
  simp only [lg_cmp_lt, lg_cmp_gt]
  by_cases h1 : b ≤ a
  · have h1' : ¬ a.toInt64 < b.toInt64 := Int64.not_lt.mpr ((i64_le _ _).mpr h1)
    rw [if_neg h1']
    by_cases h2 : a ≤ c
    · have h2' : ¬ c.toInt64 < a.toInt64 := Int64.not_lt.mpr ((i64_le _ _).mpr h2)
      rw [if_neg h2', if_pos ⟨h1, h2⟩]
    · have h2' : c.toInt64 < a.toInt64 := Int64.not_le.mp (fun q => h2 ((i64_le _ _).mp q))
      rw [if_pos h2', if_neg (fun q => h2 q.2)]
  · have h1' : a.toInt64 < b.toInt64 := Int64.not_le.mp (fun q => h1 ((i64_le _ _).mp q))
    rw [if_pos h1', if_neg (fun q => h1 q.1)]
theorem in_iff {x : Int32} {c : Nat} (hc : c < 2 ^ 30) : (0 ≤ x ∧ x ≤ nI c - 1) ↔ ¬ (x < 0 ∨ nI c ≤ x) := by
  have e : (nI c - 1).toInt = (c : Int) - 1 := by
    exact pk_sub_toInt (a := c) (b := 1) hc (by decide)
  rw [Int32.le_iff_toInt_le, Int32.le_iff_toInt_le, Int32.lt_iff_toInt_lt, Int32.le_iff_toInt_le, e, nI_toInt (by omega)]
  have z : (0 : Int32).toInt = 0 := rfl
  rw [z]
  omega
theorem ite_not' {α : Type} {c d : Prop} [Decidable c] [Decidable d] (h : c ↔ ¬ d) (a b : α) : (if c then a else b) = if d then b else a := by
  by_cases e : d
  · rw [if_pos e, if_neg (fun q => h.mp q e)]
  · rw [if_neg e, if_pos (h.mpr e)]
theorem p_in0 (h : zH) (x : Int32) {c : Nat} (hc : c < 2 ^ 30) : fX7_in h x.toInt64 0 (nI c - 1).toInt64 = some (if x < 0 ∨ nI c ≤ x then 0 else 1, h) := by
  have e := p_in h x 0 (nI c - 1)
  rw [show (0 : Int32).toInt64 = 0 from rfl] at e
  rw [e, ite_not' (in_iff hc)]
theorem p_isEntry {h : zH} {I : Nat → Nat → Int32} {a c : Nat} (x : Int32) (hk : zkd h a = 9) (hl : zln h a = 360) (hc : c ≤ 12) (h0 : I a 0 = nI c) : fX7_isEntry (zw h I) a x = some (if x < 0 ∨ nI c ≤ x then 0 else 1, zw h I) := by
  unfold fX7_isEntry
  have r0 : zaI (zw h I) a 0 = some (I a 0) := zaIw 0 hk (by omega) (by omega)
  rw [r0, Option.bind_some, h0, p_in0 _ _ (by omega), zb2_some]
  by_cases e : x < 0 ∨ nI c ≤ x
  · rw [if_pos e, if_pos (Or.inl rfl)]
  · rw [if_neg e, if_pos (Or.inr rfl)]
def rwq (r : zRow) (e : Nat) : Int64 := (rsz r e).toInt64 * (r 1 - r (24 + 28 * e + 26) + 1).toInt64 / (r (24 + 28 * e + 25) + 1).toInt64
def rwt (r : zRow) (e : Nat) : Int32 := if rwq r e ≤ 999999999 then (rwq r e).toInt32 else 999999999
theorem p_weight {h : zH} {I : Nat → Nat → Int32} {a e : Nat} (hk : zkd h a = 9) (hl : zln h a = 360) (he : e < 12) (hu : (I a (24 + 28 * e + 25) + 1).toInt64 ≠ 0) : fX7_weight (zw h I) a (nI e) = some (rwt (I a) e, zw h I) := by
  unfold fX7_weight
  rw [p_sizeOf hk hl he, zb2_some, show (1 : Int32) = nI 1 from rfl, zaIw _ hk (by omega) (by omega), Option.bind_some, p_at, zb2_some, show (26 : Int32) = nI 26 from rfl, nI_add, zaIw _ hk (by omega) (by omega), Option.bind_some, p_at, zb2_some, show (25 : Int32) = nI 25 from rfl, nI_add, zaIw _ hk (by omega) (by omega), Option.bind_some]
  rw [show nI 1 = (1 : Int32) from rfl, if_neg hu]
  simp only [lg_cmp_le]
  unfold rwt rwq
  by_cases q : (rsz (I a) e).toInt64 * (I a 1 - I a (24 + 28 * e + 26) + 1).toInt64 / (I a (24 + 28 * e + 25) + 1).toInt64 ≤ 999999999
  · rw [if_pos q, if_pos q]
  · rw [if_neg q, if_neg q]
theorem cpy_succ {α : Type} {f g : Nat → α} {sp dp i : Nat} : va_up (va_cpy f g sp dp i) (dp + i) (f (sp + i)) = va_cpy f g sp dp (i + 1) := by
  funext j
  unfold va_up va_cpy
  by_cases h : j = dp + i
  · subst h
    rw [if_pos rfl, if_pos (by omega)]
    congr 1; omega
  · rw [if_neg h]
    by_cases h2 : dp ≤ j ∧ j < dp + i
    · rw [if_pos h2, if_pos (by omega)]
    · rw [if_neg h2, if_neg (by omega)]
theorem cpy_zero {α : Type} {f g : Nat → α} {sp dp : Nat} : va_cpy f g sp dp 0 = g := by
  funext j
  unfold va_cpy
  rw [if_neg (by omega)]
theorem p_copyRow_L {h : zH} {I : Nat → Nat → Int32} {a b sp dp m : Nat} (hka : zkd h a = 9) (hkb : zkd h b = 9) (hla : sp + m ≤ zln h a) (hlb : dp + m ≤ zln h b) (hba : zln h a < 10000) (hbb : zln h b < 10000) (hab : a ≠ b ∨ dp ≤ sp) (k : zH → Int32 → Option zH) : ∀ d i n, i + d = m → d < n → fX7_copyRow_L3 k a (nI sp) b (nI dp) (nI m) n (zw h (zz I b (va_cpy (I a) (I b) sp dp i))) (nI i) = k (zw h (zz I b (va_cpy (I a) (I b) sp dp m))) (nI m) := by
  intro d
  induction d with
  | zero =>
    intro i n hf hn
    obtain ⟨n, rfl⟩ := fuel1 hn
    have ee : i = m := by omega
    subst ee
    rw [fX7_copyRow_L3, if_pos (Int32.le_refl _)]
  | succ d ih =>
    intro i n hf hn
    obtain ⟨n, rfl⟩ := fuel1 hn
    have rd : zz I b (va_cpy (I a) (I b) sp dp i) a (sp + i) = I a (sp + i) := by
      by_cases e : a = b
      · subst e
        rw [zz_at, pk_cpy_out (by rcases hab with q | q; exact absurd rfl q; right; omega)]
      · rw [zz_ne e]
    rw [fX7_copyRow_L3, if_neg (by rw [nI_leI (by omega) (by omega)]; omega), nI_add, zaIw _ hka (by omega) (by omega), Option.bind_some, nI_add, zbIw _ _ hkb (by omega) (by omega), Option.bind_some, zz_zz, zz_at, rd, cpy_succ, nI_1]
    exact ih (i + 1) n (by omega) (by omega)
theorem p_copyRow {h : zH} {I : Nat → Nat → Int32} {a b : Nat} (sp dp m : Nat) (hka : zkd h a = 9) (hkb : zkd h b = 9) (hla : sp + m ≤ zln h a) (hlb : dp + m ≤ zln h b) (hba : zln h a < 10000) (hbb : zln h b < 10000) (hab : a ≠ b ∨ dp ≤ sp) : fX7_copyRow (zw h I) a (nI sp) b (nI dp) (nI m) = some (zw h (zz I b (va_cpy (I a) (I b) sp dp m))) := by
  unfold fX7_copyRow
  have e := p_copyRow_L (I := I) hka hkb hla hlb hba hbb hab (fun h1 _ => some h1) m 0 zF (by omega) (by unfold zF; omega)
  rw [cpy_zero, zz_self] at e
  exact e
def rdrop (r : zRow) (c e : Nat) : zRow := va_cpy (fun _ => 0) (va_cpy (va_up r 0 (nI (c - 1))) (va_up r 0 (nI (c - 1))) (24 + 28 * e + 28) (24 + 28 * e) (28 * (c - 1 - e))) 0 (24 + 28 * (c - 1)) 28
theorem p_drop_L1 {h : zH} {I : Nat → Nat → Int32} {a c : Nat} {r : zRow} {u1 : Int32} (b0 : Nat) (hk : zkd h a = 9) (hl : zln h a = 360) (hc : c < 12) (h0 : r 0 = nI c) (hb : 24 ≤ b0) (k : zH → Int32 → Option zH) : ∀ d i n, b0 + i + d = 24 + 28 * c → d < n → fX7_drop_L12 k a u1 n (zw h (zz I a (va_cpy r r (b0 + 28) b0 i))) (nI (b0 + i)) = k (zw h (zz I a (va_cpy r r (b0 + 28) b0 (i + d)))) (nI (24 + 28 * c)) := by
  intro d
  induction d with
  | zero =>
    intro i n hf hn
    obtain ⟨n, rfl⟩ := fuel1 hn
    rw [fX7_drop_L12, show (0 : Int32) = nI 0 from rfl, zaIw _ hk (by omega) (by omega), Option.bind_some, zz_at, pk_cpy_out (by left; omega), h0, p_at, zb2_some, show b0 + i = 24 + 28 * c by omega, if_pos (Int32.le_refl _)]
    rfl
  | succ d ih =>
    intro i n hf hn
    obtain ⟨n, rfl⟩ := fuel1 hn
    rw [fX7_drop_L12, show (0 : Int32) = nI 0 from rfl, zaIw _ hk (by omega) (by omega), Option.bind_some, zz_at, pk_cpy_out (by left; omega), h0, p_at, zb2_some, if_neg (by rw [nI_leI (by omega) (by omega)]; omega), show (28 : Int32) = nI 28 from rfl, nI_add, zaIw _ hk (by omega) (by omega), Option.bind_some, zz_at, pk_cpy_out (by right; omega), zbIw _ _ hk (by omega) (by omega), Option.bind_some, zz_zz, zz_at, show b0 + i + 28 = b0 + 28 + i by omega, cpy_succ, nI_1, show i + (d + 1) = i + 1 + d by omega]
    exact ih (i + 1) n (by omega) (by omega)
theorem p_drop_L2 {h : zH} {I : Nat → Nat → Int32} {a c : Nat} {r : zRow} {u1 : Int32} (hk : zkd h a = 9) (hl : zln h a = 360) (hc : c < 12) (h0 : r 0 = nI c) (k : zH → Int32 → Option zH) : ∀ d i n, i + d = 28 → d < n → fX7_drop_L39 k a u1 n (zw h (zz I a (va_cpy (fun _ => 0) r 0 (24 + 28 * c) i))) (nI i) = k (zw h (zz I a (va_cpy (fun _ => 0) r 0 (24 + 28 * c) 28))) (nI 28) := by
  intro d
  induction d with
  | zero =>
    intro i n hf hn
    obtain ⟨n, rfl⟩ := fuel1 hn
    have ee : i = 28 := by omega
    subst ee
    rw [fX7_drop_L39, if_pos (by decide)]
  | succ d ih =>
    intro i n hf hn
    obtain ⟨n, rfl⟩ := fuel1 hn
    have r0 : zaI (zw h (zz I a (va_cpy (fun _ => 0) r 0 (24 + 28 * c) i))) a 0 = some (zz I a (va_cpy (fun _ => 0) r 0 (24 + 28 * c) i) a 0) := zaIw 0 hk (by omega) (by omega)
    rw [fX7_drop_L39, if_neg (by rw [show (28 : Int32) = nI 28 from rfl, nI_leI (by omega) (by omega)]; omega), r0, Option.bind_some, zz_at, pk_cpy_out (by left; omega), h0, p_at, zb2_some, nI_add, zbIw _ _ hk (by omega) (by omega), Option.bind_some, zz_zz, zz_at, nI_1]
    rw [show (va_up (va_cpy (fun _ => (0 : Int32)) r 0 (24 + 28 * c) i) (24 + 28 * c + i) 0) = va_cpy (fun _ => 0) r 0 (24 + 28 * c) (i + 1) from cpy_succ (f := fun _ => (0 : Int32)) (g := r) (sp := 0) (dp := 24 + 28 * c) (i := i)]
    exact ih (i + 1) n (by omega) (by omega)
theorem p_drop {h : zH} {I : Nat → Nat → Int32} {a c e : Nat} (hk : zkd h a = 9) (hl : zln h a = 360) (hc : c ≤ 12) (he : e < c) (h0 : I a 0 = nI c) : fX7_drop (zw h I) a (nI e) = some (zw h (zz I a (rdrop (I a) c e))) := by
  unfold fX7_drop
  rw [show (0 : Int32) = nI 0 from rfl, zaIw _ hk (by omega) (by omega), Option.bind_some, h0, show (1 : Int32) = nI 1 from rfl, pk_sub (by omega), zbIw _ _ hk (by omega) (by omega), Option.bind_some, p_at, zb2_some]
  have e1 := p_drop_L1 (h := h) (I := I) (a := a) (c := c - 1) (r := va_up (I a) 0 (nI (c - 1))) (u1 := nI e) (24 + 28 * e) hk hl (by omega) (by simp [va_up]) (by omega) (fun h5 v6 => fX7_drop_L39 (fun h7 v8 => some h7) a (nI e) zF h5 (nI 0)) (28 * (c - 1 - e)) 0 zF (by omega) (by unfold zF; omega)
  rw [cpy_zero] at e1
  have e2 : nI (24 + 28 * e + 0) = nI (24 + 28 * e) := rfl
  rw [e2] at e1
  rw [e1, show 0 + 28 * (c - 1 - e) = 28 * (c - 1 - e) by omega]
  have e3 := p_drop_L2 (h := h) (I := I) (a := a) (c := c - 1) (r := va_cpy (va_up (I a) 0 (nI (c - 1))) (va_up (I a) 0 (nI (c - 1))) (24 + 28 * e + 28) (24 + 28 * e) (28 * (c - 1 - e))) (u1 := nI e) hk hl (by omega) (by rw [pk_cpy_out (by left; omega)]; simp [va_up]) (fun h7 v8 => some h7) 28 0 zF (by omega) (by unfold zF; omega)
  rw [cpy_zero] at e3
  exact e3
