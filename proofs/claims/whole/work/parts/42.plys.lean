/-! pure: rows for reckoning, and the rest of the reference's table -/
theorem nr_at {ρ : zN'} {j : Nat} : nr ρ j = nI (ρ j) := rfl
theorem nI_n9 : -(nI 9) = nI 4294967287 := by decide
theorem nI_le_t {a b : Nat} (h : a ≤ b) (hb : b < 2 ^ 31) : (nI a ≤ nI b) = True := eq_true ((nI_leI (by omega) hb).mpr h)
theorem nI_le_f {a b : Nat} (h : b < a) (ha : a < 2 ^ 31) : (nI a ≤ nI b) = False := eq_false fun q => by have := (nI_leI ha (by omega)).mp q; omega
theorem nI_lt_t {a b : Nat} (h : a < b) (hb : b < 2 ^ 31) : (nI a < nI b) = True := eq_true ((nI_ltI (by omega) hb).mpr h)
theorem nI_lt_f {a b : Nat} (h : b ≤ a) (ha : a < 2 ^ 31) : (nI a < nI b) = False := eq_false fun q => by have := (nI_ltI ha (by omega)).mp q; omega
theorem nI_eq_t {a b : Nat} (h : a = b) : (nI a = nI b) = True := eq_true (by rw [h])
theorem nI_eq_f {a b : Nat} (h : a ≠ b) (ha : a < 2 ^ 31) (hb : b < 2 ^ 31) : (nI a = nI b) = False := eq_false fun q => h ((nI_eq ha hb).mp q)
section LAY2
variable {h : zH} {I : Nat → Nat → Int32} {m nf : Nat}
def nfill (v : Nat) (old : zN') (n : Nat) : zN' := fun j => if j < n then v else old j
theorem nfill_0 {v : Nat} {old : zN'} : nfill v old 0 = old := by
  funext j
  exact if_neg (by omega)
theorem nfill_s {v : Nat} {old : zN'} {n : Nat} : va_up (nfill v old n) n v = nfill v old (n + 1) := by
  funext j
  unfold va_up nfill
  by_cases h : j = n
  · rw [if_pos h, if_pos (by omega)]
  · rw [if_neg h]
    by_cases h2 : j < n
    · rw [if_pos h2, if_pos (by omega)]
    · rw [if_neg h2, if_neg (by omega)]
theorem lay_2 {u1 : Nat} {u2 : Int32} {old : zN'} (hT : RefT h m) (k : zH → Int32 → Option zH) : ∀ d j n, j + d = 64 → d < n → fX7_layTable_L2 k m u1 u2 n (zw h (zz I (m + 22) (nr (nfill fINF old j)))) (nI j) = k (zw h (zz I (m + 22) (nr (nfill fINF old 64)))) (nI 64) := by
  obtain ⟨t1, ⟨-, -, -, -, -, -, -, -, -, -, -, -, -, -, -, -, -, -, -, -, -, t3, -⟩, t4, -, -, -, -, -, -, -, -, -, -, t5, -⟩ := hT
  have kd : zkd h (m + 22) = 9 := by rw [t4 22 (by omega) (by omega)]; rfl
  have gp : ∀ I, zgP (zw h I) 7 m 32 = some (m + 22) := fun I => zgPw t1 t3 (by omega)
  intro d
  induction d with
  | zero =>
    intro j n hj hn
    obtain ⟨n, rfl⟩ := fuel1 hn
    have e : j = 64 := by omega
    subst e
    rw [fX7_layTable_L2]
    simp (disch := first | assumption | omega) only [nl, nI_add, pk_mul, Option.bind_some, zb2_some, zz_at, zz_zz, zz_ne, nr_at, up_n, zaIw, zbIw, zgIw, zpIw, nI_le_t, nI_le_f, nI_lt_t, nI_lt_f, nI_eq_t, nI_eq_f, ↓reduceIte, zw_kd, zw_ln, zw_P, zw_I, nI_n9]
  | succ d ih =>
    intro j n hj hn
    obtain ⟨n, rfl⟩ := fuel1 hn
    have goal := ih (j + 1) n (by omega) (by omega)
    rw [fX7_layTable_L2]
    simp (disch := first | assumption | omega) only [nl, nI_add, pk_mul, Option.bind_some, zb2_some, zz_at, zz_zz, zz_ne, nr_at, up_n, zaIw, zbIw, zgIw, zpIw, nI_le_t, nI_le_f, nI_lt_t, nI_lt_f, nI_eq_t, nI_eq_f, ↓reduceIte, zw_kd, zw_ln, zw_P, zw_I, nI_n9, gp]
    rw [← goal, ← nfill_s]
    rfl
end LAY2
