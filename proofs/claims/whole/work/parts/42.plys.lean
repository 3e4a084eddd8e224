/-! pure: rows for reckoning, and the rest of the reference's table -/
theorem nr_at {ρ : zN'} {j : Nat} : nr ρ j = nI (ρ j) := rfl
theorem nI_n9 : -(nI 9) = nI 4294967287 := by decide
theorem nI_le_t {a b : Nat} (h : a ≤ b) (hb : b < 2 ^ 31) : (nI a ≤ nI b) = True := eq_true ((nI_leI (by omega) hb).mpr h)
theorem nI_le_f {a b : Nat} (h : b < a) (ha : a < 2 ^ 31) : (nI a ≤ nI b) = False := eq_false fun q => by have := (nI_leI ha (by omega)).mp q; omega
theorem nI_lt_t {a b : Nat} (h : a < b) (hb : b < 2 ^ 31) : (nI a < nI b) = True := eq_true ((nI_ltI (by omega) hb).mpr h)
theorem nI_lt_f {a b : Nat} (h : b ≤ a) (ha : a < 2 ^ 31) : (nI a < nI b) = False := eq_false fun q => by have := (nI_ltI ha (by omega)).mp q; omega
theorem nI_eq_t {a b : Nat} (h : a = b) : (nI a = nI b) = True := eq_true (by rw [h])
theorem nI_eq_f {a b : Nat} (h : a ≠ b) (ha : a < 2 ^ 31) (hb : b < 2 ^ 31) : (nI a = nI b) = False := eq_false fun q => h ((nI_eq ha hb).mp q)
section LAY2
variable {h : zH} {I : Nat → Nat → Int32} {m nf : Nat}
def nfill (v : Nat) (old : zN') (n : Nat) : zN' := fun j => if j < n then v else old j
theorem nfill_0 {v : Nat} {old : zN'} : nfill v old 0 = old := by
  funext j
  exact if_neg (by omega)
theorem nfill_s {v : Nat} {old : zN'} {n : Nat} : va_up (nfill v old n) n v = nfill v old (n + 1) := by
  funext j
  unfold va_up nfill
  by_cases h : j = n
  · rw [if_pos h, if_pos (by omega)]
  · rw [if_neg h]
    by_cases h2 : j < n
    · rw [if_pos h2, if_pos (by omega)]
    · rw [if_neg h2, if_neg (by omega)]
theorem lay_2 {u1 : Nat} {u2 : Int32} {old : zN'} (hT : RefT h m) (k : zH → Int32 → Option zH) : ∀ d j n, j + d = 64 → d < n → fX7_layTable_L2 k m u1 u2 n (zw h (zz I (m + 22) (nr (nfill fINF old j)))) (nI j) = k (zw h (zz I (m + 22) (nr (nfill fINF old 64)))) (nI 64) := by
  obtain ⟨t1, ⟨-, -, -, -, -, -, -, -, -, -, -, -, -, -, -, -, -, -, -, -, -, t3, -⟩, t4, -, -, -, -, -, -, -, -, -, -, t5, -⟩ := hT
  have kd : zkd h (m + 22) = 9 := by rw [t4 22 (by omega) (by omega)]; rfl
  have gp : ∀ I, zgP (zw h I) 7 m 32 = some (m + 22) := fun I => zgPw t1 t3 (by omega)
  intro d
  induction d with
  | zero =>
    intro j n hj hn
    obtain ⟨n, rfl⟩ := fuel1 hn
    have e : j = 64 := by omega
    subst e
    rw [fX7_layTable_L2]
    simp (disch := first | assumption | omega) only [nl, nI_add, pk_mul, Option.bind_some, zb2_some, zz_at, zz_zz, zz_ne, nr_at, up_n, zaIw, zbIw, zgIw, zpIw, nI_le_t, nI_le_f, nI_lt_t, nI_lt_f, nI_eq_t, nI_eq_f, ↓reduceIte, zw_kd, zw_ln, zw_P, zw_I, nI_n9, Nat.add_zero]
  | succ d ih =>
    intro j n hj hn
    obtain ⟨n, rfl⟩ := fuel1 hn
    have goal := ih (j + 1) n (by omega) (by omega)
    rw [fX7_layTable_L2]
    simp (disch := first | assumption | omega) only [nl, nI_add, pk_mul, Option.bind_some, zb2_some, zz_at, zz_zz, zz_ne, nr_at, up_n, zaIw, zbIw, zgIw, zpIw, nI_le_t, nI_le_f, nI_lt_t, nI_lt_f, nI_eq_t, nI_eq_f, ↓reduceIte, zw_kd, zw_ln, zw_P, zw_I, nI_n9, Nat.add_zero, gp]
    rw [← goal, ← nfill_s]
    rfl
/-- a board as it was loaded: conversions nc, from fr to tt -/
def bok (fr tt : Nat → Nat) (nc nf : Nat) : Prop := nf ≤ 8 ∧ nc ≤ 20 ∧ (∀ c, c < nc → fr c < nf ∧ tt c < nf ∧ fr c ≠ tt c) ∧ ∀ c d, c < nc → d < nc → fr c = fr d → tt c = tt d → c = d
theorem nfill_fwd {old : zN'} {fr tt co : Nat → Nat} {skip : Nat} : nfill fINF old 64 = mrow (fwd 16 (cmt fr tt co skip 0)) old := by
  funext j
  unfold nfill mrow fwd cmt
  simp only [if_true]
theorem fwd_up {fr tt co : Nat → Nat} {skip c : Nat} (hc : 1 ≤ co c) : mup (fwd 16 (cmt fr tt co skip c)) (fr c) (tt c) (if c = skip then fINF else 16 * co c + 1) = fwd 16 (cmt fr tt co skip (c + 1)) := by
  funext x y
  unfold mup fwd
  show _ = if (mup (cmt fr tt co skip c) (fr c) (tt c) (if c = skip then 0 else co c)) x y = 0 then _ else 16 * (mup (cmt fr tt co skip c) (fr c) (tt c) (if c = skip then 0 else co c)) x y + 1
  unfold mup
  by_cases h : x = fr c ∧ y = tt c
  · rw [if_pos h, if_pos h]
    by_cases h2 : c = skip
    · rw [if_pos h2, if_pos h2, if_pos rfl]
    · rw [if_neg h2, if_neg h2, if_neg (by omega)]
  · rw [if_neg h, if_neg h]
theorem lay_25 {a skip nc : Nat} {u2 : Int32} {old fr tt ρ : zN'} (hT : RefT h m) (ha : a ≠ m + 22) (hka : zkd h a = 9) (hla : zln h a = 360) (hu : ∀ c, c < 20 → (nI c = u2 ↔ c = skip)) (h5 : I m 5 = nI nc) (hfr : I (m + 2) = nr fr) (htt : I (m + 3) = nr tt) (hρ : I a = nr ρ) (hco : ∀ c, c < nc → 1 ≤ ρ (4 + c) ∧ ρ (4 + c) ≤ 99) (hb : bok fr tt nc nf) (k : zH → Int32 → Option zH) : ∀ d c n, c + d = nc → d < n → fX7_layTable_L25 k m a u2 n (zw h (zz I (m + 22) (nr (mrow (fwd 16 (cmt fr tt (fun c => ρ (4 + c)) skip c)) old)))) (nI c) = k (zw h (zz I (m + 22) (nr (mrow (fwd 16 (cmt fr tt (fun c => ρ (4 + c)) skip nc)) old)))) (nI nc) := by
  obtain ⟨t1, ⟨-, p2, p3, -, -, -, -, -, -, -, -, -, -, -, -, -, -, -, -, -, -, t3, -⟩, t4, -, l1, -, -, -, -, -, -, -, -, t5, -⟩ := hT
  have kd : zkd h (m + 22) = 9 := by rw [t4 22 (by omega) (by omega)]; rfl
  have kd2 : zkd h (m + 2) = 9 := by rw [t4 2 (by omega) (by omega)]; rfl
  have kd3 : zkd h (m + 3) = 9 := by rw [t4 3 (by omega) (by omega)]; rfl
  have l2 := l1 2 (by omega) (by omega)
  have l3 := l1 3 (by omega) (by omega)
  have gp : ∀ I, zgP (zw h I) 7 m 32 = some (m + 22) := fun I => zgPw t1 t3 (by omega)
  have gp2 : ∀ I, zgP (zw h I) 7 m 7 = some (m + 2) := fun I => zgPw t1 p2 (by omega)
  have gp3 : ∀ I, zgP (zw h I) 7 m 8 = some (m + 3) := fun I => zgPw t1 p3 (by omega)
  have hnc := hb.2.1
  intro d
  induction d with
  | zero =>
    intro c n hj hn
    obtain ⟨n, rfl⟩ := fuel1 hn
    have e : c = nc := by omega
    subst e
    rw [fX7_layTable_L25]
    simp (disch := first | assumption | omega) only [nl, nI_add, pk_mul, Option.bind_some, zb2_some, zz_at, zz_zz, zz_ne, nr_at, up_n, zaIw, zbIw, zgIw, zpIw, nI_le_t, nI_le_f, nI_lt_t, nI_lt_f, nI_eq_t, nI_eq_f, ↓reduceIte, zw_kd, zw_ln, zw_P, zw_I, nI_n9, Nat.add_zero, h5]
  | succ d ih =>
    intro c n hj hn
    obtain ⟨n, rfl⟩ := fuel1 hn
    have goal := ih (c + 1) n (by omega) (by omega)
    obtain ⟨b1, b2, b3⟩ := hb.2.2.1 c (by omega)
    have b4 := hb.1
    obtain ⟨c1, c2⟩ := hco c (by omega)
    have hu := hu c (by omega)
    rw [fX7_layTable_L25]
    simp (disch := first | assumption | omega) only [nl, nI_add, pk_mul, Option.bind_some, zb2_some, zz_at, zz_zz, zz_ne, nr_at, up_n, zaIw, zbIw, zgIw, zpIw, nI_le_t, nI_le_f, nI_lt_t, nI_lt_f, nI_eq_t, nI_eq_f, ↓reduceIte, zw_kd, zw_ln, zw_P, zw_I, nI_n9, Nat.add_zero, gp, gp2, gp3, h5, hfr, htt, hρ]
    rw [← goal, ← fwd_up (co := fun c => ρ (4 + c)) c1, ← mrow_up (by omega) (by omega)]
    by_cases q : c = skip
    · rw [if_pos (hu.mpr q), if_pos q]; rfl
    · rw [if_neg (fun z => q (hu.mp z)), if_neg q]
end LAY2
