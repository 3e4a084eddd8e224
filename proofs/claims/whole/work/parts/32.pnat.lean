/-! pure: rows as natural numbers; every int is nI of one -/
abbrev zN' : Type := Nat → Nat
def nr (ρ : zN') : zRow := fun j => nI (ρ j)
theorem nr_all (r : zRow) : ∃ ρ : zN', r = nr ρ ∧ ∀ j, ρ j < 2 ^ 32 := by
  refine ⟨fun j => (r j).toBitVec.toNat, ?_, fun j => (r j).toBitVec.isLt⟩
  funext j
  show r j = Int32.ofNat _
  apply Int32.toBitVec_inj.mp
  simp [Int32.ofNat]
def nsum (g : Nat → Nat) : Nat → Nat
  | 0 => 0
  | n + 1 => nsum g n + g n
theorem nsum_congr {g g' : Nat → Nat} {n : Nat} (h : ∀ j, j < n → g j = g' j) : nsum g n = nsum g' n := by
  induction n with
  | zero => rfl
  | succ n ih => rw [nsum, nsum, ih (fun j hj => h j (by omega)), h n (by omega)]
theorem nsum_le {g : Nat → Nat} {n b : Nat} (h : ∀ j, j < n → g j ≤ b) : nsum g n ≤ n * b := by
  induction n with
  | zero => simp [nsum]
  | succ n ih =>
    have h1 := ih (fun j hj => h j (by omega))
    have h2 := h n (by omega)
    rw [nsum, Nat.succ_mul]
    omega
theorem nsum_mono {g g' : Nat → Nat} {n : Nat} (h : ∀ j, j < n → g j ≤ g' j) : nsum g n ≤ nsum g' n := by
  induction n with
  | zero => exact Nat.le_refl _
  | succ n ih =>
    have h1 := ih (fun j hj => h j (by omega))
    have h2 := h n (by omega)
    rw [nsum, nsum]
    omega
theorem nsum_at {g : Nat → Nat} {n j : Nat} (h : j < n) : g j ≤ nsum g n := by
  induction n with
  | zero => omega
  | succ n ih =>
    rw [nsum]
    rcases Nat.lt_succ_iff_lt_or_eq.mp h with h | h
    · have := ih h; omega
    · subst h; omega
theorem zsum_n (g : Nat → Nat) (n : Nat) : zsum (fun j => nI (g j)) n = nI (nsum g n) := by
  induction n with
  | zero => rfl
  | succ n ih => rw [zsum, ih, nI_add]; rfl
def nsz (ρ : zN') (e : Nat) : Nat := nsum (fun f => ρ (24 + 28 * e + f)) 8
def nus (ρ : zN') (n : Nat) : Nat := nsum (nsz ρ) n
theorem rsz_n (ρ : zN') (e : Nat) : rsz (nr ρ) e = nI (nsz ρ e) := zsum_n _ _
theorem rus_n (ρ : zN') (n : Nat) : rus (nr ρ) n = nI (nus ρ n) := by
  unfold rus
  rw [show rsz (nr ρ) = fun e => nI (nsz ρ e) from funext fun e => rsz_n ρ e]
  exact zsum_n _ _
def nwq (ρ : zN') (e : Nat) : Nat := nsz ρ e * (ρ 1 - ρ (24 + 28 * e + 26) + 1) / (ρ (24 + 28 * e + 25) + 1)
def nwt (ρ : zN') (e : Nat) : Nat := if nwq ρ e ≤ 999999999 then nwq ρ e else 999999999
/-- what a row of the reference keeps to -/
def eok (ρ : zN') (e : Nat) : Prop := (∀ f, f < 8 → ρ (24 + 28 * e + 16 + f) ≤ 2 ∧ ρ (24 + 28 * e + f) ≤ 99999 ∧ (ρ (24 + 28 * e + 16 + f) = 0 → ρ (24 + 28 * e + f) = 0 ∧ ρ (24 + 28 * e + 8 + f) = 0) ∧ (ρ (24 + 28 * e + 16 + f) ≠ 0 → 1 ≤ ρ (24 + 28 * e + f)) ∧ ρ (24 + 28 * e + 8 + f) ≤ 63 * ρ 1) ∧ ρ (24 + 28 * e + 24) ≤ 1 ∧ ρ (24 + 28 * e + 25) ≤ ρ 1 ∧ ρ (24 + 28 * e + 26) ≤ ρ 1
def nok (ρ : zN') : Prop := ρ 0 ≤ 12 ∧ ρ 1 < 10000 ∧ 1 ≤ ρ 3 ∧ ρ 3 ≤ 99999 ∧ ∀ e, e < ρ 0 → eok ρ e
theorem nsz_le {ρ : zN'} {e : Nat} (h : eok ρ e) : nsz ρ e ≤ 799992 := nsum_le (b := 99999) fun f hf => (h.1 f hf).2.1
theorem nus_le {ρ : zN'} (h : nok ρ) : nus ρ (ρ 0) ≤ 9599904 := by
  have h1 := nsum_le (g := nsz ρ) (n := ρ 0) (b := 799992) fun e he => nsz_le (h.2.2.2.2 e he)
  have h2 := h.1
  unfold nus
  omega
theorem lN_div {a b : Nat} (ha : a < 2 ^ 63) (h0 : 0 < b) (hb : b < 2 ^ 63) : lN a / lN b = lN (a / b) := pk_lDiv ha h0 hb
theorem rwq_n {ρ : zN'} {e : Nat} (h1 : ρ 1 < 10000) (h : eok ρ e) : rwq (nr ρ) e = lN (nwq ρ e) := by
  obtain ⟨ha, hp, hu, hl⟩ := h
  have hs : nsz ρ e ≤ 799992 := nsum_le (b := 99999) fun f hf => (ha f hf).2.1
  unfold rwq nwq
  rw [rsz_n]
  show (nI (nsz ρ e)).toInt64 * (nI (ρ 1) - nI (ρ (24 + 28 * e + 26)) + 1).toInt64 / (nI (ρ (24 + 28 * e + 25)) + 1).toInt64 = _
  rw [pk_sub hl, nI_1, nI_1, nI_l (by omega), nI_l (by omega), nI_l (by omega), lN_mul]
  refine lN_div ?_ (by omega) (by omega)
  have : nsz ρ e * (ρ 1 - ρ (24 + 28 * e + 26) + 1) ≤ 799992 * 10000 := Nat.mul_le_mul hs (by omega)
  omega
theorem nwq_le {ρ : zN'} {e : Nat} (h1 : ρ 1 < 10000) (h : eok ρ e) : nwq ρ e ≤ 7999920000 := by
  have hs := nsz_le h
  unfold nwq
  refine Nat.le_trans (Nat.div_le_self _ _) ?_
  exact Nat.le_trans (Nat.mul_le_mul hs (show ρ 1 - ρ (24 + 28 * e + 26) + 1 ≤ 10000 by omega)) (by decide)
theorem rwt_n {ρ : zN'} {e : Nat} (h1 : ρ 1 < 10000) (h : eok ρ e) : rwt (nr ρ) e = nI (nwt ρ e) := by
  have hb := nwq_le h1 h
  unfold rwt nwt
  rw [rwq_n h1 h]
  have e9 : (999999999 : Int64) = lN 999999999 := rfl
  rw [e9]
  by_cases q : nwq ρ e ≤ 999999999
  · rw [if_pos ((pk_lLE (by omega) (by omega)).mpr q), if_pos q, lN_i]
  · rw [if_neg (fun z => q ((pk_lLE (by omega) (by omega)).mp z)), if_neg q]
    rfl
theorem nwt_le (ρ : zN') (e : Nat) : nwt ρ e ≤ 999999999 := by
  unfold nwt
  split <;> omega
theorem nuse_ne {ρ : zN'} {e : Nat} (h1 : ρ 1 < 10000) (h : eok ρ e) : (nr ρ (24 + 28 * e + 25) + 1).toInt64 ≠ 0 := by
  have hu := h.2.2.1
  show (nI _ + 1).toInt64 ≠ 0
  rw [nI_1, nI_l (by omega), show (0 : Int64) = lN 0 from rfl]
  intro q
  have := (pk_lEQ (by omega) (by omega)).mp q
  omega
theorem up_n (ρ : zN') (k v : Nat) : va_up (nr ρ) k (nI v) = nr (va_up ρ k v) := by
  funext j
  unfold va_up nr
  by_cases h : j = k <;> simp [h]
theorem cpy_n (f g : zN') (sp dp n : Nat) : va_cpy (nr f) (nr g) sp dp n = nr (va_cpy f g sp dp n) := by
  funext j
  unfold va_cpy nr
  by_cases h : dp ≤ j ∧ j < dp + n <;> simp [h]
def ndrop (ρ : zN') (c e : Nat) : zN' := va_cpy (fun _ => 0) (va_cpy (va_up ρ 0 (c - 1)) (va_up ρ 0 (c - 1)) (24 + 28 * e + 28) (24 + 28 * e) (28 * (c - 1 - e))) 0 (24 + 28 * (c - 1)) 28
theorem rdrop_n (ρ : zN') (c e : Nat) : rdrop (nr ρ) c e = nr (ndrop ρ c e) := by
  unfold rdrop ndrop
  rw [up_n, cpy_n, show (fun _ => 0 : zRow) = nr (fun _ => 0) from rfl, cpy_n]
section ROWS
variable {h : zH} {I : Nat → Nat → Int32} {a : Nat} {ρ : zN'}
theorem n_sizeOf {e : Nat} (hk : zkd h a = 9) (hl : zln h a = 360) (hI : I a = nr ρ) (he : e < 12) : fX7_sizeOf (zw h I) a (nI e) = some (nI (nsz ρ e), zw h I) := by
  rw [p_sizeOf hk hl he, hI, rsz_n]
theorem n_used (hk : zkd h a = 9) (hl : zln h a = 360) (hI : I a = nr ρ) (hc : ρ 0 ≤ 12) : fX7_used (zw h I) a = some (nI (nus ρ (ρ 0)), zw h I) := by
  rw [p_used hk hl hc (by rw [hI]; rfl), hI, rus_n]
theorem n_weight {e : Nat} (hk : zkd h a = 9) (hl : zln h a = 360) (hI : I a = nr ρ) (h1 : ρ 1 < 10000) (ho : eok ρ e) (he : e < 12) : fX7_weight (zw h I) a (nI e) = some (nI (nwt ρ e), zw h I) := by
  rw [p_weight hk hl he (by rw [hI]; exact nuse_ne h1 ho), hI, rwt_n h1 ho]
theorem n_drop {e : Nat} (hk : zkd h a = 9) (hl : zln h a = 360) (hI : I a = nr ρ) (hc : ρ 0 ≤ 12) (he : e < ρ 0) : fX7_drop (zw h I) a (nI e) = some (zw h (zz I a (nr (ndrop ρ (ρ 0) e)))) := by
  rw [p_drop hk hl hc he (by rw [hI]; rfl), hI, rdrop_n]
def ndf (ρ : zN') (e f : Nat) : zN' := va_up (va_up (va_up ρ (24 + 28 * e + f) 0) (24 + 28 * e + 8 + f) 0) (24 + 28 * e + 16 + f) 0
def npf (ρ : zN') (e f b l k : Nat) : zN' := va_up (va_up (va_up ρ (24 + 28 * e + f) b) (24 + 28 * e + 8 + f) l) (24 + 28 * e + 16 + f) k
theorem n_putForm {e f b l k : Nat} (hk : zkd h a = 9) (hl : zln h a = 360) (hI : I a = nr ρ) (he : e < 12) (hf : f < 8) : fX7_putForm (zw h I) a (nI e) (nI f) (nI b) (nI l) (nI k) = some (zw h (zz I a (nr (npf ρ e f b l k)))) := by
  unfold fX7_putForm
  rw [p_at, zb2_some, show (0 : Int32) = nI 0 from rfl, nI_add, nI_add, zbIw _ _ hk (by omega) (by omega), Option.bind_some, p_at, zb2_some, show (8 : Int32) = nI 8 from rfl, nI_add, nI_add, zbIw _ _ hk (by omega) (by omega), Option.bind_some, p_at, zb2_some, show (16 : Int32) = nI 16 from rfl, nI_add, nI_add, zbIw _ _ hk (by omega) (by omega), Option.bind_some]
  simp only [zz_zz, zz_at, hI, up_n, Nat.add_zero]
  rfl
theorem n_dropForm {e f : Nat} (hk : zkd h a = 9) (hl : zln h a = 360) (hI : I a = nr ρ) (he : e < 12) (hf : f < 8) : fX7_dropForm (zw h I) a (nI e) (nI f) = some (zw h (zz I a (nr (ndf ρ e f)))) := by
  have q := n_putForm (h := h) (I := I) (a := a) (ρ := ρ) (e := e) (f := f) (b := 0) (l := 0) (k := 0) hk hl hI he hf
  exact q
end ROWS
