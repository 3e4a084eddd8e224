/-! pure: the reference's table of paths -/
/-- a matrix of eight by eight in a row -/
def mrow (T : Nat → Nat → Nat) (old : zN') : zN' := fun j => if j < 64 then T (j / 8) (j % 8) else old j
def mup (T : Nat → Nat → Nat) (a b v : Nat) : Nat → Nat → Nat := fun x y => if x = a ∧ y = b then v else T x y
theorem mrow_at {T : Nat → Nat → Nat} {old : zN'} {a b : Nat} (ha : a < 8) (hb : b < 8) : mrow T old (8 * a + b) = T a b := by
  unfold mrow
  rw [if_pos (by omega), show (8 * a + b) / 8 = a by omega, show (8 * a + b) % 8 = b by omega]
theorem mrow_up {T : Nat → Nat → Nat} {old : zN'} {a b v : Nat} (ha : a < 8) (hb : b < 8) : va_up (mrow T old) (8 * a + b) v = mrow (mup T a b v) old := by
  funext j
  unfold va_up mrow mup
  by_cases h : j = 8 * a + b
  · subst h
    rw [if_pos rfl, if_pos (by omega), if_pos (by omega)]
  · rw [if_neg h]
    by_cases h2 : j < 64
    · rw [if_pos h2, if_pos h2, if_neg (by omega)]
    · rw [if_neg h2, if_neg h2]
/-- the costs as a matrix: conversions 0 .. c - 1, one left out -/
def cmt (fr tt co : Nat → Nat) (skip : Nat) : Nat → Nat → Nat → Nat
  | 0 => fun _ _ => 0
  | c + 1 => mup (cmt fr tt co skip c) (fr c) (tt c) (if c = skip then 0 else co c)
def fwn (nf : Nat) (M : Nat → Nat → Nat) : Nat → Nat → Nat → Nat
  | 0 => M
  | v + 1 => fun x y => if x < nf ∧ y < nf then fws (fwn nf M v) v x y else fwn nf M v x y
theorem fwn_eq {nf : Nat} {M : Nat → Nat → Nat} : ∀ k, k ≤ nf → ∀ x y, x < nf → y < nf → fwn nf M k x y = fw M k x y := by
  intro k
  induction k with
  | zero => intro _ x y _ _; rfl
  | succ k ih =>
    intro hk x y hx hy
    show (if x < nf ∧ y < nf then fws (fwn nf M k) k x y else fwn nf M k x y) = fws (fw M k) k x y
    rw [if_pos ⟨hx, hy⟩]
    unfold fws
    rw [ih (by omega) x k hx (by omega), ih (by omega) k y (by omega) hy, ih (by omega) x y hx hy]
theorem fwn_le {nf : Nat} {M : Nat → Nat → Nat} (h : ∀ x y, M x y ≤ fINF) : ∀ k x y, fwn nf M k x y ≤ fINF := by
  intro k
  induction k with
  | zero => exact h
  | succ k ih =>
    intro x y
    show (if x < nf ∧ y < nf then fws (fwn nf M k) k x y else fwn nf M k x y) ≤ fINF
    split
    · exact Nat.le_trans (fws_le _ _ _ _).1 (ih x y)
    · exact ih x y
theorem fwn_diag {nf : Nat} {M : Nat → Nat → Nat} (h : ∀ a, M a a = 0) : ∀ k a, fwn nf M k a a = 0 := by
  intro k
  induction k with
  | zero => exact h
  | succ k ih =>
    intro a
    show (if a < nf ∧ a < nf then fws (fwn nf M k) k a a else fwn nf M k a a) = 0
    split
    · have := (fws_le (fwn nf M k) k a a).1
      rw [ih a] at this
      omega
    · exact ih a
/-- within a round: the entries ahead of (a, b) are done -/
def fwq (M : Nat → Nat → Nat) (v nf a b : Nat) : Nat → Nat → Nat := fun x y => if x < nf ∧ y < nf ∧ (x < a ∨ (x = a ∧ y < b)) then fws M v x y else M x y
theorem fws_col {M : Nat → Nat → Nat} {v : Nat} (h : M v v = 0) (x : Nat) : fws M v x v = M x v := by
  unfold fws
  rw [h, if_neg (by omega)]
theorem fws_rw {M : Nat → Nat → Nat} {v : Nat} (h : M v v = 0) (y : Nat) : fws M v v y = M v y := by
  unfold fws
  rw [h, if_neg (by omega)]
theorem fwq_col {M : Nat → Nat → Nat} {v nf a b : Nat} (h : M v v = 0) (x : Nat) : fwq M v nf a b x v = M x v := by
  unfold fwq
  split
  · exact fws_col h x
  · rfl
theorem fwq_rw {M : Nat → Nat → Nat} {v nf a b : Nat} (h : M v v = 0) (y : Nat) : fwq M v nf a b v y = M v y := by
  unfold fwq
  split
  · exact fws_rw h y
  · rfl
theorem fwq_self {M : Nat → Nat → Nat} {v nf a b : Nat} : fwq M v nf a b a b = M a b := by
  unfold fwq
  rw [if_neg (by omega)]
theorem fwq_step {M : Nat → Nat → Nat} {v nf a b : Nat} (ha : a < nf) (hb : b < nf) : mup (fwq M v nf a b) a b (fws M v a b) = fwq M v nf a (b + 1) := by
  funext x y
  unfold mup fwq
  by_cases h : x = a ∧ y = b
  · obtain ⟨rfl, rfl⟩ := h
    rw [if_pos ⟨rfl, rfl⟩, if_pos ⟨ha, hb, Or.inr ⟨rfl, by omega⟩⟩]
  · rw [if_neg h]
    by_cases h2 : x < nf ∧ y < nf ∧ (x < a ∨ (x = a ∧ y < b))
    · rw [if_pos h2, if_pos (by omega)]
    · rw [if_neg h2, if_neg (by omega)]
theorem fwq_line {M : Nat → Nat → Nat} {v nf a : Nat} : fwq M v nf a nf = fwq M v nf (a + 1) 0 := by
  funext x y
  unfold fwq
  by_cases h2 : x < nf ∧ y < nf ∧ (x < a ∨ (x = a ∧ y < nf))
  · rw [if_pos h2, if_pos (by omega)]
  · rw [if_neg h2, if_neg (by omega)]
theorem fwq_0 {M : Nat → Nat → Nat} {v nf : Nat} : fwq M v nf 0 0 = M := by
  funext x y
  unfold fwq
  rw [if_neg (by omega)]
theorem fwq_all {nf k : Nat} {M : Nat → Nat → Nat} : fwq (fwn nf M k) k nf nf 0 = fwn nf M (k + 1) := by
  funext x y
  show _ = if x < nf ∧ y < nf then fws (fwn nf M k) k x y else fwn nf M k x y
  unfold fwq
  by_cases h : x < nf ∧ y < nf
  · rw [if_pos h, if_pos (by omega)]
  · rw [if_neg h, if_neg (by omega)]
/-- where the reference's arrays are -/
def RefT (h : zH) (m : Nat) : Prop := zkd h m = 8 ∧ (zP h m 1 = m + 1 ∧ zP h m 7 = m + 2 ∧ zP h m 8 = m + 3 ∧ zP h m 9 = m + 4 ∧ zP h m 10 = m + 5 ∧ zP h m 11 = m + 6 ∧ zP h m 12 = m + 7 ∧ zP h m 17 = m + 8 ∧ zP h m 18 = m + 9 ∧ zP h m 19 = m + 10 ∧ zP h m 20 = m + 11 ∧ zP h m 21 = m + 12 ∧ zP h m 22 = m + 13 ∧ zP h m 23 = m + 14 ∧ zP h m 24 = m + 15 ∧ zP h m 25 = m + 16 ∧ zP h m 26 = m + 17 ∧ zP h m 27 = m + 18 ∧ zP h m 29 = m + 19 ∧ zP h m 30 = m + 20 ∧ zP h m 31 = m + 21 ∧ zP h m 32 = m + 22 ∧ zP h m 38 = m + 23) ∧
  (∀ j, 1 ≤ j → j ≤ 23 → zkd h (m + j) = if j = 20 then 11 else 9) ∧ zln h (m + 1) = 160 ∧ (∀ j, 2 ≤ j → j ≤ 5 → zln h (m + j) = 20) ∧ (∀ j, 6 ≤ j → j ≤ 7 → zln h (m + j) = 6) ∧ (∀ j, 8 ≤ j → j ≤ 12 → zln h (m + j) = 20) ∧ (∀ j, 13 ≤ j → j ≤ 14 → zln h (m + j) = 6) ∧ (∀ j, 15 ≤ j → j ≤ 17 → zln h (m + j) = 360) ∧ zln h (m + 18) = 5040 ∧ zln h (m + 19) = 720 ∧ zln h (m + 20) = 2 ∧ zln h (m + 21) = 64 ∧ zln h (m + 22) = 64 ∧ zln h (m + 23) = 360
theorem zw_rd {h : zH} {I : Nat → Nat → Int32} {a : Nat} {ρ : zN'} {j : Nat} {x : Int32} (hk : zkd h a = 9) (hI : I a = nr ρ) (hj : j < zln h a) (hb : zln h a < 10000) (hx : nI j = x) : zaI (zw h I) a x = some (nI (ρ j)) := by
  subst hx
  rw [zaIw _ hk hj (by omega), hI]
  rfl
theorem zw_wr {h : zH} {I : Nat → Nat → Int32} {a : Nat} {ρ : zN'} {j v : Nat} {x y : Int32} (hk : zkd h a = 9) (hI : I a = nr ρ) (hj : j < zln h a) (hb : zln h a < 10000) (hx : nI j = x) (hy : nI v = y) : zbI (zw h I) a x y = some (zw h (zz I a (nr (va_up ρ j v)))) := by
  subst hx; subst hy
  rw [zbIw _ _ hk hj (by omega), hI, up_n]
section LAY
variable {h : zH} {I : Nat → Nat → Int32} {m nf : Nat}
theorem lay_147 {u1 : Nat} {u2 : Int32} {M : Nat → Nat → Nat} {old : zN'} {v a : Nat} (hT : RefT h m) (hnf : nf ≤ 8) (hf : I m 4 = nI nf) (hv : v < nf) (ha : a < nf) (hM : ∀ x y, M x y ≤ fINF) (hd : M v v = 0) (k : zH → Int32 → Option zH) : ∀ d b n, b + d = nf → d < n → fX7_layTable_L147 k m u1 u2 (nI v) (nI a) n (zw h (zz I (m + 21) (nr (mrow (fwq M v nf a b) old)))) (nI b) = k (zw h (zz I (m + 21) (nr (mrow (fwq M v nf a nf) old)))) (nI nf) := by
  obtain ⟨t1, ⟨-, -, -, -, -, -, -, -, -, -, -, -, -, -, -, -, -, -, -, -, t3, -⟩, t4, -, -, -, -, -, -, -, -, -, t5, -⟩ := hT
  have kd : zkd h (m + 21) = 9 := by rw [t4 21 (by omega) (by omega)]; rfl
  have hne : m ≠ m + 21 := by omega
  intro d
  induction d with
  | zero =>
    intro b n hb hn
    obtain ⟨n, rfl⟩ := fuel1 hn
    have e : b = nf := by omega
    subst e
    rw [fX7_layTable_L147, zgIw t1, Option.bind_some, zz_ne hne, hf, if_pos (Int32.le_refl _)]
  | succ d ih =>
    intro b n hb hn
    obtain ⟨n, rfl⟩ := fuel1 hn
    have goal := ih (b + 1) n (by omega) (by omega)
    have gp : zgP (zw h (zz I (m + 21) (nr (mrow (fwq M v nf a b) old)))) 7 m 31 = some (m + 21) := zgPw t1 t3 (by omega)
    have rd : ∀ x y, x < 8 → y < 8 → zaI (zw h (zz I (m + 21) (nr (mrow (fwq M v nf a b) old)))) (m + 21) (8 * nI x + nI y) = some (nI (fwq M v nf a b x y)) := fun x y hx hy => by
      have := zw_rd (h := h) (I := zz I (m + 21) (nr (mrow (fwq M v nf a b) old))) (a := m + 21) (ρ := mrow (fwq M v nf a b) old) (j := 8 * x + y) (x := 8 * nI x + nI y) kd zz_at (by omega) (by omega) (by rw [← nI_add, ← pk_mul]; rfl)
      rw [mrow_at hx hy] at this
      exact this
    have wr : ∀ z : Nat, zbI (zw h (zz I (m + 21) (nr (mrow (fwq M v nf a b) old)))) (m + 21) (8 * nI a + nI b) (nI z) = some (zw h (zz I (m + 21) (nr (mrow (mup (fwq M v nf a b) a b z) old)))) := fun z => by
      have := zw_wr (h := h) (I := zz I (m + 21) (nr (mrow (fwq M v nf a b) old))) (a := m + 21) (ρ := mrow (fwq M v nf a b) old) (j := 8 * a + b) (v := z) (x := 8 * nI a + nI b) (y := nI z) kd zz_at (by omega) (by omega) (by rw [← nI_add, ← pk_mul]; rfl) rfl
      rw [zz_zz, mrow_up (by omega) (by omega)] at this
      exact this
    rw [fX7_layTable_L147, zgIw t1, Option.bind_some, zz_ne hne, hf, if_neg (by rw [nI_leI (by omega) (by omega)]; omega), gp, Option.bind_some, rd a v (by omega) (by omega), Option.bind_some, Option.bind_some, rd v b (by omega) (by omega), Option.bind_some, Option.bind_some, Option.bind_some, rd a b (by omega) (by omega), Option.bind_some, fwq_col hd, fwq_rw hd, fwq_self, nI_add]
    have b1 := hM a v
    have b2 := hM v b
    have b3 := hM a b
    unfold fINF at b1 b2 b3
    by_cases c : M a b ≤ M a v + M v b
    · rw [if_pos ((nI_leI (by omega) (by omega)).mpr c), Option.bind_some, rd a b (by omega) (by omega), Option.bind_some, fwq_self, wr, Option.bind_some, nI_1]
      rw [show M a b = fws M v a b from (if_neg (by omega)).symm, fwq_step ha (by omega)]
      exact goal
    · rw [if_neg (fun q => c ((nI_leI (by omega) (by omega)).mp q)), wr, Option.bind_some, nI_1]
      rw [show M a v + M v b = fws M v a b from (if_pos (by omega)).symm, fwq_step ha (by omega)]
      exact goal
theorem lay_135 {u1 : Nat} {u2 : Int32} {M : Nat → Nat → Nat} {old : zN'} {v : Nat} (hT : RefT h m) (hnf : nf ≤ 8) (hf : I m 4 = nI nf) (hv : v < nf) (hM : ∀ x y, M x y ≤ fINF) (hd : M v v = 0) (k : zH → Int32 → Option zH) : ∀ d a n, a + d = nf → d < n → fX7_layTable_L135 k m u1 u2 (nI v) n (zw h (zz I (m + 21) (nr (mrow (fwq M v nf a 0) old)))) (nI a) = k (zw h (zz I (m + 21) (nr (mrow (fwq M v nf nf 0) old)))) (nI nf) := by
  have hne : m ≠ m + 21 := by omega
  intro d
  induction d with
  | zero =>
    intro a n ha hn
    obtain ⟨n, rfl⟩ := fuel1 hn
    have e : a = nf := by omega
    subst e
    rw [fX7_layTable_L135, zgIw hT.1, Option.bind_some, zz_ne hne, hf, if_pos (Int32.le_refl _)]
  | succ d ih =>
    intro a n ha hn
    obtain ⟨n, rfl⟩ := fuel1 hn
    rw [fX7_layTable_L135, zgIw hT.1, Option.bind_some, zz_ne hne, hf, if_neg (by rw [nI_leI (by omega) (by omega)]; omega)]
    have e := lay_147 (h := h) (I := I) (m := m) (nf := nf) (u1 := u1) (u2 := u2) (M := M) (old := old) (v := v) (a := a) hT hnf hf hv (by omega) hM hd (fun h3 y4 => fX7_layTable_L135 k m u1 u2 (nI v) n h3 (nI a + 1)) nf 0 zF (by omega) (by unfold zF; omega)
    refine Eq.trans e ?_
    show fX7_layTable_L135 k m u1 u2 (nI v) n _ (nI a + 1) = _
    rw [fwq_line, nI_1]
    exact ih (a + 1) n (by omega) (by omega)
theorem lay_124 {u1 : Nat} {u2 : Int32} {M : Nat → Nat → Nat} {old : zN'} (hT : RefT h m) (hnf : nf ≤ 8) (hf : I m 4 = nI nf) (hM : ∀ x y, M x y ≤ fINF) (hd : ∀ a, M a a = 0) (k : zH → Int32 → Option zH) : ∀ d v n, v + d = nf → d < n → fX7_layTable_L124 k m u1 u2 n (zw h (zz I (m + 21) (nr (mrow (fwn nf M v) old)))) (nI v) = k (zw h (zz I (m + 21) (nr (mrow (fwn nf M nf) old)))) (nI nf) := by
  have hne : m ≠ m + 21 := by omega
  intro d
  induction d with
  | zero =>
    intro v n hv hn
    obtain ⟨n, rfl⟩ := fuel1 hn
    have e : v = nf := by omega
    subst e
    rw [fX7_layTable_L124, zgIw hT.1, Option.bind_some, zz_ne hne, hf, if_pos (Int32.le_refl _)]
  | succ d ih =>
    intro v n hv hn
    obtain ⟨n, rfl⟩ := fuel1 hn
    rw [fX7_layTable_L124, zgIw hT.1, Option.bind_some, zz_ne hne, hf, if_neg (by rw [nI_leI (by omega) (by omega)]; omega)]
    have e := lay_135 (h := h) (I := I) (m := m) (nf := nf) (u1 := u1) (u2 := u2) (M := fwn nf M v) (old := old) (v := v) hT hnf hf (by omega) (fwn_le hM v) (fwn_diag hd v v) (fun h3 y4 => fX7_layTable_L124 k m u1 u2 n h3 (nI v + 1)) nf 0 zF (by omega) (by unfold zF; omega)
    rw [fwq_0] at e
    refine Eq.trans e ?_
    show fX7_layTable_L124 k m u1 u2 n _ (nI v + 1) = _
    rw [fwq_all, nI_1]
    exact ih (v + 1) n (by omega) (by omega)
end LAY
