/-! pure: the reference's table as a whole -/
section LAY3
variable {h : zH} {I : Nat → Nat → Int32} {m nf : Nat}
def mhalf (T : Nat → Nat → Nat) (old : zN') (n : Nat) : zN' := fun j => if j < n then (if j % 8 = j / 8 then 0 else T (j / 8) (j % 8)) else old j
theorem mhalf_s {T : Nat → Nat → Nat} {old : zN'} {n : Nat} : va_up (mhalf T old n) n (if n % 8 = n / 8 then 0 else T (n / 8) (n % 8)) = mhalf T old (n + 1) := by
  funext j
  unfold va_up mhalf
  by_cases h : j = n
  · subst h
    rw [if_pos rfl, if_pos (show j < j + 1 by omega)]
  · rw [if_neg h]
    by_cases h2 : j < n
    · rw [if_pos h2, if_pos (show j < n + 1 by omega)]
    · rw [if_neg h2, if_neg (show ¬ j < n + 1 by omega)]
theorem lay_83 {u1 : Nat} {u2 : Int32} {T : Nat → Nat → Nat} {old od : zN'} (hT : RefT h m) (hd : I (m + 22) = nr (mrow T od)) (k : zH → Int32 → Option zH) : ∀ d j n, j + d = 64 → d < n → fX7_layTable_L83 k m u1 u2 n (zw h (zz I (m + 21) (nr (mhalf T old j)))) (nI j) = k (zw h (zz I (m + 21) (nr (mhalf T old 64)))) (nI 64) := by
  intro d
  induction d with
  | zero =>
    intro j n hj hn
    obtain ⟨n, rfl⟩ := fuel1 hn
    have e : j = 64 := by omega
    subst e
    rw [fX7_layTable_L83]
    simp (disch := first | assumption | omega) only [nl, nI_add, pk_mul, Option.bind_some, zb2_some, zz_at, zz_zz, zz_ne, nr_at, up_n, zaIw, zbIw, zgIw, zpIw, nI_le_t, nI_le_f, nI_lt_t, nI_lt_f, nI_eq_t, nI_eq_f, ↓reduceIte, zw_kd, zw_ln, zw_P, zw_I, nI_n9, Nat.add_zero]
  | succ d ih =>
    intro j n hj hn
    obtain ⟨n, rfl⟩ := fuel1 hn
    have goal := ih (j + 1) n (by omega) (by omega)
    have r : nI j - nI j / nI 8 * nI 8 = nI (j % 8) := pk_rem (by omega) (by omega) (by omega)
    have q : nI j / nI 8 = nI (j / 8) := pk_div (by omega) (by omega) (by omega)
    have r' : nI j - nI (j / 8 * 8) = nI (j % 8) := by rw [← r, q, pk_mul]
    rw [fX7_layTable_L83]
    simp (disch := first | assumption | omega) only [nl, nI_add, pk_mul, Option.bind_some, zb2_some, zz_at, zz_zz, zz_ne, nr_at, up_n, zaIw, zbIw, zgIw, zpIw, nI_le_t, nI_le_f, nI_lt_t, nI_lt_f, nI_eq_t, nI_eq_f, ↓reduceIte, zw_kd, zw_ln, zw_P, zw_I, nI_n9, Nat.add_zero, rgI hT, rpI hT, rkd hT, rg21 hT, ra21 hT, rb21 hT, rg22 hT, ra22 hT, rb22 hT, q, r', hd]
    rw [← goal, ← mhalf_s]
    by_cases c : j % 8 = j / 8
    · rw [if_pos c]
      simp (disch := first | assumption | omega) only [nl, nI_add, pk_mul, Option.bind_some, zb2_some, zz_at, zz_zz, zz_ne, nr_at, up_n, zaIw, zbIw, zgIw, zpIw, nI_le_t, nI_le_f, nI_lt_t, nI_lt_f, nI_eq_t, nI_eq_f, ↓reduceIte, zw_kd, zw_ln, zw_P, zw_I, nI_n9, Nat.add_zero]
    · rw [if_neg c]
      have e : mrow T od j = T (j / 8) (j % 8) := if_pos (by omega)
      simp (disch := first | assumption | omega) only [nl, nI_add, pk_mul, Option.bind_some, zb2_some, zz_at, zz_zz, zz_ne, nr_at, up_n, zaIw, zbIw, zgIw, zpIw, nI_le_t, nI_le_f, nI_lt_t, nI_lt_f, nI_eq_t, nI_eq_f, ↓reduceIte, zw_kd, zw_ln, zw_P, zw_I, nI_n9, Nat.add_zero, e]
theorem mhalf_64 {s : Nat} {cost : Nat → Nat → Nat} {old : zN'} : mhalf (fwd s cost) old 64 = mrow (fw0 s cost) old := by
  funext j
  unfold mhalf mrow fw0
  by_cases h : j < 64
  · rw [if_pos h, if_pos h]
    by_cases h2 : j % 8 = j / 8
    · rw [if_pos h2, if_pos h2.symm]
    · rw [if_neg h2, if_neg (fun z => h2 z.symm)]
  · rw [if_neg h, if_neg h]
theorem cmt_le {fr tt co : Nat → Nat} {skip : Nat} : ∀ {n : Nat}, (∀ c, c < n → co c ≤ 99) → ∀ x y, cmt fr tt co skip n x y ≤ 99 := by
  intro n
  induction n with
  | zero => intro _ x y; exact Nat.zero_le _
  | succ n ih =>
    intro h x y
    show (if x = fr n ∧ y = tt n then (if n = skip then 0 else co n) else cmt fr tt co skip n x y) ≤ 99
    split
    · split
      · omega
      · exact h n (by omega)
    · exact ih (fun c hc => h c (by omega)) x y
theorem fw0_le {s : Nat} {cost : Nat → Nat → Nat} (hs : s ≤ 16) (hc : ∀ x y, cost x y ≤ 99) : ∀ x y, fw0 s cost x y ≤ fINF := by
  intro x y
  unfold fw0 fwd fINF
  have := hc x y
  split
  · omega
  · split
    · omega
    · have : s * cost x y ≤ 16 * 99 := Nat.mul_le_mul hs this
      omega
/-- what the reference lays -/
def nT (fr tt co : Nat → Nat) (skip nc nf : Nat) : Nat → Nat → Nat := fwn nf (fw0 16 (cmt fr tt co skip nc)) nf
theorem n_layTable {a skip nc : Nat} {u2 : Int32} {ot od fr tt ρ : zN'} (hT : RefT h m) (ha : a ≠ m + 22) (ha' : a ≠ m + 21) (hka : zkd h a = 9) (hla : zln h a = 360) (hu : ∀ c, c < 20 → (nI c = u2 ↔ c = skip)) (h5 : I m 5 = nI nc) (h4 : I m 4 = nI nf) (hfr : I (m + 2) = nr fr) (htt : I (m + 3) = nr tt) (hρ : I a = nr ρ) (hco : ∀ c, c < nc → 1 ≤ ρ (4 + c) ∧ ρ (4 + c) ≤ 99) (hb : bok fr tt nc nf) (h21 : I (m + 21) = nr ot) (h22 : I (m + 22) = nr od) :
    fX7_layTable (zw h I) m a u2 = some (zw h (zz (zz I (m + 22) (nr (mrow (fwd 16 (cmt fr tt (fun c => ρ (4 + c)) skip nc)) od))) (m + 21) (nr (mrow (nT fr tt (fun c => ρ (4 + c)) skip nc nf) ot)))) := by
  have hn := hb.1
  have hnc := hb.2.1
  have ne : m + 22 ≠ m + 21 := by omega
  have hcl : ∀ c, c < nc → (fun c => ρ (4 + c)) c ≤ 99 := fun c hc => (hco c hc).2
  unfold fX7_layTable
  rw [if_pos (rkd hT)]
  have e1 := lay_2 (I := I) (u1 := a) (u2 := u2) (old := od) hT (fun h1 y2 => fX7_layTable_L25 (fun h3 y4 => fX7_layTable_L83 (fun h5 y6 => fX7_layTable_L124 (fun h7 y8 => some h7) m a u2 zF h5 0) m a u2 zF h3 0) m a u2 zF h1 0) 64 0 zF (by omega) (by unfold zF; omega)
  rw [nfill_0, ← h22, zz_self] at e1
  refine Eq.trans e1 ?_
  show fX7_layTable_L25 _ m a u2 zF _ 0 = _
  rw [nfill_fwd (fr := fr) (tt := tt) (co := fun c => ρ (4 + c)) (skip := skip)]
  refine Eq.trans (lay_25 (I := I) (nf := nf) (nc := nc) (skip := skip) (ρ := ρ) (old := od) (fr := fr) (tt := tt) (a := a) (u2 := u2) hT ha hka hla hu h5 hfr htt hρ hco hb _ nc 0 zF (by omega) (by unfold zF; omega)) ?_
  have e3 := lay_83 (I := zz I (m + 22) (nr (mrow (fwd 16 (cmt fr tt (fun c => ρ (4 + c)) skip nc)) od))) (u1 := a) (u2 := u2) (old := ot) hT zz_at (fun h5 y6 => fX7_layTable_L124 (fun h7 y8 => some h7) m a u2 zF h5 0) 64 0 zF (by omega) (by unfold zF; omega)
  have z0 : mhalf (fwd 16 (cmt fr tt (fun c => ρ (4 + c)) skip nc)) ot 0 = ot := by
    funext j
    exact if_neg (by omega)
  rw [z0, ← h21, show zz (zz I (m + 22) (nr (mrow (fwd 16 (cmt fr tt (fun c => ρ (4 + c)) skip nc)) od))) (m + 21) (I (m + 21)) = zz I (m + 22) (nr (mrow (fwd 16 (cmt fr tt (fun c => ρ (4 + c)) skip nc)) od)) by
    rw [zz_comm _ ne, zz_self]] at e3
  refine Eq.trans e3 ?_
  show fX7_layTable_L124 _ m a u2 zF _ 0 = _
  rw [mhalf_64, show mrow (fw0 16 (cmt fr tt (fun c => ρ (4 + c)) skip nc)) ot = mrow (fwn nf (fw0 16 (cmt fr tt (fun c => ρ (4 + c)) skip nc)) 0) ot from rfl]
  exact lay_124 (I := zz I (m + 22) (nr (mrow (fwd 16 (cmt fr tt (fun c => ρ (4 + c)) skip nc)) od))) hT hn (by rw [zz_ne (by omega)]; exact h4) (fw0_le (by omega) (cmt_le hcl)) (fw0_diag _ _) _ nf 0 zF (by omega) (by unfold zF; omega)
end LAY3
