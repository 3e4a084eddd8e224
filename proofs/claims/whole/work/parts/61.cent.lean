/-! pure: an entry of the component against an entry of a row -/
def ESh (h : zH) (x : Nat) : Prop := zkd h x = 2 ∧ zP h x 0 = x + 1 ∧ zP h x 1 = x + 2 ∧ zkd h (x + 1) = 9 ∧ zln h (x + 1) = 8 ∧ zkd h (x + 2) = 9 ∧ zln h (x + 2) = 8
def ebs (ρ : zN') (e k : Nat) : Nat := bsm (fun f => decide (k ≤ ρ (24 + 28 * e + 16 + f))) 8
def ttg (n : Nat) : Int32 := if n = 4294967287 then nI 4294967295 else nI n
def ER (tg : Bool) (h : zH) (x : Nat) (ρ : zN') (e : Nat) : Prop := zI h x 2 = nI (ebs ρ e 1) ∧ zI h x 3 = nI (ebs ρ e 2) ∧ zI h x 4 = nI (nsz ρ e) ∧ zI h x 5 = nI (ρ (24 + 28 * e + 24)) ∧ zI h x 6 = nI (ρ (24 + 28 * e + 25)) ∧ zI h x 7 = nI (ρ (24 + 28 * e + 26)) ∧
  (∀ f, f < 8 → ρ (24 + 28 * e + 16 + f) ≠ 0 → zI h (x + 1) f = nI (ρ (24 + 28 * e + f)) ∧ zI h (x + 2) f = nI (ρ (24 + 28 * e + 8 + f))) ∧ (tg = true → zI h x 8 = ttg (ρ (24 + 28 * e + 27)))
theorem ebs_lt (ρ : zN') (e k : Nat) : ebs ρ e k < 256 := bsm_lt _ 8
theorem ebs_en {ρ ρ' : zN'} {i i' k : Nat} (h : ∀ k, k < 28 → ρ' (24 + 28 * i + k) = ρ (24 + 28 * i' + k)) : ebs ρ' i k = ebs ρ i' k := bsm_congr fun f hf => by
  have := h (16 + f) (by omega)
  rw [← Nat.add_assoc, ← Nat.add_assoc] at this
  rw [this]
theorem ER_en {tg : Bool} {h : zH} {x : Nat} {ρ ρ' : zN'} {i i' : Nat} (q : ∀ k, k < 28 → ρ' (24 + 28 * i + k) = ρ (24 + 28 * i' + k)) (hr : ER tg h x ρ i') : ER tg h x ρ' i := by
  obtain ⟨r2, r3, r4, r5, r6, r7, rf, rt⟩ := hr
  refine ⟨by rw [ebs_en q]; exact r2, by rw [ebs_en q]; exact r3, by rw [nsz_en q]; exact r4, by rw [q 24 (by omega)]; exact r5, by rw [q 25 (by omega)]; exact r6, by rw [q 26 (by omega)]; exact r7, fun f hf hn => ?_, fun t => by rw [q 27 (by omega)]; exact rt t⟩
  have q16 := q (16 + f) (by omega)
  have q8 := q (8 + f) (by omega)
  rw [← Nat.add_assoc, ← Nat.add_assoc] at q16 q8
  rw [q16] at hn
  rw [q f (by omega), q8]
  exact rf f hf hn
theorem ER_fr {tg : Bool} {h h' : zH} {x : Nat} {ρ : zN'} {e : Nat} (q : ∀ a, x ≤ a → a < x + 3 → zI h' a = zI h a) (hr : ER tg h x ρ e) : ER tg h' x ρ e := by
  unfold ER
  rw [q x (by omega) (by omega), q (x + 1) (by omega) (by omega), q (x + 2) (by omega) (by omega)]
  exact hr
theorem ER_no {tg : Bool} {h : zH} {x : Nat} {ρ : zN'} {e : Nat} (hr : ER tg h x ρ e) : ER false h x ρ e := by
  obtain ⟨r2, r3, r4, r5, r6, r7, rf, rt⟩ := hr
  exact ⟨r2, r3, r4, r5, r6, r7, rf, fun t => by cases t⟩
theorem ESh_fr {h h' : zH} {x : Nat} (k : zkd h' = zkd h) (l : zln h' = zln h) (p : zP h' x = zP h x) (hs : ESh h x) : ESh h' x := by
  unfold ESh
  rw [k, l, p]
  exact hs
theorem ebs_bit {ρ : zN'} {e k f : Nat} (hf : f < 8) : ebs ρ e k / 2 ^ f % 2 = if k ≤ ρ (24 + 28 * e + 16 + f) then 1 else 0 := by
  unfold ebs
  rw [bsm_bit hf]
  simp only [decide_eq_true_eq]
theorem ebs_up {ρ ρ' : zN'} {e k f : Nat} (hf : f < 8) (h : ∀ g, g < 8 → g ≠ f → ρ' (24 + 28 * e + 16 + g) = ρ (24 + 28 * e + 16 + g)) (h0 : ¬ k ≤ ρ (24 + 28 * e + 16 + f)) : ebs ρ' e k = if k ≤ ρ' (24 + 28 * e + 16 + f) then ebs ρ e k + 2 ^ f else ebs ρ e k := by
  by_cases c : k ≤ ρ' (24 + 28 * e + 16 + f)
  · rw [if_pos c]
    exact bsm_set hf (fun i hi hn => by rw [h i hi hn]) (decide_eq_false h0) (decide_eq_true c)
  · rw [if_neg c]
    refine bsm_congr fun g hg => ?_
    by_cases q : g = f
    · subst q; rw [decide_eq_false c, decide_eq_false h0]
    · rw [h g hg q]
def nld (ρ : zN') (e : Nat) : Nat → Option Nat
  | 0 => none
  | f + 1 => if ρ (24 + 28 * e + 16 + f) = 2 then (match nld ρ e f with
    | none => some f
    | some g => if ρ (24 + 28 * e + f) ≤ ρ (24 + 28 * e + g) then some g else some f) else nld ρ e f
def zom (o : Option Nat) : Int32 := match o with
  | none => nI 4294967295
  | some e => nI e
theorem nld_some {ρ : zN'} {e g : Nat} : ∀ {n : Nat}, nld ρ e n = some g → g < n ∧ ρ (24 + 28 * e + 16 + g) = 2 ∧ (∀ f, f < n → ρ (24 + 28 * e + 16 + f) = 2 → ρ (24 + 28 * e + f) ≤ ρ (24 + 28 * e + g)) ∧ ∀ f, f < g → ρ (24 + 28 * e + 16 + f) = 2 → ρ (24 + 28 * e + f) < ρ (24 + 28 * e + g) := by
  intro n
  induction n generalizing g with
  | zero => intro h; cases h
  | succ n ih =>
    intro h
    unfold nld at h
    by_cases c : ρ (24 + 28 * e + 16 + n) = 2
    · rw [if_pos c] at h
      cases hn : nld ρ e n with
      | none =>
        rw [hn] at h
        cases h
        have no : ∀ m, m ≤ n → nld ρ e m = none := by
          intro m hm
          have : ∀ j m, m + j = n → nld ρ e m = none := by
            intro j
            induction j with
            | zero => intro m hm; rw [show m = n by omega]; exact hn
            | succ j ihj =>
              intro m hm
              have e1 := ihj (m + 1) (by omega)
              unfold nld at e1
              by_cases q : ρ (24 + 28 * e + 16 + m) = 2
              · rw [if_pos q] at e1
                cases hm2 : nld ρ e m with
                | none => rfl
                | some z => rw [hm2] at e1; dsimp only at e1; split at e1 <;> cases e1
              · rw [if_neg q] at e1; exact e1
          exact this (n - m) m (by omega)
        have nk : ∀ f, f < n → ρ (24 + 28 * e + 16 + f) ≠ 2 := fun f hf q => by
          have e1 := no (f + 1) (by omega)
          unfold nld at e1
          rw [if_pos q, no f (by omega)] at e1
          cases e1
        refine ⟨by omega, c, fun f hf q => ?_, fun f hf q => absurd q (nk f hf)⟩
        by_cases z : f = n
        · rw [z]; exact Nat.le_refl _
        · exact absurd q (nk f (by omega))
      | some z =>
        rw [hn] at h
        dsimp only at h
        obtain ⟨i1, i2, i3, i4⟩ := ih hn
        by_cases q : ρ (24 + 28 * e + n) ≤ ρ (24 + 28 * e + z)
        · rw [if_pos q] at h
          cases h
          refine ⟨by omega, i2, fun f hf w => ?_, i4⟩
          by_cases y : f = n
          · rw [y]; exact q
          · exact i3 f (by omega) w
        · rw [if_neg q] at h
          cases h
          refine ⟨by omega, c, fun f hf w => ?_, fun f hf w => ?_⟩
          · by_cases y : f = n
            · rw [y]; exact Nat.le_refl _
            · have := i3 f (by omega) w
              omega
          · have := i3 f hf w
            omega
    · rw [if_neg c] at h
      obtain ⟨i1, i2, i3, i4⟩ := ih h
      refine ⟨by omega, i2, fun f hf w => ?_, i4⟩
      by_cases y : f = n
      · rw [y] at w; exact absurd w c
      · exact i3 f (by omega) w
theorem nld_none {ρ : zN'} {e : Nat} : ∀ {n : Nat}, nld ρ e n = none → ∀ f, f < n → ρ (24 + 28 * e + 16 + f) ≠ 2 := by
  intro n
  induction n with
  | zero => intro h f hf; omega
  | succ n ih =>
    intro h f hf
    unfold nld at h
    by_cases c : ρ (24 + 28 * e + 16 + n) = 2
    · rw [if_pos c] at h
      cases hn : nld ρ e n with
      | none => rw [hn] at h; cases h
      | some z => rw [hn] at h; dsimp only at h; split at h <;> cases h
    · rw [if_neg c] at h
      by_cases y : f = n
      · rw [y]; exact c
      · exact ih h f (by omega)
section CENT
variable {tg : Bool} {h : zH} {x e : Nat} {ρ : zN'}
theorem c_holds {f : Nat} (hs : ESh h x) (hr : ER tg h x ρ e) (hf : f < 8) : fX1_holds h x (nI f) = some (if ρ (24 + 28 * e + 16 + f) = 0 then nI 0 else nI 1, h) := by
  obtain ⟨kd, -⟩ := hs
  obtain ⟨r2, -⟩ := hr
  unfold fX1_holds
  have bt := bit_at _ (ebs_lt ρ e 1) f hf
  rw [ebs_bit hf] at bt
  by_cases c : ρ (24 + 28 * e + 16 + f) = 0
  · rw [if_neg (by omega)] at bt
    simp (disch := first | assumption | (simp only [sI_kd, sP_kd, rw_kd, sI_ln, sP_ln, rw_ln] <;> first | assumption | omega) | omega) only [nl, nI_add, pk_mul, Option.bind_some, zb2_some, nI_le_t, nI_le_f, nI_lt_t, nI_lt_f, nI_eq_t, nI_eq_f, nI_m1, nI_em1, ↓reduceIte, Nat.add_zero, kd, gI_, r2, bt, c]
  · rw [if_pos (by omega)] at bt
    simp (disch := first | assumption | (simp only [sI_kd, sP_kd, rw_kd, sI_ln, sP_ln, rw_ln] <;> first | assumption | omega) | omega) only [nl, nI_add, pk_mul, Option.bind_some, zb2_some, nI_le_t, nI_le_f, nI_lt_t, nI_lt_f, nI_eq_t, nI_eq_f, nI_m1, nI_em1, ↓reduceIte, Nat.add_zero, kd, gI_, r2, bt, c]
theorem c_holds8 {f : Nat} (hs : ESh h x) (hf : 8 ≤ f) (hb : f < 2 ^ 31) : fX1_holds h x (nI f) = some (nI 0, h) := by
  obtain ⟨kd, -⟩ := hs
  unfold fX1_holds
  simp (disch := first | assumption | (simp only [sI_kd, sP_kd, rw_kd, sI_ln, sP_ln, rw_ln] <;> first | assumption | omega) | omega) only [nl, nI_add, pk_mul, Option.bind_some, zb2_some, nI_le_t, nI_le_f, nI_lt_t, nI_lt_f, nI_eq_t, nI_eq_f, nI_m1, nI_em1, ↓reduceIte, Nat.add_zero, kd]
theorem c_hd {f : Nat} (hs : ESh h x) (hr : ER tg h x ρ e) (ho : eok ρ e) (hf : f < 8) : fX1_holdsDerived h x (nI f) = some (if ρ (24 + 28 * e + 16 + f) = 2 then nI 1 else nI 0, h) := by
  obtain ⟨kd, -⟩ := hs
  obtain ⟨-, r3, -⟩ := hr
  unfold fX1_holdsDerived
  have bt := bit_at _ (ebs_lt ρ e 2) f hf
  rw [ebs_bit hf] at bt
  have := (ho.1 f hf).1
  by_cases c : ρ (24 + 28 * e + 16 + f) = 2
  · rw [if_pos (by omega)] at bt
    simp (disch := first | assumption | (simp only [sI_kd, sP_kd, rw_kd, sI_ln, sP_ln, rw_ln] <;> first | assumption | omega) | omega) only [nl, nI_add, pk_mul, Option.bind_some, zb2_some, nI_le_t, nI_le_f, nI_lt_t, nI_lt_f, nI_eq_t, nI_eq_f, nI_m1, nI_em1, ↓reduceIte, Nat.add_zero, kd, gI_, r3, bt, c]
  · rw [if_neg (by omega)] at bt
    simp (disch := first | assumption | (simp only [sI_kd, sP_kd, rw_kd, sI_ln, sP_ln, rw_ln] <;> first | assumption | omega) | omega) only [nl, nI_add, pk_mul, Option.bind_some, zb2_some, nI_le_t, nI_le_f, nI_lt_t, nI_lt_f, nI_eq_t, nI_eq_f, nI_m1, nI_em1, ↓reduceIte, Nat.add_zero, kd, gI_, r3, bt, c]
def ndz (ρ : zN') (e f : Nat) : Nat := if ρ (24 + 28 * e + 16 + f) = 2 then ρ (24 + 28 * e + f) else 0
theorem nor_ndz (ρ : zN') (e : Nat) : nor ρ e + nsum (ndz ρ e) 8 = nsz ρ e := by
  unfold nor
  rw [← nsum_add]
  refine nsum_congr fun f hf => ?_
  unfold ndz
  split <;> omega
theorem c_rd {f : Nat} (hs : ESh h x) (hr : ER tg h x ρ e) (hf : f < 8) (hk : ρ (24 + 28 * e + 16 + f) ≠ 0) : zaI h (x + 1) (nI f) = some (nI (ρ (24 + 28 * e + f))) := by
  obtain ⟨-, -, -, k1, l1, -⟩ := hs
  rw [aI_ k1 (by omega) (by omega), (hr.2.2.2.2.2.2.1 f hf hk).1]
theorem c_osz_L (hs : ESh h x) (hr : ER tg h x ρ e) (ho : eok ρ e) (k : zH → Int32 → Int32 → Option (Int32 × zH)) : ∀ d f n w, f + d = 8 → d < n → w + nsum (ndz ρ e) f = nsz ρ e → fX1_originalSize_L7 k x n h (nI w) (nI f) = k h (nI (nor ρ e)) (nI 8) := by
  have pp : zgP h 1 x 0 = some (x + 1) := gP_ hs.1 hs.2.1 (by omega)
  intro d
  induction d with
  | zero =>
    intro f n w hf hn hw
    obtain ⟨n, rfl⟩ := fuel1 hn
    have e8 : f = 8 := by omega
    subst e8
    have := nor_ndz ρ e
    have ew : w = nor ρ e := by omega
    rw [fX1_originalSize_L7]
    simp (disch := first | assumption | (simp only [sI_kd, sP_kd, rw_kd, sI_ln, sP_ln, rw_ln] <;> first | assumption | omega) | omega) only [nl, nI_add, pk_mul, Option.bind_some, zb2_some, nI_le_t, nI_le_f, nI_lt_t, nI_lt_f, nI_eq_t, nI_eq_f, nI_m1, nI_em1, ↓reduceIte, Nat.add_zero, ew]
  | succ d ih =>
    intro f n w hf hn hw
    obtain ⟨n, rfl⟩ := fuel1 hn
    rw [fX1_originalSize_L7]
    have st : nsum (ndz ρ e) (f + 1) = nsum (ndz ρ e) f + ndz ρ e f := rfl
    by_cases c : ρ (24 + 28 * e + 16 + f) = 2
    · have dz : ndz ρ e f = ρ (24 + 28 * e + f) := if_pos c
      have up : nsum (ndz ρ e) (f + 1) ≤ nsum (ndz ρ e) 8 := nsum_upto (by omega)
      have := nor_ndz ρ e
      simp (disch := first | assumption | (simp only [sI_kd, sP_kd, rw_kd, sI_ln, sP_ln, rw_ln] <;> first | assumption | omega) | omega) only [nl, nI_add, pk_mul, Option.bind_some, zb2_some, nI_le_t, nI_le_f, nI_lt_t, nI_lt_f, nI_eq_t, nI_eq_f, nI_m1, nI_em1, ↓reduceIte, Nat.add_zero, c_hd hs hr ho, c, pp, c_rd hs hr]
      rw [pk_sub (by omega)]
      exact ih (f + 1) n _ (by omega) (by omega) (by omega)
    · have dz : ndz ρ e f = 0 := if_neg c
      simp (disch := first | assumption | (simp only [sI_kd, sP_kd, rw_kd, sI_ln, sP_ln, rw_ln] <;> first | assumption | omega) | omega) only [nl, nI_add, pk_mul, Option.bind_some, zb2_some, nI_le_t, nI_le_f, nI_lt_t, nI_lt_f, nI_eq_t, nI_eq_f, nI_m1, nI_em1, ↓reduceIte, Nat.add_zero, c_hd hs hr ho, c]
      exact ih (f + 1) n _ (by omega) (by omega) (by omega)
theorem c_osz (hs : ESh h x) (hr : ER tg h x ρ e) (ho : eok ρ e) : fX1_originalSize h x = some (nI (nor ρ e), h) := by
  unfold fX1_originalSize
  have g := gI_ (k := 4) (c := 1) hs.1
  rw [hr.2.2.1] at g
  rw [if_pos hs.1, g, Option.bind_some]
  exact c_osz_L hs hr ho _ 8 0 zF _ rfl (by decide) rfl
theorem c_weight (hs : ESh h x) (hr : ER tg h x ρ e) (h1 : ρ 1 < 10000) (ho : eok ρ e) : fX1_weight h x (nI (ρ 1)) = some (nI (nwt ρ e), h) := by
  obtain ⟨kd, -⟩ := hs
  obtain ⟨-, -, r4, -, r6, r7, -⟩ := hr
  have u : ρ (24 + 28 * e + 25) ≤ ρ 1 := ho.2.2.1
  unfold fX1_weight
  rw [if_pos kd, gI_ kd, Option.bind_some, gI_ kd, Option.bind_some, gI_ kd, Option.bind_some, r4, r6, r7]
  have mx : (if (1 : Int32) < nI (ρ (24 + 28 * e + 25)) + 1 then nI (ρ (24 + 28 * e + 25)) + 1 else 1) = nI (ρ (24 + 28 * e + 25)) + 1 := by
    by_cases z : ρ (24 + 28 * e + 25) = 0
    · rw [z]; decide
    · rw [if_pos]
      rw [show (1 : Int32) = nI 1 from rfl, nI_add]
      exact (nI_ltI (by omega) (by omega)).mpr (by omega)
  simp only [mx]
  have nu : ¬ (nI (ρ (24 + 28 * e + 25)) + 1).toInt64 = 0 := nuse_ne h1 ho
  rw [if_neg nu]
  simp only [lg_cmp_le]
  have eq : (nI (nsz ρ e)).toInt64 * (nI (ρ 1) - nI (ρ (24 + 28 * e + 26)) + 1).toInt64 / (nI (ρ (24 + 28 * e + 25)) + 1).toInt64 = rwq (nr ρ) e := by
    unfold rwq
    rw [rsz_n]
    rfl
  rw [eq, ← rwt_n h1 ho]
  unfold rwt
  split <;> rfl
theorem c_ldv_L (hs : ESh h x) (hr : ER tg h x ρ e) (ho : eok ρ e) (k : zH → Int32 → Int32 → Option (Int32 × zH)) : ∀ d f n, f + d = 8 → d < n → fX1_largestDerived_L4 k x n h (zom (nld ρ e f)) (nI f) = k h (zom (nld ρ e 8)) (nI 8) := by
  have pp : zgP h 1 x 0 = some (x + 1) := gP_ hs.1 hs.2.1 (by omega)
  intro d
  induction d with
  | zero =>
    intro f n hf hn
    obtain ⟨n, rfl⟩ := fuel1 hn
    have e8 : f = 8 := by omega
    subst e8
    rw [fX1_largestDerived_L4]
    simp (disch := first | assumption | (simp only [sI_kd, sP_kd, rw_kd, sI_ln, sP_ln, rw_ln] <;> first | assumption | omega) | omega) only [nl, nI_add, pk_mul, Option.bind_some, zb2_some, nI_le_t, nI_le_f, nI_lt_t, nI_lt_f, nI_eq_t, nI_eq_f, nI_m1, nI_em1, ↓reduceIte, Nat.add_zero]
  | succ d ih =>
    intro f n hf hn
    obtain ⟨n, rfl⟩ := fuel1 hn
    rw [fX1_largestDerived_L4]
    rw [← ih (f + 1) n (by omega) (by omega)]
    by_cases c : ρ (24 + 28 * e + 16 + f) = 2
    · have nf := (ho.1 f (by omega)).2.1
      cases hl : nld ρ e f with
      | none =>
        have s : nld ρ e (f + 1) = some f := by rw [nld, if_pos c, hl]
        rw [s]
        simp (disch := first | assumption | (simp only [sI_kd, sP_kd, rw_kd, sI_ln, sP_ln, rw_ln] <;> first | assumption | omega) | omega) only [nl, nI_add, pk_mul, Option.bind_some, zb2_some, nI_le_t, nI_le_f, nI_lt_t, nI_lt_f, nI_eq_t, nI_eq_f, nI_m1, nI_em1, ↓reduceIte, Nat.add_zero, c_hd hs hr ho, c, zom]
      | some g =>
        obtain ⟨g1, g2, -⟩ := nld_some hl
        have ng := (ho.1 g (by omega)).2.1
        have s : nld ρ e (f + 1) = if ρ (24 + 28 * e + f) ≤ ρ (24 + 28 * e + g) then some g else some f := by rw [nld, if_pos c, hl]
        rw [s]
        by_cases q : ρ (24 + 28 * e + f) ≤ ρ (24 + 28 * e + g)
        · rw [if_pos q]
          have := c_rd hs hr (f := g) (by omega) (by omega)
          simp (disch := first | assumption | (simp only [sI_kd, sP_kd, rw_kd, sI_ln, sP_ln, rw_ln] <;> first | assumption | omega) | omega) only [nl, nI_add, pk_mul, Option.bind_some, zb2_some, nI_le_t, nI_le_f, nI_lt_t, nI_lt_f, nI_eq_t, nI_eq_f, nI_m1, nI_em1, ↓reduceIte, Nat.add_zero, c_hd hs hr ho, c, zom, pp, c_rd hs hr, this]
        · rw [if_neg q]
          have := c_rd hs hr (f := g) (by omega) (by omega)
          simp (disch := first | assumption | (simp only [sI_kd, sP_kd, rw_kd, sI_ln, sP_ln, rw_ln] <;> first | assumption | omega) | omega) only [nl, nI_add, pk_mul, Option.bind_some, zb2_some, nI_le_t, nI_le_f, nI_lt_t, nI_lt_f, nI_eq_t, nI_eq_f, nI_m1, nI_em1, ↓reduceIte, Nat.add_zero, c_hd hs hr ho, c, zom, pp, c_rd hs hr, this]
    · have s : nld ρ e (f + 1) = nld ρ e f := by rw [nld, if_neg c]
      rw [s]
      simp (disch := first | assumption | (simp only [sI_kd, sP_kd, rw_kd, sI_ln, sP_ln, rw_ln] <;> first | assumption | omega) | omega) only [nl, nI_add, pk_mul, Option.bind_some, zb2_some, nI_le_t, nI_le_f, nI_lt_t, nI_lt_f, nI_eq_t, nI_eq_f, nI_m1, nI_em1, ↓reduceIte, Nat.add_zero, c_hd hs hr ho, c]
theorem c_ldv (hs : ESh h x) (hr : ER tg h x ρ e) (ho : eok ρ e) : fX1_largestDerived h x = some (zom (nld ρ e 8), h) := by
  unfold fX1_largestDerived
  rw [if_pos hs.1]
  exact c_ldv_L hs hr ho _ 8 0 zF rfl (by decide)
end CENT
