/-! pure: a state of the component against a row: what reads -/
def SSh (h : zH) (q : Nat) : Prop := zkd h q = 4 ∧ zP h q 0 = q + 1 ∧ zP h q 1 = q + 2 ∧ zkd h (q + 1) = 12 ∧ zln h (q + 1) = 12 ∧ zkd h (q + 2) = 9 ∧ zln h (q + 2) = 20 ∧ (∀ j, j < 12 → ESh h (q + 3 + 3 * j)) ∧ (∀ i, i < 12 → ∃ j, j < 12 ∧ zP h (q + 1) i = q + 3 + 3 * j) ∧ ∀ i j, i < 12 → j < 12 → zP h (q + 1) i = zP h (q + 1) j → i = j
def SR (tg : Bool) (h : zH) (q nc : Nat) (ρ : zN') : Prop := SSh h q ∧ zI h q 2 = nI (ρ 0) ∧ zI h q 3 = nI (ρ 1) ∧ zI h q 4 = nI (ρ 2) ∧ zI h q 5 = nI (ρ 3) ∧ (∀ c, c < nc → zI h (q + 2) c = nI (ρ (4 + c))) ∧ ∀ i, i < ρ 0 → ER tg h (zP h (q + 1) i) ρ i
theorem SSh_fr {h h' : zH} {q lo hi : Nat} (f : Fr lo hi h h') (d : q + 39 ≤ lo ∨ hi ≤ q) (hs : SSh h q) : SSh h' q := by
  obtain ⟨f1, f2, -, f4⟩ := f
  obtain ⟨a1, a2, a3, a4, a5, a6, a7, a8, a9, a10⟩ := hs
  have p0 := (f4 q (by omega)).2
  have p1 := (f4 (q + 1) (by omega)).2
  unfold SSh
  rw [f1, f2, p0, p1]
  exact ⟨a1, a2, a3, a4, a5, a6, a7, fun j hj => ESh_fr f1 f2 (f4 _ (by omega)).2 (a8 j hj), a9, a10⟩
theorem SSh_fI {h h' : zH} {q lo hi : Nat} (f : FrI lo hi h h') (hs : SSh h q) : SSh h' q := by
  obtain ⟨f1, f2, -, f4, -⟩ := f
  obtain ⟨a1, a2, a3, a4, a5, a6, a7, a8, a9, a10⟩ := hs
  unfold SSh
  rw [f1, f2, f4]
  exact ⟨a1, a2, a3, a4, a5, a6, a7, fun j hj => ESh_fr f1 f2 (by rw [f4]) (a8 j hj), a9, a10⟩
theorem SR_fr {tg : Bool} {h h' : zH} {q nc lo hi : Nat} {ρ : zN'} (f : Fr lo hi h h') (d : q + 39 ≤ lo ∨ hi ≤ q) (hr : SR tg h q nc ρ) (hc : ρ 0 ≤ 12) : SR tg h' q nc ρ := by
  obtain ⟨hs, b2, b3, b4, b5, bc, be⟩ := hr
  have hs' := SSh_fr f d hs
  obtain ⟨f1, f2, -, f4⟩ := f
  have i0 := (f4 q (by omega)).1
  have i2 := (f4 (q + 2) (by omega)).1
  have p1 := (f4 (q + 1) (by omega)).2
  unfold SR
  rw [i0, i2, p1]
  refine ⟨hs', b2, b3, b4, b5, bc, fun i hi => ?_⟩
  obtain ⟨j, hj, e⟩ := hs.2.2.2.2.2.2.2.2.1 i (by omega)
  have := be i hi
  rw [e] at this ⊢
  exact ER_fr (fun a h1 h2 => (f4 a (by omega)).1) this
theorem SR_no {tg : Bool} {h : zH} {q nc : Nat} {ρ : zN'} (hr : SR tg h q nc ρ) : SR false h q nc ρ := by
  obtain ⟨hs, b2, b3, b4, b5, bc, be⟩ := hr
  exact ⟨hs, b2, b3, b4, b5, bc, fun i hi => ER_no (be i hi)⟩
theorem SR_cg {tg : Bool} {h : zH} {q nc : Nat} {ρ ρ' : zN'} (hn : nc ≤ 20) (h1 : ∀ j, j < 24 → ρ' j = ρ j) (h2 : ∀ i k, i < ρ 0 → k < 28 → ρ' (24 + 28 * i + k) = ρ (24 + 28 * i + k)) (hr : SR tg h q nc ρ) : SR tg h q nc ρ' := by
  obtain ⟨hs, b2, b3, b4, b5, bc, be⟩ := hr
  unfold SR
  rw [h1 0 (by omega), h1 1 (by omega), h1 2 (by omega), h1 3 (by omega)]
  exact ⟨hs, b2, b3, b4, b5, fun c hc => by rw [h1 _ (by omega)]; exact bc c hc, fun i hi => ER_en (fun k hk => h2 i k hi hk) (be i hi)⟩
section CST
variable {tg : Bool} {h : zH} {q nc : Nat} {ρ : zN'}
theorem SSh.es (hs : SSh h q) : zgP h 3 q 0 = some (q + 1) := gP_ hs.1 hs.2.1 (by omega)
theorem SSh.cs (hs : SSh h q) : zgP h 3 q 1 = some (q + 2) := gP_ hs.1 hs.2.2.1 (by omega)
theorem SSh.ea (hs : SSh h q) {i : Nat} (hi : i < 12) : ∃ j, j < 12 ∧ zP h (q + 1) i = q + 3 + 3 * j := hs.2.2.2.2.2.2.2.2.1 i hi
theorem SSh.inj (hs : SSh h q) {i j : Nat} (hi : i < 12) (hj : j < 12) (e : zP h (q + 1) i = zP h (q + 1) j) : i = j := hs.2.2.2.2.2.2.2.2.2 i j hi hj e
theorem SSh.en (hs : SSh h q) {i : Nat} (hi : i < 12) : zaP h (q + 1) (nI i) = some (zP h (q + 1) i) := by
  obtain ⟨j, hj, e⟩ := hs.ea hi
  exact aP_ (by rw [hs.2.2.2.1]; omega) (by rw [hs.2.2.2.2.1]; exact hi) (by rw [hs.2.2.2.2.1]; omega) rfl (by omega)
theorem SSh.sh (hs : SSh h q) {i : Nat} (hi : i < 12) : ESh h (zP h (q + 1) i) := by
  obtain ⟨j, hj, e⟩ := hs.ea hi
  rw [e]
  exact hs.2.2.2.2.2.2.2.1 j hj
theorem SSh.ek (hs : SSh h q) {i : Nat} (hi : i < 12) : zkd h (zP h (q + 1) i) = 2 := (hs.sh hi).1
theorem SR.kd (hS : SR tg h q nc ρ) : zkd h q = 4 := hS.1.1
theorem SR.cn (hS : SR tg h q nc ρ) : zgI h 3 q 2 = some (nI (ρ 0)) := by rw [gI_ hS.kd, hS.2.1]
theorem SR.tm (hS : SR tg h q nc ρ) : zgI h 3 q 3 = some (nI (ρ 1)) := by rw [gI_ hS.kd, hS.2.2.1]
theorem SR.tc (hS : SR tg h q nc ρ) : zgI h 3 q 4 = some (nI (ρ 2)) := by rw [gI_ hS.kd, hS.2.2.2.1]
theorem SR.bg (hS : SR tg h q nc ρ) : zgI h 3 q 5 = some (nI (ρ 3)) := by rw [gI_ hS.kd, hS.2.2.2.2.1]
theorem SR.co (hS : SR tg h q nc ρ) {c : Nat} (hc : c < nc) : zI h (q + 2) c = nI (ρ (4 + c)) := hS.2.2.2.2.2.1 c hc
theorem SR.er (hS : SR tg h q nc ρ) {i : Nat} (hi : i < ρ 0) : ER tg h (zP h (q + 1) i) ρ i := hS.2.2.2.2.2.2 i hi
theorem SR.e4 (hS : SR tg h q nc ρ) (hc : ρ 0 ≤ 12) {i : Nat} (hi : i < ρ 0) : zgI h 1 (zP h (q + 1) i) 4 = some (nI (nsz ρ i)) := by rw [gI_ (hS.1.ek (by omega)), (hS.er hi).2.2.1]
theorem SR.e5 (hS : SR tg h q nc ρ) (hc : ρ 0 ≤ 12) {i : Nat} (hi : i < ρ 0) : zgI h 1 (zP h (q + 1) i) 5 = some (nI (ρ (24 + 28 * i + 24))) := by rw [gI_ (hS.1.ek (by omega)), (hS.er hi).2.2.2.1]
theorem c_has (hS : SR tg h q nc ρ) (hc : ρ 0 ≤ 12) {e : Nat} (he : e < ρ 0) : fX3_hasEntry h q (nI e) = some (nI 1, h) := by
  unfold fX3_hasEntry
  simp (disch := first | assumption | (simp only [sI_kd, sP_kd, rw_kd, sI_ln, sP_ln, rw_ln] <;> first | assumption | omega) | omega) only [nl, nI_add, pk_mul, Option.bind_some, zb2_some, nI_le_t, nI_le_f, nI_lt_t, nI_lt_f, nI_eq_t, nI_eq_f, nI_m1, nI_em1, ↓reduceIte, Nat.add_zero, hS.kd, hS.cn]
theorem c_hasX (hS : SR tg h q nc ρ) (x : Int32) : fX3_hasEntry h q x = some (if x < 0 ∨ nI (ρ 0) ≤ x then nI 0 else nI 1, h) := by
  unfold fX3_hasEntry
  rw [if_pos hS.kd]
  by_cases c : x < 0
  · rw [if_pos c, if_pos (Or.inl c)]; rfl
  · rw [if_neg c, hS.cn, Option.bind_some]
    by_cases d : nI (ρ 0) ≤ x
    · rw [if_pos d, if_pos (Or.inr d)]; rfl
    · rw [if_neg d, if_neg (fun w => w.elim c d)]; rfl
theorem c_full (hS : SR tg h q nc ρ) (hc : ρ 0 ≤ 12) : fX3_isFull h q = some (if ρ 0 = 12 then nI 1 else nI 0, h) := by
  unfold fX3_isFull
  by_cases c : ρ 0 = 12
  · simp (disch := first | assumption | (simp only [sI_kd, sP_kd, rw_kd, sI_ln, sP_ln, rw_ln] <;> first | assumption | omega) | omega) only [nl, nI_add, pk_mul, Option.bind_some, zb2_some, nI_le_t, nI_le_f, nI_lt_t, nI_lt_f, nI_eq_t, nI_eq_f, nI_m1, nI_em1, ↓reduceIte, Nat.add_zero, hS.kd, hS.cn, c]
  · simp (disch := first | assumption | (simp only [sI_kd, sP_kd, rw_kd, sI_ln, sP_ln, rw_ln] <;> first | assumption | omega) | omega) only [nl, nI_add, pk_mul, Option.bind_some, zb2_some, nI_le_t, nI_le_f, nI_lt_t, nI_lt_f, nI_eq_t, nI_eq_f, nI_m1, nI_em1, ↓reduceIte, Nat.add_zero, hS.kd, hS.cn, c]
theorem c_used_L (hS : SR tg h q nc ρ) (hc : ρ 0 ≤ 12) (k : zH → Int32 → Int32 → Option (Int32 × zH)) : ∀ d i n, i + d = ρ 0 → d < n → fX3_usedSize_L4 k q n h (nI (nus ρ i)) (nI i) = k h (nI (nus ρ (ρ 0))) (nI (ρ 0)) := by
  intro d
  induction d with
  | zero =>
    intro i n hf hn
    obtain ⟨n, rfl⟩ := fuel1 hn
    have e8 : i = ρ 0 := by omega
    subst e8
    rw [fX3_usedSize_L4]
    simp (disch := first | assumption | (simp only [sI_kd, sP_kd, rw_kd, sI_ln, sP_ln, rw_ln] <;> first | assumption | omega) | omega) only [nl, nI_add, pk_mul, Option.bind_some, zb2_some, nI_le_t, nI_le_f, nI_lt_t, nI_lt_f, nI_eq_t, nI_eq_f, nI_m1, nI_em1, ↓reduceIte, Nat.add_zero, hS.cn]
  | succ d ih =>
    intro i n hf hn
    obtain ⟨n, rfl⟩ := fuel1 hn
    rw [fX3_usedSize_L4]
    simp (disch := first | assumption | (simp only [sI_kd, sP_kd, rw_kd, sI_ln, sP_ln, rw_ln] <;> first | assumption | omega) | omega) only [nl, nI_add, pk_mul, Option.bind_some, zb2_some, nI_le_t, nI_le_f, nI_lt_t, nI_lt_f, nI_eq_t, nI_eq_f, nI_m1, nI_em1, ↓reduceIte, Nat.add_zero, hS.cn, hS.1.es, hS.1.en, hS.e4 hc]
    exact ih (i + 1) n (by omega) (by omega)
theorem c_used (hS : SR tg h q nc ρ) (hc : ρ 0 ≤ 12) : fX3_usedSize h q = some (nI (nus ρ (ρ 0)), h) := by
  unfold fX3_usedSize
  rw [if_pos hS.kd]
  exact c_used_L hS hc _ (ρ 0) 0 zF (by omega) (by unfold zF; omega)
def npin (ρ : zN') (n : Nat) : Nat := nsum (fun e => ρ (24 + 28 * e + 24)) n
theorem c_pinned_L (hS : SR tg h q nc ρ) (ho : nok ρ) (k : zH → Int32 → Int32 → Option (Int32 × zH)) : ∀ d i n, i + d = ρ 0 → d < n → fX3_pinnedCount_L4 k q n h (nI (npin ρ i)) (nI i) = k h (nI (npin ρ (ρ 0))) (nI (ρ 0)) := by
  have hc := ho.1
  intro d
  induction d with
  | zero =>
    intro i n hf hn
    obtain ⟨n, rfl⟩ := fuel1 hn
    have e8 : i = ρ 0 := by omega
    subst e8
    rw [fX3_pinnedCount_L4]
    simp (disch := first | assumption | (simp only [sI_kd, sP_kd, rw_kd, sI_ln, sP_ln, rw_ln] <;> first | assumption | omega) | omega) only [nl, nI_add, pk_mul, Option.bind_some, zb2_some, nI_le_t, nI_le_f, nI_lt_t, nI_lt_f, nI_eq_t, nI_eq_f, nI_m1, nI_em1, ↓reduceIte, Nat.add_zero, hS.cn]
  | succ d ih =>
    intro i n hf hn
    obtain ⟨n, rfl⟩ := fuel1 hn
    have p := (ho.2.2.2.2 i (by omega)).2.1
    rw [fX3_pinnedCount_L4, ← ih (i + 1) n (by omega) (by omega)]
    have st : npin ρ (i + 1) = npin ρ i + ρ (24 + 28 * i + 24) := rfl
    by_cases c : ρ (24 + 28 * i + 24) = 0
    · rw [st, c]
      simp (disch := first | assumption | (simp only [sI_kd, sP_kd, rw_kd, sI_ln, sP_ln, rw_ln] <;> first | assumption | omega) | omega) only [nl, nI_add, pk_mul, Option.bind_some, zb2_some, nI_le_t, nI_le_f, nI_lt_t, nI_lt_f, nI_eq_t, nI_eq_f, nI_m1, nI_em1, ↓reduceIte, Nat.add_zero, hS.cn, hS.1.es, hS.1.en, hS.e5 hc, c]
    · have c1 : ρ (24 + 28 * i + 24) = 1 := by omega
      rw [st, c1]
      simp (disch := first | assumption | (simp only [sI_kd, sP_kd, rw_kd, sI_ln, sP_ln, rw_ln] <;> first | assumption | omega) | omega) only [nl, nI_add, pk_mul, Option.bind_some, zb2_some, nI_le_t, nI_le_f, nI_lt_t, nI_lt_f, nI_eq_t, nI_eq_f, nI_m1, nI_em1, ↓reduceIte, Nat.add_zero, hS.cn, hS.1.es, hS.1.en, hS.e5 hc, c1]
theorem c_pinned (hS : SR tg h q nc ρ) (ho : nok ρ) : fX3_pinnedCount h q = some (nI (npin ρ (ρ 0)), h) := by
  have hc := ho.1
  unfold fX3_pinnedCount
  rw [if_pos hS.kd]
  exact c_pinned_L hS ho _ (ρ 0) 0 zF (by omega) (by unfold zF; omega)
theorem nbut_m1 : nbut (nI 4294967295) 99 := fun e he => ⟨fun w => by rw [nI_em1 (by omega)] at w; exact w.elim, fun w => by omega⟩
theorem c_least_L {b : Int32} {but : Nat} {ke : Bool} (hS : SR tg h q nc ρ) (ho : nok ρ) (hb : nbut b but) (k : zH → Int32 → Int32 → Option (Int32 × zH)) : ∀ d i n, i + d = ρ 0 → d < n → fX3_leastSize_L5 k q b (nI (if ke = true then 1 else 0)) n h (nI (nsum (nli ρ but ke) i)) (nI i) = k h (nI (nls ρ but ke)) (nI (ρ 0)) := by
  have hc := ho.1
  intro d
  induction d with
  | zero =>
    intro i n hf hn
    obtain ⟨n, rfl⟩ := fuel1 hn
    have e8 : i = ρ 0 := by omega
    subst e8
    rw [fX3_leastSize_L5]
    simp (disch := first | assumption | (simp only [sI_kd, sP_kd, rw_kd, sI_ln, sP_ln, rw_ln] <;> first | assumption | omega) | omega) only [nl, nI_add, pk_mul, Option.bind_some, zb2_some, nI_le_t, nI_le_f, nI_lt_t, nI_lt_f, nI_eq_t, nI_eq_f, nI_m1, nI_em1, ↓reduceIte, Nat.add_zero, hS.cn]
    rfl
  | succ d ih =>
    intro i n hf hn
    obtain ⟨n, rfl⟩ := fuel1 hn
    have oi := ho.2.2.2.2 i (by omega)
    have os := c_osz (hS.1.sh (i := i) (by omega)) (hS.er (i := i) (by omega)) oi
    rw [fX3_leastSize_L5, ← ih (i + 1) n (by omega) (by omega)]
    have st : nsum (nli ρ but ke) (i + 1) = nsum (nli ρ but ke) i + nli ρ but ke i := rfl
    by_cases c : i = but
    · have cb : (nI i = b) = True := eq_true ((hb i (by omega)).mpr c)
      have v : nli ρ but ke i = nsz ρ i := if_pos c
      rw [st, v]
      simp (disch := first | assumption | (simp only [sI_kd, sP_kd, rw_kd, sI_ln, sP_ln, rw_ln] <;> first | assumption | omega) | omega) only [nl, nI_add, pk_mul, Option.bind_some, zb2_some, nI_le_t, nI_le_f, nI_lt_t, nI_lt_f, nI_eq_t, nI_eq_f, nI_m1, nI_em1, ↓reduceIte, Nat.add_zero, hS.cn, hS.1.es, hS.1.en, hS.e4 hc, cb]
    · have cb : ¬ nI i = b := fun w => c ((hb i (by omega)).mp w)
      cases ke with
      | true =>
        have v : nli ρ but true i = nor ρ i := by unfold nli; rw [if_neg c, if_pos (Or.inl rfl)]
        rw [st, v]
        simp (disch := first | assumption | (simp only [sI_kd, sP_kd, rw_kd, sI_ln, sP_ln, rw_ln] <;> first | assumption | omega) | omega) only [nl, nI_add, pk_mul, Option.bind_some, zb2_some, nI_le_t, nI_le_f, nI_lt_t, nI_lt_f, nI_eq_t, nI_eq_f, nI_m1, nI_em1, ↓reduceIte, Nat.add_zero, hS.cn, hS.1.es, hS.1.en, hS.e4 hc, cb, os]
      | false =>
        by_cases p : ρ (24 + 28 * i + 24) = 0
        · have v : nli ρ but false i = 0 := by unfold nli; rw [if_neg c, if_neg (fun w => w.elim (fun z => by cases z) (fun z => z p))]
          rw [st, v]
          simp (disch := first | assumption | (simp only [sI_kd, sP_kd, rw_kd, sI_ln, sP_ln, rw_ln] <;> first | assumption | omega) | omega) only [nl, nI_add, pk_mul, Option.bind_some, zb2_some, nI_le_t, nI_le_f, nI_lt_t, nI_lt_f, nI_eq_t, nI_eq_f, nI_m1, nI_em1, ↓reduceIte, Nat.add_zero, hS.cn, hS.1.es, hS.1.en, hS.e5 hc, cb, p, Bool.false_eq_true]
        · have v : nli ρ but false i = nor ρ i := by unfold nli; rw [if_neg c, if_pos (Or.inr p)]
          have := oi.2.1
          rw [st, v]
          simp (disch := first | assumption | (simp only [sI_kd, sP_kd, rw_kd, sI_ln, sP_ln, rw_ln] <;> first | assumption | omega) | omega) only [nl, nI_add, pk_mul, Option.bind_some, zb2_some, nI_le_t, nI_le_f, nI_lt_t, nI_lt_f, nI_eq_t, nI_eq_f, nI_m1, nI_em1, ↓reduceIte, Nat.add_zero, hS.cn, hS.1.es, hS.1.en, hS.e5 hc, cb, os, Bool.false_eq_true]
theorem c_least {b : Int32} {but : Nat} (ke : Bool) (hS : SR tg h q nc ρ) (ho : nok ρ) (hb : nbut b but) : fX3_leastSize h q b (nI (if ke = true then 1 else 0)) = some (nI (nls ρ but ke), h) := by
  have hc := ho.1
  unfold fX3_leastSize
  rw [if_pos hS.kd]
  exact c_least_L hS ho hb _ (ρ 0) 0 zF (by omega) (by unfold zF; omega)
theorem nsz_le' (ho : nok ρ) {i : Nat} (hi : i < ρ 0) : nsz ρ i ≤ 799992 := nsz_le (ho.2.2.2.2 i hi)
theorem nls_bd (ho : nok ρ) (but : Nat) (ke : Bool) : nls ρ but ke ≤ 9599904 := Nat.le_trans (nls_le ρ but ke) (nus_le ho)
def nhw (ρ : zN') (o : Option Nat) : Nat := match o with
  | none => 0
  | some e => nwt ρ e
theorem nhw_le (o : Option Nat) : nhw ρ o ≤ 999999999 := by
  cases o with
  | none => exact Nat.zero_le _
  | some e => exact nwt_le ρ e
theorem c_heavy_L {b : Int32} {but : Nat} (hS : SR tg h q nc ρ) (ho : nok ρ) (hb : nbut b but) (k : zH → Int32 → Int32 → Int32 → Option (Int32 × zH)) : ∀ d i n, i + d = ρ 0 → d < n → fX3_heaviest_L7 k q b n h (zom (nhv ρ but i)) (nI (nhw ρ (nhv ρ but i))) (nI i) = k h (zom (nhv ρ but (ρ 0))) (nI (nhw ρ (nhv ρ but (ρ 0)))) (nI (ρ 0)) := by
  have hc := ho.1
  intro d
  induction d with
  | zero =>
    intro i n hf hn
    obtain ⟨n, rfl⟩ := fuel1 hn
    have e8 : i = ρ 0 := by omega
    subst e8
    rw [fX3_heaviest_L7]
    simp (disch := first | assumption | (simp only [sI_kd, sP_kd, rw_kd, sI_ln, sP_ln, rw_ln] <;> first | assumption | omega) | omega) only [nl, nI_add, pk_mul, Option.bind_some, zb2_some, nI_le_t, nI_le_f, nI_lt_t, nI_lt_f, nI_eq_t, nI_eq_f, nI_m1, nI_em1, ↓reduceIte, Nat.add_zero, hS.cn]
  | succ d ih =>
    intro i n hf hn
    obtain ⟨n, rfl⟩ := fuel1 hn
    have oi := ho.2.2.2.2 i (by omega)
    have ow := c_weight (hS.1.sh (i := i) (by omega)) (hS.er (i := i) (by omega)) ho.2.1 oi
    have p1 := oi.2.1
    have wl := nwt_le ρ i
    have gl := nhw_le (ρ := ρ) (nhv ρ but i)
    rw [fX3_heaviest_L7, ← ih (i + 1) n (by omega) (by omega)]
    by_cases c : i = but
    · have cb : (nI i = b) = True := eq_true ((hb i (by omega)).mpr c)
      have v : nhv ρ but (i + 1) = nhv ρ but i := by rw [nhv, if_pos (Or.inl c)]
      rw [v]
      simp (disch := first | assumption | (simp only [sI_kd, sP_kd, rw_kd, sI_ln, sP_ln, rw_ln] <;> first | assumption | omega) | omega) only [nl, nI_add, pk_mul, Option.bind_some, zb2_some, nI_le_t, nI_le_f, nI_lt_t, nI_lt_f, nI_eq_t, nI_eq_f, nI_m1, nI_em1, ↓reduceIte, Nat.add_zero, hS.cn, hS.tm, hS.1.es, hS.1.en, ow, cb]
    · have cb : ¬ nI i = b := fun w => c ((hb i (by omega)).mp w)
      by_cases p : ρ (24 + 28 * i + 24) = 0
      · have no : ¬ (i = but ∨ ρ (24 + 28 * i + 24) ≠ 0) := fun w => w.elim c (fun z => z p)
        cases hv : nhv ρ but i with
        | none =>
          have v : nhv ρ but (i + 1) = some i := by rw [nhv, if_neg no, hv]
          rw [v]
          simp (disch := first | assumption | (simp only [sI_kd, sP_kd, rw_kd, sI_ln, sP_ln, rw_ln] <;> first | assumption | omega) | omega) only [nl, nI_add, pk_mul, Option.bind_some, zb2_some, nI_le_t, nI_le_f, nI_lt_t, nI_lt_f, nI_eq_t, nI_eq_f, nI_m1, nI_em1, ↓reduceIte, Nat.add_zero, hS.cn, hS.tm, hS.1.es, hS.1.en, hS.e5 hc, ow, cb, p, nhw, zom]
        | some f =>
          rw [hv] at gl
          have gl' : nwt ρ f ≤ 999999999 := gl
          have v : nhv ρ but (i + 1) = if nwt ρ i < nwt ρ f then some f else some i := by rw [nhv, if_neg no, hv]
          rw [v]
          by_cases w : nwt ρ i < nwt ρ f
          · simp (disch := first | assumption | (simp only [sI_kd, sP_kd, rw_kd, sI_ln, sP_ln, rw_ln] <;> first | assumption | omega) | omega) only [nl, nI_add, pk_mul, Option.bind_some, zb2_some, nI_le_t, nI_le_f, nI_lt_t, nI_lt_f, nI_eq_t, nI_eq_f, nI_m1, nI_em1, ↓reduceIte, Nat.add_zero, hS.cn, hS.tm, hS.1.es, hS.1.en, hS.e5 hc, ow, cb, p, nhw, zom, w]
          · simp (disch := first | assumption | (simp only [sI_kd, sP_kd, rw_kd, sI_ln, sP_ln, rw_ln] <;> first | assumption | omega) | omega) only [nl, nI_add, pk_mul, Option.bind_some, zb2_some, nI_le_t, nI_le_f, nI_lt_t, nI_lt_f, nI_eq_t, nI_eq_f, nI_m1, nI_em1, ↓reduceIte, Nat.add_zero, hS.cn, hS.tm, hS.1.es, hS.1.en, hS.e5 hc, ow, cb, p, nhw, zom, w]
      · have v : nhv ρ but (i + 1) = nhv ρ but i := by rw [nhv, if_pos (Or.inr p)]
        rw [v]
        simp (disch := first | assumption | (simp only [sI_kd, sP_kd, rw_kd, sI_ln, sP_ln, rw_ln] <;> first | assumption | omega) | omega) only [nl, nI_add, pk_mul, Option.bind_some, zb2_some, nI_le_t, nI_le_f, nI_lt_t, nI_lt_f, nI_eq_t, nI_eq_f, nI_m1, nI_em1, ↓reduceIte, Nat.add_zero, hS.cn, hS.tm, hS.1.es, hS.1.en, hS.e5 hc, ow, cb]
theorem c_heavy {b : Int32} {but : Nat} (hS : SR tg h q nc ρ) (ho : nok ρ) (hb : nbut b but) : fX3_heaviest h q b = some (zom (nhv ρ but (ρ 0)), h) := by
  have hc := ho.1
  unfold fX3_heaviest
  rw [if_pos hS.kd]
  exact c_heavy_L hS ho hb _ (ρ 0) 0 zF (by omega) (by unfold zF; omega)
end CST
