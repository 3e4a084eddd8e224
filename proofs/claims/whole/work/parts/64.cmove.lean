/-! pure: what changes a state of the component: rows of references -/
def zrP (h : zH) (a : Nat) (r : Nat → Nat) : zH := (zkd h, zln h, zI h, zJ h, zz (zP h) a r, zn h)
theorem zsP_rP (h : zH) (a : Nat) (r : Nat → Nat) (k v : Nat) : zsP (zrP h a r) a k v = zrP h a (va_up r k v) := by
  have e : zu (zz (zP h) a r) a k v = zz (zP h) a (va_up r k v) := by rw [zu_row, zz_zz, zz_at]
  show (zkd h, zln h, zI h, zJ h, zu (zz (zP h) a r) a k v, zn h) = _
  rw [e]; rfl
theorem rP_at {h : zH} {a : Nat} {r : Nat → Nat} : zP (zrP h a r) a = r := zz_at
theorem rP_a {h : zH} {a b : Nat} {r : Nat → Nat} (e : b ≠ a) : zP (zrP h a r) b = zP h b := zz_ne e
theorem zrP_self (h : zH) (a : Nat) : zrP h a (zP h a) = h := by
  have e : zz (zP h) a (zP h a) = zP h := zz_self _ _
  show (zkd h, zln h, zI h, zJ h, zz (zP h) a (zP h a), zn h) = h
  rw [e]; rfl
theorem SSh_pm {h h' : zH} {q : Nat} {s : Nat → Nat} (k : zkd h' = zkd h) (l : zln h' = zln h) (p : ∀ a, a ≠ q + 1 → zP h' a = zP h a) (p1 : ∀ i, i < 12 → zP h' (q + 1) i = zP h (q + 1) (s i)) (s1 : ∀ i, i < 12 → s i < 12) (s2 : ∀ i j, i < 12 → j < 12 → s i = s j → i = j) (hs : SSh h q) : SSh h' q := by
  obtain ⟨a1, a2, a3, a4, a5, a6, a7, a8, a9, a10⟩ := hs
  unfold SSh
  rw [k, l, p q (by omega)]
  refine ⟨a1, a2, a3, a4, a5, a6, a7, fun j hj => ESh_fr k l (p _ (by omega)) (a8 j hj), fun i hi => ?_, fun i j hi hj e => ?_⟩
  · rw [p1 i hi]; exact a9 _ (s1 i hi)
  · rw [p1 i hi, p1 j hj] at e
    exact s2 i j hi hj (a10 _ _ (s1 i hi) (s1 j hj) e)
def pdr (r : Nat → Nat) (e v : Nat) : Nat → Nat := fun i => if e ≤ i ∧ i + 1 < v then r (i + 1) else r i
theorem pdr_0 {r : Nat → Nat} {e : Nat} : pdr r e (e + 1) = r := by
  funext i
  unfold pdr
  rw [if_neg (by omega)]
theorem pdr_s {r : Nat → Nat} {e v : Nat} (h : e + 1 ≤ v) : va_up (pdr r e v) (v - 1) (r v) = pdr r e (v + 1) := by
  funext i
  unfold va_up pdr
  by_cases c : i = v - 1
  · rw [if_pos c, if_pos (by omega)]
    congr 1; omega
  · rw [if_neg c]
    by_cases d : e ≤ i ∧ i + 1 < v
    · rw [if_pos d, if_pos (by omega)]
    · rw [if_neg d, if_neg (by omega)]
def pfr (r : Nat → Nat) (e v : Nat) : Nat → Nat := fun i => if v < i ∧ i ≤ e then r (i - 1) else r i
theorem pfr_0 {r : Nat → Nat} {e : Nat} : pfr r e e = r := by
  funext i
  unfold pfr
  rw [if_neg (by omega)]
theorem pfr_s {r : Nat → Nat} {e v : Nat} (h : 1 ≤ v) (he : v ≤ e) : va_up (pfr r e v) v (r (v - 1)) = pfr r e (v - 1) := by
  funext i
  unfold va_up pfr
  by_cases c : i = v
  · rw [if_pos c, if_pos (by omega), c]
  · rw [if_neg c]
    by_cases d : v < i ∧ i ≤ e
    · rw [if_pos d, if_pos (by omega)]
    · rw [if_neg d, if_neg (by omega)]
theorem nI_dec {v : Nat} (h : 1 ≤ v) : nI (v + 4294967295) = nI (v - 1) := by
  obtain ⟨w, rfl⟩ : ∃ w, v = w + 1 := ⟨v - 1, by omega⟩
  rw [← nI_add, ← nI_m1]
  exact pk_m1 w
theorem nfront_en {ρ : zN'} {e i k : Nat} (hk : k < 28) : nfront ρ e (24 + 28 * i + k) = ρ (24 + 28 * (if i = 0 then e else if i ≤ e then i - 1 else i) + k) := by
  unfold nfront
  by_cases c : i = 0
  · rw [if_pos c, pk_cpy_in (by omega) (by omega)]
    congr 1; omega
  · rw [if_neg c, pk_cpy_out (by omega)]
    by_cases d : i ≤ e
    · rw [if_pos d, pk_cpy_in (by omega) (by omega)]
      congr 1; omega
    · rw [if_neg d, pk_cpy_out (by omega)]
theorem nfront_hd {ρ : zN'} {e j : Nat} (hj : j < 24) : nfront ρ e j = ρ j := by
  unfold nfront
  rw [pk_cpy_out (by omega), pk_cpy_out (by omega)]
section CMOVE
variable {tg : Bool} {h : zH} {q nc : Nat} {ρ : zN'}
theorem SR_mod {h' : zH} {i : Nat} {ρ' : zN'} (hS : SR tg h q nc ρ) (hn : nc ≤ 20) (hc : ρ 0 ≤ 12) (hi : i < ρ 0) (f : FrI (zP h (q + 1) i) (zP h (q + 1) i + 3) h h') (er : ER tg h' (zP h (q + 1) i) ρ' i) (h1 : ∀ j, j < 24 → ρ' j = ρ j) (h2 : ∀ j k, j ≠ i → j < ρ 0 → k < 28 → ρ' (24 + 28 * j + k) = ρ (24 + 28 * j + k)) : SR tg h' q nc ρ' ∧ FrI q (q + 39) h h' := by
  obtain ⟨j0, hj0, e0⟩ := hS.1.ea (i := i) (by omega)
  have hs' := SSh_fI f hS.1
  obtain ⟨f1, f2, f3, f4, f5⟩ := id f
  obtain ⟨hs, b2, b3, b4, b5, bc, be⟩ := hS
  rw [e0] at f5
  refine ⟨?_, f.wd (by omega) (by omega)⟩
  unfold SR
  rw [f5 q (by omega), f5 (q + 2) (by omega), h1 0 (by omega), h1 1 (by omega), h1 2 (by omega), h1 3 (by omega), f4]
  refine ⟨hs', b2, b3, b4, b5, fun c hc => by rw [h1 _ (by omega)]; exact bc c hc, fun j hj => ?_⟩
  by_cases c : j = i
  · rw [c]; exact er
  · obtain ⟨j1, hj1, e1⟩ := hs.ea (i := j) (by omega)
    have ne : j1 ≠ j0 := fun w => c (hs.inj (by omega) (by omega) (by rw [e0, e1, w]))
    refine ER_en (fun k hk => h2 j k c hj hk) (ER_fr (fun a g1 g2 => f5 a ?_) (be j hj))
    rw [e1] at g1 g2
    omega
theorem SR_hd {h' : zH} {ρ' : zN'} (hS : SR tg h q nc ρ) (hc : ρ 0 ≤ 12) (f : FrI q (q + 1) h h') (e0 : zI h' q 2 = nI (ρ' 0)) (e1 : zI h' q 3 = nI (ρ' 1)) (e2 : zI h' q 4 = nI (ρ' 2)) (e3 : zI h' q 5 = nI (ρ' 3)) (hc' : ρ' 0 = ρ 0) (he : ∀ j, 4 ≤ j → ρ' j = ρ j) : SR tg h' q nc ρ' := by
  have hs' := SSh_fI f hS.1
  obtain ⟨f1, f2, f3, f4, f5⟩ := id f
  obtain ⟨hs, b2, b3, b4, b5, bc, be⟩ := hS
  unfold SR
  rw [f5 (q + 2) (by omega), f4]
  refine ⟨hs', e0, e1, e2, e3, fun c hc => by rw [he _ (by omega)]; exact bc c hc, fun j hj => ?_⟩
  rw [hc'] at hj
  obtain ⟨j1, hj1, ej⟩ := hs.ea (i := j) (by omega)
  refine ER_en (fun k hk => he _ (by omega)) (ER_fr (fun a g1 g2 => f5 a ?_) (be j hj))
  rw [ej] at g1 g2
  omega
theorem SR_time {t : Nat} (hS : SR tg h q nc ρ) (hc : ρ 0 ≤ 12) : SR tg (zsI h q 3 (nI t)) q nc (va_up ρ 1 t) := by
  refine SR_hd hS hc (FrI.sI (by omega) (by omega)) ?_ ?_ ?_ ?_ (up_ne (by omega)) (fun j hj => up_ne (by omega))
  · rw [sI_k (by omega), up_ne (by omega)]; exact hS.2.1
  · rw [sI_at, up_at]
  · rw [sI_k (by omega), up_ne (by omega)]; exact hS.2.2.2.1
  · rw [sI_k (by omega), up_ne (by omega)]; exact hS.2.2.2.2.1
theorem SR_total {t : Nat} (hS : SR tg h q nc ρ) (hc : ρ 0 ≤ 12) : SR tg (zsI h q 4 (nI t)) q nc (va_up ρ 2 t) := by
  refine SR_hd hS hc (FrI.sI (by omega) (by omega)) ?_ ?_ ?_ ?_ (up_ne (by omega)) (fun j hj => up_ne (by omega))
  · rw [sI_k (by omega), up_ne (by omega)]; exact hS.2.1
  · rw [sI_k (by omega), up_ne (by omega)]; exact hS.2.2.1
  · rw [sI_at, up_at]
  · rw [sI_k (by omega), up_ne (by omega)]; exact hS.2.2.2.2.1
theorem SR_budget {t : Nat} (hS : SR tg h q nc ρ) (hc : ρ 0 ≤ 12) : SR tg (zsI h q 5 (nI t)) q nc (va_up ρ 3 t) := by
  refine SR_hd hS hc (FrI.sI (by omega) (by omega)) ?_ ?_ ?_ ?_ (up_ne (by omega)) (fun j hj => up_ne (by omega))
  · rw [sI_k (by omega), up_ne (by omega)]; exact hS.2.1
  · rw [sI_k (by omega), up_ne (by omega)]; exact hS.2.2.1
  · rw [sI_k (by omega), up_ne (by omega)]; exact hS.2.2.2.1
  · rw [sI_at, up_at]
theorem rP_es {r : Nat → Nat} (hs : SSh h q) : zgP (zrP h (q + 1) r) 3 q 0 = some (q + 1) := gP_ hs.1 (by rw [rP_a (by omega)]; exact hs.2.1) (by omega)
theorem rP_en {r : Nat → Nat} {i : Nat} (hs : SSh h q) (hi : i < 12) (h0 : r i ≠ 0) : zaP (zrP h (q + 1) r) (q + 1) (nI i) = some (r i) := aP_ (by show 12 ≤ zkd h (q + 1) ∧ zkd h (q + 1) ≤ 14; rw [hs.2.2.2.1]; omega) (by show i < zln h (q + 1); rw [hs.2.2.2.2.1]; exact hi) (by show zln h (q + 1) < 2 ^ 31; rw [hs.2.2.2.2.1]; omega) (by rw [rP_at]) h0
theorem rP_bn {r : Nat → Nat} {i v : Nat} (hs : SSh h q) (hi : i < 12) (h0 : v ≠ 0) (hk : zkd h v = 2) : zbP (zrP h (q + 1) r) (q + 1) (nI i) v = some (zrP h (q + 1) (va_up r i v)) := by
  rw [bP_ (h := zrP h (q + 1) r) (Or.inl ⟨hs.2.2.2.1, hk⟩) (by show i < zln h (q + 1); rw [hs.2.2.2.2.1]; exact hi) (by show zln h (q + 1) < 2 ^ 31; rw [hs.2.2.2.2.1]; omega) h0, zsP_rP]
theorem SSh.e0 (hs : SSh h q) {i : Nat} (hi : i < 12) : zP h (q + 1) i ≠ 0 := by
  obtain ⟨j, hj, e⟩ := hs.ea hi
  omega
theorem drop_L {c e u2 : Nat} {u1 : Int32} (hs : SSh h q) (hcn : zI h q 2 = nI c) (hc : c ≤ 12) (k : zH → Int32 → Option zH) : ∀ d v n, v + d = c → d < n → e + 1 ≤ v → fX3_dropEntry_L20 k q u1 u2 n (zrP h (q + 1) (pdr (zP h (q + 1)) e v)) (nI v) = k (zrP h (q + 1) (pdr (zP h (q + 1)) e c)) (nI c) := by
  have hcn' : ∀ r, zgI (zrP h (q + 1) r) 3 q 2 = some (nI c) := fun r => by rw [gI_ (h := zrP h (q + 1) r) hs.1, ← hcn]; rfl
  intro d
  induction d with
  | zero =>
    intro v n hf hn he
    obtain ⟨n, rfl⟩ := fuel1 hn
    have e8 : v = c := by omega
    subst e8
    rw [fX3_dropEntry_L20]
    simp (disch := first | assumption | (simp only [sI_kd, sP_kd, rw_kd, sI_ln, sP_ln, rw_ln] <;> first | assumption | omega) | omega) only [nl, nI_add, pk_mul, Option.bind_some, zb2_some, nI_le_t, nI_le_f, nI_lt_t, nI_lt_f, nI_eq_t, nI_eq_f, nI_m1, nI_em1, ↓reduceIte, Nat.add_zero, hcn']
  | succ d ih =>
    intro v n hf hn he
    obtain ⟨n, rfl⟩ := fuel1 hn
    rw [fX3_dropEntry_L20]
    have pv : pdr (zP h (q + 1)) e v v = zP h (q + 1) v := if_neg (by omega)
    have nz := hs.e0 (i := v) (by omega)
    have kz := hs.ek (i := v) (by omega)
    have rd : zaP (zrP h (q + 1) (pdr (zP h (q + 1)) e v)) (q + 1) (nI v) = some (zP h (q + 1) v) := by
      rw [rP_en hs (by omega) (by rw [pv]; exact nz), pv]
    have wr := rP_bn (r := pdr (zP h (q + 1)) e v) (i := v - 1) hs (by omega) nz kz
    rw [pdr_s he] at wr
    simp (disch := first | assumption | (simp only [sI_kd, sP_kd, rw_kd, sI_ln, sP_ln, rw_ln] <;> first | assumption | omega) | omega) only [nl, nI_add, pk_mul, Option.bind_some, zb2_some, nI_le_t, nI_le_f, nI_lt_t, nI_lt_f, nI_eq_t, nI_eq_f, nI_m1, nI_em1, ↓reduceIte, Nat.add_zero, hcn', rP_es hs, rd, pk_sub, wr]
    exact ih (v + 1) n (by omega) (by omega) (by omega)
theorem c_dropEntry {e : Nat} (hS : SR tg h q nc ρ) (hn : nc ≤ 20) (hc : ρ 0 ≤ 12) (he : e < ρ 0) : ∃ h', fX3_dropEntry h q (nI e) = some h' ∧ SR tg h' q nc (ndrop ρ (ρ 0) e) ∧ Fr q (q + 39) h h' := by
  have hs := hS.1
  have nz := hs.e0 (i := e) (by omega)
  have kz := hs.ek (i := e) (by omega)
  have L := fun k => drop_L (h := h) (q := q) (c := ρ 0) (e := e) (u1 := nI e) (u2 := zP h (q + 1) e) hs hS.2.1 hc k (ρ 0 - (e + 1)) (e + 1) zF (by omega) (by unfold zF; omega) (by omega)
  simp only [pdr_0, zrP_self] at L
  have wr := rP_bn (r := pdr (zP h (q + 1)) e (ρ 0)) (i := ρ 0 - 1) hs (by omega) nz kz
  have cn' : ∀ r, zgI (zrP h (q + 1) r) 3 q 2 = some (nI (ρ 0)) := fun r => by rw [gI_ (h := zrP h (q + 1) r) hs.1, ← hS.2.1]; rfl
  have kd' : ∀ r, zkd (zrP h (q + 1) r) q = 4 := fun r => hs.1
  refine ⟨zsI (zrP h (q + 1) (va_up (pdr (zP h (q + 1)) e (ρ 0)) (ρ 0 - 1) (zP h (q + 1) e))) q 2 (nI (ρ 0 - 1)), ?_, ?_, ?_⟩
  · unfold fX3_dropEntry
    simp (disch := first | assumption | (simp only [sI_kd, sP_kd, rw_kd, sI_ln, sP_ln, rw_ln] <;> first | assumption | omega) | omega) only [nl, nI_add, pk_mul, Option.bind_some, zb2_some, nI_le_t, nI_le_f, nI_lt_t, nI_lt_f, nI_eq_t, nI_eq_f, nI_m1, nI_em1, ↓reduceIte, Nat.add_zero, hS.kd, c_has hS hc, hs.es, hs.en, L, rP_es hs, cn', pk_sub, wr, pI_ (kd' _)]
  · have row : ∀ i, va_up (pdr (zP h (q + 1)) e (ρ 0)) (ρ 0 - 1) (zP h (q + 1) e) i = zP h (q + 1) (if i = ρ 0 - 1 then e else if e ≤ i ∧ i + 1 < ρ 0 then i + 1 else i) := fun i => by
      unfold va_up pdr
      split
      · rfl
      · split <;> rfl
    have hs' : SSh (zsI (zrP h (q + 1) (va_up (pdr (zP h (q + 1)) e (ρ 0)) (ρ 0 - 1) (zP h (q + 1) e))) q 2 (nI (ρ 0 - 1))) q := by
      refine SSh_pm (h := h) (s := fun i => if i = ρ 0 - 1 then e else if e ≤ i ∧ i + 1 < ρ 0 then i + 1 else i) rfl rfl (fun a ha => rP_a ha) (fun i hi => ?_) (fun i hi => ?_) (fun i j hi hj w => ?_) hs
      · rw [sI_P, rP_at]; exact row i
      · split
        · omega
        · split <;> omega
      · repeat' split at w
        all_goals omega
    obtain ⟨-, b2, b3, b4, b5, bc, be⟩ := hS
    refine ⟨hs', ?_, ?_, ?_, ?_, fun c hc => ?_, fun i hi => ?_⟩
    · rw [sI_at, ndrop_hd he (by omega), if_pos rfl]
    · rw [sI_k (by omega), ndrop_hd he (by omega), if_neg (by omega)]; exact b3
    · rw [sI_k (by omega), ndrop_hd he (by omega), if_neg (by omega)]; exact b4
    · rw [sI_k (by omega), ndrop_hd he (by omega), if_neg (by omega)]; exact b5
    · rw [sI_a (by omega), ndrop_hd he (by omega), if_neg (by omega)]; exact bc c hc
    · rw [ndrop_hd he (by omega), if_pos rfl] at hi
      rw [sI_P, rP_at, row i, if_neg (by omega)]
      have eq : (if e ≤ i ∧ i + 1 < ρ 0 then i + 1 else i) = if i < e then i else i + 1 := by split <;> split <;> omega
      rw [eq]
      have lt : (if i < e then i else i + 1) < ρ 0 := by split <;> omega
      obtain ⟨j1, hj1, ej⟩ := hs.ea (i := if i < e then i else i + 1) (by omega)
      refine ER_en (fun k hk => ndrop_en he hi hk) (ER_fr (fun a g1 g2 => ?_) (be _ lt))
      rw [ej] at g1 g2
      rw [sI_a (by omega)]; rfl
  · refine ⟨rfl, rfl, rfl, fun a ha => ⟨?_, ?_⟩⟩
    · rw [sI_a (by omega)]; rfl
    · rw [sI_P, rP_a (by omega)]
theorem front_L {e u2 : Nat} {u1 : Int32} (hs : SSh h q) (he : e < 12) (k : zH → Int32 → Option zH) : ∀ v n, v ≤ e → v < n → fX3_moveToFront_L18 k q u1 u2 n (zrP h (q + 1) (pfr (zP h (q + 1)) e v)) (nI v) = k (zrP h (q + 1) (pfr (zP h (q + 1)) e 0)) (nI 0) := by
  intro v
  induction v with
  | zero =>
    intro n hf hn
    obtain ⟨n, rfl⟩ := fuel1 hn
    rw [fX3_moveToFront_L18]
    simp (disch := first | assumption | (simp only [sI_kd, sP_kd, rw_kd, sI_ln, sP_ln, rw_ln] <;> first | assumption | omega) | omega) only [nl, nI_add, pk_mul, Option.bind_some, zb2_some, nI_le_t, nI_le_f, nI_lt_t, nI_lt_f, nI_eq_t, nI_eq_f, nI_m1, nI_em1, ↓reduceIte, Nat.add_zero]
  | succ v ih =>
    intro n hf hn
    obtain ⟨n, rfl⟩ := fuel1 hn
    rw [fX3_moveToFront_L18]
    have pv : pfr (zP h (q + 1)) e (v + 1) v = zP h (q + 1) v := if_neg (by omega)
    have nz := hs.e0 (i := v) (by omega)
    have kz := hs.ek (i := v) (by omega)
    have rd : zaP (zrP h (q + 1) (pfr (zP h (q + 1)) e (v + 1))) (q + 1) (nI v) = some (zP h (q + 1) v) := by
      rw [rP_en hs (by omega) (by rw [pv]; exact nz), pv]
    have wr := rP_bn (r := pfr (zP h (q + 1)) e (v + 1)) (i := v + 1) hs (by omega) nz kz
    have ps := pfr_s (r := zP h (q + 1)) (e := e) (v := v + 1) (by omega) (by omega)
    rw [Nat.add_sub_cancel] at ps
    rw [ps] at wr
    simp (disch := first | assumption | (simp only [sI_kd, sP_kd, rw_kd, sI_ln, sP_ln, rw_ln] <;> first | assumption | omega) | omega) only [nl, nI_add, pk_mul, Option.bind_some, zb2_some, nI_le_t, nI_le_f, nI_lt_t, nI_lt_f, nI_eq_t, nI_eq_f, nI_m1, nI_em1, ↓reduceIte, Nat.add_zero, rP_es hs, pk_sub, Nat.add_sub_cancel, rd, wr, nI_dec]
    exact ih n (by omega) (by omega)
theorem c_front {e : Nat} (hS : SR tg h q nc ρ) (hn : nc ≤ 20) (hc : ρ 0 ≤ 12) (he : e < ρ 0) : ∃ h', fX3_moveToFront h q (nI e) = some h' ∧ SR tg h' q nc (nfront ρ e) ∧ Fr q (q + 39) h h' := by
  have hs := hS.1
  have nz := hs.e0 (i := e) (by omega)
  have kz := hs.ek (i := e) (by omega)
  have L := fun k => front_L (h := h) (q := q) (e := e) (u1 := nI e) (u2 := zP h (q + 1) e) hs (by omega) k e zF (by omega) (by unfold zF; omega)
  simp only [pfr_0, zrP_self] at L
  have wr := rP_bn (r := pfr (zP h (q + 1)) e 0) (i := 0) hs (by omega) nz kz
  refine ⟨zrP h (q + 1) (va_up (pfr (zP h (q + 1)) e 0) 0 (zP h (q + 1) e)), ?_, ?_, ?_⟩
  · unfold fX3_moveToFront
    simp (disch := first | assumption | (simp only [sI_kd, sP_kd, rw_kd, sI_ln, sP_ln, rw_ln] <;> first | assumption | omega) | omega) only [nl, nI_add, pk_mul, Option.bind_some, zb2_some, nI_le_t, nI_le_f, nI_lt_t, nI_lt_f, nI_eq_t, nI_eq_f, nI_m1, nI_em1, ↓reduceIte, Nat.add_zero, hS.kd, c_has hS hc, hs.es, hs.en, L, rP_es hs, wr]
  · have row : ∀ i, va_up (pfr (zP h (q + 1)) e 0) 0 (zP h (q + 1) e) i = zP h (q + 1) (if i = 0 then e else if i ≤ e then i - 1 else i) := fun i => by
      unfold va_up pfr
      by_cases c : i = 0
      · rw [if_pos c, if_pos c]
      · rw [if_neg c, if_neg c]
        by_cases d : i ≤ e
        · rw [if_pos (by omega), if_pos d]
        · rw [if_neg (by omega), if_neg d]
    have hs' : SSh (zrP h (q + 1) (va_up (pfr (zP h (q + 1)) e 0) 0 (zP h (q + 1) e))) q := by
      refine SSh_pm (h := h) (s := fun i => if i = 0 then e else if i ≤ e then i - 1 else i) rfl rfl (fun a ha => rP_a ha) (fun i hi => ?_) (fun i hi => ?_) (fun i j hi hj w => ?_) hs
      · rw [rP_at]; exact row i
      · split
        · omega
        · split <;> omega
      · repeat' split at w
        all_goals omega
    obtain ⟨-, b2, b3, b4, b5, bc, be⟩ := hS
    refine ⟨hs', ?_, ?_, ?_, ?_, fun c hc => ?_, fun i hi => ?_⟩
    · rw [nfront_hd (by omega)]; exact b2
    · rw [nfront_hd (by omega)]; exact b3
    · rw [nfront_hd (by omega)]; exact b4
    · rw [nfront_hd (by omega)]; exact b5
    · rw [nfront_hd (by omega)]; exact bc c hc
    · rw [nfront_hd (by omega)] at hi
      rw [rP_at, row i]
      exact ER_en (fun k hk => nfront_en hk) (be _ (by split; omega; split <;> omega))
  · exact ⟨rfl, rfl, rfl, fun a ha => ⟨rfl, rP_a (by omega)⟩⟩
end CMOVE
