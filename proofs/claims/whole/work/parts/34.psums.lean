/-! pure: sums, rows behind a removal, the least size -/
theorem nsum_skip {g : Nat → Nat} {n e : Nat} (he : e ≤ n) : nsum g (n + 1) = nsum (fun i => g (if i < e then i else i + 1)) n + g e := by
  induction n with
  | zero =>
    have : e = 0 := by omega
    subst this
    simp [nsum]
  | succ n ih =>
    by_cases c : e = n + 1
    · subst c
      rw [show nsum g (n + 1 + 1) = nsum g (n + 1) + g (n + 1) from rfl]
      congr 1
      exact nsum_congr fun j hj => by rw [if_pos hj]
    · have h1 := ih (by omega)
      rw [show nsum g (n + 1 + 1) = nsum g (n + 1) + g (n + 1) from rfl, h1]
      rw [show nsum (fun i => g (if i < e then i else i + 1)) (n + 1) = nsum (fun i => g (if i < e then i else i + 1)) n + g (if n < e then n else n + 1) from rfl]
      rw [if_neg (by omega)]
      omega
theorem nsum_chg {g g' : Nat → Nat} {n k : Nat} (hk : k < n) (h : ∀ j, j < n → j ≠ k → g' j = g j) : nsum g' n + g k = nsum g n + g' k := by
  induction n with
  | zero => omega
  | succ n ih =>
    rw [nsum, nsum]
    by_cases c : k = n
    · subst c
      rw [nsum_congr (g := g') (g' := g) fun j hj => h j (by omega) (by omega)]
      omega
    · have h1 := ih (by omega) (fun j hj => h j (by omega))
      have h2 := h n (by omega) (fun q => c q.symm)
      omega
theorem nsum_zero {g : Nat → Nat} {n : Nat} (h : ∀ j, j < n → g j = 0) : nsum g n = 0 := by
  induction n with
  | zero => rfl
  | succ n ih => rw [nsum, ih (fun j hj => h j (by omega)), h n (by omega)]
/-- the places of an entry's numbers -/
theorem ndf_at {ρ : zN'} {e f : Nat} (j : Nat) : ndf ρ e f j = if j = 24 + 28 * e + f ∨ j = 24 + 28 * e + 8 + f ∨ j = 24 + 28 * e + 16 + f then 0 else ρ j := by
  unfold ndf va_up
  by_cases h1 : j = 24 + 28 * e + 16 + f
  · simp [h1]
  · by_cases h2 : j = 24 + 28 * e + 8 + f
    · simp [h2]
    · by_cases h3 : j = 24 + 28 * e + f <;> simp [h1, h2, h3]
theorem npf_at {ρ : zN'} {e f b l k : Nat} (j : Nat) : npf ρ e f b l k j = if j = 24 + 28 * e + 16 + f then k else if j = 24 + 28 * e + 8 + f then l else if j = 24 + 28 * e + f then b else ρ j := rfl
theorem ndrop_at {ρ : zN'} {c e : Nat} (hc : 0 < c) (he : e < c) (j : Nat) : ndrop ρ c e j = if 24 + 28 * (c - 1) ≤ j ∧ j < 24 + 28 * c then 0 else if 24 + 28 * e ≤ j ∧ j < 24 + 28 * (c - 1) then ρ (j + 28) else if j = 0 then c - 1 else ρ j := by
  unfold ndrop
  by_cases h1 : 24 + 28 * (c - 1) ≤ j ∧ j < 24 + 28 * c
  · rw [if_pos h1, pk_cpy_in (by omega) (by omega)]
  · rw [if_neg h1, pk_cpy_out (by omega)]
    by_cases h2 : 24 + 28 * e ≤ j ∧ j < 24 + 28 * (c - 1)
    · rw [if_pos h2, pk_cpy_in (by omega) (by omega)]
      unfold va_up
      rw [if_neg (by omega)]
      congr 1; omega
    · rw [if_neg h2, pk_cpy_out (by omega)]
      rfl
theorem ndrop_en {ρ : zN'} {c e i k : Nat} (he : e < c) (hi : i < c - 1) (hk : k < 28) : ndrop ρ c e (24 + 28 * i + k) = ρ (24 + 28 * (if i < e then i else i + 1) + k) := by
  rw [ndrop_at (by omega) he, if_neg (by omega)]
  by_cases h : i < e
  · rw [if_neg (by omega), if_neg (by omega), if_pos h]
  · rw [if_pos (by omega), if_neg h]
    congr 1; omega
theorem ndrop_hd {ρ : zN'} {c e j : Nat} (he : e < c) (hj : j < 24) : ndrop ρ c e j = if j = 0 then c - 1 else ρ j := by
  rw [ndrop_at (by omega) he, if_neg (by omega), if_neg (by omega)]
theorem nsz_en {ρ ρ' : zN'} {i i' : Nat} (h : ∀ k, k < 28 → ρ' (24 + 28 * i + k) = ρ (24 + 28 * i' + k)) : nsz ρ' i = nsz ρ i' := nsum_congr fun f hf => h f (by omega)
theorem eok_en {ρ ρ' : zN'} {i i' : Nat} (h1 : ρ 1 ≤ ρ' 1) (h : ∀ k, k < 28 → ρ' (24 + 28 * i + k) = ρ (24 + 28 * i' + k)) (ho : eok ρ i') : eok ρ' i := by
  obtain ⟨a1, a2, a3, a4⟩ := ho
  refine ⟨fun f hf => ?_, ?_, ?_, ?_⟩
  · have e1 : ρ' (24 + 28 * i + 16 + f) = ρ (24 + 28 * i' + 16 + f) := by have := h (16 + f) (by omega); rw [← Nat.add_assoc, ← Nat.add_assoc] at this; exact this
    have e2 : ρ' (24 + 28 * i + 8 + f) = ρ (24 + 28 * i' + 8 + f) := by have := h (8 + f) (by omega); rw [← Nat.add_assoc, ← Nat.add_assoc] at this; exact this
    rw [e1, e2, h f (by omega)]
    obtain ⟨b1, b2, b3, b4, b5⟩ := a1 f hf
    exact ⟨b1, b2, b3, b4, by omega⟩
  · rw [h 24 (by omega)]; exact a2
  · rw [h 25 (by omega)]; omega
  · rw [h 26 (by omega)]; omega
theorem nok_drop {ρ : zN'} {e : Nat} (ho : nok ρ) (he : e < ρ 0) : nok (ndrop ρ (ρ 0) e) := by
  obtain ⟨h0, h1, h2, h3, h4⟩ := ho
  have e0 : ndrop ρ (ρ 0) e 0 = ρ 0 - 1 := by rw [ndrop_hd he (by omega)]; rfl
  have e1 : ndrop ρ (ρ 0) e 1 = ρ 1 := by rw [ndrop_hd he (by omega)]; rfl
  have e3 : ndrop ρ (ρ 0) e 3 = ρ 3 := by rw [ndrop_hd he (by omega)]; rfl
  refine ⟨by omega, by omega, by omega, by omega, fun i hi => ?_⟩
  rw [e0] at hi
  refine eok_en (i' := if i < e then i else i + 1) (by omega) (fun k hk => ndrop_en he hi hk) (h4 _ ?_)
  split <;> omega
theorem nok_df {ρ : zN'} {e f : Nat} (ho : nok ρ) (he : e < ρ 0) (hf : f < 8) : nok (ndf ρ e f) := by
  obtain ⟨h0, h1, h2, h3, h4⟩ := ho
  have hd : ∀ j, j < 24 → ndf ρ e f j = ρ j := fun j hj => by rw [ndf_at, if_neg (by omega)]
  refine ⟨by rw [hd 0 (by omega)]; exact h0, by rw [hd 1 (by omega)]; exact h1, by rw [hd 3 (by omega)]; exact h2, by rw [hd 3 (by omega)]; exact h3, fun i hi => ?_⟩
  rw [hd 0 (by omega)] at hi
  obtain ⟨a1, a2, a3, a4⟩ := h4 i hi
  refine ⟨fun g hg => ?_, by rw [ndf_at, if_neg (by omega)]; exact a2, by rw [ndf_at, if_neg (by omega), hd 1 (by omega)]; exact a3, by rw [ndf_at, if_neg (by omega), hd 1 (by omega)]; exact a4⟩
  have b := a1 g hg
  by_cases c : i = e ∧ g = f
  · obtain ⟨rfl, rfl⟩ := c
    have e1 : ndf ρ i g (24 + 28 * i + 16 + g) = 0 := by rw [ndf_at, if_pos (by omega)]
    have e2 : ndf ρ i g (24 + 28 * i + 8 + g) = 0 := by rw [ndf_at, if_pos (by omega)]
    have e3 : ndf ρ i g (24 + 28 * i + g) = 0 := by rw [ndf_at, if_pos (by omega)]
    rw [e1, e2, e3]
    exact ⟨by omega, by omega, fun _ => ⟨rfl, rfl⟩, fun q => absurd rfl q, by omega⟩
  · have e1 : ndf ρ e f (24 + 28 * i + 16 + g) = ρ (24 + 28 * i + 16 + g) := by rw [ndf_at, if_neg (by omega)]
    have e2 : ndf ρ e f (24 + 28 * i + 8 + g) = ρ (24 + 28 * i + 8 + g) := by rw [ndf_at, if_neg (by omega)]
    have e3 : ndf ρ e f (24 + 28 * i + g) = ρ (24 + 28 * i + g) := by rw [ndf_at, if_neg (by omega)]
    rw [e1, e2, e3, hd 1 (by omega)]
    exact b
/-- how many derived forms there are -/
def ndv (ρ : zN') (e : Nat) : Nat := nsum (fun f => if ρ (24 + 28 * e + 16 + f) = 2 then 1 else 0) 8
def nmu (ρ : zN') : Nat := ρ 0 + nsum (ndv ρ) (ρ 0)
theorem ndv_le (ρ : zN') (e : Nat) : ndv ρ e ≤ 8 := by
  have := nsum_le (g := fun f => if ρ (24 + 28 * e + 16 + f) = 2 then 1 else 0) (n := 8) (b := 1) (fun j _ => by split <;> omega)
  unfold ndv
  omega
theorem nmu_le {ρ : zN'} (h : ρ 0 ≤ 12) : nmu ρ ≤ 108 := by
  have := nsum_le (g := ndv ρ) (n := ρ 0) (b := 8) (fun j _ => ndv_le ρ j)
  unfold nmu
  omega
theorem ndf_ne {ρ : zN'} {e f i k : Nat} (hi : i ≠ e) (hk : k < 28) (hf : f < 8) : ndf ρ e f (24 + 28 * i + k) = ρ (24 + 28 * i + k) := by rw [ndf_at, if_neg (by omega)]
theorem nmu_df {ρ : zN'} {e f : Nat} (he : e < ρ 0) (hf : f < 8) (hd : ρ (24 + 28 * e + 16 + f) = 2) : nmu (ndf ρ e f) < nmu ρ := by
  have h0 : ndf ρ e f 0 = ρ 0 := by rw [ndf_at, if_neg (by omega)]
  have h1 : ndv (ndf ρ e f) e + 1 = ndv ρ e := by
    have := nsum_chg (g := fun g => if ρ (24 + 28 * e + 16 + g) = 2 then 1 else 0) (g' := fun g => if ndf ρ e f (24 + 28 * e + 16 + g) = 2 then 1 else 0) (n := 8) (k := f) hf (fun j hj hne => by
      have q : ndf ρ e f (24 + 28 * e + 16 + j) = ρ (24 + 28 * e + 16 + j) := by rw [ndf_at, if_neg (by omega)]
      show (if ndf ρ e f (24 + 28 * e + 16 + j) = 2 then 1 else 0) = _
      rw [q])
    have e2 : ndf ρ e f (24 + 28 * e + 16 + f) = 0 := by rw [ndf_at, if_pos (by omega)]
    simp only [hd, e2] at this
    unfold ndv
    simpa using this
  have h2 := nsum_chg (g := ndv ρ) (g' := ndv (ndf ρ e f)) (n := ρ 0) (k := e) he (fun j hj hne => by
    unfold ndv
    exact nsum_congr fun g hg => by
      show (if ndf ρ e f (24 + 28 * j + 16 + g) = 2 then 1 else 0) = _
      rw [Nat.add_assoc (24 + 28 * j), ndf_ne hne (by omega) hf])
  unfold nmu
  rw [h0]
  omega
theorem ndv_en {ρ ρ' : zN'} {i i' : Nat} (h : ∀ k, k < 28 → ρ' (24 + 28 * i + k) = ρ (24 + 28 * i' + k)) : ndv ρ' i = ndv ρ i' := nsum_congr fun f hf => by
  show (if ρ' (24 + 28 * i + 16 + f) = 2 then 1 else 0) = _
  rw [Nat.add_assoc, h (16 + f) (by omega), ← Nat.add_assoc]
theorem nmu_drop {ρ : zN'} {e : Nat} (he : e < ρ 0) : nmu (ndrop ρ (ρ 0) e) < nmu ρ := by
  have e0 : ndrop ρ (ρ 0) e 0 = ρ 0 - 1 := by rw [ndrop_hd he (by omega)]; rfl
  obtain ⟨c, hc⟩ : ∃ c, ρ 0 = c + 1 := ⟨ρ 0 - 1, by omega⟩
  have h1 := nsum_skip (g := ndv ρ) (n := c) (e := e) (by omega)
  have h2 : nsum (ndv (ndrop ρ (ρ 0) e)) c = nsum (fun i => ndv ρ (if i < e then i else i + 1)) c := nsum_congr fun i hi => ndv_en fun k hk => ndrop_en he (by omega) hk
  unfold nmu
  rw [e0, show ρ 0 - 1 = c by omega, h2, hc, h1]
  omega
theorem nus_drop {ρ : zN'} {e : Nat} (he : e < ρ 0) : nus (ndrop ρ (ρ 0) e) (ρ 0 - 1) + nsz ρ e = nus ρ (ρ 0) := by
  obtain ⟨c, hc⟩ : ∃ c, ρ 0 = c + 1 := ⟨ρ 0 - 1, by omega⟩
  have h1 := nsum_skip (g := nsz ρ) (n := c) (e := e) (by omega)
  have h2 : nsum (nsz (ndrop ρ (ρ 0) e)) c = nsum (fun i => nsz ρ (if i < e then i else i + 1)) c := nsum_congr fun i hi => nsz_en fun k hk => ndrop_en he (by omega) hk
  unfold nus
  rw [show ρ 0 - 1 = c by omega, h2, hc, h1]
theorem nsz_df {ρ : zN'} {e f : Nat} (hf : f < 8) : nsz (ndf ρ e f) e + ρ (24 + 28 * e + f) = nsz ρ e := by
  have := nsum_chg (g := fun g => ρ (24 + 28 * e + g)) (g' := fun g => ndf ρ e f (24 + 28 * e + g)) (n := 8) (k := f) hf (fun j hj hne => by
      show ndf ρ e f (24 + 28 * e + j) = _
      rw [ndf_at, if_neg (by omega)])
  have e2 : ndf ρ e f (24 + 28 * e + f) = 0 := by rw [ndf_at, if_pos (by omega)]
  simp only [e2] at this
  unfold nsz
  omega
