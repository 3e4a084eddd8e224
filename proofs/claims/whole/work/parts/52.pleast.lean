/-! pure: when room can be made -/
/-- the size of the forms that are not derived -/
def nor (ρ : zN') (e : Nat) : Nat := nsum (fun f => if ρ (24 + 28 * e + 16 + f) = 2 then 0 else ρ (24 + 28 * e + f)) 8
def nli (ρ : zN') (but : Nat) (ke : Bool) (i : Nat) : Nat := if i = but then nsz ρ i else if ke = true ∨ ρ (24 + 28 * i + 24) ≠ 0 then nor ρ i else 0
def nls (ρ : zN') (but : Nat) (ke : Bool) : Nat := nsum (nli ρ but ke) (ρ 0)
theorem nor_le (ρ : zN') (e : Nat) : nor ρ e ≤ nsz ρ e := nsum_mono fun f _ => by
  split <;> omega
theorem nls_le (ρ : zN') (but : Nat) (ke : Bool) : nls ρ but ke ≤ nus ρ (ρ 0) := nsum_mono fun i _ => by
  unfold nli
  have := nor_le ρ i
  split
  · omega
  · split <;> omega
theorem nor_all {ρ : zN'} {e : Nat} (h : ∀ f, f < 8 → ρ (24 + 28 * e + 16 + f) ≠ 2) : nor ρ e = nsz ρ e := nsum_congr fun f hf => if_neg (h f hf)
theorem nor_df {ρ : zN'} {e f : Nat} (hf : f < 8) (hd : ρ (24 + 28 * e + 16 + f) = 2) (i : Nat) : nor (ndf ρ e f) i = nor ρ i := by
  refine nsum_congr fun g hg => ?_
  by_cases c : i = e ∧ g = f
  · obtain ⟨rfl, rfl⟩ := c
    have e1 : ndf ρ i g (24 + 28 * i + 16 + g) = 0 := by rw [ndf_at, if_pos (by omega)]
    have e2 : ndf ρ i g (24 + 28 * i + g) = 0 := by rw [ndf_at, if_pos (by omega)]
    rw [e1, e2, if_pos hd, if_neg (by omega)]
  · have e1 : ndf ρ e f (24 + 28 * i + 16 + g) = ρ (24 + 28 * i + 16 + g) := by rw [ndf_at, if_neg (by omega)]
    have e2 : ndf ρ e f (24 + 28 * i + g) = ρ (24 + 28 * i + g) := by rw [ndf_at, if_neg (by omega)]
    rw [e1, e2]
theorem nls_df {ρ : zN'} {e f but : Nat} {ke : Bool} (hf : f < 8) (hd : ρ (24 + 28 * e + 16 + f) = 2) (hb : e ≠ but) : nls (ndf ρ e f) but ke = nls ρ but ke := by
  unfold nls
  rw [show ndf ρ e f 0 = ρ 0 by rw [ndf_at, if_neg (by omega)]]
  refine nsum_congr fun i hi => ?_
  unfold nli
  rw [nor_df hf hd, show ndf ρ e f (24 + 28 * i + 24) = ρ (24 + 28 * i + 24) by rw [ndf_at, if_neg (by omega)]]
  by_cases c : i = but
  · rw [if_pos c, if_pos c]
    exact nsz_en (fun k hk => ndf_ne (by omega) hk hf)
  · rw [if_neg c, if_neg c]
theorem nls_drop {ρ : zN'} {e but : Nat} (he : e < ρ 0) (hb : e ≠ but) (hp : ρ (24 + 28 * e + 24) = 0) (h0 : but = 0 ∨ ρ 0 ≤ but) : nls (ndrop ρ (ρ 0) e) but false = nls ρ but false := by
  unfold nls
  have e0 : ndrop ρ (ρ 0) e 0 = ρ 0 - 1 := by rw [ndrop_hd he (by omega)]; rfl
  rw [e0]
  have sk := nsum_skip (g := nli ρ but false) (n := ρ 0 - 1) (e := e) (by omega)
  rw [show ρ 0 - 1 + 1 = ρ 0 by omega] at sk
  have z : nli ρ but false e = 0 := by
    unfold nli
    rw [if_neg hb, if_neg (fun q => q.elim (fun w => by cases w) (fun w => w hp))]
  rw [sk, z, Nat.add_zero]
  refine nsum_congr fun i hi => ?_
  have en : ∀ k, k < 28 → ndrop ρ (ρ 0) e (24 + 28 * i + k) = ρ (24 + 28 * (if i < e then i else i + 1) + k) := fun k hk => ndrop_en he hi hk
  have eb : (i = but) ↔ ((if i < e then i else i + 1) = but) := by
    split <;> omega
  have eo : nor (ndrop ρ (ρ 0) e) i = nor ρ (if i < e then i else i + 1) := nsum_congr fun g hg => by
    have := en (16 + g) (by omega)
    rw [← Nat.add_assoc, ← Nat.add_assoc] at this
    rw [this, en g (by omega)]
  unfold nli
  rw [eo, nsz_en en, en 24 (by omega)]
  by_cases c : i = but
  · rw [if_pos c, if_pos (eb.mp c)]
  · rw [if_neg c, if_neg (fun q => c (eb.mpr q))]
theorem nmk_iff {b but : Nat} {et : Bool} : ∀ n (ρ : zN') ok ρ', nok ρ → (et = true → but = 0 ∨ ρ 0 ≤ but) → nmk b but et n ρ = some (ok, ρ') → (ok = true ↔ nls ρ but (!et) + b ≤ ρ 3) := by
  intro n
  induction n with
  | zero => intro ρ ok ρ' _ _ e; cases e
  | succ n ih =>
    intro ρ ok ρ' ho hb e
    unfold nmk at e
    have le := nls_le ρ but (!et)
    by_cases c : nus ρ (ρ 0) + b ≤ ρ 3
    · rw [if_pos c] at e
      cases e
      exact ⟨fun _ => by omega, fun _ => rfl⟩
    · rw [if_neg c] at e
      cases hl : nlg ρ but with
      | some ef =>
        obtain ⟨e', f'⟩ := ef
        rw [hl] at e
        obtain ⟨g1, g2, g3, g4, -⟩ := nlg_some hl
        have e0 : ndf ρ e' f' 0 = ρ 0 := by rw [ndf_at, if_neg (by omega)]
        have e3 : ndf ρ e' f' 3 = ρ 3 := by rw [ndf_at, if_neg (by omega)]
        have := ih _ _ _ (nok_df ho g1 g2) (by rw [e0]; exact hb) e
        rw [nls_df g2 g4 g3, e3] at this
        exact this
      | none =>
        rw [hl] at e
        dsimp only at e
        have nd := nlg_none ho hl
        cases et with
        | true =>
          rw [if_pos rfl] at e
          cases hv : nhv ρ but (ρ 0) with
          | some e' =>
            rw [hv] at e
            obtain ⟨g1, g2, g3⟩ := nhv_lt hv
            have e0 : ndrop ρ (ρ 0) e' 0 = ρ 0 - 1 := by rw [ndrop_hd g1 (by omega)]; rfl
            have e3 : ndrop ρ (ρ 0) e' 3 = ρ 3 := by rw [ndrop_hd g1 (by omega)]; rfl
            have hb' := hb rfl
            have := ih _ _ _ (nok_drop ho g1) (fun _ => by rw [e0]; omega) e
            rw [show (!true) = false from rfl, nls_drop g1 g2 g3 hb', e3] at this
            exact this
          | none =>
            rw [hv] at e
            cases e
            have hp := nhv_none hv
            have eq : nls ρ but false = nus ρ (ρ 0) := nsum_congr fun i hi => by
              unfold nli
              by_cases c : i = but
              · rw [if_pos c]
              · have := (hp i hi).resolve_left c
                rw [if_neg c, if_pos (Or.inr this)]
                exact nor_all fun f hf => nd i f hi hf c
            rw [show (!true) = false from rfl, eq]
            exact ⟨fun q => (by cases q), fun q => (by omega)⟩
        | false =>
          rw [if_neg (by decide)] at e
          cases e
          have eq : nls ρ but true = nus ρ (ρ 0) := nsum_congr fun i hi => by
            unfold nli
            by_cases c : i = but
            · rw [if_pos c]
            · rw [if_neg c, if_pos (Or.inl rfl)]
              exact nor_all fun f hf => nd i f hi hf c
          rw [show (!false) = true from rfl, eq]
          exact ⟨fun q => (by cases q), fun q => (by omega)⟩
theorem nroom_iff {b but : Nat} {et : Bool} {ρ : zN'} (ho : nok ρ) (hb : et = true → but = 0 ∨ ρ 0 ≤ but) : (∃ ρ', nroom b but et ρ = some ρ') ↔ nls ρ but (!et) + b ≤ ρ 3 := by
  obtain ⟨ok, ρ', e⟩ := nmk_end (b := b) (but := but) (et := et) zF ρ ho (by have := nmu_le ho.1; unfold zF; omega)
  have := nmk_iff zF ρ ok ρ' ho hb e
  rw [← this]
  unfold nroom
  rw [e]
  cases ok with
  | true => exact ⟨fun _ => rfl, fun _ => ⟨ρ', rfl⟩⟩
  | false => exact ⟨fun ⟨_, q⟩ => (by cases q), fun q => (by cases q)⟩
