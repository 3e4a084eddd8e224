/-! pure: rows are 0 beyond their length -/
def rz (ρ : zN') : Prop := ∀ j, 360 ≤ j → ρ j = 0
theorem rz_up {ρ : zN'} {k v : Nat} (h : rz ρ) (hk : k < 360) : rz (va_up ρ k v) := fun j hj => by
  rw [up_ne (by omega)]
  exact h j hj
theorem rz_cpy {f ρ : zN'} {sp dp n : Nat} (h : rz ρ) (hk : dp + n ≤ 360) : rz (va_cpy f ρ sp dp n) := fun j hj => by
  rw [pk_cpy_out (by omega)]
  exact h j hj
theorem rz_df {ρ : zN'} {e f : Nat} (h : rz ρ) (he : e < 12) (hf : f < 8) : rz (ndf ρ e f) := rz_up (rz_up (rz_up h (by omega)) (by omega)) (by omega)
theorem rz_pf {ρ : zN'} {e f b l k : Nat} (h : rz ρ) (he : e < 12) (hf : f < 8) : rz (npf ρ e f b l k) := rz_up (rz_up (rz_up h (by omega)) (by omega)) (by omega)
theorem rz_drop {ρ : zN'} {c e : Nat} (h : rz ρ) (he : e < c) (hc : c ≤ 12) : rz (ndrop ρ c e) := rz_cpy (rz_cpy (rz_up h (by omega)) (by omega)) (by omega)
theorem rz_ins {ρ : zN'} (h : rz ρ) (hc : ρ 0 < 12) : rz (nins ρ) := rz_up (rz_cpy (rz_cpy h (by omega)) (by omega)) (by omega)
theorem rz_front {ρ : zN'} {e : Nat} (h : rz ρ) (he : e < 12) : rz (nfront ρ e) := rz_cpy (rz_cpy h (by omega)) (by omega)
theorem rz_mk {b but : Nat} {et : Bool} : ∀ n (ρ : zN') ok ρ', nok ρ → rz ρ → nmk b but et n ρ = some (ok, ρ') → rz ρ' := by
  intro n
  induction n with
  | zero => intro ρ ok ρ' _ _ e; cases e
  | succ n ih =>
    intro ρ ok ρ' ho hz e
    have hc := ho.1
    unfold nmk at e
    split at e
    · cases e
      exact hz
    · cases hl : nlg ρ but with
      | some ef =>
        obtain ⟨e', f'⟩ := ef
        rw [hl] at e
        obtain ⟨g1, g2, g3, -⟩ := nlg_some hl
        exact ih _ _ _ (nok_df ho g1 g2) (rz_df hz (by omega) g2) e
      | none =>
        rw [hl] at e
        dsimp only at e
        split at e
        · cases hv : nhv ρ but (ρ 0) with
          | some e' =>
            rw [hv] at e
            have g := nhv_lt hv
            exact ih _ _ _ (nok_drop ho g.1) (rz_drop hz g.1 hc) e
          | none =>
            rw [hv] at e
            cases e
            exact hz
        · cases e
          exact hz
theorem rz_room {b but : Nat} {et : Bool} {ρ ρ' : zN'} (ho : nok ρ) (hz : rz ρ) (h : nroom b but et ρ = some ρ') : rz ρ' := by
  unfold nroom at h
  split at h
  · rename_i q
    cases h
    exact rz_mk _ _ _ _ ho hz q
  · cases h
theorem cpy_all {f g : zN'} (hf : rz f) (hg : rz g) : va_cpy f g 0 0 360 = f := by
  funext j
  by_cases c : j < 360
  · rw [pk_cpy_in (by omega) (by omega)]
    congr 1
    omega
  · rw [pk_cpy_out (by omega), hg j (by omega), hf j (by omega)]
