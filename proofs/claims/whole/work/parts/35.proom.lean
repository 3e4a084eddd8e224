/-! pure: making room, on rows -/
/-- behind it: done or not, the row; none: the fuel is out -/
def nmk (b but : Nat) (et : Bool) : Nat → zN' → Option (Bool × zN')
  | 0, _ => none
  | n + 1, ρ => if nus ρ (ρ 0) + b ≤ ρ 3 then some (true, ρ) else match nlg ρ but with
    | some (e, f) => nmk b but et n (ndf ρ e f)
    | none => if et = true then match nhv ρ but (ρ 0) with
      | some e => nmk b but et n (ndrop ρ (ρ 0) e)
      | none => some (false, ρ)
      else some (false, ρ)
/-- what has been found is a derived form of another entry; and it is the largest so far -/
theorem nlgi_in {ρ : zN'} {but e : Nat} {s : Option (Nat × Nat) × Nat} : ∀ n, n ≤ 8 → (nlgi ρ but e s n = s ∨ ∃ f, f < n ∧ nlgi ρ but e s n = (some (e, f), ρ (24 + 28 * e + f)) ∧ e ≠ but ∧ ρ (24 + 28 * e + 16 + f) = 2) := by
  intro n
  induction n with
  | zero => intro _; exact Or.inl rfl
  | succ n ih =>
    intro hn
    have := ih (by omega)
    rw [show nlgi ρ but e s (n + 1) = nlgs ρ but e n (nlgi ρ but e s n) from rfl]
    unfold nlgs
    by_cases c : e ≠ but ∧ ρ (24 + 28 * e + 16 + n) = 2 ∧ (nlgi ρ but e s n).2 < ρ (24 + 28 * e + n)
    · rw [if_pos c]
      exact Or.inr ⟨n, by omega, rfl, c.1, c.2.1⟩
    · rw [if_neg c]
      rcases this with q | ⟨f, h1, h2⟩
      · exact Or.inl q
      · exact Or.inr ⟨f, by omega, h2⟩
theorem nlgi_ge {ρ : zN'} {but e : Nat} {s : Option (Nat × Nat) × Nat} : ∀ n, s.2 ≤ (nlgi ρ but e s n).2 ∧ ∀ f, f < n → e ≠ but → ρ (24 + 28 * e + 16 + f) = 2 → ρ (24 + 28 * e + f) ≤ (nlgi ρ but e s n).2 := by
  intro n
  induction n with
  | zero => exact ⟨Nat.le_refl _, fun f hf => by omega⟩
  | succ n ih =>
    rw [show nlgi ρ but e s (n + 1) = nlgs ρ but e n (nlgi ρ but e s n) from rfl]
    unfold nlgs
    by_cases c : e ≠ but ∧ ρ (24 + 28 * e + 16 + n) = 2 ∧ (nlgi ρ but e s n).2 < ρ (24 + 28 * e + n)
    · rw [if_pos c]
      refine ⟨by have := ih.1; show _ ≤ ρ (24 + 28 * e + n); omega, fun f hf h1 h2 => ?_⟩
      show _ ≤ ρ (24 + 28 * e + n)
      by_cases q : f = n
      · subst q; exact Nat.le_refl _
      · have := ih.2 f (by omega) h1 h2; omega
    · rw [if_neg c]
      refine ⟨ih.1, fun f hf h1 h2 => ?_⟩
      by_cases q : f = n
      · subst q
        exact Nat.not_lt.mp fun z => c ⟨h1, h2, z⟩
      · exact ih.2 f (by omega) h1 h2
theorem nlgo_in {ρ : zN'} {but : Nat} : ∀ j, j ≤ ρ 0 → (nlgo ρ but (ρ 0) j = (none, 0) ∨ ∃ e f, ρ 0 - j ≤ e ∧ e < ρ 0 ∧ f < 8 ∧ nlgo ρ but (ρ 0) j = (some (e, f), ρ (24 + 28 * e + f)) ∧ e ≠ but ∧ ρ (24 + 28 * e + 16 + f) = 2) := by
  intro j
  induction j with
  | zero => intro _; exact Or.inl rfl
  | succ j ih =>
    intro hj
    rw [show nlgo ρ but (ρ 0) (j + 1) = nlgi ρ but (ρ 0 - 1 - j) (nlgo ρ but (ρ 0) j) 8 from rfl]
    rcases nlgi_in (ρ := ρ) (but := but) (e := ρ 0 - 1 - j) (s := nlgo ρ but (ρ 0) j) 8 (Nat.le_refl 8) with q | ⟨f, h1, h2, h3, h4⟩
    · rw [q]
      rcases ih (by omega) with z | ⟨e, f, h1, h2⟩
      · exact Or.inl z
      · exact Or.inr ⟨e, f, by omega, h2⟩
    · exact Or.inr ⟨ρ 0 - 1 - j, f, by omega, by omega, h1, h2, h3, h4⟩
theorem nlgo_ge {ρ : zN'} {but : Nat} : ∀ j, j ≤ ρ 0 → ∀ e f, ρ 0 - j ≤ e → e < ρ 0 → f < 8 → e ≠ but → ρ (24 + 28 * e + 16 + f) = 2 → ρ (24 + 28 * e + f) ≤ (nlgo ρ but (ρ 0) j).2 := by
  intro j
  induction j with
  | zero => intro _ e f h1 h2; omega
  | succ j ih =>
    intro hj e f h1 h2 h3 h4 h5
    rw [show nlgo ρ but (ρ 0) (j + 1) = nlgi ρ but (ρ 0 - 1 - j) (nlgo ρ but (ρ 0) j) 8 from rfl]
    have g := nlgi_ge (ρ := ρ) (but := but) (e := ρ 0 - 1 - j) (s := nlgo ρ but (ρ 0) j) 8
    by_cases q : e = ρ 0 - 1 - j
    · subst q
      exact g.2 f h3 h4 h5
    · have := ih (by omega) e f (by omega) h2 h3 h4 h5
      exact Nat.le_trans this g.1
theorem nlg_some {ρ : zN'} {but e f : Nat} (h : nlg ρ but = some (e, f)) : e < ρ 0 ∧ f < 8 ∧ e ≠ but ∧ ρ (24 + 28 * e + 16 + f) = 2 ∧ ∀ e' f', e' < ρ 0 → f' < 8 → e' ≠ but → ρ (24 + 28 * e' + 16 + f') = 2 → ρ (24 + 28 * e' + f') ≤ ρ (24 + 28 * e + f) := by
  unfold nlg at h
  rcases nlgo_in (ρ := ρ) (but := but) (ρ 0) (Nat.le_refl _) with q | ⟨e2, f2, h1, h2, h3, h4, h5, h6⟩
  · rw [q] at h; cases h
  · rw [h4] at h
    cases h
    refine ⟨h2, h3, h5, h6, fun e' f' g1 g2 g3 g4 => ?_⟩
    have := nlgo_ge (ρ := ρ) (but := but) (ρ 0) (Nat.le_refl _) e' f' (by omega) g1 g2 g3 g4
    rw [h4] at this
    exact this
theorem nlg_none {ρ : zN'} {but : Nat} (ho : nok ρ) (h : nlg ρ but = none) : ∀ e f, e < ρ 0 → f < 8 → e ≠ but → ρ (24 + 28 * e + 16 + f) ≠ 2 := by
  intro e f h1 h2 h3 h4
  unfold nlg at h
  have g := nlgo_ge (ρ := ρ) (but := but) (ρ 0) (Nat.le_refl _) e f (by omega) h1 h2 h3 h4
  rcases nlgo_in (ρ := ρ) (but := but) (ρ 0) (Nat.le_refl _) with q | ⟨e2, f2, _, _, _, q, _⟩
  · rw [q] at g
    have := ((ho.2.2.2.2 e h1).1 f h2).2.2.2.1 (by omega)
    have g : ρ (24 + 28 * e + f) ≤ 0 := g
    omega
  · rw [q] at h; cases h
theorem nhv_none {ρ : zN'} {but : Nat} : ∀ {n : Nat}, nhv ρ but n = none → ∀ e, e < n → e = but ∨ ρ (24 + 28 * e + 24) ≠ 0 := by
  intro n
  induction n with
  | zero => intro _ e he; omega
  | succ n ih =>
    intro h e he
    rw [show nhv ρ but (n + 1) = (if n = but ∨ ρ (24 + 28 * n + 24) ≠ 0 then nhv ρ but n else match nhv ρ but n with
      | none => some n
      | some f => if nwt ρ n < nwt ρ f then some f else some n) from rfl] at h
    by_cases c : n = but ∨ ρ (24 + 28 * n + 24) ≠ 0
    · rw [if_pos c] at h
      by_cases q : e = n
      · subst q; exact c
      · exact ih h e (by omega)
    · rw [if_neg c] at h
      cases hq : nhv ρ but n with
      | none => rw [hq] at h; cases h
      | some f =>
        rw [hq] at h
        by_cases w : nwt ρ n < nwt ρ f
        · simp only [w, if_true] at h; cases h
        · simp only [w, if_false] at h; cases h
section ROOM
variable {h : zH} {I : Nat → Nat → Int32} {a : Nat}
theorem n_makeRoom_L {b but : Nat} {bb : Int32} {et : Bool} {ei : Int32} (hk : zkd h a = 9) (hl : zln h a = 360) (hb : nbut bb but) (hbn : b ≤ 99999) (hei : ei = if et = true then 1 else 0) (k : zH → Option (Int32 × zH)) : ∀ n (ρ : zN') (I : Nat → Nat → Int32) ok ρ', I a = nr ρ → nok ρ → nmk b but et n ρ = some (ok, ρ') → fX7_makeRoom_L0 k a (nI b) bb ei n (zw h I) = if ok = true then k (zw h (zz I a (nr ρ'))) else some (0, zw h (zz I a (nr ρ'))) := by
  intro n
  induction n with
  | zero => intro ρ I ok ρ' hI ho hm; cases hm
  | succ n ih =>
    intro ρ I ok ρ' hI ho hm
    have hus := nus_le ho
    have r3 : zaI (zw h I) a 3 = some (nI (ρ 3)) := by
      have := zaIw (h := h) (I := I) (a := a) 3 hk (by omega) (by omega)
      rw [hI] at this
      exact this
    rw [fX7_makeRoom_L0, n_used hk hl hI ho.1, zb2_some, r3, Option.bind_some, nI_add]
    rw [show nmk b but et (n + 1) ρ = (if nus ρ (ρ 0) + b ≤ ρ 3 then some (true, ρ) else match nlg ρ but with
      | some (e, f) => nmk b but et n (ndf ρ e f)
      | none => if et = true then match nhv ρ but (ρ 0) with
        | some e => nmk b but et n (ndrop ρ (ρ 0) e)
        | none => some (false, ρ)
        else some (false, ρ)) from rfl] at hm
    have hb3 := ho.2.2.2.1
    by_cases c : nus ρ (ρ 0) + b ≤ ρ 3
    · rw [if_pos ((nI_leI (by omega) (by omega)).mpr c)]
      rw [if_pos c] at hm
      cases hm
      rw [if_pos rfl, ← hI, zz_self]
    · rw [if_neg (fun q => c ((nI_leI (by omega) (by omega)).mp q)), n_largest hk hl hI ho hb, zb2_some]
      rw [if_neg c] at hm
      cases hq : nlg ρ but with
      | some ef =>
        obtain ⟨e, f⟩ := ef
        rw [hq] at hm
        obtain ⟨g1, g2, -⟩ := nlg_some hq
        have hc := ho.1
        have n9 : ¬ zol2 (some (e, f)) = -9 := fun z => by
          have h1 := congrArg Int32.toInt (show nI (8 * e + f) = -9 from z)
          rw [nI_toInt (by omega)] at h1
          have h2 : (-9 : Int32).toInt = -9 := rfl
          omega
        rw [if_neg n9, if_neg n9, if_neg n9]
        have d1 : zol2 (some (e, f)) / 8 = nI e := by
          show nI (8 * e + f) / nI 8 = nI e
          rw [pk_div (by omega) (by omega) (by omega)]
          congr 1; omega
        have d2 : zol2 (some (e, f)) - zol2 (some (e, f)) / 8 * 8 = nI f := by
          show nI (8 * e + f) - nI (8 * e + f) / nI 8 * nI 8 = nI f
          rw [pk_rem (by omega) (by omega) (by omega)]
          congr 1; omega
        rw [d2, d1, n_dropForm hk hl hI (by omega) g2, Option.bind_some]
        have := ih (ndf ρ e f) (zz I a (nr (ndf ρ e f))) ok ρ' zz_at (nok_df ho g1 g2) hm
        rw [zz_zz] at this
        exact this
      | none =>
        rw [hq] at hm
        have y9 : zol2 none = (-9 : Int32) := rfl
        rw [if_pos y9]
        by_cases ce : et = true
        · simp only [ce, if_true] at hm
          rw [hei, if_pos ce, if_neg (by decide), n_heaviest hk hl hI ho hb, zb2_some, if_pos y9]
          cases hv : nhv ρ but (ρ 0) with
          | none =>
            rw [hv] at hm
            cases hm
            rw [if_pos (show zon none = -9 from rfl), if_neg (by decide), ← hI, zz_self]
          | some e =>
            rw [hv] at hm
            have g := nhv_lt hv
            have hc := ho.1
            have n9 : ¬ zon (some e) = -9 := fun z => by
              have h1 := congrArg Int32.toInt (show nI e = -9 from z)
              rw [nI_toInt (by omega)] at h1
              have h2 : (-9 : Int32).toInt = -9 := rfl
              omega
            rw [if_neg n9, if_pos y9]
            show (fX7_drop (zw h I) a (nI e)).bind _ = _
            rw [n_drop hk hl hI ho.1 g.1, Option.bind_some]
            have := ih (ndrop ρ (ρ 0) e) (zz I a (nr (ndrop ρ (ρ 0) e))) ok ρ' zz_at (nok_drop ho g.1) (by rw [ce]; exact hm)
            rw [zz_zz] at this
            rw [hei, if_pos ce] at this
            exact this
        · simp only [ce] at hm
          cases hm
          rw [hei, if_neg ce, if_pos rfl, if_pos y9, if_neg (by decide), ← hI, zz_self]
end ROOM
/-- with enough fuel it ends -/
theorem nmk_end {b but : Nat} {et : Bool} : ∀ n (ρ : zN'), nok ρ → nmu ρ < n → ∃ ok ρ', nmk b but et n ρ = some (ok, ρ') := by
  intro n
  induction n with
  | zero => intro ρ _ h; omega
  | succ n ih =>
    intro ρ ho hm
    unfold nmk
    by_cases c : nus ρ (ρ 0) + b ≤ ρ 3
    · exact ⟨true, ρ, if_pos c⟩
    · rw [if_neg c]
      cases hq : nlg ρ but with
      | some ef =>
        obtain ⟨e, f⟩ := ef
        obtain ⟨g1, g2, g3, g4, -⟩ := nlg_some hq
        have := nmu_df g1 g2 g4
        exact ih _ (nok_df ho g1 g2) (by omega)
      | none =>
        by_cases ce : et = true
        · simp only [ce, if_true]
          cases hv : nhv ρ but (ρ 0) with
          | none => exact ⟨false, ρ, rfl⟩
          | some e =>
            have g := nhv_lt hv
            have := nmu_drop g.1
            rw [ce] at ih
            exact ih _ (nok_drop ho g.1) (by omega)
        · simp only [ce]
          exact ⟨false, ρ, rfl⟩
