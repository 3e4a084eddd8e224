/-! pure: the reference's offer, and an entry to the front -/
def noffer (ρ : zN') (f b : Nat) : Option zN' := if ρ 0 = 0 ∨ ρ (40 + f) = 1 then none else (nroom b 0 true (ndf (va_up ρ 1 (ρ 1 + 1)) 0 f)).map (fun ρ => npf ρ 0 f b 0 1)
/-- an entry comes ahead of all -/
def nfront (ρ : zN') (e : Nat) : zN' := va_cpy ρ (va_cpy ρ ρ 24 52 (28 * e)) (24 + 28 * e) 24 28
section OFFER
variable {h : zH} {I : Nat → Nat → Int32} {m a nf np : Nat} {ρ : zN'}
theorem m_isPlace (hm : zkd h m = 8) (h6 : I m 6 = nI np) (hnp : np ≤ 6) (x : Int32) : fX7_isPlace (zw h I) m x = some (if x < 0 ∨ nI np ≤ x then 0 else 1, zw h I) := by
  unfold fX7_isPlace
  rw [zw_kd, if_pos hm, zgIw hm, Option.bind_some, h6, show (0 : Int64) = (0 : Int32).toInt64 from rfl, show (0 : Int32).toInt64 = 0 from rfl, p_in0 _ _ (by omega), zb2_some]
  split
  · rw [if_pos (Or.inl rfl)]
  · rw [if_pos (Or.inr rfl)]
theorem n_offerOn {f b : Nat} (hm : zkd h m = 8) (h4 : I m 4 = nI nf) (hnf : nf ≤ 8) (hk : zkd h a = 9) (hl : zln h a = 360) (hI : I a = nr ρ) (ho : nok ρ) (ht : ρ 1 + 1 < 10000) (hf : f < nf) (hb1 : 1 ≤ b) (hb2 : b ≤ 9999) :
    (∀ ρ', noffer ρ f b = some ρ' → fX7_offerOn (zw h I) m a (nI f) (nI b) = some (0, zw h (zz I a (nr ρ')))) ∧ (noffer ρ f b = none → ∃ ρ', fX7_offerOn (zw h I) m a (nI f) (nI b) = some (3, zw h (zz I a (nr ρ')))) := by
  have hin : ((1 : Int32) ≤ nI b ∧ nI b ≤ 9999) := ⟨(nI_leI (a := 1) (by omega) (by omega)).mpr hb1, (nI_leI (b := 9999) (by omega) (by omega)).mpr hb2⟩
  have hot := nok_time ho ht
  have hc := ho.1
  have start : fX7_offerOn (zw h I) m a (nI f) (nI b) = (zaI (zw h I) a 0).bind fun w7 => if w7 = 0 then some (3, zw h I) else (zaI (zw h I) a (40 + nI f)).bind fun w9 => if w9 = 1 then some (3, zw h I) else (zaI (zw h I) a 1).bind fun w11 => (zbI (zw h I) a 1 (w11 + 1)).bind fun h12 => (fX7_dropForm h12 a 0 (nI f)).bind fun h13 => zb2 (fX7_makeRoom h13 a (nI b) 0 1) fun w14 h15 => if w14 = 0 then some (3, h15) else (fX7_putForm h15 a 0 (nI f) (nI b) 0 1).bind fun h17 => some (0, h17) := by
    unfold fX7_offerOn
    rw [zw_kd, if_pos hm, m_isFormat hm h4 hnf, if_neg (in_no hf (by omega) rfl), zb2_some, if_neg (by decide), p_in9999, if_pos hin, zb2_some, if_neg (by decide)]
  rw [start]
  have same : zz I a (nr ρ) = I := by rw [← hI]; exact zz_self _ _
  unfold noffer
  by_cases c1 : ρ 0 = 0
  · rw [if_pos (Or.inl c1)]
    refine ⟨fun ρ' q => (by cases q), fun _ => ⟨ρ, ?_⟩⟩
    rw [same]
    simp (disch := first | assumption | omega) only [nl, nI_add, pk_mul, Option.bind_some, zb2_some, zz_at, zz_zz, zz_ne, nr_at, up_n, zaIw, zbIw, zgIw, zpIw, nI_le_t, nI_le_f, nI_lt_t, nI_lt_f, nI_eq_t, nI_eq_f, ↓reduceIte, zw_kd, zw_ln, zw_P, zw_I, nI_n9, Nat.add_zero, hI, c1]
  · by_cases c2 : ρ (40 + f) = 1
    · rw [if_pos (Or.inr c2)]
      refine ⟨fun ρ' q => (by cases q), fun _ => ⟨ρ, ?_⟩⟩
      rw [same]
      simp (disch := first | assumption | omega) only [nl, nI_add, pk_mul, Option.bind_some, zb2_some, zz_at, zz_zz, zz_ne, nr_at, up_n, zaIw, zbIw, zgIw, zpIw, nI_le_t, nI_le_f, nI_lt_t, nI_lt_f, nI_eq_t, nI_eq_f, ↓reduceIte, zw_kd, zw_ln, zw_P, zw_I, nI_n9, Nat.add_zero, hI, c2]
    · rw [if_neg (fun z => z.elim c1 c2)]
      have k0 := (ho.2.2.2.2 0 (by omega)).1 f (by omega)
      have k1 : ρ (40 + f) ≤ 2 := k0.1
      have e0 : va_up ρ 1 (ρ 1 + 1) 0 = ρ 0 := rfl
      have ndo := nok_df hot (e := 0) (f := f) (by rw [e0]; omega) (by omega)
      have df := n_dropForm (I := zz I a (nr (va_up ρ 1 (ρ 1 + 1)))) (ρ := va_up ρ 1 (ρ 1 + 1)) (e := 0) (f := f) hk hl zz_at (by omega) (by omega)
      rw [zz_zz] at df
      cases hr : nroom b 0 true (ndf (va_up ρ 1 (ρ 1 + 1)) 0 f) with
      | none =>
        refine ⟨fun ρ' q => (by cases q), fun _ => ?_⟩
        obtain ⟨ρ3, e⟩ := n_makeRoom_no (h := h) (I := zz I a (nr (ndf (va_up ρ 1 (ρ 1 + 1)) 0 f))) (a := a) (b := b) (but := 0) (bb := nI 0) (et := true) (ei := nI 1) hk hl (nbut_at (by omega)) (by omega) rfl zz_at ndo hr
        rw [zz_zz] at e
        refine ⟨ρ3, ?_⟩
        simp (disch := first | assumption | omega) only [nl, nI_add, pk_mul, Option.bind_some, zb2_some, zz_at, zz_zz, zz_ne, nr_at, up_n, zaIw, zbIw, zgIw, zpIw, nI_le_t, nI_le_f, nI_lt_t, nI_lt_f, nI_eq_t, nI_eq_f, ↓reduceIte, zw_kd, zw_ln, zw_P, zw_I, nI_n9, Nat.add_zero, hI, df, e]
      | some ρ3 =>
        refine ⟨fun ρ' q => ?_, fun q => (by cases q)⟩
        cases q
        have e := n_makeRoom_ok (h := h) (I := zz I a (nr (ndf (va_up ρ 1 (ρ 1 + 1)) 0 f))) (a := a) (b := b) (but := 0) (bb := nI 0) (et := true) (ei := nI 1) hk hl (nbut_at (by omega)) (by omega) rfl zz_at ndo hr
        rw [zz_zz] at e
        have pf := n_putForm (I := zz I a (nr ρ3)) (ρ := ρ3) (e := 0) (f := f) (b := b) (l := 0) (k := 1) hk hl zz_at (by omega) (by omega)
        rw [zz_zz] at pf
        simp (disch := first | assumption | omega) only [nl, nI_add, pk_mul, Option.bind_some, zb2_some, zz_at, zz_zz, zz_ne, nr_at, up_n, zaIw, zbIw, zgIw, zpIw, nI_le_t, nI_le_f, nI_lt_t, nI_lt_f, nI_eq_t, nI_eq_f, ↓reduceIte, zw_kd, zw_ln, zw_P, zw_I, nI_n9, Nat.add_zero, hI, df, e, pf]
theorem n_front_L {e : Nat} {u2 u3 u4 : Int32} (hk : zkd h a = 9) (hl : zln h a = 360) (hc : e < 12) (k : zH → Int32 → Option (Int32 × zH)) : ∀ d n, d ≤ 28 * e → d < n → fX7_pasteOn_L168 k m a u2 u3 u4 n (zw h (zz I a (nr (va_cpy ρ ρ (24 + d) (52 + d) (28 * e - d))))) (nI (24 + d) - 1) = k (zw h (zz I a (nr (va_cpy ρ ρ 24 52 (28 * e))))) (nI 23) := by
  intro d
  induction d with
  | zero =>
    intro n hd hn
    obtain ⟨n, rfl⟩ := fuel1 hn
    rw [fX7_pasteOn_L168, show nI (24 + 0) - 1 = nI 23 from nI_pred 23, if_pos (by decide)]
    rfl
  | succ d ih =>
    intro n hd hn
    obtain ⟨n, rfl⟩ := fuel1 hn
    have goal := ih n (by omega) (by omega)
    rw [fX7_pasteOn_L168, show nI (24 + (d + 1)) - 1 = nI (24 + d) from nI_pred (24 + d), if_neg (by rw [show (24 : Int32) = nI 24 from rfl, nI_ltI (by omega) (by omega)]; omega), n_rd (ρ := va_cpy ρ ρ (24 + (d + 1)) (52 + (d + 1)) (28 * e - (d + 1))) hk hl zz_at (j := 24 + d) (by omega) rfl, Option.bind_some, pk_cpy_out (by omega), show (28 : Int32) = nI 28 from rfl, nI_add, n_wr (ρ := va_cpy ρ ρ (24 + (d + 1)) (52 + (d + 1)) (28 * e - (d + 1))) hk hl zz_at (j := 24 + d + 28) (by omega) rfl rfl, Option.bind_some, zz_zz, show 24 + d + 28 = 52 + d by omega]
    rw [show va_up (va_cpy ρ ρ (24 + (d + 1)) (52 + (d + 1)) (28 * e - (d + 1))) (52 + d) (ρ (24 + d)) = va_cpy ρ ρ (24 + d) (52 + d) (28 * e - d) from by
      have := cpy_pred (f := ρ) (g := ρ) (sp := 24 + d) (dp := 52 + d) (n := 28 * e - (d + 1))
      rw [show 28 * e - (d + 1) + 1 = 28 * e - d by omega] at this
      exact this]
    rw [show nI (24 + d) + (-1) = nI (24 + d) - 1 from (Int32.sub_eq_add_neg _ _).symm]
    exact goal
end OFFER
