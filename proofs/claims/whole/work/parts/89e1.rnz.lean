/-! pure: refused tries leave rows that end in zeros -/
section RNZ
variable {h : zH} {I : Nat → Nat → Int32} {m a nf : Nat} {ρ : zN'}
theorem n_copyOnZ {f b : Nat} (hm : zkd h m = 8) (h4 : I m 4 = nI nf) (hnf : nf ≤ 8) (hk : zkd h a = 9) (hl : zln h a = 360) (hI : I a = nr ρ) (ho : nok ρ) (hz : rz ρ) (ht : ρ 1 + 1 < 10000) (hf : f < nf) (hb1 : 1 ≤ b) (hb2 : b ≤ 9999) :
    (∀ ρ', ncopy ρ f b = some ρ' → fX7_copyOn (zw h I) m a (nI f) (nI b) = some (0, zw h (zz I a (nr ρ')))) ∧ (ncopy ρ f b = none → ∃ ρ', fX7_copyOn (zw h I) m a (nI f) (nI b) = some (3, zw h (zz I a (nr ρ'))) ∧ rz ρ') := by
  have hin : ((1 : Int32) ≤ nI b ∧ nI b ≤ 9999) := ⟨(nI_leI (a := 1) (by omega) (by omega)).mpr hb1, (nI_leI (b := 9999) (by omega) (by omega)).mpr hb2⟩
  have hot := nok_time ho ht
  have start : fX7_copyOn (zw h I) m a (nI f) (nI b) = (if nI (ρ 0) = 12 then
      zb2 (fX7_heaviest (zw h (zz I a (nr (va_up ρ 1 (ρ 1 + 1))))) a (-9)) fun w11 h12 =>
      if w11 = -9 then some (3, h12) else
      (fX7_drop h12 a w11).bind fun h14 => zb2 (fX7_makeRoom h14 a (nI b) (-9) 1) fun w15 h16 =>
      if w15 = 0 then some (3, h16) else (fX7_insert h16 a).bind (fun h26 => (fX7_putForm h26 a 0 (nI f) (nI b) 0 1).bind fun h27 => (zaI h27 a 1).bind fun w28 => (zbI h27 a 50 w28).bind fun h29 => (zbI h29 a 51 (-9)).bind fun h30 => some ((0 : Int32), h30))
      else zb2 (fX7_makeRoom (zw h (zz I a (nr (va_up ρ 1 (ρ 1 + 1))))) a (nI b) (-9) 1) fun w23 h24 =>
      if w23 = 0 then some (3, h24) else (fX7_insert h24 a).bind (fun h26 => (fX7_putForm h26 a 0 (nI f) (nI b) 0 1).bind fun h27 => (zaI h27 a 1).bind fun w28 => (zbI h27 a 50 w28).bind fun h29 => (zbI h29 a 51 (-9)).bind fun h30 => some ((0 : Int32), h30))) := by
    unfold fX7_copyOn
    rw [zw_kd, if_pos hm, m_isFormat hm h4 hnf, if_neg (in_no hf (by omega) rfl), zb2_some, if_neg (by decide), p_in9999, if_pos hin, zb2_some, if_neg (by decide), n_rd (x := 1) hk hl hI (j := 1) (by omega) rfl, Option.bind_some, nI_1, n_wr (x := 1) hk hl hI (j := 1) (by omega) rfl rfl, Option.bind_some, n_rd (x := 0) (ρ := va_up ρ 1 (ρ 1 + 1)) hk hl zz_at (j := 0) (by omega) rfl, Option.bind_some]
    rfl
  rw [start]
  have hc := ho.1
  have fin : ∀ (ρ2 : zN') (J : Nat → Nat → Int32), J a = nr ρ2 → nok ρ2 → rz ρ2 → ρ2 0 < 12 → (∀ ρ', (nroom b 99 true ρ2).map (fun ρ => ncpf ρ f b) = some ρ' → zb2 (fX7_makeRoom (zw h J) a (nI b) (-9) 1) (fun w23 h24 => if w23 = 0 then some ((3 : Int32), h24) else (fX7_insert h24 a).bind (fun h26 => (fX7_putForm h26 a 0 (nI f) (nI b) 0 1).bind fun h27 => (zaI h27 a 1).bind fun w28 => (zbI h27 a 50 w28).bind fun h29 => (zbI h29 a 51 (-9)).bind fun h30 => some ((0 : Int32), h30))) = some (0, zw h (zz J a (nr ρ')))) ∧ ((nroom b 99 true ρ2).map (fun ρ => ncpf ρ f b) = none → ∃ ρ', zb2 (fX7_makeRoom (zw h J) a (nI b) (-9) 1) (fun w23 h24 => if w23 = 0 then some ((3 : Int32), h24) else (fX7_insert h24 a).bind (fun h26 => (fX7_putForm h26 a 0 (nI f) (nI b) 0 1).bind fun h27 => (zaI h27 a 1).bind fun w28 => (zbI h27 a 50 w28).bind fun h29 => (zbI h29 a 51 (-9)).bind fun h30 => some ((0 : Int32), h30))) = some (3, zw h (zz J a (nr ρ'))) ∧ rz ρ') := by
    intro ρ2 J hJ ho2 hz2 hc2
    cases hr : nroom b 99 true ρ2 with
    | none =>
      refine ⟨fun ρ' q => (by cases q), fun _ => ?_⟩
      obtain ⟨ρ3, e, ez⟩ := n_makeRoom_nz (h := h) (I := J) (a := a) (ρ := ρ2) (b := b) (but := 99) (bb := -9) (et := true) (ei := 1) hk hl nbut_none (by omega) rfl hJ ho2 hz2 hr
      exact ⟨ρ3, by rw [e, zb2_some, if_pos rfl], ez⟩
    | some ρ3 =>
      refine ⟨fun ρ' q => ?_, fun q => (by cases q)⟩
      cases q
      have e := n_makeRoom_ok (h := h) (I := J) (a := a) (ρ := ρ2) (b := b) (but := 99) (bb := -9) (et := true) (ei := 1) hk hl nbut_none (by omega) rfl hJ ho2 hr
      have kp := nroom_keep ho2 hr
      rw [e, zb2_some, if_neg (by decide)]
      have t := n_cptail (h := h) (I := zz J a (nr ρ3)) (a := a) (ρ := ρ3) (b := b) (f := f) (ρ' := ρ3) hk hl zz_at (by omega) (by omega)
      rw [zz_zz] at t
      exact t
  unfold ncopy ncp0
  have e0 : va_up ρ 1 (ρ 1 + 1) 0 = ρ 0 := rfl
  rw [e0]
  by_cases c : ρ 0 = 12
  · rw [if_pos (show nI (ρ 0) = 12 by rw [c]; rfl), if_pos c]
    have ehv := n_heaviest (h := h) (I := zz I a (nr (va_up ρ 1 (ρ 1 + 1)))) (a := a) (ρ := va_up ρ 1 (ρ 1 + 1)) (but := 99) (b := -9) hk hl zz_at hot nbut_none
    rw [e0, c] at ehv
    rw [ehv, zb2_some]
    cases hv : nhv (va_up ρ 1 (ρ 1 + 1)) 99 12 with
    | none =>
      refine ⟨fun ρ' q => (by cases q), fun _ => ⟨va_up ρ 1 (ρ 1 + 1), ?_, rz_up hz (by omega)⟩⟩
      rw [if_pos (show zon none = -9 from rfl)]
    | some e =>
      have g := nhv_lt hv
      have n9 : ¬ zon (some e) = -9 := fun z => by
        have h1 := congrArg Int32.toInt (show nI e = -9 from z)
        rw [nI_toInt (by omega)] at h1
        have h2 : (-9 : Int32).toInt = -9 := rfl
        omega
      rw [if_neg n9]
      have ed := n_drop (h := h) (I := zz I a (nr (va_up ρ 1 (ρ 1 + 1)))) (a := a) (ρ := va_up ρ 1 (ρ 1 + 1)) (e := e) hk hl zz_at (by rw [e0]; omega) (by rw [e0]; omega)
      rw [e0, c, zz_zz] at ed
      show (∀ ρ', _ → (fX7_drop (zw h (zz I a (nr (va_up ρ 1 (ρ 1 + 1))))) a (nI e)).bind _ = _) ∧ (_ → ∃ ρ', (fX7_drop (zw h (zz I a (nr (va_up ρ 1 (ρ 1 + 1))))) a (nI e)).bind _ = _ ∧ rz ρ')
      rw [ed, Option.bind_some]
      have q := nok_drop hot (e := e) (by rw [e0]; omega)
      rw [e0, c] at q
      have := fin (ndrop (va_up ρ 1 (ρ 1 + 1)) 12 e) (zz I a (nr (ndrop (va_up ρ 1 (ρ 1 + 1)) 12 e))) zz_at q (rz_drop (rz_up hz (by omega)) g.1 (by omega)) (by rw [ndrop_hd g.1 (by omega), if_pos rfl]; omega)
      simp only [zz_zz] at this
      exact this
  · have c12 : ¬ nI (ρ 0) = 12 := fun z => c ((nI_eq (by omega) (by omega)).mp (show nI (ρ 0) = nI 12 from z))
    rw [if_neg c12, if_neg c]
    have := fin (va_up ρ 1 (ρ 1 + 1)) (zz I a (nr (va_up ρ 1 (ρ 1 + 1)))) zz_at hot (rz_up hz (by omega)) (by rw [e0]; omega)
    simp only [zz_zz] at this
    exact this
theorem n_offerOnZ {f b : Nat} (hm : zkd h m = 8) (h4 : I m 4 = nI nf) (hnf : nf ≤ 8) (hk : zkd h a = 9) (hl : zln h a = 360) (hI : I a = nr ρ) (ho : nok ρ) (hz : rz ρ) (ht : ρ 1 + 1 < 10000) (hf : f < nf) (hb1 : 1 ≤ b) (hb2 : b ≤ 9999) :
    (∀ ρ', noffer ρ f b = some ρ' → fX7_offerOn (zw h I) m a (nI f) (nI b) = some (0, zw h (zz I a (nr ρ')))) ∧ (noffer ρ f b = none → ∃ ρ', fX7_offerOn (zw h I) m a (nI f) (nI b) = some (3, zw h (zz I a (nr ρ'))) ∧ rz ρ') := by
  have hin : ((1 : Int32) ≤ nI b ∧ nI b ≤ 9999) := ⟨(nI_leI (a := 1) (by omega) (by omega)).mpr hb1, (nI_leI (b := 9999) (by omega) (by omega)).mpr hb2⟩
  have hot := nok_time ho ht
  have hc := ho.1
  have start : fX7_offerOn (zw h I) m a (nI f) (nI b) = (zaI (zw h I) a 0).bind fun w7 => if w7 = 0 then some (3, zw h I) else (zaI (zw h I) a (40 + nI f)).bind fun w9 => if w9 = 1 then some (3, zw h I) else (zaI (zw h I) a 1).bind fun w11 => (zbI (zw h I) a 1 (w11 + 1)).bind fun h12 => (fX7_dropForm h12 a 0 (nI f)).bind fun h13 => zb2 (fX7_makeRoom h13 a (nI b) 0 1) fun w14 h15 => if w14 = 0 then some (3, h15) else (fX7_putForm h15 a 0 (nI f) (nI b) 0 1).bind fun h17 => some (0, h17) := by
    unfold fX7_offerOn
    rw [zw_kd, if_pos hm, m_isFormat hm h4 hnf, if_neg (in_no hf (by omega) rfl), zb2_some, if_neg (by decide), p_in9999, if_pos hin, zb2_some, if_neg (by decide)]
  rw [start]
  have same : zz I a (nr ρ) = I := by rw [← hI]; exact zz_self _ _
  unfold noffer
  by_cases c1 : ρ 0 = 0
  · rw [if_pos (Or.inl c1)]
    refine ⟨fun ρ' q => (by cases q), fun _ => ⟨ρ, ?_, hz⟩⟩
    rw [same]
    simp (disch := first | assumption | omega) only [nl, nI_add, pk_mul, Option.bind_some, zb2_some, zz_at, zz_zz, zz_ne, nr_at, up_n, zaIw, zbIw, zgIw, zpIw, nI_le_t, nI_le_f, nI_lt_t, nI_lt_f, nI_eq_t, nI_eq_f, ↓reduceIte, zw_kd, zw_ln, zw_P, zw_I, nI_n9, Nat.add_zero, hI, c1]
  · by_cases c2 : ρ (40 + f) = 1
    · rw [if_pos (Or.inr c2)]
      refine ⟨fun ρ' q => (by cases q), fun _ => ⟨ρ, ?_, hz⟩⟩
      rw [same]
      simp (disch := first | assumption | omega) only [nl, nI_add, pk_mul, Option.bind_some, zb2_some, zz_at, zz_zz, zz_ne, nr_at, up_n, zaIw, zbIw, zgIw, zpIw, nI_le_t, nI_le_f, nI_lt_t, nI_lt_f, nI_eq_t, nI_eq_f, ↓reduceIte, zw_kd, zw_ln, zw_P, zw_I, nI_n9, Nat.add_zero, hI, c2]
    · rw [if_neg (fun z => z.elim c1 c2)]
      have k0 := (ho.2.2.2.2 0 (by omega)).1 f (by omega)
      have k1 : ρ (40 + f) ≤ 2 := k0.1
      have e0 : va_up ρ 1 (ρ 1 + 1) 0 = ρ 0 := rfl
      have ndo := nok_df hot (e := 0) (f := f) (by rw [e0]; omega) (by omega)
      have df := n_dropForm (I := zz I a (nr (va_up ρ 1 (ρ 1 + 1)))) (ρ := va_up ρ 1 (ρ 1 + 1)) (e := 0) (f := f) hk hl zz_at (by omega) (by omega)
      rw [zz_zz] at df
      cases hr : nroom b 0 true (ndf (va_up ρ 1 (ρ 1 + 1)) 0 f) with
      | none =>
        refine ⟨fun ρ' q => (by cases q), fun _ => ?_⟩
        obtain ⟨ρ3, e, ez⟩ := n_makeRoom_nz (h := h) (I := zz I a (nr (ndf (va_up ρ 1 (ρ 1 + 1)) 0 f))) (a := a) (b := b) (but := 0) (bb := nI 0) (et := true) (ei := nI 1) hk hl (nbut_at (by omega)) (by omega) rfl zz_at ndo (rz_df (rz_up hz (by omega)) (by omega) (by omega)) hr
        rw [zz_zz] at e
        refine ⟨ρ3, ?_, ez⟩
        simp (disch := first | assumption | omega) only [nl, nI_add, pk_mul, Option.bind_some, zb2_some, zz_at, zz_zz, zz_ne, nr_at, up_n, zaIw, zbIw, zgIw, zpIw, nI_le_t, nI_le_f, nI_lt_t, nI_lt_f, nI_eq_t, nI_eq_f, ↓reduceIte, zw_kd, zw_ln, zw_P, zw_I, nI_n9, Nat.add_zero, hI, df, e]
      | some ρ3 =>
        refine ⟨fun ρ' q => ?_, fun q => (by cases q)⟩
        cases q
        have e := n_makeRoom_ok (h := h) (I := zz I a (nr (ndf (va_up ρ 1 (ρ 1 + 1)) 0 f))) (a := a) (b := b) (but := 0) (bb := nI 0) (et := true) (ei := nI 1) hk hl (nbut_at (by omega)) (by omega) rfl zz_at ndo hr
        rw [zz_zz] at e
        have pf := n_putForm (I := zz I a (nr ρ3)) (ρ := ρ3) (e := 0) (f := f) (b := b) (l := 0) (k := 1) hk hl zz_at (by omega) (by omega)
        rw [zz_zz] at pf
        simp (disch := first | assumption | omega) only [nl, nI_add, pk_mul, Option.bind_some, zb2_some, zz_at, zz_zz, zz_ne, nr_at, up_n, zaIw, zbIw, zgIw, zpIw, nI_le_t, nI_le_f, nI_lt_t, nI_lt_f, nI_eq_t, nI_eq_f, ↓reduceIte, zw_kd, zw_ln, zw_P, zw_I, nI_n9, Nat.add_zero, hI, df, e, pf]
end RNZ
