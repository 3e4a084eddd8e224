/-! pure: copy and offer on rows -/
theorem nmk_keep {b but : Nat} {et : Bool} : ∀ n (ρ : zN') ok ρ', nok ρ → nmk b but et n ρ = some (ok, ρ') → nok ρ' ∧ ρ' 0 ≤ ρ 0 ∧ ∀ j, 0 < j → j < 24 → ρ' j = ρ j := by
  intro n
  induction n with
  | zero => intro ρ ok ρ' _ h; cases h
  | succ n ih =>
    intro ρ ok ρ' ho hm
    unfold nmk at hm
    by_cases c : nus ρ (ρ 0) + b ≤ ρ 3
    · rw [if_pos c] at hm
      cases hm
      exact ⟨ho, Nat.le_refl _, fun _ _ _ => rfl⟩
    · rw [if_neg c] at hm
      cases hq : nlg ρ but with
      | some ef =>
        obtain ⟨e, f⟩ := ef
        rw [hq] at hm
        obtain ⟨g1, g2, -⟩ := nlg_some hq
        obtain ⟨k1, k2, k3⟩ := ih _ ok ρ' (nok_df ho g1 g2) hm
        have hd : ∀ j, j < 24 → ndf ρ e f j = ρ j := fun j hj => by rw [ndf_at, if_neg (by omega)]
        exact ⟨k1, by rw [hd 0 (by omega)] at k2; exact k2, fun j h1 h2 => by rw [k3 j h1 h2, hd j h2]⟩
      | none =>
        rw [hq] at hm
        by_cases ce : et = true
        · simp only [ce, if_true] at hm
          cases hv : nhv ρ but (ρ 0) with
          | none => rw [hv] at hm; cases hm; exact ⟨ho, Nat.le_refl _, fun _ _ _ => rfl⟩
          | some e =>
            rw [hv] at hm
            have g := nhv_lt hv
            rw [ce] at ih
            obtain ⟨k1, k2, k3⟩ := ih _ ok ρ' (nok_drop ho g.1) hm
            refine ⟨k1, ?_, fun j h1 h2 => ?_⟩
            · rw [ndrop_hd g.1 (by omega), if_pos rfl] at k2; omega
            · rw [k3 j h1 h2, ndrop_hd g.1 h2, if_neg (by omega)]
        · simp only [ce] at hm
          cases hm
          exact ⟨ho, Nat.le_refl _, fun _ _ _ => rfl⟩
theorem nroom_keep {b but : Nat} {et : Bool} {ρ ρ' : zN'} (ho : nok ρ) (h : nroom b but et ρ = some ρ') : nok ρ' ∧ ρ' 0 ≤ ρ 0 ∧ ∀ j, 0 < j → j < 24 → ρ' j = ρ j := by
  unfold nroom at h
  split at h
  · next hq => cases h; exact nmk_keep _ _ _ _ ho hq
  · cases h
theorem nok_time {ρ : zN'} (ho : nok ρ) (ht : ρ 1 + 1 < 10000) : nok (va_up ρ 1 (ρ 1 + 1)) := by
  obtain ⟨h0, h1, h2, h3, h4⟩ := ho
  have e : ∀ j, j ≠ 1 → va_up ρ 1 (ρ 1 + 1) j = ρ j := fun j hj => if_neg hj
  have e1 : va_up ρ 1 (ρ 1 + 1) 1 = ρ 1 + 1 := rfl
  refine ⟨h0, ht, h2, h3, fun i hi => ?_⟩
  exact eok_en (i' := i) (by rw [e1]; omega) (fun k hk => e _ (by omega)) (h4 i hi)
def ncp0 (ρ : zN') : Option zN' := if ρ 0 = 12 then (nhv ρ 99 12).map (fun e => ndrop ρ 12 e) else some ρ
def ncpf (ρ : zN') (f b : Nat) : zN' := va_up (va_up (npf (nins ρ) 0 f b 0 1) 50 (ρ 1)) 51 4294967287
def ncopy (ρ : zN') (f b : Nat) : Option zN' := ((ncp0 (va_up ρ 1 (ρ 1 + 1))).bind (nroom b 99 true)).map (fun ρ => ncpf ρ f b)
theorem ncp0_ok {ρ ρ' : zN'} (ho : nok ρ) (h : ncp0 ρ = some ρ') : nok ρ' ∧ ρ' 0 < 12 ∧ ρ' 0 ≤ ρ 0 ∧ ∀ j, 0 < j → j < 24 → ρ' j = ρ j := by
  unfold ncp0 at h
  by_cases c : ρ 0 = 12
  · rw [if_pos c] at h
    cases hv : nhv ρ 99 12 with
    | none => rw [hv] at h; cases h
    | some e =>
      rw [hv] at h
      have h : some (ndrop ρ 12 e) = some ρ' := h
      cases h
      have g := nhv_lt hv
      have q := nok_drop ho (e := e) (by omega)
      rw [c] at q
      refine ⟨q, by rw [ndrop_hd g.1 (by omega), if_pos rfl]; omega, by rw [ndrop_hd g.1 (by omega), if_pos rfl]; omega, fun j h1 h2 => by rw [ndrop_hd g.1 h2, if_neg (by omega)]⟩
  · rw [if_neg c] at h
    cases h
    exact ⟨ho, by have := ho.1; omega, Nat.le_refl _, fun _ _ _ => rfl⟩
section ACTS
variable {h : zH} {I : Nat → Nat → Int32} {m a nf : Nat} {ρ : zN'}
theorem m_isFormat (hm : zkd h m = 8) (h4 : I m 4 = nI nf) (hnf : nf ≤ 8) (x : Int32) : fX7_isFormat (zw h I) m x = some (if x < 0 ∨ nI nf ≤ x then 0 else 1, zw h I) := by
  unfold fX7_isFormat
  rw [zw_kd, if_pos hm, zgIw hm, Option.bind_some, h4, p_in0 _ _ (by omega), zb2_some]
  by_cases e : x < 0 ∨ nI nf ≤ x
  · rw [if_pos e, if_pos (Or.inl rfl)]
  · rw [if_neg e, if_pos (Or.inr rfl)]
theorem in_no {x : Int32} {n j : Nat} (hj : j < n) (hn : n < 2 ^ 31) (hx : x = nI j) : ¬ (x < 0 ∨ nI n ≤ x) := by
  subst hx
  intro q
  rcases q with q | q
  · exact nI_pos (by omega) q
  · have := (nI_leI (by omega) (by omega)).mp q; omega
theorem p_in9999 (h : zH) (s : Int32) : fX7_in h s.toInt64 1 9999 = some (if 1 ≤ s ∧ s ≤ 9999 then 1 else 0, h) := p_in h s 1 9999
theorem n_cptail {b f : Nat} {ρ' : zN'} (hk : zkd h a = 9) (hl : zln h a = 360) (hI : I a = nr ρ) (hc : ρ 0 < 12) (hf : f < 8) : (fX7_insert (zw h I) a).bind (fun h26 => (fX7_putForm h26 a 0 (nI f) (nI b) 0 1).bind fun h27 => (zaI h27 a 1).bind fun w28 => (zbI h27 a 50 w28).bind fun h29 => (zbI h29 a 51 (-9)).bind fun h30 => some ((0 : Int32), h30)) = some (0, zw h (zz I a (nr (ncpf ρ f b)))) := by
  rw [n_insert hk hl hI hc, Option.bind_some]
  have e1 := n_putForm (h := h) (I := zz I a (nr (nins ρ))) (a := a) (ρ := nins ρ) (e := 0) (f := f) (b := b) (l := 0) (k := 1) hk hl zz_at (by omega) hf
  rw [show (nI 0) = (0 : Int32) from rfl, show (nI 1) = (1 : Int32) from rfl, zz_zz] at e1
  rw [e1, Option.bind_some, n_rd (x := 1) (ρ := npf (nins ρ) 0 f b 0 1) hk hl zz_at (j := 1) (by omega) rfl, Option.bind_some, n_wr (x := 50) (ρ := npf (nins ρ) 0 f b 0 1) hk hl zz_at (j := 50) (by omega) rfl rfl, Option.bind_some, zz_zz]
  have e2 := n_wr (h := h) (I := zz I a (nr (va_up (npf (nins ρ) 0 f b 0 1) 50 (npf (nins ρ) 0 f b 0 1 1)))) (a := a) (x := 51) (y := -9) (j := 51) (v := 4294967287) hk hl zz_at (by omega) rfl (by decide)
  rw [e2, Option.bind_some, zz_zz]
  have e3 : npf (nins ρ) 0 f b 0 1 1 = ρ 1 := by
    rw [npf_at, if_neg (by omega), if_neg (by omega), if_neg (by omega), nins_hd (by omega), if_neg (by omega)]
  rw [e3]
  rfl
theorem n_copyOn {f b : Nat} (hm : zkd h m = 8) (h4 : I m 4 = nI nf) (hnf : nf ≤ 8) (hk : zkd h a = 9) (hl : zln h a = 360) (hI : I a = nr ρ) (ho : nok ρ) (ht : ρ 1 + 1 < 10000) (hf : f < nf) (hb1 : 1 ≤ b) (hb2 : b ≤ 9999) :
    (∀ ρ', ncopy ρ f b = some ρ' → fX7_copyOn (zw h I) m a (nI f) (nI b) = some (0, zw h (zz I a (nr ρ')))) ∧ (ncopy ρ f b = none → ∃ ρ', fX7_copyOn (zw h I) m a (nI f) (nI b) = some (3, zw h (zz I a (nr ρ')))) := by
  have hin : ((1 : Int32) ≤ nI b ∧ nI b ≤ 9999) := ⟨(nI_leI (a := 1) (by omega) (by omega)).mpr hb1, (nI_leI (b := 9999) (by omega) (by omega)).mpr hb2⟩
  have hot := nok_time ho ht
  have start : fX7_copyOn (zw h I) m a (nI f) (nI b) = (if nI (ρ 0) = 12 then
      zb2 (fX7_heaviest (zw h (zz I a (nr (va_up ρ 1 (ρ 1 + 1))))) a (-9)) fun w11 h12 =>
      if w11 = -9 then some (3, h12) else
      (fX7_drop h12 a w11).bind fun h14 => zb2 (fX7_makeRoom h14 a (nI b) (-9) 1) fun w15 h16 =>
      if w15 = 0 then some (3, h16) else (fX7_insert h16 a).bind (fun h26 => (fX7_putForm h26 a 0 (nI f) (nI b) 0 1).bind fun h27 => (zaI h27 a 1).bind fun w28 => (zbI h27 a 50 w28).bind fun h29 => (zbI h29 a 51 (-9)).bind fun h30 => some ((0 : Int32), h30))
      else zb2 (fX7_makeRoom (zw h (zz I a (nr (va_up ρ 1 (ρ 1 + 1))))) a (nI b) (-9) 1) fun w23 h24 =>
      if w23 = 0 then some (3, h24) else (fX7_insert h24 a).bind (fun h26 => (fX7_putForm h26 a 0 (nI f) (nI b) 0 1).bind fun h27 => (zaI h27 a 1).bind fun w28 => (zbI h27 a 50 w28).bind fun h29 => (zbI h29 a 51 (-9)).bind fun h30 => some ((0 : Int32), h30))) := by
    unfold fX7_copyOn
    rw [zw_kd, if_pos hm, m_isFormat hm h4 hnf, if_neg (in_no hf (by omega) rfl), zb2_some, if_neg (by decide), p_in9999, if_pos hin, zb2_some, if_neg (by decide), n_rd (x := 1) hk hl hI (j := 1) (by omega) rfl, Option.bind_some, nI_1, n_wr (x := 1) hk hl hI (j := 1) (by omega) rfl rfl, Option.bind_some, n_rd (x := 0) (ρ := va_up ρ 1 (ρ 1 + 1)) hk hl zz_at (j := 0) (by omega) rfl, Option.bind_some]
    rfl
  rw [start]
  have hc := ho.1
  have fin : ∀ (ρ2 : zN') (J : Nat → Nat → Int32), J a = nr ρ2 → nok ρ2 → ρ2 0 < 12 → (∀ ρ', (nroom b 99 true ρ2).map (fun ρ => ncpf ρ f b) = some ρ' → zb2 (fX7_makeRoom (zw h J) a (nI b) (-9) 1) (fun w23 h24 => if w23 = 0 then some ((3 : Int32), h24) else (fX7_insert h24 a).bind (fun h26 => (fX7_putForm h26 a 0 (nI f) (nI b) 0 1).bind fun h27 => (zaI h27 a 1).bind fun w28 => (zbI h27 a 50 w28).bind fun h29 => (zbI h29 a 51 (-9)).bind fun h30 => some ((0 : Int32), h30))) = some (0, zw h (zz J a (nr ρ')))) ∧ ((nroom b 99 true ρ2).map (fun ρ => ncpf ρ f b) = none → ∃ ρ', zb2 (fX7_makeRoom (zw h J) a (nI b) (-9) 1) (fun w23 h24 => if w23 = 0 then some ((3 : Int32), h24) else (fX7_insert h24 a).bind (fun h26 => (fX7_putForm h26 a 0 (nI f) (nI b) 0 1).bind fun h27 => (zaI h27 a 1).bind fun w28 => (zbI h27 a 50 w28).bind fun h29 => (zbI h29 a 51 (-9)).bind fun h30 => some ((0 : Int32), h30))) = some (3, zw h (zz J a (nr ρ')))) := by
    intro ρ2 J hJ ho2 hc2
    cases hr : nroom b 99 true ρ2 with
    | none =>
      refine ⟨fun ρ' q => (by cases q), fun _ => ?_⟩
      obtain ⟨ρ3, e⟩ := n_makeRoom_no (h := h) (I := J) (a := a) (ρ := ρ2) (b := b) (but := 99) (bb := -9) (et := true) (ei := 1) hk hl nbut_none (by omega) rfl hJ ho2 hr
      exact ⟨ρ3, by rw [e, zb2_some, if_pos rfl]⟩
    | some ρ3 =>
      refine ⟨fun ρ' q => ?_, fun q => (by cases q)⟩
      cases q
      have e := n_makeRoom_ok (h := h) (I := J) (a := a) (ρ := ρ2) (b := b) (but := 99) (bb := -9) (et := true) (ei := 1) hk hl nbut_none (by omega) rfl hJ ho2 hr
      have kp := nroom_keep ho2 hr
      rw [e, zb2_some, if_neg (by decide)]
      have t := n_cptail (h := h) (I := zz J a (nr ρ3)) (a := a) (ρ := ρ3) (b := b) (f := f) (ρ' := ρ3) hk hl zz_at (by omega) (by omega)
      rw [zz_zz] at t
      exact t
  unfold ncopy ncp0
  have e0 : va_up ρ 1 (ρ 1 + 1) 0 = ρ 0 := rfl
  rw [e0]
  by_cases c : ρ 0 = 12
  · rw [if_pos (show nI (ρ 0) = 12 by rw [c]; rfl), if_pos c]
    have ehv := n_heaviest (h := h) (I := zz I a (nr (va_up ρ 1 (ρ 1 + 1)))) (a := a) (ρ := va_up ρ 1 (ρ 1 + 1)) (but := 99) (b := -9) hk hl zz_at hot nbut_none
    rw [e0, c] at ehv
    rw [ehv, zb2_some]
    cases hv : nhv (va_up ρ 1 (ρ 1 + 1)) 99 12 with
    | none =>
      refine ⟨fun ρ' q => (by cases q), fun _ => ⟨va_up ρ 1 (ρ 1 + 1), ?_⟩⟩
      rw [if_pos (show zon none = -9 from rfl)]
    | some e =>
      have g := nhv_lt hv
      have n9 : ¬ zon (some e) = -9 := fun z => by
        have h1 := congrArg Int32.toInt (show nI e = -9 from z)
        rw [nI_toInt (by omega)] at h1
        have h2 : (-9 : Int32).toInt = -9 := rfl
        omega
      rw [if_neg n9]
      have ed := n_drop (h := h) (I := zz I a (nr (va_up ρ 1 (ρ 1 + 1)))) (a := a) (ρ := va_up ρ 1 (ρ 1 + 1)) (e := e) hk hl zz_at (by rw [e0]; omega) (by rw [e0]; omega)
      rw [e0, c, zz_zz] at ed
      show (∀ ρ', _ → (fX7_drop (zw h (zz I a (nr (va_up ρ 1 (ρ 1 + 1))))) a (nI e)).bind _ = _) ∧ (_ → ∃ ρ', (fX7_drop (zw h (zz I a (nr (va_up ρ 1 (ρ 1 + 1))))) a (nI e)).bind _ = _)
      rw [ed, Option.bind_some]
      have q := nok_drop hot (e := e) (by rw [e0]; omega)
      rw [e0, c] at q
      have := fin (ndrop (va_up ρ 1 (ρ 1 + 1)) 12 e) (zz I a (nr (ndrop (va_up ρ 1 (ρ 1 + 1)) 12 e))) zz_at q (by rw [ndrop_hd g.1 (by omega), if_pos rfl]; omega)
      simp only [zz_zz] at this
      exact this
  · have c12 : ¬ nI (ρ 0) = 12 := fun z => c ((nI_eq (by omega) (by omega)).mp (show nI (ρ 0) = nI 12 from z))
    rw [if_neg c12, if_neg c]
    have := fin (va_up ρ 1 (ρ 1 + 1)) (zz I a (nr (va_up ρ 1 (ρ 1 + 1)))) zz_at hot (by rw [e0]; omega)
    simp only [zz_zz] at this
    exact this
end ACTS
