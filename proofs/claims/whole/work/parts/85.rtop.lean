/-! pure: the reference's readText -/
theorem pconv_le {T : zN'} {n nf s p : Nat} {B : zBd} (hs : s ≤ n) (h : pconv T n nf B s = .inl p) : p ≤ n := by
  unfold pconv at h
  cases hd : dg T n s with
  | none => rw [hd] at h; cases h; exact hs
  | some a =>
    rw [hd] at h
    dsimp only at h
    obtain ⟨a1, -⟩ := dg_some hd
    split at h
    · cases hd2 : dg T n (s + 1) with
      | none => rw [hd2] at h; cases h; omega
      | some b =>
        rw [hd2] at h
        dsimp only at h
        obtain ⟨b1, -⟩ := dg_some hd2
        split at h
        · have n1 := pnum_ok (T := T) (n := n) (ab := true) 2 0 (s + 2) (by omega)
          cases hp1 : pnum T n true 2 0 (s + 2) with
          | mk o p1 =>
          rw [hp1] at h n1
          cases o with
          | none => cases h; exact n1.2.1
          | some cc =>
            dsimp only at h n1
            have n2 := pnum_ok (T := T) (n := n) (ab := true) 2 0 p1 n1.2.1
            cases hp2 : pnum T n true 2 0 p1 with
            | mk o p2 =>
            rw [hp2] at h n2
            cases o with
            | none => cases h; exact n2.2.1
            | some gg =>
              dsimp only at h n2
              have n3 := pnum_ok (T := T) (n := n) (ab := false) 1 0 p2 n2.2.1
              cases hp3 : pnum T n false 1 0 p2 with
              | mk o p3 =>
              rw [hp3] at h n3
              cases o with
              | none => cases h; exact n3.2.1
              | some ll => cases h
        · cases h; omega
    · cases h; exact hs
theorem pplace_le {T : zN'} {n nf s p : Nat} {B : zBd} (hn : nf ≤ 8) (hs : s ≤ n) (h : pplace T n nf B s = .inl p) : p ≤ n := by
  unfold pplace at h
  have ps := pset_ok (T := T) (n := n) hn 8 0 0 s hs (by decide) (by omega)
  cases hp : pset T n nf 8 0 0 s with
  | mk st q =>
  rw [hp] at h ps
  dsimp only at h ps
  split at h
  · cases h; exact ps.2.1
  · split at h
    · rename_i c2
      have n1 := pnum_ok (T := T) (n := n) (ab := true) 5 0 (q + 1) (by omega)
      cases hp1 : pnum T n true 5 0 (q + 1) with
      | mk o p1 =>
      rw [hp1] at h n1
      cases o with
      | none => cases h; exact n1.2.1
      | some v => cases h
    · cases h; exact ps.2.1
theorem pitem_le {T : zN'} {n nf s p : Nat} {B : zBd} (hn : nf ≤ 8) (hs : s < n) (h : pitem T n nf B s = .inl p) : p ≤ n := by
  unfold pitem at h
  split at h
  · split at h
    · exact pconv_le (by omega) h
    · cases h; omega
  · split at h
    · exact pplace_le hn (by omega) h
    · cases h; omega
theorem pitems_le {T : zN'} {n nf p : Nat} (hn : nf ≤ 8) : ∀ k B s, bkk nf B → s ≤ n → pitems T n nf k B s = some (.inl p) → p ≤ n := by
  intro k
  induction k with
  | zero => intro B s _ _ h; cases h
  | succ k ih =>
    intro B s hB hs h
    have e : pitems T n nf (k + 1) B s = if s < n then (match pitem T n nf B s with
      | .inl p => some (.inl p)
      | .inr (B', s') => pitems T n nf k B' s') else some (.inr B) := rfl
    rw [e] at h
    split at h
    · rename_i c
      cases hp : pitem T n nf B s with
      | inl p' =>
        rw [hp] at h
        cases h
        exact pitem_le hn c hp
      | inr w =>
        obtain ⟨B1, s1⟩ := w
        rw [hp] at h
        obtain ⟨k1, k2, k3⟩ := pitem_ok hn c hB hp
        exact ih B1 s1 k1 k3 h
    · cases h
theorem ptext_le {T : zN'} {n p : Nat} (hn : n ≤ 160) (h : ptext T n = .inl p) : p ≤ n := by
  unfold ptext at h
  split at h
  · cases hd : dg T n 1 with
    | none => rw [hd] at h; cases h; omega
    | some g =>
      rw [hd] at h
      dsimp only at h
      obtain ⟨d1, -⟩ := dg_some hd
      split at h
      · rename_i c2
        have n1 := pnum_ok (T := T) (n := n) (ab := true) 5 0 2 (by omega)
        cases hp1 : pnum T n true 5 0 2 with
        | mk o p1 =>
        rw [hp1] at h n1
        cases o with
        | none => cases h; exact n1.2.1
        | some v =>
          dsimp only at h n1
          cases hq : pitems T n g pfu bz p1 with
          | none => rw [hq] at h; cases h; omega
          | some r =>
            rw [hq] at h
            cases r with
            | inl e => cases h; exact pitems_le c2.2 pfu bz p1 (bkk_bz c2.2) n1.2.1 hq
            | inr B => cases h
      · cases h; omega
  · cases h; omega
section RTOP
variable {h g : zH} {m n s nf : Nat} {T : zN'} {B : zBd}
theorem r_items (ht : txt T n) (h1 : 1 ≤ nf) : ∀ k B s h fu, bkk nf B → RX h m T n s → RBr h m nf B → s ≤ n → k < fu →
    match pitems T n nf k B s with
    | none => True
    | some (.inl p) => ∃ h', fX7_readText_L91 (fun h24 => some (nI 4294967287, h24)) m fu h = some (nI p, h') ∧ RTF m h h'
    | some (.inr B') => ∃ h', fX7_readText_L91 (fun h24 => some (nI 4294967287, h24)) m fu h = some (nI 4294967287, h') ∧ RBr h' m nf B' ∧ RTF m h h' := by
  intro k
  induction k with
  | zero => intro B s h fu _ _ _ _ _; exact trivial
  | succ k ih =>
    intro B s h fu hk hX hB hs hf
    obtain ⟨fu, rfl⟩ := fuel1 hf
    have n8 := hk.1.1
    obtain ⟨hT, x2, x3, xt⟩ := id hX
    obtain ⟨b1, b2, b3, b4, b5⟩ := id hB
    have t1 := ht.1
    have e : pitems T n nf (k + 1) B s = if s < n then (match pitem T n nf B s with
      | .inl p => some (.inl p)
      | .inr (B', s') => pitems T n nf k B' s') else some (.inr B) := rfl
    rw [e, fX7_readText_L91]
    by_cases c : s < n
    · rw [if_pos c]
      have my := r_may hT hB hk
      have Pc := r_passes (c := 99) hX ht hs (by omega)
      have Pp := r_passes (c := 112) hX ht hs (by omega)
      have n6 := hk.2.1
      have X1 : RX (zsI h m 3 (nI (s + 1))) m T n (s + 1) := hX.sp
      have hT1 : RefT (zsI h m 3 (nI (s + 1))) m := hT
      have B1 : RBr (zsI h m 3 (nI (s + 1))) m nf B := RBr_3 hB
      have F1 : RTF m h (zsI h m 3 (nI (s + 1))) := RTF.sm (Or.inl rfl)
      unfold pitem
      -- what follows when it is no conversion
      have place : ∀ (r : Option (Int32 × zH)) (_ : T s ≠ 99) (_ : ∀ (_ : ¬ (bnp B < 6 ∧ T s = 112)), r = some (nI s, h)) (_ : ∀ (_ : bnp B < 6 ∧ T s = 112) (w : Int32) (h15 : zH) (_ : fX7_readPlace (zsI h m 3 (nI (s + 1))) m = some (w, h15)), r = if w = nI 0 then (zgI h15 7 m 3).bind fun w17 => some (w17, h15) else fX7_readText_L91 (fun h24 => some (nI 4294967287, h24)) m fu h15),
          match (match (if T s = 99 then (if bnc B < 20 ∧ bnc B < nf * (nf - 1) then pconv T n nf B (s + 1) else Sum.inl s) else if bnp B < 6 ∧ T s = 112 then pplace T n nf B (s + 1) else Sum.inl s) with
            | Sum.inl p => some (Sum.inl p)
            | Sum.inr (B', s') => pitems T n nf k B' s') with
          | none => True
          | some (.inl p) => ∃ h', r = some (nI p, h') ∧ RTF m h h'
          | some (.inr B') => ∃ h', r = some (nI 4294967287, h') ∧ RBr h' m nf B' ∧ RTF m h h' := fun r q9 r1 r2 => by
        rw [if_neg q9]
        by_cases cp : bnp B < 6 ∧ T s = 112
        · rw [if_pos cp]
          have R := r_place X1 ht (by omega) B1 hk h1 cp.1
          cases hp : pplace T n nf B (s + 1) with
          | inl p =>
            rw [hp] at R
            obtain ⟨h', e1, e2, e3⟩ := R
            have hT' := (F1.tr e3).rt hT
            refine ⟨h', (r2 cp _ _ e1).trans ?_, F1.tr e3⟩
            simp (disch := first | assumption | ((repeat apply RefT.s) <;> assumption) | omega) only [nl, nI_add, pk_mul, Option.bind_some, zb2_some, nI_le_t, nI_le_f, nI_lt_t, nI_lt_f, nI_eq_t, nI_eq_f, nI_m1, nI_em1, ↓reduceIte, Nat.add_zero, nI_n9, qI, e2]
          | inr w =>
            obtain ⟨B', s'⟩ := w
            rw [hp] at R
            obtain ⟨h', e1, e2, e3, e4⟩ := R
            obtain ⟨k1, k2, k3⟩ := pplace_ok n8 (by omega) hk cp.1 hp
            have I := ih B' s' h' fu k1 e2 e3 k3 (by omega)
            have rr := r2 cp _ _ e1
            rw [if_neg (by decide)] at rr
            dsimp only
            cases hq : pitems T n nf k B' s' with
            | none => trivial
            | some u =>
              rw [hq] at I
              cases u with
              | inl p =>
                obtain ⟨h2, j1, j2⟩ := I
                exact ⟨h2, rr.trans j1, (F1.tr e4).tr j2⟩
              | inr B2 =>
                obtain ⟨h2, j1, j2, j3⟩ := I
                exact ⟨h2, rr.trans j1, j2, (F1.tr e4).tr j3⟩
        · rw [if_neg cp]
          exact ⟨h, r1 cp, RTF.rf⟩
      by_cases cm : bnc B < 20 ∧ bnc B < nf * (nf - 1)
      · rw [if_pos cm] at my
        by_cases c9 : T s = 99
        · have cc : s < n ∧ T s = 99 := ⟨c, c9⟩
          rw [if_pos cc] at Pc
          rw [if_pos c9, if_pos cm]
          have R := r_conv X1 ht (by omega) B1 hk h1 cm.1
          cases hp : pconv T n nf B (s + 1) with
          | inl p =>
            rw [hp] at R
            obtain ⟨h', e1, e2, e3⟩ := R
            have hT' := (F1.tr e3).rt hT
            refine ⟨h', ?_, F1.tr e3⟩
            simp (disch := first | assumption | ((repeat apply RefT.s) <;> assumption) | omega) only [nl, nI_add, pk_mul, Option.bind_some, zb2_some, nI_le_t, nI_le_f, nI_lt_t, nI_lt_f, nI_eq_t, nI_eq_f, nI_m1, nI_em1, ↓reduceIte, Nat.add_zero, nI_n9, qI, x2, x3, my, Pc, e1, e2]
          | inr w =>
            obtain ⟨B', s'⟩ := w
            rw [hp] at R
            obtain ⟨h', e1, e2, e3, e4⟩ := R
            obtain ⟨k1, k2, k3⟩ := pconv_ok (by omega) hk cm.1 hp
            have I := ih B' s' h' fu k1 e2 e3 k3 (by omega)
            dsimp only
            have rr : ((zgI h 7 m 3).bind fun w1 => (zgI h 7 m 2).bind fun w2 => if w2 ≤ w1 then (fun h24 => some (nI 4294967287, h24)) h else zb2 (fX7_mayConvert h m) fun w4 h5 => if w4 = 0 then (zgI h5 7 m 15).bind fun w7 => if 6 ≤ w7 then (zgI h5 7 m 3).bind fun w9 => some (w9, h5) else zb2 (fX7_passes h5 m 112) fun w10 h11 => if w10 = 0 then (zgI h11 7 m 3).bind fun w13 => some (w13, h11) else zb2 (fX7_readPlace h11 m) fun w14 h15 => if w14 = 0 then (zgI h15 7 m 3).bind fun w17 => some (w17, h15) else fX7_readText_L91 (fun h24 => some (nI 4294967287, h24)) m fu h15 else zb2 (fX7_passes h5 m 99) fun w18 h19 => if w18 = 0 then (zgI h19 7 m 15).bind fun w21 => if 6 ≤ w21 then (zgI h19 7 m 3).bind fun w23 => some (w23, h19) else zb2 (fX7_passes h19 m 112) fun w24 h25 => if w24 = 0 then (zgI h25 7 m 3).bind fun w27 => some (w27, h25) else zb2 (fX7_readPlace h25 m) fun w28 h29 => if w28 = 0 then (zgI h29 7 m 3).bind fun w31 => some (w31, h29) else fX7_readText_L91 (fun h24 => some (nI 4294967287, h24)) m fu h29 else zb2 (fX7_readConversion h19 m) fun w32 h33 => if w32 = 0 then (zgI h33 7 m 3).bind fun w35 => some (w35, h33) else fX7_readText_L91 (fun h24 => some (nI 4294967287, h24)) m fu h33) = fX7_readText_L91 (fun h24 => some (nI 4294967287, h24)) m fu h' := by
              simp (disch := first | assumption | ((repeat apply RefT.s) <;> assumption) | omega) only [nl, nI_add, pk_mul, Option.bind_some, zb2_some, nI_le_t, nI_le_f, nI_lt_t, nI_lt_f, nI_eq_t, nI_eq_f, nI_m1, nI_em1, ↓reduceIte, Nat.add_zero, nI_n9, qI, x2, x3, my, Pc, e1]
            cases hq : pitems T n nf k B' s' with
            | none => trivial
            | some u =>
              rw [hq] at I
              cases u with
              | inl p =>
                obtain ⟨h2, j1, j2⟩ := I
                exact ⟨h2, rr.trans j1, (F1.tr e4).tr j2⟩
              | inr B2 =>
                obtain ⟨h2, j1, j2, j3⟩ := I
                exact ⟨h2, rr.trans j1, j2, (F1.tr e4).tr j3⟩
        · have nc : ¬ (s < n ∧ T s = 99) := fun z => c9 z.2
          rw [if_neg nc] at Pc
          refine place _ c9 (fun q => ?_) (fun q w h15 ew => ?_)
          · by_cases q6 : bnp B < 6
            · have np : ¬ (s < n ∧ T s = 112) := fun z => q ⟨q6, z.2⟩
              rw [if_neg np] at Pp
              simp (disch := first | assumption | ((repeat apply RefT.s) <;> assumption) | omega) only [nl, nI_add, pk_mul, Option.bind_some, zb2_some, nI_le_t, nI_le_f, nI_lt_t, nI_lt_f, nI_eq_t, nI_eq_f, nI_m1, nI_em1, ↓reduceIte, Nat.add_zero, nI_n9, qI, x2, x3, my, Pc, b3, Pp]
            · simp (disch := first | assumption | ((repeat apply RefT.s) <;> assumption) | omega) only [nl, nI_add, pk_mul, Option.bind_some, zb2_some, nI_le_t, nI_le_f, nI_lt_t, nI_lt_f, nI_eq_t, nI_eq_f, nI_m1, nI_em1, ↓reduceIte, Nat.add_zero, nI_n9, qI, x2, x3, my, Pc, b3]
          · have yp : s < n ∧ T s = 112 := ⟨c, q.2⟩
            have q6 := q.1
            rw [if_pos yp] at Pp
            simp (disch := first | assumption | ((repeat apply RefT.s) <;> assumption) | omega) only [nl, nI_add, pk_mul, Option.bind_some, zb2_some, nI_le_t, nI_le_f, nI_lt_t, nI_lt_f, nI_eq_t, nI_eq_f, nI_m1, nI_em1, ↓reduceIte, Nat.add_zero, nI_n9, qI, x2, x3, my, Pc, b3, Pp, ew]
            rfl
      · rw [if_neg cm] at my
        by_cases c9 : T s = 99
        · rw [if_pos c9, if_neg cm]
          have np : ¬ (s < n ∧ T s = 112) := fun z => by omega
          rw [if_neg np] at Pp
          refine ⟨h, ?_, RTF.rf⟩
          by_cases q6 : bnp B < 6
          · simp (disch := first | assumption | ((repeat apply RefT.s) <;> assumption) | omega) only [nl, nI_add, pk_mul, Option.bind_some, zb2_some, nI_le_t, nI_le_f, nI_lt_t, nI_lt_f, nI_eq_t, nI_eq_f, nI_m1, nI_em1, ↓reduceIte, Nat.add_zero, nI_n9, qI, x2, x3, my, b3, Pp]
          · simp (disch := first | assumption | ((repeat apply RefT.s) <;> assumption) | omega) only [nl, nI_add, pk_mul, Option.bind_some, zb2_some, nI_le_t, nI_le_f, nI_lt_t, nI_lt_f, nI_eq_t, nI_eq_f, nI_m1, nI_em1, ↓reduceIte, Nat.add_zero, nI_n9, qI, x2, x3, my, b3]
        · refine place _ c9 (fun q => ?_) (fun q w h15 ew => ?_)
          · by_cases q6 : bnp B < 6
            · have np : ¬ (s < n ∧ T s = 112) := fun z => q ⟨q6, z.2⟩
              rw [if_neg np] at Pp
              simp (disch := first | assumption | ((repeat apply RefT.s) <;> assumption) | omega) only [nl, nI_add, pk_mul, Option.bind_some, zb2_some, nI_le_t, nI_le_f, nI_lt_t, nI_lt_f, nI_eq_t, nI_eq_f, nI_m1, nI_em1, ↓reduceIte, Nat.add_zero, nI_n9, qI, x2, x3, my, b3, Pp]
            · simp (disch := first | assumption | ((repeat apply RefT.s) <;> assumption) | omega) only [nl, nI_add, pk_mul, Option.bind_some, zb2_some, nI_le_t, nI_le_f, nI_lt_t, nI_lt_f, nI_eq_t, nI_eq_f, nI_m1, nI_em1, ↓reduceIte, Nat.add_zero, nI_n9, qI, x2, x3, my, b3]
          · have yp : s < n ∧ T s = 112 := ⟨c, q.2⟩
            have q6 := q.1
            rw [if_pos yp] at Pp
            simp (disch := first | assumption | ((repeat apply RefT.s) <;> assumption) | omega) only [nl, nI_add, pk_mul, Option.bind_some, zb2_some, nI_le_t, nI_le_f, nI_lt_t, nI_lt_f, nI_eq_t, nI_eq_f, nI_m1, nI_em1, ↓reduceIte, Nat.add_zero, nI_n9, qI, x2, x3, my, b3, Pp, ew]
            rfl
    · rw [if_neg c]
      refine ⟨h, ?_, hB, RTF.rf⟩
      simp (disch := first | assumption | ((repeat apply RefT.s) <;> assumption) | omega) only [nl, nI_add, pk_mul, Option.bind_some, zb2_some, nI_le_t, nI_le_f, nI_lt_t, nI_lt_f, nI_eq_t, nI_eq_f, nI_m1, nI_em1, ↓reduceIte, Nat.add_zero, nI_n9, qI, x2, x3]
theorem in18 (h : zH) {d : Nat} (hd : d < 2 ^ 31) : fX7_in h (nI d).toInt64 1 8 = some (if 1 ≤ d ∧ d ≤ 8 then nI 1 else nI 0, h) := by
  have := p_in h (nI d) 1 8
  by_cases c : 1 ≤ d ∧ d ≤ 8
  · rw [if_pos ⟨(nI_leI (a := 1) (by omega) hd).mpr c.1, (nI_leI (b := 8) hd (by omega)).mpr c.2⟩] at this
    rw [if_pos c]; exact this
  · rw [if_neg (fun z => c ⟨(nI_leI (a := 1) (by omega) hd).mp z.1, (nI_leI (b := 8) hd (by omega)).mp z.2⟩)] at this
    rw [if_neg c]; exact this
theorem in18n (h : zH) : fX7_in h (nI 4294967287).toInt64 1 8 = some (nI 0, h) := p_in h (nI 4294967287) 1 8
end RTOP
