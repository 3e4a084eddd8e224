/-! pure: the reference's command -/
def cmdR (A : zSt) (τ : zN') (g : Nat) : Option zN' := if g / 100000 = 1 then tryR A 1 τ (nI (g / 10000 % 10)) (nI (g % 10000)) else if g / 100000 = 2 then tryR A 2 τ (nI (g / 10000 % 10)) (nI (g % 10000)) else if g / 100000 = 3 then (if g % 100 = 0 then tryR A 3 τ (nI (g / 1000 % 100)) (nI (g / 100 % 10)) else none) else if g / 100000 = 4 then (if g % 1000 = 0 ∧ g / 1000 % 100 < τ 0 then some (va_up τ (24 + 28 * (g / 1000 % 100) + 24) (1 - τ (24 + 28 * (g / 1000 % 100) + 24))) else none) else if g / 100000 = 5 then (if g % 1000 = 0 ∧ g / 1000 % 100 < τ 0 then some (ndrop τ (τ 0) (g / 1000 % 100)) else none) else if g / 100000 = 6 then (if nus τ (τ 0) ≤ g % 100000 then some τ else none) else if g / 100000 = 7 then (if τ 0 = g % 100000 then some τ else none) else if g / 100000 = 8 then (if g % 100 = 0 ∧ g / 1000 % 100 < τ 0 ∧ g / 100 % 10 < anf A ∧ τ (24 + 28 * (g / 1000 % 100) + 16 + g / 100 % 10) ≠ 0 then some τ else none) else none
section RCMD
variable {h : zH} {m : Nat} {A : zSt} {τ : zN'}
theorem zsI_rw {a k : Nat} {v : Int32} : zsI h a k v = zrow h a (va_up (zI h a) k v) := by
  show (zkd h, zln h, zu (zI h) a k v, zJ h, zP h, zn h) = _
  rw [zu_row]
  rfl
theorem TrR_no {r : Option (Int32 × zH)} (hR : RI h m A) (e16 : zI h (m + 16) = nr τ) (e : r = some (nI 0, h)) : TrR h m A τ r none := ⟨fun _ => ⟨h, e, hR, Fr.rf, rfl, e16⟩, fun _ q => (by cases q)⟩
theorem TrR_yes {r : Option (Int32 × zH)} (hR : RI h m A) (e16 : zI h (m + 16) = nr τ) (tr : rok (anf A) (anc A) τ) (e : r = some (nI 1, h)) : TrR h m A τ r (some τ) := ⟨fun q => (by cases q), fun τ' q => by
  cases q
  exact ⟨h, e, hR, Fr.rf, rfl, e16, tr, by omega⟩⟩
theorem TrR_if {r : Option (Int32 × zH)} {c : Prop} [Decidable c] {o : Option zN'} (h1 : c → TrR h m A τ r o) (h2 : ¬ c → TrR h m A τ r none) : TrR h m A τ r (if c then o else none) := by
  by_cases q : c
  · rw [if_pos q]; exact h1 q
  · rw [if_neg q]; exact h2 q
theorem r_cmd {g : Nat} (hR : RI h m A) (hO : bOK (anf A) (anc A) (anp A) (afr A) (att A) (agr A) (alo A) (aac A) (ali A)) (e16 : zI h (m + 16) = nr τ) (tr : rok (anf A) (anc A) τ) (ht : τ 1 + 1 < 10000) (hg : g < 1000000) : TrR h m A τ (fX7_command h m (nI g)) (cmdR A τ g) := by
  have hT := hR.1
  have n8 := hO.1.1
  have n20 := hO.1.2.1
  have c12 := tr.1.1
  have d5 : nI g / nI 100000 = nI (g / 100000) := pk_div (by omega) (by omega) (by omega)
  have d4 : nI g / nI 10000 = nI (g / 10000) := pk_div (by omega) (by omega) (by omega)
  have d3 : nI g / nI 1000 = nI (g / 1000) := pk_div (by omega) (by omega) (by omega)
  have d2 : nI g / nI 100 = nI (g / 100) := pk_div (by omega) (by omega) (by omega)
  have d41 : nI (g / 10000) / nI 10 = nI (g / 10000 / 10) := pk_div (by omega) (by omega) (by omega)
  have d32 : nI (g / 1000) / nI 100 = nI (g / 1000 / 100) := pk_div (by omega) (by omega) (by omega)
  have s5 : nI g - nI (g / 100000 * 100000) = nI (g % 100000) := by rw [pk_sub (by omega)]; congr 1; omega
  have s4 : nI g - nI (g / 10000 * 10000) = nI (g % 10000) := by rw [pk_sub (by omega)]; congr 1; omega
  have s3 : nI g - nI (g / 1000 * 1000) = nI (g % 1000) := by rw [pk_sub (by omega)]; congr 1; omega
  have s2 : nI g - nI (g / 100 * 100) = nI (g % 100) := by rw [pk_sub (by omega)]; congr 1; omega
  have s41 : nI (g / 10000) - nI (g / 10000 / 10 * 10) = nI (g / 10000 % 10) := by rw [pk_sub (by omega)]; congr 1; omega
  have s32 : nI (g / 1000) - nI (g / 1000 / 100 * 100) = nI (g / 1000 % 100) := by rw [pk_sub (by omega)]; congr 1; omega
  have q32 : nI (g % 1000) / nI 100 = nI (g / 100 % 10) := by rw [pk_div (by omega) (by omega) (by omega)]; congr 1; omega
  have t32 : nI (g % 1000) - nI (g / 100 % 10 * 100) = nI (g % 100) := by rw [pk_sub (by omega)]; congr 1; omega
  have ise : ∀ e, e < 100 → fX7_isEntry h (m + 16) (nI e) = some (if e < τ 0 then nI 1 else nI 0, h) := fun e he => by
    have := p_isEntry (h := h) (I := zI h) (nI e) (rk16 hT) (rl16 hT) c12 (by rw [e16]; rfl)
    refine this.trans ?_
    by_cases q : e < τ 0
    · rw [if_pos q, if_neg (fun z => z.elim (fun z => absurd ((nI_ltI (b := 0) (by omega) (by omega)).mp z) (by omega)) (fun z => absurd ((nI_leI (by omega) (by omega)).mp z) (by omega)))]
      rfl
    · rw [if_neg q, if_pos (Or.inr ((nI_leI (by omega) (by omega)).mpr (by omega)))]
      rfl
  unfold cmdR
  by_cases k1 : g / 100000 = 1
  · rw [if_pos k1]
    obtain ⟨t1, t2⟩ := r_tries (k := 1) hR hO e16 tr ht (Or.inl rfl) (nI (g / 10000 % 10)) (nI (g % 10000))
    rw [k1] at d5
    refine ⟨fun q => ?_, fun τ' q => ?_⟩
    · obtain ⟨g1, p1, p2⟩ := t1 q
      refine ⟨g1, ?_, p2⟩
      unfold fX7_command
      simp (disch := first | assumption | ((repeat apply RefT.s) <;> assumption) | omega) only [nl, nI_add, pk_mul, Option.bind_some, zb2_some, nI_le_t, nI_le_f, nI_lt_t, nI_lt_f, nI_eq_t, nI_eq_f, nI_m1, nI_em1, ↓reduceIte, Nat.add_zero, nI_n9, hT.1, d5, d4, d41, s4, s41, p1]
      rfl
    · obtain ⟨g1, p1, p2⟩ := t2 τ' q
      refine ⟨g1, ?_, p2⟩
      unfold fX7_command
      simp (disch := first | assumption | ((repeat apply RefT.s) <;> assumption) | omega) only [nl, nI_add, pk_mul, Option.bind_some, zb2_some, nI_le_t, nI_le_f, nI_lt_t, nI_lt_f, nI_eq_t, nI_eq_f, nI_m1, nI_em1, ↓reduceIte, Nat.add_zero, nI_n9, hT.1, d5, d4, d41, s4, s41, p1]
      rfl
  rw [if_neg k1]
  by_cases k2 : g / 100000 = 2
  · rw [if_pos k2]
    obtain ⟨t1, t2⟩ := r_tries (k := 2) hR hO e16 tr ht (Or.inr (Or.inl rfl)) (nI (g / 10000 % 10)) (nI (g % 10000))
    rw [k2] at d5
    refine ⟨fun q => ?_, fun τ' q => ?_⟩
    · obtain ⟨g1, p1, p2⟩ := t1 q
      refine ⟨g1, ?_, p2⟩
      unfold fX7_command
      simp (disch := first | assumption | ((repeat apply RefT.s) <;> assumption) | omega) only [nl, nI_add, pk_mul, Option.bind_some, zb2_some, nI_le_t, nI_le_f, nI_lt_t, nI_lt_f, nI_eq_t, nI_eq_f, nI_m1, nI_em1, ↓reduceIte, Nat.add_zero, nI_n9, hT.1, d5, d4, d41, s4, s41, p1]
      rfl
    · obtain ⟨g1, p1, p2⟩ := t2 τ' q
      refine ⟨g1, ?_, p2⟩
      unfold fX7_command
      simp (disch := first | assumption | ((repeat apply RefT.s) <;> assumption) | omega) only [nl, nI_add, pk_mul, Option.bind_some, zb2_some, nI_le_t, nI_le_f, nI_lt_t, nI_lt_f, nI_eq_t, nI_eq_f, nI_m1, nI_em1, ↓reduceIte, Nat.add_zero, nI_n9, hT.1, d5, d4, d41, s4, s41, p1]
      rfl
  rw [if_neg k2]
  by_cases k3 : g / 100000 = 3
  · rw [if_pos k3]
    rw [k3] at d5
    refine TrR_if (fun c => ?_) (fun c => TrR_no hR e16 ?_)
    · obtain ⟨t1, t2⟩ := r_tries (k := 3) hR hO e16 tr ht (Or.inr (Or.inr rfl)) (nI (g / 1000 % 100)) (nI (g / 100 % 10))
      rw [c] at t32
      refine ⟨fun q => ?_, fun τ' q => ?_⟩
      · obtain ⟨g1, p1, p2⟩ := t1 q
        refine ⟨g1, ?_, p2⟩
        unfold fX7_command
        simp (disch := first | assumption | ((repeat apply RefT.s) <;> assumption) | omega) only [nl, nI_add, pk_mul, Option.bind_some, zb2_some, nI_le_t, nI_le_f, nI_lt_t, nI_lt_f, nI_eq_t, nI_eq_f, nI_m1, nI_em1, ↓reduceIte, Nat.add_zero, nI_n9, hT.1, d5, d3, d32, s3, s32, q32, t32, p1]
      · obtain ⟨g1, p1, p2⟩ := t2 τ' q
        refine ⟨g1, ?_, p2⟩
        unfold fX7_command
        simp (disch := first | assumption | ((repeat apply RefT.s) <;> assumption) | omega) only [nl, nI_add, pk_mul, Option.bind_some, zb2_some, nI_le_t, nI_le_f, nI_lt_t, nI_lt_f, nI_eq_t, nI_eq_f, nI_m1, nI_em1, ↓reduceIte, Nat.add_zero, nI_n9, hT.1, d5, d3, d32, s3, s32, q32, t32, p1]
    · unfold fX7_command
      simp (disch := first | assumption | ((repeat apply RefT.s) <;> assumption) | omega) only [nl, nI_add, pk_mul, Option.bind_some, zb2_some, nI_le_t, nI_le_f, nI_lt_t, nI_lt_f, nI_eq_t, nI_eq_f, nI_m1, nI_em1, ↓reduceIte, Nat.add_zero, nI_n9, hT.1, d5, d3, d32, s3, s32, q32, t32]
  rw [if_neg k3]
  have r24 : g / 1000 % 100 < τ 0 → zaI h (m + 16) (nI (24 + 28 * (g / 1000 % 100) + 24)) = some (nI (τ (24 + 28 * (g / 1000 % 100) + 24))) := fun q => by rw [qa16 hT (by omega), e16]; rfl
  by_cases k4 : g / 100000 = 4
  · rw [if_pos k4]
    rw [k4] at d5
    by_cases c : g % 1000 = 0
    · have ie := ise (g / 1000 % 100) (by omega)
      rw [c] at s3
      by_cases c2 : g / 1000 % 100 < τ 0
      · rw [if_pos ⟨c, c2⟩]
        rw [if_pos c2] at ie
        have p1 := (tr.1.2.2.2.2 _ c2).2.1
        have sb : nI 1 - nI (τ (24 + 28 * (g / 1000 % 100) + 24)) = nI (1 - τ (24 + 28 * (g / 1000 % 100) + 24)) := pk_sub p1
        have wr : ∀ v, zbI h (m + 16) (nI (24 + 28 * (g / 1000 % 100) + 24)) (nI v) = some (zrow h (m + 16) (nr (va_up τ (24 + 28 * (g / 1000 % 100) + 24) v))) := fun v => by
          rw [qb16 hT (by omega), zsI_rw, e16, up_n]
        have rp := rok_pin tr n20 c2
        refine ⟨fun q => (by cases q), fun τ' q => ?_⟩
        cases q
        refine ⟨_, ?_, RI_try hR rp.2.1, fr16, by rw [rw_a (by omega)], rw_at, rp, by rw [up_b (by omega)]; omega⟩
        unfold fX7_command
        simp (disch := first | assumption | ((repeat apply RefT.s) <;> assumption) | omega) only [nl, nI_add, pk_mul, Option.bind_some, zb2_some, nI_le_t, nI_le_f, nI_lt_t, nI_lt_f, nI_eq_t, nI_eq_f, nI_m1, nI_em1, ↓reduceIte, Nat.add_zero, nI_n9, hT.1, d5, d3, d32, s3, s32, qg16, ie, p_at, r24 c2, sb, wr]
      · rw [if_neg (fun z => c2 z.2)]
        rw [if_neg c2] at ie
        refine TrR_no hR e16 ?_
        unfold fX7_command
        simp (disch := first | assumption | ((repeat apply RefT.s) <;> assumption) | omega) only [nl, nI_add, pk_mul, Option.bind_some, zb2_some, nI_le_t, nI_le_f, nI_lt_t, nI_lt_f, nI_eq_t, nI_eq_f, nI_m1, nI_em1, ↓reduceIte, Nat.add_zero, nI_n9, hT.1, d5, d3, d32, s3, s32, qg16, ie]
    · rw [if_neg (fun z => c z.1)]
      refine TrR_no hR e16 ?_
      unfold fX7_command
      simp (disch := first | assumption | ((repeat apply RefT.s) <;> assumption) | omega) only [nl, nI_add, pk_mul, Option.bind_some, zb2_some, nI_le_t, nI_le_f, nI_lt_t, nI_lt_f, nI_eq_t, nI_eq_f, nI_m1, nI_em1, ↓reduceIte, Nat.add_zero, nI_n9, hT.1, d5, d3, d32, s3, s32]
  rw [if_neg k4]
  by_cases k5 : g / 100000 = 5
  · rw [if_pos k5]
    rw [k5] at d5
    by_cases c : g % 1000 = 0
    · have ie := ise (g / 1000 % 100) (by omega)
      rw [c] at s3
      by_cases c2 : g / 1000 % 100 < τ 0
      · rw [if_pos ⟨c, c2⟩]
        rw [if_pos c2] at ie
        have dr : fX7_drop h (m + 16) (nI (g / 1000 % 100)) = some (zrow h (m + 16) (nr (ndrop τ (τ 0) (g / 1000 % 100)))) := n_drop (h := h) (I := zI h) (rk16 hT) (rl16 hT) e16 c12 c2
        have rp := rok_drop tr n20 c2
        refine ⟨fun q => (by cases q), fun τ' q => ?_⟩
        cases q
        refine ⟨_, ?_, RI_try hR rp.2.1, fr16, by rw [rw_a (by omega)], rw_at, rp, by rw [ndrop_hd c2 (by omega), if_neg (by omega)]; omega⟩
        unfold fX7_command
        simp (disch := first | assumption | ((repeat apply RefT.s) <;> assumption) | omega) only [nl, nI_add, pk_mul, Option.bind_some, zb2_some, nI_le_t, nI_le_f, nI_lt_t, nI_lt_f, nI_eq_t, nI_eq_f, nI_m1, nI_em1, ↓reduceIte, Nat.add_zero, nI_n9, hT.1, d5, d3, d32, s3, s32, qg16, ie, dr]
      · rw [if_neg (fun z => c2 z.2)]
        rw [if_neg c2] at ie
        refine TrR_no hR e16 ?_
        unfold fX7_command
        simp (disch := first | assumption | ((repeat apply RefT.s) <;> assumption) | omega) only [nl, nI_add, pk_mul, Option.bind_some, zb2_some, nI_le_t, nI_le_f, nI_lt_t, nI_lt_f, nI_eq_t, nI_eq_f, nI_m1, nI_em1, ↓reduceIte, Nat.add_zero, nI_n9, hT.1, d5, d3, d32, s3, s32, qg16, ie]
    · rw [if_neg (fun z => c z.1)]
      refine TrR_no hR e16 ?_
      unfold fX7_command
      simp (disch := first | assumption | ((repeat apply RefT.s) <;> assumption) | omega) only [nl, nI_add, pk_mul, Option.bind_some, zb2_some, nI_le_t, nI_le_f, nI_lt_t, nI_lt_f, nI_eq_t, nI_eq_f, nI_m1, nI_em1, ↓reduceIte, Nat.add_zero, nI_n9, hT.1, d5, d3, d32, s3, s32]
  rw [if_neg k5]
  by_cases k6 : g / 100000 = 6
  · rw [if_pos k6]
    have us : fX7_used h (m + 16) = some (nI (nus τ (τ 0)), h) := n_used (h := h) (I := zI h) (rk16 hT) (rl16 hT) e16 c12
    have ul := nus_le tr.1
    have s5' := s5
    rw [k6] at d5 s5
    refine TrR_if (fun c => TrR_yes hR e16 tr ?_) (fun c => TrR_no hR e16 ?_)
    · unfold fX7_command
      simp (disch := first | assumption | ((repeat apply RefT.s) <;> assumption) | omega) only [nl, nI_add, pk_mul, Option.bind_some, zb2_some, nI_le_t, nI_le_f, nI_lt_t, nI_lt_f, nI_eq_t, nI_eq_f, nI_m1, nI_em1, ↓reduceIte, Nat.add_zero, nI_n9, hT.1, d5, s5, qg16, us]
    · unfold fX7_command
      simp (disch := first | assumption | ((repeat apply RefT.s) <;> assumption) | omega) only [nl, nI_add, pk_mul, Option.bind_some, zb2_some, nI_le_t, nI_le_f, nI_lt_t, nI_lt_f, nI_eq_t, nI_eq_f, nI_m1, nI_em1, ↓reduceIte, Nat.add_zero, nI_n9, hT.1, d5, s5, qg16, us]
  rw [if_neg k6]
  by_cases k7 : g / 100000 = 7
  · rw [if_pos k7]
    have r0 : zaI h (m + 16) (nI 0) = some (nI (τ 0)) := by rw [qa16 hT (by omega), e16]; rfl
    rw [k7] at d5 s5
    refine TrR_if (fun c => TrR_yes hR e16 tr ?_) (fun c => TrR_no hR e16 ?_)
    · have c' : τ 0 = g % 100 := by omega
      unfold fX7_command
      simp (disch := first | assumption | ((repeat apply RefT.s) <;> assumption) | omega) only [nl, nI_add, pk_mul, Option.bind_some, zb2_some, nI_le_t, nI_le_f, nI_lt_t, nI_lt_f, nI_eq_t, nI_eq_f, nI_m1, nI_em1, ↓reduceIte, Nat.add_zero, nI_n9, hT.1, d5, s5, d2, s2, qg16, r0]
    · by_cases c2 : 100 ≤ g % 100000
      · unfold fX7_command
        simp (disch := first | assumption | ((repeat apply RefT.s) <;> assumption) | omega) only [nl, nI_add, pk_mul, Option.bind_some, zb2_some, nI_le_t, nI_le_f, nI_lt_t, nI_lt_f, nI_eq_t, nI_eq_f, nI_m1, nI_em1, ↓reduceIte, Nat.add_zero, nI_n9, hT.1, d5, s5]
      · have c' : ¬ τ 0 = g % 100 := by omega
        unfold fX7_command
        simp (disch := first | assumption | ((repeat apply RefT.s) <;> assumption) | omega) only [nl, nI_add, pk_mul, Option.bind_some, zb2_some, nI_le_t, nI_le_f, nI_lt_t, nI_lt_f, nI_eq_t, nI_eq_f, nI_m1, nI_em1, ↓reduceIte, Nat.add_zero, nI_n9, hT.1, d5, s5, d2, s2, qg16, r0]
  rw [if_neg k7]
  by_cases k8 : g / 100000 = 8
  · rw [if_pos k8]
    rw [k8] at d5
    by_cases c : g % 100 = 0
    · have ie := ise (g / 1000 % 100) (by omega)
      rw [c] at t32
      by_cases c2 : g / 1000 % 100 < τ 0
      · rw [if_pos c2] at ie
        have isf := m_isFormat (h := h) (I := zI h) hT.1 hR.2.2.1.1 n8 (nI (g / 100 % 10))
        by_cases c3 : g / 100 % 10 < anf A
        · have isf' : fX7_isFormat h m (nI (g / 100 % 10)) = some (nI 1, h) := by
            refine isf.trans ?_
            rw [if_neg (fun z => z.elim (fun z => absurd ((nI_ltI (b := 0) (by omega) (by omega)).mp z) (by omega)) (fun z => absurd ((nI_leI (by omega) (by omega)).mp z) (by omega)))]
            rfl
          have rk : zaI h (m + 16) (nI (24 + 28 * (g / 1000 % 100) + 16 + g / 100 % 10)) = some (nI (τ (24 + 28 * (g / 1000 % 100) + 16 + g / 100 % 10))) := by rw [qa16 hT (by omega), e16]; rfl
          have kb := ((tr.1.2.2.2.2 _ c2).1 (g / 100 % 10) (by omega)).1
          by_cases c4 : τ (24 + 28 * (g / 1000 % 100) + 16 + g / 100 % 10) = 0
          · rw [if_neg (fun z => z.2.2.2 c4)]
            refine TrR_no hR e16 ?_
            unfold fX7_command
            simp (disch := first | assumption | ((repeat apply RefT.s) <;> assumption) | omega) only [nl, nI_add, pk_mul, Option.bind_some, zb2_some, nI_le_t, nI_le_f, nI_lt_t, nI_lt_f, nI_eq_t, nI_eq_f, nI_m1, nI_em1, ↓reduceIte, Nat.add_zero, nI_n9, hT.1, d5, d3, d32, s3, s32, q32, t32, qg16, ie, isf', p_at, rk]
          · rw [if_pos ⟨c, c2, c3, c4⟩]
            refine TrR_yes hR e16 tr ?_
            unfold fX7_command
            simp (disch := first | assumption | ((repeat apply RefT.s) <;> assumption) | omega) only [nl, nI_add, pk_mul, Option.bind_some, zb2_some, nI_le_t, nI_le_f, nI_lt_t, nI_lt_f, nI_eq_t, nI_eq_f, nI_m1, nI_em1, ↓reduceIte, Nat.add_zero, nI_n9, hT.1, d5, d3, d32, s3, s32, q32, t32, qg16, ie, isf', p_at, rk]
        · have isf' : fX7_isFormat h m (nI (g / 100 % 10)) = some (nI 0, h) := by
            refine isf.trans ?_
            rw [if_pos (Or.inr ((nI_leI (by omega) (by omega)).mpr (by omega)))]
            rfl
          rw [if_neg (fun z => c3 z.2.2.1)]
          refine TrR_no hR e16 ?_
          unfold fX7_command
          simp (disch := first | assumption | ((repeat apply RefT.s) <;> assumption) | omega) only [nl, nI_add, pk_mul, Option.bind_some, zb2_some, nI_le_t, nI_le_f, nI_lt_t, nI_lt_f, nI_eq_t, nI_eq_f, nI_m1, nI_em1, ↓reduceIte, Nat.add_zero, nI_n9, hT.1, d5, d3, d32, s3, s32, q32, t32, qg16, ie, isf']
      · rw [if_neg (fun z => c2 z.2.1)]
        rw [if_neg c2] at ie
        refine TrR_no hR e16 ?_
        unfold fX7_command
        simp (disch := first | assumption | ((repeat apply RefT.s) <;> assumption) | omega) only [nl, nI_add, pk_mul, Option.bind_some, zb2_some, nI_le_t, nI_le_f, nI_lt_t, nI_lt_f, nI_eq_t, nI_eq_f, nI_m1, nI_em1, ↓reduceIte, Nat.add_zero, nI_n9, hT.1, d5, d3, d32, s3, s32, q32, t32, qg16, ie]
    · rw [if_neg (fun z => c z.1)]
      refine TrR_no hR e16 ?_
      unfold fX7_command
      simp (disch := first | assumption | ((repeat apply RefT.s) <;> assumption) | omega) only [nl, nI_add, pk_mul, Option.bind_some, zb2_some, nI_le_t, nI_le_f, nI_lt_t, nI_lt_f, nI_eq_t, nI_eq_f, nI_m1, nI_em1, ↓reduceIte, Nat.add_zero, nI_n9, hT.1, d5, d3, d32, s3, s32, q32, t32]
  rw [if_neg k8]
  refine TrR_no hR e16 ?_
  unfold fX7_command
  simp (disch := first | assumption | ((repeat apply RefT.s) <;> assumption) | omega) only [nl, nI_add, pk_mul, Option.bind_some, zb2_some, nI_le_t, nI_le_f, nI_lt_t, nI_lt_f, nI_eq_t, nI_eq_f, nI_m1, nI_em1, ↓reduceIte, Nat.add_zero, nI_n9, hT.1, d5]
end RCMD
