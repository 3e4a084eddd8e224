/-! pure: the reference's budget, undo, slots -/
def budS (A : zSt) (x : Int32) : zAn := if ¬ (1 ≤ x ∧ x ≤ 99999) then (1, 0, A) else match nbud (atg A) (cl x) with
  | none => (2, 0, A)
  | some ρ' => (0, nI (nus ρ' (ρ' 0)), anew A ρ')
section RACTS4
variable {h h' : zH} {m : Nat} {A : zSt}
theorem r_bud {t : Nat} (hR : RI h m A) (hA : AI t A) (x : Int32) : RO h m (fX7_setBudget h m x) (budS A x) := by
  obtain ⟨a1, hO, ⟨a3, a3t⟩, a4, a5, a6⟩ := hA
  have hT := hR.1
  have n20 := hO.1.2.1
  have pin : fX7_in h x.toInt64 1 99999 = some (if 1 ≤ x ∧ x ≤ 99999 then 1 else 0, h) := p_in h x 1 99999
  unfold budS
  by_cases c1 : 1 ≤ x ∧ x ≤ 99999
  · have c1' : ¬ ¬ (1 ≤ x ∧ x ≤ 99999) := fun z => z c1
    rw [if_neg c1']
    rw [if_pos c1] at pin
    obtain ⟨v, v1, v2, v3, v4⟩ := in_cost (K := 99999) (k := 99999) rfl (by omega) c1
    rw [v4]
    have rf := r_ref (k := 0) hT (by omega)
    rw [if_pos rfl] at rf
    have R0 := RI_0 (v := nI 0) hR
    have tn := r_tryNow R0 a3
    have tr := atg_rok a3 n20
    have R1 := RI_try (τ := atg A) R0 tr.2.1
    have hT1 := R1.1
    have tn' : fX7_tryNow (zsI h m 0 (nI 0)) m = some (zrow (zsI h m 0 (nI 0)) (m + 16) (nr (atg A))) := tn
    have e16 : zI (zrow (zsI h m 0 (nI 0)) (m + 16) (nr (atg A))) (m + 16) = nr (atg A) := rw_at
    have F1 : Fr m (m + 24) h (zrow (zsI h m 0 (nI 0)) (m + 16) (nr (atg A))) := fr0.tr fr16
    generalize zrow (zsI h m 0 (nI 0)) (m + 16) (nr (atg A)) = g at *
    have wr : zbI g (m + 16) (nI 3) (nI v) = some (zrow g (m + 16) (nr (va_up (atg A) 3 v))) := by rw [qb16 hT1 (by omega), sI_asrow e16, up_n]
    have zb : rz (va_up (atg A) 3 v) := rz_up tr.2.1 (by omega)
    have R2 := RI_try (τ := va_up (atg A) 3 v) R1 zb
    have hT2 := R2.1
    have f16 : zI (zrow g (m + 16) (nr (va_up (atg A) 3 v))) (m + 16) = nr (va_up (atg A) 3 v) := rw_at
    have nb := nok_bud tr.1 ⟨v1, v2⟩
    have F2 : Fr m (m + 24) h (zrow g (m + 16) (nr (va_up (atg A) 3 v))) := F1.tr fr16
    have head : fX7_setBudget h m x = fX7_setBudget_c4 m (nI v) g := by
      rw [fX7_setBudget_e]
      rw [v3] at pin ⊢
      simp (disch := first | assumption | ((repeat apply RefT.s) <;> assumption) | omega) only [nl, nI_add, pk_mul, Option.bind_some, zb2_some, nI_le_t, nI_le_f, nI_lt_t, nI_lt_f, nI_eq_t, nI_eq_f, nI_m1, nI_em1, ↓reduceIte, Nat.add_zero, nI_n9, hT.1, pin, rf, tn']
    generalize hg2 : zrow g (m + 16) (nr (va_up (atg A) 3 v)) = g2 at *
    cases hm : nbud (atg A) v with
    | none =>
      obtain ⟨ρ3, q1, q2⟩ := n_makeRoom_nz (h := g2) (I := zI g2) (a := m + 16) (b := 0) (but := 99) (bb := -9) (et := true) (ei := 1) (rk16 hT2) (rl16 hT2) nbut_none (by omega) rfl f16 nb zb hm
      have q1' : fX7_makeRoom g2 (m + 16) (nI 0) (nI 4294967287) (nI 1) = some (nI 0, zrow g2 (m + 16) (nr ρ3)) := by
        rw [← nI_n9]
        exact q1
      have R3 := RI_try (τ := ρ3) R2 q2
      have rf2 := r_ref (k := 2) R3.1 (by omega)
      rw [if_neg (by decide)] at rf2
      have e : fX7_setBudget h m x = some (nI 0, zsI (zrow g2 (m + 16) (nr ρ3)) m 0 (nI 2)) := by
        rw [head]
        unfold fX7_setBudget_c4
        simp (disch := first | assumption | ((repeat apply RefT.s) <;> assumption) | omega) only [nl, nI_add, pk_mul, Option.bind_some, zb2_some, nI_le_t, nI_le_f, nI_lt_t, nI_lt_f, nI_eq_t, nI_eq_f, nI_m1, nI_em1, ↓reduceIte, Nat.add_zero, nI_n9, qg16, wr, q1', rf2]
        unfold fX7_setBudget_c5
        simp (disch := first | assumption | ((repeat apply RefT.s) <;> assumption) | omega) only [nl, nI_add, pk_mul, Option.bind_some, zb2_some, nI_le_t, nI_le_f, nI_lt_t, nI_lt_f, nI_eq_t, nI_eq_f, nI_m1, nI_em1, ↓reduceIte, Nat.add_zero, nI_n9]
      rw [e]
      exact RO_no R3 (F2.tr fr16) rfl (by omega)
    | some ρ' =>
      have q1 := n_makeRoom_ok (h := g2) (I := zI g2) (a := m + 16) (b := 0) (but := 99) (bb := -9) (et := true) (ei := 1) (rk16 hT2) (rl16 hT2) nbut_none (by omega) rfl f16 nb hm
      have q1' : fX7_makeRoom g2 (m + 16) (nI 0) (nI 4294967287) (nI 1) = some (nI 1, zrow g2 (m + 16) (nr ρ')) := by
        rw [← nI_n9]
        exact q1
      obtain ⟨k1, k2⟩ := rok_bud tr n20 ⟨v1, v2⟩ hm
      have R3 := RI_try (τ := ρ') R2 k1.2.1
      have rf2 := r_ref (k := 0) R3.1 (by omega)
      rw [if_pos rfl] at rf2
      obtain ⟨h8, d1, d2, d3, d4⟩ := r_accept (τ := ρ') (RI_0 (v := nI 0) R3) a4 (by rw [sI_a (by omega), rw_at]) k1.2.1 a3.2.1
      have us : fX7_used h8 (m + 15) = some (nI (nus ρ' (ρ' 0)), h8) := n_used (h := h8) (I := zI h8) (rk15 d2.1) (rl15 d2.1) d2.2.2.2.1 k1.1.1
      have hT8 := d2.1
      refine ⟨nI (nus ρ' (ρ' 0)), h8, ?_, fun _ => rfl, ?_, d2, ((F2.tr fr16).tr fr0).tr d3⟩
      · rw [head]
        unfold fX7_setBudget_c4
        simp (disch := first | assumption | ((repeat apply RefT.s) <;> assumption) | omega) only [nl, nI_add, pk_mul, Option.bind_some, zb2_some, nI_le_t, nI_le_f, nI_lt_t, nI_lt_f, nI_eq_t, nI_eq_f, nI_m1, nI_em1, ↓reduceIte, Nat.add_zero, nI_n9, qg16, wr, q1', rf2]
        unfold fX7_setBudget_c6
        simp (disch := first | assumption | ((repeat apply RefT.s) <;> assumption) | omega) only [nl, nI_add, pk_mul, Option.bind_some, zb2_some, nI_le_t, nI_le_f, nI_lt_t, nI_lt_f, nI_eq_t, nI_eq_f, nI_m1, nI_em1, ↓reduceIte, Nat.add_zero, nI_n9, d1, qg15, us]
      · rw [d4 0 (by omega), sI_at]
  · rw [if_pos c1]
    rw [if_neg c1] at pin
    have rf := r_ref (k := 1) hT (by omega)
    rw [if_neg (by decide)] at rf
    have e : fX7_setBudget h m x = some (nI 0, zsI h m 0 (nI 1)) := by
      rw [fX7_setBudget_e]
      simp (disch := first | assumption | ((repeat apply RefT.s) <;> assumption) | omega) only [nl, nI_add, pk_mul, Option.bind_some, zb2_some, nI_le_t, nI_le_f, nI_lt_t, nI_lt_f, nI_eq_t, nI_eq_f, nI_m1, nI_em1, ↓reduceIte, Nat.add_zero, nI_n9, hT.1, pin, rf]
    rw [e]
    exact RO_no hR Fr.rf rfl (by omega)
theorem row_of {r : Nat → Int32} {f g : zN'} {sp : Nat} (hg : rz g) (hf : rz f) (h : ∀ j, j < 360 → r (sp + j) = nI (f j)) : va_cpy r (nr g) sp 0 360 = nr f := by
  funext j
  by_cases c : j < 360
  · rw [pk_cpy_in (by omega) (by omega), show sp + (j - 0) = sp + j by omega, h j c]
    rfl
  · rw [pk_cpy_out (by omega)]
    show nI (g j) = nI (f j)
    rw [hg j (by omega), hf j (by omega)]
theorem r_undo {t : Nat} (hR : RI h m A) (hA : AI t A) : RO h m (fX7_undo h m) (undoS A) := by
  obtain ⟨a1, hO, ⟨a3, a3t⟩, a4, a5, a6⟩ := hA
  obtain ⟨hT, ⟨r2, r3⟩, r4, r5, r6, r7, r8, r9, s1, s2, s3, s4, s5⟩ := id hR
  unfold undoS
  by_cases c : anh A = 0
  · rw [if_pos c]
    have rf := r_ref (k := 1) hT (by omega)
    rw [if_neg (by decide)] at rf
    have e : fX7_undo h m = some (nI 0, zsI h m 0 (nI 1)) := by
      unfold fX7_undo
      simp (disch := first | assumption | ((repeat apply RefT.s) <;> assumption) | omega) only [nl, nI_add, pk_mul, Option.bind_some, zb2_some, nI_le_t, nI_le_f, nI_lt_t, nI_lt_f, nI_eq_t, nI_eq_f, nI_m1, nI_em1, ↓reduceIte, Nat.add_zero, nI_n9, hT.1, qI, r6, c, rf]
    rw [e]
    exact RO_no hR Fr.rf rfl (by omega)
  · rw [if_neg c]
    have rf := r_ref (k := 0) hT (by omega)
    rw [if_pos rfl] at rf
    have hT1 : RefT (zsI h m 0 (nI 0)) m := hT.s
    have hT2 : RefT (zsI (zsI h m 0 (nI 0)) m 28 (nI (anh A - 1))) m := hT1.s
    have i28 : zI (zsI h m 0 (nI 0)) m 28 = nI (anh A) := by rw [sI_k (by omega)]; exact r6
    have j28 : zI (zsI (zsI h m 0 (nI 0)) m 28 (nI (anh A - 1))) m 28 = nI (anh A - 1) := sI_at
    have hi := (a5 (anh A - 1) (by omega)).1
    have cp : fX7_copyRow (zsI (zsI h m 0 (nI 0)) m 28 (nI (anh A - 1))) (m + 18) (nI (360 * (anh A - 1))) (m + 15) (nI 0) (nI 360) = some (zrow (zsI (zsI h m 0 (nI 0)) m 28 (nI (anh A - 1))) (m + 15) (nr (aH A (anh A - 1)))) := by
      rw [q_copyRow (360 * (anh A - 1)) 0 360 (rk18 hT2) (rk15 hT2) (by rw [rl18 hT2]; omega) (by rw [rl15 hT2]; omega) (by rw [rl18 hT2]; omega) (by rw [rl15 hT2]; omega) (Or.inl (by omega)), sI_a (by omega), sI_a (by omega), sI_a (by omega), sI_a (by omega), r5, row_of a3.2.1 hi.2.1 (r7 (anh A - 1) (by omega))]
    have hT3 := hT2.r (a := m + 15) (r := nr (aH A (anh A - 1)))
    have k28 : zI (zrow (zsI (zsI h m 0 (nI 0)) m 28 (nI (anh A - 1))) (m + 15) (nr (aH A (anh A - 1)))) m 28 = nI (anh A - 1) := by rw [rw_a (by omega)]; exact j28
    have o : ∀ a, a ≠ m → a ≠ m + 15 → zI (zrow (zsI (zsI h m 0 (nI 0)) m 28 (nI (anh A - 1))) (m + 15) (nr (aH A (anh A - 1)))) a = zI h a := fun a h1 h2 => by rw [rw_a h2, sI_a h1, sI_a h1]
    have om : ∀ k, k ≠ 0 → k ≠ 28 → zI (zrow (zsI (zsI h m 0 (nI 0)) m 28 (nI (anh A - 1))) (m + 15) (nr (aH A (anh A - 1)))) m k = zI h m k := fun k h0 h1 => by rw [rw_a (by omega), sI_k h1, sI_k h0]
    refine ⟨nI (anh A - 1), zrow (zsI (zsI h m 0 (nI 0)) m 28 (nI (anh A - 1))) (m + 15) (nr (aH A (anh A - 1))), ?_, fun _ => rfl, ?_, ?_, ⟨rfl, rfl, rfl, fun a ha => ⟨o a (by omega) (by omega), rfl⟩⟩⟩
    · unfold fX7_undo
      simp (disch := first | assumption | ((repeat apply RefT.s) <;> assumption) | omega) only [nl, nI_add, pk_mul, Option.bind_some, zb2_some, nI_le_t, nI_le_f, nI_lt_t, nI_lt_f, nI_eq_t, nI_eq_f, nI_m1, nI_em1, ↓reduceIte, Nat.add_zero, nI_n9, hT.1, qI, r6, rf, i28, pk_sub, qp, qg18, qg15, sgP, j28, cp, k28]
    · rw [rw_a (by omega), sI_k (by omega), sI_at]
    · refine ⟨hT3, ⟨by rw [om 2 (by omega) (by omega)]; exact r2, fun i hi => by rw [o _ (by omega) (by omega)]; exact r3 i hi⟩, ?_, rw_at, k28, fun i hi j hj => ?_, fun k hk => by rw [o _ (by omega) (by omega)]; exact r8 k hk, fun k hk f j hj => by rw [o _ (by omega) (by omega)]; exact r9 k hk f j hj, ?_⟩
      · unfold RBd
        rw [om 4 (by omega) (by omega), om 5 (by omega) (by omega), om 6 (by omega) (by omega), o (m + 2) (by omega) (by omega), o (m + 3) (by omega) (by omega), o (m + 4) (by omega) (by omega), o (m + 5) (by omega) (by omega), o (m + 6) (by omega) (by omega), o (m + 7) (by omega) (by omega)]
        exact r4
      · have hi : i < anh A - 1 := hi
        rw [o _ (by omega) (by omega)]
        exact r7 i (by omega) j hj
      · unfold Scr
        rw [o _ (by omega) (by omega), o _ (by omega) (by omega), o _ (by omega) (by omega), o _ (by omega) (by omega), o _ (by omega) (by omega)]
        exact ⟨s1, s2, s3, s4, s5⟩
theorem in01 (h : zH) (x : Int32) : fX7_in h x.toInt64 0 1 = some (if x < 0 ∨ nI 2 ≤ x then 0 else 1, h) := p_in0 h x (c := 2) (by omega)
theorem r_save {t : Nat} (hR : RI h m A) (hA : AI t A) (x : Int32) : RO h m (fX7_save h m x) (saveS A x) := by
  obtain ⟨a1, hO, ⟨a3, a3t⟩, a4, a5, a6⟩ := hA
  obtain ⟨hT, ⟨r2, r3⟩, r4, r5, r6, r7, r8, r9, s1, s2, s3, s4, s5⟩ := id hR
  have pin := in01 h x
  unfold saveS
  by_cases c1 : outI x 2
  · rw [if_pos c1] at pin ⊢
    have rf := r_ref (k := 1) hT (by omega)
    rw [if_neg (by decide)] at rf
    have e : fX7_save h m x = some (nI 0, zsI h m 0 (nI 1)) := by
      unfold fX7_save
      simp (disch := first | assumption | ((repeat apply RefT.s) <;> assumption) | omega) only [nl, nI_add, pk_mul, Option.bind_some, zb2_some, nI_le_t, nI_le_f, nI_lt_t, nI_lt_f, nI_eq_t, nI_eq_f, nI_m1, nI_em1, ↓reduceIte, Nat.add_zero, nI_n9, hT.1, pin, rf]
    rw [e]
    exact RO_no hR Fr.rf rfl (by omega)
  · rw [if_neg c1] at pin ⊢
    obtain ⟨k, f1, f2, f3⟩ := in_f (by omega) c1
    rw [f3]
    have rf := r_ref (k := 0) hT (by omega)
    rw [if_pos rfl] at rf
    have hT1 : RefT (zsI h m 0 (nI 0)) m := hT.s
    have wr : zbZ (zsI h m 0 (nI 0)) (m + 20) (nI k) (nI 1) = some (zsI (zsI h m 0 (nI 0)) (m + 20) k (nI 1)) := qb20 hT1 (Or.inr rfl) f1
    have hT2 : RefT (zsI (zsI h m 0 (nI 0)) (m + 20) k (nI 1)) m := hT1.s
    have cp : fX7_copyRow (zsI (zsI h m 0 (nI 0)) (m + 20) k (nI 1)) (m + 15) (nI 0) (m + 19) (nI (360 * k)) (nI 360) = some (zrow (zsI (zsI h m 0 (nI 0)) (m + 20) k (nI 1)) (m + 19) (va_cpy (nr (aρ A)) (zI h (m + 19)) 0 (360 * k) 360)) := by
      rw [q_copyRow 0 (360 * k) 360 (rk15 hT2) (rk19 hT2) (by rw [rl15 hT2]; omega) (by rw [rl19 hT2]; omega) (by rw [rl15 hT2]; omega) (by rw [rl19 hT2]; omega) (Or.inl (by omega)), sI_a (by omega), sI_a (by omega), sI_a (by omega), sI_a (by omega), r5]
    have hT3 := hT2.r (a := m + 19) (r := va_cpy (nr (aρ A)) (zI h (m + 19)) 0 (360 * k) 360)
    have o : ∀ a, a ≠ m → a ≠ m + 19 → a ≠ m + 20 → zI (zrow (zsI (zsI h m 0 (nI 0)) (m + 20) k (nI 1)) (m + 19) (va_cpy (nr (aρ A)) (zI h (m + 19)) 0 (360 * k) 360)) a = zI h a := fun a h1 h2 h3 => by rw [rw_a h2, sI_a h3, sI_a h1]
    have om : ∀ j, j ≠ 0 → zI (zrow (zsI (zsI h m 0 (nI 0)) (m + 20) k (nI 1)) (m + 19) (va_cpy (nr (aρ A)) (zI h (m + 19)) 0 (360 * k) 360)) m j = zI h m j := fun j h0 => by rw [rw_a (by omega), sI_a (by omega), sI_k h0]
    have rd : zaI (zrow (zsI (zsI h m 0 (nI 0)) (m + 20) k (nI 1)) (m + 19) (va_cpy (nr (aρ A)) (zI h (m + 19)) 0 (360 * k) 360)) (m + 15) (nI 0) = some (nI (aρ A 0)) := by rw [qa15 hT3 (by omega), o _ (by omega) (by omega) (by omega), r5]; rfl
    refine ⟨nI (aρ A 0), zrow (zsI (zsI h m 0 (nI 0)) (m + 20) k (nI 1)) (m + 19) (va_cpy (nr (aρ A)) (zI h (m + 19)) 0 (360 * k) 360), ?_, fun _ => rfl, ?_, ?_, ⟨rfl, rfl, rfl, fun a ha => ⟨o a (by omega) (by omega) (by omega), rfl⟩⟩⟩
    · subst f2
      unfold fX7_save
      simp (disch := first | assumption | ((repeat apply RefT.s) <;> assumption) | omega) only [nl, nI_add, pk_mul, Option.bind_some, zb2_some, nI_le_t, nI_le_f, nI_lt_t, nI_lt_f, nI_eq_t, nI_eq_f, nI_m1, nI_em1, ↓reduceIte, Nat.add_zero, nI_n9, hT.1, pin, rf, qg20, wr, qg15, qg19, sgP, cp, rd]
    · rw [rw_a (by omega), sI_a (by omega), sI_at]
    · refine ⟨hT3, ⟨by rw [om 2 (by omega)]; exact r2, fun i hi => by rw [o _ (by omega) (by omega) (by omega)]; exact r3 i hi⟩, ?_, by rw [o _ (by omega) (by omega) (by omega)]; exact r5, by rw [om 28 (by omega)]; exact r6, fun i hi j hj => by rw [o _ (by omega) (by omega) (by omega)]; exact r7 i hi j hj, fun i hi => ?_, fun i hi f j hj => ?_, ?_⟩
      · unfold RBd
        rw [om 4 (by omega), om 5 (by omega), om 6 (by omega), o (m + 2) (by omega) (by omega) (by omega), o (m + 3) (by omega) (by omega) (by omega), o (m + 4) (by omega) (by omega) (by omega), o (m + 5) (by omega) (by omega) (by omega), o (m + 6) (by omega) (by omega) (by omega), o (m + 7) (by omega) (by omega) (by omega)]
        exact r4
      · show _ = nI (if (if i = k then true else afl A i) = true then 1 else 0)
        rw [rw_a (by omega)]
        by_cases q : i = k
        · rw [if_pos q, if_pos rfl, q, sI_at]
        · rw [if_neg q, sI_k q, sI_a (by omega)]
          exact r8 i hi
      · have f : (if i = k then true else afl A i) = true := f
        show _ = nI ((if i = k then aρ A else aK A i) j)
        rw [rw_at]
        by_cases q : i = k
        · rw [if_pos q, pk_cpy_in (by omega) (by omega), show 0 + (360 * i + j - 360 * k) = j by rw [q]; omega]
          rfl
        · rw [if_neg q] at f
          rw [if_neg q, pk_cpy_out (by omega)]
          exact r9 i hi f j hj
      · unfold Scr
        rw [o _ (by omega) (by omega) (by omega), o _ (by omega) (by omega) (by omega), o _ (by omega) (by omega) (by omega), o _ (by omega) (by omega) (by omega), o _ (by omega) (by omega) (by omega)]
        exact ⟨s1, s2, s3, s4, s5⟩
theorem r_res {t : Nat} (hR : RI h m A) (hA : AI t A) (x : Int32) : RO h m (fX7_restore h m x) (resS A x) := by
  obtain ⟨a1, hO, ⟨a3, a3t⟩, a4, a5, a6⟩ := hA
  obtain ⟨hT, ⟨r2, r3⟩, r4, r5, r6, r7, r8, r9, s1, s2, s3, s4, s5⟩ := id hR
  have pin := in01 h x
  unfold resS
  by_cases c1 : outI x 2
  · rw [if_pos c1] at pin ⊢
    have rf := r_ref (k := 1) hT (by omega)
    rw [if_neg (by decide)] at rf
    have e : fX7_restore h m x = some (nI 0, zsI h m 0 (nI 1)) := by
      unfold fX7_restore
      simp (disch := first | assumption | ((repeat apply RefT.s) <;> assumption) | omega) only [nl, nI_add, pk_mul, Option.bind_some, zb2_some, nI_le_t, nI_le_f, nI_lt_t, nI_lt_f, nI_eq_t, nI_eq_f, nI_m1, nI_em1, ↓reduceIte, Nat.add_zero, nI_n9, hT.1, pin, rf]
    rw [e]
    exact RO_no hR Fr.rf rfl (by omega)
  · rw [if_neg c1] at pin ⊢
    obtain ⟨k, f1, f2, f3⟩ := in_f (by omega) c1
    rw [f3]
    have kf := r8 k f1
    have rz0 : zaZ h (m + 20) (nI k) = some (nI (if afl A k = true then 1 else 0)) := by rw [qa20 hT f1, kf]
    cases fl : afl A k with
    | false =>
      rw [if_pos rfl]
      rw [fl, if_neg (by decide)] at rz0
      have rf := r_ref (k := 2) hT (by omega)
      rw [if_neg (by decide)] at rf
      have e : fX7_restore h m x = some (nI 0, zsI h m 0 (nI 2)) := by
        subst f2
        unfold fX7_restore
        simp (disch := first | assumption | ((repeat apply RefT.s) <;> assumption) | omega) only [nl, nI_add, pk_mul, Option.bind_some, zb2_some, nI_le_t, nI_le_f, nI_lt_t, nI_lt_f, nI_eq_t, nI_eq_f, nI_m1, nI_em1, ↓reduceIte, Nat.add_zero, nI_n9, hT.1, pin, qg20, rz0, rf]
      rw [e]
      exact RO_no hR Fr.rf rfl (by omega)
    | true =>
      have nf : ¬ true = false := fun z => by cases z
      rw [if_neg nf]
      rw [fl, if_pos rfl] at rz0
      have rf := r_ref (k := 0) hT (by omega)
      rw [if_pos rfl] at rf
      have hi := (a6 k f1 fl).1
      have hT1 : RefT (zsI h m 0 (nI 0)) m := hT.s
      have cp : fX7_copyRow (zsI h m 0 (nI 0)) (m + 19) (nI (360 * k)) (m + 15) (nI 0) (nI 360) = some (zrow (zsI h m 0 (nI 0)) (m + 15) (nr (aK A k))) := by
        rw [q_copyRow (360 * k) 0 360 (rk19 hT1) (rk15 hT1) (by rw [rl19 hT1]; omega) (by rw [rl15 hT1]; omega) (by rw [rl19 hT1]; omega) (by rw [rl15 hT1]; omega) (Or.inl (by omega)), sI_a (by omega), sI_a (by omega), r5, row_of a3.2.1 hi.2.1 (r9 k f1 fl)]
      have hT2 : RefT (zrow (zsI h m 0 (nI 0)) (m + 15) (nr (aK A k))) m := hT1.r
      have hT3 : RefT (zsI (zrow (zsI h m 0 (nI 0)) (m + 15) (nr (aK A k))) m 28 (nI 0)) m := hT2.s
      have o : ∀ a, a ≠ m → a ≠ m + 15 → zI (zsI (zrow (zsI h m 0 (nI 0)) (m + 15) (nr (aK A k))) m 28 (nI 0)) a = zI h a := fun a h1 h2 => by rw [sI_a h1, rw_a h2, sI_a h1]
      have om : ∀ j, j ≠ 0 → j ≠ 28 → zI (zsI (zrow (zsI h m 0 (nI 0)) (m + 15) (nr (aK A k))) m 28 (nI 0)) m j = zI h m j := fun j h0 h1 => by rw [sI_k h1, rw_a (by omega), sI_k h0]
      have e15 : zI (zsI (zrow (zsI h m 0 (nI 0)) (m + 15) (nr (aK A k))) m 28 (nI 0)) (m + 15) = nr (aK A k) := by rw [sI_a (by omega), rw_at]
      have rd : zaI (zsI (zrow (zsI h m 0 (nI 0)) (m + 15) (nr (aK A k))) m 28 (nI 0)) (m + 15) (nI 0) = some (nI (aK A k 0)) := by rw [qa15 hT3 (by omega), e15]; rfl
      refine ⟨nI (aK A k 0), zsI (zrow (zsI h m 0 (nI 0)) (m + 15) (nr (aK A k))) m 28 (nI 0), ?_, fun _ => rfl, ?_, ?_, ⟨rfl, rfl, rfl, fun a ha => ⟨o a (by omega) (by omega), rfl⟩⟩⟩
      · subst f2
        unfold fX7_restore
        simp (disch := first | assumption | ((repeat apply RefT.s) <;> assumption) | omega) only [nl, nI_add, pk_mul, Option.bind_some, zb2_some, nI_le_t, nI_le_f, nI_lt_t, nI_lt_f, nI_eq_t, nI_eq_f, nI_m1, nI_em1, ↓reduceIte, Nat.add_zero, nI_n9, hT.1, pin, qg20, rz0, rf, qg19, qg15, cp, qp, sgP, rd]
      · rw [sI_k (by omega), rw_a (by omega), sI_at]
      · refine ⟨hT3, ⟨by rw [om 2 (by omega) (by omega)]; exact r2, fun i hi => by rw [o _ (by omega) (by omega)]; exact r3 i hi⟩, ?_, e15, sI_at, fun i hi => absurd hi (Nat.not_lt_zero _), fun i hi => by rw [o _ (by omega) (by omega)]; exact r8 i hi, fun i hi f j hj => by rw [o _ (by omega) (by omega)]; exact r9 i hi f j hj, ?_⟩
        · unfold RBd
          rw [om 4 (by omega) (by omega), om 5 (by omega) (by omega), om 6 (by omega) (by omega), o (m + 2) (by omega) (by omega), o (m + 3) (by omega) (by omega), o (m + 4) (by omega) (by omega), o (m + 5) (by omega) (by omega), o (m + 6) (by omega) (by omega), o (m + 7) (by omega) (by omega)]
          exact r4
        · unfold Scr
          rw [o _ (by omega) (by omega), o _ (by omega) (by omega), o _ (by omega) (by omega), o _ (by omega) (by omega), o _ (by omega) (by omega)]
          exact ⟨s1, s2, s3, s4, s5⟩
end RACTS4
