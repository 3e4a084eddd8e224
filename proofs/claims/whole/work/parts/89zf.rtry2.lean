/-! pure: the reference's tries, the whole -/
/-- what tries answers -/
def TrR (h : zH) (m : Nat) (A : zSt) (τ : zN') (r : Option (Int32 × zH)) (o : Option zN') : Prop := (o = none → ∃ g, r = some (nI 0, g) ∧ RI g m A ∧ Fr m (m + 24) h g ∧ zI g m 0 = zI h m 0 ∧ zI g (m + 16) = nr τ) ∧ ∀ τ', o = some τ' → ∃ g, r = some (nI 1, g) ∧ RI g m A ∧ Fr m (m + 24) h g ∧ zI g m 0 = zI h m 0 ∧ zI g (m + 16) = nr τ' ∧ rok (anf A) (anc A) τ' ∧ τ' 1 ≤ τ 1 + 1
section RTRY2
variable {h : zH} {m : Nat} {A : zSt} {τ : zN'}
theorem r_tries {k : Nat} (hR : RI h m A) (hO : bOK (anf A) (anc A) (anp A) (afr A) (att A) (agr A) (alo A) (aac A) (ali A)) (e16 : zI h (m + 16) = nr τ) (tr : rok (anf A) (anc A) τ) (ht : τ 1 + 1 < 10000) (hk : k = 1 ∨ k = 2 ∨ k = 3) (x y : Int32) : TrR h m A τ (fX7_tries h m (nI k) x y) (tryR A k τ x y) := by
  have hT := hR.1
  obtain ⟨-, -, -, -, -, -, -, -, -, -, ⟨os, s3, s3z⟩, -⟩ := id hR
  have cp : fX7_copyRow h (m + 16) (nI 0) (m + 23) (nI 0) (nI 360) = some (zrow h (m + 23) (nr τ)) := by
    rw [q_copyRow 0 0 360 (rk16 hT) (rk23 hT) (by rw [rl16 hT]; omega) (by rw [rl23 hT]; omega) (by rw [rl16 hT]; omega) (by rw [rl23 hT]; omega) (Or.inl (by omega)), e16, s3, cpy_row tr.2.1 s3z]
  have R1 := RI_sp (τ := τ) hR tr.2.1
  have F1 : Fr m (m + 24) h (zrow h (m + 23) (nr τ)) := fr23
  have g16 : zI (zrow h (m + 23) (nr τ)) (m + 16) = nr τ := by rw [rw_a (by omega)]; exact e16
  have g23 : zI (zrow h (m + 23) (nr τ)) (m + 23) = nr τ := rw_at
  have g0 : zI (zrow h (m + 23) (nr τ)) m 0 = zI h m 0 := by rw [rw_a (by omega)]
  generalize zrow h (m + 23) (nr τ) = g at *
  have hT1 := R1.1
  have bk : ∀ g', RI g' m A → zI g' (m + 23) = zI g (m + 23) → fX7_copyRow g' (m + 23) (nI 0) (m + 16) (nI 0) (nI 360) = some (zrow g' (m + 16) (nr τ)) := fun g' R' e' => by
    obtain ⟨T', -, -, -, -, -, -, -, ⟨o1, u1, u1z⟩, -⟩ := id R'
    rw [q_copyRow 0 0 360 (rk23 T') (rk16 T') (by rw [rl23 T']; omega) (by rw [rl16 T']; omega) (by rw [rl23 T']; omega) (by rw [rl16 T']; omega) (Or.inl (by omega)), e', g23, u1, cpy_row tr.2.1 u1z]
  rcases hk with rfl | rfl | rfl
  · obtain ⟨o1, o2⟩ := o_copy R1 hO g16 tr ht x y
    refine ⟨fun q => ?_, fun τ' q => ?_⟩
    · obtain ⟨c, g', c1, c10, p1, p2, p3, p4, p5⟩ := o1 q
      have b := bk g' p2 p3
      have T' := p2.1
      refine ⟨_, ?_, RI_try p2 tr.2.1, (F1.tr p4).tr fr16, by rw [rw_a (by omega), p5, g0], rw_at⟩
      unfold fX7_tries
      simp (disch := first | assumption | ((repeat apply RefT.s) <;> assumption) | omega) only [nl, nI_add, pk_mul, Option.bind_some, zb2_some, nI_le_t, nI_le_f, nI_lt_t, nI_lt_f, nI_eq_t, nI_eq_f, nI_m1, nI_em1, ↓reduceIte, Nat.add_zero, nI_n9, hT.1, qg16, qg23, cp, p1, b]
    · obtain ⟨g', p1, p2, p3, p4, p5, p6, p7, p8⟩ := o2 τ' q
      refine ⟨g', ?_, p2, F1.tr p4, p5.trans g0, p6, p7, by omega⟩
      unfold fX7_tries
      simp (disch := first | assumption | ((repeat apply RefT.s) <;> assumption) | omega) only [nl, nI_add, pk_mul, Option.bind_some, zb2_some, nI_le_t, nI_le_f, nI_lt_t, nI_lt_f, nI_eq_t, nI_eq_f, nI_m1, nI_em1, ↓reduceIte, Nat.add_zero, nI_n9, hT.1, qg16, qg23, cp, p1]
  · obtain ⟨o1, o2⟩ := o_offer R1 hO g16 tr ht x y
    refine ⟨fun q => ?_, fun τ' q => ?_⟩
    · obtain ⟨c, g', c1, c10, p1, p2, p3, p4, p5⟩ := o1 q
      have b := bk g' p2 p3
      have T' := p2.1
      refine ⟨_, ?_, RI_try p2 tr.2.1, (F1.tr p4).tr fr16, by rw [rw_a (by omega), p5, g0], rw_at⟩
      unfold fX7_tries
      simp (disch := first | assumption | ((repeat apply RefT.s) <;> assumption) | omega) only [nl, nI_add, pk_mul, Option.bind_some, zb2_some, nI_le_t, nI_le_f, nI_lt_t, nI_lt_f, nI_eq_t, nI_eq_f, nI_m1, nI_em1, ↓reduceIte, Nat.add_zero, nI_n9, hT.1, qg16, qg23, cp, p1, b]
    · obtain ⟨g', p1, p2, p3, p4, p5, p6, p7, p8⟩ := o2 τ' q
      refine ⟨g', ?_, p2, F1.tr p4, p5.trans g0, p6, p7, by omega⟩
      unfold fX7_tries
      simp (disch := first | assumption | ((repeat apply RefT.s) <;> assumption) | omega) only [nl, nI_add, pk_mul, Option.bind_some, zb2_some, nI_le_t, nI_le_f, nI_lt_t, nI_lt_f, nI_eq_t, nI_eq_f, nI_m1, nI_em1, ↓reduceIte, Nat.add_zero, nI_n9, hT.1, qg16, qg23, cp, p1]
  · obtain ⟨o1, o2⟩ := o_paste R1 hO g16 tr ht x y
    refine ⟨fun q => ?_, fun τ' q => ?_⟩
    · obtain ⟨c, g', c1, c10, p1, p2, p3, p4, p5⟩ := o1 q
      have b := bk g' p2 p3
      have T' := p2.1
      refine ⟨_, ?_, RI_try p2 tr.2.1, (F1.tr p4).tr fr16, by rw [rw_a (by omega), p5, g0], rw_at⟩
      unfold fX7_tries
      simp (disch := first | assumption | ((repeat apply RefT.s) <;> assumption) | omega) only [nl, nI_add, pk_mul, Option.bind_some, zb2_some, nI_le_t, nI_le_f, nI_lt_t, nI_lt_f, nI_eq_t, nI_eq_f, nI_m1, nI_em1, ↓reduceIte, Nat.add_zero, nI_n9, hT.1, qg16, qg23, cp, p1, b]
    · obtain ⟨g', p1, p2, p3, p4, p5, p6, p7, p8⟩ := o2 τ' q
      refine ⟨g', ?_, p2, F1.tr p4, p5.trans g0, p6, p7, by omega⟩
      unfold fX7_tries
      simp (disch := first | assumption | ((repeat apply RefT.s) <;> assumption) | omega) only [nl, nI_add, pk_mul, Option.bind_some, zb2_some, nI_le_t, nI_le_f, nI_lt_t, nI_lt_f, nI_eq_t, nI_eq_f, nI_m1, nI_em1, ↓reduceIte, Nat.add_zero, nI_n9, hT.1, qg16, qg23, cp, p1]
end RTRY2
