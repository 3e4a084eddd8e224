/-! pure: the reference's readText, whole -/
section RTXT
variable {h g : zH} {m n s nf : Nat} {T : zN'} {B : zBd}
theorem tsD {h3 : zH} (P : fX7_passes h3 m (nI 75) = some (nI 1, zsI h3 m 3 (nI (0 + 1)))) : (zb2 (fX7_passes h3 m (nI 75)) fun w4 h5 => fX7_readText_c1 m w4 h5) = fX7_readText_c1 m (nI 1) (zsI h3 m 3 (nI 1)) := by
  rw [P]
  rfl
theorem tsB {h3 : zH} {f r : Nat} (hT0 : RefT h3 m) (D' : fX7_digit (zsI h3 m 3 (nI 1)) m = some (nI f, zsI h3 m 3 (nI 1))) (i : fX7_in (zsI (zsI h3 m 3 (nI 1)) m 13 (nI f)) (nI f).toInt64 1 8 = some (nI r, zsI (zsI h3 m 3 (nI 1)) m 13 (nI f))) : fX7_readText_c1 m (nI 1) (zsI h3 m 3 (nI 1)) = fX7_readText_c2 m (nI r) (zsI (zsI h3 m 3 (nI 1)) m 13 (nI f)) := by
  unfold fX7_readText_c1
  simp (disch := first | assumption | ((repeat apply RefT.s) <;> assumption) | omega) only [nl, nI_add, pk_mul, Option.bind_some, zb2_some, nI_le_t, nI_le_f, nI_lt_t, nI_lt_f, nI_eq_t, nI_eq_f, nI_m1, nI_em1, ↓reduceIte, Nat.add_zero, nI_n9, D', qp, qI, sI_at, i]
theorem tsC {h3 : zH} {f : Nat} (hT0 : RefT h3 m) : fX7_readText_c2 m (nI 0) (zsI (zsI h3 m 3 (nI 1)) m 13 (nI f)) = some (nI 1, zsI (zsI h3 m 3 (nI 1)) m 13 (nI f)) := by
  unfold fX7_readText_c2
  simp (disch := first | assumption | ((repeat apply RefT.s) <;> assumption) | omega) only [nl, nI_add, pk_mul, Option.bind_some, zb2_some, nI_le_t, nI_le_f, nI_lt_t, nI_lt_f, nI_eq_t, nI_eq_f, nI_m1, nI_em1, ↓reduceIte, Nat.add_zero, nI_n9, qI, sI_k, sI_at]
theorem tsF {h3 : zH} {f p b : Nat} (hT0 : RefT h3 m) (N' : fX7_number (zsI (zsI (zsI h3 m 3 (nI 1)) m 13 (nI f)) m 3 (nI 2)) m (nI 5) (nI 1) = some (nI b, zsI (zsI (zsI h3 m 3 (nI 1)) m 13 (nI f)) m 3 (nI p))) : fX7_readText_c2 m (nI 1) (zsI (zsI h3 m 3 (nI 1)) m 13 (nI f)) = fX7_readText_c3 m (zsI (zsI (zsI (zsI h3 m 3 (nI 1)) m 13 (nI f)) m 3 (nI p)) m 16 (nI b)) := by
  unfold fX7_readText_c2
  simp (disch := first | assumption | ((repeat apply RefT.s) <;> assumption) | omega) only [nl, nI_add, pk_mul, Option.bind_some, zb2_some, nI_le_t, nI_le_f, nI_lt_t, nI_lt_f, nI_eq_t, nI_eq_f, nI_m1, nI_em1, ↓reduceIte, Nat.add_zero, nI_n9, qI, qp, sI_k, sI_at, N']
theorem tsG {h3 : zH} {f p : Nat} (hT0 : RefT h3 m) : fX7_readText_c3 m (zsI (zsI (zsI (zsI h3 m 3 (nI 1)) m 13 (nI f)) m 3 (nI p)) m 16 (nI 4294967287)) = some (nI p, zsI (zsI (zsI (zsI h3 m 3 (nI 1)) m 13 (nI f)) m 3 (nI p)) m 16 (nI 4294967287)) := by
  unfold fX7_readText_c3
  simp (disch := first | assumption | ((repeat apply RefT.s) <;> assumption) | omega) only [nl, nI_add, pk_mul, Option.bind_some, zb2_some, nI_le_t, nI_le_f, nI_lt_t, nI_lt_f, nI_eq_t, nI_eq_f, nI_m1, nI_em1, ↓reduceIte, Nat.add_zero, nI_n9, qI, sI_k, sI_at]
theorem tsH {g : zH} {b : Nat} (hT0 : RefT g m) (e : zI g m 16 = nI b) (hb : b < 4294967287) : fX7_readText_c3 m g = fX7_readText_L91 (fun h24 => some (nI 4294967287, h24)) m zF g := by
  have nv := ne9 (w := b) hb
  unfold fX7_readText_c3
  simp (disch := first | assumption | ((repeat apply RefT.s) <;> assumption) | omega) only [nl, nI_add, pk_mul, Option.bind_some, zb2_some, nI_le_t, nI_le_f, nI_lt_t, nI_lt_f, nI_eq_t, nI_eq_f, nI_m1, nI_em1, ↓reduceIte, Nat.add_zero, nI_n9, qI, e, nv]
theorem r_text {s0 : Nat} (hX : RX h m T n s0) (ht : txt T n) :
    match ptext T n with
    | .inl p => ∃ h', fX7_readText h m = some (nI p, h') ∧ RTG m h h'
    | .inr (f, bu, B) => ∃ h', fX7_readText h m = some (nI 4294967287, h') ∧ RBr h' m f B ∧ zI h' m 16 = nI bu ∧ RTG m h h' := by
  obtain ⟨hT, x2, x3, xt⟩ := id hX
  have t1 := ht.1
  have F0 : RTF m h (zsI (zsI (zsI h m 3 (nI 0)) m 14 (nI 0)) m 15 (nI 0)) := ((RTF.sm (Or.inl rfl)).tr (RTF.sm (by omega))).tr (RTF.sm (by omega))
  have X0 : RX (zsI (zsI (zsI h m 3 (nI 0)) m 14 (nI 0)) m 15 (nI 0)) m T n 0 := hX.f F0 (by rw [sI_k (by omega), sI_k (by omega), sI_at])
  have e14 : zI (zsI (zsI (zsI h m 3 (nI 0)) m 14 (nI 0)) m 15 (nI 0)) m 14 = nI 0 := by rw [sI_k (by omega), sI_at]
  have e15 : zI (zsI (zsI (zsI h m 3 (nI 0)) m 14 (nI 0)) m 15 (nI 0)) m 15 = nI 0 := sI_at
  have hT0 : RefT (zsI (zsI (zsI h m 3 (nI 0)) m 14 (nI 0)) m 15 (nI 0)) m := hT.s.s.s
  have start : fX7_readText h m = zb2 (fX7_passes (zsI (zsI (zsI h m 3 (nI 0)) m 14 (nI 0)) m 15 (nI 0)) m (nI 75)) fun w4 h5 => fX7_readText_c1 m w4 h5 := by
    rw [fX7_readText_e]
    simp (disch := first | assumption | ((repeat apply RefT.s) <;> assumption) | omega) only [nl, nI_add, pk_mul, Option.bind_some, zb2_some, nI_le_t, nI_le_f, nI_lt_t, nI_lt_f, nI_eq_t, nI_eq_f, nI_m1, nI_em1, ↓reduceIte, Nat.add_zero, nI_n9, hT.1, qp]
  rw [start]
  generalize zsI (zsI (zsI h m 3 (nI 0)) m 14 (nI 0)) m 15 (nI 0) = h3 at *
  have P := r_passes (c := 75) X0 ht (by omega) (by omega)
  by_cases c : 0 < n ∧ T 0 = 75
  · rw [if_pos c] at P
    have X1 : RX (zsI h3 m 3 (nI 1)) m T n 1 := X0.sp
    have hT1 : RefT (zsI h3 m 3 (nI 1)) m := hT0.s
    have F1 : RTF m h (zsI h3 m 3 (nI 1)) := F0.tr (RTF.sm (Or.inl rfl))
    have D := r_digit X1 ht (by omega)
    cases hd : dg T n 1 with
    | none =>
      have pv : ptext T n = Sum.inl 1 := by
        unfold ptext
        rw [if_pos c, hd]
      rw [pv]
      rw [hd] at D
      have D' : fX7_digit (zsI h3 m 3 (nI 1)) m = some (nI 4294967287, zsI h3 m 3 (nI 1)) := D
      have i := in18n (zsI (zsI h3 m 3 (nI 1)) m 13 (nI 4294967287))
      refine ⟨zsI (zsI h3 m 3 (nI 1)) m 13 (nI 4294967287), ?_, (F1.tr (RTF.sm (by omega))).gg⟩
      exact (tsD P).trans ((tsB hT0 D' i).trans (tsC hT0))
    | some f =>
      obtain ⟨d1, d2, d3, d4, d5⟩ := dg_some hd
      rw [hd] at D
      have D' : fX7_digit (zsI h3 m 3 (nI 1)) m = some (nI f, zsI h3 m 3 (nI 1)) := D
      have i := in18 (zsI (zsI h3 m 3 (nI 1)) m 13 (nI f)) (d := f) (by omega)
      by_cases cf : 1 ≤ f ∧ f ≤ 8
      · rw [if_pos cf] at i
        have F2 : RTF m h (zsI (zsI (zsI h3 m 3 (nI 1)) m 13 (nI f)) m 3 (nI 2)) := (F1.tr (RTF.sm (by omega))).tr (RTF.sm (Or.inl rfl))
        have X2 : RX (zsI (zsI (zsI h3 m 3 (nI 1)) m 13 (nI f)) m 3 (nI 2)) m T n 2 := hX.f F2 sI_at
        have N := r_number (D := 5) (ab := true) X2 ht (by omega) (by omega)
        rw [if_pos rfl, sI_sI] at N
        have kn := pnum_ok (T := T) (n := n) (ab := true) 5 0 2 (by omega)
        cases hp : pnum T n true 5 0 2 with
        | mk o p =>
        rw [hp] at N kn
        dsimp only at kn
        obtain ⟨m1, m2, m3⟩ := kn
        cases o with
        | none =>
          have pv : ptext T n = Sum.inl p := by
            unfold ptext
            rw [if_pos c, hd]
            dsimp only
            rw [if_pos cf, hp]
          rw [pv]
          have N' : fX7_number (zsI (zsI (zsI h3 m 3 (nI 1)) m 13 (nI f)) m 3 (nI 2)) m (nI 5) (nI 1) = some (nI 4294967287, zsI (zsI (zsI h3 m 3 (nI 1)) m 13 (nI f)) m 3 (nI p)) := N
          refine ⟨zsI (zsI (zsI (zsI h3 m 3 (nI 1)) m 13 (nI f)) m 3 (nI p)) m 16 (nI 4294967287), ?_, ((F1.tr (RTF.sm (by omega))).tr (RTF.sm (Or.inl rfl))).gg.tr (RTG.sm (by omega))⟩
          exact (tsD P).trans ((tsB hT0 D' i).trans ((tsF hT0 N').trans (tsG hT0)))
        | some bu =>
          obtain ⟨k1, k2, -, -⟩ := m3 bu rfl
          have nv := ne9 (w := bu) (by omega)
          have N' : fX7_number (zsI (zsI (zsI h3 m 3 (nI 1)) m 13 (nI f)) m 3 (nI 2)) m (nI 5) (nI 1) = some (nI bu, zsI (zsI (zsI h3 m 3 (nI 1)) m 13 (nI f)) m 3 (nI p)) := N
          have F4 : RTG m h (zsI (zsI (zsI (zsI h3 m 3 (nI 1)) m 13 (nI f)) m 3 (nI p)) m 16 (nI bu))   := ((F1.tr (RTF.sm (by omega))).tr (RTF.sm (Or.inl rfl))).gg.tr (RTG.sm (by omega))
          have X4 : RX (zsI (zsI (zsI (zsI h3 m 3 (nI 1)) m 13 (nI f)) m 3 (nI p)) m 16 (nI bu)) m T n p := hX.fG F4 (by rw [sI_k (by omega), sI_at])
          have B4 : RBr (zsI (zsI (zsI (zsI h3 m 3 (nI 1)) m 13 (nI f)) m 3 (nI p)) m 16 (nI bu)) m f bz := by
            refine ⟨?_, ?_, ?_, fun c hc => absurd hc (Nat.not_lt_zero _), fun c hc => absurd hc (Nat.not_lt_zero _)⟩
            · rw [sI_k (by omega), sI_k (by omega), sI_at]
            · rw [sI_k (by omega), sI_k (by omega), sI_k (by omega), sI_k (by omega)]; exact e14
            · rw [sI_k (by omega), sI_k (by omega), sI_k (by omega), sI_k (by omega)]; exact e15
          have b16 : zI (zsI (zsI (zsI (zsI h3 m 3 (nI 1)) m 13 (nI f)) m 3 (nI p)) m 16 (nI bu)) m 16 = nI bu := sI_at
          have I := r_items (m := m) ht cf.1 pfu bz p _ zF (bkk_bz cf.2) X4 B4 m2 (by unfold pfu zF; omega)
          have rr : (zb2 (fX7_passes h3 m (nI 75)) fun w4 h5 => fX7_readText_c1 m w4 h5) = fX7_readText_L91 (fun h24 => some (nI 4294967287, h24)) m zF (zsI (zsI (zsI (zsI h3 m 3 (nI 1)) m 13 (nI f)) m 3 (nI p)) m 16 (nI bu)) := by
            exact (tsD P).trans ((tsB hT0 D' i).trans ((tsF hT0 N').trans (tsH hT0.s.s.s.s b16 (by omega))))
          rw [rr]
          generalize zsI (zsI (zsI (zsI h3 m 3 (nI 1)) m 13 (nI f)) m 3 (nI p)) m 16 (nI bu) = h20 at *
          clear rr
          obtain ⟨r, hr, -⟩ := pitems_ok (T := T) (n := n) cf.2 pfu bz p m2 (by unfold pfu; omega) (bkk_bz cf.2)
          rw [hr] at I
          cases r with
          | inl q =>
            have pv : ptext T n = Sum.inl q := by
              unfold ptext
              rw [if_pos c, hd]
              dsimp only
              rw [if_pos cf, hp]
              dsimp only
              rw [hr]
            rw [pv]
            obtain ⟨h2, j1, j2⟩ := I
            exact ⟨h2, j1, F4.tr j2.gg⟩
          | inr B' =>
            have pv : ptext T n = Sum.inr (f, bu, B') := by
              unfold ptext
              rw [if_pos c, hd]
              dsimp only
              rw [if_pos cf, hp]
              dsimp only
              rw [hr]
            rw [pv]
            obtain ⟨h2, j1, j2, j3⟩ := I
            exact ⟨h2, j1, j2, by rw [j3.2.2.2.2.2 16 (by omega) (by omega)]; exact b16, F4.tr j3.gg⟩
      · have pv : ptext T n = Sum.inl 1 := by
          unfold ptext
          rw [if_pos c, hd]
          dsimp only
          rw [if_neg cf]
        rw [pv]
        rw [if_neg cf] at i
        refine ⟨zsI (zsI h3 m 3 (nI 1)) m 13 (nI f), ?_, (F1.tr (RTF.sm (by omega))).gg⟩
        exact (tsD P).trans ((tsB hT0 D' i).trans (tsC hT0))
  · have pv : ptext T n = Sum.inl 0 := by
      unfold ptext
      rw [if_neg c]
    rw [pv]
    rw [if_neg c] at P
    refine ⟨h3, ?_, F0.gg⟩
    simp (disch := first | assumption | ((repeat apply RefT.s) <;> assumption) | omega) only [nl, nI_add, pk_mul, Option.bind_some, zb2_some, nI_le_t, nI_le_f, nI_lt_t, nI_lt_f, nI_eq_t, nI_eq_f, nI_m1, nI_em1, ↓reduceIte, Nat.add_zero, nI_n9, P]
    unfold fX7_readText_c1
    simp (disch := first | assumption | ((repeat apply RefT.s) <;> assumption) | omega) only [nl, nI_add, pk_mul, Option.bind_some, zb2_some, nI_le_t, nI_le_f, nI_lt_t, nI_lt_f, nI_eq_t, nI_eq_f, nI_m1, nI_em1, ↓reduceIte, Nat.add_zero, nI_n9, qI, X0.2.2.1]
end RTXT
