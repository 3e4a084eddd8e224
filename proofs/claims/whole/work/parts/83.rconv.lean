/-! pure: the reference reads conversions -/
section RCONV
variable {h g : zH} {m n s nf c : Nat} {T : zN'} {B : zBd}
theorem ne9 {w : Nat} (h : w < 4294967287) : (nI w = nI 4294967287) = False := eq_false fun z => by
  have := (nI_eqN (by omega) (by omega)).mp z
  omega
theorem RX.f {g' : zH} {p : Nat} (hX : RX g m T n s) (f : RTF m g g') (e : zI g' m 3 = nI p) : RX g' m T n p := ⟨f.rt hX.1, by rw [f.2.2.2.2.2 2 (by omega) (by omega)]; exact hX.2.1, e, fun i hi => by rw [f.2.2.2.2.1 (m + 1) (by omega) (by omega)]; exact hX.2.2.2 i hi⟩
theorem RX.fG {g' : zH} {p : Nat} (hX : RX g m T n s) (f : RTG m g g') (e : zI g' m 3 = nI p) : RX g' m T n p := ⟨f.rt hX.1, by rw [f.2.2.2.2.2 2 (by omega) (by omega)]; exact hX.2.1, e, fun i hi => by rw [f.2.2.2.2.1 (m + 1) (by omega) (by omega)]; exact hX.2.2.2 i hi⟩
/-- a conversion's numbers are read -/
def rcR (g : zH) (m : Nat) (T : zN') (n c : Nat) (r : Option (Int32 × zH)) (o1 : Option Nat × Nat) : Prop :=
  match o1 with
  | (none, p) => ∃ g', r = some (nI 0, g') ∧ zI g' m 3 = nI p ∧ RTF m g g'
  | (some vc, p1) => match pnum T n true 2 0 p1 with
    | (none, p) => ∃ g', r = some (nI 0, g') ∧ zI g' m 3 = nI p ∧ RTF m g g'
    | (some vg, p2) => match pnum T n false 1 0 p2 with
      | (none, p) => ∃ g', r = some (nI 0, g') ∧ zI g' m 3 = nI p ∧ RTF m g g'
      | (some vl, p3) => ∃ g', r = some (nI 1, g') ∧ zI g' m 3 = nI p3 ∧ RTF m g g' ∧ zI g' m 14 = nI (c + 1) ∧ zI g' m 13 = zI g m 13 ∧ zI g' m 15 = zI g m 15 ∧ zI g' (m + 10) c = nI vc ∧ zI g' (m + 11) c = nI vg ∧ zI g' (m + 12) c = nI vl ∧ (∀ y, y ≠ c → zI g' (m + 10) y = zI g (m + 10) y ∧ zI g' (m + 11) y = zI g (m + 11) y ∧ zI g' (m + 12) y = zI g (m + 12) y) ∧ zI g' (m + 8) = zI g (m + 8) ∧ zI g' (m + 9) = zI g (m + 9) ∧ zI g' (m + 13) = zI g (m + 13) ∧ zI g' (m + 14) = zI g (m + 14)
theorem rc4 (hX : RX g m T n s) (ht : txt T n) (hs : s ≤ n) (e14 : zI g m 14 = nI c) (hc : c < 20) : rcR g m T n c (fX7_readConversion_c4 m (nI c) g (m + 10)) (pnum T n true 2 0 s) := by
  obtain ⟨hT, x2, x3, xt⟩ := id hX
  have N1 := r_number (D := 2) (ab := true) hX ht hs (by omega)
  have k1 := pnum_ok (T := T) (n := n) (ab := true) 2 0 s hs
  rw [if_pos rfl] at N1
  cases hp1 : pnum T n true 2 0 s with
  | mk o1 p1 =>
  rw [hp1] at N1 k1
  dsimp only at N1 k1
  obtain ⟨m1, m2, m3⟩ := k1
  cases o1 with
  | none =>
    have N1' : fX7_number g m (nI 2) (nI 1) = some (nI 4294967287, zsI g m 3 (nI p1)) := N1
    refine ⟨zsI (zsI (zsI (zsI g m 3 (nI p1)) (m + 10) c (nI 4294967287)) (m + 11) c (nI 4294967287)) (m + 12) c (nI 4294967287), ?_, ?_, ?_⟩
    · unfold fX7_readConversion_c4
      simp (disch := first | assumption | ((repeat apply RefT.s) <;> assumption) | omega) only [nl, nI_add, pk_mul, Option.bind_some, zb2_some, nI_le_t, nI_le_f, nI_lt_t, nI_lt_f, nI_eq_t, nI_eq_f, nI_m1, nI_em1, ↓reduceIte, Nat.add_zero, nI_n9, N1', qb10, sgP, qg11, qg10, qa10, sI_at]
      unfold fX7_readConversion_c5
      simp (disch := first | assumption | ((repeat apply RefT.s) <;> assumption) | omega) only [nl, nI_add, pk_mul, Option.bind_some, zb2_some, nI_le_t, nI_le_f, nI_lt_t, nI_lt_f, nI_eq_t, nI_eq_f, nI_m1, nI_em1, ↓reduceIte, Nat.add_zero, nI_n9, qb11, sgP, qg12, qg11, qa11, sI_at, qb12]
      unfold fX7_readConversion_c6
      simp (disch := first | assumption | ((repeat apply RefT.s) <;> assumption) | omega) only [nl, nI_add, pk_mul, Option.bind_some, zb2_some, nI_le_t, nI_le_f, nI_lt_t, nI_lt_f, nI_eq_t, nI_eq_f, nI_m1, nI_em1, ↓reduceIte, Nat.add_zero, nI_n9, sgP, qg12, qa12, sI_at]
    · rw [sI_a (by omega), sI_a (by omega), sI_a (by omega), sI_at]
    · exact (((RTF.sm (Or.inl rfl)).tr (RTF.sa (by omega) (by omega))).tr (RTF.sa (by omega) (by omega))).tr (RTF.sa (by omega) (by omega))
  | some vc =>
    obtain ⟨l1, l2, -, l4⟩ := m3 vc rfl
    have N1' : fX7_number g m (nI 2) (nI 1) = some (nI vc, zsI g m 3 (nI p1)) := N1
    have F2 : RTF m g (zsI (zsI g m 3 (nI p1)) (m + 10) c (nI vc)) := (RTF.sm (Or.inl rfl)).tr (RTF.sa (by omega) (by omega))
    have X2 := hX.f F2 (p := p1) (by rw [sI_a (by omega), sI_at])
    have nv := ne9 (w := vc) (by omega)
    have N2 := r_number (D := 2) (ab := true) X2 ht m2 (by omega)
    have k2 := pnum_ok (T := T) (n := n) (ab := true) 2 0 p1 m2
    rw [if_pos rfl] at N2
    show match pnum T n true 2 0 p1 with | (none, p) => _ | (some vg, p2) => _
    cases hp2 : pnum T n true 2 0 p1 with
    | mk o2 p2 =>
    rw [hp2] at N2 k2
    dsimp only at N2 k2
    obtain ⟨n1, n2, n3⟩ := k2
    cases o2 with
    | none =>
      have N2' : fX7_number (zsI (zsI g m 3 (nI p1)) (m + 10) c (nI vc)) m (nI 2) (nI 1) = some (nI 4294967287, zsI (zsI (zsI g m 3 (nI p1)) (m + 10) c (nI vc)) m 3 (nI p2)) := N2
      refine ⟨zsI (zsI (zsI (zsI (zsI g m 3 (nI p1)) (m + 10) c (nI vc)) m 3 (nI p2)) (m + 11) c (nI 4294967287)) (m + 12) c (nI 4294967287), ?_, ?_, ?_⟩
      · unfold fX7_readConversion_c4
        simp (disch := first | assumption | ((repeat apply RefT.s) <;> assumption) | omega) only [nl, nI_add, pk_mul, Option.bind_some, zb2_some, nI_le_t, nI_le_f, nI_lt_t, nI_lt_f, nI_eq_t, nI_eq_f, nI_m1, nI_em1, ↓reduceIte, Nat.add_zero, nI_n9, N1', qb10, sgP, qg11, qg10, qa10, sI_at, nv]
        unfold fX7_readConversion_c8
        simp (disch := first | assumption | ((repeat apply RefT.s) <;> assumption) | omega) only [nl, nI_add, pk_mul, Option.bind_some, zb2_some, nI_le_t, nI_le_f, nI_lt_t, nI_lt_f, nI_eq_t, nI_eq_f, nI_m1, nI_em1, ↓reduceIte, Nat.add_zero, nI_n9, N2', qb11, sgP, qg12, qg11, qa11, sI_at]
        unfold fX7_readConversion_c9
        simp (disch := first | assumption | ((repeat apply RefT.s) <;> assumption) | omega) only [nl, nI_add, pk_mul, Option.bind_some, zb2_some, nI_le_t, nI_le_f, nI_lt_t, nI_lt_f, nI_eq_t, nI_eq_f, nI_m1, nI_em1, ↓reduceIte, Nat.add_zero, nI_n9, qb12, sgP, qg12, qa12, sI_at]
      · rw [sI_a (by omega), sI_a (by omega), sI_at]
      · exact ((F2.tr (RTF.sm (Or.inl rfl))).tr (RTF.sa (by omega) (by omega))).tr (RTF.sa (by omega) (by omega))
    | some vg =>
      obtain ⟨q1, q2, -, q4⟩ := n3 vg rfl
      have N2' : fX7_number (zsI (zsI g m 3 (nI p1)) (m + 10) c (nI vc)) m (nI 2) (nI 1) = some (nI vg, zsI (zsI (zsI g m 3 (nI p1)) (m + 10) c (nI vc)) m 3 (nI p2)) := N2
      have F3 : RTF m g (zsI (zsI (zsI (zsI g m 3 (nI p1)) (m + 10) c (nI vc)) m 3 (nI p2)) (m + 11) c (nI vg)) := (F2.tr (RTF.sm (Or.inl rfl))).tr (RTF.sa (by omega) (by omega))
      have X3 := hX.f F3 (p := p2) (by rw [sI_a (by omega), sI_at])
      have nw := ne9 (w := vg) (by omega)
      have N3 := r_number (D := 1) (ab := false) X3 ht n2 (by omega)
      have k3 := pnum_ok (T := T) (n := n) (ab := false) 1 0 p2 n2
      rw [if_neg (by decide)] at N3
      show match pnum T n false 1 0 p2 with | (none, p) => _ | (some vl, p3) => _
      cases hp3 : pnum T n false 1 0 p2 with
      | mk o3 p3 =>
      rw [hp3] at N3 k3
      dsimp only at N3 k3
      obtain ⟨r1, r2, r3⟩ := k3
      have F4 : ∀ v, RTF m g (zsI (zsI (zsI (zsI (zsI (zsI g m 3 (nI p1)) (m + 10) c (nI vc)) m 3 (nI p2)) (m + 11) c (nI vg)) m 3 (nI p3)) (m + 12) c v) := fun v => (F3.tr (RTF.sm (Or.inl rfl))).tr (RTF.sa (by omega) (by omega))
      cases o3 with
      | none =>
        have N3' : fX7_number (zsI (zsI (zsI (zsI g m 3 (nI p1)) (m + 10) c (nI vc)) m 3 (nI p2)) (m + 11) c (nI vg)) m (nI 1) (nI 0) = some (nI 4294967287, zsI (zsI (zsI (zsI (zsI g m 3 (nI p1)) (m + 10) c (nI vc)) m 3 (nI p2)) (m + 11) c (nI vg)) m 3 (nI p3)) := N3
        refine ⟨zsI (zsI (zsI (zsI (zsI (zsI g m 3 (nI p1)) (m + 10) c (nI vc)) m 3 (nI p2)) (m + 11) c (nI vg)) m 3 (nI p3)) (m + 12) c (nI 4294967287), ?_, ?_, F4 _⟩
        · unfold fX7_readConversion_c4
          simp (disch := first | assumption | ((repeat apply RefT.s) <;> assumption) | omega) only [nl, nI_add, pk_mul, Option.bind_some, zb2_some, nI_le_t, nI_le_f, nI_lt_t, nI_lt_f, nI_eq_t, nI_eq_f, nI_m1, nI_em1, ↓reduceIte, Nat.add_zero, nI_n9, N1', qb10, sgP, qg11, qg10, qa10, sI_at, nv]
          unfold fX7_readConversion_c8
          simp (disch := first | assumption | ((repeat apply RefT.s) <;> assumption) | omega) only [nl, nI_add, pk_mul, Option.bind_some, zb2_some, nI_le_t, nI_le_f, nI_lt_t, nI_lt_f, nI_eq_t, nI_eq_f, nI_m1, nI_em1, ↓reduceIte, Nat.add_zero, nI_n9, N2', qb11, sgP, qg12, qg11, qa11, sI_at, nw]
          unfold fX7_readConversion_c10
          simp (disch := first | assumption | ((repeat apply RefT.s) <;> assumption) | omega) only [nl, nI_add, pk_mul, Option.bind_some, zb2_some, nI_le_t, nI_le_f, nI_lt_t, nI_lt_f, nI_eq_t, nI_eq_f, nI_m1, nI_em1, ↓reduceIte, Nat.add_zero, nI_n9, N3', qb12, sgP, qg12, qa12, sI_at]
        · rw [sI_a (by omega), sI_at]
      | some vl =>
        obtain ⟨t1, t2, -, -⟩ := r3 vl rfl
        have nx := ne9 (w := vl) (by omega)
        have N3' : fX7_number (zsI (zsI (zsI (zsI g m 3 (nI p1)) (m + 10) c (nI vc)) m 3 (nI p2)) (m + 11) c (nI vg)) m (nI 1) (nI 0) = some (nI vl, zsI (zsI (zsI (zsI (zsI g m 3 (nI p1)) (m + 10) c (nI vc)) m 3 (nI p2)) (m + 11) c (nI vg)) m 3 (nI p3)) := N3
        have i14 : zI (zsI (zsI (zsI (zsI (zsI (zsI g m 3 (nI p1)) (m + 10) c (nI vc)) m 3 (nI p2)) (m + 11) c (nI vg)) m 3 (nI p3)) (m + 12) c (nI vl)) m 14 = nI c := by
          rw [sI_a (by omega), sI_k (by omega), sI_a (by omega), sI_k (by omega), sI_a (by omega), sI_k (by omega)]; exact e14
        refine ⟨zsI (zsI (zsI (zsI (zsI (zsI (zsI g m 3 (nI p1)) (m + 10) c (nI vc)) m 3 (nI p2)) (m + 11) c (nI vg)) m 3 (nI p3)) (m + 12) c (nI vl)) m 14 (nI (c + 1)), ?_, ?_, (F4 _).tr (RTF.sm (by omega)), sI_at, ?_, ?_, ?_, ?_, ?_, fun y hy => ⟨?_, ?_, ?_⟩, ?_, ?_, ?_, ?_⟩
        · unfold fX7_readConversion_c4
          simp (disch := first | assumption | ((repeat apply RefT.s) <;> assumption) | omega) only [nl, nI_add, pk_mul, Option.bind_some, zb2_some, nI_le_t, nI_le_f, nI_lt_t, nI_lt_f, nI_eq_t, nI_eq_f, nI_m1, nI_em1, ↓reduceIte, Nat.add_zero, nI_n9, N1', qb10, sgP, qg11, qg10, qa10, sI_at, nv]
          unfold fX7_readConversion_c8
          simp (disch := first | assumption | ((repeat apply RefT.s) <;> assumption) | omega) only [nl, nI_add, pk_mul, Option.bind_some, zb2_some, nI_le_t, nI_le_f, nI_lt_t, nI_lt_f, nI_eq_t, nI_eq_f, nI_m1, nI_em1, ↓reduceIte, Nat.add_zero, nI_n9, N2', qb11, sgP, qg12, qg11, qa11, sI_at, nw]
          unfold fX7_readConversion_c10
          simp (disch := first | assumption | ((repeat apply RefT.s) <;> assumption) | omega) only [nl, nI_add, pk_mul, Option.bind_some, zb2_some, nI_le_t, nI_le_f, nI_lt_t, nI_lt_f, nI_eq_t, nI_eq_f, nI_m1, nI_em1, ↓reduceIte, Nat.add_zero, nI_n9, N3', qb12, sgP, qg12, qa12, sI_at, nx, qI, i14, qp]
        · rw [sI_k (by omega), sI_a (by omega), sI_at]
        · simp (disch := first | assumption | (simp only [sI_kd, sP_kd, rw_kd, sI_ln, sP_ln, rw_ln] <;> first | assumption | omega) | omega) only [nl, nI_add, pk_mul, Option.bind_some, zb2_some, nI_le_t, nI_le_f, nI_lt_t, nI_lt_f, nI_eq_t, nI_eq_f, nI_m1, nI_em1, ↓reduceIte, Nat.add_zero, sI_a, sI_k]
        · simp (disch := first | assumption | (simp only [sI_kd, sP_kd, rw_kd, sI_ln, sP_ln, rw_ln] <;> first | assumption | omega) | omega) only [nl, nI_add, pk_mul, Option.bind_some, zb2_some, nI_le_t, nI_le_f, nI_lt_t, nI_lt_f, nI_eq_t, nI_eq_f, nI_m1, nI_em1, ↓reduceIte, Nat.add_zero, sI_a, sI_k]
        · simp (disch := first | assumption | (simp only [sI_kd, sP_kd, rw_kd, sI_ln, sP_ln, rw_ln] <;> first | assumption | omega) | omega) only [nl, nI_add, pk_mul, Option.bind_some, zb2_some, nI_le_t, nI_le_f, nI_lt_t, nI_lt_f, nI_eq_t, nI_eq_f, nI_m1, nI_em1, ↓reduceIte, Nat.add_zero, sI_a, sI_at]
        · simp (disch := first | assumption | (simp only [sI_kd, sP_kd, rw_kd, sI_ln, sP_ln, rw_ln] <;> first | assumption | omega) | omega) only [nl, nI_add, pk_mul, Option.bind_some, zb2_some, nI_le_t, nI_le_f, nI_lt_t, nI_lt_f, nI_eq_t, nI_eq_f, nI_m1, nI_em1, ↓reduceIte, Nat.add_zero, sI_a, sI_at]
        · simp (disch := first | assumption | (simp only [sI_kd, sP_kd, rw_kd, sI_ln, sP_ln, rw_ln] <;> first | assumption | omega) | omega) only [nl, nI_add, pk_mul, Option.bind_some, zb2_some, nI_le_t, nI_le_f, nI_lt_t, nI_lt_f, nI_eq_t, nI_eq_f, nI_m1, nI_em1, ↓reduceIte, Nat.add_zero, sI_a, sI_at]
        · simp (disch := first | assumption | (simp only [sI_kd, sP_kd, rw_kd, sI_ln, sP_ln, rw_ln] <;> first | assumption | omega) | omega) only [nl, nI_add, pk_mul, Option.bind_some, zb2_some, nI_le_t, nI_le_f, nI_lt_t, nI_lt_f, nI_eq_t, nI_eq_f, nI_m1, nI_em1, ↓reduceIte, Nat.add_zero, sI_a, sI_k]
        · simp (disch := first | assumption | (simp only [sI_kd, sP_kd, rw_kd, sI_ln, sP_ln, rw_ln] <;> first | assumption | omega) | omega) only [nl, nI_add, pk_mul, Option.bind_some, zb2_some, nI_le_t, nI_le_f, nI_lt_t, nI_lt_f, nI_eq_t, nI_eq_f, nI_m1, nI_em1, ↓reduceIte, Nat.add_zero, sI_a, sI_k]
        · simp (disch := first | assumption | (simp only [sI_kd, sP_kd, rw_kd, sI_ln, sP_ln, rw_ln] <;> first | assumption | omega) | omega) only [nl, nI_add, pk_mul, Option.bind_some, zb2_some, nI_le_t, nI_le_f, nI_lt_t, nI_lt_f, nI_eq_t, nI_eq_f, nI_m1, nI_em1, ↓reduceIte, Nat.add_zero, sI_a, sI_k]
        · simp (disch := first | assumption | (simp only [sI_kd, sP_kd, rw_kd, sI_ln, sP_ln, rw_ln] <;> first | assumption | omega) | omega) only [nl, nI_add, pk_mul, Option.bind_some, zb2_some, nI_le_t, nI_le_f, nI_lt_t, nI_lt_f, nI_eq_t, nI_eq_f, nI_m1, nI_em1, ↓reduceIte, Nat.add_zero, sI_a]
        · simp (disch := first | assumption | (simp only [sI_kd, sP_kd, rw_kd, sI_ln, sP_ln, rw_ln] <;> first | assumption | omega) | omega) only [nl, nI_add, pk_mul, Option.bind_some, zb2_some, nI_le_t, nI_le_f, nI_lt_t, nI_lt_f, nI_eq_t, nI_eq_f, nI_m1, nI_em1, ↓reduceIte, Nat.add_zero, sI_a]
        · simp (disch := first | assumption | (simp only [sI_kd, sP_kd, rw_kd, sI_ln, sP_ln, rw_ln] <;> first | assumption | omega) | omega) only [nl, nI_add, pk_mul, Option.bind_some, zb2_some, nI_le_t, nI_le_f, nI_lt_t, nI_lt_f, nI_eq_t, nI_eq_f, nI_m1, nI_em1, ↓reduceIte, Nat.add_zero, sI_a]
        · simp (disch := first | assumption | (simp only [sI_kd, sP_kd, rw_kd, sI_ln, sP_ln, rw_ln] <;> first | assumption | omega) | omega) only [nl, nI_add, pk_mul, Option.bind_some, zb2_some, nI_le_t, nI_le_f, nI_lt_t, nI_lt_f, nI_eq_t, nI_eq_f, nI_m1, nI_em1, ↓reduceIte, Nat.add_zero, sI_a]
end RCONV
