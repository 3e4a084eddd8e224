/-! pure: the reference's idle -/
section RIDLE
variable {m : Nat} {A : zSt}
theorem r_idl_L {t : Nat} (hA : AI t A) : ∀ d c n h, RI h m A → c + d = anc A → d < n → ∃ h2, fX7_idle_L9 (fun h1 y2 y3 => some (y2, h1)) m n h (nI (bsm (idlP A) c)) (nI c) = some (nI (bsm (idlP A) (anc A)), h2) ∧ RI h2 m A ∧ Fr m (m + 24) h h2 ∧ zI h2 m = zI h m := by
  have n20 := hA.2.1.1.2.1
  intro d
  induction d with
  | zero =>
    intro c n h hR hd hn'
    have hT := hR.1
    have h5 := hR.2.2.1.2.1
    obtain ⟨n, rfl⟩ := fuel1 hn'
    have e : c = anc A := by omega
    refine ⟨h, ?_, hR, Fr.rf, rfl⟩
    rw [fX7_idle_L9, e]
    simp (disch := first | assumption | ((repeat apply RefT.s) <;> assumption) | omega) only [nl, nI_add, pk_mul, Option.bind_some, zb2_some, nI_le_t, nI_le_f, nI_lt_t, nI_lt_f, nI_eq_t, nI_eq_f, nI_m1, nI_em1, ↓reduceIte, Nat.add_zero, nI_n9, qI, h5]
  | succ d ih =>
    intro c n h hR hd hn'
    have hT := hR.1
    have h5 := hR.2.2.1.2.1
    have r5 := hR.2.2.2.1
    obtain ⟨n, rfl⟩ := fuel1 hn'
    obtain ⟨h1, l1, l2, l3, l4⟩ := r_wof (c := c) hR hA (by omega)
    obtain ⟨h2, k1, k2, k3, k4⟩ := ih (c + 1) n h1 l2 (by omega) (by omega)
    have g : zaI h (m + 15) (nI (4 + c)) = some (nI (aρ A (4 + c))) := by rw [qa15 hT (by omega), r5]; rfl
    have cb : aρ A (4 + c) < 2 ^ 31 := by
      have := hA.2.2.1.1.2.2.1 c (by omega)
      omega
    have wb : worV A c ≤ 99 := by
      unfold worV
      split <;> omega
    have ob := or_bsm (p := idlP A) (n := c) (by omega)
    refine ⟨h2, ?_, k2, l3.tr k3, k4.trans l4⟩
    rw [fX7_idle_L9]
    by_cases q : worV A c < aρ A (4 + c)
    · have pq : idlP A c = true := decide_eq_true q
      rw [if_pos pq] at ob
      simp (disch := first | assumption | ((repeat apply RefT.s) <;> assumption) | omega) only [nl, nI_add, pk_mul, Option.bind_some, zb2_some, nI_le_t, nI_le_f, nI_lt_t, nI_lt_f, nI_eq_t, nI_eq_f, nI_m1, nI_em1, ↓reduceIte, Nat.add_zero, nI_n9, qI, h5, qg15, g, l1, ob, k1]
    · have pq : ¬ idlP A c = true := fun z => q (of_decide_eq_true z)
      rw [if_neg pq] at ob
      simp (disch := first | assumption | ((repeat apply RefT.s) <;> assumption) | omega) only [nl, nI_add, pk_mul, Option.bind_some, zb2_some, nI_le_t, nI_le_f, nI_lt_t, nI_lt_f, nI_eq_t, nI_eq_f, nI_m1, nI_em1, ↓reduceIte, Nat.add_zero, nI_n9, qI, h5, qg15, g, l1, ob, k1]
theorem r_idl {t : Nat} {h : zH} (hR : RI h m A) (hA : AI t A) : RO h m (fX7_idle h m) (idlS A) := by
  have hT := hR.1
  have n20 := hA.2.1.1.2.1
  have R0 := RI_0 (v := nI 0) hR
  have hT0 : RefT (zsI h m 0 (nI 0)) m := hT.s
  obtain ⟨h2, l1, l2, l4, l5⟩ := r_idl_L hA (anc A) 0 zF _ R0 (by omega) (by unfold zF; omega)
  have lp : fX7_idle_L9 (fun h1 y2 y3 => some (y2, h1)) m zF (zsI h m 0 (nI 0)) (nI 0) (nI 0) = some (nI (bsm (idlP A) (anc A)), h2) := l1
  unfold idlS
  refine ⟨nI (bsm (idlP A) (anc A)), h2, ?_, fun _ => rfl, ?_, l2, fr0.tr l4⟩
  · unfold fX7_idle
    simp (disch := first | assumption | ((repeat apply RefT.s) <;> assumption) | omega) only [nl, nI_add, pk_mul, Option.bind_some, zb2_some, nI_le_t, nI_le_f, nI_lt_t, nI_lt_f, nI_eq_t, nI_eq_f, nI_m1, nI_em1, ↓reduceIte, Nat.add_zero, nI_n9, hT.1, qp]
    exact lp
  · rw [l5, sI_at]
end RIDLE
