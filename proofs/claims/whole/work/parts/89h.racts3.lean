/-! pure: the reference's pins, removals, costs, budgets, undo, slots -/
def pinS (A : zSt) (x : Int32) : zAn := if outI x (aρ A 0) then (1, 0, A) else (0, nI (npin (va_up (aρ A) (24 + 28 * cl x + 24) (1 - aρ A (24 + 28 * cl x + 24))) (aρ A 0)), anew A (va_up (aρ A) (24 + 28 * cl x + 24) (1 - aρ A (24 + 28 * cl x + 24))))
def remS (A : zSt) (x : Int32) : zAn := if outI x (aρ A 0) then (1, 0, A) else (0, nI (nsz (aρ A) (cl x)), anew A (ndrop (aρ A) (aρ A 0) (cl x)))
def costS (A : zSt) (x y : Int32) : zAn := if outI x (anc A) then (1, 0, A) else if ¬ (1 ≤ y ∧ y ≤ 99) then (2, 0, A) else (0, nI (aρ A (4 + cl x)), anew A (va_up (aρ A) (4 + cl x) (cl y)))
def aback (A : zSt) : zSt := (A.1, A.2.1, aH A (anh A - 1), anh A - 1, A.2.2.2.2)
def undoS (A : zSt) : zAn := if anh A = 0 then (1, 0, A) else (0, nI (anh A - 1), aback A)
def asave (A : zSt) (k : Nat) : zSt := (A.1, A.2.1, A.2.2.1, A.2.2.2.1, A.2.2.2.2.1, (fun i => if i = k then true else afl A i), fun i => if i = k then aρ A else aK A i)
def saveS (A : zSt) (x : Int32) : zAn := if outI x 2 then (1, 0, A) else (0, nI (aρ A 0), asave A (cl x))
def ares (A : zSt) (k : Nat) : zSt := (A.1, A.2.1, aK A k, 0, A.2.2.2.2)
def resS (A : zSt) (x : Int32) : zAn := if outI x 2 then (1, 0, A) else if afl A (cl x) = false then (2, 0, A) else (0, nI (aK A (cl x) 0), ares A (cl x))
section RACTS3
variable {h h' : zH} {m : Nat} {A : zSt}
theorem sI_asrow {a k : Nat} {r : Nat → Int32} {v : Int32} (e : zI h a = r) : zsI h a k v = zrow h a (va_up r k v) := by
  subst e
  have e : zu (zI h) a k v = zz (zI h) a (va_up (zI h a) k v) := zu_row _ _ _ _
  show (zkd h, zln h, zu (zI h) a k v, zJ h, zP h, zn h) = _
  rw [e]; rfl
theorem q_isEntry {ρ : zN'} (hT : RefT h m) (e : zI h (m + 15) = nr ρ) (hc : ρ 0 ≤ 12) (x : Int32) : fX7_isEntry h (m + 15) x = some (if x < 0 ∨ nI (ρ 0) ≤ x then 0 else 1, h) := p_isEntry (h := h) (I := zI h) x (rk15 hT) (rl15 hT) hc (by rw [e]; rfl)
theorem q_pinned {ρ : zN'} (hT : RefT h m) (e : zI h (m + 15) = nr ρ) (hc : ρ 0 ≤ 12) : fX7_pinnedIn h m (m + 15) = some (nI (npin ρ (ρ 0)), h) := by
  have rd : ∀ j, j < 360 → zaI h (m + 15) (nI j) = some (nI (ρ j)) := fun j hj => by rw [qa15 hT hj, e]; rfl
  have key : ∀ d i n, i + d = ρ 0 → d < n → fX7_pinnedIn_L4 (fun h1 y2 y3 => some (y2, h1)) m (m + 15) n h (nI (npin ρ i)) (nI i) = some (nI (npin ρ (ρ 0)), h) := by
    intro d
    induction d with
    | zero =>
      intro i n hi hn
      obtain ⟨n, rfl⟩ := fuel1 hn
      have e8 : i = ρ 0 := by omega
      have r0 := rd 0 (by omega)
      rw [fX7_pinnedIn_L4, ← e8]
      rw [← e8] at r0
      simp (disch := first | assumption | ((repeat apply RefT.s) <;> assumption) | omega) only [nl, nI_add, pk_mul, Option.bind_some, zb2_some, nI_le_t, nI_le_f, nI_lt_t, nI_lt_f, nI_eq_t, nI_eq_f, nI_m1, nI_em1, ↓reduceIte, Nat.add_zero, nI_n9, r0]
    | succ d ih =>
      intro i n hi hn
      obtain ⟨n, rfl⟩ := fuel1 hn
      have r0 := rd 0 (by omega)
      have r1 := rd (24 + 28 * i + 24) (by omega)
      rw [fX7_pinnedIn_L4]
      simp (disch := first | assumption | ((repeat apply RefT.s) <;> assumption) | omega) only [nl, nI_add, pk_mul, Option.bind_some, zb2_some, nI_le_t, nI_le_f, nI_lt_t, nI_lt_f, nI_eq_t, nI_eq_f, nI_m1, nI_em1, ↓reduceIte, Nat.add_zero, nI_n9, r0, p_at, r1]
      exact ih (i + 1) n (by omega) (by omega)
  unfold fX7_pinnedIn
  rw [if_pos hT.1]
  exact key (ρ 0) 0 zF (by omega) (by unfold zF; omega)
theorem r_pin {t : Nat} (hR : RI h m A) (hA : AI t A) (x : Int32) : RO h m (fX7_togglePin h m x) (pinS A x) := by
  obtain ⟨a1, hO, ⟨a3, a3t⟩, a4, a5, a6⟩ := hA
  have hT := hR.1
  have c12 := a3.1.1
  have ise := q_isEntry hT hR.2.2.2.1 c12 x
  unfold pinS
  by_cases c1 : outI x (aρ A 0)
  · rw [if_pos c1] at ise ⊢
    have rf := r_ref (k := 1) hT (by omega)
    rw [if_neg (by decide)] at rf
    have e : fX7_togglePin h m x = some (nI 0, zsI h m 0 (nI 1)) := by
      unfold fX7_togglePin
      simp (disch := first | assumption | ((repeat apply RefT.s) <;> assumption) | omega) only [nl, nI_add, pk_mul, Option.bind_some, zb2_some, nI_le_t, nI_le_f, nI_lt_t, nI_lt_f, nI_eq_t, nI_eq_f, nI_m1, nI_em1, ↓reduceIte, Nat.add_zero, nI_n9, hT.1, qg15, ise, rf]
    rw [e]
    exact RO_no hR Fr.rf rfl (by omega)
  · rw [if_neg c1] at ise ⊢
    obtain ⟨e, f1, f2, f3⟩ := in_f (by omega) c1
    rw [f3]
    have rf := r_ref (k := 0) hT (by omega)
    rw [if_pos rfl] at rf
    obtain ⟨h8, n1, n2, n3, n4, n5⟩ := r_note (RI_0 (v := nI 0) hR) a4
    have hT8 := n2.1
    have r5 : zI h8 (m + 15) = nr (aρ A) := n2.2.2.2.1
    have pb := (a3.1.2.2.2.2 e f1).2.1
    have rd : zaI h8 (m + 15) (nI (24 + 28 * e + 24)) = some (nI (aρ A (24 + 28 * e + 24))) := by rw [qa15 hT8 (by omega), r5]; rfl
    have wr : zbI h8 (m + 15) (nI (24 + 28 * e + 24)) (nI (1 - aρ A (24 + 28 * e + 24))) = some (zrow h8 (m + 15) (nr (va_up (aρ A) (24 + 28 * e + 24) (1 - aρ A (24 + 28 * e + 24))))) := by rw [qb15 hT8 (by omega), sI_asrow r5, up_n]
    have R9 := RI_put (τ := va_up (aρ A) (24 + 28 * e + 24) (1 - aρ A (24 + 28 * e + 24))) n2
    have pn := q_pinned (ρ := va_up (aρ A) (24 + 28 * e + 24) (1 - aρ A (24 + 28 * e + 24))) R9.1 rw_at (by rw [up_b (by omega)]; exact c12)
    rw [up_b (by omega)] at pn
    have hT9 := R9.1
    refine ⟨_, _, ?_, fun _ => rfl, ?_, R9, (fr0.tr n3).tr (FrI.row (by omega) (by omega)).fr⟩
    · subst f2
      unfold fX7_togglePin
      simp (disch := first | assumption | ((repeat apply RefT.s) <;> assumption) | omega) only [nl, nI_add, pk_mul, Option.bind_some, zb2_some, nI_le_t, nI_le_f, nI_lt_t, nI_lt_f, nI_eq_t, nI_eq_f, nI_m1, nI_em1, ↓reduceIte, Nat.add_zero, nI_n9, hT.1, qg15, ise, rf, n1, p_at, rd, pk_sub, wr, pn]
    · rw [rw_a (by omega), n5 0 (by omega), sI_at]
theorem r_rem {t : Nat} (hR : RI h m A) (hA : AI t A) (x : Int32) : RO h m (fX7_remove h m x) (remS A x) := by
  obtain ⟨a1, hO, ⟨a3, a3t⟩, a4, a5, a6⟩ := hA
  have hT := hR.1
  have c12 := a3.1.1
  have ise := q_isEntry hT hR.2.2.2.1 c12 x
  unfold remS
  by_cases c1 : outI x (aρ A 0)
  · rw [if_pos c1] at ise ⊢
    have rf := r_ref (k := 1) hT (by omega)
    rw [if_neg (by decide)] at rf
    have e : fX7_remove h m x = some (nI 0, zsI h m 0 (nI 1)) := by
      unfold fX7_remove
      simp (disch := first | assumption | ((repeat apply RefT.s) <;> assumption) | omega) only [nl, nI_add, pk_mul, Option.bind_some, zb2_some, nI_le_t, nI_le_f, nI_lt_t, nI_lt_f, nI_eq_t, nI_eq_f, nI_m1, nI_em1, ↓reduceIte, Nat.add_zero, nI_n9, hT.1, qg15, ise, rf]
    rw [e]
    exact RO_no hR Fr.rf rfl (by omega)
  · rw [if_neg c1] at ise ⊢
    obtain ⟨e, f1, f2, f3⟩ := in_f (by omega) c1
    rw [f3]
    have rf := r_ref (k := 0) hT (by omega)
    rw [if_pos rfl] at rf
    obtain ⟨h8, n1, n2, n3, n4, n5⟩ := r_note (RI_0 (v := nI 0) hR) a4
    have hT8 := n2.1
    have r5 : zI h8 (m + 15) = nr (aρ A) := n2.2.2.2.1
    have sz : fX7_sizeOf h8 (m + 15) (nI e) = some (nI (nsz (aρ A) e), h8) := n_sizeOf (h := h8) (I := zI h8) (rk15 hT8) (rl15 hT8) r5 (by omega)
    have dr : fX7_drop h8 (m + 15) (nI e) = some (zrow h8 (m + 15) (nr (ndrop (aρ A) (aρ A 0) e))) := n_drop (h := h8) (I := zI h8) (rk15 hT8) (rl15 hT8) r5 c12 f1
    have R9 := RI_put (τ := ndrop (aρ A) (aρ A 0) e) n2
    refine ⟨_, _, ?_, fun _ => rfl, ?_, R9, (fr0.tr n3).tr (FrI.row (by omega) (by omega)).fr⟩
    · subst f2
      unfold fX7_remove
      simp (disch := first | assumption | ((repeat apply RefT.s) <;> assumption) | omega) only [nl, nI_add, pk_mul, Option.bind_some, zb2_some, nI_le_t, nI_le_f, nI_lt_t, nI_lt_f, nI_eq_t, nI_eq_f, nI_m1, nI_em1, ↓reduceIte, Nat.add_zero, nI_n9, hT.1, qg15, ise, rf, n1, sz, dr]
    · rw [rw_a (by omega), n5 0 (by omega), sI_at]
theorem in_cost {y : Int32} {k : Nat} {K : Int32} (hK : K = nI k) (hk : k < 2 ^ 31) (hy : 1 ≤ y ∧ y ≤ K) : ∃ b, 1 ≤ b ∧ b ≤ k ∧ y = nI b ∧ cl y = b := by
  obtain ⟨h1, h2⟩ := hy
  have n0 : ¬ y < 0 := fun q => by
    have a1 := Int32.lt_iff_toInt_lt.mp q
    have a2 := Int32.le_iff_toInt_le.mp h1
    have e1 : (1 : Int32).toInt = 1 := rfl
    have e0 : (0 : Int32).toInt = 0 := rfl
    omega
  obtain ⟨j, j1, j2⟩ := nI_of n0
  refine ⟨j, ?_, ?_, j2, by unfold cl; rw [j2, nI_clamp j1]⟩
  · rw [j2] at h1
    exact (nI_leI (a := 1) (by omega) j1).mp h1
  · rw [j2, hK] at h2
    exact (nI_leI j1 hk).mp h2
theorem m_isConv {nc : Nat} (hT : RefT h m) (h5 : zI h m 5 = nI nc) (hn : nc ≤ 20) (x : Int32) : fX7_isConversion h m x = some (if x < 0 ∨ nI nc ≤ x then 0 else 1, h) := by
  have := p_in0 h x (c := nc) (by omega)
  unfold fX7_isConversion
  rw [if_pos hT.1, qI hT, h5, Option.bind_some, this, zb2_some]
  by_cases c : x < 0 ∨ nI nc ≤ x
  · rw [if_pos c, if_pos (Or.inl rfl)]
  · rw [if_neg c, if_pos (Or.inr rfl)]
theorem r_cost {t : Nat} (hR : RI h m A) (hA : AI t A) (x y : Int32) : RO h m (fX7_setCost h m x y) (costS A x y) := by
  obtain ⟨a1, hO, ⟨a3, a3t⟩, a4, a5, a6⟩ := hA
  have hT := hR.1
  have n20 := hO.1.2.1
  have isc := m_isConv hT hR.2.2.1.2.1 n20 x
  have pin : fX7_in h y.toInt64 1 99 = some (if 1 ≤ y ∧ y ≤ 99 then 1 else 0, h) := p_in h y 1 99
  have no : ∀ k, k ≠ 0 → k < 10 → fX7_setCost h m x y = some (nI 0, zsI h m 0 (nI k)) → RO h m (fX7_setCost h m x y) (k, 0, A) := fun k h0 h10 e => by
    rw [e]
    exact RO_no hR Fr.rf rfl h0
  unfold costS
  by_cases c1 : outI x (anc A)
  · rw [if_pos c1] at isc ⊢
    have rf := r_ref (k := 1) hT (by omega)
    rw [if_neg (by decide)] at rf
    refine no 1 (by omega) (by omega) ?_
    unfold fX7_setCost
    simp (disch := first | assumption | ((repeat apply RefT.s) <;> assumption) | omega) only [nl, nI_add, pk_mul, Option.bind_some, zb2_some, nI_le_t, nI_le_f, nI_lt_t, nI_lt_f, nI_eq_t, nI_eq_f, nI_m1, nI_em1, ↓reduceIte, Nat.add_zero, nI_n9, hT.1, isc, rf]
  · rw [if_neg c1] at isc ⊢
    obtain ⟨c, f1, f2, f3⟩ := in_f (by omega) c1
    by_cases c2 : 1 ≤ y ∧ y ≤ 99
    · have c2' : ¬ ¬ (1 ≤ y ∧ y ≤ 99) := fun z => z c2
      rw [if_neg c2']
      rw [if_pos c2] at pin
      obtain ⟨v, v1, v2, v3, v4⟩ := in_cost (K := 99) (k := 99) rfl (by omega) c2
      rw [f3, v4]
      have rf := r_ref (k := 0) hT (by omega)
      rw [if_pos rfl] at rf
      obtain ⟨h8, n1, n2, n3, n4, n5⟩ := r_note (RI_0 (v := nI 0) hR) a4
      have hT8 := n2.1
      have r5 : zI h8 (m + 15) = nr (aρ A) := n2.2.2.2.1
      have rd : zaI h8 (m + 15) (nI (4 + c)) = some (nI (aρ A (4 + c))) := by rw [qa15 hT8 (by omega), r5]; rfl
      have wr : zbI h8 (m + 15) (nI (4 + c)) (nI v) = some (zrow h8 (m + 15) (nr (va_up (aρ A) (4 + c) v))) := by rw [qb15 hT8 (by omega), sI_asrow r5, up_n]
      have R9 := RI_put (τ := va_up (aρ A) (4 + c) v) n2
      refine ⟨_, _, ?_, fun _ => rfl, ?_, R9, (fr0.tr n3).tr (FrI.row (by omega) (by omega)).fr⟩
      · rw [v3] at pin
        subst f2
        subst v3
        unfold fX7_setCost
        simp (disch := first | assumption | ((repeat apply RefT.s) <;> assumption) | omega) only [nl, nI_add, pk_mul, Option.bind_some, zb2_some, nI_le_t, nI_le_f, nI_lt_t, nI_lt_f, nI_eq_t, nI_eq_f, nI_m1, nI_em1, ↓reduceIte, Nat.add_zero, nI_n9, hT.1, isc, pin, rf, n1, qg15, rd, wr]
      · rw [rw_a (by omega), n5 0 (by omega), sI_at]
    · rw [if_pos c2]
      rw [if_neg c2] at pin
      have rf := r_ref (k := 2) hT (by omega)
      rw [if_neg (by decide)] at rf
      refine no 2 (by omega) (by omega) ?_
      unfold fX7_setCost
      simp (disch := first | assumption | ((repeat apply RefT.s) <;> assumption) | omega) only [nl, nI_add, pk_mul, Option.bind_some, zb2_some, nI_le_t, nI_le_f, nI_lt_t, nI_lt_f, nI_eq_t, nI_eq_f, nI_m1, nI_em1, ↓reduceIte, Nat.add_zero, nI_n9, hT.1, isc, pin, rf]
end RACTS3
