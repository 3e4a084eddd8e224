/-! pure: the reference's room and ranked -/
def nde (ρ : zN') (e n : Nat) : Nat := nsum (fun f => if ρ (24 + 28 * e + 16 + f) = 2 then ρ (24 + 28 * e + f) else 0) n
def nds (ρ : zN') (n : Nat) : Nat := nsum (fun e => nde ρ e 8) n
theorem nsum_two {g g' : Nat → Nat} : ∀ n, nsum (fun i => g i + g' i) n = nsum g n + nsum g' n := by
  intro n
  induction n with
  | zero => rfl
  | succ n ih =>
    show nsum (fun i => g i + g' i) n + (g n + g' n) = (nsum g n + g n) + (nsum g' n + g' n)
    omega
theorem nor_nde (ρ : zN') (e : Nat) : nor ρ e + nde ρ e 8 = nsz ρ e := by
  unfold nor nde nsz
  rw [← nsum_two]
  refine nsum_congr fun f _ => ?_
  show (if ρ (24 + 28 * e + 16 + f) = 2 then 0 else ρ (24 + 28 * e + f)) + (if ρ (24 + 28 * e + 16 + f) = 2 then ρ (24 + 28 * e + f) else 0) = ρ (24 + 28 * e + f)
  split <;> omega
theorem nls_nds {ρ : zN'} (hc : ρ 0 ≤ 12) : nls ρ 99 true + nds ρ (ρ 0) = nus ρ (ρ 0) := by
  unfold nls nds nus
  rw [← nsum_two]
  refine nsum_congr fun e he => ?_
  show nli ρ 99 true e + nde ρ e 8 = nsz ρ e
  unfold nli
  rw [if_neg (by omega), if_pos (Or.inl rfl)]
  exact nor_nde ρ e
def romV (ρ : zN') : Nat := if ρ 0 = 12 then 0 else min 9999 (ρ 3 - nls ρ 99 true)
def romS (A : zSt) : zAn := (0, nI (romV (aρ A)), A)
theorem sbx {b l d : Nat} : nI b - nI (l + d) + nI d = nI b - nI l := by
  rw [← nI_add]
  generalize nI b = x
  generalize nI l = y
  generalize nI d = z
  grind
def rkf (ρ : zN') (i : Nat) : Nat → Nat
  | 0 => 0
  | e + 1 => if nrk ρ e (ρ 0) = i then e else rkf ρ i e
def rnkS (A : zSt) (x : Int32) : zAn := if outI x (aρ A 0) then (1, 0, A) else (0, nI (rkf (aρ A) (cl x) (aρ A 0)), A)
section RROOM
variable {h : zH} {m : Nat} {A : zSt}
theorem r_rom_i {ρ : zN'} {e : Nat} (hT : RefT h m) (e15 : zI h (m + 15) = nr ρ) (he : e < 12) (ho : eok ρ e) (k : zH → Int32 → Int32 → Option (Int32 × zH)) (s : Nat) : ∀ d f n, f + d = 8 → d < n → fX7_room_L21 k m (nI e) n h (nI (s + nde ρ e f)) (nI f) = k h (nI (s + nde ρ e 8)) (nI 8) := by
  intro d
  induction d with
  | zero =>
    intro f n hf hn
    obtain ⟨n, rfl⟩ := fuel1 hn
    have e8 : f = 8 := by omega
    rw [fX7_room_L21, e8]
    simp (disch := first | assumption | ((repeat apply RefT.s) <;> assumption) | omega) only [nl, nI_add, pk_mul, Option.bind_some, zb2_some, nI_le_t, nI_le_f, nI_lt_t, nI_lt_f, nI_eq_t, nI_eq_f, nI_m1, nI_em1, ↓reduceIte, Nat.add_zero, nI_n9]
  | succ d ih =>
    intro f n hf hn
    obtain ⟨n, rfl⟩ := fuel1 hn
    have r1 : zaI h (m + 15) (nI (24 + 28 * e + 16 + f)) = some (nI (ρ (24 + 28 * e + 16 + f))) := by rw [qa15 hT (by omega), e15]; rfl
    have r2 : zaI h (m + 15) (nI (24 + 28 * e + f)) = some (nI (ρ (24 + 28 * e + f))) := by rw [qa15 hT (by omega), e15]; rfl
    have i1 := ih (f + 1) n (by omega) (by omega)
    have st : nde ρ e (f + 1) = nde ρ e f + if ρ (24 + 28 * e + 16 + f) = 2 then ρ (24 + 28 * e + f) else 0 := rfl
    have k2 := (ho.1 f (by omega)).1
    rw [fX7_room_L21]
    rw [st] at i1
    by_cases c : ρ (24 + 28 * e + 16 + f) = 2
    · rw [if_pos c, ← Nat.add_assoc] at i1
      rw [c] at r1
      simp (disch := first | assumption | ((repeat apply RefT.s) <;> assumption) | omega) only [nl, nI_add, pk_mul, Option.bind_some, zb2_some, nI_le_t, nI_le_f, nI_lt_t, nI_lt_f, nI_eq_t, nI_eq_f, nI_m1, nI_em1, ↓reduceIte, Nat.add_zero, nI_n9, qg15, p_at, r1, r2]
      exact i1
    · rw [if_neg c, Nat.add_zero] at i1
      simp (disch := first | assumption | ((repeat apply RefT.s) <;> assumption) | omega) only [nl, nI_add, pk_mul, Option.bind_some, zb2_some, nI_le_t, nI_le_f, nI_lt_t, nI_lt_f, nI_eq_t, nI_eq_f, nI_m1, nI_em1, ↓reduceIte, Nat.add_zero, nI_n9, qg15, p_at, r1, r2]
      exact i1
theorem r_rom_o {ρ : zN'} (hT : RefT h m) (e15 : zI h (m + 15) = nr ρ) (ho : nok ρ) (k : zH → Int32 → Int32 → Option (Int32 × zH)) : ∀ d e n, e + d = ρ 0 → d < n → fX7_room_L9 k m n h (nI (nds ρ e)) (nI e) = k h (nI (nds ρ (ρ 0))) (nI (ρ 0)) := by
  have r0 : zaI h (m + 15) (nI 0) = some (nI (ρ 0)) := by rw [qa15 hT (by omega), e15]; rfl
  have c12 := ho.1
  intro d
  induction d with
  | zero =>
    intro e n hf hn
    obtain ⟨n, rfl⟩ := fuel1 hn
    have e8 : e = ρ 0 := by omega
    rw [fX7_room_L9, e8]
    simp (disch := first | assumption | ((repeat apply RefT.s) <;> assumption) | omega) only [nl, nI_add, pk_mul, Option.bind_some, zb2_some, nI_le_t, nI_le_f, nI_lt_t, nI_lt_f, nI_eq_t, nI_eq_f, nI_m1, nI_em1, ↓reduceIte, Nat.add_zero, nI_n9, qg15, r0]
  | succ d ih =>
    intro e n hf hn
    obtain ⟨n, rfl⟩ := fuel1 hn
    have i1 := ih (e + 1) n (by omega) (by omega)
    have li := r_rom_i (h := h) (m := m) (e := e) hT e15 (by omega) (ho.2.2.2.2 e (by omega)) (fun h4 y5 y6 => fX7_room_L9 k m n h4 y5 (nI e + nI 1)) (nds ρ e) 8 0 zF (by omega) (by unfold zF; omega)
    have li' : fX7_room_L21 (fun h4 y5 y6 => fX7_room_L9 k m n h4 y5 (nI (e + 1))) m (nI e) zF h (nI (nds ρ e)) (nI 0) = fX7_room_L9 k m n h (nI (nds ρ (e + 1))) (nI (e + 1)) := by
      rw [← nI_add]
      exact li
    rw [fX7_room_L9]
    simp (disch := first | assumption | ((repeat apply RefT.s) <;> assumption) | omega) only [nl, nI_add, pk_mul, Option.bind_some, zb2_some, nI_le_t, nI_le_f, nI_lt_t, nI_lt_f, nI_eq_t, nI_eq_f, nI_m1, nI_em1, ↓reduceIte, Nat.add_zero, nI_n9, qg15, r0]
    rw [li']
    exact i1
theorem r_rom {t : Nat} (hR : RI h m A) (hA : AI t A) : RO h m (fX7_room h m) (romS A) := by
  have hT := hR.1
  obtain ⟨a1, hO, ⟨a3, a3t⟩, a4, a5, a6⟩ := hA
  have ho := a3.1
  have c12 := ho.1
  have R0 := RI_0 (v := nI 0) hR
  have hT0 := R0.1
  have m0 : zI (zsI h m 0 (nI 0)) m 0 = nI 0 := sI_at
  have e15 := R0.2.2.2.1
  have F1 : Fr m (m + 24) h (zsI h m 0 (nI 0)) := fr0
  have st : ∀ v h2, fX7_room_L9 (fun h2 y3 y4 => (zgP h2 7 m 24).bind fun w5 => (zaI h2 w5 (3)).bind fun w6 => (zgP h2 7 m 24).bind fun w7 => zb2 (fX7_used h2 (w7)) fun w8 h9 => (zgP h9 7 m 24).bind fun w10 => (zaI h9 w10 (0)).bind fun w11 => if (w11 : Int32) = 12 then some (0, h9) else if 0 ≤ (((((w6 : Int32) - w8) : Int32) + y3) : Int32) then if (((((w6 : Int32) - w8) : Int32) + y3) : Int32) ≤ 9999 then some (((((w6 : Int32) - w8) : Int32) + y3), h9) else some (9999, h9) else some (0, h9)) m zF (zsI h m 0 (nI 0)) (nI 0) (nI 0) = some (v, h2) → fX7_room h m = some (v, h2) := fun v h2 e => by
    unfold fX7_room
    rw [if_pos hT.1, show (0 : Int32) = nI 0 from rfl, pI_ (h := h) (c := 7) hT.1, Option.bind_some]
    exact e
  generalize zsI h m 0 (nI 0) = g at *
  have r0 : zaI g (m + 15) (nI 0) = some (nI (aρ A 0)) := by rw [qa15 hT0 (by omega), e15]; rfl
  have r3 : zaI g (m + 15) (nI 3) = some (nI (aρ A 3)) := by rw [qa15 hT0 (by omega), e15]; rfl
  have us : fX7_used g (m + 15) = some (nI (nus (aρ A) (aρ A 0)), g) := n_used (h := g) (I := zI g) (rk15 hT0) (rl15 hT0) e15 c12
  have ul := nus_le ho
  have nn := nls_nds c12
  have sx := sbx (b := aρ A 3) (l := nls (aρ A) 99 true) (d := nds (aρ A) (aρ A 0))
  rw [nn] at sx
  refine ⟨nI (romV (aρ A)), g, st _ _ ?_, fun _ => rfl, m0, R0, F1⟩
  have lo := r_rom_o (h := g) (m := m) hT0 e15 ho
  refine (lo _ (aρ A 0) 0 zF (by omega) (by unfold zF; omega)).trans ?_
  have b3 := ho.2.2.2.1
  unfold romV
  by_cases c : aρ A 0 = 12
  · rw [if_pos c]
    rw [c] at r0
    simp (disch := first | assumption | ((repeat apply RefT.s) <;> assumption) | omega) only [nl, nI_add, pk_mul, Option.bind_some, zb2_some, nI_le_t, nI_le_f, nI_lt_t, nI_lt_f, nI_eq_t, nI_eq_f, nI_m1, nI_em1, ↓reduceIte, Nat.add_zero, nI_n9, qg15, r0, r3, us]
  · rw [if_neg c]
    by_cases c2 : nls (aρ A) 99 true ≤ aρ A 3
    · have ps : nI (aρ A 3) - nI (nls (aρ A) 99 true) = nI (aρ A 3 - nls (aρ A) 99 true) := pk_sub c2
      rw [ps] at sx
      by_cases c3 : aρ A 3 - nls (aρ A) 99 true ≤ 9999
      · rw [Nat.min_eq_right c3]
        simp (disch := first | assumption | ((repeat apply RefT.s) <;> assumption) | omega) only [nl, nI_add, pk_mul, Option.bind_some, zb2_some, nI_le_t, nI_le_f, nI_lt_t, nI_lt_f, nI_eq_t, nI_eq_f, nI_m1, nI_em1, ↓reduceIte, Nat.add_zero, nI_n9, qg15, r0, r3, us, sx]
      · rw [Nat.min_eq_left (by omega)]
        simp (disch := first | assumption | ((repeat apply RefT.s) <;> assumption) | omega) only [nl, nI_add, pk_mul, Option.bind_some, zb2_some, nI_le_t, nI_le_f, nI_lt_t, nI_lt_f, nI_eq_t, nI_eq_f, nI_m1, nI_em1, ↓reduceIte, Nat.add_zero, nI_n9, qg15, r0, r3, us, sx]
    · have ng : (nI 0 ≤ nI (aρ A 3) - nI (nls (aρ A) 99 true)) = False := eq_false fun q => by
        rw [Int32.le_iff_toInt_le, pk_sub_toInt (by omega) (by omega), nI_toInt (by omega)] at q
        omega
      rw [show aρ A 3 - nls (aρ A) 99 true = 0 by omega]
      simp (disch := first | assumption | ((repeat apply RefT.s) <;> assumption) | omega) only [nl, nI_add, pk_mul, Option.bind_some, zb2_some, nI_le_t, nI_le_f, nI_lt_t, nI_lt_f, nI_eq_t, nI_eq_f, nI_m1, nI_em1, ↓reduceIte, Nat.add_zero, nI_n9, qg15, r0, r3, us, sx, ng]
      rfl
end RROOM
