/-! pure: the reference's load, its loops -/
section RLOAD2
variable {m : Nat}
theorem sI_row2 {h : zH} {a k : Nat} {v : Int32} : zI (zsI h a k v) a = va_up (zI h a) k v := by
  rw [zsI_rw, rw_at]
theorem zrow_same {h : zH} {a : Nat} : zrow h a (zI h a) = h := by
  show (zkd h, zln h, zz (zI h) a (zI h a), zJ h, zP h, zn h) = h
  rw [zz_self]
  rfl
theorem r_ld25 {ρ : zN'} {k : zH → Int32 → Option (Int32 × zH)} (hz : rz ρ) : ∀ d i fu (h : zH), i + d = 360 → d < fu → RefT h m → zI h (m + 15) = nr (mix i (fun _ => 0) ρ) → fX7_load_L25 k m fu h (nI i) = k (zrow h (m + 15) (nr (fun _ => 0))) (nI 360) := by
  intro d
  induction d with
  | zero =>
    intro i fu h hi hf hT e15
    obtain ⟨fu, rfl⟩ := fuel1 hf
    have e : i = 360 := by omega
    have z : mix 360 (fun _ => 0) ρ = fun _ => 0 := by
      funext j
      unfold mix
      split
      · rfl
      · exact hz j (by omega)
    have same : zrow h (m + 15) (nr (fun _ => 0)) = h := by
      rw [e, z] at e15
      rw [← e15, zrow_same]
    rw [fX7_load_L25, e, same]
    simp (disch := first | assumption | ((repeat apply RefT.s) <;> assumption) | omega) only [nl, nI_add, pk_mul, Option.bind_some, zb2_some, nI_le_t, nI_le_f, nI_lt_t, nI_lt_f, nI_eq_t, nI_eq_f, nI_m1, nI_em1, ↓reduceIte, Nat.add_zero, nI_n9]
  | succ d ih =>
    intro i fu h hi hf hT e15
    obtain ⟨fu, rfl⟩ := fuel1 hf
    have wr : zbI h (m + 15) (nI i) (nI 0) = some (zrow h (m + 15) (nr (mix (i + 1) (fun _ => 0) ρ))) := by
      rw [qb15 hT (by omega), zsI_rw, e15, up_n]
      congr 2
      exact congrArg nr (mix_s (n := i) (f := fun _ => 0) (g := ρ))
    have i1 := ih (i + 1) fu (zrow h (m + 15) (nr (mix (i + 1) (fun _ => 0) ρ))) (by omega) (by omega) hT.r rw_at
    rw [row_row] at i1
    rw [fX7_load_L25]
    simp (disch := first | assumption | ((repeat apply RefT.s) <;> assumption) | omega) only [nl, nI_add, pk_mul, Option.bind_some, zb2_some, nI_le_t, nI_le_f, nI_lt_t, nI_lt_f, nI_eq_t, nI_eq_f, nI_m1, nI_em1, ↓reduceIte, Nat.add_zero, nI_n9, qg15, wr]
    exact i1
/-- load's loop at c -/
def LD (m : Nat) (A : zSt) (f bu : Nat) (B : zBd) (h0 h : zH) (c : Nat) : Prop := RefT h m ∧ zkd h = zkd h0 ∧ zln h = zln h0 ∧ zJ h = zJ h0 ∧ zP h = zP h0 ∧ (∀ a, a ≠ m + 2 → a ≠ m + 3 → a ≠ m + 4 → a ≠ m + 5 → a ≠ m + 15 → zI h a = zI h0 a) ∧ zI h (m + 2) = nr (mix c (bfr B) (afr A)) ∧ zI h (m + 3) = nr (mix c (btt B) (att A)) ∧ zI h (m + 4) = nr (mix c (bgr B) (agr A)) ∧ zI h (m + 5) = nr (mix c (blo B) (alo A)) ∧ zI h (m + 15) = nr (ldρ bu B c)
theorem r_ld81 {A : zSt} {f bu : Nat} {B : zBd} {h0 : zH} {k : zH → Int32 → Option (Int32 × zH)} (hb : RBr h0 m f B) (h5 : zI h0 m 5 = nI (bnc B)) (n20 : bnc B ≤ 20) : ∀ d c fu (h : zH), c + d = bnc B → d < fu → LD m A f bu B h0 h c → ∃ h', fX7_load_L81 k m fu h (nI c) = k h' (nI (bnc B)) ∧ LD m A f bu B h0 h' (bnc B) := by
  intro d
  induction d with
  | zero =>
    intro c fu h hi hf hL
    obtain ⟨fu, rfl⟩ := fuel1 hf
    have e : c = bnc B := by omega
    obtain ⟨hT, l1, l2, l3, l4, l5, l6, l7, l8, l9, l10⟩ := id hL
    have i5 : zI h m 5 = nI (bnc B) := by rw [l5 m (by omega) (by omega) (by omega) (by omega) (by omega)]; exact h5
    refine ⟨h, ?_, e ▸ hL⟩
    rw [fX7_load_L81, e]
    simp (disch := first | assumption | ((repeat apply RefT.s) <;> assumption) | omega) only [nl, nI_add, pk_mul, Option.bind_some, zb2_some, nI_le_t, nI_le_f, nI_lt_t, nI_lt_f, nI_eq_t, nI_eq_f, nI_m1, nI_em1, ↓reduceIte, Nat.add_zero, nI_n9, qI, i5]
  | succ d ih =>
    intro c fu h hi hf hL
    obtain ⟨fu, rfl⟩ := fuel1 hf
    obtain ⟨hT, l1, l2, l3, l4, l5, l6, l7, l8, l9, l10⟩ := id hL
    have i5 : zI h m 5 = nI (bnc B) := by rw [l5 m (by omega) (by omega) (by omega) (by omega) (by omega)]; exact h5
    obtain ⟨b1, b2, b3, b4, b5⟩ := hb.2.2.2.1 c (by omega)
    have r8 : zI h (m + 8) c = nI (bfr B c) := by rw [l5 _ (by omega) (by omega) (by omega) (by omega) (by omega)]; exact b1
    have r9 : zI h (m + 9) c = nI (btt B c) := by rw [l5 _ (by omega) (by omega) (by omega) (by omega) (by omega)]; exact b2
    have r10 : zI h (m + 10) c = nI (bco B c) := by rw [l5 _ (by omega) (by omega) (by omega) (by omega) (by omega)]; exact b3
    have r11 : zI h (m + 11) c = nI (bgr B c) := by rw [l5 _ (by omega) (by omega) (by omega) (by omega) (by omega)]; exact b4
    have r12 : zI h (m + 12) c = nI (blo B c) := by rw [l5 _ (by omega) (by omega) (by omega) (by omega) (by omega)]; exact b5
    have hL' : LD m A f bu B h0 (zsI (zsI (zsI (zsI (zsI h (m + 2) c (nI (bfr B c))) (m + 3) c (nI (btt B c))) (m + 15) (4 + c) (nI (bco B c))) (m + 4) c (nI (bgr B c))) (m + 5) c (nI (blo B c))) (c + 1) := by
      refine ⟨hT.s.s.s.s.s, l1, l2, l3, l4, fun a h1 h2 h3 h4 h5 => ?_, ?_, ?_, ?_, ?_, ?_⟩
      · rw [sI_a h4, sI_a h3, sI_a h5, sI_a h2, sI_a h1]; exact l5 a h1 h2 h3 h4 h5
      · rw [sI_a (by omega), sI_a (by omega), sI_a (by omega), sI_a (by omega), sI_row2, l6, up_n, mix_s]
      · rw [sI_a (by omega), sI_a (by omega), sI_a (by omega), sI_row2, sI_a (by omega), l7, up_n, mix_s]
      · rw [sI_a (by omega), sI_row2, sI_a (by omega), sI_a (by omega), sI_a (by omega), l8, up_n, mix_s]
      · rw [sI_row2, sI_a (by omega), sI_a (by omega), sI_a (by omega), sI_a (by omega), l9, up_n, mix_s]
      · rw [sI_a (by omega), sI_a (by omega), sI_row2, sI_a (by omega), sI_a (by omega), l10, up_n, ldρ_s]
    obtain ⟨h', i1, i2⟩ := ih (c + 1) fu _ (by omega) (by omega) hL'
    refine ⟨h', ?_, i2⟩
    rw [← i1, fX7_load_L81]
    have w1 : zbI h (m + 2) (nI c) (nI (bfr B c)) = some (zsI h (m + 2) c (nI (bfr B c))) := qb2 hT (by omega)
    simp (disch := first | assumption | ((repeat apply RefT.s) <;> assumption) | omega) only [nl, nI_add, pk_mul, Option.bind_some, zb2_some, nI_le_t, nI_le_f, nI_lt_t, nI_lt_f, nI_eq_t, nI_eq_f, nI_m1, nI_em1, ↓reduceIte, Nat.add_zero, nI_n9, qI, i5, qg2, qg3, qg4, qg5, qg15, qg8, qg9, qg10, qg11, qg12, qa8, qa9, qa10, qa11, qa12, qb2, qb3, qb4, qb5, qb15, sI_a, r8, r9, r10, r11, r12]
end RLOAD2
