/-! pure: new objects: text, paths, boards -/
section INI2
variable {h h' g : zH} {a m p q kd len f c k v x : Nat}
theorem i_txt (kd : zkd h q = 5) (hn : zn h = q + 1) : ∃ h', fX4_init h q = some h' ∧ (CSh h' q ∧ zI h' q = zI h q ∧ zn h' = q + 2 ∧ ∀ a, a < q → Sm h h' a) := by
  unfold fX4_init
  rw [if_pos kd]
  refine stA (p := q + 1) hn (by omega) (by omega) kd (fun h2 s1 => ⟨h2, rfl, ?_⟩)
  obtain ⟨a1, a2, a3, a4, a5, a6⟩ := s1
  exact ⟨⟨by rw [a2.1]; exact kd, a3, a5.1, a5.2.1⟩, a2.2.2, a6, fun a ha => a1 a (by omega) (by omega)⟩
/-- nine cells are made: an array of eight rows -/
def SM (w p f : Nat) (h h' : zH) : Prop := (∀ a, a ≠ w → (a < p ∨ p + 9 ≤ a) → Sm h h' a) ∧ (zkd h' w = zkd h w) ∧ zP h' w f = p ∧ (∀ j, j ≠ f → zP h' w j = zP h w j) ∧ (zkd h' p = 14 ∧ zln h' p = 8) ∧ (∀ j, j < 8 → zP h' p j = p + 1 + j ∧ zkd h' (p + 1 + j) = 9 ∧ zln h' (p + 1 + j) = 8) ∧ zn h' = p + 9
theorem stM {w : Nat} {K : zH → Option zH} {Q : zH → Prop} (hn : zn h = p) (h0 : p ≠ 0) (hm : w < p) (km : zkd h w = 3) (hk : ∀ h', SM w p f h h' → ∃ g, K h' = some g ∧ Q g) : ∃ g, ((zmk2 h 8 8).bind fun h1 => (zpP h1 2 w f (zn h)).bind K) = some g ∧ Q g := by
  subst hn
  have e : zmk2 h 8 8 = some (zmn h 8 8) := if_neg h0
  have kw : zkd (zmn h 8 8) w = zkd h w := (if_neg (by omega)).trans (if_neg (by omega))
  have s1 : ∀ a, (a < zn h ∨ zn h + 9 ≤ a) → Sm h (zmn h 8 8) a := fun a ha => ⟨(if_neg (by omega)).trans (if_neg (by omega)), (if_neg (by omega)).trans (if_neg (by omega)), funext fun j => if_neg (by omega), funext fun j => if_neg (by omega)⟩
  have r1 : ∀ j, j < 8 → zkd (zmn h 8 8) (zn h + 1 + j) = 9 := fun j hj => (if_neg (by omega)).trans (if_pos (by omega))
  have r2 : ∀ j, j < 8 → zln (zmn h 8 8) (zn h + 1 + j) = 8 := fun j hj => (if_neg (by omega)).trans (if_pos (by omega))
  have p1 : ∀ j, j < 8 → zP (zmn h 8 8) (zn h) j = zn h + 1 + j := fun j hj => (if_pos rfl).trans (if_pos hj)
  have k1 : zkd (zmn h 8 8) (zn h) = 14 := if_pos rfl
  have l1 : zln (zmn h 8 8) (zn h) = 8 := if_pos rfl
  have n1 : zn (zmn h 8 8) = zn h + 9 := by
    show zn h + 1 + 8 = _
    omega
  rw [e, Option.bind_some, pP_ (by rw [kw]; exact km) h0, Option.bind_some]
  refine hk _ ⟨fun a h1 h2 => (s1 a h2).tr (sP_sm h1), kw, sP_at, fun j hj => ?_, ⟨k1, l1⟩, fun j hj => ⟨?_, r1 j hj, r2 j hj⟩, n1⟩
  · rw [sP_k hj, (s1 w (by omega)).2.2.2]
  · rw [sP_a (by omega)]
    exact p1 j hj
theorem i_pth {w : Nat} (kd : zkd h w = 3) (hn : zn h = w + 1) : ∃ h', fX2_init h w = some h' ∧ (PSh h' w ∧ zn h' = w + 37 ∧ ∀ a, a < w → Sm h h' a) := by
  unfold fX2_init
  rw [if_pos kd]
  refine stM (p := w + 1) hn (by omega) (by omega) kd (fun h1 s1 => ?_)
  obtain ⟨a1, a2, a3, a4, a5, a6, a7⟩ := s1
  refine stM (p := w + 10) a7 (by omega) (by omega) (a2.trans kd) (fun h2 s2 => ?_)
  obtain ⟨b1, b2, b3, b4, b5, b6, b7⟩ := s2
  refine stM (p := w + 19) b7 (by omega) (by omega) (b2.trans (a2.trans kd)) (fun h3 s3 => ?_)
  obtain ⟨c1, c2, c3, c4, c5, c6, c7⟩ := s3
  refine stM (p := w + 28) c7 (by omega) (by omega) (c2.trans (b2.trans (a2.trans kd))) (fun h4 s4 => ⟨h4, rfl, ?_⟩)
  obtain ⟨d1, d2, d3, d4, d5, d6, d7⟩ := s4
  have m3 : ∀ a, w < a → a < w + 28 → Sm h3 h4 a := fun a g1 g2 => d1 a (by omega) (by omega)
  have m2 : ∀ a, w < a → a < w + 19 → Sm h2 h4 a := fun a g1 g2 => (c1 a (by omega) (by omega)).tr (m3 a g1 (by omega))
  have m1 : ∀ a, w < a → a < w + 10 → Sm h1 h4 a := fun a g1 g2 => (b1 a (by omega) (by omega)).tr (m2 a g1 (by omega))
  refine ⟨⟨?_, fun j hj => ?_, fun j a hj ha => ?_⟩, d7, fun a ha => (((a1 a (by omega) (by omega)).tr (b1 a (by omega) (by omega))).tr (c1 a (by omega) (by omega))).tr (d1 a (by omega) (by omega))⟩
  · rw [d2, c2, b2, a2]; exact kd
  · match j, hj with
    | 0, _ => exact ⟨by rw [d4 0 (by omega), c4 0 (by omega), b4 0 (by omega)]; exact a3, (m1 (w + 1) (by omega) (by omega)).1.trans a5.1, (m1 (w + 1) (by omega) (by omega)).2.1.trans a5.2⟩
    | 1, _ => exact ⟨by rw [d4 1 (by omega), c4 1 (by omega)]; exact b3, (m2 (w + 10) (by omega) (by omega)).1.trans b5.1, (m2 (w + 10) (by omega) (by omega)).2.1.trans b5.2⟩
    | 2, _ => exact ⟨by rw [d4 2 (by omega)]; exact c3, (m3 (w + 19) (by omega) (by omega)).1.trans c5.1, (m3 (w + 19) (by omega) (by omega)).2.1.trans c5.2⟩
    | 3, _ => exact ⟨d3, d5.1, d5.2⟩
  · match j, hj with
    | 0, _ =>
      obtain ⟨u1, u2, u3⟩ := a6 a ha
      have e : w + 2 + 9 * 0 + a = w + 1 + 1 + a := by omega
      rw [e]
      exact ⟨by rw [show w + 1 + 9 * 0 = w + 1 by omega, (m1 (w + 1) (by omega) (by omega)).2.2.2]; exact u1, (m1 _ (by omega) (by omega)).1.trans u2, (m1 _ (by omega) (by omega)).2.1.trans u3⟩
    | 1, _ =>
      obtain ⟨u1, u2, u3⟩ := b6 a ha
      have e : w + 2 + 9 * 1 + a = w + 10 + 1 + a := by omega
      rw [e]
      exact ⟨by rw [show w + 1 + 9 * 1 = w + 10 by omega, (m2 (w + 10) (by omega) (by omega)).2.2.2]; exact u1, (m2 _ (by omega) (by omega)).1.trans u2, (m2 _ (by omega) (by omega)).2.1.trans u3⟩
    | 2, _ =>
      obtain ⟨u1, u2, u3⟩ := c6 a ha
      have e : w + 2 + 9 * 2 + a = w + 19 + 1 + a := by omega
      rw [e]
      exact ⟨by rw [show w + 1 + 9 * 2 = w + 19 by omega, (m3 (w + 19) (by omega) (by omega)).2.2.2]; exact u1, (m3 _ (by omega) (by omega)).1.trans u2, (m3 _ (by omega) (by omega)).2.1.trans u3⟩
    | 3, _ =>
      obtain ⟨u1, u2, u3⟩ := d6 a ha
      have e : w + 2 + 9 * 3 + a = w + 28 + 1 + a := by omega
      rw [e]
      exact ⟨by rw [show w + 1 + 9 * 3 = w + 28 by omega]; exact u1, u2, u3⟩
theorem ne_k {q a : Nat} (h : 0 < a) : q + a ≠ q := by omega
theorem lt_k {q a b : Nat} (h : a < b) : q + a < q + b := by omega
theorem i_brd (kd : zkd h q = 1) (hn : zn h = q + 1) : ∃ h', fX0_init h q = some h' ∧ (CBr h' q 1 bz ∧ zI h' q 11 = nI 1000 ∧ zn h' = q + 9 ∧ ∀ a, a < q → Sm h h' a) := by
  unfold fX0_init
  rw [if_pos kd]
  refine stA (p := q + 1) hn (Nat.succ_ne_zero _) (ne_k (by decide)).symm kd (fun h1 s1 => ?_)
  obtain ⟨a1, a2, a3, a4, a5, a6⟩ := s1
  have k1 := a2.1.trans kd
  refine stA (p := q + 2) a6 (Nat.succ_ne_zero _) (ne_k (by decide)).symm k1 (fun h2 s2 => ?_)
  obtain ⟨b1, b2, b3, b4, b5, b6⟩ := s2
  have k2 := b2.1.trans k1
  refine stA (p := q + 3) b6 (Nat.succ_ne_zero _) (ne_k (by decide)).symm k2 (fun h3 s3 => ?_)
  obtain ⟨c1, c2, c3, c4, c5, c6⟩ := s3
  have k3 := c2.1.trans k2
  refine stA (p := q + 4) c6 (Nat.succ_ne_zero _) (ne_k (by decide)).symm k3 (fun h4 s4 => ?_)
  obtain ⟨d1, d2, d3, d4, d5, d6⟩ := s4
  have k4 := d2.1.trans k3
  refine stA (p := q + 5) d6 (Nat.succ_ne_zero _) (ne_k (by decide)).symm k4 (fun h5 s5 => ?_)
  obtain ⟨e1, e2, e3, e4, e5, e6⟩ := s5
  have k5 := e2.1.trans k4
  refine stA (p := q + 6) e6 (Nat.succ_ne_zero _) (ne_k (by decide)).symm k5 (fun h6 s6 => ?_)
  obtain ⟨f1, f2, f3, f4, f5, f6⟩ := s6
  have k6 := f2.1.trans k5
  refine stA (p := q + 7) f6 (Nat.succ_ne_zero _) (ne_k (by decide)).symm k6 (fun h7 s7 => ?_)
  obtain ⟨g1, g2, g3, g4, g5, g6⟩ := s7
  have k7 := g2.1.trans k6
  refine stA (p := q + 8) g6 (Nat.succ_ne_zero _) (ne_k (by decide)).symm k7 (fun h8 s8 => ?_)
  obtain ⟨i1, i2, i3, i4, i5, i6⟩ := s8
  have k8 := i2.1.trans k7
  have m7 : ∀ a, a ≠ q → a < q + 8 → Sm h7 h8 a := fun a u1 u2 => i1 a u1 (Nat.ne_of_lt u2)
  have m6 : ∀ a, a ≠ q → a < q + 7 → Sm h6 h8 a := fun a u1 u2 => (g1 a u1 (Nat.ne_of_lt u2)).tr (m7 a u1 (Nat.lt_succ_of_lt u2))
  have m5 : ∀ a, a ≠ q → a < q + 6 → Sm h5 h8 a := fun a u1 u2 => (f1 a u1 (Nat.ne_of_lt u2)).tr (m6 a u1 (Nat.lt_succ_of_lt u2))
  have m4 : ∀ a, a ≠ q → a < q + 5 → Sm h4 h8 a := fun a u1 u2 => (e1 a u1 (Nat.ne_of_lt u2)).tr (m5 a u1 (Nat.lt_succ_of_lt u2))
  have m3 : ∀ a, a ≠ q → a < q + 4 → Sm h3 h8 a := fun a u1 u2 => (d1 a u1 (Nat.ne_of_lt u2)).tr (m4 a u1 (Nat.lt_succ_of_lt u2))
  have m2 : ∀ a, a ≠ q → a < q + 3 → Sm h2 h8 a := fun a u1 u2 => (c1 a u1 (Nat.ne_of_lt u2)).tr (m3 a u1 (Nat.lt_succ_of_lt u2))
  have m1 : ∀ a, a ≠ q → a < q + 2 → Sm h1 h8 a := fun a u1 u2 => (b1 a u1 (Nat.ne_of_lt u2)).tr (m2 a u1 (Nat.lt_succ_of_lt u2))
  have m0 : ∀ a, a ≠ q → a < q + 1 → Sm h h8 a := fun a u1 u2 => (a1 a u1 (Nat.ne_of_lt u2)).tr (m1 a u1 (Nat.lt_succ_of_lt u2))
  have hs : BSh h8 q := by
    refine ⟨k8, fun j hj => ?_, fun j hj => ?_, fun j hj => ?_, ?_, ?_, i5.1, i5.2.1⟩
    · match j, hj with
      | 0, _ => rw [i4 0 (by decide), g4 0 (by decide), f4 0 (by decide), e4 0 (by decide), d4 0 (by decide), c4 0 (by decide), b4 0 (by decide)]; exact a3
      | 1, _ => rw [i4 1 (by decide), g4 1 (by decide), f4 1 (by decide), e4 1 (by decide), d4 1 (by decide), c4 1 (by decide)]; exact b3
      | 2, _ => rw [i4 2 (by decide), g4 2 (by decide), f4 2 (by decide), e4 2 (by decide), d4 2 (by decide)]; exact c3
      | 3, _ => rw [i4 3 (by decide), g4 3 (by decide), f4 3 (by decide), e4 3 (by decide)]; exact d3
      | 4, _ => rw [i4 4 (by decide), g4 4 (by decide), f4 4 (by decide)]; exact e3
      | 5, _ => rw [i4 5 (by decide), g4 5 (by decide)]; exact f3
      | 6, _ => rw [i4 6 (by decide)]; exact g3
      | 7, _ => exact i3
    · match j, hj with
      | 0, _ => exact (m1 (q + 1) (ne_k (by decide)) (lt_k (by decide))).1.trans a5.1
      | 1, _ => exact (m2 (q + 2) (ne_k (by decide)) (lt_k (by decide))).1.trans b5.1
      | 2, _ => exact (m3 (q + 3) (ne_k (by decide)) (lt_k (by decide))).1.trans c5.1
      | 3, _ => exact (m4 (q + 4) (ne_k (by decide)) (lt_k (by decide))).1.trans d5.1
      | 4, _ => exact (m5 (q + 5) (ne_k (by decide)) (lt_k (by decide))).1.trans e5.1
      | 5, _ => exact (m6 (q + 6) (ne_k (by decide)) (lt_k (by decide))).1.trans f5.1
      | 6, _ => exact (m7 (q + 7) (ne_k (by decide)) (lt_k (by decide))).1.trans g5.1
    · match j, hj with
      | 0, _ => exact (m1 (q + 1) (ne_k (by decide)) (lt_k (by decide))).2.1.trans a5.2.1
      | 1, _ => exact (m2 (q + 2) (ne_k (by decide)) (lt_k (by decide))).2.1.trans b5.2.1
      | 2, _ => exact (m3 (q + 3) (ne_k (by decide)) (lt_k (by decide))).2.1.trans c5.2.1
      | 3, _ => exact (m4 (q + 4) (ne_k (by decide)) (lt_k (by decide))).2.1.trans d5.2.1
      | 4, _ => exact (m5 (q + 5) (ne_k (by decide)) (lt_k (by decide))).2.1.trans e5.2.1
    · exact (m6 (q + 6) (ne_k (by decide)) (lt_k (by decide))).2.1.trans f5.2.1
    · exact (m7 (q + 7) (ne_k (by decide)) (lt_k (by decide))).2.1.trans g5.2.1
  obtain ⟨h9, u1, u2, u3, u4⟩ := k_begin (f := 1) (bu := 1000) hs (by decide) (by decide)
  have zq := zn_X0_begin u1
  have u1' : fX0_begin h8 q 1 1000 = some h9 := u1
  refine ⟨h9, by rw [u1', Option.bind_some], u2, u3, by rw [zq, i6], fun a ha => (m0 a (Nat.ne_of_lt ha) (Nat.lt_succ_of_lt ha)).tr ⟨by rw [u4.1], by rw [u4.2.1], u4.2.2.2.2 a (Or.inl ha), by rw [u4.2.2.2.1]⟩⟩
theorem CSh_sm (e : ∀ a, q ≤ a → a < q + 2 → Sm h h' a) (s : CSh h q) : CSh h' q := by
  unfold CSh
  rw [(e q (by omega) (by omega)).1, (e q (by omega) (by omega)).2.2.2, (e (q + 1) (by omega) (by omega)).1, (e (q + 1) (by omega) (by omega)).2.1]
  exact s
theorem PSh_sm (e : ∀ a, q ≤ a → a < q + 37 → Sm h h' a) (s : PSh h q) : PSh h' q := by
  obtain ⟨p1, p2, p3⟩ := s
  refine ⟨(e q (by omega) (by omega)).1.trans p1, fun j hj => ?_, fun j a hj ha => ?_⟩
  · rw [(e q (by omega) (by omega)).2.2.2, (e (q + 1 + 9 * j) (by omega) (by omega)).1, (e (q + 1 + 9 * j) (by omega) (by omega)).2.1]
    exact p2 j hj
  · rw [(e (q + 1 + 9 * j) (by omega) (by omega)).2.2.2, (e (q + 2 + 9 * j + a) (by omega) (by omega)).1, (e (q + 2 + 9 * j + a) (by omega) (by omega)).2.1]
    exact p3 j a hj ha
theorem BSh_sm (e : ∀ a, q ≤ a → a < q + 9 → Sm h h' a) (s : BSh h q) : BSh h' q := by
  obtain ⟨p1, p2, p3, p4, p5, p6, p7, p8⟩ := s
  refine ⟨(e q (by omega) (by omega)).1.trans p1, fun j hj => by rw [(e q (by omega) (by omega)).2.2.2]; exact p2 j hj, fun j hj => (e (q + 1 + j) (by omega) (by omega)).1.trans (p3 j hj), fun j hj => (e (q + 1 + j) (by omega) (by omega)).2.1.trans (p4 j hj), (e (q + 6) (by omega) (by omega)).2.1.trans p5, (e (q + 7) (by omega) (by omega)).2.1.trans p6, (e (q + 8) (by omega) (by omega)).1.trans p7, (e (q + 8) (by omega) (by omega)).2.1.trans p8⟩
end INI2
