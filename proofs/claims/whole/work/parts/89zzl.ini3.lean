/-! pure: the component's constructor, its fields -/
/-- an object is made at p, sz cells long, and a field of x is set to it -/
def SO (x p sz k : Nat) (Sh : zH → Prop) (h h' : zH) : Prop := (∀ a, a < p → a ≠ x → Sm h h' a) ∧ (zkd h' x = zkd h x ∧ zI h' x = zI h x) ∧ zP h' x k = p ∧ (∀ j, j ≠ k → zP h' x j = zP h x j) ∧ (∃ g, Sh g ∧ ∀ a, p ≤ a → Sm g h' a) ∧ zn h' = p + sz
section INI3
variable {h h' : zH} {x p sz k c : Nat} {Sh : zH → Prop}
theorem stO {init : zH → Nat → Option zH} {K : zH → Option zH} {Q : zH → Prop} (hn : zn h = p) (hx : x < p) (kx : zkd h x = 7) (hi : ∀ g, zkd g p = c → zn g = p + 1 → zI g p = (fun _ => 0) → ∃ g', init g p = some g' ∧ Sh g' ∧ zn g' = p + sz ∧ ∀ a, a < p → Sm g g' a) (hk : ∀ h', SO x p sz k Sh h h' → ∃ g, K h' = some g ∧ Q g) : ∃ g, ((zmk h c 0).bind fun h1 => (init h1 (zn h)).bind fun h2 => (zpP h2 6 x k (zn h)).bind K) = some g ∧ Q g := by
  have h0 : zn h ≠ 0 := by omega
  rw [mk_ h0, Option.bind_some]
  subst hn
  obtain ⟨g', i1, i2, i3, i4⟩ := hi (zal h c 0) al_kd al_n al_I
  have m : ∀ a, a < zn h → Sm h g' a := fun a ha => (al_sm (by omega)).tr (i4 a ha)
  have mx := m x hx
  rw [i1, Option.bind_some, pP_ (by rw [mx.1]; exact kx) h0, Option.bind_some]
  exact hk _ ⟨fun a h1 h2 => (m a h1).tr (sP_sm h2), ⟨mx.1, mx.2.2.1⟩, sP_at, fun j hj => by rw [sP_k hj, mx.2.2.2], ⟨g', i2, fun a ha => sP_sm (by omega)⟩, i3⟩
/-- the first six fields -/
def PA (x : Nat) (h : zH) : Prop := (zkd h x = 7 ∧ zn h = x + 156) ∧ (zP h x 0 = x + 1 ∧ zP h x 1 = x + 3 ∧ zP h x 2 = x + 40 ∧ zP h x 3 = x + 77 ∧ zP h x 4 = x + 78 ∧ zP h x 5 = x + 117) ∧ (CSh h (x + 1) ∧ zI h (x + 1) = fun _ => 0) ∧ PSh h (x + 3) ∧ PSh h (x + 40) ∧ zkd h (x + 77) = 6 ∧ SSh h (x + 78) ∧ SSh h (x + 117)
theorem i_A {K : zH → Option zH} {Q : zH → Prop} (kx : zkd h x = 7) (hn : zn h = x + 1) (hk : ∀ h', PA x h' → ∃ g, K h' = some g ∧ Q g) : ∃ g, ((zmk h 5 0).bind fun h1 =>
    (fX4_init h1 ((zn h))).bind fun h2 =>
    (zpP h2 6 x 0 (zn h)).bind fun h3 =>
    (zmk h3 3 0).bind fun h4 =>
    (fX2_init h4 ((zn h3))).bind fun h5 =>
    (zpP h5 6 x 1 (zn h3)).bind fun h6 =>
    (zmk h6 3 0).bind fun h7 =>
    (fX2_init h7 ((zn h6))).bind fun h8 =>
    (zpP h8 6 x 2 (zn h6)).bind fun h9 =>
    (zmk h9 6 0).bind fun h10 =>
    (fX5_init h10 ((zn h9))).bind fun h11 =>
    (zpP h11 6 x 3 (zn h9)).bind fun h12 =>
    (zmk h12 4 0).bind fun h13 =>
    (fX3_init h13 ((zn h12))).bind fun h14 =>
    (zpP h14 6 x 4 (zn h12)).bind fun h15 =>
    (zmk h15 4 0).bind fun h16 =>
    (fX3_init h16 ((zn h15))).bind fun h17 =>
    (zpP h17 6 x 5 (zn h15)).bind K) = some g ∧ Q g := by
  refine stO (p := x + 1) (sz := 2) (Sh := fun g => CSh g (x + 1) ∧ zI g (x + 1) = fun _ => 0) hn (by omega) kx (fun g g1 g2 g3 => ?_) (fun h1 s1 => ?_)
  · obtain ⟨g', i1, i2, i3, i4, i5⟩ := i_txt g1 g2
    exact ⟨g', i1, ⟨i2, i3.trans g3⟩, i4, i5⟩
  have k1 := s1.2.1.1.trans kx
  refine stO (p := x + 3) (sz := 37) (Sh := fun g => PSh g (x + 3)) s1.2.2.2.2.2 (by omega) k1 (fun g g1 g2 g3 => i_pth g1 g2) (fun h2 s2 => ?_)
  have k2 := s2.2.1.1.trans k1
  refine stO (p := x + 40) (sz := 37) (Sh := fun g => PSh g (x + 40)) s2.2.2.2.2.2 (by omega) k2 (fun g g1 g2 g3 => i_pth g1 g2) (fun h3 s3 => ?_)
  have k3 := s3.2.1.1.trans k2
  refine stO (p := x + 77) (sz := 1) (Sh := fun g => zkd g (x + 77) = 6) s3.2.2.2.2.2 (by omega) k3 (fun g g1 g2 g3 => ⟨g, if_pos g1, g1, g2, fun a _ => Sm.rf⟩) (fun h4 s4 => ?_)
  have k4 := s4.2.1.1.trans k3
  refine stO (p := x + 78) (sz := 39) (Sh := fun g => SSh g (x + 78)) s4.2.2.2.2.2 (by omega) k4 (fun g g1 g2 g3 => i_st g1 g2) (fun h5 s5 => ?_)
  have k5 := s5.2.1.1.trans k4
  refine stO (p := x + 117) (sz := 39) (Sh := fun g => SSh g (x + 117)) s5.2.2.2.2.2 (by omega) k5 (fun g g1 g2 g3 => i_st g1 g2) (fun h6 s6 => hk h6 ?_)
  have k6 := s6.2.1.1.trans k5
  have m5 : ∀ a, a < x + 117 → a ≠ x → Sm h5 h6 a := s6.1
  have m4 : ∀ a, a < x + 78 → a ≠ x → Sm h4 h6 a := fun a u1 u2 => (s5.1 a u1 u2).tr (m5 a (by omega) u2)
  have m3 : ∀ a, a < x + 77 → a ≠ x → Sm h3 h6 a := fun a u1 u2 => (s4.1 a u1 u2).tr (m4 a (by omega) u2)
  have m2 : ∀ a, a < x + 40 → a ≠ x → Sm h2 h6 a := fun a u1 u2 => (s3.1 a u1 u2).tr (m3 a (by omega) u2)
  have m1 : ∀ a, a < x + 3 → a ≠ x → Sm h1 h6 a := fun a u1 u2 => (s2.1 a u1 u2).tr (m2 a (by omega) u2)
  obtain ⟨g1, ⟨q1, q1'⟩, t1⟩ := s1.2.2.2.2.1
  obtain ⟨g2, q2, t2⟩ := s2.2.2.2.2.1
  obtain ⟨g3, q3, t3⟩ := s3.2.2.2.2.1
  obtain ⟨g4, q4, t4⟩ := s4.2.2.2.2.1
  obtain ⟨g5, q5, t5⟩ := s5.2.2.2.2.1
  obtain ⟨g6, q6, t6⟩ := s6.2.2.2.2.1
  have f1 : ∀ a, x + 1 ≤ a → a < x + 3 → Sm g1 h6 a := fun a u1 u2 => (t1 a u1).tr (m1 a u2 (by omega))
  refine ⟨⟨k6, s6.2.2.2.2.2⟩, ⟨?_, ?_, ?_, ?_, ?_, s6.2.2.1⟩, ⟨CSh_sm (fun a u1 u2 => f1 a u1 (by omega)) q1, (f1 (x + 1) (by omega) (by omega)).2.2.1.trans q1'⟩, PSh_sm (fun a u1 u2 => (t2 a u1).tr (m2 a (by omega) (by omega))) q2, PSh_sm (fun a u1 u2 => (t3 a u1).tr (m3 a (by omega) (by omega))) q3, ((t4 (x + 77) (by omega)).tr (m4 (x + 77) (by omega) (by omega))).1.trans q4, SSh_sm (fun a u1 u2 => (t5 a u1).tr (m5 a (by omega) (by omega))) q5, SSh_sm (fun a u1 u2 => t6 a u1) q6⟩
  · rw [s6.2.2.2.1 0 (by decide), s5.2.2.2.1 0 (by decide), s4.2.2.2.1 0 (by decide), s3.2.2.2.1 0 (by decide), s2.2.2.2.1 0 (by decide)]; exact s1.2.2.1
  · rw [s6.2.2.2.1 1 (by decide), s5.2.2.2.1 1 (by decide), s4.2.2.2.1 1 (by decide), s3.2.2.2.1 1 (by decide)]; exact s2.2.2.1
  · rw [s6.2.2.2.1 2 (by decide), s5.2.2.2.1 2 (by decide), s4.2.2.2.1 2 (by decide)]; exact s3.2.2.1
  · rw [s6.2.2.2.1 3 (by decide), s5.2.2.2.1 3 (by decide)]; exact s4.2.2.1
  · rw [s6.2.2.2.1 4 (by decide)]; exact s5.2.2.1
theorem PA_sm (e : ∀ a, a < x + 156 → a ≠ x → Sm h h' a) (k : zkd h' x = zkd h x) (ep : ∀ j, j < 6 → zP h' x j = zP h x j) (s : PA x h) : (zkd h' x = 7) ∧ (zP h' x 0 = x + 1 ∧ zP h' x 1 = x + 3 ∧ zP h' x 2 = x + 40 ∧ zP h' x 3 = x + 77 ∧ zP h' x 4 = x + 78 ∧ zP h' x 5 = x + 117) ∧ (CSh h' (x + 1) ∧ zI h' (x + 1) = fun _ => 0) ∧ PSh h' (x + 3) ∧ PSh h' (x + 40) ∧ zkd h' (x + 77) = 6 ∧ SSh h' (x + 78) ∧ SSh h' (x + 117) := by
  obtain ⟨⟨a1, a2⟩, ⟨b0, b1, b2, b3, b4, b5⟩, ⟨c1, c2⟩, d1, d2, d3, d4, d5⟩ := s
  refine ⟨k.trans a1, ⟨(ep 0 (by omega)).trans b0, (ep 1 (by omega)).trans b1, (ep 2 (by omega)).trans b2, (ep 3 (by omega)).trans b3, (ep 4 (by omega)).trans b4, (ep 5 (by omega)).trans b5⟩, ⟨CSh_sm (fun a u1 u2 => e a (by omega) (by omega)) c1, (e (x + 1) (by omega) (by omega)).2.2.1.trans c2⟩, PSh_sm (fun a u1 u2 => e a (by omega) (by omega)) d1, PSh_sm (fun a u1 u2 => e a (by omega) (by omega)) d2, (e (x + 77) (by omega) (by omega)).1.trans d3, SSh_sm (fun a u1 u2 => e a (by omega) (by omega)) d4, SSh_sm (fun a u1 u2 => e a (by omega) (by omega)) d5⟩
end INI3
