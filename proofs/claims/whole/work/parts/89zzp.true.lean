/-! pure: the law is true -/
def z0 (G : zG) : zH := (fun _ => 0, fun _ => 0, fun _ _ => 0, fun _ _ => 0, fun _ _ => 0, zgB G)
section TRUE
variable {h h' : zH} {x m q b d w : Nat} {A : zSt}
theorem SR_sm {tg : Bool} {nc : Nat} {ρ : zN'} (e : ∀ a, q ≤ a → a < q + 39 → Sm h h' a) (hc : ρ 0 ≤ 12) (s : SR tg h q nc ρ) : SR tg h' q nc ρ := by
  obtain ⟨s1, s2, s3, s4, s5, s6, s7⟩ := s
  have eq := (e q (by omega) (by omega)).2.2.1
  refine ⟨SSh_sm e s1, by rw [eq]; exact s2, by rw [eq]; exact s3, by rw [eq]; exact s4, by rw [eq]; exact s5, fun c hc' => by rw [(e (q + 2) (by omega) (by omega)).2.2.1]; exact s6 c hc', fun i hi => ?_⟩
  rw [(e (q + 1) (by omega) (by omega)).2.2.2]
  obtain ⟨j, hj, ej⟩ := s1.ea (i := i) (by omega)
  refine ER_fr (fun a g1 g2 => ?_) (s7 i hi)
  rw [ej] at g1 g2
  exact (e a (by omega) (by omega)).2.2.1
theorem PF_sm {nf nc : Nat} {fr tt : zN'} {cm : Nat → Nat → Nat} (e : ∀ a, w ≤ a → a < w + 37 → Sm h h' a) (hn : nf ≤ 8) (s : PF h w nf nc fr tt cm) : PF h' w nf nc fr tt cm := by
  refine ⟨PSh_sm e s.1, fun a b ha hb => ?_⟩
  rw [(e (w + 2 + 9 * 2 + a) (by omega) (by omega)).2.2.1, (e (w + 2 + 9 * 3 + a) (by omega) (by omega)).2.2.1]
  exact s.2 a b ha hb
theorem BR_sm {nf nc np : Nat} {fr tt gr lo ac li : zN'} (e : ∀ a, b ≤ a → a < b + 9 → Sm h h' a) (s : BR h b nf nc np fr tt gr lo ac li) : BR h' b nf nc np fr tt gr lo ac li := by
  refine ⟨BSh_sm e s.1, ?_⟩
  rw [(e b (by omega) (by omega)).2.2.1, (e (b + 1) (by omega) (by omega)).2.2.1, (e (b + 2) (by omega) (by omega)).2.2.1, (e (b + 4) (by omega) (by omega)).2.2.1, (e (b + 5) (by omega) (by omega)).2.2.1, (e (b + 6) (by omega) (by omega)).2.2.1, (e (b + 7) (by omega) (by omega)).2.2.1]
  exact s.2
theorem CI_sm {t : Nat} (hA : AI t A) (e : ∀ a, a < x + 801 → Sm h h' a) (c : CI h x A) : CI h' x A := by
  obtain ⟨b, d, ⟨k1, k2, k3, k4, ⟨k5, k5'⟩, k6, k7⟩, n1, n2, n3, n4⟩ := c
  have bd := k2.bd
  obtain ⟨c1, c2⟩ := AI_hc hA
  have ex := e x (by omega)
  have nh := hA.2.2.2.1
  refine ⟨b, d, ⟨?_, ?_, ?_, ?_, ⟨BR_sm (fun a h1 h2 => e a (by omega)) k5, BSh_sm (fun a h1 h2 => e a (by omega)) k5'⟩, ⟨fun i hi => ?_, fun i j hi hj => ?_, fun j hj => SSh_sm (fun a h1 h2 => e a (by omega)) (k6.2.2.1 j hj), fun i hi => ?_⟩, ⟨fun k hk => SSh_sm (fun a h1 h2 => e a (by omega)) (k7.1 k hk), fun k hk => ?_, fun k hk fl => SR_sm (fun a h1 h2 => e a (by omega)) (c2 k hk fl) (k7.2.2 k hk fl)⟩⟩, PF_sm (fun a h1 h2 => e a (by omega)) hA.2.1.1.1 n1, PSh_sm (fun a h1 h2 => e a (by omega)) n2, SR_sm (fun a h1 h2 => e a (by omega)) hA.2.2.1.1.1.1 n3, SSh_sm (fun a h1 h2 => e a (by omega)) n4⟩
  · obtain ⟨s1, s2, s3, s4, s5, s6, ⟨s7, s8, s9⟩, s10⟩ := k1
    unfold CSt CSh
    rw [ex.1, ex.2.2.2, (e (x + 156) (by omega)).1, (e (x + 156) (by omega)).2.1, (e (x + 157) (by omega)).1, (e (x + 157) (by omega)).2.1, (e (x + 157) (by omega)).2.2.2, (e (x + 158) (by omega)).1, (e (x + 158) (by omega)).2.1, (e (x + 77) (by omega)).1, (e (x + 1) (by omega)).1, (e (x + 1) (by omega)).2.2.2, (e (x + 1 + 1) (by omega)).1, (e (x + 1 + 1) (by omega)).2.1]
    exact ⟨s1, s2, s3, s4, s5, s6, ⟨s7, s8, s9⟩, s10⟩
  · unfold CBa
    rw [ex.2.2.2]
    exact k2
  · rw [ex.2.2.1]; exact k3
  · rw [(e (x + 1) (by omega)).2.2.1, (e (x + 2) (by omega)).2.2.1]; exact k4
  · rw [(e (x + 156) (by omega)).2.2.2]; exact k6.1 i hi
  · rw [(e (x + 156) (by omega)).2.2.2]; exact k6.2.1 i j hi hj
  · rw [(e (x + 156) (by omega)).2.2.2]
    obtain ⟨j, hj, ej⟩ := k6.1 i (by omega)
    have g := k6.2.2.2 i hi
    rw [ej] at g ⊢
    exact SR_sm (fun a h1 h2 => e a (by omega)) (c1 i hi) g
  · rw [(e (x + 158) (by omega)).2.2.1]; exact k7.2.1 k hk
theorem RefT_sm (e : ∀ a, m ≤ a → a < m + 24 → Sm h h' a) (s : RefT h m) : RefT h' m := by
  obtain ⟨a1, a2, a3, a4, a5, a6, a7, a8, a9, a10, a11, a12, a13, a14, a15⟩ := s
  refine ⟨(e m (by omega) (by omega)).1.trans a1, by rw [(e m (by omega) (by omega)).2.2.2]; exact a2, fun j h1 h2 => (e (m + j) (by omega) (by omega)).1.trans (a3 j h1 h2), (e (m + 1) (by omega) (by omega)).2.1.trans a4, fun j h1 h2 => (e (m + j) (by omega) (by omega)).2.1.trans (a5 j h1 h2), fun j h1 h2 => (e (m + j) (by omega) (by omega)).2.1.trans (a6 j h1 h2), fun j h1 h2 => (e (m + j) (by omega) (by omega)).2.1.trans (a7 j h1 h2), fun j h1 h2 => (e (m + j) (by omega) (by omega)).2.1.trans (a8 j h1 h2), fun j h1 h2 => (e (m + j) (by omega) (by omega)).2.1.trans (a9 j h1 h2), (e (m + 18) (by omega) (by omega)).2.1.trans a10, (e (m + 19) (by omega) (by omega)).2.1.trans a11, (e (m + 20) (by omega) (by omega)).2.1.trans a12, (e (m + 21) (by omega) (by omega)).2.1.trans a13, (e (m + 22) (by omega) (by omega)).2.1.trans a14, (e (m + 23) (by omega) (by omega)).2.1.trans a15⟩
theorem RI_sm (e : ∀ a, m ≤ a → a < m + 24 → Sm h h' a) (s : RI h m A) : RI h' m A := by
  obtain ⟨r1, r2, r4, r5, r6, r7, r8, r9, s1, s2, s3, s4, s5⟩ := s
  have em := (e m (by omega) (by omega)).2.2.1
  have ea : ∀ k, k < 24 → zI h' (m + k) = zI h (m + k) := fun k hk => (e (m + k) (by omega) (by omega)).2.2.1
  refine ⟨RefT_sm e r1, ?_, ?_, by rw [ea 15 (by omega)]; exact r5, by rw [em]; exact r6, fun i hi j hj => by rw [ea 18 (by omega)]; exact r7 i hi j hj, fun k hk => by rw [ea 20 (by omega)]; exact r8 k hk, fun k hk f j hj => by rw [ea 19 (by omega)]; exact r9 k hk f j hj, ?_⟩
  · rw [em, ea 1 (by omega)]; exact r2
  · unfold RBd
    rw [em, ea 2 (by omega), ea 3 (by omega), ea 4 (by omega), ea 5 (by omega), ea 6 (by omega), ea 7 (by omega)]
    exact r4
  · unfold Scr
    rw [ea 16 (by omega), ea 17 (by omega), ea 23 (by omega), ea 21 (by omega), ea 22 (by omega)]
    exact ⟨s1, s2, s3, s4, s5⟩
end TRUE
theorem law_true (G : zG) (hB : 0 < zgB G) (hL : zgL G ≤ 2048) : ∃ h', fL_law G (z0 G) = some (1, h') := by
  unfold fL_law
  have n0 : zn (z0 G) = zgB G := rfl
  rw [mk_ (by rw [n0]; omega), Option.bind_some, n0]
  obtain ⟨h2, a1, a2, a3⟩ := i_X6 (h := zal (z0 G) 7 0) (x := zgB G) al_kd rfl
  rw [a1, Option.bind_some, mk_ (by rw [a3]; omega), Option.bind_some]
  have k3 : zkd (zal h2 8 0) (zn h2) = 8 := al_kd
  obtain ⟨h4, b1, b2, b3, b4⟩ := i_X7 (h := zal h2 8 0) (m := zn h2) k3 rfl al_I
  rw [b1, Option.bind_some, mk_ (by rw [b3]; omega), Option.bind_some]
  have C4 : CI (zal h4 10 1) (zgB G) A0 := CI_sm AI0 (fun a ha => ((al_sm (by omega)).tr (b4 a (by omega))).tr (al_sm (by omega))) a2
  have R4 : RI (zal h4 10 1) (zn h2) A0 := RI_sm (fun a h1 h2 => al_sm (by omega)) b2
  have L : LI (zal h4 10 1) (zgB G) (zn h2) (zn h4) A0 := ⟨C4, R4, al_kd, al_ln⟩
  exact law_loop hL (by omega) (by omega) 514 0 _ A0 (by omega) (by omega) L AI0
