/-! pure: the reference's findWay -/
/-- the costs of a row -/
def rco (ρ : zN') : zN' := fun c => ρ (4 + c)
def rcm (fr tt : zN') (nc : Nat) (ρ : zN') : Nat → Nat → Nat := cmt fr tt (rco ρ) 4294967287 nc
def nws (fr tt gr ac li : zN') (nc nf : Nat) (ρ : zN') (e p b : Nat) : Nat × Nat × Nat := nwo (fD 16 (rcm fr tt nc ρ) nf) (fun a b => psize fr tt gr nc (rcm fr tt nc ρ) nf a b (ρ (24 + 28 * e + a))) (ac p) (fun a => ρ (24 + 28 * e + 16 + a)) (li p) nf b
/-- the way: cost, start, end, size, loss -/
def nway (fr tt gr lo ac li : zN') (nc nf : Nat) (ρ : zN') (e p : Nat) : Option (Nat × Nat × Nat × Nat × Nat) :=
  if (nws fr tt gr ac li nc nf ρ e p nf).1 < fINF then some ((nws fr tt gr ac li nc nf ρ e p nf).1 / 16, (nws fr tt gr ac li nc nf ρ e p nf).2.1, (nws fr tt gr ac li nc nf ρ e p nf).2.2, psize fr tt gr nc (rcm fr tt nc ρ) nf (nws fr tt gr ac li nc nf ρ e p nf).2.1 (nws fr tt gr ac li nc nf ρ e p nf).2.2 (ρ (24 + 28 * e + (nws fr tt gr ac li nc nf ρ e p nf).2.1)), ρ (24 + 28 * e + 8 + (nws fr tt gr ac li nc nf ρ e p nf).2.1) + ploss fr tt lo nc (rcm fr tt nc ρ) nf (nws fr tt gr ac li nc nf ρ e p nf).2.1 (nws fr tt gr ac li nc nf ρ e p nf).2.2) else none
/-- what a search of the reference changes -/
def rfr (m : Nat) (I I' : Nat → Nat → Int32) : Prop := (∀ a, a ≠ m → a ≠ m + 21 → a ≠ m + 22 → I' a = I a) ∧ (∀ k, k < 33 ∨ 37 < k → I' m k = I m k) ∧ (∃ td, I' (m + 21) = nr td) ∧ ∃ dd, I' (m + 22) = nr dd
def rcs (nc : Nat) (ρ : zN') : Prop := ∀ c, c < nc → 1 ≤ ρ (4 + c) ∧ ρ (4 + c) ≤ 99
theorem none_no (c : Nat) (h : c < 20) : nI c = -9 ↔ c = 4294967287 := by
  constructor
  · intro q
    have := nI_neg9
    rw [← q] at this
    rw [show (0 : Int32) = nI 0 from rfl, nI_lt_f (Nat.zero_le _) (by omega)] at this
    exact this.elim
  · intro q
    omega
theorem up_at {α : Type} {f : Nat → α} {k : Nat} {v : α} : va_up f k v k = v := if_pos rfl
theorem up_ne {α : Type} {f : Nat → α} {j k : Nat} {v : α} (h : j ≠ k) : va_up f k v j = f j := if_neg h
theorem RBd_of {I I' : Nat → Nat → Int32} {m nf nc np : Nat} {fr tt gr lo ac li : zN'} (h : ∀ a, a ≠ m → a ≤ m + 7 → I' a = I a) (hm : ∀ k, 4 ≤ k → k ≤ 6 → I' m k = I m k) (hB : RBd I m nf nc np fr tt gr lo ac li) : RBd I' m nf nc np fr tt gr lo ac li := by
  obtain ⟨b4, b5, b6, b7, b8, b9, b10, b11, b12⟩ := hB
  refine ⟨?_, ?_, ?_, ?_, ?_, ?_, ?_, ?_, ?_⟩
  · rw [hm _ (by omega) (by omega)]; exact b4
  · rw [hm _ (by omega) (by omega)]; exact b5
  · rw [hm _ (by omega) (by omega)]; exact b6
  all_goals (rw [h _ (by omega) (by omega)]; assumption)
theorem rTab_of {I I' : Nat → Nat → Int32} {m nf : Nat} {cm : Nat → Nat → Nat} (h : ∀ a, a = m + 21 ∨ a = m + 22 → I' a = I a) (ht : rTab I m nf cm) : rTab I' m nf cm := by
  obtain ⟨ot, od, t1, t2⟩ := ht
  exact ⟨ot, od, by rw [h _ (Or.inl rfl)]; exact t1, by rw [h _ (Or.inr rfl)]; exact t2⟩
section FIND
variable {h : zH} {I : Nat → Nat → Int32} {m nf nc np : Nat} {fr tt gr lo ac li : zN'}
theorem wD {D sz : Nat → Nat → Nat} {acc lim nf : Nat} {kd : Nat → Nat} : ∀ b, b ≤ nf → (nwo D sz acc kd lim nf b).1 < fINF → (nwo D sz acc kd lim nf b).1 = D (nwo D sz acc kd lim nf b).2.1 (nwo D sz acc kd lim nf b).2.2 ∧ kd (nwo D sz acc kd lim nf b).2.1 ≠ 0 ∧ acc / 2 ^ (nwo D sz acc kd lim nf b).2.2 % 2 = 1 ∧ sz (nwo D sz acc kd lim nf b).2.1 (nwo D sz acc kd lim nf b).2.2 ≤ lim := by
  have st : ∀ b a s, (s.1 < fINF → s.1 = D s.2.1 s.2.2 ∧ kd s.2.1 ≠ 0 ∧ acc / 2 ^ s.2.2 % 2 = 1 ∧ sz s.2.1 s.2.2 ≤ lim) → ((wst D sz acc kd lim b a s).1 < fINF → (wst D sz acc kd lim b a s).1 = D (wst D sz acc kd lim b a s).2.1 (wst D sz acc kd lim b a s).2.2 ∧ kd (wst D sz acc kd lim b a s).2.1 ≠ 0 ∧ acc / 2 ^ (wst D sz acc kd lim b a s).2.2 % 2 = 1 ∧ sz (wst D sz acc kd lim b a s).2.1 (wst D sz acc kd lim b a s).2.2 ≤ lim) := by
    intro b a s hs
    unfold wst
    split
    · rename_i c
      intro _
      exact ⟨rfl, c.2.1, c.1, c.2.2.2⟩
    · exact hs
  have ii : ∀ b s, (s.1 < fINF → s.1 = D s.2.1 s.2.2 ∧ kd s.2.1 ≠ 0 ∧ acc / 2 ^ s.2.2 % 2 = 1 ∧ sz s.2.1 s.2.2 ≤ lim) → ∀ a, ((nwi D sz acc kd lim b s a).1 < fINF → (nwi D sz acc kd lim b s a).1 = D (nwi D sz acc kd lim b s a).2.1 (nwi D sz acc kd lim b s a).2.2 ∧ kd (nwi D sz acc kd lim b s a).2.1 ≠ 0 ∧ acc / 2 ^ (nwi D sz acc kd lim b s a).2.2 % 2 = 1 ∧ sz (nwi D sz acc kd lim b s a).2.1 (nwi D sz acc kd lim b s a).2.2 ≤ lim) := by
    intro b s hs a
    induction a with
    | zero => exact hs
    | succ a ih => exact st b a _ ih
  intro b
  induction b with
  | zero => intro _ q; exact absurd q (Nat.lt_irrefl _)
  | succ b ih => intro hb; exact ii b _ (ih (by omega)) nf
theorem way_15 {q e p : Nat} {ρ : zN'} {cm : Nat → Nat → Nat} (hT : RefT h m) (hB : RBd I m nf nc np fr tt gr lo ac li) (hO : bOK nf nc np fr tt gr lo ac li) (ht : rTab I m nf cm) (hc : cok cm nf) (hf : cfr fr tt nc cm) (hqm : q ≠ m) (hk : zkd h q = 9) (hl : zln h q = 360) (hI : I q = nr ρ) (he : e < 12) (hok : eok ρ e) (hp : p < np) (k : zH → Int32 → Int32 → Option (Int32 × zH)) : ∀ d b n, b + d = nf → d < n →
    fX7_findWay_L15 k m q (nI e) (nI p) n (zw h (wI I m (nwo (fD 16 cm nf) (fun a b => psize fr tt gr nc cm nf a b (ρ (24 + 28 * e + a))) (ac p) (fun a => ρ (24 + 28 * e + 16 + a)) (li p) nf b))) (nI (nwo (fD 16 cm nf) (fun a b => psize fr tt gr nc cm nf a b (ρ (24 + 28 * e + a))) (ac p) (fun a => ρ (24 + 28 * e + 16 + a)) (li p) nf b).1) (nI b) = k (zw h (wI I m (nwo (fD 16 cm nf) (fun a b => psize fr tt gr nc cm nf a b (ρ (24 + 28 * e + a))) (ac p) (fun a => ρ (24 + 28 * e + 16 + a)) (li p) nf nf))) (nI (nwo (fD 16 cm nf) (fun a b => psize fr tt gr nc cm nf a b (ρ (24 + 28 * e + a))) (ac p) (fun a => ρ (24 + 28 * e + 16 + a)) (li p) nf nf).1) (nI nf) := by
  have hn := hc.1
  intro d
  induction d with
  | zero =>
    intro b n hb hn
    obtain ⟨n, rfl⟩ := fuel1 hn
    have e : b = nf := by omega
    subst e
    rw [fX7_findWay_L15]
    simp (disch := first | assumption | omega) only [nl, nI_add, pk_mul, Option.bind_some, zb2_some, zz_at, zz_zz, zz_ne, nr_at, up_n, zaIw, zbIw, zgIw, zpIw, nI_le_t, nI_le_f, nI_lt_t, nI_lt_f, nI_eq_t, nI_eq_f, ↓reduceIte, zw_kd, zw_ln, zw_P, zw_I, nI_n9, Nat.add_zero, rgI hT, rpI hT, rkd hT, (RBd_w hB).1]
  | succ d ih =>
    intro b n hb hn
    obtain ⟨n, rfl⟩ := fuel1 hn
    have goal := ih (b + 1) n (by omega) (by omega)
    rw [fX7_findWay_L15]
    simp (disch := first | assumption | omega) only [nl, nI_add, pk_mul, Option.bind_some, zb2_some, zz_at, zz_zz, zz_ne, nr_at, up_n, zaIw, zbIw, zgIw, zpIw, nI_le_t, nI_le_f, nI_lt_t, nI_lt_f, nI_eq_t, nI_eq_f, ↓reduceIte, zw_kd, zw_ln, zw_P, zw_I, nI_n9, Nat.add_zero, rgI hT, rpI hT, rkd hT, (RBd_w hB).1]
    refine Eq.trans (way_27 hT hB hO ht hc hf hqm hk hl hI he hok hp (show b < nf by omega) (nwo_ok b (by omega)) _ nf 0 zF (by omega) (by unfold zF; omega)) ?_
    exact goal
theorem n_findWay {q e p : Nat} {ρ ot od : zN'} (hT : RefT h m) (hB : RBd I m nf nc np fr tt gr lo ac li) (hO : bOK nf nc np fr tt gr lo ac li) (h21 : I (m + 21) = nr ot) (h22 : I (m + 22) = nr od) (hqm : q ≠ m) (hq1 : q ≠ m + 21) (hq2 : q ≠ m + 22) (hk : zkd h q = 9) (hl : zln h q = 360) (hI : I q = nr ρ) (hr : rcs nc ρ) (he : e < 12) (hok : eok ρ e) (hp : p < np) :
    match nway fr tt gr lo ac li nc nf ρ e p with
    | none => ∃ I', fX7_findWay (zw h I) m q (nI e) (nI p) = some (0, zw h I') ∧ rfr m I I'
    | some (w1, w2, w3, w4, w5) => ∃ I', fX7_findWay (zw h I) m q (nI e) (nI p) = some (1, zw h I') ∧ rfr m I I' ∧ I' m 33 = nI w2 ∧ I' m 34 = nI w3 ∧ I' m 35 = nI w1 ∧ I' m 36 = nI w4 ∧ I' m 37 = nI w5 := by
  have hn := hO.1.1
  have hc : cok (rcm fr tt nc ρ) nf := cok_cmt hO.1 (fun c hc => (hr c hc).2)
  have hf : cfr fr tt nc (rcm fr tt nc ρ) := cfr_cmt
  obtain ⟨b4, b5, b6, b7, b8, b9, b10, b11, b12⟩ := hB
  have lt := n_layTable (u2 := -9) (skip := 4294967287) hT hq2 hq1 hk hl none_no b5 b4 b7 b8 hI hr hO.1 h21 h22
  generalize e0 : (zz (zz I (m + 22) (nr (mrow (fwd 16 (cmt fr tt (fun c => ρ (4 + c)) 4294967287 nc)) od))) (m + 21) (nr (mrow (nT fr tt (fun c => ρ (4 + c)) 4294967287 nc nf) ot))) = I1 at lt
  have o1 : ∀ a, a ≠ m + 21 → a ≠ m + 22 → I1 a = I a := fun a x y => by rw [← e0, zz_ne x, zz_ne y]
  have ht : rTab I1 m nf (rcm fr tt nc ρ) := ⟨ot, od, by rw [← e0, zz_at]; rfl, by rw [← e0, zz_ne (by omega), zz_at]; rfl⟩
  have hB1 : RBd I1 m nf nc np fr tt gr lo ac li := by
    refine ⟨?_, ?_, ?_, ?_, ?_, ?_, ?_, ?_, ?_⟩
    all_goals (rw [o1 _ (by omega) (by omega)]; assumption)
  have hI1 : I1 q = nr ρ := by rw [o1 _ hq1 hq2]; exact hI
  have so := nwo_ok (D := fD 16 (rcm fr tt nc ρ) nf) (sz := fun a b => psize fr tt gr nc (rcm fr tt nc ρ) nf a b (ρ (24 + 28 * e + a))) (acc := ac p) (kd := fun a => ρ (24 + 28 * e + 16 + a)) (lim := li p) (nf := nf) nf (by omega)
  have wd := wD (D := fD 16 (rcm fr tt nc ρ) nf) (sz := fun a b => psize fr tt gr nc (rcm fr tt nc ρ) nf a b (ρ (24 + 28 * e + a))) (acc := ac p) (kd := fun a => ρ (24 + 28 * e + 16 + a)) (lim := li p) (nf := nf) nf (by omega)
  have lp := fun k => way_15 (q := q) (e := e) (p := p) (ρ := ρ) (cm := rcm fr tt nc ρ) hT hB1 hO ht hc hf hqm hk hl hI1 he hok hp k nf 0 zF (by omega) (by unfold zF; omega)
  have z0 : ∀ x y, wI I1 m (fINF, x, y) = I1 := fun x y => if_neg (Nat.lt_irrefl _)
  have fe : ∀ k, fX7_findWay_L15 k m q (nI e) (nI p) zF (zw h I1) 1000000 0 = k (zw h (wI I1 m (nws fr tt gr ac li nc nf ρ e p nf))) (nI (nws fr tt gr ac li nc nf ρ e p nf).1) (nI nf) := fun k => by
    have := lp k
    rw [nwo, z0] at this
    exact this
  unfold nway
  generalize es : nws fr tt gr ac li nc nf ρ e p nf = s at fe ⊢
  have so : sok nf s := by rw [← es]; exact so
  have wd : s.1 < fINF → s.1 = fD 16 (rcm fr tt nc ρ) nf s.2.1 s.2.2 ∧ ρ (24 + 28 * e + 16 + s.2.1) ≠ 0 := fun z => by
    rw [← es] at z ⊢
    exact ⟨(wd z).1, (wd z).2.1⟩
  by_cases c : s.1 < fINF
  · rw [if_pos c]
    obtain ⟨s1, s2⟩ := so.2 c
    obtain ⟨d1, d2⟩ := wd c
    have cF := c
    unfold fINF at cF
    obtain ⟨k1, k2, k3, k4, k5⟩ := hok.1 s.2.1 (by omega)
    have hB2 := RBd_w (s := s) hB1
    have ht2 := rTab_w (s := s) ht
    have wm : wI I1 m s = zz I1 m (va_up (va_up (I1 m) 33 (nI s.2.1)) 34 (nI s.2.2)) := if_pos c
    have m33 : wI I1 m s m 33 = nI s.2.1 := by rw [wm, zz_at, up_ne (by omega), up_at]
    have m34 : wI I1 m s m 34 = nI s.2.2 := by rw [wm, zz_at, up_at]
    have w2 : ∀ a, a ≠ m → wI I1 m s a = I1 a := fun a ha => wI_at ha
    have w3 : ∀ k, k < 33 ∨ 37 < k → wI I1 m s m k = I m k := fun k hk => by rw [wI_m (by omega), o1 m (by omega) (by omega)]
    generalize wI I1 m s = I2 at fe hB2 ht2 m33 m34 w2 w3
    have I2q : I2 q = nr ρ := by rw [w2 q hqm]; exact hI1
    have dv : nI s.1 / nI 16 = nI (s.1 / 16) := pk_div (by omega) (by omega) (by omega)
    have sn := n_sizeOn (I := zz I2 m (va_up (I2 m) 35 (nI (s.1 / 16)))) (v := ρ (24 + 28 * e + s.2.1)) hT (RBd_of (fun a ha _ => zz_ne ha) (fun k _ _ => by rw [zz_at, up_ne (by omega)]) hB2) hO (rTab_of (fun a ha => zz_ne (by omega)) ht2) hc hf s1 s2 (by rw [← d1]; exact c) k2
    have ln := n_lossOn (I := zz I2 m (va_up (va_up (I2 m) 35 (nI (s.1 / 16))) 36 (nI (psize fr tt gr nc (rcm fr tt nc ρ) nf s.2.1 s.2.2 (ρ (24 + 28 * e + s.2.1)))))) hT (RBd_of (fun a ha _ => zz_ne ha) (fun k _ _ => by rw [zz_at, up_ne (by omega), up_ne (by omega)]) hB2) hO (rTab_of (fun a ha => zz_ne (by omega)) ht2) hc hf s1 s2 (by rw [← d1]; exact c)
    refine ⟨zz I2 m (va_up (va_up (va_up (I2 m) 35 (nI (s.1 / 16))) 36 (nI (psize fr tt gr nc (rcm fr tt nc ρ) nf s.2.1 s.2.2 (ρ (24 + 28 * e + s.2.1))))) 37 (nI (ρ (24 + 28 * e + 8 + s.2.1) + ploss fr tt lo nc (rcm fr tt nc ρ) nf s.2.1 s.2.2))), ?_, ?_, ?_⟩
    · unfold fX7_findWay
      rw [if_pos (rkd hT), lt, Option.bind_some, fe]
      simp (disch := first | assumption | omega) only [nl, nI_add, pk_mul, Option.bind_some, zb2_some, zz_at, zz_zz, zz_ne, nr_at, up_n, zaIw, zbIw, zgIw, zpIw, nI_le_t, nI_le_f, nI_lt_t, nI_lt_f, nI_eq_t, nI_eq_f, ↓reduceIte, zw_kd, zw_ln, zw_P, zw_I, nI_n9, Nat.add_zero, rgI hT, rpI hT, rkd hT, dv, up_at, up_ne, m33, m34, p_at, I2q, sn, ln]
    · refine ⟨fun a x y z => by rw [zz_ne x, w2 a x, o1 a y z], fun k hk => by rw [zz_at, up_ne (by omega), up_ne (by omega), up_ne (by omega)]; exact w3 k hk, ?_, ?_⟩
      · obtain ⟨ot, od, t1, t2⟩ := ht2
        exact ⟨_, by rw [zz_ne (by omega)]; exact t1⟩
      · obtain ⟨ot, od, t1, t2⟩ := ht2
        exact ⟨_, by rw [zz_ne (by omega)]; exact t2⟩
    · refine ⟨?_, ?_, ?_, ?_, ?_⟩
      · rw [zz_at, up_ne (by omega), up_ne (by omega), up_ne (by omega)]; exact m33
      · rw [zz_at, up_ne (by omega), up_ne (by omega), up_ne (by omega)]; exact m34
      · rw [zz_at, up_ne (by omega), up_ne (by omega), up_at]
      · rw [zz_at, up_ne (by omega), up_at]
      · rw [zz_at, up_at]
  · rw [if_neg c]
    have e1 : s.1 = fINF := by have := so.1; omega
    refine ⟨wI I1 m s, ?_, ?_⟩
    · unfold fX7_findWay
      rw [if_pos (rkd hT), lt, Option.bind_some, fe, e1, if_pos (show nI fINF = 1000000 from rfl)]
    · refine ⟨fun a x y z => by rw [wI_at x, o1 a y z], fun k hk => by rw [wI_m (by omega), o1 m (by omega) (by omega)], ?_, ?_⟩
      · obtain ⟨ot, od, t1, t2⟩ := rTab_w (s := s) ht
        exact ⟨_, t1⟩
      · obtain ⟨ot, od, t1, t2⟩ := rTab_w (s := s) ht
        exact ⟨_, t2⟩
end FIND
