/-! pure: the reference's way -/
def bit (x b : Nat) : Prop := x / 2 ^ b % 2 = 1
theorem bit_at : ∀ x, x < 256 → ∀ b, b < 8 → (nI x >>> (nI b &&& nI 31)) &&& nI 1 = nI (x / 2 ^ b % 2) := by decide +kernel
def wst (D : Nat → Nat → Nat) (sz : Nat → Nat → Nat) (acc : Nat) (kd : Nat → Nat) (lim b a : Nat) (s : Nat × Nat × Nat) : Nat × Nat × Nat := if acc / 2 ^ b % 2 = 1 ∧ kd a ≠ 0 ∧ D a b < s.1 ∧ sz a b ≤ lim then (D a b, a, b) else s
def nwi (D : Nat → Nat → Nat) (sz : Nat → Nat → Nat) (acc : Nat) (kd : Nat → Nat) (lim b : Nat) (s : Nat × Nat × Nat) : Nat → Nat × Nat × Nat
  | 0 => s
  | a + 1 => wst D sz acc kd lim b a (nwi D sz acc kd lim b s a)
def nwo (D : Nat → Nat → Nat) (sz : Nat → Nat → Nat) (acc : Nat) (kd : Nat → Nat) (lim nf : Nat) : Nat → Nat × Nat × Nat
  | 0 => (fINF, 0, 0)
  | b + 1 => nwi D sz acc kd lim b (nwo D sz acc kd lim nf b) nf
def sok (nf : Nat) (s : Nat × Nat × Nat) : Prop := s.1 ≤ fINF ∧ (s.1 < fINF → s.2.1 < nf ∧ s.2.2 < nf)
theorem wst_ok {D sz : Nat → Nat → Nat} {acc lim nf a b : Nat} {kd : Nat → Nat} {s : Nat × Nat × Nat} (ha : a < nf) (hb : b < nf) (h : sok nf s) : sok nf (wst D sz acc kd lim b a s) := by
  unfold wst
  split
  · rename_i c
    have := h.1
    exact ⟨by show D a b ≤ fINF; omega, fun _ => ⟨ha, hb⟩⟩
  · exact h
theorem nwi_ok {D sz : Nat → Nat → Nat} {acc lim nf b : Nat} {kd : Nat → Nat} {s : Nat × Nat × Nat} (hb : b < nf) (h : sok nf s) : ∀ a, a ≤ nf → sok nf (nwi D sz acc kd lim b s a) := by
  intro a
  induction a with
  | zero => intro _; exact h
  | succ a ih => intro ha; exact wst_ok (by omega) hb (ih (by omega))
theorem nwo_ok {D sz : Nat → Nat → Nat} {acc lim nf : Nat} {kd : Nat → Nat} : ∀ b, b ≤ nf → sok nf (nwo D sz acc kd lim nf b) := by
  intro b
  induction b with
  | zero => intro _; exact ⟨Nat.le_refl _, fun h => absurd h (Nat.lt_irrefl _)⟩
  | succ b ih => intro hb; exact nwi_ok (by omega) (ih (by omega)) nf (by omega)
def wI (I : Nat → Nat → Int32) (m : Nat) (s : Nat × Nat × Nat) : Nat → Nat → Int32 := if s.1 < fINF then zz I m (va_up (va_up (I m) 33 (nI s.2.1)) 34 (nI s.2.2)) else I
theorem wI_at {I : Nat → Nat → Int32} {m q : Nat} {s : Nat × Nat × Nat} (h : q ≠ m) : wI I m s q = I q := by
  unfold wI
  split
  · rw [zz_ne h]
  · rfl
theorem wI_m {I : Nat → Nat → Int32} {m k : Nat} {s : Nat × Nat × Nat} (h : k ≠ 33 ∧ k ≠ 34) : wI I m s m k = I m k := by
  unfold wI
  split
  · rw [zz_at]
    unfold va_up
    rw [if_neg h.2, if_neg h.1]
  · rfl
theorem wI_up {I : Nat → Nat → Int32} {m a b d : Nat} {s : Nat × Nat × Nat} (hd : d < fINF) : zz (wI I m s) m (va_up (va_up (wI I m s m) 33 (nI a)) 34 (nI b)) = wI I m (d, a, b) := by
  unfold wI
  rw [if_pos (show (d, a, b).1 < fINF from hd)]
  split
  · rw [zz_zz, zz_at]
    congr 1
    funext k
    unfold va_up
    by_cases q : k = 34
    · rw [if_pos q, if_pos q]
    · by_cases r : k = 33
      · rw [if_neg q, if_pos r, if_neg q, if_pos r]
      · rw [if_neg q, if_neg r, if_neg q, if_neg r, if_neg q, if_neg r]
  · rfl
theorem psi_le {gr : zN'} {cv nx : Nat → Nat} : ∀ s f v, v ≤ 99999 → psi gr cv nx s f v ≤ 99999 := by
  intro s
  induction s with
  | zero => intro f v h; exact h
  | succ s ih => intro f v h; exact ih _ _ (gw_le _ _)
section WAY
variable {h : zH} {I : Nat → Nat → Int32} {m nf nc np : Nat} {fr tt gr lo ac li : zN'} {cm : Nat → Nat → Nat}
theorem RBd_w {s : Nat × Nat × Nat} (hB : RBd I m nf nc np fr tt gr lo ac li) : RBd (wI I m s) m nf nc np fr tt gr lo ac li := by
  obtain ⟨b4, b5, b6, b7, b8, b9, b10, b11, b12⟩ := hB
  refine ⟨?_, ?_, ?_, ?_, ?_, ?_, ?_, ?_, ?_⟩
  · rw [wI_m (by omega)]; exact b4
  · rw [wI_m (by omega)]; exact b5
  · rw [wI_m (by omega)]; exact b6
  all_goals (rw [wI_at (by omega)]; assumption)
theorem rTab_w {s : Nat × Nat × Nat} (ht : rTab I m nf cm) : rTab (wI I m s) m nf cm := by
  obtain ⟨ot, od, t1, t2⟩ := ht
  exact ⟨ot, od, by rw [wI_at (by omega)]; exact t1, by rw [wI_at (by omega)]; exact t2⟩
theorem t_tab {a b : Nat} (hT : RefT h m) (ht : rTab I m nf cm) (hc : cok cm nf) (ha : a < nf) (hb : b < nf) : zaI (zw h I) (m + 21) (nI (8 * a + b)) = some (nI (fD 16 cm nf a b)) := by
  have hn := hc.1
  obtain ⟨ot, od, t1, t2⟩ := ht
  rw [ra21 hT (by omega), t1, nr_at, mrow_at (by omega) (by omega), fwn_eq nf (by omega) _ _ ha hb]
  rfl
theorem way_27 {q e p b : Nat} {ρ : zN'} (hT : RefT h m) (hB : RBd I m nf nc np fr tt gr lo ac li) (hO : bOK nf nc np fr tt gr lo ac li) (ht : rTab I m nf cm) (hc : cok cm nf) (hf : cfr fr tt nc cm) (hqm : q ≠ m) (hk : zkd h q = 9) (hl : zln h q = 360) (hI : I q = nr ρ) (he : e < 12) (hok : eok ρ e) (hp : p < np) (hb : b < nf) {s : Nat × Nat × Nat} (hs : sok nf s) (k : zH → Int32 → Int32 → Option (Int32 × zH)) : ∀ d a n, a + d = nf → d < n →
    fX7_findWay_L27 k m q (nI e) (nI p) (nI b) n (zw h (wI I m (nwi (fD 16 cm nf) (fun a b => psize fr tt gr nc cm nf a b (ρ (24 + 28 * e + a))) (ac p) (fun a => ρ (24 + 28 * e + 16 + a)) (li p) b s a))) (nI (nwi (fD 16 cm nf) (fun a b => psize fr tt gr nc cm nf a b (ρ (24 + 28 * e + a))) (ac p) (fun a => ρ (24 + 28 * e + 16 + a)) (li p) b s a).1) (nI a) = k (zw h (wI I m (nwi (fD 16 cm nf) (fun a b => psize fr tt gr nc cm nf a b (ρ (24 + 28 * e + a))) (ac p) (fun a => ρ (24 + 28 * e + 16 + a)) (li p) b s nf))) (nI (nwi (fD 16 cm nf) (fun a b => psize fr tt gr nc cm nf a b (ρ (24 + 28 * e + a))) (ac p) (fun a => ρ (24 + 28 * e + 16 + a)) (li p) b s nf).1) (nI nf) := by
  have hn := hc.1
  have hnp := hO.2.2.1
  obtain ⟨o1, o2, o3, o4, o5⟩ := hO.2.2.2.2 p hp
  intro d
  induction d with
  | zero =>
    intro a n ha hn
    obtain ⟨n, rfl⟩ := fuel1 hn
    have e : a = nf := by omega
    subst e
    rw [fX7_findWay_L27]
    simp (disch := first | assumption | omega) only [nl, nI_add, pk_mul, Option.bind_some, zb2_some, zz_at, zz_zz, zz_ne, nr_at, up_n, zaIw, zbIw, zgIw, zpIw, nI_le_t, nI_le_f, nI_lt_t, nI_lt_f, nI_eq_t, nI_eq_f, ↓reduceIte, zw_kd, zw_ln, zw_P, zw_I, nI_n9, Nat.add_zero, rgI hT, rpI hT, rkd hT, (RBd_w hB).1]
  | succ d ih =>
    intro a n ha hn
    obtain ⟨n, rfl⟩ := fuel1 hn
    have goal := ih (a + 1) n (by omega) (by omega)
    have so := nwi_ok (D := fD 16 cm nf) (sz := fun a b => psize fr tt gr nc cm nf a b (ρ (24 + 28 * e + a))) (acc := ac p) (kd := fun a => ρ (24 + 28 * e + 16 + a)) (lim := li p) hb hs a (by omega)
    rw [nwi] at goal
    generalize nwi (fD 16 cm nf) (fun a b => psize fr tt gr nc cm nf a b (ρ (24 + 28 * e + a))) (ac p) (fun a => ρ (24 + 28 * e + 16 + a)) (li p) b s a = s' at so goal ⊢
    have so1 := so.1
    unfold fINF at so1
    obtain ⟨b4, b5, b6, b7, b8, b9, b10, b11, b12⟩ := RBd_w (s := s') hB
    have Iq : wI I m s' q = nr ρ := by rw [wI_at hqm]; exact hI
    obtain ⟨k1, k2, k3, k4, k5⟩ := hok.1 a (by omega)
    have tv : wI I m s' (m + 21) (8 * a + b) = nI (fD 16 cm nf a b) := by
      have := t_tab hT (rTab_w (s := s') ht) hc (show a < nf by omega) hb
      rw [ra21 hT (by omega)] at this
      exact Option.some.inj this
    rw [← goal]
    rw [fX7_findWay_L27]
    simp (disch := first | assumption | omega) only [nl, nI_add, pk_mul, Option.bind_some, zb2_some, zz_at, zz_zz, zz_ne, nr_at, up_n, zaIw, zbIw, zgIw, zpIw, nI_le_t, nI_le_f, nI_lt_t, nI_lt_f, nI_eq_t, nI_eq_f, ↓reduceIte, zw_kd, zw_ln, zw_P, zw_I, nI_n9, Nat.add_zero, rgI hT, rpI hT, rkd hT, rg6 hT, ra6 hT, rb6 hT, rg7 hT, ra7 hT, rb7 hT, rg21 hT, ra21 hT, rb21 hT, b4, b11, b12, bit_at, p_at]
    by_cases c1 : ac p / 2 ^ b % 2 = 1
    · by_cases c2 : ρ (24 + 28 * e + 16 + a) = 0
      · have w : wst (fD 16 cm nf) (fun a b => psize fr tt gr nc cm nf a b (ρ (24 + 28 * e + a))) (ac p) (fun a => ρ (24 + 28 * e + 16 + a)) (li p) b a s' = s' := if_neg (fun z => z.2.1 c2)
        rw [w]
        simp (disch := first | assumption | omega) only [nl, nI_add, pk_mul, Option.bind_some, zb2_some, zz_at, zz_zz, zz_ne, nr_at, up_n, zaIw, zbIw, zgIw, zpIw, nI_le_t, nI_le_f, nI_lt_t, nI_lt_f, nI_eq_t, nI_eq_f, ↓reduceIte, zw_kd, zw_ln, zw_P, zw_I, nI_n9, Nat.add_zero, rgI hT, rpI hT, rkd hT, rg6 hT, ra6 hT, rb6 hT, rg7 hT, ra7 hT, rb7 hT, rg21 hT, ra21 hT, rb21 hT, Iq]
      · have dl := fD_le (a := a) (b := b) hc
        unfold fINF at dl
        by_cases c3 : fD 16 cm nf a b < s'.1
        · have sn := n_sizeOn (v := ρ (24 + 28 * e + a)) hT (RBd_w (s := s') hB) hO (rTab_w ht) hc hf (show a < nf by omega) hb (by unfold fINF; omega) k2
          have pl : psize fr tt gr nc cm nf a b (ρ (24 + 28 * e + a)) ≤ 99999 := psi_le _ _ _ k2
          by_cases c4 : psize fr tt gr nc cm nf a b (ρ (24 + 28 * e + a)) ≤ li p
          · have w : wst (fD 16 cm nf) (fun a b => psize fr tt gr nc cm nf a b (ρ (24 + 28 * e + a))) (ac p) (fun a => ρ (24 + 28 * e + 16 + a)) (li p) b a s' = (fD 16 cm nf a b, a, b) := if_pos ⟨c1, c2, c3, c4⟩
            rw [w]
            simp (disch := first | assumption | omega) only [nl, nI_add, pk_mul, Option.bind_some, zb2_some, zz_at, zz_zz, zz_ne, nr_at, up_n, zaIw, zbIw, zgIw, zpIw, nI_le_t, nI_le_f, nI_lt_t, nI_lt_f, nI_eq_t, nI_eq_f, ↓reduceIte, zw_kd, zw_ln, zw_P, zw_I, nI_n9, Nat.add_zero, rgI hT, rpI hT, rkd hT, rg6 hT, ra6 hT, rb6 hT, rg7 hT, ra7 hT, rb7 hT, rg21 hT, ra21 hT, rb21 hT, Iq, tv, sn, p_at, b12]
            rw [wI_up (d := fD 16 cm nf a b) (by unfold fINF; omega)]
          · have w : wst (fD 16 cm nf) (fun a b => psize fr tt gr nc cm nf a b (ρ (24 + 28 * e + a))) (ac p) (fun a => ρ (24 + 28 * e + 16 + a)) (li p) b a s' = s' := if_neg (fun z => c4 z.2.2.2)
            rw [w]
            simp (disch := first | assumption | omega) only [nl, nI_add, pk_mul, Option.bind_some, zb2_some, zz_at, zz_zz, zz_ne, nr_at, up_n, zaIw, zbIw, zgIw, zpIw, nI_le_t, nI_le_f, nI_lt_t, nI_lt_f, nI_eq_t, nI_eq_f, ↓reduceIte, zw_kd, zw_ln, zw_P, zw_I, nI_n9, Nat.add_zero, rgI hT, rpI hT, rkd hT, rg6 hT, ra6 hT, rb6 hT, rg7 hT, ra7 hT, rb7 hT, rg21 hT, ra21 hT, rb21 hT, Iq, tv, sn, p_at, b12]
        · have w : wst (fD 16 cm nf) (fun a b => psize fr tt gr nc cm nf a b (ρ (24 + 28 * e + a))) (ac p) (fun a => ρ (24 + 28 * e + 16 + a)) (li p) b a s' = s' := if_neg (fun z => c3 z.2.2.1)
          rw [w]
          simp (disch := first | assumption | omega) only [nl, nI_add, pk_mul, Option.bind_some, zb2_some, zz_at, zz_zz, zz_ne, nr_at, up_n, zaIw, zbIw, zgIw, zpIw, nI_le_t, nI_le_f, nI_lt_t, nI_lt_f, nI_eq_t, nI_eq_f, ↓reduceIte, zw_kd, zw_ln, zw_P, zw_I, nI_n9, Nat.add_zero, rgI hT, rpI hT, rkd hT, rg6 hT, ra6 hT, rb6 hT, rg7 hT, ra7 hT, rb7 hT, rg21 hT, ra21 hT, rb21 hT, Iq, tv]
    · have w : wst (fD 16 cm nf) (fun a b => psize fr tt gr nc cm nf a b (ρ (24 + 28 * e + a))) (ac p) (fun a => ρ (24 + 28 * e + 16 + a)) (li p) b a s' = s' := if_neg (fun z => c1 z.1)
      rw [w]
      have c1' : ac p / 2 ^ b % 2 = 0 := by omega
      simp (disch := first | assumption | omega) only [nl, nI_add, pk_mul, Option.bind_some, zb2_some, zz_at, zz_zz, zz_ne, nr_at, up_n, zaIw, zbIw, zgIw, zpIw, nI_le_t, nI_le_f, nI_lt_t, nI_lt_f, nI_eq_t, nI_eq_f, ↓reduceIte, zw_kd, zw_ln, zw_P, zw_I, nI_n9, Nat.add_zero, c1']
end WAY
