/-! pure: the reference's walks -/
def RBd (I : Nat → Nat → Int32) (m nf nc np : Nat) (fr tt gr lo ac li : zN') : Prop := I m 4 = nI nf ∧ I m 5 = nI nc ∧ I m 6 = nI np ∧ I (m + 2) = nr fr ∧ I (m + 3) = nr tt ∧ I (m + 4) = nr gr ∧ I (m + 5) = nr lo ∧ I (m + 6) = nr ac ∧ I (m + 7) = nr li
def bOK (nf nc np : Nat) (fr tt gr lo ac li : zN') : Prop := bok fr tt nc nf ∧ 1 ≤ nf ∧ np ≤ 6 ∧ (∀ c, c < nc → 1 ≤ gr c ∧ gr c ≤ 99 ∧ lo c ≤ 9) ∧ ∀ p, p < np → ac p < 256 ∧ ac p ≠ 0 ∧ ac p < 2 ^ nf ∧ 1 ≤ li p ∧ li p ≤ 99999
def rTab (I : Nat → Nat → Int32) (m nf : Nat) (cm : Nat → Nat → Nat) : Prop := ∃ ot od, I (m + 21) = nr (mrow (fwn nf (fw0 16 cm) nf) ot) ∧ I (m + 22) = nr (mrow (fwd 16 cm) od)
section WALK
variable {h : zH} {I : Nat → Nat → Int32} {m nf nc np : Nat} {fr tt gr lo ac li : zN'} {cm : Nat → Nat → Nat}
theorem fD_le {cm : Nat → Nat → Nat} {nf a b : Nat} (hc : cok cm nf) : fD 16 cm nf a b ≤ fINF := Nat.le_trans (fw_mono0 nf a b) (fw0_le (by omega) hc.2.2 a b)
theorem t_cost {a b : Nat} (hT : RefT h m) (ht : rTab I m nf cm) (hc : cok cm nf) (ha : a < nf) (hb : b < nf) : fX7_costOf (zw h I) m (nI a) (nI b) = some (nI (fD 16 cm nf a b), zw h I) := by
  have hn := hc.1
  obtain ⟨ot, od, t1, t2⟩ := ht
  rw [n_costOf hT t1 (by omega) (by omega), mrow_at (by omega) (by omega), fwn_eq nf (by omega) _ _ ha hb]
  rfl
theorem t_next {a b : Nat} (hT : RefT h m) (h4 : I m 4 = nI nf) (ht : rTab I m nf cm) (hc : cok cm nf) (ha : a < nf) (hb : b < nf) : fX7_nextOn (zw h I) m (nI a) (nI b) = some (zon (pnx cm nf a b nf), zw h I) := by
  have hn := hc.1
  obtain ⟨ot, od, t1, t2⟩ := ht
  rw [n_nextOn hT h4 hn t1 t2 ?_ ?_ ha hb, nnx_pnx hn ha hb nf (by omega)]
  · intro j hj
    unfold mrow
    rw [if_pos hj]
    exact fwn_le (fw0_le (by omega) hc.2.2) _ _ _
  · intro j hj
    unfold mrow
    rw [if_pos hj]
    unfold fwd fINF
    have := hc.2.2 (j / 8) (j % 8)
    split <;> omega
theorem n_loss_L {u1 : Int32} {b : Nat} (hT : RefT h m) (hB : RBd I m nf nc np fr tt gr lo ac li) (hO : bOK nf nc np fr tt gr lo ac li) (ht : rTab I m nf cm) (hc : cok cm nf) (hf : cfr fr tt nc cm) (hb : b < nf) (k : zH → Int32 → Int32 → Option (Int32 × zH)) : ∀ s f v n, f < nf → fD 16 cm nf f b < fINF → pst cm nf f b = s → s < n → fX7_lossOn_L5 k m u1 (nI b) n (zw h I) (nI v) (nI f) = k (zw h I) (nI (v + plo lo (pcv fr tt nc cm nf b) (fun f => pn cm nf f b) s f)) (nI b) := by
  have hn := hc.1
  have hnc := hO.1.2.1
  obtain ⟨b4, b5, b6, bfr, btt, bgr, blo, -⟩ := hB
  intro s
  induction s with
  | zero =>
    intro f v n hf' hr hs hn
    obtain ⟨n, rfl⟩ := fuel1 hn
    have e := (pst_0 hc hf' hr).mp hs
    subst e
    rw [fX7_lossOn_L5, if_pos rfl]
    rfl
  | succ s ih =>
    intro f v n hf' hr hs hn
    obtain ⟨n, rfl⟩ := fuel1 hn
    have ne : f ≠ b := fun q => by
      have := (pst_0 hc hf' hr).mpr q
      omega
    obtain ⟨p1, p2, p3, p4, p5, p6, p7, p8⟩ := pn_step hc hf' ne hr
    obtain ⟨q1, q2, q3, q4⟩ := pcv_is hO.1 hf hc hf' ne hr
    have goal := ih (pn cm nf f b) (v + lo (pcv fr tt nc cm nf b f)) n p2 p5 (by omega) (by omega)
    have e1 := t_next hT b4 ht hc hf' hb
    rw [p1] at e1
    have e2 := n_conversionOf (b := pn cm nf f b) hT b5 bfr btt hO.1 (show f < 8 by omega) (by omega)
    rw [q1] at e2
    have z1 : ∀ x, zon (some x) = nI x := fun _ => rfl
    rw [z1] at e1 e2
    rw [fX7_lossOn_L5]
    simp (disch := first | assumption | omega) only [nl, nI_add, pk_mul, Option.bind_some, zb2_some, zz_at, zz_zz, zz_ne, nr_at, up_n, zaIw, zbIw, zgIw, zpIw, nI_le_t, nI_le_f, nI_lt_t, nI_lt_f, nI_eq_t, nI_eq_f, ↓reduceIte, zw_kd, zw_ln, zw_P, zw_I, nI_n9, Nat.add_zero, rgI hT, rpI hT, rkd hT, rg5 hT, ra5 hT, rb5 hT, e1, e2, blo, goal]
    rw [Nat.add_assoc]
    rfl
theorem n_lossOn {a b : Nat} (hT : RefT h m) (hB : RBd I m nf nc np fr tt gr lo ac li) (hO : bOK nf nc np fr tt gr lo ac li) (ht : rTab I m nf cm) (hc : cok cm nf) (hf : cfr fr tt nc cm) (ha : a < nf) (hb : b < nf) (hr : fD 16 cm nf a b < fINF) : fX7_lossOn (zw h I) m (nI a) (nI b) = some (nI (ploss fr tt lo nc cm nf a b), zw h I) := by
  unfold fX7_lossOn
  rw [if_pos (rkd hT)]
  refine Eq.trans (n_loss_L (u1 := nI a) hT hB hO ht hc hf hb _ (pst cm nf a b) a 0 zF ha hr rfl ?_) ?_
  · unfold pst zF
    omega
  · rw [Nat.zero_add]
    rfl
theorem gw_le (g v : Nat) : gw g v ≤ 99999 := by
  unfold gw
  split <;> omega
theorem n_size_L {u1 u3 : Int32} {b : Nat} (hT : RefT h m) (hB : RBd I m nf nc np fr tt gr lo ac li) (hO : bOK nf nc np fr tt gr lo ac li) (ht : rTab I m nf cm) (hc : cok cm nf) (hf : cfr fr tt nc cm) (hb : b < nf) (k : zH → Int32 → Int32 → Option (Int32 × zH)) : ∀ s f v n, v ≤ 99999 → f < nf → fD 16 cm nf f b < fINF → pst cm nf f b = s → s < n → fX7_sizeOn_L6 k m u1 (nI b) u3 n (zw h I) (nI v) (nI f) = k (zw h I) (nI (psi gr (pcv fr tt nc cm nf b) (fun f => pn cm nf f b) s f v)) (nI b) := by
  have hn := hc.1
  have hnc := hO.1.2.1
  obtain ⟨b4, b5, b6, bfr, btt, bgr, blo, -⟩ := hB
  intro s
  induction s with
  | zero =>
    intro f v n hv hf' hr hs hn
    obtain ⟨n, rfl⟩ := fuel1 hn
    have e := (pst_0 hc hf' hr).mp hs
    subst e
    rw [fX7_sizeOn_L6, if_pos rfl]
    rfl
  | succ s ih =>
    intro f v n hv hf' hr hs hn
    obtain ⟨n, rfl⟩ := fuel1 hn
    have ne : f ≠ b := fun q => by
      have := (pst_0 hc hf' hr).mpr q
      omega
    obtain ⟨p1, p2, p3, p4, p5, p6, p7, p8⟩ := pn_step hc hf' ne hr
    obtain ⟨q1, q2, q3, q4⟩ := pcv_is hO.1 hf hc hf' ne hr
    have goal := ih (pn cm nf f b) (gw (gr (pcv fr tt nc cm nf b f)) v) n (gw_le _ _) p2 p5 (by omega) (by omega)
    have e1 := t_next hT b4 ht hc hf' hb
    rw [p1] at e1
    have e2 := n_conversionOf (b := pn cm nf f b) hT b5 bfr btt hO.1 (show f < 8 by omega) (by omega)
    rw [q1] at e2
    have z1 : ∀ x, zon (some x) = nI x := fun _ => rfl
    rw [z1] at e1 e2
    have hg := (hO.2.2.2.1 _ q2).2.1
    have hm : v * gr (pcv fr tt nc cm nf b f) ≤ 99999 * 99 := Nat.mul_le_mul hv hg
    have dv : nI (v * gr (pcv fr tt nc cm nf b f) + 9) / nI 10 = nI ((v * gr (pcv fr tt nc cm nf b f) + 9) / 10) := pk_div (by omega) (by omega) (by omega)
    rw [fX7_sizeOn_L6]
    simp (disch := first | assumption | omega) only [nl, nI_add, pk_mul, Option.bind_some, zb2_some, zz_at, zz_zz, zz_ne, nr_at, up_n, zaIw, zbIw, zgIw, zpIw, nI_le_t, nI_le_f, nI_lt_t, nI_lt_f, nI_eq_t, nI_eq_f, ↓reduceIte, zw_kd, zw_ln, zw_P, zw_I, nI_n9, Nat.add_zero, rgI hT, rpI hT, rkd hT, rg4 hT, ra4 hT, rb4 hT, e1, e2, bgr, dv]
    refine Eq.trans ?_ goal
    unfold gw
    by_cases c : (v * gr (pcv fr tt nc cm nf b f) + 9) / 10 ≤ 99999
    · rw [if_pos c]
      simp (disch := first | assumption | omega) only [nl, nI_add, pk_mul, Option.bind_some, zb2_some, zz_at, zz_zz, zz_ne, nr_at, up_n, zaIw, zbIw, zgIw, zpIw, nI_le_t, nI_le_f, nI_lt_t, nI_lt_f, nI_eq_t, nI_eq_f, ↓reduceIte, zw_kd, zw_ln, zw_P, zw_I, nI_n9, Nat.add_zero]
    · rw [if_neg c]
      simp (disch := first | assumption | omega) only [nl, nI_add, pk_mul, Option.bind_some, zb2_some, zz_at, zz_zz, zz_ne, nr_at, up_n, zaIw, zbIw, zgIw, zpIw, nI_le_t, nI_le_f, nI_lt_t, nI_lt_f, nI_eq_t, nI_eq_f, ↓reduceIte, zw_kd, zw_ln, zw_P, zw_I, nI_n9, Nat.add_zero]
theorem n_sizeOn {a b v : Nat} (hT : RefT h m) (hB : RBd I m nf nc np fr tt gr lo ac li) (hO : bOK nf nc np fr tt gr lo ac li) (ht : rTab I m nf cm) (hc : cok cm nf) (hf : cfr fr tt nc cm) (ha : a < nf) (hb : b < nf) (hr : fD 16 cm nf a b < fINF) (hv : v ≤ 99999) : fX7_sizeOn (zw h I) m (nI a) (nI b) (nI v) = some (nI (psize fr tt gr nc cm nf a b v), zw h I) := by
  unfold fX7_sizeOn
  rw [if_pos (rkd hT)]
  refine n_size_L (u1 := nI a) (u3 := nI v) hT hB hO ht hc hf hb _ (pst cm nf a b) a v zF hv ha hr rfl ?_
  unfold pst zF
  omega
end WALK
