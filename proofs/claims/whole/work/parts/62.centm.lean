/-! pure: what changes an entry of the component -/
section CENTM
variable {tg : Bool} {h : zH} {x e : Nat} {ρ : zN'}
theorem ndf_k {f g : Nat} (hg : g < 8) (hf : f < 8) : ndf ρ e f (24 + 28 * e + 16 + g) = if g = f then 0 else ρ (24 + 28 * e + 16 + g) := by
  rw [ndf_at]
  by_cases c : g = f
  · rw [if_pos c, if_pos (by omega)]
  · rw [if_neg c, if_neg (by omega)]
theorem ndf_b {f g : Nat} (hg : g < 8) (hf : f < 8) : ndf ρ e f (24 + 28 * e + g) = if g = f then 0 else ρ (24 + 28 * e + g) := by
  rw [ndf_at]
  by_cases c : g = f
  · rw [if_pos c, if_pos (by omega)]
  · rw [if_neg c, if_neg (by omega)]
theorem ndf_l {f g : Nat} (hg : g < 8) (hf : f < 8) : ndf ρ e f (24 + 28 * e + 8 + g) = if g = f then 0 else ρ (24 + 28 * e + 8 + g) := by
  rw [ndf_at]
  by_cases c : g = f
  · rw [if_pos c, if_pos (by omega)]
  · rw [if_neg c, if_neg (by omega)]
theorem ndf_r {f k : Nat} (hk : 24 ≤ k) (hf : f < 8) : ndf ρ e f (24 + 28 * e + k) = ρ (24 + 28 * e + k) := by
  rw [ndf_at, if_neg (by omega)]
theorem npf_k {f g b l kk : Nat} (hg : g < 8) (hf : f < 8) : npf ρ e f b l kk (24 + 28 * e + 16 + g) = if g = f then kk else ρ (24 + 28 * e + 16 + g) := by
  rw [npf_at]
  by_cases c : g = f
  · rw [if_pos c, if_pos (by omega)]
  · rw [if_neg c, if_neg (by omega), if_neg (by omega), if_neg (by omega)]
theorem npf_b {f g b l kk : Nat} (hg : g < 8) (hf : f < 8) : npf ρ e f b l kk (24 + 28 * e + g) = if g = f then b else ρ (24 + 28 * e + g) := by
  rw [npf_at]
  by_cases c : g = f
  · rw [if_pos c, if_neg (by omega), if_neg (by omega), if_pos (by omega)]
  · rw [if_neg c, if_neg (by omega), if_neg (by omega), if_neg (by omega)]
theorem npf_l {f g b l kk : Nat} (hg : g < 8) (hf : f < 8) : npf ρ e f b l kk (24 + 28 * e + 8 + g) = if g = f then l else ρ (24 + 28 * e + 8 + g) := by
  rw [npf_at]
  by_cases c : g = f
  · rw [if_pos c, if_neg (by omega), if_pos (by omega)]
  · rw [if_neg c, if_neg (by omega), if_neg (by omega), if_neg (by omega)]
theorem npf_r {f k b l kk : Nat} (hk : 24 ≤ k) (hf : f < 8) : npf ρ e f b l kk (24 + 28 * e + k) = ρ (24 + 28 * e + k) := by
  rw [npf_at, if_neg (by omega), if_neg (by omega), if_neg (by omega)]
theorem ebs_df {f k : Nat} (hf : f < 8) (hk : 1 ≤ k) : (if ebs ρ e k / 2 ^ f % 2 = 1 then ebs ρ e k - 2 ^ f else ebs ρ e k) = ebs (ndf ρ e f) e k := by
  rw [ebs_bit hf]
  have u := ebs_up (ρ := ndf ρ e f) (ρ' := ρ) (e := e) (k := k) hf (fun g hg hn => by rw [ndf_k hg hf, if_neg hn]) (by rw [ndf_k hf hf, if_pos rfl]; omega)
  by_cases c : k ≤ ρ (24 + 28 * e + 16 + f)
  · rw [if_pos c] at u
    rw [if_pos c, if_pos rfl]
    omega
  · rw [if_neg c] at u
    rw [if_neg c, if_neg (by decide)]
    exact u
theorem c_dropForm {f : Nat} (hs : ESh h x) (hr : ER tg h x ρ e) (ho : eok ρ e) (hf : f < 8) : ∃ h', fX1_dropForm h x (nI f) = some h' ∧ ER tg h' x (ndf ρ e f) e ∧ FrI x (x + 3) h h' := by
  by_cases c : ρ (24 + 28 * e + 16 + f) = 0
  · refine ⟨h, ?_, ER_en (fun k hk => ?_) hr, FrI.rf⟩
    · unfold fX1_dropForm
      have kd := hs.1
      simp (disch := first | assumption | (simp only [sI_kd, sP_kd, rw_kd, sI_ln, sP_ln, rw_ln] <;> first | assumption | omega) | omega) only [nl, nI_add, pk_mul, Option.bind_some, zb2_some, nI_le_t, nI_le_f, nI_lt_t, nI_lt_f, nI_eq_t, nI_eq_f, nI_m1, nI_em1, ↓reduceIte, Nat.add_zero, kd, c_holds hs hr, c]
    · have z := (ho.1 f hf).2.2.1 c
      rw [ndf_at]
      by_cases q : 24 + 28 * e + k = 24 + 28 * e + f ∨ 24 + 28 * e + k = 24 + 28 * e + 8 + f ∨ 24 + 28 * e + k = 24 + 28 * e + 16 + f
      · rw [if_pos q]
        rcases q with q | q | q
        · rw [q]; exact z.1.symm
        · rw [q]; exact z.2.symm
        · rw [q]; exact c.symm
      · rw [if_neg q]
  · obtain ⟨r2, r3, r4, r5, r6, r7, rf, rt⟩ := id hr
    have kd := hs.1
    have pp : zgP h 1 x 0 = some (x + 1) := gP_ hs.1 hs.2.1 (by omega)
    have sz : ρ (24 + 28 * e + f) ≤ nsz ρ e := nsum_at (g := fun f => ρ (24 + 28 * e + f)) hf
    have df := nsz_df (ρ := ρ) (e := e) hf
    have rd := c_rd hs hr hf c
    have cl1 := bcl8 _ (ebs_lt ρ e 1) f hf
    have cl2 := bcl8 _ (ebs_lt ρ e 2) f hf
    rw [ebs_df hf (by omega)] at cl1 cl2
    refine ⟨zsI (zsI (zsI h x 4 (nI (nsz (ndf ρ e f) e))) x 2 (nI (ebs (ndf ρ e f) e 1))) x 3 (nI (ebs (ndf ρ e f) e 2)), ?_, ?_, ?_⟩
    · unfold fX1_dropForm
      simp (disch := first | assumption | (simp only [sI_kd, sP_kd, rw_kd, sI_ln, sP_ln, rw_ln] <;> first | assumption | omega) | omega) only [nl, nI_add, pk_mul, Option.bind_some, zb2_some, nI_le_t, nI_le_f, nI_lt_t, nI_lt_f, nI_eq_t, nI_eq_f, nI_m1, nI_em1, ↓reduceIte, Nat.add_zero, kd, c_holds hs hr, c, gI_, pI_, r4, pp, rd, sI_k, r2, r3, shl_bit, pk_sub, cl1, cl2]
      rw [show nsz (ndf ρ e f) e = nsz ρ e - ρ (24 + 28 * e + f) by omega]
    · refine ⟨?_, ?_, ?_, ?_, ?_, ?_, fun g hg hn => ?_, fun t => ?_⟩
      · simp (disch := first | assumption | (simp only [sI_kd, sP_kd, rw_kd, sI_ln, sP_ln, rw_ln] <;> first | assumption | omega) | omega) only [nl, nI_add, pk_mul, Option.bind_some, zb2_some, nI_le_t, nI_le_f, nI_lt_t, nI_lt_f, nI_eq_t, nI_eq_f, nI_m1, nI_em1, ↓reduceIte, Nat.add_zero, sI_k, sI_at]
      · simp (disch := first | assumption | (simp only [sI_kd, sP_kd, rw_kd, sI_ln, sP_ln, rw_ln] <;> first | assumption | omega) | omega) only [nl, nI_add, pk_mul, Option.bind_some, zb2_some, nI_le_t, nI_le_f, nI_lt_t, nI_lt_f, nI_eq_t, nI_eq_f, nI_m1, nI_em1, ↓reduceIte, Nat.add_zero, sI_k, sI_at]
      · simp (disch := first | assumption | (simp only [sI_kd, sP_kd, rw_kd, sI_ln, sP_ln, rw_ln] <;> first | assumption | omega) | omega) only [nl, nI_add, pk_mul, Option.bind_some, zb2_some, nI_le_t, nI_le_f, nI_lt_t, nI_lt_f, nI_eq_t, nI_eq_f, nI_m1, nI_em1, ↓reduceIte, Nat.add_zero, sI_k, sI_at]
      · simp (disch := first | assumption | (simp only [sI_kd, sP_kd, rw_kd, sI_ln, sP_ln, rw_ln] <;> first | assumption | omega) | omega) only [nl, nI_add, pk_mul, Option.bind_some, zb2_some, nI_le_t, nI_le_f, nI_lt_t, nI_lt_f, nI_eq_t, nI_eq_f, nI_m1, nI_em1, ↓reduceIte, Nat.add_zero, sI_k, r5, ndf_r]
      · simp (disch := first | assumption | (simp only [sI_kd, sP_kd, rw_kd, sI_ln, sP_ln, rw_ln] <;> first | assumption | omega) | omega) only [nl, nI_add, pk_mul, Option.bind_some, zb2_some, nI_le_t, nI_le_f, nI_lt_t, nI_lt_f, nI_eq_t, nI_eq_f, nI_m1, nI_em1, ↓reduceIte, Nat.add_zero, sI_k, r6, ndf_r]
      · simp (disch := first | assumption | (simp only [sI_kd, sP_kd, rw_kd, sI_ln, sP_ln, rw_ln] <;> first | assumption | omega) | omega) only [nl, nI_add, pk_mul, Option.bind_some, zb2_some, nI_le_t, nI_le_f, nI_lt_t, nI_lt_f, nI_eq_t, nI_eq_f, nI_m1, nI_em1, ↓reduceIte, Nat.add_zero, sI_k, r7, ndf_r]
      · rw [ndf_k hg hf] at hn
        by_cases q : g = f
        · rw [if_pos q] at hn; exact absurd rfl hn
        · rw [if_neg q] at hn
          rw [ndf_b hg hf, if_neg q, ndf_l hg hf, if_neg q]
          simp (disch := first | assumption | (simp only [sI_kd, sP_kd, rw_kd, sI_ln, sP_ln, rw_ln] <;> first | assumption | omega) | omega) only [nl, nI_add, pk_mul, Option.bind_some, zb2_some, nI_le_t, nI_le_f, nI_lt_t, nI_lt_f, nI_eq_t, nI_eq_f, nI_m1, nI_em1, ↓reduceIte, Nat.add_zero, sI_a]
          exact rf g hg hn
      · rw [ndf_r (by omega) hf, ← rt t]
        simp (disch := first | assumption | (simp only [sI_kd, sP_kd, rw_kd, sI_ln, sP_ln, rw_ln] <;> first | assumption | omega) | omega) only [nl, nI_add, pk_mul, Option.bind_some, zb2_some, nI_le_t, nI_le_f, nI_lt_t, nI_lt_f, nI_eq_t, nI_eq_f, nI_m1, nI_em1, ↓reduceIte, Nat.add_zero, sI_k]
    · exact ((FrI.sI (by omega) (by omega)).tr (FrI.sI (by omega) (by omega))).tr (FrI.sI (by omega) (by omega))
theorem nsz_pf {f b l kk : Nat} (hf : f < 8) (h0 : ρ (24 + 28 * e + f) = 0) : nsz (npf ρ e f b l kk) e = nsz ρ e + b := by
  have := nsum_chg (g := fun f => ρ (24 + 28 * e + f)) (g' := fun g => npf ρ e f b l kk (24 + 28 * e + g)) hf (fun g hg hn => by rw [npf_b hg hf, if_neg hn])
  rw [npf_b hf hf, if_pos rfl, h0] at this
  exact this
theorem ER_pf {h' : zH} {f b l kk : Nat} (hr : ER tg h x ρ e) (hf : f < 8) (h0 : ρ (24 + 28 * e + 16 + f) = 0) (hz : ρ (24 + 28 * e + f) = 0) (e2 : zI h' x 2 = nI (ebs ρ e 1 + 2 ^ f)) (e3 : zI h' x 3 = nI (if kk = 2 then ebs ρ e 2 + 2 ^ f else ebs ρ e 2)) (e4 : zI h' x 4 = nI (nsz ρ e + b)) (er : ∀ k, 5 ≤ k → zI h' x k = zI h x k) (hk : kk = 1 ∨ kk = 2)
    (es : zI h' (x + 1) f = nI b ∧ zI h' (x + 2) f = nI l) (eo : ∀ g, g ≠ f → zI h' (x + 1) g = zI h (x + 1) g ∧ zI h' (x + 2) g = zI h (x + 2) g) : ER tg h' x (npf ρ e f b l kk) e := by
  obtain ⟨r2, r3, r4, r5, r6, r7, rf, rt⟩ := hr
  have u : ∀ k, 1 ≤ k → ebs (npf ρ e f b l kk) e k = if k ≤ kk then ebs ρ e k + 2 ^ f else ebs ρ e k := fun k hk => by
    have := ebs_up (ρ := ρ) (ρ' := npf ρ e f b l kk) (e := e) (k := k) hf (fun g hg hn => by rw [npf_k hg hf, if_neg hn]) (by omega)
    rw [npf_k hf hf, if_pos rfl] at this
    exact this
  refine ⟨?_, ?_, ?_, ?_, ?_, ?_, fun g hg hn => ?_, fun t => ?_⟩
  · rw [e2, u 1 (by omega), if_pos (by omega)]
  · rw [e3, u 2 (by omega)]
    rcases hk with rfl | rfl <;> rfl
  · rw [e4, nsz_pf hf hz]
  · rw [er 5 (by omega), npf_r (by omega) hf, r5]
  · rw [er 6 (by omega), npf_r (by omega) hf, r6]
  · rw [er 7 (by omega), npf_r (by omega) hf, r7]
  · rw [npf_k hg hf] at hn
    rw [npf_b hg hf, npf_l hg hf]
    by_cases q : g = f
    · rw [if_pos q, if_pos q, q]; exact es
    · rw [if_neg q] at hn
      rw [if_neg q, if_neg q, (eo g q).1, (eo g q).2]
      exact rf g hg hn
  · rw [er 8 (by omega), npf_r (by omega) hf, rt t]
theorem c_putForm {f b l kk : Nat} (hs : ESh h x) (hr : ER tg h x ρ e) (hf : f < 8) (h0 : ρ (24 + 28 * e + 16 + f) = 0) (hz : ρ (24 + 28 * e + f) = 0) (hk : kk = 1 ∨ kk = 2) : ∃ h', fX1_putForm h x (nI f) (nI b) (nI l) (nI (kk - 1)) = some h' ∧ ER tg h' x (npf ρ e f b l kk) e ∧ FrI x (x + 3) h h' := by
  obtain ⟨r2, r3, r4, -⟩ := id hr
  obtain ⟨kd, p0, p1, k1, l1, k2, l2⟩ := id hs
  have b1 : ebs ρ e 1 / 2 ^ f % 2 = 0 := by rw [ebs_bit hf, if_neg (by omega)]
  have b2 : ebs ρ e 2 / 2 ^ f % 2 = 0 := by rw [ebs_bit hf, if_neg (by omega)]
  have o1 := bor8 _ (ebs_lt ρ e 1) f hf b1
  have o2 := bor8 _ (ebs_lt ρ e 2) f hf b2
  have L1 : f < zln h (x + 1) := by omega
  have L2 : f < zln h (x + 2) := by omega
  have M1 : zln h (x + 1) < 2 ^ 31 := by omega
  have M2 : zln h (x + 2) < 2 ^ 31 := by omega
  have N1 : x + 1 ≠ 0 := by omega
  have N2 : x + 2 ≠ 0 := by omega
  have w1 : zbI h (x + 1) (nI f) (nI b) = some (zsI h (x + 1) f (nI b)) := bI_ k1 L1 M1
  have w2 : zbI (zsI h (x + 1) f (nI b)) (x + 2) (nI f) (nI l) = some (zsI (zsI h (x + 1) f (nI b)) (x + 2) f (nI l)) := bI_ k2 L2 M2
  have q0 : zgP h 1 x 0 = some (x + 1) := gP_ kd p0 N1
  have q1 : zgP (zsI h (x + 1) f (nI b)) 1 x 1 = some (x + 2) := gP_ kd p1 N2
  rcases hk with rfl | rfl
  · refine ⟨zsI (zsI (zsI (zsI h (x + 1) f (nI b)) (x + 2) f (nI l)) x 4 (nI (nsz ρ e + b))) x 2 (nI (ebs ρ e 1 + 2 ^ f)), ?_, ER_pf hr hf h0 hz ?_ ?_ ?_ (fun k hk => ?_) (Or.inl rfl) ⟨?_, ?_⟩ (fun g hg => ⟨?_, ?_⟩), ?_⟩
    · unfold fX1_putForm
      simp (disch := first | assumption | (simp only [sI_kd, sP_kd, rw_kd, sI_ln, sP_ln, rw_ln] <;> first | assumption | omega) | omega) only [nl, nI_add, pk_mul, Option.bind_some, zb2_some, nI_le_t, nI_le_f, nI_lt_t, nI_lt_f, nI_eq_t, nI_eq_f, nI_m1, nI_em1, ↓reduceIte, Nat.add_zero, kd, c_holds hs hr, h0, w1, w2, q0, q1, gI_, pI_, sI_k, sI_a, r2, r4, shl_bit, o1, o2, Nat.sub_self]
    · simp (disch := first | assumption | (simp only [sI_kd, sP_kd, rw_kd, sI_ln, sP_ln, rw_ln] <;> first | assumption | omega) | omega) only [nl, nI_add, pk_mul, Option.bind_some, zb2_some, nI_le_t, nI_le_f, nI_lt_t, nI_lt_f, nI_eq_t, nI_eq_f, nI_m1, nI_em1, ↓reduceIte, Nat.add_zero, sI_at]
    · simp (disch := first | assumption | (simp only [sI_kd, sP_kd, rw_kd, sI_ln, sP_ln, rw_ln] <;> first | assumption | omega) | omega) only [nl, nI_add, pk_mul, Option.bind_some, zb2_some, nI_le_t, nI_le_f, nI_lt_t, nI_lt_f, nI_eq_t, nI_eq_f, nI_m1, nI_em1, ↓reduceIte, Nat.add_zero, sI_k, sI_a, r3]
      rfl
    · simp (disch := first | assumption | (simp only [sI_kd, sP_kd, rw_kd, sI_ln, sP_ln, rw_ln] <;> first | assumption | omega) | omega) only [nl, nI_add, pk_mul, Option.bind_some, zb2_some, nI_le_t, nI_le_f, nI_lt_t, nI_lt_f, nI_eq_t, nI_eq_f, nI_m1, nI_em1, ↓reduceIte, Nat.add_zero, sI_k, sI_at]
    · simp (disch := first | assumption | (simp only [sI_kd, sP_kd, rw_kd, sI_ln, sP_ln, rw_ln] <;> first | assumption | omega) | omega) only [nl, nI_add, pk_mul, Option.bind_some, zb2_some, nI_le_t, nI_le_f, nI_lt_t, nI_lt_f, nI_eq_t, nI_eq_f, nI_m1, nI_em1, ↓reduceIte, Nat.add_zero, sI_k, sI_a]
    · simp (disch := first | assumption | (simp only [sI_kd, sP_kd, rw_kd, sI_ln, sP_ln, rw_ln] <;> first | assumption | omega) | omega) only [nl, nI_add, pk_mul, Option.bind_some, zb2_some, nI_le_t, nI_le_f, nI_lt_t, nI_lt_f, nI_eq_t, nI_eq_f, nI_m1, nI_em1, ↓reduceIte, Nat.add_zero, sI_a, sI_at]
    · simp (disch := first | assumption | (simp only [sI_kd, sP_kd, rw_kd, sI_ln, sP_ln, rw_ln] <;> first | assumption | omega) | omega) only [nl, nI_add, pk_mul, Option.bind_some, zb2_some, nI_le_t, nI_le_f, nI_lt_t, nI_lt_f, nI_eq_t, nI_eq_f, nI_m1, nI_em1, ↓reduceIte, Nat.add_zero, sI_a, sI_at]
    · simp (disch := first | assumption | (simp only [sI_kd, sP_kd, rw_kd, sI_ln, sP_ln, rw_ln] <;> first | assumption | omega) | omega) only [nl, nI_add, pk_mul, Option.bind_some, zb2_some, nI_le_t, nI_le_f, nI_lt_t, nI_lt_f, nI_eq_t, nI_eq_f, nI_m1, nI_em1, ↓reduceIte, Nat.add_zero, sI_k, sI_a]
    · simp (disch := first | assumption | (simp only [sI_kd, sP_kd, rw_kd, sI_ln, sP_ln, rw_ln] <;> first | assumption | omega) | omega) only [nl, nI_add, pk_mul, Option.bind_some, zb2_some, nI_le_t, nI_le_f, nI_lt_t, nI_lt_f, nI_eq_t, nI_eq_f, nI_m1, nI_em1, ↓reduceIte, Nat.add_zero, sI_k, sI_a]
    · exact (((FrI.sI (by omega) (by omega)).tr (FrI.sI (by omega) (by omega))).tr (FrI.sI (by omega) (by omega))).tr (FrI.sI (by omega) (by omega))
  · refine ⟨zsI (zsI (zsI (zsI (zsI h (x + 1) f (nI b)) (x + 2) f (nI l)) x 4 (nI (nsz ρ e + b))) x 2 (nI (ebs ρ e 1 + 2 ^ f))) x 3 (nI (ebs ρ e 2 + 2 ^ f)), ?_, ER_pf hr hf h0 hz ?_ ?_ ?_ (fun k hk => ?_) (Or.inr rfl) ⟨?_, ?_⟩ (fun g hg => ⟨?_, ?_⟩), ?_⟩
    · unfold fX1_putForm
      simp (disch := first | assumption | (simp only [sI_kd, sP_kd, rw_kd, sI_ln, sP_ln, rw_ln] <;> first | assumption | omega) | omega) only [nl, nI_add, pk_mul, Option.bind_some, zb2_some, nI_le_t, nI_le_f, nI_lt_t, nI_lt_f, nI_eq_t, nI_eq_f, nI_m1, nI_em1, ↓reduceIte, Nat.add_zero, kd, c_holds hs hr, h0, w1, w2, q0, q1, gI_, pI_, sI_k, sI_a, r2, r3, r4, shl_bit, o1, o2, show 2 - 1 = 1 from rfl]
    · simp (disch := first | assumption | (simp only [sI_kd, sP_kd, rw_kd, sI_ln, sP_ln, rw_ln] <;> first | assumption | omega) | omega) only [nl, nI_add, pk_mul, Option.bind_some, zb2_some, nI_le_t, nI_le_f, nI_lt_t, nI_lt_f, nI_eq_t, nI_eq_f, nI_m1, nI_em1, ↓reduceIte, Nat.add_zero, sI_at, sI_k]
    · simp (disch := first | assumption | (simp only [sI_kd, sP_kd, rw_kd, sI_ln, sP_ln, rw_ln] <;> first | assumption | omega) | omega) only [nl, nI_add, pk_mul, Option.bind_some, zb2_some, nI_le_t, nI_le_f, nI_lt_t, nI_lt_f, nI_eq_t, nI_eq_f, nI_m1, nI_em1, ↓reduceIte, Nat.add_zero, sI_at]
    · simp (disch := first | assumption | (simp only [sI_kd, sP_kd, rw_kd, sI_ln, sP_ln, rw_ln] <;> first | assumption | omega) | omega) only [nl, nI_add, pk_mul, Option.bind_some, zb2_some, nI_le_t, nI_le_f, nI_lt_t, nI_lt_f, nI_eq_t, nI_eq_f, nI_m1, nI_em1, ↓reduceIte, Nat.add_zero, sI_k, sI_at]
    · simp (disch := first | assumption | (simp only [sI_kd, sP_kd, rw_kd, sI_ln, sP_ln, rw_ln] <;> first | assumption | omega) | omega) only [nl, nI_add, pk_mul, Option.bind_some, zb2_some, nI_le_t, nI_le_f, nI_lt_t, nI_lt_f, nI_eq_t, nI_eq_f, nI_m1, nI_em1, ↓reduceIte, Nat.add_zero, sI_k, sI_a]
    · simp (disch := first | assumption | (simp only [sI_kd, sP_kd, rw_kd, sI_ln, sP_ln, rw_ln] <;> first | assumption | omega) | omega) only [nl, nI_add, pk_mul, Option.bind_some, zb2_some, nI_le_t, nI_le_f, nI_lt_t, nI_lt_f, nI_eq_t, nI_eq_f, nI_m1, nI_em1, ↓reduceIte, Nat.add_zero, sI_a, sI_at]
    · simp (disch := first | assumption | (simp only [sI_kd, sP_kd, rw_kd, sI_ln, sP_ln, rw_ln] <;> first | assumption | omega) | omega) only [nl, nI_add, pk_mul, Option.bind_some, zb2_some, nI_le_t, nI_le_f, nI_lt_t, nI_lt_f, nI_eq_t, nI_eq_f, nI_m1, nI_em1, ↓reduceIte, Nat.add_zero, sI_a, sI_at]
    · simp (disch := first | assumption | (simp only [sI_kd, sP_kd, rw_kd, sI_ln, sP_ln, rw_ln] <;> first | assumption | omega) | omega) only [nl, nI_add, pk_mul, Option.bind_some, zb2_some, nI_le_t, nI_le_f, nI_lt_t, nI_lt_f, nI_eq_t, nI_eq_f, nI_m1, nI_em1, ↓reduceIte, Nat.add_zero, sI_k, sI_a]
    · simp (disch := first | assumption | (simp only [sI_kd, sP_kd, rw_kd, sI_ln, sP_ln, rw_ln] <;> first | assumption | omega) | omega) only [nl, nI_add, pk_mul, Option.bind_some, zb2_some, nI_le_t, nI_le_f, nI_lt_t, nI_lt_f, nI_eq_t, nI_eq_f, nI_m1, nI_em1, ↓reduceIte, Nat.add_zero, sI_k, sI_a]
    · exact ((((FrI.sI (by omega) (by omega)).tr (FrI.sI (by omega) (by omega))).tr (FrI.sI (by omega) (by omega))).tr (FrI.sI (by omega) (by omega))).tr (FrI.sI (by omega) (by omega))
/-- a new entry -/
theorem c_begin {f b t : Nat} {ρ' : zN'} (hs : ESh h x) (hf : f < 8) (h24 : ∀ k, k < 28 → ρ' (24 + 28 * e + k) = if k = f then b else if k = 16 + f then 1 else if k = 26 then t else if k = 27 then 4294967287 else 0) : ∃ h', fX1_begin h x (nI f) (nI b) (nI t) = some h' ∧ ER tg h' x ρ' e ∧ FrI x (x + 3) h h' := by
  obtain ⟨kd, -⟩ := id hs
  let ρ0 : zN' := fun j => if j = 24 + 28 * e + 26 then t else if j = 24 + 28 * e + 27 then 4294967287 else 0
  have z0 : ∀ k, k < 26 → ρ0 (24 + 28 * e + k) = 0 := fun k hk => by
    show (if 24 + 28 * e + k = 24 + 28 * e + 26 then t else if 24 + 28 * e + k = 24 + 28 * e + 27 then 4294967287 else 0) = 0
    rw [if_neg (by omega), if_neg (by omega)]
  have z16 : ∀ g, g < 8 → ρ0 (24 + 28 * e + 16 + g) = 0 := fun g hg => by rw [Nat.add_assoc _ 16 g]; exact z0 _ (by omega)
  have zb : ∀ k, 1 ≤ k → ebs ρ0 e k = 0 := fun k hk => nsum_zero fun g hg => by
    rw [if_neg]
    show ¬ decide (k ≤ ρ0 (24 + 28 * e + 16 + g)) = true
    rw [z16 g hg]
    simp only [decide_eq_true_eq]
    omega
  have zs : nsz ρ0 e = 0 := nsum_zero fun g hg => z0 g (by omega)
  have hs7 : ESh (zsI (zsI (zsI (zsI (zsI (zsI (zsI h x 2 (nI 0)) x 3 (nI 0)) x 4 (nI 0)) x 5 (nI 0)) x 6 (nI 0)) x 7 (nI t)) x 8 (nI 4294967295)) x := hs
  have hr7 : ER tg (zsI (zsI (zsI (zsI (zsI (zsI (zsI h x 2 (nI 0)) x 3 (nI 0)) x 4 (nI 0)) x 5 (nI 0)) x 6 (nI 0)) x 7 (nI t)) x 8 (nI 4294967295)) x ρ0 e := by
    refine ⟨?_, ?_, ?_, ?_, ?_, ?_, fun g hg hn => absurd (z16 g hg) hn, fun t => ?_⟩
    · simp (disch := first | assumption | (simp only [sI_kd, sP_kd, rw_kd, sI_ln, sP_ln, rw_ln] <;> first | assumption | omega) | omega) only [nl, nI_add, pk_mul, Option.bind_some, zb2_some, nI_le_t, nI_le_f, nI_lt_t, nI_lt_f, nI_eq_t, nI_eq_f, nI_m1, nI_em1, ↓reduceIte, Nat.add_zero, sI_k, sI_at, zb]
    · simp (disch := first | assumption | (simp only [sI_kd, sP_kd, rw_kd, sI_ln, sP_ln, rw_ln] <;> first | assumption | omega) | omega) only [nl, nI_add, pk_mul, Option.bind_some, zb2_some, nI_le_t, nI_le_f, nI_lt_t, nI_lt_f, nI_eq_t, nI_eq_f, nI_m1, nI_em1, ↓reduceIte, Nat.add_zero, sI_k, sI_at, zb]
    · simp (disch := first | assumption | (simp only [sI_kd, sP_kd, rw_kd, sI_ln, sP_ln, rw_ln] <;> first | assumption | omega) | omega) only [nl, nI_add, pk_mul, Option.bind_some, zb2_some, nI_le_t, nI_le_f, nI_lt_t, nI_lt_f, nI_eq_t, nI_eq_f, nI_m1, nI_em1, ↓reduceIte, Nat.add_zero, sI_k, sI_at, zs]
    · simp (disch := first | assumption | (simp only [sI_kd, sP_kd, rw_kd, sI_ln, sP_ln, rw_ln] <;> first | assumption | omega) | omega) only [nl, nI_add, pk_mul, Option.bind_some, zb2_some, nI_le_t, nI_le_f, nI_lt_t, nI_lt_f, nI_eq_t, nI_eq_f, nI_m1, nI_em1, ↓reduceIte, Nat.add_zero, sI_k, sI_at, z0]
    · simp (disch := first | assumption | (simp only [sI_kd, sP_kd, rw_kd, sI_ln, sP_ln, rw_ln] <;> first | assumption | omega) | omega) only [nl, nI_add, pk_mul, Option.bind_some, zb2_some, nI_le_t, nI_le_f, nI_lt_t, nI_lt_f, nI_eq_t, nI_eq_f, nI_m1, nI_em1, ↓reduceIte, Nat.add_zero, sI_k, sI_at, z0]
    · simp (disch := first | assumption | (simp only [sI_kd, sP_kd, rw_kd, sI_ln, sP_ln, rw_ln] <;> first | assumption | omega) | omega) only [nl, nI_add, pk_mul, Option.bind_some, zb2_some, nI_le_t, nI_le_f, nI_lt_t, nI_lt_f, nI_eq_t, nI_eq_f, nI_m1, nI_em1, ↓reduceIte, Nat.add_zero, sI_k, sI_at]
      rw [show ρ0 (24 + 28 * e + 26) = _ from if_pos rfl]
    · simp (disch := first | assumption | (simp only [sI_kd, sP_kd, rw_kd, sI_ln, sP_ln, rw_ln] <;> first | assumption | omega) | omega) only [nl, nI_add, pk_mul, Option.bind_some, zb2_some, nI_le_t, nI_le_f, nI_lt_t, nI_lt_f, nI_eq_t, nI_eq_f, nI_m1, nI_em1, ↓reduceIte, Nat.add_zero, sI_at]
      rw [show ρ0 (24 + 28 * e + 27) = 4294967287 by show (if _ then _ else _) = _; rw [if_neg (by omega), if_pos rfl]]
      rfl
  obtain ⟨h', e1, e2, e3⟩ := c_putForm (b := b) (l := 0) (kk := 1) hs7 hr7 hf (z16 f hf) (z0 f (by omega)) (Or.inl rfl)
  refine ⟨h', ?_, ER_en (fun k hk => ?_) e2, FrI.tr ?_ e3⟩
  · unfold fX1_begin
    have zo : nI 0 = 0 ∨ nI 0 = 1 := Or.inl rfl
    have e1' : fX1_putForm (zsI (zsI (zsI (zsI (zsI (zsI (zsI h x 2 (nI 0)) x 3 (nI 0)) x 4 (nI 0)) x 5 (nI 0)) x 6 (nI 0)) x 7 (nI t)) x 8 (nI 4294967295)) x (nI f) (nI b) (nI 0) (nI 0) = some h' := e1
    simp (disch := first | assumption | (simp only [sI_kd, sP_kd, rw_kd, sI_ln, sP_ln, rw_ln] <;> first | assumption | omega) | omega) only [nl, nI_add, pk_mul, Option.bind_some, zb2_some, nI_le_t, nI_le_f, nI_lt_t, nI_lt_f, nI_eq_t, nI_eq_f, nI_m1, nI_em1, ↓reduceIte, Nat.add_zero, kd, pI_, pZ_, e1']
  · rw [h24 k hk, npf_at]
    show _ = (if 24 + 28 * e + k = 24 + 28 * e + 16 + f then 1 else if 24 + 28 * e + k = 24 + 28 * e + 8 + f then 0 else if 24 + 28 * e + k = 24 + 28 * e + f then b else if 24 + 28 * e + k = 24 + 28 * e + 26 then t else if 24 + 28 * e + k = 24 + 28 * e + 27 then 4294967287 else 0)
    repeat' split
    all_goals first | rfl | omega
  · exact ((((((FrI.sI (by omega) (by omega)).tr (FrI.sI (by omega) (by omega))).tr (FrI.sI (by omega) (by omega))).tr (FrI.sI (by omega) (by omega))).tr (FrI.sI (by omega) (by omega))).tr (FrI.sI (by omega) (by omega))).tr (FrI.sI (by omega) (by omega))
theorem c_etake {y : Nat} (hs : ESh h x) (ht : ESh h y) (d : x + 3 ≤ y ∨ y + 3 ≤ x) (hr : ER tg h y ρ e) (hp : ρ (24 + 28 * e + 24) ≤ 1) : ∃ h', fX1_takeOver h x y = some h' ∧ ER false h' x ρ e ∧ FrI x (x + 3) h h' := by
  obtain ⟨r2, r3, r4, r5, r6, r7, rf, -⟩ := hr
  obtain ⟨kd, p0, p1, k1, l1, k2, l2⟩ := id hs
  obtain ⟨kdy, p0y, p1y, k1y, l1y, k2y, l2y⟩ := id ht
  have N1 : x + 1 ≠ 0 := by omega
  have N2 : x + 2 ≠ 0 := by omega
  have N3 : y + 1 ≠ 0 := by omega
  have N4 : y + 2 ≠ 0 := by omega
  have a1 : zgP h 1 y 0 = some (y + 1) := gP_ kdy p0y N3
  have a2 : zgP h 1 x 0 = some (x + 1) := gP_ kd p0 N1
  have a3 : zcp h (y + 1) (nI 0) (x + 1) (nI 0) (nI 8) = some (zrow h (x + 1) (va_cpy (zI h (y + 1)) (zI h (x + 1)) 0 0 8)) := cp_ k1y k1 (by omega) (by omega) (by omega)
  have b1 : zgP (zrow h (x + 1) (va_cpy (zI h (y + 1)) (zI h (x + 1)) 0 0 8)) 1 y 1 = some (y + 2) := gP_ kdy p1y N4
  have b2 : zgP (zrow h (x + 1) (va_cpy (zI h (y + 1)) (zI h (x + 1)) 0 0 8)) 1 x 1 = some (x + 2) := gP_ kd p1 N2
  have b3 : zcp (zrow h (x + 1) (va_cpy (zI h (y + 1)) (zI h (x + 1)) 0 0 8)) (y + 2) (nI 0) (x + 2) (nI 0) (nI 8) = some (zrow (zrow h (x + 1) (va_cpy (zI h (y + 1)) (zI h (x + 1)) 0 0 8)) (x + 2) (va_cpy (zI h (y + 2)) (zI h (x + 2)) 0 0 8)) := by
    have := cp_ (h := zrow h (x + 1) (va_cpy (zI h (y + 1)) (zI h (x + 1)) 0 0 8)) (a := y + 2) (b := x + 2) (n := 8) k2y k2 (by show 8 ≤ zln h (y + 2); omega) (by show 8 ≤ zln h (x + 2); omega) (by omega)
    rw [rw_a (by omega), rw_a (by omega)] at this
    exact this
  generalize hh : zrow (zrow h (x + 1) (va_cpy (zI h (y + 1)) (zI h (x + 1)) 0 0 8)) (x + 2) (va_cpy (zI h (y + 2)) (zI h (x + 2)) 0 0 8) = g at b3
  have gk : zkd g = zkd h := by subst hh; rfl
  have gx : ∀ a, a ≠ x + 1 → a ≠ x + 2 → zI g a = zI h a := fun a h1 h2 => by subst hh; rw [rw_a h2, rw_a h1]
  have g1 : zI g (x + 1) = va_cpy (zI h (y + 1)) (zI h (x + 1)) 0 0 8 := by subst hh; rw [rw_a (by omega), rw_at]
  have g2 : zI g (x + 2) = va_cpy (zI h (y + 2)) (zI h (x + 2)) 0 0 8 := by subst hh; rw [rw_at]
  have kdg : zkd g x = 2 := by rw [gk]; exact kd
  have kdyg : zkd g y = 2 := by rw [gk]; exact kdy
  have gy := gx y (by omega) (by omega)
  have pz : nI (ρ (24 + 28 * e + 24)) = 0 ∨ nI (ρ (24 + 28 * e + 24)) = 1 := by
    rcases Nat.lt_or_ge 0 (ρ (24 + 28 * e + 24)) with q | q
    · right; rw [show ρ (24 + 28 * e + 24) = 1 by omega]; rfl
    · left; rw [show ρ (24 + 28 * e + 24) = 0 by omega]; rfl
  have fg : FrI x (x + 3) h g := by subst hh; exact (FrI.row (by omega) (by omega)).tr (FrI.row (by omega) (by omega))
  have nyx : y ≠ x := by omega
  refine ⟨zsI (zsI (zsI (zsI (zsI (zsI g x 2 (nI (ebs ρ e 1))) x 3 (nI (ebs ρ e 2))) x 4 (nI (nsz ρ e))) x 5 (nI (ρ (24 + 28 * e + 24)))) x 6 (nI (ρ (24 + 28 * e + 25)))) x 7 (nI (ρ (24 + 28 * e + 26))), ?_, ?_, ?_⟩
  · unfold fX1_takeOver
    simp (disch := first | assumption | (simp only [sI_kd, sP_kd, rw_kd, sI_ln, sP_ln, rw_ln] <;> first | assumption | omega) | omega) only [nl, nI_add, pk_mul, Option.bind_some, zb2_some, nI_le_t, nI_le_f, nI_lt_t, nI_lt_f, nI_eq_t, nI_eq_f, nI_m1, nI_em1, ↓reduceIte, Nat.add_zero, kd, a1, a2, a3, b1, b2, b3, gI_, pI_, pZ_, sI_a, gy, r2, r3, r4, r5, r6, r7]
  · refine ⟨?_, ?_, ?_, ?_, ?_, ?_, fun f hf hn => ⟨?_, ?_⟩, fun t => by cases t⟩
    · simp (disch := first | assumption | (simp only [sI_kd, sP_kd, rw_kd, sI_ln, sP_ln, rw_ln] <;> first | assumption | omega) | omega) only [nl, nI_add, pk_mul, Option.bind_some, zb2_some, nI_le_t, nI_le_f, nI_lt_t, nI_lt_f, nI_eq_t, nI_eq_f, nI_m1, nI_em1, ↓reduceIte, Nat.add_zero, sI_k, sI_at]
    · simp (disch := first | assumption | (simp only [sI_kd, sP_kd, rw_kd, sI_ln, sP_ln, rw_ln] <;> first | assumption | omega) | omega) only [nl, nI_add, pk_mul, Option.bind_some, zb2_some, nI_le_t, nI_le_f, nI_lt_t, nI_lt_f, nI_eq_t, nI_eq_f, nI_m1, nI_em1, ↓reduceIte, Nat.add_zero, sI_k, sI_at]
    · simp (disch := first | assumption | (simp only [sI_kd, sP_kd, rw_kd, sI_ln, sP_ln, rw_ln] <;> first | assumption | omega) | omega) only [nl, nI_add, pk_mul, Option.bind_some, zb2_some, nI_le_t, nI_le_f, nI_lt_t, nI_lt_f, nI_eq_t, nI_eq_f, nI_m1, nI_em1, ↓reduceIte, Nat.add_zero, sI_k, sI_at]
    · simp (disch := first | assumption | (simp only [sI_kd, sP_kd, rw_kd, sI_ln, sP_ln, rw_ln] <;> first | assumption | omega) | omega) only [nl, nI_add, pk_mul, Option.bind_some, zb2_some, nI_le_t, nI_le_f, nI_lt_t, nI_lt_f, nI_eq_t, nI_eq_f, nI_m1, nI_em1, ↓reduceIte, Nat.add_zero, sI_k, sI_at]
    · simp (disch := first | assumption | (simp only [sI_kd, sP_kd, rw_kd, sI_ln, sP_ln, rw_ln] <;> first | assumption | omega) | omega) only [nl, nI_add, pk_mul, Option.bind_some, zb2_some, nI_le_t, nI_le_f, nI_lt_t, nI_lt_f, nI_eq_t, nI_eq_f, nI_m1, nI_em1, ↓reduceIte, Nat.add_zero, sI_k, sI_at]
    · simp (disch := first | assumption | (simp only [sI_kd, sP_kd, rw_kd, sI_ln, sP_ln, rw_ln] <;> first | assumption | omega) | omega) only [nl, nI_add, pk_mul, Option.bind_some, zb2_some, nI_le_t, nI_le_f, nI_lt_t, nI_lt_f, nI_eq_t, nI_eq_f, nI_m1, nI_em1, ↓reduceIte, Nat.add_zero, sI_k, sI_at]
    · simp (disch := first | assumption | (simp only [sI_kd, sP_kd, rw_kd, sI_ln, sP_ln, rw_ln] <;> first | assumption | omega) | omega) only [nl, nI_add, pk_mul, Option.bind_some, zb2_some, nI_le_t, nI_le_f, nI_lt_t, nI_lt_f, nI_eq_t, nI_eq_f, nI_m1, nI_em1, ↓reduceIte, Nat.add_zero, sI_a, g1]
      rw [pk_cpy_in (by omega) (by omega), ← (rf f hf hn).1]
      congr 1; omega
    · simp (disch := first | assumption | (simp only [sI_kd, sP_kd, rw_kd, sI_ln, sP_ln, rw_ln] <;> first | assumption | omega) | omega) only [nl, nI_add, pk_mul, Option.bind_some, zb2_some, nI_le_t, nI_le_f, nI_lt_t, nI_lt_f, nI_eq_t, nI_eq_f, nI_m1, nI_em1, ↓reduceIte, Nat.add_zero, sI_a, g2]
      rw [pk_cpy_in (by omega) (by omega), ← (rf f hf hn).2]
      congr 1; omega
  · exact fg.tr ((((((FrI.sI (by omega) (by omega)).tr (FrI.sI (by omega) (by omega))).tr (FrI.sI (by omega) (by omega))).tr (FrI.sI (by omega) (by omega))).tr (FrI.sI (by omega) (by omega))).tr (FrI.sI (by omega) (by omega)))
end CENTM
