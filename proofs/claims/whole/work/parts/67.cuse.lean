/-! pure: the component's other actions on a state -/
section CUSE
variable {tg : Bool} {h : zH} {q nc : Nat} {ρ ρ' : zN'}
theorem c_canForm {f b : Nat} (hS : SR tg h q nc ρ) (ho : nok ρ) (ht : ρ 1 + 1 < 10000) (hf : f < 8) (hb : b ≤ 9999) : fX3_canAddForm h q (nI f) (nI b) = some (if (noffer ρ f b).isSome = true then nI 1 else nI 0, h) := by
  have hc := ho.1
  have b3 := ho.2.2.2.1
  have lb := nls_bd ho 0 false
  have L := c_least (but := 0) (b := nI 0) false hS ho (nbut_at (by omega))
  rw [if_neg (by decide)] at L
  unfold fX3_canAddForm
  by_cases c : ρ 0 = 0
  · have no : noffer ρ f b = none := if_pos (Or.inl c)
    rw [no]
    simp (disch := first | assumption | (simp only [sI_kd, sP_kd, rw_kd, sI_ln, sP_ln, rw_ln] <;> first | assumption | omega) | omega) only [nl, nI_add, pk_mul, Option.bind_some, zb2_some, nI_le_t, nI_le_f, nI_lt_t, nI_lt_f, nI_eq_t, nI_eq_f, nI_m1, nI_em1, ↓reduceIte, Nat.add_zero, hS.kd, hS.cn, c, Option.isSome_none, Bool.false_eq_true]
  · have sh := hS.1.sh (i := 0) (by omega)
    have er := hS.er (i := 0) (by omega)
    have oe := ho.2.2.2.2 0 (by omega)
    have hh := c_holds sh er hf
    have hd := c_hd sh er oe hf
    have kk : ρ (24 + 28 * 0 + 16 + f) = ρ (40 + f) := rfl
    have ks : ρ (24 + 28 * 0 + f) = ρ (24 + f) := rfl
    have k2 := (oe.1 f hf).1
    have sb := (oe.1 f hf).2.1
    have sz := (oe.1 f hf).2.2.1
    rw [kk] at hh hd k2 sz
    rw [ks] at sb sz
    have sl : ρ (24 + f) ≤ nls ρ 0 false := by
      have h1 : nli ρ 0 false 0 ≤ nls ρ 0 false := nsum_at (g := nli ρ 0 false) (by omega)
      have h2 : nli ρ 0 false 0 = nsz ρ 0 := if_pos rfl
      have h3 : ρ (24 + 28 * 0 + f) ≤ nsz ρ 0 := nsum_at (g := fun f => ρ (24 + 28 * 0 + f)) hf
      rw [ks] at h3
      omega
    by_cases k1 : ρ (40 + f) = 1
    · have no : noffer ρ f b = none := if_pos (Or.inr k1)
      rw [no]
      rw [if_neg (by omega)] at hh hd
      simp (disch := first | assumption | (simp only [sI_kd, sP_kd, rw_kd, sI_ln, sP_ln, rw_ln] <;> first | assumption | omega) | omega) only [nl, nI_add, pk_mul, Option.bind_some, zb2_some, nI_le_t, nI_le_f, nI_lt_t, nI_lt_f, nI_eq_t, nI_eq_f, nI_m1, nI_em1, ↓reduceIte, Nat.add_zero, hS.kd, hS.cn, hS.1.es, hS.1.en, hh, hd, Option.isSome_none, Bool.false_eq_true]
    · have ci := noffer_iff (b := b) ho ht hf c k1
      have st : ∀ p : Prop, (∀ (_ : nls ρ 0 false - ρ (24 + f) + b ≤ ρ 3) (_ : (noffer ρ f b).isSome = true), p) → (∀ (_ : ¬ nls ρ 0 false - ρ (24 + f) + b ≤ ρ 3) (_ : (noffer ρ f b).isSome = false), p) → p := fun p h1 h2 => by
        by_cases w : nls ρ 0 false - ρ (24 + f) + b ≤ ρ 3
        · refine h1 w ?_
          obtain ⟨r, hr⟩ := ci.mpr w
          rw [hr]; rfl
        · refine h2 w ?_
          cases hr : noffer ρ f b with
          | none => rfl
          | some r => exact absurd (ci.mp ⟨r, hr⟩) w
      by_cases k0 : ρ (40 + f) = 0
      · have z0 := (sz k0).1
        rw [if_pos k0] at hh
        rw [if_neg (by omega)] at hd
        refine st _ (fun w y => ?_) (fun w y => ?_)
        · simp (disch := first | assumption | (simp only [sI_kd, sP_kd, rw_kd, sI_ln, sP_ln, rw_ln] <;> first | assumption | omega) | omega) only [nl, nI_add, pk_mul, Option.bind_some, zb2_some, nI_le_t, nI_le_f, nI_lt_t, nI_lt_f, nI_eq_t, nI_eq_f, nI_m1, nI_em1, ↓reduceIte, Nat.add_zero, hS.kd, hS.cn, hS.1.es, hS.1.en, hh, hd, L, hS.bg, y, pk_sub, Nat.sub_zero]
        · simp (disch := first | assumption | (simp only [sI_kd, sP_kd, rw_kd, sI_ln, sP_ln, rw_ln] <;> first | assumption | omega) | omega) only [nl, nI_add, pk_mul, Option.bind_some, zb2_some, nI_le_t, nI_le_f, nI_lt_t, nI_lt_f, nI_eq_t, nI_eq_f, nI_m1, nI_em1, ↓reduceIte, Nat.add_zero, hS.kd, hS.cn, hS.1.es, hS.1.en, hh, hd, L, hS.bg, y, pk_sub, Nat.sub_zero, Bool.false_eq_true]
      · have k2' : ρ (40 + f) = 2 := by omega
        have rd := c_rd sh er hf (by rw [kk]; omega)
        rw [if_neg (by omega)] at hh
        rw [if_pos k2'] at hd
        rw [ks] at rd
        have pp : zgP h 1 (zP h (q + 1) 0) 0 = some (zP h (q + 1) 0 + 1) := gP_ sh.1 sh.2.1 (by omega)
        refine st _ (fun w y => ?_) (fun w y => ?_)
        · simp (disch := first | assumption | (simp only [sI_kd, sP_kd, rw_kd, sI_ln, sP_ln, rw_ln] <;> first | assumption | omega) | omega) only [nl, nI_add, pk_mul, Option.bind_some, zb2_some, nI_le_t, nI_le_f, nI_lt_t, nI_lt_f, nI_eq_t, nI_eq_f, nI_m1, nI_em1, ↓reduceIte, Nat.add_zero, hS.kd, hS.cn, hS.1.es, hS.1.en, hh, hd, L, hS.bg, y, pk_sub, pp, rd]
        · simp (disch := first | assumption | (simp only [sI_kd, sP_kd, rw_kd, sI_ln, sP_ln, rw_ln] <;> first | assumption | omega) | omega) only [nl, nI_add, pk_mul, Option.bind_some, zb2_some, nI_le_t, nI_le_f, nI_lt_t, nI_lt_f, nI_eq_t, nI_eq_f, nI_m1, nI_em1, ↓reduceIte, Nat.add_zero, hS.kd, hS.cn, hS.1.es, hS.1.en, hh, hd, L, hS.bg, y, pk_sub, pp, rd, Bool.false_eq_true]
theorem c_addForm {f b : Nat} (hS : SR tg h q nc ρ) (hn : nc ≤ 20) (ho : nok ρ) (ht : ρ 1 + 1 < 10000) (hf : f < 8) (hb : b ≤ 9999) (hr : noffer ρ f b = some ρ') : ∃ h', fX3_addForm h q (nI f) (nI b) = some h' ∧ SR tg h' q nc ρ' ∧ Fr q (q + 39) h h' := by
  have hc := ho.1
  have hot := nok_time ho ht
  have S2 := SR_time (t := ρ 1 + 1) hS hc
  have t0 : va_up ρ 1 (ρ 1 + 1) 0 = ρ 0 := up_b (by omega)
  have F2 : Fr q (q + 39) h (zsI h q 3 (nI (ρ 1 + 1))) := (FrI.sI (by omega) (by omega)).fr
  have p3 : zpI h 3 q 3 (nI (ρ 1 + 1)) = some (zsI h q 3 (nI (ρ 1 + 1))) := pI_ hS.kd
  unfold noffer at hr
  by_cases c : ρ 0 = 0 ∨ ρ (40 + f) = 1
  · rw [if_pos c] at hr; cases hr
  rw [if_neg c] at hr
  have c0 : ρ 0 ≠ 0 := fun w => c (Or.inl w)
  generalize va_up ρ 1 (ρ 1 + 1) = σ at *
  generalize zsI h q 3 (nI (ρ 1 + 1)) = g at *
  cases hm : nroom b 0 true (ndf σ 0 f) with
  | none => rw [hm] at hr; cases hr
  | some σ2 =>
    rw [hm] at hr
    have hr : some (npf σ2 0 f b 0 1) = some ρ' := hr
    cases hr
    have sh := S2.1.sh (i := 0) (by omega)
    have er := S2.er (i := 0) (by omega)
    have oe := hot.2.2.2.2 0 (by omega)
    obtain ⟨h3, d1, d2, d3⟩ := c_dropForm sh er oe hf
    obtain ⟨S3, F3⟩ := SR_mod S2 hn (by omega) (by omega) d3 d2 (fun j hj => by rw [ndf_at, if_neg (by omega)]) (fun j k hj _ hk => ndf_ne hj hk hf)
    have nd := nok_df hot (e := 0) (by omega) hf
    have e0 : ndf σ 0 f 0 = σ 0 := by rw [ndf_at, if_neg (by omega)]
    obtain ⟨h4, r1, S4, F4⟩ := c_makeRoom S3 hn nd (nbut_at (x := 0) (by omega)) (by omega) hm
    obtain ⟨m1, m2⟩ := nmk_k0 zF _ _ _ (by omega) (nroom_mk hm)
    obtain ⟨k1, k2, k3⟩ := nroom_keep nd hm
    have sh4 := S4.1.sh (i := 0) (by omega)
    have er4 := S4.er (i := 0) (by omega)
    have z1 : σ2 (24 + 28 * 0 + 16 + f) = 0 := by
      have := m2 (16 + f) (by omega)
      rw [← Nat.add_assoc] at this
      rw [this, ndf_k hf hf, if_pos rfl]
    have z2 : σ2 (24 + 28 * 0 + f) = 0 := by
      rw [m2 f (by omega), ndf_b hf hf, if_pos rfl]
    obtain ⟨h5, u1, u2, u3⟩ := c_putForm (b := b) (l := 0) (kk := 1) sh4 er4 hf z1 z2 (Or.inl rfl)
    obtain ⟨S5, F5⟩ := SR_mod S4 hn k1.1 (by omega) u3 u2 (fun j hj => by rw [npf_at, if_neg (by omega), if_neg (by omega), if_neg (by omega)]) (fun j k hj _ hk => by rw [npf_at, if_neg (by omega), if_neg (by omega), if_neg (by omega)])
    refine ⟨h5, ?_, S5, ((F2.tr F3.fr).tr F4).tr F5.fr⟩
    have u1' : fX1_putForm h4 (zP h4 (q + 1) 0) (nI f) (nI b) (nI 0) (nI 0) = some h5 := u1
    unfold fX3_addForm
    simp (disch := first | assumption | (simp only [sI_kd, sP_kd, rw_kd, sI_ln, sP_ln, rw_ln] <;> first | assumption | omega) | omega) only [nl, nI_add, pk_mul, Option.bind_some, zb2_some, nI_le_t, nI_le_f, nI_lt_t, nI_lt_f, nI_eq_t, nI_eq_f, nI_m1, nI_em1, ↓reduceIte, Nat.add_zero, hS.kd, hS.cn, hS.tm, p3, S2.1.es, S2.1.en, d1, r1, S4.1.es, S4.1.en, u1']
theorem ER_use {x e u t : Nat} (hr : ER tg h x ρ e) : ER tg (zsI (zsI h x 6 (nI u)) x 7 (nI t)) x (va_up (va_up ρ (24 + 28 * e + 25) u) (24 + 28 * e + 26) t) e := by
  obtain ⟨r2, r3, r4, r5, r6, r7, rf, rt⟩ := hr
  have lo : ∀ j, j < 24 + 28 * e + 25 ∨ 24 + 28 * e + 26 < j → va_up (va_up ρ (24 + 28 * e + 25) u) (24 + 28 * e + 26) t j = ρ j := fun j hj => by rw [up_b (by omega), up_b (by omega)]
  have eb : ∀ k, ebs (va_up (va_up ρ (24 + 28 * e + 25) u) (24 + 28 * e + 26) t) e k = ebs ρ e k := fun k => bsm_congr fun f hf => by rw [lo _ (by omega)]
  have es : nsz (va_up (va_up ρ (24 + 28 * e + 25) u) (24 + 28 * e + 26) t) e = nsz ρ e := nsum_congr fun f hf => lo _ (by omega)
  refine ⟨?_, ?_, ?_, ?_, ?_, ?_, fun f hf hn => ?_, fun tt => ?_⟩
  · rw [eb]; simp (disch := first | assumption | (simp only [sI_kd, sP_kd, rw_kd, sI_ln, sP_ln, rw_ln] <;> first | assumption | omega) | omega) only [nl, nI_add, pk_mul, Option.bind_some, zb2_some, nI_le_t, nI_le_f, nI_lt_t, nI_lt_f, nI_eq_t, nI_eq_f, nI_m1, nI_em1, ↓reduceIte, Nat.add_zero, sI_k, r2]
  · rw [eb]; simp (disch := first | assumption | (simp only [sI_kd, sP_kd, rw_kd, sI_ln, sP_ln, rw_ln] <;> first | assumption | omega) | omega) only [nl, nI_add, pk_mul, Option.bind_some, zb2_some, nI_le_t, nI_le_f, nI_lt_t, nI_lt_f, nI_eq_t, nI_eq_f, nI_m1, nI_em1, ↓reduceIte, Nat.add_zero, sI_k, r3]
  · rw [es]; simp (disch := first | assumption | (simp only [sI_kd, sP_kd, rw_kd, sI_ln, sP_ln, rw_ln] <;> first | assumption | omega) | omega) only [nl, nI_add, pk_mul, Option.bind_some, zb2_some, nI_le_t, nI_le_f, nI_lt_t, nI_lt_f, nI_eq_t, nI_eq_f, nI_m1, nI_em1, ↓reduceIte, Nat.add_zero, sI_k, r4]
  · rw [lo _ (by omega)]; simp (disch := first | assumption | (simp only [sI_kd, sP_kd, rw_kd, sI_ln, sP_ln, rw_ln] <;> first | assumption | omega) | omega) only [nl, nI_add, pk_mul, Option.bind_some, zb2_some, nI_le_t, nI_le_f, nI_lt_t, nI_lt_f, nI_eq_t, nI_eq_f, nI_m1, nI_em1, ↓reduceIte, Nat.add_zero, sI_k, r5]
  · rw [up_b (by omega), up_at]; simp (disch := first | assumption | (simp only [sI_kd, sP_kd, rw_kd, sI_ln, sP_ln, rw_ln] <;> first | assumption | omega) | omega) only [nl, nI_add, pk_mul, Option.bind_some, zb2_some, nI_le_t, nI_le_f, nI_lt_t, nI_lt_f, nI_eq_t, nI_eq_f, nI_m1, nI_em1, ↓reduceIte, Nat.add_zero, sI_k, sI_at]
  · rw [up_at]; simp (disch := first | assumption | (simp only [sI_kd, sP_kd, rw_kd, sI_ln, sP_ln, rw_ln] <;> first | assumption | omega) | omega) only [nl, nI_add, pk_mul, Option.bind_some, zb2_some, nI_le_t, nI_le_f, nI_lt_t, nI_lt_f, nI_eq_t, nI_eq_f, nI_m1, nI_em1, ↓reduceIte, Nat.add_zero, sI_at]
  · rw [lo _ (by omega)] at hn
    rw [lo _ (by omega), lo _ (by omega), sI_a (by omega), sI_a (by omega), sI_a (by omega), sI_a (by omega)]
    exact rf f hf hn
  · rw [lo _ (by omega), ← rt tt]; simp (disch := first | assumption | (simp only [sI_kd, sP_kd, rw_kd, sI_ln, sP_ln, rw_ln] <;> first | assumption | omega) | omega) only [nl, nI_add, pk_mul, Option.bind_some, zb2_some, nI_le_t, nI_le_f, nI_lt_t, nI_lt_f, nI_eq_t, nI_eq_f, nI_m1, nI_em1, ↓reduceIte, Nat.add_zero, sI_k]
def WR (h : zH) (fw : Nat) (w : Nat × Nat × Nat × Nat × Nat) : Prop := zkd h fw = 6 ∧ zI h fw 0 = nI w.1 ∧ zI h fw 1 = nI w.2.1 ∧ zI h fw 2 = nI w.2.2.1 ∧ zI h fw 3 = nI w.2.2.2.1 ∧ zI h fw 4 = nI w.2.2.2.2
theorem WR_fr {h' : zH} {fw lo hi : Nat} {w : Nat × Nat × Nat × Nat × Nat} (f : Fr lo hi h h') (d : fw < lo ∨ hi ≤ fw) (hw : WR h fw w) : WR h' fw w := by
  unfold WR
  rw [f.1, (f.2.2.2 fw d).1]
  exact hw
theorem c_use {e fw : Nat} {w : Nat × Nat × Nat × Nat × Nat} (hS : SR tg h q nc ρ) (hn : nc ≤ 20) (ho : nok ρ) (ht : ρ 1 + 1 < 10000) (he : e < ρ 0) (hw : WR h fw w) (hd : fw < q ∨ q + 39 ≤ fw) (w3 : w.2.2.1 < 8) (w4 : w.2.2.2.1 ≤ 99999) : ∃ h', fX3_useEntry h q (nI e) fw = some h' ∧ SR tg h' q nc (npaste ρ e w) ∧ Fr q (q + 39) h h' := by
  have hc := ho.1
  obtain ⟨j0, hj0, e0⟩ := hS.1.ea (i := e) (by omega)
  have nq := nok_npq (w := w.1) ho ht he
  have S2 := SR_total (t := ρ 2 + w.1) (SR_time (t := ρ 1 + 1) hS hc) (by rw [up_b (by omega)]; exact hc)
  have F2 : Fr q (q + 39) h (zsI (zsI h q 3 (nI (ρ 1 + 1))) q 4 (nI (ρ 2 + w.1))) := ((FrI.sI (by omega) (by omega)).tr (FrI.sI (by omega) (by omega))).fr
  have P2 : zP (zsI (zsI h q 3 (nI (ρ 1 + 1))) q 4 (nI (ρ 2 + w.1))) = zP h := rfl
  have a1 : zpI h 3 q 3 (nI (ρ 1 + 1)) = some (zsI h q 3 (nI (ρ 1 + 1))) := pI_ hS.kd
  have a2 : zgI (zsI h q 3 (nI (ρ 1 + 1))) 3 q 4 = some (nI (ρ 2)) := by rw [gI_ (h := zsI h q 3 (nI (ρ 1 + 1))) hS.kd, sI_k (by omega), hS.2.2.2.1]
  have a3 : zgI (zsI h q 3 (nI (ρ 1 + 1))) 5 fw 0 = some (nI w.1) := by rw [gI_ (h := zsI h q 3 (nI (ρ 1 + 1))) hw.1, sI_a (by omega), hw.2.1]
  have a4 : zpI (zsI h q 3 (nI (ρ 1 + 1))) 3 q 4 (nI (ρ 2 + w.1)) = some (zsI (zsI h q 3 (nI (ρ 1 + 1))) q 4 (nI (ρ 2 + w.1))) := pI_ hS.kd
  have hw2 := WR_fr F2 (by omega) hw
  have oe := ho.2.2.2.2 e he
  have sh2 := S2.1.sh (i := e) (by omega)
  have er2 := S2.er (i := e) (by rw [up_b (by omega), up_b (by omega)]; exact he)
  rw [P2] at sh2 er2
  have u2 : va_up (va_up ρ 1 (ρ 1 + 1)) 2 (ρ 2 + w.1) (24 + 28 * e + 25) = ρ (24 + 28 * e + 25) := by rw [up_b (by omega), up_b (by omega)]
  have tm2 : va_up (va_up ρ 1 (ρ 1 + 1)) 2 (ρ 2 + w.1) 1 = ρ 1 + 1 := by rw [up_b (by omega), up_at]
  have z2 : va_up (va_up ρ 1 (ρ 1 + 1)) 2 (ρ 2 + w.1) 0 = ρ 0 := by rw [up_b (by omega), up_b (by omega)]
  have er3 := ER_use (u := ρ (24 + 28 * e + 25) + 1) (t := ρ 1 + 1) er2
  have f3 : FrI (zP h (q + 1) e) (zP h (q + 1) e + 3) (zsI (zsI h q 3 (nI (ρ 1 + 1))) q 4 (nI (ρ 2 + w.1))) (zsI (zsI (zsI (zsI h q 3 (nI (ρ 1 + 1))) q 4 (nI (ρ 2 + w.1))) (zP h (q + 1) e) 6 (nI (ρ (24 + 28 * e + 25) + 1))) (zP h (q + 1) e) 7 (nI (ρ 1 + 1))) := (FrI.sI (by omega) (by omega)).tr (FrI.sI (by omega) (by omega))
  obtain ⟨S3, F3⟩ := SR_mod (i := e) S2 hn (by rw [z2]; exact hc) (by rw [z2]; exact he) f3 er3 (fun j hj => by rw [up_b (by omega), up_b (by omega)]) (fun j k hj _ hk => by rw [up_b (by omega), up_b (by omega)])
  have b1 : zgI (zsI (zsI h q 3 (nI (ρ 1 + 1))) q 4 (nI (ρ 2 + w.1))) 1 (zP h (q + 1) e) 6 = some (nI (ρ (24 + 28 * e + 25))) := by rw [gI_ sh2.1, er2.2.2.2.2.1, u2]
  have b2 : zpI (zsI (zsI h q 3 (nI (ρ 1 + 1))) q 4 (nI (ρ 2 + w.1))) 1 (zP h (q + 1) e) 6 (nI (ρ (24 + 28 * e + 25) + 1)) = some (zsI (zsI (zsI h q 3 (nI (ρ 1 + 1))) q 4 (nI (ρ 2 + w.1))) (zP h (q + 1) e) 6 (nI (ρ (24 + 28 * e + 25) + 1))) := pI_ sh2.1
  have b3 : zgI (zsI (zsI (zsI h q 3 (nI (ρ 1 + 1))) q 4 (nI (ρ 2 + w.1))) (zP h (q + 1) e) 6 (nI (ρ (24 + 28 * e + 25) + 1))) 3 q 3 = some (nI (ρ 1 + 1)) := by
    rw [gI_ (h := zsI (zsI (zsI h q 3 (nI (ρ 1 + 1))) q 4 (nI (ρ 2 + w.1))) (zP h (q + 1) e) 6 (nI (ρ (24 + 28 * e + 25) + 1))) hS.kd, sI_k (by omega), sI_k (by omega), sI_at]
  have b4 : zpI (zsI (zsI (zsI h q 3 (nI (ρ 1 + 1))) q 4 (nI (ρ 2 + w.1))) (zP h (q + 1) e) 6 (nI (ρ (24 + 28 * e + 25) + 1))) 1 (zP h (q + 1) e) 7 (nI (ρ 1 + 1)) = some (zsI (zsI (zsI (zsI h q 3 (nI (ρ 1 + 1))) q 4 (nI (ρ 2 + w.1))) (zP h (q + 1) e) 6 (nI (ρ (24 + 28 * e + 25) + 1))) (zP h (q + 1) e) 7 (nI (ρ 1 + 1))) := pI_ sh2.1
  have P3 : zP (zsI (zsI (zsI (zsI h q 3 (nI (ρ 1 + 1))) q 4 (nI (ρ 2 + w.1))) (zP h (q + 1) e) 6 (nI (ρ (24 + 28 * e + 25) + 1))) (zP h (q + 1) e) 7 (nI (ρ 1 + 1))) = zP h := rfl
  have hw3 := WR_fr F3.fr (by omega) hw2
  have F := F2.tr F3.fr
  have Q : SR tg (zsI (zsI (zsI (zsI h q 3 (nI (ρ 1 + 1))) q 4 (nI (ρ 2 + w.1))) (zP h (q + 1) e) 6 (nI (ρ (24 + 28 * e + 25) + 1))) (zP h (q + 1) e) 7 (nI (ρ 1 + 1))) q nc (npq ρ e w.1) := S3
  generalize zsI (zsI (zsI (zsI h q 3 (nI (ρ 1 + 1))) q 4 (nI (ρ 2 + w.1))) (zP h (q + 1) e) 6 (nI (ρ (24 + 28 * e + 25) + 1))) (zP h (q + 1) e) 7 (nI (ρ 1 + 1)) = g at *
  clear S3 er3 f3 F3 S2
  have n0 : npq ρ e w.1 0 = ρ 0 := by unfold npq; rw [up_b (by omega), up_b (by omega), up_b (by omega), up_b (by omega)]
  unfold npaste
  generalize npq ρ e w.1 = σ at *
  have g2 : zgI g 5 fw 2 = some (nI w.2.2.1) := by rw [gI_ hw3.1, hw3.2.2.2.1]
  have g3 : zgI g 5 fw 3 = some (nI w.2.2.2.1) := by rw [gI_ hw3.1, hw3.2.2.2.2.1]
  have shg := Q.1.sh (i := e) (by omega)
  have erg := Q.er (i := e) (by omega)
  have og := nq.2.2.2.2 e (by omega)
  rw [P3] at shg erg
  have hh := c_holds shg erg w3
  unfold npd
  by_cases k0 : σ (24 + 28 * e + 16 + w.2.2.1) = 0
  · rw [if_pos k0]
    have L := c_least true Q nq (nbut_at (x := e) (by omega))
    rw [if_pos rfl] at L
    have lb := nls_bd nq e true
    have bb3 := nq.2.2.2.1
    have ri := nroom_iff (b := w.2.2.2.1) (but := e) (et := false) nq (fun z => by cases z)
    rw [show (!false) = true from rfl] at ri
    by_cases fit : nls σ e true + w.2.2.2.1 ≤ σ 3
    · obtain ⟨σ2, hm⟩ := ri.mpr fit
      rw [hm]
      obtain ⟨h4, r1, S4, F4, P4⟩ := c_makeRoomP Q hn nq (nbut_at (x := e) (by omega)) w4 hm
      have P4 := P4 rfl
      obtain ⟨m0, m2⟩ := nmk_same zF _ _ _ (nroom_mk hm)
      obtain ⟨k1, k2, k3⟩ := nroom_keep nq hm
      have sh4 := S4.1.sh (i := e) (by omega)
      have er4 := S4.er (i := e) (by omega)
      have z1 : σ2 (24 + 28 * e + 16 + w.2.2.1) = 0 := by
        have := m2 (16 + w.2.2.1) (by omega)
        rw [← Nat.add_assoc] at this
        rw [this, k0]
      have z2 : σ2 (24 + 28 * e + w.2.2.1) = 0 := by
        rw [m2 w.2.2.1 (by omega)]
        exact ((og.1 _ w3).2.2.1 k0).1
      obtain ⟨h5, u1, u2, u3⟩ := c_putForm (b := w.2.2.2.1) (l := w.2.2.2.2) (kk := 2) sh4 er4 w3 z1 z2 (Or.inr rfl)
      obtain ⟨S5, F5⟩ := SR_mod S4 hn k1.1 (by omega) u3 u2 (fun j hj => by rw [npf_at, if_neg (by omega), if_neg (by omega), if_neg (by omega)]) (fun j k hj _ hk => by rw [npf_at, if_neg (by omega), if_neg (by omega), if_neg (by omega)])
      have n5 : npf σ2 e w.2.2.1 w.2.2.2.1 w.2.2.2.2 2 0 = σ2 0 := by rw [npf_at, if_neg (by omega), if_neg (by omega), if_neg (by omega)]
      obtain ⟨h6, v1, S6, F6⟩ := c_front (e := e) S5 hn (by rw [n5]; exact k1.1) (by rw [n5]; omega)
      refine ⟨h6, ?_, S6, ((F.tr F4).tr F5.fr).tr F6⟩
      have hw4 := WR_fr F4 (by omega) hw3
      have q2 : zgI h4 5 fw 2 = some (nI w.2.2.1) := by rw [gI_ hw4.1, hw4.2.2.2.1]
      have q3 : zgI h4 5 fw 3 = some (nI w.2.2.2.1) := by rw [gI_ hw4.1, hw4.2.2.2.2.1]
      have q4 : zgI h4 5 fw 4 = some (nI w.2.2.2.2) := by rw [gI_ hw4.1, hw4.2.2.2.2.2]
      have u1' : fX1_putForm h4 (zP h (q + 1) e) (nI w.2.2.1) (nI w.2.2.2.1) (nI w.2.2.2.2) (nI 1) = some h5 := by
        rw [← P3, ← P4]; exact u1
      unfold fX3_useEntry
      simp (disch := first | assumption | (simp only [sI_kd, sP_kd, rw_kd, sI_ln, sP_ln, rw_ln] <;> first | assumption | omega) | omega) only [nl, nI_add, pk_mul, Option.bind_some, zb2_some, nI_le_t, nI_le_f, nI_lt_t, nI_lt_f, nI_eq_t, nI_eq_f, nI_m1, nI_em1, ↓reduceIte, Nat.add_zero, hS.kd, c_has hS hc, hS.1.es, hS.1.en, hS.tm, a1, a2, a3, a4, b1, b2, b3, b4, g2, g3, hh, k0, L, Q.bg, r1, q2, q3, q4, u1', v1]
    · have hm : nroom w.2.2.2.1 e false σ = none := by
        cases hm : nroom w.2.2.2.1 e false σ with
        | none => rfl
        | some r => exact absurd (ri.mp ⟨r, hm⟩) fit
      rw [hm]
      obtain ⟨h6, v1, S6, F6⟩ := c_front (e := e) Q hn (by omega) (by omega)
      refine ⟨h6, ?_, S6, F.tr F6⟩
      unfold fX3_useEntry
      simp (disch := first | assumption | (simp only [sI_kd, sP_kd, rw_kd, sI_ln, sP_ln, rw_ln] <;> first | assumption | omega) | omega) only [nl, nI_add, pk_mul, Option.bind_some, zb2_some, nI_le_t, nI_le_f, nI_lt_t, nI_lt_f, nI_eq_t, nI_eq_f, nI_m1, nI_em1, ↓reduceIte, Nat.add_zero, hS.kd, c_has hS hc, hS.1.es, hS.1.en, hS.tm, a1, a2, a3, a4, b1, b2, b3, b4, g2, g3, hh, k0, L, Q.bg, v1]
  · rw [if_neg k0]
    obtain ⟨h6, v1, S6, F6⟩ := c_front (e := e) Q hn (by omega) (by omega)
    refine ⟨h6, ?_, S6, F.tr F6⟩
    unfold fX3_useEntry
    simp (disch := first | assumption | (simp only [sI_kd, sP_kd, rw_kd, sI_ln, sP_ln, rw_ln] <;> first | assumption | omega) | omega) only [nl, nI_add, pk_mul, Option.bind_some, zb2_some, nI_le_t, nI_le_f, nI_lt_t, nI_lt_f, nI_eq_t, nI_eq_f, nI_m1, nI_em1, ↓reduceIte, Nat.add_zero, hS.kd, c_has hS hc, hS.1.es, hS.1.en, hS.tm, a1, a2, a3, a4, b1, b2, b3, b4, g2, g3, hh, k0, v1]
end CUSE
