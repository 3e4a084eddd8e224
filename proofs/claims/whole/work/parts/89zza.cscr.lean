/-! pure: the component's scripts and simulations -/
theorem k_rng_L {h : zH} {n : Nat} (hn : n ≤ 3) (k : zH → Int64 → Int32 → Option (Int64 × zH)) : ∀ d i fu, i + d = n → d < fu → fX6_scriptRange_L4 k (nI n) fu h (lN (1000000 ^ i)) (nI i) = k h (lN (1000000 ^ n)) (nI n) := by
  intro d
  induction d with
  | zero =>
    intro i fu hi hf
    obtain ⟨fu, rfl⟩ := fuel1 hf
    have e : i = n := by omega
    rw [fX6_scriptRange_L4, e]
    simp (disch := first | assumption | (simp only [sI_kd, sP_kd, rw_kd, sI_ln, sP_ln, rw_ln] <;> first | assumption | omega) | omega) only [nl, nI_add, pk_mul, Option.bind_some, zb2_some, nI_le_t, nI_le_f, nI_lt_t, nI_lt_f, nI_eq_t, nI_eq_f, nI_m1, nI_em1, ↓reduceIte, Nat.add_zero]
  | succ d ih =>
    intro i fu hi hf
    obtain ⟨fu, rfl⟩ := fuel1 hf
    have i1 := ih (i + 1) fu (by omega) (by omega)
    have e : lN (1000000 ^ i) * 1000000 = lN (1000000 ^ (i + 1)) := by
      rw [show (1000000 : Int64) = lN 1000000 from rfl, lN_mul, Nat.pow_succ]
    rw [fX6_scriptRange_L4, e]
    simp (disch := first | assumption | (simp only [sI_kd, sP_kd, rw_kd, sI_ln, sP_ln, rw_ln] <;> first | assumption | omega) | omega) only [nl, nI_add, pk_mul, Option.bind_some, zb2_some, nI_le_t, nI_le_f, nI_lt_t, nI_lt_f, nI_eq_t, nI_eq_f, nI_m1, nI_em1, ↓reduceIte, Nat.add_zero]
    exact i1
theorem k_rng {h : zH} {n : Nat} (hn : n ≤ 3) : fX6_scriptRange h (nI n) = some (lN (1000000 ^ n), h) := by
  unfold fX6_scriptRange
  exact k_rng_L hn _ n 0 zF (by omega) (by unfold zF; omega)
theorem k_at_L {h : zH} {n s : Nat} {u : Int64} (hn : n ≤ 3) (hs : s < 2 ^ 63) (k : zH → Int64 → Int32 → Option (Int32 × zH)) : ∀ d i fu, i + d = n → d < fu → fX6_commandAt_L5 k u (nI n) fu h (lN (s / 1000000 ^ i)) (nI i) = k h (lN (s / 1000000 ^ n)) (nI n) := by
  intro d
  induction d with
  | zero =>
    intro i fu hi hf
    obtain ⟨fu, rfl⟩ := fuel1 hf
    have e : i = n := by omega
    rw [fX6_commandAt_L5, e]
    simp (disch := first | assumption | (simp only [sI_kd, sP_kd, rw_kd, sI_ln, sP_ln, rw_ln] <;> first | assumption | omega) | omega) only [nl, nI_add, pk_mul, Option.bind_some, zb2_some, nI_le_t, nI_le_f, nI_lt_t, nI_lt_f, nI_eq_t, nI_eq_f, nI_m1, nI_em1, ↓reduceIte, Nat.add_zero]
  | succ d ih =>
    intro i fu hi hf
    obtain ⟨fu, rfl⟩ := fuel1 hf
    have i1 := ih (i + 1) fu (by omega) (by omega)
    have dl : s / 1000000 ^ i < 2 ^ 63 := by
      have := Nat.div_le_self s (1000000 ^ i)
      omega
    have e : lN (s / 1000000 ^ i) / 1000000 = lN (s / 1000000 ^ (i + 1)) := by
      rw [show (1000000 : Int64) = lN 1000000 from rfl, lN_div dl (by omega) (by omega), Nat.div_div_eq_div_mul, Nat.pow_succ]
    rw [fX6_commandAt_L5, e]
    simp (disch := first | assumption | (simp only [sI_kd, sP_kd, rw_kd, sI_ln, sP_ln, rw_ln] <;> first | assumption | omega) | omega) only [nl, nI_add, pk_mul, Option.bind_some, zb2_some, nI_le_t, nI_le_f, nI_lt_t, nI_lt_f, nI_eq_t, nI_eq_f, nI_m1, nI_em1, ↓reduceIte, Nat.add_zero]
    exact i1
theorem k_at {h : zH} {n s : Nat} (hn : n ≤ 3) (hs : s < 2 ^ 63) : fX6_commandAt h (lN s) (nI n) = some (nI (s / 1000000 ^ n % 1000000), h) := by
  have dl : s / 1000000 ^ n < 2 ^ 63 := by
    have := Nat.div_le_self s (1000000 ^ n)
    omega
  have rm : lN (s / 1000000 ^ n) - lN (s / 1000000 ^ n) / 1000000 * 1000000 = lN (s / 1000000 ^ n % 1000000) := by
    rw [show (1000000 : Int64) = lN 1000000 from rfl, pk_lRem dl (by omega) (by omega)]
  have L := k_at_L (h := h) (n := n) (s := s) (u := lN s) hn hs (fun h1 y2 y3 => some ((((y2 : Int64) - y2 / 1000000 * 1000000) : Int64).toInt32, h1)) n 0 zF (by omega) (by unfold zF; omega)
  have z : s / 1000000 ^ 0 = s := by rw [Nat.pow_zero, Nat.div_one]
  rw [z, rm, lN_i] at L
  unfold fX6_commandAt
  exact L
section CSCR
variable {x b d t : Nat} {A : zSt}
/-- the trial takes the state over -/
theorem c_trial {h : zH} (hK : CK h x b d A) (hN : CN h x A) (hA : AI t A) : ∃ h9, fX3_takeOver h (x + 117) (x + 78) = some h9 ∧ TC h9 x b d A (atg A) ∧ Fr x (x + 801) h h9 ∧ rok (anf A) (anc A) (atg A) ∧ csq A (atg A) := by
  have n20 := hA.2.1.1.2.1
  have tr := atg_rok hA.2.2.1.1 n20
  have S0 : SR false h (x + 78) (anc A) (atg A) := SR_tg (k := aρ A 0) n20 hN.2.2.1
  obtain ⟨h9, p1, p2, p3⟩ := c_take hN.2.2.2 S0 n20 tr.1 (Or.inr (by omega))
  obtain ⟨K9, N9⟩ := CI_trial hK hN hA p3.fr p2.1
  exact ⟨h9, p1, ⟨K9, N9, p2⟩, p3.fr.wd (by omega) (by omega), tr, fun j _ h2 => ntg_h h2⟩
theorem k_scr_L {n s : Nat} (hA : AI t A) (hn : n ≤ 3) (hs : s < 1000000 ^ n) : ∀ d' i fu (h : zH) (τ : zN'), i + d' = n → d' < fu → TC h x b d A τ → rok (anf A) (anc A) τ → csq A τ → τ 1 + d' < 9990 → ∃ h2, fX6_runScript_L61 (fun h10 y11 => some (Sum.inl (-9), h10)) x (nI n) (lN s) fu h (nI i) = some (Sum.inl (nI (scrR A n s d' i τ)), h2) ∧ (∃ σ, TC h2 x b d A σ) ∧ Fr x (x + 801) h h2 := by
  have p := pow6 hn
  intro d'
  induction d' with
  | zero =>
    intro i fu h τ hi hf hC tr hq ht
    obtain ⟨fu, rfl⟩ := fuel1 hf
    have e : i = n := by omega
    refine ⟨h, ?_, ⟨τ, hC⟩, Fr.rf⟩
    rw [fX6_runScript_L61, e]
    simp (disch := first | assumption | (simp only [sI_kd, sP_kd, rw_kd, sI_ln, sP_ln, rw_ln] <;> first | assumption | omega) | omega) only [nl, nI_add, pk_mul, Option.bind_some, zb2_some, nI_le_t, nI_le_f, nI_lt_t, nI_lt_f, nI_eq_t, nI_eq_f, nI_m1, nI_em1, ↓reduceIte, Nat.add_zero]
    rfl
  | succ d' ih =>
    intro i fu h τ hi hf hC tr hq ht
    obtain ⟨fu, rfl⟩ := fuel1 hf
    have s1 : nI n - nI 1 - nI i = nI (n - 1 - i) := by rw [pk_sub (by omega), pk_sub (by omega)]
    have ca := k_at (h := h) (n := n - 1 - i) (s := s) (by omega) (by omega)
    have gl : grpN n s i < 1000000 := Nat.mod_lt _ (by omega)
    have ca' : fX6_commandAt h (lN s) (nI (n - 1 - i)) = some (nI (grpN n s i), h) := ca
    obtain ⟨t1, t2⟩ := t_cmd hC hA tr hq (by omega) gl
    rw [fX6_runScript_L61]
    cases q : cmdR A τ (grpN n s i) with
    | none =>
      obtain ⟨g1, p1, p2, p3⟩ := t1 q
      have sv : scrR A n s (d' + 1) i τ = i := by unfold scrR; rw [q]
      refine ⟨g1, ?_, ⟨τ, p2⟩, p3⟩
      rw [sv]
      simp (disch := first | assumption | (simp only [sI_kd, sP_kd, rw_kd, sI_ln, sP_ln, rw_ln] <;> first | assumption | omega) | omega) only [nl, nI_add, pk_mul, Option.bind_some, zb2_some, nI_le_t, nI_le_f, nI_lt_t, nI_lt_f, nI_eq_t, nI_eq_f, nI_m1, nI_em1, ↓reduceIte, Nat.add_zero, s1, ca', p1]
    | some τ' =>
      obtain ⟨g1, p1, p2, p3, p4, p5, p6⟩ := t2 τ' q
      have sv : scrR A n s (d' + 1) i τ = scrR A n s d' (i + 1) τ' := by
        show (match cmdR A τ (grpN n s i) with | none => i | some τ' => scrR A n s d' (i + 1) τ') = _
        rw [q]
      obtain ⟨h2, l1, l2, l3⟩ := ih (i + 1) fu g1 τ' (by omega) (by omega) p2 p4 p6 (by omega)
      refine ⟨h2, ?_, l2, p3.tr l3⟩
      rw [sv, ← l1]
      simp (disch := first | assumption | (simp only [sI_kd, sP_kd, rw_kd, sI_ln, sP_ln, rw_ln] <;> first | assumption | omega) | omega) only [nl, nI_add, pk_mul, Option.bind_some, zb2_some, nI_le_t, nI_le_f, nI_lt_t, nI_lt_f, nI_eq_t, nI_eq_f, nI_m1, nI_em1, ↓reduceIte, Nat.add_zero, s1, ca', p1]
theorem k_scr {h : zH} (hC : CI h x A) (hA : AI t A) (ht : t < 9000) (u : Int32) (s : Int64) : CO h x (fX6_runScript h x u s) (scrS A u s) [xA] := by
  obtain ⟨b, d, hK, hN⟩ := id hC
  have k1 := hK.1
  unfold scrS
  by_cases c2 : 1 ≤ u ∧ u ≤ 3
  · rw [if_neg (fun z => z c2)]
    have sz : newSz u := ⟨c2.1, Int32.le_trans c2.2 (by decide)⟩
    obtain ⟨n, n1, n2, n3, n4⟩ := in_sz sz
    have n3' : n ≤ 3 := by
      have := c2.2
      rw [n3] at this
      exact (nI_leI (b := 3) (by omega) (by omega)).mp this
    rw [n4]
    have l1 : ¬ u < 1 := Int32.not_lt.mpr c2.1
    have rg := k_rng (h := h) n3'
    have pp := pow6 n3'
    subst n3
    by_cases c3 : outS n s
    · rw [if_pos c3]
      refine CO_no hA (by omega) (by decide) hC ?_
      unfold fX6_runScript
      rw [if_pos k1.1, if_neg l1, if_pos c2.2]
      simp only [lg_cmp_lt]
      by_cases c4 : s < 0
      · rw [if_pos c4]; rfl
      · rw [if_neg c4, rg, zb2_some, if_neg (Int64.not_lt.mpr (c3.resolve_left c4))]
        rfl
    · rw [if_neg c3]
      obtain ⟨k, e1, e2, e3⟩ := in_s n3' c3
      rw [e3]
      obtain ⟨h9, p1, p2, p3, p4, p5⟩ := c_trial hK hN hA
      have tt : atg A 1 = aρ A 1 := ntg_h (by omega)
      have tl := hA.2.2.1.2
      obtain ⟨h2, q1, ⟨σ, q2⟩, q3⟩ := k_scr_L hA n3' e1 n 0 zF h9 (atg A) (by omega) (by unfold zF; omega) p2 p4 p5 (by omega)
      refine CO_ok ?_ ⟨b, d, q2.1, q2.2.1⟩ (p3.tr q3)
      have nl0 : ¬ s < 0 := fun z => c3 (Or.inl z)
      have lt : s < lN (1000000 ^ n) := Int64.not_le.mp (fun z => c3 (Or.inr z))
      subst e2
      unfold fX6_runScript
      rw [if_pos k1.1, if_neg l1, if_pos c2.2]
      simp only [lg_cmp_lt]
      rw [if_neg nl0, rg, zb2_some, if_pos lt, k1.g5, Option.bind_some, k1.g4, Option.bind_some, p1, Option.bind_some]
      exact q1
  · rw [if_pos c2]
    refine CO_no hA (by omega) (by decide) hC ?_
    unfold fX6_runScript
    rw [if_pos k1.1]
    by_cases c4 : u < 1
    · rw [if_pos c4]; rfl
    · rw [if_neg c4, if_neg (fun z => c2 ⟨Int32.not_lt.mp c4, z⟩)]
      rfl
theorem t_rnd {h : zH} {τ : zN'} {K : Nat} (hC : TC h x b d A τ) (hA : AI t A) (tr : rok (anf A) (anc A) τ) (hq : csq A τ) (ht : τ 1 + 1 < 10000) (hk : K < 2 ^ 31) : ∃ g, fX6_runRound h x (nI K) = some g ∧ TC g x b d A ((rndR A τ K).getD τ) ∧ Fr x (x + 801) h g ∧ rok (anf A) (anc A) ((rndR A τ K).getD τ) ∧ (rndR A τ K).getD τ 1 ≤ τ 1 + 1 ∧ csq A ((rndR A τ K).getD τ) := by
  obtain ⟨hK, hN, hS⟩ := id hC
  have k1 := hK.1
  have g9 := hK.2.1.g9 k1.1
  have hB := hK.2.2.2.2.1.1
  have n8 := hA.2.1.1.1
  have n1 := hA.2.1.2.1
  have n6 := hA.2.1.2.2.1
  have c12 := tr.1.1
  obtain ⟨d3, s3⟩ := sdm (a := K) (b := 3) (by omega) (by omega) (by omega)
  obtain ⟨d4, -⟩ := sdm (a := K) (b := 4) (by omega) (by omega) (by omega)
  obtain ⟨d6, -⟩ := sdm (a := K) (b := 64) (by omega) (by omega) (by omega)
  obtain ⟨d5, s5⟩ := sdm (a := K / 64) (b := 500) (by omega) (by omega) (by omega)
  obtain ⟨df, sf⟩ := sdm (a := K / 4) (b := anf A) (by omega) (by omega) (by omega)
  have mx : (if (1 : Int32) < nI (anf A) then nI (anf A) else 1) = nI (anf A) := by
    by_cases z : anf A = 1
    · rw [z]; rfl
    · rw [if_pos (show (1 : Int32) < nI (anf A) from (nI_ltI (a := 1) (by omega) (by omega)).mpr (by omega))]
  have done : ∀ (r : Option (Int32 × zH)) (o : Option zN'), TcR h x b d A τ r o → rndR A τ K = o → (∀ w g, r = some (w, g) → fX6_runRound h x (nI K) = some g) → ∃ g, fX6_runRound h x (nI K) = some g ∧ TC g x b d A ((rndR A τ K).getD τ) ∧ Fr x (x + 801) h g ∧ rok (anf A) (anc A) ((rndR A τ K).getD τ) ∧ (rndR A τ K).getD τ 1 ≤ τ 1 + 1 ∧ csq A ((rndR A τ K).getD τ) := fun r o ⟨t1, t2⟩ er st => by
    rw [er]
    cases o with
    | none =>
      obtain ⟨g1, p1, p2, p3⟩ := t1 rfl
      exact ⟨g1, st _ _ p1, p2, p3, tr, by show τ 1 ≤ _; omega, hq⟩
    | some τ' =>
      obtain ⟨g1, p1, p2, p3, p4, p5, p6⟩ := t2 τ' rfl
      exact ⟨g1, st _ _ p1, p2, p3, p4, p5, p6⟩
  by_cases c3 : K % 3 = 0
  · refine done _ _ (t_copy hC hA tr hq ht (nI (K / 4 % anf A)) (nI (1 + K / 64 % 500))) (by unfold rndR; rw [if_pos (Or.inl c3)]) (fun w g p1 => ?_)
    rw [c3] at s3
    unfold fX6_runRound
    simp only [g9, hB.gnf, Option.bind_some, mx]
    simp (disch := first | assumption | (simp only [sI_kd, sP_kd, rw_kd, sI_ln, sP_ln, rw_ln] <;> first | assumption | omega) | omega) only [nl, nI_add, pk_mul, Option.bind_some, zb2_some, nI_le_t, nI_le_f, nI_lt_t, nI_lt_f, nI_eq_t, nI_eq_f, nI_m1, nI_em1, ↓reduceIte, Nat.add_zero, k1.1, d3, s3, d4, df, sf, d6, d5, s5, p1]
  · by_cases c0 : τ 0 = 0
    · refine done _ _ (t_copy hC hA tr hq ht (nI (K / 4 % anf A)) (nI (1 + K / 64 % 500))) (by unfold rndR; rw [if_pos (Or.inr (Or.inl c0))]) (fun w g p1 => ?_)
      have cn := hS.cn
      rw [c0] at cn
      unfold fX6_runRound
      simp only [g9, hB.gnf, Option.bind_some, mx]
      simp (disch := first | assumption | (simp only [sI_kd, sP_kd, rw_kd, sI_ln, sP_ln, rw_ln] <;> first | assumption | omega) | omega) only [nl, nI_add, pk_mul, Option.bind_some, zb2_some, nI_le_t, nI_le_f, nI_lt_t, nI_lt_f, nI_eq_t, nI_eq_f, nI_m1, nI_em1, ↓reduceIte, Nat.add_zero, k1.1, d3, s3, k1.g5, cn, d4, df, sf, d6, d5, s5, p1]
    · by_cases cp : anp A = 0
      · refine done _ _ (t_copy hC hA tr hq ht (nI (K / 4 % anf A)) (nI (1 + K / 64 % 500))) (by unfold rndR; rw [if_pos (Or.inr (Or.inr cp))]) (fun w g p1 => ?_)
        have gp := hB.gnp
        rw [cp] at gp
        unfold fX6_runRound
        simp only [g9, gp, hB.gnf, Option.bind_some, mx]
        simp (disch := first | assumption | (simp only [sI_kd, sP_kd, rw_kd, sI_ln, sP_ln, rw_ln] <;> first | assumption | omega) | omega) only [nl, nI_add, pk_mul, Option.bind_some, zb2_some, nI_le_t, nI_le_f, nI_lt_t, nI_lt_f, nI_eq_t, nI_eq_f, nI_m1, nI_em1, ↓reduceIte, Nat.add_zero, k1.1, d3, s3, k1.g5, hS.cn, d4, df, sf, d6, d5, s5, p1]
      · obtain ⟨de, se⟩ := sdm (a := K / 4) (b := τ 0) (by omega) (by omega) (by omega)
        obtain ⟨dp, sp⟩ := sdm (a := K / 64) (b := anp A) (by omega) (by omega) (by omega)
        refine done _ _ (t_paste hC hA tr hq ht (nI (K / 4 % τ 0)) (nI (K / 64 % anp A))) (by unfold rndR; rw [if_neg (by omega)]) (fun w g p1 => ?_)
        unfold fX6_runRound
        simp (disch := first | assumption | (simp only [sI_kd, sP_kd, rw_kd, sI_ln, sP_ln, rw_ln] <;> first | assumption | omega) | omega) only [nl, nI_add, pk_mul, Option.bind_some, zb2_some, nI_le_t, nI_le_f, nI_lt_t, nI_lt_f, nI_eq_t, nI_eq_f, nI_m1, nI_em1, ↓reduceIte, Nat.add_zero, k1.1, d3, s3, k1.g5, hS.cn, g9, hB.gnp, d4, de, se, d6, dp, sp, p1]
theorem k_sim_end {n fu : Nat} {h : zH} {s y : Int64} {k : zH → Int64 → Int32 → Option ((Int32 ⊕ String) × zH)} : fX6_simulate_L39 k x s (nI n) (fu + 1) h y (nI n) = k h y (nI n) := by
  rw [fX6_simulate_L39]
  exact if_pos (Int32.le_refl _)
theorem k_sim_st {n fu i : Nat} {h g : zH} {s y : Int64} {k : zH → Int64 → Int32 → Option ((Int32 ⊕ String) × zH)} (hi : i < n) (hn : n ≤ 50) (e : fX6_runRound h x (nI (simK y)) = some g) : fX6_simulate_L39 k x s (nI n) (fu + 1) h y (nI i) = fX6_simulate_L39 k x s (nI n) fu g (simX y) (nI (i + 1)) := by
  have sk := simK_eq y
  have sx : y * 6364136223846793005 + 1442695040888963407 = simX y := rfl
  rw [fX6_simulate_L39]
  simp only [sx, sk]
  simp (disch := first | assumption | (simp only [sI_kd, sP_kd, rw_kd, sI_ln, sP_ln, rw_ln] <;> first | assumption | omega) | omega) only [nl, nI_add, pk_mul, Option.bind_some, zb2_some, nI_le_t, nI_le_f, nI_lt_t, nI_lt_f, nI_eq_t, nI_eq_f, nI_m1, nI_em1, ↓reduceIte, Nat.add_zero, e]
theorem k_sim_L {n : Nat} {s : Int64} {k : zH → Int64 → Int32 → Option ((Int32 ⊕ String) × zH)} (hA : AI t A) (hn : n ≤ 50) : ∀ d' i fu (h : zH) (y : Int64) (τ : zN'), i + d' = n → d' < fu → TC h x b d A τ → rok (anf A) (anc A) τ → csq A τ → τ 1 + d' < 9990 → ∃ g z, fX6_simulate_L39 k x s (nI n) fu h y (nI i) = k g z (nI n) ∧ TC g x b d A (simR A d' y τ) ∧ Fr x (x + 801) h g ∧ rok (anf A) (anc A) (simR A d' y τ) := by
  intro d'
  induction d' with
  | zero =>
    intro i fu h y τ hi hf hC tr hq ht
    obtain ⟨fu, rfl⟩ := fuel1 hf
    have e : i = n := by omega
    have z0 : simR A 0 y τ = τ := simR_z
    rw [z0]
    refine ⟨h, y, ?_, hC, Fr.rf, tr⟩
    rw [e]
    exact k_sim_end
  | succ d' ih =>
    intro i fu h y τ hi hf hC tr hq ht
    obtain ⟨fu, rfl⟩ := fuel1 hf
    obtain ⟨g, p1, p2, p3, p4, p5, p6⟩ := t_rnd (K := simK y) hC hA tr hq (by omega) (simK_lt y)
    obtain ⟨g2, z, l1, l2, l3, l4⟩ := ih (i + 1) fu g (simX y) (rndG A y τ) (by omega) (by omega) p2 p4 p6 (by
      have : rndG A y τ 1 ≤ τ 1 + 1 := p5
      omega)
    have sv : simR A (d' + 1) y τ = simR A d' (simX y) (rndG A y τ) := simR_s
    rw [sv]
    exact ⟨g2, z, (k_sim_st (by omega) hn p1).trans l1, l2, p3.tr l3, l4⟩
theorem k_sim {h : zH} (hC : CI h x A) (hA : AI t A) (ht : t < 9000) (s : Int64) (u : Int32) : CO h x (fX6_simulate h x s u) (simS A s u) [xA] := by
  obtain ⟨b, d, hK, hN⟩ := id hC
  have k1 := hK.1
  unfold simS
  by_cases c2 : 1 ≤ u ∧ u ≤ 50
  · rw [if_neg (fun z => z c2)]
    have sz : newSz u := ⟨c2.1, Int32.le_trans c2.2 (by decide)⟩
    obtain ⟨n, n1, n2, n3, n4⟩ := in_sz sz
    have n3' : n ≤ 50 := by
      have := c2.2
      rw [n3] at this
      exact (nI_leI (b := 50) (by omega) (by omega)).mp this
    rw [n4]
    have l1 : ¬ u < 1 := Int32.not_lt.mpr c2.1
    subst n3
    obtain ⟨h9, p1, p2, p3, p4, p5⟩ := c_trial hK hN hA
    have tt : atg A 1 = aρ A 1 := ntg_h (by omega)
    have tl := hA.2.2.1.2
    obtain ⟨g, y, q1, q2, q3, q4⟩ := k_sim_L (s := s) (k := fun h6 y7 y8 => (zgP h6 6 x 5).bind fun w9 => (zgI h6 3 w9 4).bind fun w10 => (zgP h6 6 x 5).bind fun w11 => zb2 (fX3_usedSize h6 (w11)) fun w12 h13 => some (Sum.inl ((w10 : Int32) + w12), h13)) hA n3' n 0 zF h9 s (atg A) (by omega) (by unfold zF; omega) p2 p4 p5 (by omega)
    have g5 := q2.1.1.g5
    rw [g5, Option.bind_some, q2.2.2.tc, Option.bind_some, Option.bind_some, c_used q2.2.2 q4.1.1, zb2_some, nI_add] at q1
    refine CO_ok ?_ ⟨b, d, q2.1, q2.2.1⟩ (p3.tr q3)
    unfold fX6_simulate
    rw [if_pos k1.1, if_neg l1, if_pos c2.2, k1.g5, Option.bind_some, k1.g4, Option.bind_some, p1, Option.bind_some]
    exact q1
  · rw [if_pos c2]
    refine CO_no hA (by omega) (by decide) hC ?_
    unfold fX6_simulate
    rw [if_pos k1.1]
    by_cases c4 : u < 1
    · rw [if_pos c4]; rfl
    · rw [if_neg c4, if_neg (fun z => c2 ⟨Int32.not_lt.mp c4, z⟩)]
      rfl
end CSCR
