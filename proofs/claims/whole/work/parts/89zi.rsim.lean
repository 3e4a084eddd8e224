/-! pure: the reference's simulate -/
def simX (x : Int64) : Int64 := x * 6364136223846793005 + 1442695040888963407
def simK (x : Int64) : Nat := (simX x).toUInt64.toNat / 2 ^ 33
theorem simK_lt (x : Int64) : simK x < 2 ^ 31 := by
  have := (simX x).toUInt64.toNat_lt
  unfold simK
  omega
theorem simK_eq (x : Int64) : ((((simX x).toUInt64 >>> ((33 : Int32).toInt64.toUInt64 &&& Int64.toUInt64 63)).toInt64).toInt32 : Int32) = nI (simK x) := by
  have sh : ((33 : Int32).toInt64.toUInt64 &&& Int64.toUInt64 63) = 33 := by decide
  have l := simK_lt x
  rw [sh, ← lN_i]
  congr 1
  refine Int64.toBitVec_inj.mp (BitVec.eq_of_toNat_eq ?_)
  show ((simX x).toUInt64 >>> 33).toNat = (BitVec.ofNat 64 (simK x)).toNat
  rw [BitVec.toNat_ofNat, Nat.mod_eq_of_lt (by omega), UInt64.toNat_shiftRight]
  show (simX x).toUInt64.toNat >>> 33 = simK x
  rw [Nat.shiftRight_eq_div_pow]
  rfl
def rndR (A : zSt) (τ : zN') (k : Nat) : Option zN' := if k % 3 = 0 ∨ τ 0 = 0 ∨ anp A = 0 then tryR A 1 τ (nI (k / 4 % anf A)) (nI (1 + k / 64 % 500)) else tryR A 3 τ (nI (k / 4 % τ 0)) (nI (k / 64 % anp A))
def simG (X : Int64 → Int64) (R : Int64 → zN' → zN') : Nat → Int64 → zN' → zN'
  | 0, _, τ => τ
  | d + 1, x, τ => simG X R d (X x) (R x τ)
theorem simG_z {X : Int64 → Int64} {R : Int64 → zN' → zN'} {x : Int64} {τ : zN'} : simG X R 0 x τ = τ := rfl
theorem simG_s {X : Int64 → Int64} {R : Int64 → zN' → zN'} {d : Nat} {x : Int64} {τ : zN'} : simG X R (d + 1) x τ = simG X R d (X x) (R x τ) := rfl
def rndG (A : zSt) (x : Int64) (τ : zN') : zN' := (rndR A τ (simK x)).getD τ
def simR (A : zSt) (d : Nat) (x : Int64) (τ : zN') : zN' := simG simX (rndG A) d x τ
theorem simR_z {A : zSt} {x : Int64} {τ : zN'} : simR A 0 x τ = τ := simG_z
theorem simR_s {A : zSt} {d : Nat} {x : Int64} {τ : zN'} : simR A (d + 1) x τ = simR A d (simX x) (rndG A x τ) := simG_s
def simV (A : zSt) (s : Int64) (n : Nat) : Nat := simR A n s (atg A) 2 + nus (simR A n s (atg A)) (simR A n s (atg A) 0)
def simS (A : zSt) (s : Int64) (x : Int32) : zAn := if ¬ (1 ≤ x ∧ x ≤ 50) then (1, 0, A) else (0, nI (simV A s (cl x)), A)
theorem sdm {a b : Nat} (ha : a < 2 ^ 31) (hb : 0 < b) (h2 : b < 2 ^ 31) : nI a / nI b = nI (a / b) ∧ nI a - nI (a / b * b) = nI (a % b) := by
  have d := pk_div ha hb h2
  have r := pk_rem ha hb h2
  rw [d, pk_mul] at r
  exact ⟨d, r⟩
section RSIM
variable {m : Nat} {A : zSt}
theorem r_rnd {h : zH} {τ : zN'} {s x : Int64} {n fu i : Nat} {k : zH → Int64 → Int32 → Option (Int32 × zH)} (hR : RI h m A) (hO : bOK (anf A) (anc A) (anp A) (afr A) (att A) (agr A) (alo A) (aac A) (ali A)) (e16 : zI h (m + 16) = nr τ) (tr : rok (anf A) (anc A) τ) (ht : τ 1 + 1 < 10000) (hi : i < n) (hn : n ≤ 50) : ∃ g, fX7_simulate_L36 k m s (nI n) (fu + 1) h x (nI i) = fX7_simulate_L36 k m s (nI n) fu g (simX x) (nI (i + 1)) ∧ RI g m A ∧ Fr m (m + 24) h g ∧ zI g m 0 = zI h m 0 ∧ zI g (m + 16) = nr (rndG A x τ) ∧ rok (anf A) (anc A) (rndG A x τ) ∧ rndG A x τ 1 ≤ τ 1 + 1 := by
  unfold rndG
  have hT := hR.1
  have n8 := hO.1.1
  have n1 := hO.2.1
  have n6 := hO.2.2.1
  have c12 := tr.1.1
  have kl := simK_lt x
  have sk := simK_eq x
  have sx : x * 6364136223846793005 + 1442695040888963407 = simX x := rfl
  have h4 := hR.2.2.1.1
  have h6 := hR.2.2.1.2.2.1
  have r0 : zaI h (m + 16) (nI 0) = some (nI (τ 0)) := by rw [qa16 hT (by omega), e16]; rfl
  generalize simK x = K at *
  obtain ⟨d3, s3⟩ := sdm (a := K) (b := 3) (by omega) (by omega) (by omega)
  obtain ⟨d4, -⟩ := sdm (a := K) (b := 4) (by omega) (by omega) (by omega)
  obtain ⟨d6, -⟩ := sdm (a := K) (b := 64) (by omega) (by omega) (by omega)
  obtain ⟨d5, s5⟩ := sdm (a := K / 64) (b := 500) (by omega) (by omega) (by omega)
  obtain ⟨df, sf⟩ := sdm (a := K / 4) (b := anf A) (by omega) (by omega) (by omega)
  have done : ∀ kk a b, (kk = 1 ∨ kk = 2 ∨ kk = 3) → rndR A τ K = tryR A kk τ a b → (∀ w g, fX7_tries h m (nI kk) a b = some (w, g) → fX7_simulate_L36 k m s (nI n) (fu + 1) h x (nI i) = fX7_simulate_L36 k m s (nI n) fu g (simX x) (nI (i + 1))) → ∃ g, fX7_simulate_L36 k m s (nI n) (fu + 1) h x (nI i) = fX7_simulate_L36 k m s (nI n) fu g (simX x) (nI (i + 1)) ∧ RI g m A ∧ Fr m (m + 24) h g ∧ zI g m 0 = zI h m 0 ∧ zI g (m + 16) = nr ((rndR A τ K).getD τ) ∧ rok (anf A) (anc A) ((rndR A τ K).getD τ) ∧ (rndR A τ K).getD τ 1 ≤ τ 1 + 1 := fun kk a b hk er st => by
    obtain ⟨t1, t2⟩ := r_tries hR hO e16 tr ht hk a b
    rw [er]
    cases q : tryR A kk τ a b with
    | none =>
      obtain ⟨g1, p1, p2, p3, p4, p5⟩ := t1 q
      exact ⟨g1, st _ _ p1, p2, p3, p4, p5, tr, by show τ 1 ≤ _; omega⟩
    | some τ' =>
      obtain ⟨g1, p1, p2, p3, p4, p5, p6, p7⟩ := t2 τ' q
      exact ⟨g1, st _ _ p1, p2, p3, p4, p5, p6, p7⟩
  by_cases c3 : K % 3 = 0
  · refine done 1 (nI (K / 4 % anf A)) (nI (1 + K / 64 % 500)) (Or.inl rfl) (by unfold rndR; rw [if_pos (Or.inl c3)]) (fun w g p1 => ?_)
    rw [fX7_simulate_L36]
    simp only [sx, sk]
    rw [c3] at s3
    simp (disch := first | assumption | ((repeat apply RefT.s) <;> assumption) | omega) only [nl, nI_add, pk_mul, Option.bind_some, zb2_some, nI_le_t, nI_le_f, nI_lt_t, nI_lt_f, nI_eq_t, nI_eq_f, nI_m1, nI_em1, ↓reduceIte, Nat.add_zero, nI_n9, d3, s3, qI, h4, d4, df, sf, d6, d5, s5, p1]
  · by_cases c0 : τ 0 = 0
    · refine done 1 (nI (K / 4 % anf A)) (nI (1 + K / 64 % 500)) (Or.inl rfl) (by unfold rndR; rw [if_pos (Or.inr (Or.inl c0))]) (fun w g p1 => ?_)
      rw [fX7_simulate_L36]
      simp only [sx, sk]
      rw [c0] at r0
      simp (disch := first | assumption | ((repeat apply RefT.s) <;> assumption) | omega) only [nl, nI_add, pk_mul, Option.bind_some, zb2_some, nI_le_t, nI_le_f, nI_lt_t, nI_lt_f, nI_eq_t, nI_eq_f, nI_m1, nI_em1, ↓reduceIte, Nat.add_zero, nI_n9, d3, s3, qg16, r0, qI, h4, d4, df, sf, d6, d5, s5, p1]
    · by_cases cp : anp A = 0
      · refine done 1 (nI (K / 4 % anf A)) (nI (1 + K / 64 % 500)) (Or.inl rfl) (by unfold rndR; rw [if_pos (Or.inr (Or.inr cp))]) (fun w g p1 => ?_)
        rw [fX7_simulate_L36]
        simp only [sx, sk]
        rw [cp] at h6
        simp (disch := first | assumption | ((repeat apply RefT.s) <;> assumption) | omega) only [nl, nI_add, pk_mul, Option.bind_some, zb2_some, nI_le_t, nI_le_f, nI_lt_t, nI_lt_f, nI_eq_t, nI_eq_f, nI_m1, nI_em1, ↓reduceIte, Nat.add_zero, nI_n9, d3, s3, qg16, r0, qI, h6, h4, d4, df, sf, d6, d5, s5, p1]
      · obtain ⟨de, se⟩ := sdm (a := K / 4) (b := τ 0) (by omega) (by omega) (by omega)
        obtain ⟨dp, sp⟩ := sdm (a := K / 64) (b := anp A) (by omega) (by omega) (by omega)
        refine done 3 (nI (K / 4 % τ 0)) (nI (K / 64 % anp A)) (Or.inr (Or.inr rfl)) (by unfold rndR; rw [if_neg (by omega)]) (fun w g p1 => ?_)
        rw [fX7_simulate_L36]
        simp only [sx, sk]
        simp (disch := first | assumption | ((repeat apply RefT.s) <;> assumption) | omega) only [nl, nI_add, pk_mul, Option.bind_some, zb2_some, nI_le_t, nI_le_f, nI_lt_t, nI_lt_f, nI_eq_t, nI_eq_f, nI_m1, nI_em1, ↓reduceIte, Nat.add_zero, nI_n9, d3, s3, qg16, r0, qI, h6, d4, de, se, d6, dp, sp, p1]
theorem sim_end {n fu : Nat} {h : zH} {s x : Int64} {k : zH → Int64 → Int32 → Option (Int32 × zH)} : fX7_simulate_L36 k m s (nI n) (fu + 1) h x (nI n) = k h x (nI n) := by
  rw [fX7_simulate_L36]
  exact if_pos (Int32.le_refl _)
theorem r_sim_L {n : Nat} {s : Int64} {k : zH → Int64 → Int32 → Option (Int32 × zH)} (hO : bOK (anf A) (anc A) (anp A) (afr A) (att A) (agr A) (alo A) (aac A) (ali A)) (hn : n ≤ 50) : ∀ d i fu (h : zH) (x : Int64) (τ : zN'), i + d = n → d < fu → RI h m A → zI h (m + 16) = nr τ → rok (anf A) (anc A) τ → τ 1 + d < 9990 → ∃ g y, fX7_simulate_L36 k m s (nI n) fu h x (nI i) = k g y (nI n) ∧ RI g m A ∧ Fr m (m + 24) h g ∧ zI g m 0 = zI h m 0 ∧ zI g (m + 16) = nr (simR A d x τ) ∧ rok (anf A) (anc A) (simR A d x τ) := by
  intro d
  induction d with
  | zero =>
    intro i fu h x τ hi hf hR e16 tr ht
    obtain ⟨fu, rfl⟩ := fuel1 hf
    have e : i = n := by omega
    have z0 : simR A 0 x τ = τ := simR_z
    refine ⟨h, x, ?_, hR, Fr.rf, rfl, by rw [z0]; exact e16, by rw [z0]; exact tr⟩
    rw [e]
    exact sim_end
  | succ d ih =>
    intro i fu h x τ hi hf hR e16 tr ht
    obtain ⟨fu, rfl⟩ := fuel1 hf
    obtain ⟨g, p1, p2, p3, p4, p5, p6, p7⟩ := r_rnd (s := s) (x := x) (n := n) (fu := fu) (i := i) (k := k) hR hO e16 tr (by omega) (by omega) hn
    obtain ⟨g2, y, l1, l2, l3, l4, l5, l6⟩ := ih (i + 1) fu g (simX x) _ (by omega) (by omega) p2 p5 p6 (by omega)
    have sv : simR A (d + 1) x τ = simR A d (simX x) (rndG A x τ) := simR_s
    refine ⟨g2, y, p1.trans l1, l2, p3.tr l3, l4.trans p4, ?_, ?_⟩
    · rw [sv]; exact l5
    · rw [sv]; exact l6
theorem r_sim {h : zH} {t : Nat} (hR : RI h m A) (hA : AI t A) (ht : t < 9000) (s : Int64) (x : Int32) : RO h m (fX7_simulate h m s x) (simS A s x) := by
  have hT := hR.1
  obtain ⟨a1, hO, ⟨a3, a3t⟩, a4, a5, a6⟩ := hA
  have n20 := hO.1.2.1
  have pin : fX7_in h x.toInt64 1 50 = some (if 1 ≤ x ∧ x ≤ 50 then 1 else 0, h) := p_in h x 1 50
  have rf1 := r_ref (k := 1) hT (by omega)
  have rf0 := r_ref (k := 0) hT (by omega)
  rw [if_neg (by decide)] at rf1
  rw [if_pos rfl] at rf0
  unfold simS
  by_cases c2 : 1 ≤ x ∧ x ≤ 50
  · rw [if_neg (fun z => z c2)]
    rw [if_pos c2] at pin
    have sz : newSz x := ⟨c2.1, Int32.le_trans c2.2 (by decide)⟩
    obtain ⟨n, n1, n2, n3, n4⟩ := in_sz sz
    have n3' : n ≤ 50 := by
      have := c2.2
      rw [n3] at this
      exact (nI_leI (b := 50) (by omega) (by omega)).mp this
    rw [n4]
    subst n3
    have R0 := RI_0 (v := nI 0) hR
    have tn : fX7_tryNow (zsI h m 0 (nI 0)) m = some (zrow (zsI h m 0 (nI 0)) (m + 16) (nr (atg A))) := r_tryNow R0 a3
    have tr := atg_rok a3 n20
    have R1 := RI_try (τ := atg A) R0 tr.2.1
    have tt : atg A 1 = aρ A 1 := ntg_h (by omega)
    have L := fun k => r_sim_L (k := k) (s := s) hO n3' n 0 zF _ s (atg A) (by omega) (by unfold zF; omega) R1 rw_at tr (by omega)
    obtain ⟨g, y, l1, l2, l3, l4, l5, l6⟩ := L (fun h20 y21 y22 => (zgP h20 7 m 25).bind fun w23 => (zaI h20 w23 (nI 2)).bind fun w24 => (zgP h20 7 m 25).bind fun w25 => zb2 (fX7_used h20 (w25)) fun w26 h27 => some (((w24 : Int32) + w26), h27))
    have hTg := l2.1
    have g2 : zaI g (m + 16) (nI 2) = some (nI (simR A n s (atg A) 2)) := by rw [qa16 hTg (by omega), l5]; rfl
    have us : fX7_used g (m + 16) = some (nI (nus (simR A n s (atg A)) (simR A n s (atg A) 0)), g) := n_used (h := g) (I := zI g) (rk16 hTg) (rl16 hTg) l5 l6.1.1
    rw [qg16 hTg, Option.bind_some, g2, Option.bind_some, Option.bind_some, us, zb2_some, nI_add] at l1
    refine ⟨_, g, ?_, fun _ => rfl, ?_, l2, (fr0.tr fr16).tr l3⟩
    · unfold fX7_simulate
      simp (disch := first | assumption | ((repeat apply RefT.s) <;> assumption) | omega) only [nl, nI_add, pk_mul, Option.bind_some, zb2_some, nI_le_t, nI_le_f, nI_lt_t, nI_lt_f, nI_eq_t, nI_eq_f, nI_m1, nI_em1, ↓reduceIte, Nat.add_zero, nI_n9, hT.1, pin, rf0, tn]
      exact l1
    · rw [l4, rw_a (by omega), sI_at]
  · rw [if_pos c2]
    rw [if_neg c2] at pin
    refine RO_err hR (by omega) ?_
    unfold fX7_simulate
    simp (disch := first | assumption | ((repeat apply RefT.s) <;> assumption) | omega) only [nl, nI_add, pk_mul, Option.bind_some, zb2_some, nI_le_t, nI_le_f, nI_lt_t, nI_lt_f, nI_eq_t, nI_eq_f, nI_m1, nI_em1, ↓reduceIte, Nat.add_zero, nI_n9, hT.1, pin, rf1]
end RSIM
