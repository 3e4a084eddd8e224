/-! pure: the component's idle -/
def urw (A : zSt) (a : Nat) : Nat → Nat → Bool
  | 0, _ => false
  | b + 1, c => urw A a b c || decide (c = apf A a b)
def ucv (A : zSt) : Nat → Nat → Bool
  | 0, _ => false
  | a + 1, c => ucv A a c || urw A a (anf A) c
theorem urw_iff {A : zSt} {a c : Nat} : ∀ n, urw A a n c = true ↔ ∃ b, b < n ∧ apf A a b = c := by
  intro n
  induction n with
  | zero => exact ⟨fun h => (by cases h), fun ⟨b, h1, _⟩ => by omega⟩
  | succ n ih =>
    show (urw A a n c || decide (c = apf A a n)) = true ↔ _
    rw [Bool.or_eq_true, decide_eq_true_eq, ih]
    constructor
    · intro h
      rcases h with ⟨b, h1, h2⟩ | h
      · exact ⟨b, by omega, h2⟩
      · exact ⟨n, by omega, h.symm⟩
    · intro ⟨b, h1, h2⟩
      by_cases z : b = n
      · rw [z] at h2; exact Or.inr h2.symm
      · exact Or.inl ⟨b, by omega, h2⟩
theorem ucv_iff {A : zSt} {c : Nat} : ∀ n, ucv A n c = true ↔ ∃ a b, a < n ∧ b < anf A ∧ apf A a b = c := by
  intro n
  induction n with
  | zero => exact ⟨fun h => (by cases h), fun ⟨a, b, h1, _⟩ => by omega⟩
  | succ n ih =>
    show (ucv A n c || urw A n (anf A) c) = true ↔ _
    rw [Bool.or_eq_true, ih, urw_iff]
    constructor
    · intro h
      rcases h with ⟨a, b, h1, h2⟩ | ⟨b, h1, h2⟩
      · exact ⟨a, b, by omega, h2⟩
      · exact ⟨n, b, by omega, h1, h2⟩
    · intro ⟨a, b, h1, h2, h3⟩
      by_cases z : a = n
      · rw [z] at h3; exact Or.inr ⟨b, h2, h3⟩
      · exact Or.inl ⟨a, b, by omega, h2, h3⟩
section CIDLE
variable {h h' : zH} {x b d t : Nat} {A : zSt}
theorem uc_I {a : Nat} {p0 : Nat → Bool} (hK : CK h x b d A) (hN : CN h x A) (hA : AI t A) (ha : a < anf A) (k : zH → Int32 → Int32 → Option (Int32 × zH)) : ∀ d' e n, e + d' = anf A → d' < n → fX2_usedConversions_L15 k (x + 3) b (nI a) n h (nI (bsm (fun c => p0 c || urw A a e c) (anc A))) (nI e) = k h (nI (bsm (fun c => p0 c || urw A a (anf A) c) (anc A))) (nI (anf A)) := by
  have gn := hK.2.2.2.2.1.1.gnf
  have n8 := hA.2.1.1.1
  have n20 := hA.2.1.1.2.1
  have hs := hN.1.1
  intro d'
  induction d' with
  | zero =>
    intro e n hd hn'
    obtain ⟨n, rfl⟩ := fuel1 hn'
    have ee : e = anf A := by omega
    rw [fX2_usedConversions_L15, ee]
    simp (disch := first | assumption | (simp only [sI_kd, sP_kd, rw_kd, sI_ln, sP_ln, rw_ln] <;> first | assumption | omega) | omega) only [nl, nI_add, pk_mul, Option.bind_some, zb2_some, nI_le_t, nI_le_f, nI_lt_t, nI_lt_f, nI_eq_t, nI_eq_f, nI_m1, nI_em1, ↓reduceIte, Nat.add_zero, gn]
  | succ d' ih =>
    intro e n hd hn'
    obtain ⟨n, rfl⟩ := fuel1 hn'
    have goal := ih (e + 1) n (by omega) (by omega)
    have r : zaI h (x + 3 + 2 + 9 * 3 + a) (nI e) = some (nI (apf A a e)) := f_rd3 hN.1 n8 ha (show e < anf A by omega)
    rw [fX2_usedConversions_L15]
    rcases apf_or hA ha (show e < anf A by omega) with z | ⟨z1, z2, z3, z4, z5⟩
    · have bs : bsm (fun c => p0 c || urw A a (e + 1) c) (anc A) = bsm (fun c => p0 c || urw A a e c) (anc A) := bsm_congr fun c hc => by
        show (p0 c || (urw A a e c || decide (c = apf A a e))) = _
        rw [decide_eq_false (by omega), Bool.or_false]
      rw [bs] at goal
      rw [z] at r
      simp (disch := first | assumption | (simp only [sI_kd, sP_kd, rw_kd, sI_ln, sP_ln, rw_ln] <;> first | assumption | omega) | omega) only [nl, nI_add, pk_mul, Option.bind_some, zb2_some, nI_le_t, nI_le_f, nI_lt_t, nI_lt_f, nI_eq_t, nI_eq_f, nI_m1, nI_em1, ↓reduceIte, Nat.add_zero, gn, hs.p, hs.r, r]
      exact goal
    · have sb := shl_bit (apf A a e) (by omega)
      have ob : nI (bsm (fun c => p0 c || urw A a e c) (anc A)) ||| nI (2 ^ apf A a e) = nI (bsm (fun c => p0 c || urw A a (e + 1) c) (anc A)) := by
        rw [nI_or, bsm_or z3]
        congr 1
        refine bsm_congr fun c hc => ?_
        show ((p0 c || urw A a e c) || decide (c = apf A a e)) = (p0 c || (urw A a e c || decide (c = apf A a e)))
        rw [Bool.or_assoc]
      simp (disch := first | assumption | (simp only [sI_kd, sP_kd, rw_kd, sI_ln, sP_ln, rw_ln] <;> first | assumption | omega) | omega) only [nl, nI_add, pk_mul, Option.bind_some, zb2_some, nI_le_t, nI_le_f, nI_lt_t, nI_lt_f, nI_eq_t, nI_eq_f, nI_m1, nI_em1, ↓reduceIte, Nat.add_zero, gn, hs.p, hs.r, r, sb, ob]
      exact goal
theorem uc_O (hK : CK h x b d A) (hN : CN h x A) (hA : AI t A) : ∀ d' a n, a + d' = anf A → d' < n → fX2_usedConversions_L4 (fun h1 y2 y3 => some (y2, h1)) (x + 3) b n h (nI (bsm (ucv A a) (anc A))) (nI a) = some (nI (bsm (ucv A (anf A)) (anc A)), h) := by
  have gn := hK.2.2.2.2.1.1.gnf
  have n8 := hA.2.1.1.1
  intro d'
  induction d' with
  | zero =>
    intro a n hd hn'
    obtain ⟨n, rfl⟩ := fuel1 hn'
    have ee : a = anf A := by omega
    rw [fX2_usedConversions_L4, ee]
    simp (disch := first | assumption | (simp only [sI_kd, sP_kd, rw_kd, sI_ln, sP_ln, rw_ln] <;> first | assumption | omega) | omega) only [nl, nI_add, pk_mul, Option.bind_some, zb2_some, nI_le_t, nI_le_f, nI_lt_t, nI_lt_f, nI_eq_t, nI_eq_f, nI_m1, nI_em1, ↓reduceIte, Nat.add_zero, gn]
  | succ d' ih =>
    intro a n hd hn'
    obtain ⟨n, rfl⟩ := fuel1 hn'
    have goal := ih (a + 1) n (by omega) (by omega)
    have L := uc_I (a := a) (p0 := ucv A a) hK hN hA (by omega) (fun h3 y4 y5 => fX2_usedConversions_L4 (fun h1 y2 y3 => some (y2, h1)) (x + 3) b n h3 y4 (nI (a + 1))) (anf A) 0 zF (by omega) (by unfold zF; omega)
    have e0 : bsm (fun c => ucv A a c || urw A a 0 c) (anc A) = bsm (ucv A a) (anc A) := bsm_congr fun c _ => Bool.or_false _
    have e1 : bsm (fun c => ucv A a c || urw A a (anf A) c) (anc A) = bsm (ucv A (a + 1)) (anc A) := bsm_congr fun c _ => rfl
    rw [e0, e1] at L
    rw [fX2_usedConversions_L4]
    simp (disch := first | assumption | (simp only [sI_kd, sP_kd, rw_kd, sI_ln, sP_ln, rw_ln] <;> first | assumption | omega) | omega) only [nl, nI_add, pk_mul, Option.bind_some, zb2_some, nI_le_t, nI_le_f, nI_lt_t, nI_lt_f, nI_eq_t, nI_eq_f, nI_m1, nI_em1, ↓reduceIte, Nat.add_zero, gn]
    rw [L]
    exact goal
theorem k_idl (hC : CI h x A) (hA : AI t A) : CP h x (fX6_idle h x) (idlS A) := by
  obtain ⟨b, d, hK, hN⟩ := id hC
  have k1 := hK.1
  have g9 := hK.2.1.g9 k1.1
  have hB := hK.2.2.2.2.1.1
  have n20 := hA.2.1.1.2.1
  have n8 := hA.2.1.1.1
  have L := uc_O hK hN hA (anf A) 0 zF (by omega) (by unfold zF; omega)
  have z0 : bsm (ucv A 0) (anc A) = 0 := nsum_zero fun j _ => if_neg (fun q => by cases q)
  rw [z0] at L
  have us : fX2_usedConversions h (x + 3) b = some (nI (bsm (ucv A (anf A)) (anc A)), h) := by
    unfold fX2_usedConversions
    rw [if_pos hN.1.1.1]
    exact L
  have sb := shl_bit (anc A) (by omega)
  have sb2 : nI (2 ^ anc A) - nI 1 = nI (2 ^ anc A - 1) := pk_sub Nat.one_le_two_pow
  have bc := bsm_cmp (p := ucv A (anf A)) (n := anc A) (by omega)
  have bn : bsm (fun c => !ucv A (anf A) c) (anc A) = bsm (idlP A) (anc A) := bsm_congr fun c hc => by
    have i := idl_iff hA hc
    have u := ucv_iff (A := A) (c := c) (anf A)
    cases q : idlP A c with
    | false =>
      rw [u.mpr (i.mp q)]
      rfl
    | true =>
      cases z : ucv A (anf A) c with
      | false => rfl
      | true =>
        have := i.mpr (u.mp z)
        rw [q] at this
        cases this
  rw [bn] at bc
  refine ⟨rfl, h, ?_, hC, Fr.rf⟩
  show fX6_idle h x = some (nI (bsm (idlP A) (anc A)), h)
  unfold fX6_idle
  simp (disch := first | assumption | (simp only [sI_kd, sP_kd, rw_kd, sI_ln, sP_ln, rw_ln] <;> first | assumption | omega) | omega) only [nl, nI_add, pk_mul, Option.bind_some, zb2_some, nI_le_t, nI_le_f, nI_lt_t, nI_lt_f, nI_eq_t, nI_eq_f, nI_m1, nI_em1, ↓reduceIte, Nat.add_zero, k1.1, g9, hB.gnc, k1.g1, us, sb, sb2, bc]
end CIDLE
