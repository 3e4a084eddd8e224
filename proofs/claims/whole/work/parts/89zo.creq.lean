/-! pure: the component's answers: what calls share -/
def xI : String := "java/lang/IndexOutOfBoundsException"
def xA : String := "java/lang/IllegalArgumentException"
def xS : String := "java/lang/IllegalStateException"
def exn (l : List String) (k : Nat) : String := l.getD (k - 1) ""
/-- the component answers so -/
def CO (h : zH) (x : Nat) (r : Option ((Int32 ⊕ String) × zH)) (S : zAn) (l : List String) : Prop := S.1 ≤ l.length ∧ ∃ h', r = some (if S.1 = 0 then Sum.inl S.2.1 else Sum.inr (exn l S.1), h') ∧ CI h' x S.2.2 ∧ Fr x (x + 801) h h'
theorem cmt_cg {fr tt co co' : Nat → Nat} {skip : Nat} : ∀ {n : Nat}, (∀ c, c < n → co' c = co c) → cmt fr tt co' skip n = cmt fr tt co skip n := by
  intro n
  induction n with
  | zero => intro _; rfl
  | succ n ih =>
    intro h
    show mup (cmt fr tt co' skip n) (fr n) (tt n) (if n = skip then 0 else co' n) = mup (cmt fr tt co skip n) (fr n) (tt n) (if n = skip then 0 else co n)
    rw [ih (fun c hc => h c (by omega)), h n (by omega)]
section CREQ
variable {h h' : zH} {x b d : Nat} {A : zSt} {l : List String}
theorem CO_ok {A' : zSt} {v : Int32} {r : Option ((Int32 ⊕ String) × zH)} (e : r = some (Sum.inl v, h')) (hC : CI h' x A') (f : Fr x (x + 801) h h') : CO h x r (0, v, A') l := ⟨Nat.zero_le _, h', by rw [e, if_pos rfl], hC, f⟩
theorem CO_no {t k : Nat} {r : Option ((Int32 ⊕ String) × zH)} (hA : AI t A) (hk : k ≠ 0) (hl : k ≤ l.length) (hC : CI h x A) (e : r = some (Sum.inr (exn l k), zoff h)) : CO h x r (k, 0, A) l := ⟨hl, zoff h, by rw [e, if_neg hk], CI_off hA hC, Fr.off⟩
/-- a refusal behind a search -/
theorem CO_no2 {t k : Nat} {r : Option ((Int32 ⊕ String) × zH)} (hA : AI t A) (hk : k ≠ 0) (hl : k ≤ l.length) (hC : CI h' x A) (f : Fr x (x + 801) h h') (e : r = some (Sum.inr (exn l k), zoff h')) : CO h x r (k, 0, A) l := ⟨hl, zoff h', by rw [e, if_neg hk], CI_off hA hC, f.tr Fr.off⟩
theorem c_hasF {v : Int32} (hB : BR h b (anf A) (anc A) (anp A) (afr A) (att A) (agr A) (alo A) (aac A) (ali A)) : fX0_hasFormat h b v = some (if outI v (anf A) then nI 0 else nI 1, h) := by
  unfold fX0_hasFormat
  rw [if_pos hB.1.1]
  by_cases c : v < 0
  · rw [if_pos c, if_pos (Or.inl c)]
    rfl
  · rw [if_neg c, hB.gnf, Option.bind_some]
    by_cases c2 : nI (anf A) ≤ v
    · rw [if_pos c2, if_pos (Or.inr c2)]
      rfl
    · rw [if_neg c2, if_neg (fun z => z.elim c c2)]
      rfl
theorem c_hasP {v : Int32} (hB : BR h b (anf A) (anc A) (anp A) (afr A) (att A) (agr A) (alo A) (aac A) (ali A)) : fX0_hasPlace h b v = some (if outI v (anp A) then nI 0 else nI 1, h) := by
  unfold fX0_hasPlace
  rw [if_pos hB.1.1]
  by_cases c : v < 0
  · rw [if_pos c, if_pos (Or.inl c)]
    rfl
  · rw [if_neg c, hB.gnp, Option.bind_some]
    by_cases c2 : nI (anp A) ≤ v
    · rw [if_pos c2, if_pos (Or.inr c2)]
      rfl
    · rw [if_neg c2, if_neg (fun z => z.elim c c2)]
      rfl
theorem q_F {v : Int32} (hK : CK h x b d A) : (outI v (anf A) → fX6_requireFormat h x v = some (some xI, zoff h)) ∧ (¬ outI v (anf A) → fX6_requireFormat h x v = some (none, h)) := by
  have f := c_hasF (v := v) hK.2.2.2.2.1.1
  constructor
  · intro c
    rw [if_pos c] at f
    unfold fX6_requireFormat
    simp (disch := first | assumption | (simp only [sI_kd, sP_kd, rw_kd, sI_ln, sP_ln, rw_ln] <;> first | assumption | omega) | omega) only [nl, nI_add, pk_mul, Option.bind_some, zb2_some, nI_le_t, nI_le_f, nI_lt_t, nI_lt_f, nI_eq_t, nI_eq_f, nI_m1, nI_em1, ↓reduceIte, Nat.add_zero, hK.1.1, hK.2.1.g9 hK.1.1, f]
    rfl
  · intro c
    rw [if_neg c] at f
    unfold fX6_requireFormat
    simp (disch := first | assumption | (simp only [sI_kd, sP_kd, rw_kd, sI_ln, sP_ln, rw_ln] <;> first | assumption | omega) | omega) only [nl, nI_add, pk_mul, Option.bind_some, zb2_some, nI_le_t, nI_le_f, nI_lt_t, nI_lt_f, nI_eq_t, nI_eq_f, nI_m1, nI_em1, ↓reduceIte, Nat.add_zero, hK.1.1, hK.2.1.g9 hK.1.1, f]
theorem q_P {v : Int32} (hK : CK h x b d A) : (outI v (anp A) → fX6_requirePlace h x v = some (some xI, zoff h)) ∧ (¬ outI v (anp A) → fX6_requirePlace h x v = some (none, h)) := by
  have f := c_hasP (v := v) hK.2.2.2.2.1.1
  constructor
  · intro c
    rw [if_pos c] at f
    unfold fX6_requirePlace
    simp (disch := first | assumption | (simp only [sI_kd, sP_kd, rw_kd, sI_ln, sP_ln, rw_ln] <;> first | assumption | omega) | omega) only [nl, nI_add, pk_mul, Option.bind_some, zb2_some, nI_le_t, nI_le_f, nI_lt_t, nI_lt_f, nI_eq_t, nI_eq_f, nI_m1, nI_em1, ↓reduceIte, Nat.add_zero, hK.1.1, hK.2.1.g9 hK.1.1, f]
    rfl
  · intro c
    rw [if_neg c] at f
    unfold fX6_requirePlace
    simp (disch := first | assumption | (simp only [sI_kd, sP_kd, rw_kd, sI_ln, sP_ln, rw_ln] <;> first | assumption | omega) | omega) only [nl, nI_add, pk_mul, Option.bind_some, zb2_some, nI_le_t, nI_le_f, nI_lt_t, nI_lt_f, nI_eq_t, nI_eq_f, nI_m1, nI_em1, ↓reduceIte, Nat.add_zero, hK.1.1, hK.2.1.g9 hK.1.1, f]
theorem q_E {v : Int32} (hK : CK h x b d A) (hN : CN h x A) : (outI v (aρ A 0) → fX6_requireEntry h x v = some (some xI, zoff h)) ∧ (¬ outI v (aρ A 0) → fX6_requireEntry h x v = some (none, h)) := by
  have f := c_hasX hN.2.2.1 v
  constructor
  · intro c
    rw [if_pos c] at f
    unfold fX6_requireEntry
    simp (disch := first | assumption | (simp only [sI_kd, sP_kd, rw_kd, sI_ln, sP_ln, rw_ln] <;> first | assumption | omega) | omega) only [nl, nI_add, pk_mul, Option.bind_some, zb2_some, nI_le_t, nI_le_f, nI_lt_t, nI_lt_f, nI_eq_t, nI_eq_f, nI_m1, nI_em1, ↓reduceIte, Nat.add_zero, hK.1.1, hK.1.g4, f]
    rfl
  · intro c
    rw [if_neg c] at f
    unfold fX6_requireEntry
    simp (disch := first | assumption | (simp only [sI_kd, sP_kd, rw_kd, sI_ln, sP_ln, rw_ln] <;> first | assumption | omega) | omega) only [nl, nI_add, pk_mul, Option.bind_some, zb2_some, nI_le_t, nI_le_f, nI_lt_t, nI_lt_f, nI_eq_t, nI_eq_f, nI_m1, nI_em1, ↓reduceIte, Nat.add_zero, hK.1.1, hK.1.g4, f]
theorem q_C {v : Int32} (hK : CK h x b d A) : (outI v (anc A) → fX6_requireConversion h x v = some (some xI, zoff h)) ∧ (¬ outI v (anc A) → fX6_requireConversion h x v = some (none, h)) := by
  have g9 := hK.2.1.g9 hK.1.1
  have gn := hK.2.2.2.2.1.1.gnc
  unfold fX6_requireConversion
  rw [if_pos hK.1.1, g9, Option.bind_some, gn, Option.bind_some]
  constructor
  · intro c
    by_cases c1 : v < 0
    · rw [if_pos c1]
      rfl
    · rw [if_neg c1, if_neg (Int32.not_lt.mpr (c.resolve_left c1))]
      rfl
  · intro c
    rw [if_neg (fun z => c (Or.inl z)), if_pos (Int32.not_le.mp (fun z => c (Or.inr z)))]
theorem q_S {v : Int32} : (outI v 2 → fX6_requireSlot h v = some (some xI, zoff h)) ∧ (¬ outI v 2 → fX6_requireSlot h v = some (none, h)) := by
  unfold fX6_requireSlot
  rw [show (2 : Int32) = nI 2 from rfl]
  constructor
  · intro c
    by_cases c1 : v < 0
    · rw [if_pos c1]
      rfl
    · rw [if_neg c1, if_neg (Int32.not_lt.mpr (c.resolve_left c1))]
      rfl
  · intro c
    rw [if_neg (fun z => c (Or.inl z)), if_pos (Int32.not_le.mp (fun z => c (Or.inr z)))]
theorem c_isN {v : Int32} : fX6_isNewSize h v = some (if newSz v then nI 1 else nI 0, h) := by
  unfold fX6_isNewSize
  by_cases c1 : v < 1
  · rw [if_pos c1, if_neg (fun z => Int32.not_le.mpr c1 z.1)]
    rfl
  · rw [if_neg c1]
    by_cases c2 : 9999 < v
    · rw [if_pos c2, if_neg (fun z => Int32.not_le.mpr c2 z.2)]
      rfl
    · rw [if_neg c2, if_pos ⟨Int32.not_lt.mp c1, Int32.not_lt.mp c2⟩]
      rfl
theorem q_N {v : Int32} : (¬ newSz v → fX6_requireNewSize h v = some (some xA, zoff h)) ∧ (newSz v → fX6_requireNewSize h v = some (none, h)) := by
  have f := c_isN (h := h) (v := v)
  constructor
  · intro c
    rw [if_neg c] at f
    unfold fX6_requireNewSize
    simp (disch := first | assumption | (simp only [sI_kd, sP_kd, rw_kd, sI_ln, sP_ln, rw_ln] <;> first | assumption | omega) | omega) only [nl, nI_add, pk_mul, Option.bind_some, zb2_some, nI_le_t, nI_le_f, nI_lt_t, nI_lt_f, nI_eq_t, nI_eq_f, nI_m1, nI_em1, ↓reduceIte, Nat.add_zero, f]
    rfl
  · intro c
    rw [if_pos c] at f
    unfold fX6_requireNewSize
    simp (disch := first | assumption | (simp only [sI_kd, sP_kd, rw_kd, sI_ln, sP_ln, rw_ln] <;> first | assumption | omega) | omega) only [nl, nI_add, pk_mul, Option.bind_some, zb2_some, nI_le_t, nI_le_f, nI_lt_t, nI_lt_f, nI_eq_t, nI_eq_f, nI_m1, nI_em1, ↓reduceIte, Nat.add_zero, f]
/-- tags are not seen -/
theorem SR_tg {q nc k : Nat} {ρ : zN'} (hn : nc ≤ 20) (hS : SR false h q nc ρ) : SR false h q nc (ntg ρ k) := by
  obtain ⟨s1, s2, s3, s4, s5, s6, s7⟩ := hS
  refine ⟨s1, by rw [ntg_h (by omega)]; exact s2, by rw [ntg_h (by omega)]; exact s3, by rw [ntg_h (by omega)]; exact s4, by rw [ntg_h (by omega)]; exact s5, fun c hc => by rw [ntg_h (by omega)]; exact s6 c hc, fun i hi => ?_⟩
  rw [ntg_h (by omega)] at hi
  obtain ⟨e1, e2, e3, e4, e5, e6, e7, e8⟩ := s7 i hi
  have c : ∀ f, f < 27 → ntg ρ k (24 + 28 * i + f) = ρ (24 + 28 * i + f) := fun f hf => ntg_k hf
  have eb : ∀ j, ebs (ntg ρ k) i j = ebs ρ i j := fun j => bsm_congr fun f hf => by rw [Nat.add_assoc (24 + 28 * i), c _ (by omega), ← Nat.add_assoc]
  have es : nsz (ntg ρ k) i = nsz ρ i := nsum_congr fun f hf => c f (by omega)
  refine ⟨by rw [eb]; exact e1, by rw [eb]; exact e2, by rw [es]; exact e3, by rw [c _ (by omega)]; exact e4, by rw [c _ (by omega)]; exact e5, by rw [c _ (by omega)]; exact e6, fun f hf => ?_, fun z => (by cases z)⟩
  rw [Nat.add_assoc (24 + 28 * i) 16, Nat.add_assoc (24 + 28 * i) 8, c _ (by omega), c _ (by omega), c _ (by omega), ← Nat.add_assoc, ← Nat.add_assoc]
  exact e7 f hf
/-- another row in the state, with the same costs -/
theorem CI_put {t : Nat} {ρ' : zN'} (hK : CK h x b d A) (hN : CN h x A) (hA : AI t A) (f : Fr (x + 78) (x + 117) h h') (hS : SR false h' (x + 78) (anc A) ρ') (hc : ∀ c, c < anc A → ρ' (4 + c) = aρ A (4 + c)) : CI h' x (aput A ρ') := by
  obtain ⟨n1, n2, n3, n4⟩ := hN
  have ec : acm0 (aput A ρ') = acm0 A := by
    show cmt (afr A) (att A) (rco ρ') 4294967287 (anc A) = cmt (afr A) (att A) (rco (aρ A)) 4294967287 (anc A)
    exact cmt_cg (fun c hc' => hc c hc')
  have K1 : CK h' x b d A := CK_fr hA f (Or.inl ⟨by omega, by omega⟩) hK
  refine ⟨b, d, K1, ?_, PSh_fr f (by omega) n2, hS, SSh_fr f (by omega) n4⟩
  rw [ec]
  exact PF_fr f (by omega) hA.2.1.1.1 n1
end CREQ
