/-! pure: the component fills a board -/
def CBr (h : zH) (d nf : Nat) (B : zBd) : Prop := BSh h d ∧ zI h d 8 = nI nf ∧ zI h d 9 = nI (bnc B) ∧ zI h d 10 = nI (bnp B) ∧ (∀ c, c < bnc B → zI h (d + 1) c = nI (bfr B c) ∧ zI h (d + 2) c = nI (btt B c) ∧ zI h (d + 3) c = nI (bco B c) ∧ zI h (d + 4) c = nI (bgr B c) ∧ zI h (d + 5) c = nI (blo B c)) ∧ (∀ p, p < bnp B → zI h (d + 6) p = nI (bac B p) ∧ zI h (d + 7) p = nI (bli B p)) ∧ ∀ a b, a < 8 → b < 8 → zI h (d + 8) (8 * a + b) = nI (if lk B a b = true then 1 else 0)
def CTF (x d : Nat) (h h' : zH) : Prop := zkd h' = zkd h ∧ zln h' = zln h ∧ zJ h' = zJ h ∧ zP h' = zP h ∧ (∀ a, a ≠ x → (a < d ∨ d + 9 ≤ a) → zI h' a = zI h a) ∧ ∀ k, k ≠ 2 → zI h' x k = zI h x k
section CBOARD
variable {h h' g : zH} {x d n s nf : Nat} {T : zN'} {B : zBd}
theorem CTF.rf : CTF x d h h := ⟨rfl, rfl, rfl, rfl, fun _ _ _ => rfl, fun _ _ => rfl⟩
theorem CTF.tr (f : CTF x d h h') (q : CTF x d h' g) : CTF x d h g := ⟨q.1.trans f.1, q.2.1.trans f.2.1, q.2.2.1.trans f.2.2.1, q.2.2.2.1.trans f.2.2.2.1, fun a h1 h2 => (q.2.2.2.2.1 a h1 h2).trans (f.2.2.2.2.1 a h1 h2), fun k h1 => (q.2.2.2.2.2 k h1).trans (f.2.2.2.2.2 k h1)⟩
theorem CTF.sx {v : Int32} : CTF x d h (zsI h x 2 v) := ⟨rfl, rfl, rfl, rfl, fun a h1 _ => sI_a h1, fun j h1 => sI_k h1⟩
theorem CTF.sb {a k : Nat} {v : Int32} (hd : x < d ∨ d + 9 ≤ x) (h1 : d ≤ a) (h2 : a < d + 9) : CTF x d h (zsI h a k v) := ⟨rfl, rfl, rfl, rfl, fun b g1 g2 => sI_a (by omega), fun j _ => by rw [sI_a (by omega)]⟩
theorem CX.f {p : Nat} (hX : CX h x T n s) (f : CTF x d h h') (hd : x + 1 < d ∨ d + 9 ≤ x) (e : zI h' x 2 = nI p) : CX h' x T n p := by
  obtain ⟨⟨k1, p1, k2, l2⟩, x1, x2, xt⟩ := hX
  refine ⟨?_, by rw [f.2.2.2.2.2 1 (by omega)]; exact x1, e, fun i hi => by rw [f.2.2.2.2.1 (x + 1) (by omega) (by omega)]; exact xt i hi⟩
  unfold CSh
  rw [f.1, f.2.1, f.2.2.2.1]
  exact ⟨k1, p1, k2, l2⟩
theorem BSh.w {a k : Nat} {v : Int32} (hs : BSh h d) : BSh (zsI h a k v) d := hs
theorem CBr_x {v : Int32} (hd : x < d ∨ d + 9 ≤ x) (hB : CBr h d nf B) : CBr (zsI h x 2 v) d nf B := by
  obtain ⟨b0, b1, b2, b3, b4, b5, b6⟩ := hB
  unfold CBr
  rw [sI_a (by omega), sI_a (by omega), sI_a (by omega), sI_a (by omega), sI_a (by omega), sI_a (by omega), sI_a (by omega), sI_a (by omega), sI_a (by omega)]
  exact ⟨b0.w, b1, b2, b3, b4, b5, b6⟩
theorem k_can (hB : CBr h d nf B) (hk : bkk nf B) (h1 : 1 ≤ nf) : fX0_canAddConversion h d = some (if bnc B < 20 ∧ bnc B < nf * (nf - 1) then nI 1 else nI 0, h) := by
  have n8 := hk.1.1
  have n20 := hk.1.2.1
  obtain ⟨b0, b1, b2, b3, -⟩ := hB
  have k0 := b0.1
  have m : nf * (nf - 1) ≤ 8 * 7 := Nat.mul_le_mul n8 (by omega)
  have g8 : zgI h 0 d 8 = some (nI nf) := by rw [gI_ k0, b1]
  have g9 : zgI h 0 d 9 = some (nI (bnc B)) := by rw [gI_ k0, b2]
  unfold fX0_canAddConversion
  by_cases c1 : bnc B < 20
  · by_cases c2 : bnc B < nf * (nf - 1)
    · have cc : bnc B < 20 ∧ bnc B < nf * (nf - 1) := ⟨c1, c2⟩
      rw [if_pos cc]
      simp (disch := first | assumption | (simp only [sI_kd, sP_kd, rw_kd, sI_ln, sP_ln, rw_ln] <;> first | assumption | omega) | omega) only [nl, nI_add, pk_mul, Option.bind_some, zb2_some, nI_le_t, nI_le_f, nI_lt_t, nI_lt_f, nI_eq_t, nI_eq_f, nI_m1, nI_em1, ↓reduceIte, Nat.add_zero, k0, g8, g9, pk_sub]
    · have cc : ¬ (bnc B < 20 ∧ bnc B < nf * (nf - 1)) := fun z => c2 z.2
      rw [if_neg cc]
      simp (disch := first | assumption | (simp only [sI_kd, sP_kd, rw_kd, sI_ln, sP_ln, rw_ln] <;> first | assumption | omega) | omega) only [nl, nI_add, pk_mul, Option.bind_some, zb2_some, nI_le_t, nI_le_f, nI_lt_t, nI_lt_f, nI_eq_t, nI_eq_f, nI_m1, nI_em1, ↓reduceIte, Nat.add_zero, k0, g8, g9, pk_sub]
  · have cc : ¬ (bnc B < 20 ∧ bnc B < nf * (nf - 1)) := fun z => c1 z.1
    rw [if_neg cc]
    simp (disch := first | assumption | (simp only [sI_kd, sP_kd, rw_kd, sI_ln, sP_ln, rw_ln] <;> first | assumption | omega) | omega) only [nl, nI_add, pk_mul, Option.bind_some, zb2_some, nI_le_t, nI_le_f, nI_lt_t, nI_lt_f, nI_eq_t, nI_eq_f, nI_m1, nI_em1, ↓reduceIte, Nat.add_zero, k0, g9]
theorem k_hasF {f : Nat} (hk0 : zkd h d = 1) (h8 : zI h d 8 = nI nf) (hf : f < 2 ^ 30) (hn : nf ≤ 8) : fX0_hasFormat h d (nI f) = some (if f < nf then nI 1 else nI 0, h) := by
  have g8 : zgI h 0 d 8 = some (nI nf) := by rw [gI_ hk0, h8]
  unfold fX0_hasFormat
  by_cases c : f < nf
  · rw [if_pos c]
    simp (disch := first | assumption | (simp only [sI_kd, sP_kd, rw_kd, sI_ln, sP_ln, rw_ln] <;> first | assumption | omega) | omega) only [nl, nI_add, pk_mul, Option.bind_some, zb2_some, nI_le_t, nI_le_f, nI_lt_t, nI_lt_f, nI_eq_t, nI_eq_f, nI_m1, nI_em1, ↓reduceIte, Nat.add_zero, hk0, g8]
  · rw [if_neg c]
    simp (disch := first | assumption | (simp only [sI_kd, sP_kd, rw_kd, sI_ln, sP_ln, rw_ln] <;> first | assumption | omega) | omega) only [nl, nI_add, pk_mul, Option.bind_some, zb2_some, nI_le_t, nI_le_f, nI_lt_t, nI_lt_f, nI_eq_t, nI_eq_f, nI_m1, nI_em1, ↓reduceIte, Nat.add_zero, hk0, g8]
theorem m1_lt0 : (nI 4294967295 < nI 0) = True := eq_true (by decide)
theorem k_hasFn (hk0 : zkd h d = 1) : fX0_hasFormat h d (nI 4294967295) = some (nI 0, h) := by
  unfold fX0_hasFormat
  simp (disch := first | assumption | (simp only [sI_kd, sP_kd, rw_kd, sI_ln, sP_ln, rw_ln] <;> first | assumption | omega) | omega) only [nl, nI_add, pk_mul, Option.bind_some, zb2_some, nI_le_t, nI_le_f, nI_lt_t, nI_lt_f, nI_eq_t, nI_eq_f, nI_m1, nI_em1, ↓reduceIte, Nat.add_zero, hk0, m1_lt0]
theorem k_link {a b : Nat} (hB : CBr h d nf B) (hn : nf ≤ 8) (ha : a < 2 ^ 30) (hb : b < 2 ^ 30) : fX0_canLink h d (nI a) (nI b) = some (if a < nf ∧ b < nf ∧ a ≠ b ∧ lk B a b = false then nI 1 else nI 0, h) := by
  obtain ⟨b0, b1, b2, b3, b4, b5, b6⟩ := hB
  have k0 := b0.1
  have fa := k_hasF (f := a) k0 b1 ha hn
  have fb := k_hasF (f := b) k0 b1 hb hn
  unfold fX0_canLink
  by_cases c1 : a < nf
  · rw [if_pos c1] at fa
    by_cases c2 : b < nf
    · rw [if_pos c2] at fb
      by_cases c3 : a = b
      · have cc : ¬ (a < nf ∧ b < nf ∧ a ≠ b ∧ lk B a b = false) := fun z => z.2.2.1 c3
        rw [if_neg cc]
        simp (disch := first | assumption | (simp only [sI_kd, sP_kd, rw_kd, sI_ln, sP_ln, rw_ln] <;> first | assumption | omega) | omega) only [nl, nI_add, pk_mul, Option.bind_some, zb2_some, nI_le_t, nI_le_f, nI_lt_t, nI_lt_f, nI_eq_t, nI_eq_f, nI_m1, nI_em1, ↓reduceIte, Nat.add_zero, k0, fa, fb, c3]
      · have rd : zaZ h (d + 8) (nI (8 * a + b)) = some (nI (if lk B a b = true then 1 else 0)) := by rw [aZ_ b0.2.2.2.2.2.2.1 (by rw [b0.2.2.2.2.2.2.2]; omega) (by rw [b0.2.2.2.2.2.2.2]; omega), b6 a b (by omega) (by omega)]
        have mc := Nat.mul_comm a 8
        cases q : lk B a b with
        | false =>
          have cc : a < nf ∧ b < nf ∧ a ≠ b ∧ false = false := ⟨c1, c2, c3, rfl⟩
          rw [if_pos cc]
          rw [q, if_neg (by decide)] at rd
          simp (disch := first | assumption | (simp only [sI_kd, sP_kd, rw_kd, sI_ln, sP_ln, rw_ln] <;> first | assumption | omega) | omega) only [nl, nI_add, pk_mul, Option.bind_some, zb2_some, nI_le_t, nI_le_f, nI_lt_t, nI_lt_f, nI_eq_t, nI_eq_f, nI_m1, nI_em1, ↓reduceIte, Nat.add_zero, k0, fa, fb, b0.p7, mc, rd]
        | true =>
          have cc : ¬ (a < nf ∧ b < nf ∧ a ≠ b ∧ true = false) := fun z => by cases z.2.2.2
          rw [if_neg cc]
          rw [q, if_pos rfl] at rd
          simp (disch := first | assumption | (simp only [sI_kd, sP_kd, rw_kd, sI_ln, sP_ln, rw_ln] <;> first | assumption | omega) | omega) only [nl, nI_add, pk_mul, Option.bind_some, zb2_some, nI_le_t, nI_le_f, nI_lt_t, nI_lt_f, nI_eq_t, nI_eq_f, nI_m1, nI_em1, ↓reduceIte, Nat.add_zero, k0, fa, fb, b0.p7, mc, rd]
    · rw [if_neg c2] at fb
      have cc : ¬ (a < nf ∧ b < nf ∧ a ≠ b ∧ lk B a b = false) := fun z => c2 z.2.1
      rw [if_neg cc]
      simp (disch := first | assumption | (simp only [sI_kd, sP_kd, rw_kd, sI_ln, sP_ln, rw_ln] <;> first | assumption | omega) | omega) only [nl, nI_add, pk_mul, Option.bind_some, zb2_some, nI_le_t, nI_le_f, nI_lt_t, nI_lt_f, nI_eq_t, nI_eq_f, nI_m1, nI_em1, ↓reduceIte, Nat.add_zero, k0, fa, fb]
  · rw [if_neg c1] at fa
    have cc : ¬ (a < nf ∧ b < nf ∧ a ≠ b ∧ lk B a b = false) := fun z => c1 z.1
    rw [if_neg cc]
    simp (disch := first | assumption | (simp only [sI_kd, sP_kd, rw_kd, sI_ln, sP_ln, rw_ln] <;> first | assumption | omega) | omega) only [nl, nI_add, pk_mul, Option.bind_some, zb2_some, nI_le_t, nI_le_f, nI_lt_t, nI_lt_f, nI_eq_t, nI_eq_f, nI_m1, nI_em1, ↓reduceIte, Nat.add_zero, k0, fa]
theorem k_linkA {b : Int32} (hB : CBr h d nf B) : fX0_canLink h d (nI 4294967295) b = some (nI 0, h) := by
  have k0 := hB.1.1
  unfold fX0_canLink
  simp (disch := first | assumption | (simp only [sI_kd, sP_kd, rw_kd, sI_ln, sP_ln, rw_ln] <;> first | assumption | omega) | omega) only [nl, nI_add, pk_mul, Option.bind_some, zb2_some, nI_le_t, nI_le_f, nI_lt_t, nI_lt_f, nI_eq_t, nI_eq_f, nI_m1, nI_em1, ↓reduceIte, Nat.add_zero, k0, k_hasFn k0]
theorem k_linkB {a : Nat} (hB : CBr h d nf B) (hn : nf ≤ 8) (ha : a < 2 ^ 30) : fX0_canLink h d (nI a) (nI 4294967295) = some (nI 0, h) := by
  have k0 := hB.1.1
  have fa := k_hasF (f := a) k0 hB.2.1 ha hn
  unfold fX0_canLink
  by_cases c : a < nf
  · rw [if_pos c] at fa
    simp (disch := first | assumption | (simp only [sI_kd, sP_kd, rw_kd, sI_ln, sP_ln, rw_ln] <;> first | assumption | omega) | omega) only [nl, nI_add, pk_mul, Option.bind_some, zb2_some, nI_le_t, nI_le_f, nI_lt_t, nI_lt_f, nI_eq_t, nI_eq_f, nI_m1, nI_em1, ↓reduceIte, Nat.add_zero, k0, fa, k_hasFn k0]
  · rw [if_neg c] at fa
    simp (disch := first | assumption | (simp only [sI_kd, sP_kd, rw_kd, sI_ln, sP_ln, rw_ln] <;> first | assumption | omega) | omega) only [nl, nI_add, pk_mul, Option.bind_some, zb2_some, nI_le_t, nI_le_f, nI_lt_t, nI_lt_f, nI_eq_t, nI_eq_f, nI_m1, nI_em1, ↓reduceIte, Nat.add_zero, k0, fa]
theorem k_from {a : Nat} (hB : CBr h d nf B) (hn : nf ≤ 8) (ha : a < 2 ^ 30) : fX0_canAddConversionFrom h d (nI a) = some (if a < nf ∧ frm B a nf = true then nI 1 else nI 0, h) := by
  have k0 := hB.1.1
  have g8 : zgI h 0 d 8 = some (nI nf) := by rw [gI_ k0, hB.2.1]
  have key : ∀ c b fu, b + c = nf → c < fu → (∀ j, j < b → ¬ (a < nf ∧ j ≠ a ∧ lk B a j = false)) → fX0_canAddConversionFrom_L2 (fun h1 y2 => some (0, h1)) d (nI a) fu h (nI b) = some (if a < nf ∧ frm B a nf = true then nI 1 else nI 0, h) := by
    intro c
    induction c with
    | zero =>
      intro b fu hb hf hj
      obtain ⟨fu, rfl⟩ := fuel1 hf
      have e : b = nf := by omega
      subst e
      have cc : ¬ (a < b ∧ frm B a b = true) := fun z => by
        obtain ⟨j, j1, j2, j3⟩ := frm_iff.mp z.2
        exact hj j j1 ⟨z.1, j2, j3⟩
      rw [if_neg cc, fX0_canAddConversionFrom_L2]
      simp (disch := first | assumption | (simp only [sI_kd, sP_kd, rw_kd, sI_ln, sP_ln, rw_ln] <;> first | assumption | omega) | omega) only [nl, nI_add, pk_mul, Option.bind_some, zb2_some, nI_le_t, nI_le_f, nI_lt_t, nI_lt_f, nI_eq_t, nI_eq_f, nI_m1, nI_em1, ↓reduceIte, Nat.add_zero, g8]
    | succ c ih =>
      intro b fu hb hf hj
      obtain ⟨fu, rfl⟩ := fuel1 hf
      have L := k_link (a := a) (b := b) hB hn ha (by omega)
      rw [fX0_canAddConversionFrom_L2]
      by_cases q : a < nf ∧ b < nf ∧ a ≠ b ∧ lk B a b = false
      · rw [if_pos q] at L
        have cc : a < nf ∧ frm B a nf = true := ⟨q.1, frm_iff.mpr ⟨b, q.2.1, fun z => q.2.2.1 z.symm, q.2.2.2⟩⟩
        rw [if_pos cc]
        simp (disch := first | assumption | (simp only [sI_kd, sP_kd, rw_kd, sI_ln, sP_ln, rw_ln] <;> first | assumption | omega) | omega) only [nl, nI_add, pk_mul, Option.bind_some, zb2_some, nI_le_t, nI_le_f, nI_lt_t, nI_lt_f, nI_eq_t, nI_eq_f, nI_m1, nI_em1, ↓reduceIte, Nat.add_zero, g8, L]
      · rw [if_neg q] at L
        simp (disch := first | assumption | (simp only [sI_kd, sP_kd, rw_kd, sI_ln, sP_ln, rw_ln] <;> first | assumption | omega) | omega) only [nl, nI_add, pk_mul, Option.bind_some, zb2_some, nI_le_t, nI_le_f, nI_lt_t, nI_lt_f, nI_eq_t, nI_eq_f, nI_m1, nI_em1, ↓reduceIte, Nat.add_zero, g8, L]
        refine ih (b + 1) fu (by omega) (by omega) (fun j jl z => ?_)
        by_cases e : j = b
        · rw [e] at z
          exact q ⟨z.1, by omega, fun w => z.2.1 w.symm, z.2.2⟩
        · exact hj j (by omega) z
  unfold fX0_canAddConversionFrom
  rw [if_pos k0]
  exact key nf 0 zF (by omega) (by unfold zF; omega) (fun j jl => by omega)
theorem k_fromN (hB : CBr h d nf B) (hn : nf ≤ 8) : fX0_canAddConversionFrom h d (nI 4294967295) = some (nI 0, h) := by
  have k0 := hB.1.1
  have g8 : zgI h 0 d 8 = some (nI nf) := by rw [gI_ k0, hB.2.1]
  have key : ∀ c b fu, b + c = nf → c < fu → fX0_canAddConversionFrom_L2 (fun h1 y2 => some (0, h1)) d (nI 4294967295) fu h (nI b) = some (nI 0, h) := by
    intro c
    induction c with
    | zero =>
      intro b fu hb hf
      obtain ⟨fu, rfl⟩ := fuel1 hf
      have e : b = nf := by omega
      subst e
      rw [fX0_canAddConversionFrom_L2]
      simp (disch := first | assumption | (simp only [sI_kd, sP_kd, rw_kd, sI_ln, sP_ln, rw_ln] <;> first | assumption | omega) | omega) only [nl, nI_add, pk_mul, Option.bind_some, zb2_some, nI_le_t, nI_le_f, nI_lt_t, nI_lt_f, nI_eq_t, nI_eq_f, nI_m1, nI_em1, ↓reduceIte, Nat.add_zero, g8]
    | succ c ih =>
      intro b fu hb hf
      obtain ⟨fu, rfl⟩ := fuel1 hf
      rw [fX0_canAddConversionFrom_L2]
      simp (disch := first | assumption | (simp only [sI_kd, sP_kd, rw_kd, sI_ln, sP_ln, rw_ln] <;> first | assumption | omega) | omega) only [nl, nI_add, pk_mul, Option.bind_some, zb2_some, nI_le_t, nI_le_f, nI_lt_t, nI_lt_f, nI_eq_t, nI_eq_f, nI_m1, nI_em1, ↓reduceIte, Nat.add_zero, g8, k_linkA hB]
      exact ih (b + 1) fu (by omega) (by omega)
  unfold fX0_canAddConversionFrom
  rw [if_pos k0]
  exact key nf 0 zF (by omega) (by unfold zF; omega)
theorem k_canP (hB : CBr h d nf B) (hk : bkk nf B) : fX0_canAddPlace h d = some (if bnp B < 6 then nI 1 else nI 0, h) := by
  have k0 := hB.1.1
  have n6 := hk.2.1
  have g : zgI h 0 d 10 = some (nI (bnp B)) := by rw [gI_ k0, hB.2.2.2.1]
  unfold fX0_canAddPlace
  by_cases c : bnp B < 6
  · rw [if_pos c]
    simp (disch := first | assumption | (simp only [sI_kd, sP_kd, rw_kd, sI_ln, sP_ln, rw_ln] <;> first | assumption | omega) | omega) only [nl, nI_add, pk_mul, Option.bind_some, zb2_some, nI_le_t, nI_le_f, nI_lt_t, nI_lt_f, nI_eq_t, nI_eq_f, nI_m1, nI_em1, ↓reduceIte, Nat.add_zero, k0, g]
  · rw [if_neg c]
    simp (disch := first | assumption | (simp only [sI_kd, sP_kd, rw_kd, sI_ln, sP_ln, rw_ln] <;> first | assumption | omega) | omega) only [nl, nI_add, pk_mul, Option.bind_some, zb2_some, nI_le_t, nI_le_f, nI_lt_t, nI_lt_f, nI_eq_t, nI_eq_f, nI_m1, nI_em1, ↓reduceIte, Nat.add_zero, k0, g]
end CBOARD
