/-! pure: the reference's victims -/
theorem nI_xor (a b : Nat) : nI a ^^^ nI b = nI (a ^^^ b) := Int32.toBitVec_inj.mp (by
  rw [Int32.toBitVec_xor]
  exact BitVec.ofNat_xor.symm)
theorem bsm_clr {p : Nat → Bool} {n t : Nat} (hn : n < 31) (ht : t < 31) : nI (bsm p n) &&& (nI (2 ^ t) ^^^ nI 4294967295) = nI (bsm (fun i => p i && !decide (i = t)) n) := by
  rw [nI_xor, nI_and]
  congr 1
  refine Nat.eq_of_testBit_eq fun i => ?_
  rw [Nat.testBit_and, Nat.testBit_xor, bsm_tb, bsm_tb, Nat.testBit_two_pow, show 4294967295 = 2 ^ 32 - 1 from rfl, Nat.testBit_two_pow_sub_one]
  by_cases c : i < n
  · rw [decide_eq_true c, decide_eq_true (show i < 32 by omega), Bool.true_and, Bool.true_and]
    by_cases q : i = t
    · subst q
      simp
    · rw [decide_eq_false (fun z => q z.symm), decide_eq_false q]
      simp
  · rw [decide_eq_false c]
    simp
def tbk (k : Nat) (ρ : zN') : Prop := ∀ e, e < ρ 0 → ρ (24 + 28 * e + 27) < k
theorem tbk_drop {k e c : Nat} {ρ : zN'} (hk : tbk k ρ) (hc : c = ρ 0) (he : e < ρ 0) : tbk k (ndrop ρ c e) := fun i hi => by
  subst hc
  rw [ndrop_hd he (by omega), if_pos rfl] at hi
  rw [ndrop_en he hi (by omega)]
  exact hk _ (by split <;> omega)
theorem tbk_mk {k b but : Nat} {et : Bool} : ∀ n (ρ : zN') ok ρ', tbk k ρ → nmk b but et n ρ = some (ok, ρ') → tbk k ρ' := by
  intro n
  induction n with
  | zero => intro ρ ok ρ' _ e; cases e
  | succ n ih =>
    intro ρ ok ρ' hk e
    unfold nmk at e
    by_cases c : nus ρ (ρ 0) + b ≤ ρ 3
    · rw [if_pos c] at e
      cases e
      exact hk
    · rw [if_neg c] at e
      cases hl : nlg ρ but with
      | some w =>
        obtain ⟨e', f'⟩ := w
        rw [hl] at e
        dsimp only at e
        obtain ⟨g1, g2, g3, g4, -⟩ := nlg_some hl
        refine ih _ _ _ (fun i hi => ?_) e
        rw [ndf_at, if_neg (by omega)] at hi
        rw [ndf_at, if_neg (by omega)]
        exact hk i hi
      | none =>
        rw [hl] at e
        dsimp only at e
        cases et with
        | false => rw [if_neg (by decide)] at e; cases e; exact hk
        | true =>
          rw [if_pos rfl] at e
          cases hv : nhv ρ but (ρ 0) with
          | none => rw [hv] at e; cases e; exact hk
          | some e' =>
            rw [hv] at e
            dsimp only at e
            obtain ⟨g1, g2, g3⟩ := nhv_lt hv
            exact ih _ _ _ (tbk_drop hk rfl g1) e
theorem tbk_copy {k f b : Nat} {ρ ρ' : zN'} (hk : tbk k ρ) (hf : f < 8) (h : ncopy ρ f b = some ρ') : ∀ e, 1 ≤ e → e < ρ' 0 → ρ' (24 + 28 * e + 27) < k := by
  have h0 : tbk k (va_up ρ 1 (ρ 1 + 1)) := fun e he => by
    rw [up_b (by omega)] at he
    rw [up_b (by omega)]
    exact hk e he
  have e0 : va_up ρ 1 (ρ 1 + 1) 0 = ρ 0 := rfl
  unfold ncopy at h
  cases h1 : ncp0 (va_up ρ 1 (ρ 1 + 1)) with
  | none => rw [h1] at h; cases h
  | some ρ2 =>
    rw [h1, Option.bind_some] at h
    cases h2 : nroom b 99 true ρ2 with
    | none => rw [h2] at h; cases h
    | some ρ3 =>
      rw [h2] at h
      have h' : ncpf ρ3 f b = ρ' := Option.some.inj h
      have t2 : tbk k ρ2 := by
        unfold ncp0 at h1
        rw [e0] at h1
        by_cases c : ρ 0 = 12
        · rw [if_pos c] at h1
          cases hv : nhv (va_up ρ 1 (ρ 1 + 1)) 99 12 with
          | none => rw [hv] at h1; cases h1
          | some e =>
            rw [hv] at h1
            have h1' : ndrop (va_up ρ 1 (ρ 1 + 1)) 12 e = ρ2 := Option.some.inj h1
            rw [← h1']
            exact tbk_drop h0 (by rw [e0, c]) (by rw [e0, c]; exact (nhv_lt hv).1)
        · rw [if_neg c] at h1
          cases h1
          exact h0
      have t3 : tbk k ρ3 := tbk_mk zF ρ2 true ρ3 t2 (nroom_mk h2)
      intro e he1 he
      rw [← h'] at he ⊢
      rw [ncpf_hd (by omega), if_pos rfl] at he
      rw [ncpf_en hf (by omega), if_neg (by omega), if_pos (by omega)]
      exact t3 _ (by omega)
/-- no entry from 1 below e has the tag i -/
def vfr (ρ : zN') : Nat → Nat → Bool
  | 0, _ => true
  | e + 1, i => vfr ρ e i && (decide (e = 0) || !decide (i = ρ (24 + 28 * e + 27)))
def vicV (A : zSt) (b : Nat) : Nat := match ncopy (atg A) 0 b with
  | none => 4294967287
  | some ρ' => bsm (vfr ρ' (ρ' 0)) (aρ A 0)
def vicS (A : zSt) (y : Int32) : zAn := if ¬ newSz y then (1, 0, A) else (0, nI (vicV A (cl y)), A)
section RVICT
variable {h : zH} {m : Nat} {A : zSt}
theorem r_vct_L {ρ : zN'} {k : Nat} {x : Int32} (hT : RefT h m) (e16 : zI h (m + 16) = nr ρ) (hc : ρ 0 ≤ 12) (hk : k ≤ 12) (ht : ∀ e, 1 ≤ e → e < ρ 0 → ρ (24 + 28 * e + 27) < k) : ∀ d e n, e + d = ρ 0 → 1 ≤ e → d < n → fX7_victimsOf_L36 (fun h8 y9 y10 => some (y9, h8)) m x (nI k) n h (nI (bsm (vfr ρ e) k)) (nI e) = some (nI (bsm (vfr ρ (ρ 0)) k), h) := by
  have r0 : zaI h (m + 16) (nI 0) = some (nI (ρ 0)) := by rw [qa16 hT (by omega), e16]; rfl
  intro d
  induction d with
  | zero =>
    intro e n he h1 hn
    obtain ⟨n, rfl⟩ := fuel1 hn
    have e8 : e = ρ 0 := by omega
    rw [fX7_victimsOf_L36, e8]
    simp (disch := first | assumption | ((repeat apply RefT.s) <;> assumption) | omega) only [nl, nI_add, pk_mul, Option.bind_some, zb2_some, nI_le_t, nI_le_f, nI_lt_t, nI_lt_f, nI_eq_t, nI_eq_f, nI_m1, nI_em1, ↓reduceIte, Nat.add_zero, nI_n9, qg16, r0]
  | succ d ih =>
    intro e n he h1 hn
    obtain ⟨n, rfl⟩ := fuel1 hn
    have rt : zaI h (m + 16) (nI (24 + 28 * e + 27)) = some (nI (ρ (24 + 28 * e + 27))) := by rw [qa16 hT (by omega), e16]; rfl
    have tk := ht e h1 (by omega)
    have sb := shl_bit (ρ (24 + 28 * e + 27)) (by omega)
    have bc := bsm_clr (p := vfr ρ e) (n := k) (t := ρ (24 + 28 * e + 27)) (by omega) (by omega)
    have i1 := ih (e + 1) n (by omega) (by omega) (by omega)
    have ev : bsm (vfr ρ (e + 1)) k = bsm (fun i => vfr ρ e i && !decide (i = ρ (24 + 28 * e + 27))) k := bsm_congr fun i _ => by
      show (vfr ρ e i && (decide (e = 0) || !decide (i = ρ (24 + 28 * e + 27)))) = _
      rw [decide_eq_false (show ¬ e = 0 by omega), Bool.false_or]
    rw [ev, ← bc, ← nI_m1] at i1
    rw [fX7_victimsOf_L36]
    simp (disch := first | assumption | ((repeat apply RefT.s) <;> assumption) | omega) only [nl, nI_add, pk_mul, Option.bind_some, zb2_some, nI_le_t, nI_le_f, nI_lt_t, nI_lt_f, nI_eq_t, nI_eq_f, nI_m1, nI_em1, ↓reduceIte, Nat.add_zero, nI_n9, qg16, r0, p_at, rt, sb]
    exact i1
theorem r_vct {t : Nat} (hR : RI h m A) (hA : AI t A) (ht : t < 9000) (y : Int32) : RO h m (fX7_victims h m y) (vicS A y) := by
  have hT := hR.1
  obtain ⟨a1, hO, ⟨a3, a3t⟩, a4, a5, a6⟩ := hA
  have n8 := hO.1.1
  have n20 := hO.1.2.1
  have n1 := hO.2.1
  have c12 := a3.1.1
  have pin := p_in9999 h y
  have rf1 := r_ref (k := 1) hT (by omega)
  have rf0 := r_ref (k := 0) hT (by omega)
  rw [if_neg (by decide)] at rf1
  rw [if_pos rfl] at rf0
  unfold vicS
  by_cases c2 : newSz y
  · have c2' : ¬ ¬ newSz y := fun z => z c2
    rw [if_neg c2']
    rw [if_pos c2] at pin
    obtain ⟨b, b1, b2, b3, b4⟩ := in_sz c2
    rw [b4]
    have R0 := RI_0 (v := nI 0) hR
    have hT0 := R0.1
    have tn : fX7_tryNow (zsI h m 0 (nI 0)) m = some (zrow (zsI h m 0 (nI 0)) (m + 16) (nr (atg A))) := r_tryNow R0 a3
    have tr := atg_rok a3 n20
    have R1 := RI_try (τ := atg A) R0 tr.2.1
    have hT1 := R1.1
    have e16 : zI (zrow (zsI h m 0 (nI 0)) (m + 16) (nr (atg A))) (m + 16) = nr (atg A) := rw_at
    have tt : atg A 1 = aρ A 1 := ntg_h (by omega)
    have t0 : atg A 0 = aρ A 0 := ntg_h (by omega)
    have m0 : zI (zrow (zsI h m 0 (nI 0)) (m + 16) (nr (atg A))) m 0 = nI 0 := by rw [rw_a (by omega), sI_at]
    have F1 : Fr m (m + 24) h (zrow (zsI h m 0 (nI 0)) (m + 16) (nr (atg A))) := fr0.tr fr16
    generalize zrow (zsI h m 0 (nI 0)) (m + 16) (nr (atg A)) = g at *
    have co := n_copyOnZ (h := g) (I := zI g) (m := m) (a := m + 16) (f := 0) (b := b) hT1.1 R1.2.2.1.1 n8 (rk16 hT1) (rl16 hT1) e16 tr.1 tr.2.1 (by omega) (by omega) b1 b2
    have r0 : zaI g (m + 15) (nI 0) = some (nI (aρ A 0)) := by rw [qa15 hT1 (by omega), R1.2.2.2.1]; rfl
    have vt : ∀ v h2, fX7_victimsOf (zsI h m 0 (nI 0)) m y = some (v, h2) → fX7_victims h m y = some (v, h2) := fun v h2 e => by
      unfold fX7_victims
      simp (disch := first | assumption | ((repeat apply RefT.s) <;> assumption) | omega) only [nl, nI_add, pk_mul, Option.bind_some, zb2_some, nI_le_t, nI_le_f, nI_lt_t, nI_lt_f, nI_eq_t, nI_eq_f, nI_m1, nI_em1, ↓reduceIte, Nat.add_zero, nI_n9, hT.1, pin, rf0, e]
    unfold vicV
    cases hc : ncopy (atg A) 0 b with
    | none =>
      obtain ⟨ρ3, q1, q2⟩ := co.2 hc
      have q1' : fX7_copyOn g m (m + 16) (nI 0) (nI b) = some (nI 3, zrow g (m + 16) (nr ρ3)) := q1
      refine ⟨nI 4294967287, zrow g (m + 16) (nr ρ3), ?_, fun _ => rfl, ?_, RI_try R1 q2, F1.tr fr16⟩
      · refine vt _ _ ?_
        rw [b3]
        unfold fX7_victimsOf
        simp (disch := first | assumption | ((repeat apply RefT.s) <;> assumption) | omega) only [nl, nI_add, pk_mul, Option.bind_some, zb2_some, nI_le_t, nI_le_f, nI_lt_t, nI_lt_f, nI_eq_t, nI_eq_f, nI_m1, nI_em1, ↓reduceIte, Nat.add_zero, nI_n9, hT0.1, tn, qg15, qg16, r0, q1']
      · rw [rw_a (by omega)]; exact m0
    | some ρ' =>
      have q1 : fX7_copyOn g m (m + 16) (nI 0) (nI b) = some (nI 0, zrow g (m + 16) (nr ρ')) := co.1 ρ' hc
      obtain ⟨k1, k2, k3⟩ := rok_copy tr n20 (by omega) (show 0 < anf A by omega) n8 ⟨b1, b2⟩ hc
      have tb : tbk (aρ A 0) (atg A) := fun e he => by
        rw [t0] at he
        unfold atg
        rw [ntg_t _ he]
        exact he
      have tc := tbk_copy tb (by omega) hc
      have hT2 := hT1.r (a := m + 16) (r := nr ρ')
      have lp := r_vct_L (h := zrow g (m + 16) (nr ρ')) (x := nI b) (k := aρ A 0) hT2 rw_at k1.1.1 c12 tc
      have c1 : 1 ≤ ρ' 0 := by
        unfold ncopy at hc
        obtain ⟨r3, -, hr⟩ := Option.map_eq_some_iff.mp hc
        rw [← hr, ncpf_hd (by omega), if_pos rfl]
        omega
      have lp := lp (ρ' 0 - 1) 1 zF (by omega) (by omega) (by have := k1.1.1; unfold zF; omega)
      have v1 : bsm (vfr ρ' 1) (aρ A 0) = 2 ^ aρ A 0 - 1 := by
        rw [← bsm_true]
        exact bsm_congr fun i _ => rfl
      rw [v1] at lp
      have sb := shl_bit (aρ A 0) (by omega)
      have pp : 2 ^ aρ A 0 ≤ 2 ^ 12 := Nat.pow_le_pow_right (by omega) c12
      have p1 : 1 ≤ 2 ^ aρ A 0 := Nat.one_le_two_pow
      have sb2 : nI (2 ^ aρ A 0) - nI 1 = nI (2 ^ aρ A 0 - 1) := pk_sub p1
      refine ⟨nI (bsm (vfr ρ' (ρ' 0)) (aρ A 0)), zrow g (m + 16) (nr ρ'), ?_, fun _ => rfl, ?_, RI_try R1 k1.2.1, F1.tr fr16⟩
      · refine vt _ _ ?_
        rw [b3]
        unfold fX7_victimsOf
        simp (disch := first | assumption | ((repeat apply RefT.s) <;> assumption) | omega) only [nl, nI_add, pk_mul, Option.bind_some, zb2_some, nI_le_t, nI_le_f, nI_lt_t, nI_lt_f, nI_eq_t, nI_eq_f, nI_m1, nI_em1, ↓reduceIte, Nat.add_zero, nI_n9, hT0.1, tn, qg15, qg16, r0, q1, sb, sb2]
        exact lp
      · rw [rw_a (by omega)]; exact m0
  · rw [if_pos c2]
    rw [if_neg c2] at pin
    refine RO_err hR (by omega) ?_
    unfold fX7_victims
    simp (disch := first | assumption | ((repeat apply RefT.s) <;> assumption) | omega) only [nl, nI_add, pk_mul, Option.bind_some, zb2_some, nI_le_t, nI_le_f, nI_lt_t, nI_lt_f, nI_eq_t, nI_eq_f, nI_m1, nI_em1, ↓reduceIte, Nat.add_zero, nI_n9, hT.1, pin, rf1]
end RVICT
