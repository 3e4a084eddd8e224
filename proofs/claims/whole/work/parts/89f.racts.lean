/-! pure: what the calls answer; the reference's actions -/
def atg (A : zSt) : zN' := ntg (aρ A) (aρ A 0)
def anew (A : zSt) (ρ : zN') : zSt := aput (anote A) ρ
abbrev zAn : Type := Nat × Int32 × zSt
abbrev outI (x : Int32) (n : Nat) : Prop := x < 0 ∨ nI n ≤ x
def cl (x : Int32) : Nat := x.toNatClampNeg
abbrev newSz (y : Int32) : Prop := 1 ≤ y ∧ y ≤ 9999
/-- the reference answers so -/
def RO (h : zH) (m : Nat) (r : Option (Int32 × zH)) (S : zAn) : Prop := ∃ v h', r = some (v, h') ∧ (S.1 = 0 → v = S.2.1) ∧ zI h' m 0 = nI S.1 ∧ RI h' m S.2.2 ∧ Fr m (m + 24) h h'
section RACTS
variable {h h' : zH} {m : Nat} {A : zSt}
theorem r_ref {k : Nat} (hT : RefT h m) (hk : k < 2 ^ 31) : fX7_refused h m (nI k) = some (if k = 0 then nI 0 else nI 1, zsI h m 0 (nI k)) := by
  unfold fX7_refused
  by_cases c : k = 0
  · rw [if_pos c, c]
    simp (disch := first | assumption | ((repeat apply RefT.s) <;> assumption) | omega) only [nl, nI_add, pk_mul, Option.bind_some, zb2_some, nI_le_t, nI_le_f, nI_lt_t, nI_lt_f, nI_eq_t, nI_eq_f, nI_m1, nI_em1, ↓reduceIte, Nat.add_zero, nI_n9, hT.1, qp]
  · rw [if_neg c]
    simp (disch := first | assumption | ((repeat apply RefT.s) <;> assumption) | omega) only [nl, nI_add, pk_mul, Option.bind_some, zb2_some, nI_le_t, nI_le_f, nI_lt_t, nI_lt_f, nI_eq_t, nI_eq_f, nI_m1, nI_em1, ↓reduceIte, Nat.add_zero, nI_n9, hT.1, qp]
theorem RI_0 {v : Int32} (hR : RI h m A) : RI (zsI h m 0 v) m A := by
  obtain ⟨-, -, -, -, -, -, -, -, s1, s2, s3, s4, s5⟩ := id hR
  refine RI_keep hR rfl rfl rfl (fun a ha => sI_a (by omega)) (fun k hk => sI_k (by omega)) ?_
  unfold Scr
  rw [sI_a (by omega), sI_a (by omega), sI_a (by omega), sI_a (by omega), sI_a (by omega)]
  exact ⟨s1, s2, s3, s4, s5⟩
theorem RI_put {τ : zN'} (hR : RI h m A) : RI (zrow h (m + 15) (nr τ)) m (aput A τ) := by
  obtain ⟨r1, ⟨r2, r3⟩, r4, r5, r6, r7, r8, r9, s1, s2, s3, s4, s5⟩ := hR
  refine ⟨r1.r, ⟨by rw [rw_a (by omega)]; exact r2, fun i hi => by rw [rw_a (by omega)]; exact r3 i hi⟩, ?_, rw_at, by rw [rw_a (by omega)]; exact r6, fun i hi j hj => by rw [rw_a (by omega)]; exact r7 i hi j hj, fun k hk => by rw [rw_a (by omega)]; exact r8 k hk, fun k hk f j hj => by rw [rw_a (by omega)]; exact r9 k hk f j hj, ?_⟩
  · unfold RBd
    rw [rw_a (by omega), rw_a (by omega), rw_a (by omega), rw_a (by omega), rw_a (by omega), rw_a (by omega), rw_a (by omega)]
    exact r4
  · unfold Scr
    rw [rw_a (by omega), rw_a (by omega), rw_a (by omega), rw_a (by omega), rw_a (by omega)]
    exact ⟨s1, s2, s3, s4, s5⟩
theorem r_accept {τ : zN'} (hR : RI h m A) (hh : anh A ≤ 14) (ht : zI h (m + 16) = nr τ) (hz : rz τ) (hz0 : rz (aρ A)) : ∃ h', fX7_accept h m = some h' ∧ RI h' m (anew A τ) ∧ Fr m (m + 24) h h' ∧ (∀ k, k ≠ 28 → zI h' m k = zI h m k) := by
  obtain ⟨h1, n1, n2, n3, n4, n5⟩ := r_note hR hh
  have hT := n2.1
  have cp : fX7_copyRow h1 (m + 16) (nI 0) (m + 15) (nI 0) (nI 360) = some (zrow h1 (m + 15) (nr τ)) := by
    have r5 : zI h1 (m + 15) = nr (aρ A) := n2.2.2.2.1
    rw [q_copyRow 0 0 360 (rk16 hT) (rk15 hT) (by rw [rl16 hT]; omega) (by rw [rl15 hT]; omega) (by rw [rl16 hT]; omega) (by rw [rl15 hT]; omega) (Or.inl (by omega)), r5, n4, ht, cpy_row hz hz0]
  refine ⟨zrow h1 (m + 15) (nr τ), ?_, RI_put n2, n3.tr (FrI.row (by omega) (by omega)).fr, fun k hk => by rw [rw_a (by omega)]; exact n5 k hk⟩
  unfold fX7_accept
  simp (disch := first | assumption | ((repeat apply RefT.s) <;> assumption) | omega) only [nl, nI_add, pk_mul, Option.bind_some, zb2_some, nI_le_t, nI_le_f, nI_lt_t, nI_lt_f, nI_eq_t, nI_eq_f, nI_m1, nI_em1, ↓reduceIte, Nat.add_zero, nI_n9, hR.1.1, n1, qg16, qg15, cp]
theorem in_f {x : Int32} {n : Nat} (hn : n < 2 ^ 31) (hx : ¬ outI x n) : ∃ j, j < n ∧ x = nI j ∧ cl x = j := by
  rcases pk_ix x hn with q | q | ⟨j, h1, h2⟩
  · exact absurd (Or.inl q) hx
  · exact absurd (Or.inr q) hx
  · exact ⟨j, h1, h2, by unfold cl; rw [h2, nI_clamp (by omega)]⟩
theorem in_sz {y : Int32} (hy : newSz y) : ∃ b, 1 ≤ b ∧ b ≤ 9999 ∧ y = nI b ∧ cl y = b := by
  obtain ⟨h1, h2⟩ := hy
  have n0 : ¬ y < 0 := fun q => by
    have a1 := Int32.lt_iff_toInt_lt.mp q
    have a2 := Int32.le_iff_toInt_le.mp h1
    have e1 : (1 : Int32).toInt = 1 := rfl
    have e0 : (0 : Int32).toInt = 0 := rfl
    omega
  obtain ⟨j, j1, j2⟩ := nI_of n0
  refine ⟨j, ?_, ?_, j2, by unfold cl; rw [j2, nI_clamp j1]⟩
  · rw [j2] at h1
    exact (nI_leI (a := 1) (by omega) j1).mp h1
  · rw [j2] at h2
    exact (nI_leI (b := 9999) j1 (by omega)).mp h2
def copyS (A : zSt) (x y : Int32) : zAn := if outI x (anf A) then (1, 0, A) else if ¬ newSz y then (2, 0, A) else match ncopy (atg A) (cl x) (cl y) with
  | none => (3, 0, A)
  | some ρ' => (0, nI (nus ρ' (ρ' 0)), anew A ρ')
theorem fr0 {v : Int32} : Fr m (m + 24) h (zsI h m 0 v) := (FrI.sI (by omega) (by omega)).fr
theorem fr16 {r : Nat → Int32} : Fr m (m + 24) h (zrow h (m + 16) r) := (FrI.row (by omega) (by omega)).fr
theorem atg_rok (ho : rok (anf A) (anc A) (aρ A)) (hn : anc A ≤ 20) : rok (anf A) (anc A) (atg A) := rok_ntg ho hn ho.1.1
/-- a refused try on a copy -/
theorem RO_no {k : Nat} {v : Int32} {g : zH} {S : zAn} (hR : RI g m A) (hF : Fr m (m + 24) h g) (hS : S = (k, 0, A)) (hk : k ≠ 0) : RO h m (some (v, zsI g m 0 (nI k))) S := by
  subst hS
  exact ⟨v, _, rfl, fun z => absurd z hk, sI_at, RI_0 hR, hF.tr fr0⟩
theorem r_copy {t : Nat} (hR : RI h m A) (hA : AI t A) (ht : t < 9000) (x y : Int32) : RO h m (fX7_copy h m x y) (copyS A x y) := by
  obtain ⟨a1, hO, ⟨a3, a3t⟩, a4, a5, a6⟩ := hA
  have n8 := hO.1.1
  have n20 := hO.1.2.1
  have tn := r_tryNow hR a3
  have tr := atg_rok a3 n20
  have R1 := RI_try (τ := atg A) hR tr.2.1
  have hT := hR.1
  have hT1 := R1.1
  have e16 : zI (zrow h (m + 16) (nr (atg A))) (m + 16) = nr (atg A) := rw_at
  have tt : atg A 1 = aρ A 1 := ntg_h (by omega)
  have tn' : fX7_tryNow h m = some (zrow h (m + 16) (nr (atg A))) := tn
  have F1 : Fr m (m + 24) h (zrow h (m + 16) (nr (atg A))) := fr16
  generalize zrow h (m + 16) (nr (atg A)) = g at *
  have isf : fX7_isFormat g m x = some (if x < 0 ∨ nI (anf A) ≤ x then 0 else 1, g) := m_isFormat (h := g) (I := zI g) hT1.1 R1.2.2.1.1 n8 x
  have no : ∀ k g', k ≠ 0 → k < 10 → fX7_copyOn g m (m + 16) x y = some (nI k, g') → RI g' m A → Fr m (m + 24) h g' → RO h m (fX7_copy h m x y) (k, 0, A) := fun k g' h0 h10 co R' F' => by
    have rf := r_ref (k := k) R'.1 (by omega)
    rw [if_neg h0] at rf
    have e : fX7_copy h m x y = some (nI 0, zsI g' m 0 (nI k)) := by
      unfold fX7_copy
      simp (disch := first | assumption | ((repeat apply RefT.s) <;> assumption) | omega) only [nl, nI_add, pk_mul, Option.bind_some, zb2_some, nI_le_t, nI_le_f, nI_lt_t, nI_lt_f, nI_eq_t, nI_eq_f, nI_m1, nI_em1, ↓reduceIte, Nat.add_zero, nI_n9, hT.1, tn', qg16, co, rf]
    rw [e]
    exact RO_no R' F' rfl h0
  unfold copyS
  by_cases c1 : outI x (anf A)
  · rw [if_pos c1] at isf ⊢
    refine no 1 g (by omega) (by omega) ?_ R1 F1
    unfold fX7_copyOn
    simp (disch := first | assumption | ((repeat apply RefT.s) <;> assumption) | omega) only [nl, nI_add, pk_mul, Option.bind_some, zb2_some, nI_le_t, nI_le_f, nI_lt_t, nI_lt_f, nI_eq_t, nI_eq_f, nI_m1, nI_em1, ↓reduceIte, Nat.add_zero, nI_n9, hT1.1, isf]
  · rw [if_neg c1] at isf ⊢
    obtain ⟨f, f1, f2, f3⟩ := in_f (by omega) c1
    have pin := p_in9999 g y
    by_cases c2 : newSz y
    · have c2' : ¬ ¬ newSz y := fun z => z c2
      rw [if_neg c2']
      obtain ⟨b, b1, b2, b3, b4⟩ := in_sz c2
      rw [f3, b4]
      have hl : zln g (m + 16) = 360 := rl16 hT1
      have co := n_copyOnZ (h := g) (I := zI g) (m := m) (a := m + 16) (f := f) (b := b) hT1.1 R1.2.2.1.1 n8 (rk16 hT1) hl e16 tr.1 tr.2.1 (by omega) f1 b1 b2
      cases hc : ncopy (atg A) f b with
      | none =>
        obtain ⟨ρ3, q1, q2⟩ := co.2 hc
        refine no 3 (zrow g (m + 16) (nr ρ3)) (by omega) (by omega) ?_ (RI_try R1 q2) (F1.tr fr16)
        rw [f2, b3]
        exact q1
      | some ρ' =>
        have q1 := co.1 ρ' hc
        obtain ⟨k1, k2, k3⟩ := rok_copy tr n20 (by omega) f1 n8 ⟨b1, b2⟩ hc
        have co' : fX7_copyOn g m (m + 16) x y = some (nI 0, zrow g (m + 16) (nr ρ')) := by
          rw [f2, b3]
          exact q1
        have R2 := RI_0 (v := nI 0) (RI_try (τ := ρ') R1 k1.2.1)
        have rf := r_ref (k := 0) (R2.1 : RefT _ m) (by omega)
        have rf := r_ref (h := zrow g (m + 16) (nr ρ')) (k := 0) hT1.r (by omega)
        rw [if_pos rfl] at rf
        obtain ⟨h8, d1, d2, d3, d4⟩ := r_accept (τ := ρ') R2 a4 (by rw [sI_a (by omega), rw_at]) k1.2.1 a3.2.1
        have us : fX7_used h8 (m + 15) = some (nI (nus ρ' (ρ' 0)), h8) := n_used (h := h8) (I := zI h8) (rk15 d2.1) (rl15 d2.1) d2.2.2.2.1 k1.1.1
        have hT8 := d2.1
        refine ⟨nI (nus ρ' (ρ' 0)), h8, ?_, fun _ => rfl, ?_, d2, ((F1.tr fr16).tr fr0).tr d3⟩
        · unfold fX7_copy
          simp (disch := first | assumption | ((repeat apply RefT.s) <;> assumption) | omega) only [nl, nI_add, pk_mul, Option.bind_some, zb2_some, nI_le_t, nI_le_f, nI_lt_t, nI_lt_f, nI_eq_t, nI_eq_f, nI_m1, nI_em1, ↓reduceIte, Nat.add_zero, nI_n9, hT.1, tn', qg16, co', rf, d1, qg15, us]
        · rw [d4 0 (by omega), sI_at]
    · rw [if_pos c2]
      have pin' : fX7_in g y.toInt64 1 9999 = some (0, g) := by rw [pin, if_neg c2]
      refine no 2 g (by omega) (by omega) ?_ R1 F1
      unfold fX7_copyOn
      simp (disch := first | assumption | ((repeat apply RefT.s) <;> assumption) | omega) only [nl, nI_add, pk_mul, Option.bind_some, zb2_some, nI_le_t, nI_le_f, nI_lt_t, nI_lt_f, nI_eq_t, nI_eq_f, nI_m1, nI_em1, ↓reduceIte, Nat.add_zero, nI_n9, hT1.1, isf, pin']
end RACTS
