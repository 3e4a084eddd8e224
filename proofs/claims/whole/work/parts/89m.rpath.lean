/-! pure: the reference's questions on paths -/
def acm (A : zSt) (skip : Nat) : Nat → Nat → Nat := cmt (afr A) (att A) (rco (aρ A)) skip (anc A)
def acm0 (A : zSt) : Nat → Nat → Nat := acm A 4294967287
def pthV (A : zSt) (a b k : Nat) : Nat := if fD 16 (acm0 A) (anf A) a b < fINF then (if k = 0 then fD 16 (acm0 A) (anf A) a b / 16 else if k = 1 then fD 16 (acm0 A) (anf A) a b % 16 else ploss (afr A) (att A) (alo A) (anc A) (acm0 A) (anf A) a b) else 4294967287
def pthS (A : zSt) (x y z : Int32) : zAn := if outI x (anf A) then (1, 0, A) else if outI y (anf A) then (1, 0, A) else if outI z 3 then (2, 0, A) else (0, nI (pthV A (cl x) (cl y) (cl z)), A)
section RPATH
variable {h h' : zH} {m : Nat} {A : zSt}
theorem acm_ok {t skip : Nat} (hA : AI t A) : cok (acm A skip) (anf A) := cok_cmt hA.2.1.1 (fun c hc => (hA.2.2.1.1.2.2.1 c hc).2)
theorem acm_fr {skip : Nat} : cfr (afr A) (att A) (anc A) (acm A skip) := cfr_cmt
/-- the table is laid -/
theorem r_lay {t skip : Nat} {u : Int32} (hR : RI h m A) (hA : AI t A) (hu : ∀ c, c < 20 → (nI c = u ↔ c = skip)) : ∃ h2, fX7_layTable h m (m + 15) u = some h2 ∧ RI h2 m A ∧ rTab (zI h2) m (anf A) (acm A skip) ∧ Fr m (m + 24) h h2 ∧ zI h2 m = zI h m := by
  obtain ⟨hT, -, ⟨r4, r4b, r4c, b1, b2, b3, b4, b5, b6⟩, r5, -, -, -, -, s1, s2, s3, ⟨ot, s4⟩, ⟨od, s5⟩⟩ := id hR
  have L := n_layTable (h := h) (I := zI h) (m := m) (a := m + 15) (skip := skip) (u2 := u) hT (by omega) (by omega) (rk15 hT) (rl15 hT) hu r4b r4 b1 b2 r5 hA.2.2.1.1.2.2.1 hA.2.1.1 s4 s5
  have o : ∀ a, a ≠ m + 21 → a ≠ m + 22 → zz (zz (zI h) (m + 22) (nr (mrow (fwd 16 (acm A skip)) od))) (m + 21) (nr (mrow (nT (afr A) (att A) (rco (aρ A)) skip (anc A) (anf A)) ot)) a = zI h a := fun a h1 h2 => by rw [zz_ne h1, zz_ne h2]
  refine ⟨_, L, ?_, ⟨ot, od, ?_, ?_⟩, Fr.wI (fun a ha => o a (by omega) (by omega)), o m (by omega) (by omega)⟩
  · refine RI_keep hR rfl rfl rfl (fun a ha => o a (by omega) (by omega)) (fun k hk => congrFun (o m (by omega) (by omega)) k) ⟨?_, ?_, ?_, ?_, ?_⟩
    · rw [zw_I]; obtain ⟨τ, q1, q2⟩ := s1; exact ⟨τ, (o _ (by omega) (by omega)).trans q1, q2⟩
    · rw [zw_I]; obtain ⟨τ, q1, q2⟩ := s2; exact ⟨τ, (o _ (by omega) (by omega)).trans q1, q2⟩
    · rw [zw_I]; obtain ⟨τ, q1, q2⟩ := s3; exact ⟨τ, (o _ (by omega) (by omega)).trans q1, q2⟩
    · exact ⟨_, zz_at⟩
    · exact ⟨_, (zz_ne (by omega)).trans zz_at⟩
  · exact zz_at
  · exact (zz_ne (by omega)).trans zz_at
theorem r_pth {t : Nat} (hR : RI h m A) (hA : AI t A) (x y z : Int32) : RO h m (fX7_path h m x y z) (pthS A x y z) := by
  have hT := hR.1
  have n8 := hA.2.1.1.1
  have isx : fX7_isFormat h m x = some (if x < 0 ∨ nI (anf A) ≤ x then 0 else 1, h) := m_isFormat (h := h) (I := zI h) hT.1 hR.2.2.1.1 n8 x
  have isy : fX7_isFormat h m y = some (if y < 0 ∨ nI (anf A) ≤ y then 0 else 1, h) := m_isFormat (h := h) (I := zI h) hT.1 hR.2.2.1.1 n8 y
  have pin : fX7_in h z.toInt64 0 2 = some (if z < 0 ∨ nI 3 ≤ z then 0 else 1, h) := p_in0 h z (c := 3) (by omega)
  have rf1 := r_ref (k := 1) hT (by omega)
  have rf2 := r_ref (k := 2) hT (by omega)
  have rf0 := r_ref (k := 0) hT (by omega)
  rw [if_neg (by decide)] at rf1 rf2
  rw [if_pos rfl] at rf0
  unfold pthS
  rw [fX7_path_e]
  by_cases c1 : outI x (anf A)
  · rw [if_pos c1] at isx ⊢
    refine RO_err hR (by omega) ?_
    simp (disch := first | assumption | ((repeat apply RefT.s) <;> assumption) | omega) only [nl, nI_add, pk_mul, Option.bind_some, zb2_some, nI_le_t, nI_le_f, nI_lt_t, nI_lt_f, nI_eq_t, nI_eq_f, nI_m1, nI_em1, ↓reduceIte, Nat.add_zero, nI_n9, hT.1, isx, rf1]
    unfold fX7_path_c1
    simp (disch := first | assumption | ((repeat apply RefT.s) <;> assumption) | omega) only [nl, nI_add, pk_mul, Option.bind_some, zb2_some, nI_le_t, nI_le_f, nI_lt_t, nI_lt_f, nI_eq_t, nI_eq_f, nI_m1, nI_em1, ↓reduceIte, Nat.add_zero, nI_n9]
  · rw [if_neg c1] at isx ⊢
    by_cases c2 : outI y (anf A)
    · rw [if_pos c2] at isy ⊢
      refine RO_err hR (by omega) ?_
      simp (disch := first | assumption | ((repeat apply RefT.s) <;> assumption) | omega) only [nl, nI_add, pk_mul, Option.bind_some, zb2_some, nI_le_t, nI_le_f, nI_lt_t, nI_lt_f, nI_eq_t, nI_eq_f, nI_m1, nI_em1, ↓reduceIte, Nat.add_zero, nI_n9, hT.1, isx, isy]
      unfold fX7_path_c3
      simp (disch := first | assumption | ((repeat apply RefT.s) <;> assumption) | omega) only [nl, nI_add, pk_mul, Option.bind_some, zb2_some, nI_le_t, nI_le_f, nI_lt_t, nI_lt_f, nI_eq_t, nI_eq_f, nI_m1, nI_em1, ↓reduceIte, Nat.add_zero, nI_n9, rf1]
    · rw [if_neg c2] at isy ⊢
      by_cases c3 : outI z 3
      · rw [if_pos c3] at pin ⊢
        refine RO_err hR (by omega) ?_
        simp (disch := first | assumption | ((repeat apply RefT.s) <;> assumption) | omega) only [nl, nI_add, pk_mul, Option.bind_some, zb2_some, nI_le_t, nI_le_f, nI_lt_t, nI_lt_f, nI_eq_t, nI_eq_f, nI_m1, nI_em1, ↓reduceIte, Nat.add_zero, nI_n9, hT.1, isx, isy]
        unfold fX7_path_c3
        simp (disch := first | assumption | ((repeat apply RefT.s) <;> assumption) | omega) only [nl, nI_add, pk_mul, Option.bind_some, zb2_some, nI_le_t, nI_le_f, nI_lt_t, nI_lt_f, nI_eq_t, nI_eq_f, nI_m1, nI_em1, ↓reduceIte, Nat.add_zero, nI_n9, pin, rf2]
        unfold fX7_path_c6
        simp (disch := first | assumption | ((repeat apply RefT.s) <;> assumption) | omega) only [nl, nI_add, pk_mul, Option.bind_some, zb2_some, nI_le_t, nI_le_f, nI_lt_t, nI_lt_f, nI_eq_t, nI_eq_f, nI_m1, nI_em1, ↓reduceIte, Nat.add_zero, nI_n9]
      · rw [if_neg c3] at pin ⊢
        obtain ⟨a, a1, a2, a3⟩ := in_f (by omega) c1
        obtain ⟨b, b1, b2, b3⟩ := in_f (by omega) c2
        obtain ⟨k, k1, k2, k3⟩ := in_f (by omega) c3
        rw [a3, b3, k3]
        have R0 := RI_0 (v := nI 0) hR
        have hT0 : RefT (zsI h m 0 (nI 0)) m := hT.s
        obtain ⟨h2, l1, l2, l3, l4, l5⟩ := r_lay (skip := 4294967287) (u := -9) R0 hA none_no
        have l1' : fX7_layTable (zsI h m 0 (nI 0)) m (m + 15) (nI 4294967287) = some h2 := by rw [← nI_n9]; exact l1
        have hT2 := l2.1
        have hc := acm_ok (skip := 4294967287) hA
        have co : fX7_costOf h2 m (nI a) (nI b) = some (nI (fD 16 (acm0 A) (anf A) a b), h2) := t_cost (h := h2) (I := zI h2) hT2 l3 hc a1 b1
        have le : fD 16 (acm0 A) (anf A) a b ≤ fINF := fD_le hc
        have fi : fINF = 1000000 := rfl
        have head : ∀ r, fX7_path_c9 m (nI a) (nI b) (nI k) (nI (fD 16 (acm0 A) (anf A) a b)) h2 = r → (if zkd h m = 8 then zb2 (fX7_isFormat h m x) fun w1 h2 => if (w1 : Int32) = 0 then zb2 (fX7_refused h2 m 1) fun w4 h5 => fX7_path_c1 m x y z w4 h5 else zb2 (fX7_isFormat h2 m y) fun w20 h21 => fX7_path_c3 m x y z w20 h21 else none) = r := fun r e => by
          subst a2
          subst b2
          subst k2
          simp (disch := first | assumption | ((repeat apply RefT.s) <;> assumption) | omega) only [nl, nI_add, pk_mul, Option.bind_some, zb2_some, nI_le_t, nI_le_f, nI_lt_t, nI_lt_f, nI_eq_t, nI_eq_f, nI_m1, nI_em1, ↓reduceIte, Nat.add_zero, nI_n9, hT.1, isx, isy]
          unfold fX7_path_c3
          simp (disch := first | assumption | ((repeat apply RefT.s) <;> assumption) | omega) only [nl, nI_add, pk_mul, Option.bind_some, zb2_some, nI_le_t, nI_le_f, nI_lt_t, nI_lt_f, nI_eq_t, nI_eq_f, nI_m1, nI_em1, ↓reduceIte, Nat.add_zero, nI_n9, pin, rf0]
          unfold fX7_path_c8
          simp (disch := first | assumption | ((repeat apply RefT.s) <;> assumption) | omega) only [nl, nI_add, pk_mul, Option.bind_some, zb2_some, nI_le_t, nI_le_f, nI_lt_t, nI_lt_f, nI_eq_t, nI_eq_f, nI_m1, nI_em1, ↓reduceIte, Nat.add_zero, nI_n9, qg15, l1', co]
          exact e
        refine ⟨nI (pthV A a b k), h2, head _ ?_, fun _ => rfl, ?_, l2, fr0.tr l4⟩
        · unfold fX7_path_c9 pthV
          by_cases c : fD 16 (acm0 A) (anf A) a b < fINF
          · rw [if_pos c]
            have dv : nI (fD 16 (acm0 A) (anf A) a b) / nI 16 = nI (fD 16 (acm0 A) (anf A) a b / 16) := pk_div (by omega) (by omega) (by omega)
            have dr : nI (fD 16 (acm0 A) (anf A) a b) - nI (fD 16 (acm0 A) (anf A) a b) / nI 16 * nI 16 = nI (fD 16 (acm0 A) (anf A) a b % 16) := pk_rem (by omega) (by omega) (by omega)
            have lo : fX7_lossOn h2 m (nI a) (nI b) = some (nI (ploss (afr A) (att A) (alo A) (anc A) (acm0 A) (anf A) a b), h2) := n_lossOn (h := h2) (I := zI h2) hT2 l2.2.2.1 hA.2.1 l3 hc acm_fr a1 b1 c
            match k, k1 with
            | 0, _ => simp (disch := first | assumption | ((repeat apply RefT.s) <;> assumption) | omega) only [nl, nI_add, pk_mul, Option.bind_some, zb2_some, nI_le_t, nI_le_f, nI_lt_t, nI_lt_f, nI_eq_t, nI_eq_f, nI_m1, nI_em1, ↓reduceIte, Nat.add_zero, nI_n9, co, dv]
            | 1, _ => simp (disch := first | assumption | ((repeat apply RefT.s) <;> assumption) | omega) only [nl, nI_add, pk_mul, Option.bind_some, zb2_some, nI_le_t, nI_le_f, nI_lt_t, nI_lt_f, nI_eq_t, nI_eq_f, nI_m1, nI_em1, ↓reduceIte, Nat.add_zero, nI_n9, co, dr]; rfl
            | 2, _ => simp (disch := first | assumption | ((repeat apply RefT.s) <;> assumption) | omega) only [nl, nI_add, pk_mul, Option.bind_some, zb2_some, nI_le_t, nI_le_f, nI_lt_t, nI_lt_f, nI_eq_t, nI_eq_f, nI_m1, nI_em1, ↓reduceIte, Nat.add_zero, nI_n9, lo]; rfl
          · rw [if_neg c]
            simp (disch := first | assumption | ((repeat apply RefT.s) <;> assumption) | omega) only [nl, nI_add, pk_mul, Option.bind_some, zb2_some, nI_le_t, nI_le_f, nI_lt_t, nI_lt_f, nI_eq_t, nI_eq_f, nI_m1, nI_em1, ↓reduceIte, Nat.add_zero, nI_n9]
        · rw [l5, sI_at]
end RPATH
