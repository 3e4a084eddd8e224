/-! pure: what the calls keep; the reference's text and numbers -/
theorem arok_mono {A : zSt} {t t' : Nat} {ρ : zN'} (h : arok A t ρ) (ht : t ≤ t') : arok A t' ρ := ⟨h.1, Nat.le_trans h.2 ht⟩
theorem AI_mono {A : zSt} {t t' : Nat} (h : AI t A) (ht : t ≤ t') : AI t' A := ⟨h.1, h.2.1, arok_mono h.2.2.1 ht, h.2.2.2.1, fun i hi => arok_mono (h.2.2.2.2.1 i hi) ht, fun k hk f => arok_mono (h.2.2.2.2.2 k hk f) ht⟩
theorem AI_new {A : zSt} {t : Nat} {ρ : zN'} (h : AI t A) (hr : rok (anf A) (anc A) ρ) (h1 : ρ 1 ≤ t + 1) : AI (t + 1) (anew A ρ) := by
  obtain ⟨a1, a2, a3, a4, a5, a6⟩ := h
  refine ⟨a1, a2, ⟨hr, h1⟩, ?_, fun i hi => ?_, fun k hk f => arok_mono (a6 k hk f) (by omega)⟩
  · show (hpush (anh A) (aH A) (aρ A)).1 ≤ 14
    unfold hpush
    split
    · exact Nat.le_refl _
    · show anh A + 1 ≤ 14
      omega
  · have hi : i < (hpush (anh A) (aH A) (aρ A)).1 := hi
    show arok A (t + 1) ((hpush (anh A) (aH A) (aρ A)).2 i)
    unfold hpush at hi ⊢
    by_cases c : anh A = 14
    · rw [if_pos c] at hi ⊢
      have hi : i < 14 := hi
      show arok A (t + 1) (if i < 13 then aH A (i + 1) else aρ A)
      by_cases q : i < 13
      · rw [if_pos q]; exact arok_mono (a5 (i + 1) (by omega)) (by omega)
      · rw [if_neg q]; exact arok_mono a3 (by omega)
    · rw [if_neg c] at hi ⊢
      have hi : i < anh A + 1 := hi
      show arok A (t + 1) (if i = anh A then aρ A else aH A i)
      by_cases q : i = anh A
      · rw [if_pos q]; exact arok_mono a3 (by omega)
      · rw [if_neg q]; exact arok_mono (a5 i (by omega)) (by omega)
section AIS
variable {A : zSt} {t : Nat}
theorem AI_copy (h : AI t A) (ht : t < 9000) (x y : Int32) : AI (t + 1) (copyS A x y).2.2 := by
  have m := AI_mono h (show t ≤ t + 1 by omega)
  have n20 := h.2.1.1.2.1
  have n8 := h.2.1.1.1
  have tr := atg_rok h.2.2.1.1 n20
  have t1 : atg A 1 = aρ A 1 := ntg_h (by omega)
  have tt := h.2.2.1.2
  unfold copyS
  by_cases c1 : outI x (anf A)
  · rw [if_pos c1]; exact m
  · rw [if_neg c1]
    by_cases c2 : newSz y
    · have c2' : ¬ ¬ newSz y := fun z => z c2
      rw [if_neg c2']
      obtain ⟨f, f1, f2, f3⟩ := in_f (by omega) c1
      obtain ⟨b, b1, b2, b3, b4⟩ := in_sz c2
      rw [f3, b4]
      cases hc : ncopy (atg A) f b with
      | none => exact m
      | some ρ' =>
        obtain ⟨k1, k2, -⟩ := rok_copy tr n20 (by omega) f1 n8 ⟨b1, b2⟩ hc
        exact AI_new h k1 (by omega)
    · rw [if_pos c2]; exact m
theorem AI_offer (h : AI t A) (ht : t < 9000) (x y : Int32) : AI (t + 1) (offerS A x y).2.2 := by
  have m := AI_mono h (show t ≤ t + 1 by omega)
  have n20 := h.2.1.1.2.1
  have n8 := h.2.1.1.1
  have tr := atg_rok h.2.2.1.1 n20
  have t1 : atg A 1 = aρ A 1 := ntg_h (by omega)
  have tt := h.2.2.1.2
  unfold offerS
  by_cases c1 : outI x (anf A)
  · rw [if_pos c1]; exact m
  · rw [if_neg c1]
    by_cases c2 : newSz y
    · have c2' : ¬ ¬ newSz y := fun z => z c2
      rw [if_neg c2']
      obtain ⟨f, f1, f2, f3⟩ := in_f (by omega) c1
      obtain ⟨b, b1, b2, b3, b4⟩ := in_sz c2
      rw [f3, b4]
      cases hc : noffer (atg A) f b with
      | none => exact m
      | some ρ' =>
        obtain ⟨k1, k2⟩ := rok_offer tr n20 (by omega) f1 n8 ⟨b1, b2⟩ hc
        exact AI_new h k1 (by omega)
    · rw [if_pos c2]; exact m
theorem AI_paste (h : AI t A) (ht : t < 9000) (x y : Int32) : AI (t + 1) (pasteS A x y).2.2 := by
  have m := AI_mono h (show t ≤ t + 1 by omega)
  have n20 := h.2.1.1.2.1
  have tr := atg_rok h.2.2.1.1 n20
  have t1 : atg A 1 = aρ A 1 := ntg_h (by omega)
  have t0 : atg A 0 = aρ A 0 := ntg_h (by omega)
  have tt := h.2.2.1.2
  have c12 := h.2.2.1.1.1.1
  unfold pasteS
  by_cases c1 : outI x (aρ A 0)
  · rw [if_pos c1]; exact m
  · rw [if_neg c1]
    by_cases c2 : outI y (anp A)
    · rw [if_pos c2]; exact m
    · rw [if_neg c2]
      obtain ⟨e, f1, f2, f3⟩ := in_f (by omega) c1
      rw [f3]
      cases hw : away A (atg A) e (cl y) with
      | none => exact m
      | some w =>
        obtain ⟨k1, k2⟩ := rok_paste (p := cl y) h.2.1 tr (by omega) (by omega) hw
        exact AI_new h k1 (by omega)
theorem AI_pin (h : AI t A) (x : Int32) : AI (t + 1) (pinS A x).2.2 := by
  have m := AI_mono h (show t ≤ t + 1 by omega)
  have c12 := h.2.2.1.1.1.1
  have tt := h.2.2.1.2
  unfold pinS
  by_cases c1 : outI x (aρ A 0)
  · rw [if_pos c1]; exact m
  · rw [if_neg c1]
    obtain ⟨e, f1, f2, f3⟩ := in_f (by omega) c1
    rw [f3]
    exact AI_new h (rok_pin h.2.2.1.1 h.2.1.1.2.1 f1) (by rw [up_b (by omega)]; omega)
theorem AI_rem (h : AI t A) (x : Int32) : AI (t + 1) (remS A x).2.2 := by
  have m := AI_mono h (show t ≤ t + 1 by omega)
  have c12 := h.2.2.1.1.1.1
  have tt := h.2.2.1.2
  unfold remS
  by_cases c1 : outI x (aρ A 0)
  · rw [if_pos c1]; exact m
  · rw [if_neg c1]
    obtain ⟨e, f1, f2, f3⟩ := in_f (by omega) c1
    rw [f3]
    exact AI_new h (rok_drop h.2.2.1.1 h.2.1.1.2.1 f1) (by rw [ndrop_hd f1 (by omega), if_neg (by omega)]; omega)
theorem AI_cost (h : AI t A) (x y : Int32) : AI (t + 1) (costS A x y).2.2 := by
  have m := AI_mono h (show t ≤ t + 1 by omega)
  have n20 := h.2.1.1.2.1
  have tt := h.2.2.1.2
  unfold costS
  by_cases c1 : outI x (anc A)
  · rw [if_pos c1]; exact m
  · rw [if_neg c1]
    by_cases c2 : 1 ≤ y ∧ y ≤ 99
    · have c2' : ¬ ¬ (1 ≤ y ∧ y ≤ 99) := fun z => z c2
      rw [if_neg c2']
      obtain ⟨e, f1, f2, f3⟩ := in_f (by omega) c1
      obtain ⟨v, v1, v2, v3, v4⟩ := in_cost (K := 99) (k := 99) rfl (by omega) c2
      rw [f3, v4]
      exact AI_new h (rok_cost h.2.2.1.1 n20 f1 ⟨v1, v2⟩) (by rw [up_b (by omega)]; omega)
    · rw [if_pos c2]; exact m
theorem AI_bud (h : AI t A) (x : Int32) : AI (t + 1) (budS A x).2.2 := by
  have m := AI_mono h (show t ≤ t + 1 by omega)
  have n20 := h.2.1.1.2.1
  have tt := h.2.2.1.2
  have tr := atg_rok h.2.2.1.1 n20
  have t1 : atg A 1 = aρ A 1 := ntg_h (by omega)
  unfold budS
  by_cases c2 : 1 ≤ x ∧ x ≤ 99999
  · have c2' : ¬ ¬ (1 ≤ x ∧ x ≤ 99999) := fun z => z c2
    rw [if_neg c2']
    obtain ⟨v, v1, v2, v3, v4⟩ := in_cost (K := 99999) (k := 99999) rfl (by omega) c2
    rw [v4]
    cases hm : nbud (atg A) v with
    | none => exact m
    | some ρ' =>
      obtain ⟨k1, k2⟩ := rok_bud tr n20 ⟨v1, v2⟩ hm
      exact AI_new h k1 (by omega)
  · rw [if_pos c2]; exact m
theorem AI_undo (h : AI t A) : AI t (undoS A).2.2 := by
  obtain ⟨a1, a2, a3, a4, a5, a6⟩ := id h
  unfold undoS
  by_cases c : anh A = 0
  · rw [if_pos c]; exact h
  · rw [if_neg c]
    exact ⟨a1, a2, a5 (anh A - 1) (by omega), by show anh A - 1 ≤ 14; omega, fun i hi => a5 i (by have hi : i < anh A - 1 := hi; omega), a6⟩
theorem AI_save (h : AI t A) (x : Int32) : AI t (saveS A x).2.2 := by
  obtain ⟨a1, a2, a3, a4, a5, a6⟩ := id h
  unfold saveS
  by_cases c : outI x 2
  · rw [if_pos c]; exact h
  · rw [if_neg c]
    refine ⟨a1, a2, a3, a4, a5, fun k hk f => ?_⟩
    have f : (if k = cl x then true else afl A k) = true := f
    show arok A t (if k = cl x then aρ A else aK A k)
    by_cases q : k = cl x
    · rw [if_pos q]; exact a3
    · rw [if_neg q] at f ⊢; exact a6 k hk f
theorem AI_res (h : AI t A) (x : Int32) : AI t (resS A x).2.2 := by
  obtain ⟨a1, a2, a3, a4, a5, a6⟩ := id h
  unfold resS
  by_cases c : outI x 2
  · rw [if_pos c]; exact h
  · rw [if_neg c]
    obtain ⟨k, f1, f2, f3⟩ := in_f (by omega) c
    rw [f3]
    cases fl : afl A k with
    | false => rw [if_pos rfl]; exact h
    | true =>
      have nf : ¬ true = false := fun z => by cases z
      rw [if_neg nf]
      exact ⟨a1, a2, a6 k f1 fl, Nat.zero_le _, fun i hi => absurd hi (Nat.not_lt_zero _), a6⟩
end AIS
def atext (A : zSt) (c : Nat) : zSt := ((va_up (aT A) (an A) c, an A + 1), A.2)
def appS (A : zSt) (x : Int32) : zAn := if outI x 256 then (1, 0, A) else if an A = 160 then (2, 0, A) else (0, nI (an A + 1), atext A (cl x))
def clrS (A : zSt) : zAn := (0, nI (an A), ((aT A, 0), A.2))
theorem AI_app {A : zSt} {t : Nat} (h : AI t A) (x : Int32) : AI t (appS A x).2.2 := by
  obtain ⟨a1, a2, a3, a4, a5, a6⟩ := id h
  unfold appS
  by_cases c : outI x 256
  · rw [if_pos c]; exact h
  · rw [if_neg c]
    by_cases c2 : an A = 160
    · rw [if_pos c2]; exact h
    · rw [if_neg c2]
      obtain ⟨k, f1, f2, f3⟩ := in_f (by omega) c
      rw [f3]
      refine ⟨⟨by have := a1.1; show an A + 1 ≤ 160; omega, fun i hi => ?_⟩, a2, a3, a4, a5, a6⟩
      have hi : i < an A + 1 := hi
      show va_up (aT A) (an A) k i ≤ 255
      by_cases q : i = an A
      · rw [q, up_at]; omega
      · rw [up_b q]; exact a1.2 i (by omega)
section RGET
variable {h h' : zH} {m : Nat} {A : zSt}
theorem RO_get {v : Int32} {r : Option (Int32 × zH)} (hR : RI h m A) (e : r = some (v, zsI h m 0 (nI 0))) : RO h m r (0, v, A) := ⟨v, _, e, fun _ => rfl, sI_at, RI_0 hR, fr0⟩
theorem RO_err {k : Nat} {r : Option (Int32 × zH)} (hR : RI h m A) (hk : k ≠ 0) (e : r = some (nI 0, zsI h m 0 (nI k))) : RO h m r (k, 0, A) := by
  rw [e]
  exact RO_no hR Fr.rf rfl hk
theorem r_app {t : Nat} (hR : RI h m A) (hA : AI t A) (x : Int32) : RO h m (fX7_append h m x) (appS A x) := by
  obtain ⟨⟨t1, t2⟩, -⟩ := hA
  obtain ⟨hT, ⟨r2, r3⟩, r4, r5, r6, r7, r8, r9, s1, s2, s3, s4, s5⟩ := id hR
  have pin : fX7_in h x.toInt64 0 255 = some (if x < 0 ∨ nI 256 ≤ x then 0 else 1, h) := p_in0 h x (c := 256) (by omega)
  unfold appS
  by_cases c1 : outI x 256
  · rw [if_pos c1] at pin ⊢
    have rf := r_ref (k := 1) hT (by omega)
    rw [if_neg (by decide)] at rf
    refine RO_err hR (by omega) ?_
    unfold fX7_append
    simp (disch := first | assumption | ((repeat apply RefT.s) <;> assumption) | omega) only [nl, nI_add, pk_mul, Option.bind_some, zb2_some, nI_le_t, nI_le_f, nI_lt_t, nI_lt_f, nI_eq_t, nI_eq_f, nI_m1, nI_em1, ↓reduceIte, Nat.add_zero, nI_n9, hT.1, pin, rf]
  · rw [if_neg c1] at pin ⊢
    obtain ⟨k, f1, f2, f3⟩ := in_f (by omega) c1
    by_cases c2 : an A = 160
    · rw [if_pos c2]
      have rf := r_ref (k := 2) hT (by omega)
      rw [if_neg (by decide)] at rf
      refine RO_err hR (by omega) ?_
      unfold fX7_append
      simp (disch := first | assumption | ((repeat apply RefT.s) <;> assumption) | omega) only [nl, nI_add, pk_mul, Option.bind_some, zb2_some, nI_le_t, nI_le_f, nI_lt_t, nI_lt_f, nI_eq_t, nI_eq_f, nI_m1, nI_em1, ↓reduceIte, Nat.add_zero, nI_n9, hT.1, pin, qI, r2, c2, rf]
    · rw [if_neg c2, f3]
      have rf := r_ref (k := 0) hT (by omega)
      rw [if_pos rfl] at rf
      have hT1 : RefT (zsI h m 0 (nI 0)) m := hT.s
      have i2 : zI (zsI h m 0 (nI 0)) m 2 = nI (an A) := by rw [sI_k (by omega)]; exact r2
      have wr : zbI (zsI h m 0 (nI 0)) (m + 1) (nI (an A)) (nI k) = some (zsI (zsI h m 0 (nI 0)) (m + 1) (an A) (nI k)) := qb1 hT1 (by omega)
      have hT2 : RefT (zsI (zsI h m 0 (nI 0)) (m + 1) (an A) (nI k)) m := hT1.s
      have j2 : zI (zsI (zsI h m 0 (nI 0)) (m + 1) (an A) (nI k)) m 2 = nI (an A) := by rw [sI_a (by omega)]; exact i2
      have hT3 : RefT (zsI (zsI (zsI h m 0 (nI 0)) (m + 1) (an A) (nI k)) m 2 (nI (an A + 1))) m := hT2.s
      have k2 : zI (zsI (zsI (zsI h m 0 (nI 0)) (m + 1) (an A) (nI k)) m 2 (nI (an A + 1))) m 2 = nI (an A + 1) := sI_at
      have o : ∀ a, a ≠ m → a ≠ m + 1 → zI (zsI (zsI (zsI h m 0 (nI 0)) (m + 1) (an A) (nI k)) m 2 (nI (an A + 1))) a = zI h a := fun a h1 h2 => by rw [sI_a h1, sI_a h2, sI_a h1]
      have om : ∀ j, j ≠ 0 → j ≠ 2 → zI (zsI (zsI (zsI h m 0 (nI 0)) (m + 1) (an A) (nI k)) m 2 (nI (an A + 1))) m j = zI h m j := fun j h0 h1 => by rw [sI_k h1, sI_a (by omega), sI_k h0]
      refine ⟨nI (an A + 1), zsI (zsI (zsI h m 0 (nI 0)) (m + 1) (an A) (nI k)) m 2 (nI (an A + 1)), ?_, fun _ => rfl, ?_, ?_, ⟨rfl, rfl, rfl, fun a ha => ⟨o a (by omega) (by omega), rfl⟩⟩⟩
      · subst f2
        unfold fX7_append
        simp (disch := first | assumption | ((repeat apply RefT.s) <;> assumption) | omega) only [nl, nI_add, pk_mul, Option.bind_some, zb2_some, nI_le_t, nI_le_f, nI_lt_t, nI_lt_f, nI_eq_t, nI_eq_f, nI_m1, nI_em1, ↓reduceIte, Nat.add_zero, nI_n9, hT.1, pin, qI, r2, rf, qg1, i2, wr, j2, qp, k2]
      · rw [sI_k (by omega), sI_a (by omega), sI_at]
      · refine ⟨hT3, ⟨k2, fun i hi => ?_⟩, ?_, by rw [o _ (by omega) (by omega)]; exact r5, by rw [om 28 (by omega) (by omega)]; exact r6, fun i hi j hj => by rw [o _ (by omega) (by omega)]; exact r7 i hi j hj, fun i hi => by rw [o _ (by omega) (by omega)]; exact r8 i hi, fun i hi f j hj => by rw [o _ (by omega) (by omega)]; exact r9 i hi f j hj, ?_⟩
        · have hi : i < an A + 1 := hi
          show _ = nI (va_up (aT A) (an A) k i)
          rw [sI_a (by omega)]
          by_cases q : i = an A
          · rw [q, sI_at, up_at]
          · rw [sI_k q, sI_a (by omega), up_b q]
            exact r3 i (by omega)
        · unfold RBd
          rw [om 4 (by omega) (by omega), om 5 (by omega) (by omega), om 6 (by omega) (by omega), o (m + 2) (by omega) (by omega), o (m + 3) (by omega) (by omega), o (m + 4) (by omega) (by omega), o (m + 5) (by omega) (by omega), o (m + 6) (by omega) (by omega), o (m + 7) (by omega) (by omega)]
          exact r4
        · unfold Scr
          rw [o _ (by omega) (by omega), o _ (by omega) (by omega), o _ (by omega) (by omega), o _ (by omega) (by omega), o _ (by omega) (by omega)]
          exact ⟨s1, s2, s3, s4, s5⟩
end RGET
