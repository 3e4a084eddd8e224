/-! pure: the reference's other actions -/
def offerS (A : zSt) (x y : Int32) : zAn := if outI x (anf A) then (1, 0, A) else if ¬ newSz y then (2, 0, A) else match noffer (atg A) (cl x) (cl y) with
  | none => (3, 0, A)
  | some ρ' => (0, nI (nus ρ' (ρ' 0)), anew A ρ')
def away (A : zSt) (ρ : zN') (e p : Nat) : Option (Nat × Nat × Nat × Nat × Nat) := nway (afr A) (att A) (agr A) (alo A) (aac A) (ali A) (anc A) (anf A) ρ e p
def pasteS (A : zSt) (x y : Int32) : zAn := if outI x (aρ A 0) then (1, 0, A) else if outI y (anp A) then (1, 0, A) else match away A (atg A) (cl x) (cl y) with
  | none => (2, 0, A)
  | some w => (0, nI w.2.2.1, anew A (npaste (atg A) (cl x) w))
section RACTS2
variable {h h' : zH} {m : Nat} {A : zSt}
theorem r_offer {t : Nat} (hR : RI h m A) (hA : AI t A) (ht : t < 9000) (x y : Int32) : RO h m (fX7_offer h m x y) (offerS A x y) := by
  obtain ⟨a1, hO, ⟨a3, a3t⟩, a4, a5, a6⟩ := hA
  have n8 := hO.1.1
  have n20 := hO.1.2.1
  have tn := r_tryNow hR a3
  have tr := atg_rok a3 n20
  have R1 := RI_try (τ := atg A) hR tr.2.1
  have hT := hR.1
  have hT1 := R1.1
  have e16 : zI (zrow h (m + 16) (nr (atg A))) (m + 16) = nr (atg A) := rw_at
  have tt : atg A 1 = aρ A 1 := ntg_h (by omega)
  have tn' : fX7_tryNow h m = some (zrow h (m + 16) (nr (atg A))) := tn
  have F1 : Fr m (m + 24) h (zrow h (m + 16) (nr (atg A))) := fr16
  generalize zrow h (m + 16) (nr (atg A)) = g at *
  have isf : fX7_isFormat g m x = some (if x < 0 ∨ nI (anf A) ≤ x then 0 else 1, g) := m_isFormat (h := g) (I := zI g) hT1.1 R1.2.2.1.1 n8 x
  have no : ∀ k g', k ≠ 0 → k < 10 → fX7_offerOn g m (m + 16) x y = some (nI k, g') → RI g' m A → Fr m (m + 24) h g' → RO h m (fX7_offer h m x y) (k, 0, A) := fun k g' h0 h10 co R' F' => by
    have rf := r_ref (k := k) R'.1 (by omega)
    rw [if_neg h0] at rf
    have e : fX7_offer h m x y = some (nI 0, zsI g' m 0 (nI k)) := by
      unfold fX7_offer
      simp (disch := first | assumption | ((repeat apply RefT.s) <;> assumption) | omega) only [nl, nI_add, pk_mul, Option.bind_some, zb2_some, nI_le_t, nI_le_f, nI_lt_t, nI_lt_f, nI_eq_t, nI_eq_f, nI_m1, nI_em1, ↓reduceIte, Nat.add_zero, nI_n9, hT.1, tn', qg16, co, rf]
    rw [e]
    exact RO_no R' F' rfl h0
  unfold offerS
  by_cases c1 : outI x (anf A)
  · rw [if_pos c1] at isf ⊢
    refine no 1 g (by omega) (by omega) ?_ R1 F1
    unfold fX7_offerOn
    simp (disch := first | assumption | ((repeat apply RefT.s) <;> assumption) | omega) only [nl, nI_add, pk_mul, Option.bind_some, zb2_some, nI_le_t, nI_le_f, nI_lt_t, nI_lt_f, nI_eq_t, nI_eq_f, nI_m1, nI_em1, ↓reduceIte, Nat.add_zero, nI_n9, hT1.1, isf]
  · rw [if_neg c1] at isf ⊢
    obtain ⟨f, f1, f2, f3⟩ := in_f (by omega) c1
    have pin := p_in9999 g y
    by_cases c2 : newSz y
    · have c2' : ¬ ¬ newSz y := fun z => z c2
      rw [if_neg c2']
      obtain ⟨b, b1, b2, b3, b4⟩ := in_sz c2
      rw [f3, b4]
      have hl : zln g (m + 16) = 360 := rl16 hT1
      have co := n_offerOnZ (h := g) (I := zI g) (m := m) (a := m + 16) (f := f) (b := b) hT1.1 R1.2.2.1.1 n8 (rk16 hT1) hl e16 tr.1 tr.2.1 (by omega) f1 b1 b2
      cases hc : noffer (atg A) f b with
      | none =>
        obtain ⟨ρ3, q1, q2⟩ := co.2 hc
        refine no 3 (zrow g (m + 16) (nr ρ3)) (by omega) (by omega) ?_ (RI_try R1 q2) (F1.tr fr16)
        rw [f2, b3]
        exact q1
      | some ρ' =>
        have q1 := co.1 ρ' hc
        obtain ⟨k1, k2⟩ := rok_offer tr n20 (by omega) f1 n8 ⟨b1, b2⟩ hc
        have co' : fX7_offerOn g m (m + 16) x y = some (nI 0, zrow g (m + 16) (nr ρ')) := by
          rw [f2, b3]
          exact q1
        have R2 := RI_0 (v := nI 0) (RI_try (τ := ρ') R1 k1.2.1)
        have rf := r_ref (h := zrow g (m + 16) (nr ρ')) (k := 0) hT1.r (by omega)
        rw [if_pos rfl] at rf
        obtain ⟨h8, d1, d2, d3, d4⟩ := r_accept (τ := ρ') R2 a4 (by rw [sI_a (by omega), rw_at]) k1.2.1 a3.2.1
        have us : fX7_used h8 (m + 15) = some (nI (nus ρ' (ρ' 0)), h8) := n_used (h := h8) (I := zI h8) (rk15 d2.1) (rl15 d2.1) d2.2.2.2.1 k1.1.1
        have hT8 := d2.1
        refine ⟨nI (nus ρ' (ρ' 0)), h8, ?_, fun _ => rfl, ?_, d2, ((F1.tr fr16).tr fr0).tr d3⟩
        · unfold fX7_offer
          simp (disch := first | assumption | ((repeat apply RefT.s) <;> assumption) | omega) only [nl, nI_add, pk_mul, Option.bind_some, zb2_some, nI_le_t, nI_le_f, nI_lt_t, nI_lt_f, nI_eq_t, nI_eq_f, nI_m1, nI_em1, ↓reduceIte, Nat.add_zero, nI_n9, hT.1, tn', qg16, co', rf, d1, qg15, us]
        · rw [d4 0 (by omega), sI_at]
    · rw [if_pos c2]
      have pin' : fX7_in g y.toInt64 1 9999 = some (0, g) := by rw [pin, if_neg c2]
      refine no 2 g (by omega) (by omega) ?_ R1 F1
      unfold fX7_offerOn
      simp (disch := first | assumption | ((repeat apply RefT.s) <;> assumption) | omega) only [nl, nI_add, pk_mul, Option.bind_some, zb2_some, nI_le_t, nI_le_f, nI_lt_t, nI_lt_f, nI_eq_t, nI_eq_f, nI_m1, nI_em1, ↓reduceIte, Nat.add_zero, nI_n9, hT1.1, isf, pin']
theorem RI_rfr {I' : Nat → Nat → Int32} (hR : RI h m A) (f : rfr m (zI h) I') : RI (zw h I') m A := by
  obtain ⟨-, -, -, -, -, -, -, -, s1, s2, s3, s4, s5⟩ := id hR
  obtain ⟨f1, f2, f3, f4⟩ := f
  refine RI_keep hR rfl rfl rfl (fun a ha => f1 a (by omega) (by omega) (by omega)) (fun k hk => f2 k (by omega)) ?_
  unfold Scr
  rw [zw_I, f1 (m + 16) (by omega) (by omega) (by omega), f1 (m + 17) (by omega) (by omega) (by omega), f1 (m + 23) (by omega) (by omega) (by omega)]
  exact ⟨s1, s2, s3, f3, f4⟩
theorem fr_rfr {I' : Nat → Nat → Int32} (f : rfr m (zI h) I') : Fr m (m + 24) h (zw h I') := Fr.wI (fun a ha => f.1 a (by omega) (by omega) (by omega))
theorem RI_rfp {I' : Nat → Nat → Int32} {τ : zN'} (hR : RI h m A) (f : rfp m (m + 16) (zI h) I') (e : I' (m + 16) = nr τ) (hz : rz τ) : RI (zw h I') m A := by
  obtain ⟨-, -, -, -, -, -, -, -, s1, s2, s3, s4, s5⟩ := id hR
  obtain ⟨f1, f2, f3, f4, f5⟩ := f
  refine RI_keep hR rfl rfl rfl (fun a ha => f1 a (by omega) (by omega) (by omega) (by omega) (by omega)) (fun k hk => f2 k (by omega)) ?_
  unfold Scr
  rw [zw_I, f1 (m + 23) (by omega) (by omega) (by omega) (by omega) (by omega)]
  exact ⟨⟨τ, e, hz⟩, f5, s3, f3, f4⟩
theorem fr_rfp {I' : Nat → Nat → Int32} (f : rfp m (m + 16) (zI h) I') : Fr m (m + 24) h (zw h I') := Fr.wI (fun a ha => f.1 a (by omega) (by omega) (by omega) (by omega) (by omega))
theorem r_paste {t : Nat} (hR : RI h m A) (hA : AI t A) (ht : t < 9000) (x y : Int32) : RO h m (fX7_paste h m x y) (pasteS A x y) := by
  obtain ⟨a1, hO, ⟨a3, a3t⟩, a4, a5, a6⟩ := hA
  have n8 := hO.1.1
  have n20 := hO.1.2.1
  have n6 := hO.2.2.1
  have tn := r_tryNow hR a3
  have tr := atg_rok a3 n20
  have R1 := RI_try (τ := atg A) hR tr.2.1
  have hT := hR.1
  have hT1 := R1.1
  have e16 : zI (zrow h (m + 16) (nr (atg A))) (m + 16) = nr (atg A) := rw_at
  have tt : atg A 1 = aρ A 1 := ntg_h (by omega)
  have t0 : atg A 0 = aρ A 0 := ntg_h (by omega)
  have tn' : fX7_tryNow h m = some (zrow h (m + 16) (nr (atg A))) := tn
  have F1 : Fr m (m + 24) h (zrow h (m + 16) (nr (atg A))) := fr16
  generalize zrow h (m + 16) (nr (atg A)) = g at *
  have c12 := a3.1.1
  have hl : zln g (m + 16) = 360 := rl16 hT1
  have ise : fX7_isEntry g (m + 16) x = some (if x < 0 ∨ nI (aρ A 0) ≤ x then 0 else 1, g) := p_isEntry (h := g) (I := zI g) x (rk16 hT1) hl c12 (by rw [e16]; show nI (atg A 0) = _; rw [t0])
  have isp : fX7_isPlace g m y = some (if y < 0 ∨ nI (anp A) ≤ y then 0 else 1, g) := m_isPlace (h := g) (I := zI g) hT1.1 R1.2.2.1.2.2.1 n6 y
  have no : ∀ k g', k ≠ 0 → k < 10 → fX7_pasteOn g m (m + 16) x y = some (nI k, g') → RI g' m A → Fr m (m + 24) h g' → RO h m (fX7_paste h m x y) (k, 0, A) := fun k g' h0 h10 co R' F' => by
    have rf := r_ref (k := k) R'.1 (by omega)
    rw [if_neg h0] at rf
    have e : fX7_paste h m x y = some (nI 0, zsI g' m 0 (nI k)) := by
      unfold fX7_paste
      simp (disch := first | assumption | ((repeat apply RefT.s) <;> assumption) | omega) only [nl, nI_add, pk_mul, Option.bind_some, zb2_some, nI_le_t, nI_le_f, nI_lt_t, nI_lt_f, nI_eq_t, nI_eq_f, nI_m1, nI_em1, ↓reduceIte, Nat.add_zero, nI_n9, hT.1, tn', qg16, co, rf]
    rw [e]
    exact RO_no R' F' rfl h0
  unfold pasteS
  by_cases c1 : outI x (aρ A 0)
  · rw [if_pos c1] at ise ⊢
    refine no 1 g (by omega) (by omega) ?_ R1 F1
    unfold fX7_pasteOn
    rw [if_pos hT1.1, ise, zb2_some, if_pos rfl]
    rfl
  · rw [if_neg c1] at ise ⊢
    obtain ⟨e, f1, f2, f3⟩ := in_f (by omega) c1
    by_cases c2 : outI y (anp A)
    · rw [if_pos c2] at isp ⊢
      refine no 1 g (by omega) (by omega) ?_ R1 F1
      unfold fX7_pasteOn
      rw [if_pos hT1.1, ise, zb2_some, if_neg (by decide), isp, zb2_some, if_pos rfl]
      rfl
    · rw [if_neg c2] at isp ⊢
      obtain ⟨p, p1, p2, p3⟩ := in_f (by omega) c2
      rw [f3, p3]
      obtain ⟨-, -, rB, -, -, -, -, -, s1, ⟨os, s2, s2z⟩, s3, ⟨ot, s4⟩, ⟨od, s5⟩⟩ := id R1
      have co := n_pasteOn (h := g) (I := zI g) (m := m) (q := m + 16) (e := e) (p := p) hT1 rB hO s4 s5 s2 s2z tr.2.1 (by omega) (by omega) (by omega) (by omega) (rk16 hT1) hl e16 tr.2.2.1 tr.1 (by omega) (by omega) p1
      cases hw : away A (atg A) e p with
      | none =>
        have hw' : nway (afr A) (att A) (agr A) (alo A) (aac A) (ali A) (anc A) (anf A) (atg A) e p = none := hw
        rw [hw'] at co
        obtain ⟨I', q1, q2⟩ := co
        refine no 2 (zw g I') (by omega) (by omega) ?_ (RI_rfr R1 q2) (F1.tr (fr_rfr q2))
        rw [f2, p2]
        exact q1
      | some w =>
        have hw' : nway (afr A) (att A) (agr A) (alo A) (aac A) (ali A) (anc A) (anf A) (atg A) e p = some w := hw
        rw [hw'] at co
        obtain ⟨I', q1, q2, q3, q4⟩ := co
        obtain ⟨k1, k2⟩ := rok_paste hO tr (by omega) (by omega) hw'
        have co' : fX7_pasteOn g m (m + 16) x y = some (nI 0, zw g I') := by
          rw [f2, p2]
          exact q1
        have R2' := RI_rfp R1 q2 q3 k1.2.1
        have R2 := RI_0 (v := nI 0) R2'
        have rf := r_ref (h := zw g I') (k := 0) R2'.1 (by omega)
        rw [if_pos rfl] at rf
        obtain ⟨h8, d1, d2, d3, d4⟩ := r_accept (τ := npaste (atg A) e w) R2 a4 (by rw [sI_a (by omega), zw_I, q3]) k1.2.1 a3.2.1
        have hT8 := d2.1
        have i34 : zI h8 m 34 = nI w.2.2.1 := by rw [d4 34 (by omega), sI_k (by omega), zw_I, q4]
        refine ⟨nI w.2.2.1, h8, ?_, fun _ => rfl, ?_, d2, ((F1.tr (fr_rfp q2)).tr fr0).tr d3⟩
        · unfold fX7_paste
          simp (disch := first | assumption | ((repeat apply RefT.s) <;> assumption) | omega) only [nl, nI_add, pk_mul, Option.bind_some, zb2_some, nI_le_t, nI_le_f, nI_lt_t, nI_lt_f, nI_eq_t, nI_eq_f, nI_m1, nI_em1, ↓reduceIte, Nat.add_zero, nI_n9, hT.1, tn', qg16, co', rf, d1, qI, i34]
        · rw [d4 0 (by omega), sI_at]
end RACTS2
