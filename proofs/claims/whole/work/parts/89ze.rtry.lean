/-! pure: the reference's tries -/
def tryR (A : zSt) (k : Nat) (τ : zN') (x y : Int32) : Option zN' := if k = 1 then (if outI x (anf A) then none else if ¬ newSz y then none else ncopy τ (cl x) (cl y)) else if k = 2 then (if outI x (anf A) then none else if ¬ newSz y then none else noffer τ (cl x) (cl y)) else if outI x (τ 0) then none else if outI y (anp A) then none else match away A τ (cl x) (cl y) with
  | none => none
  | some w => some (npaste τ (cl x) w)
/-- what a try does to the row of tries -/
def OnR (h : zH) (m : Nat) (A : zSt) (τ : zN') (r : Option (Int32 × zH)) (o : Option zN') : Prop := (o = none → ∃ c g, 1 ≤ c ∧ c < 10 ∧ r = some (nI c, g) ∧ RI g m A ∧ zI g (m + 23) = zI h (m + 23) ∧ Fr m (m + 24) h g ∧ zI g m 0 = zI h m 0) ∧ ∀ τ', o = some τ' → ∃ g, r = some (nI 0, g) ∧ RI g m A ∧ zI g (m + 23) = zI h (m + 23) ∧ Fr m (m + 24) h g ∧ zI g m 0 = zI h m 0 ∧ zI g (m + 16) = nr τ' ∧ rok (anf A) (anc A) τ' ∧ τ' 1 = τ 1 + 1
section RTRY
variable {h : zH} {m : Nat} {A : zSt} {τ : zN'}
theorem RI_sp (hR : RI h m A) (hz : rz τ) : RI (zrow h (m + 23) (nr τ)) m A := by
  obtain ⟨-, -, -, -, -, -, -, -, s1, s2, s3, s4, s5⟩ := id hR
  refine RI_keep hR rfl rfl rfl (fun a ha => rw_a (by omega)) (fun k _ => by rw [rw_a (by omega)]) ⟨?_, ?_, ⟨τ, rw_at, hz⟩, ?_, ?_⟩
  · rw [rw_a (by omega)]; exact s1
  · rw [rw_a (by omega)]; exact s2
  · rw [rw_a (by omega)]; exact s4
  · rw [rw_a (by omega)]; exact s5
theorem fr23 {r : Nat → Int32} : Fr m (m + 24) h (zrow h (m + 23) r) := (FrI.row (by omega) (by omega)).fr
theorem o_copy (hR : RI h m A) (hO : bOK (anf A) (anc A) (anp A) (afr A) (att A) (agr A) (alo A) (aac A) (ali A)) (e16 : zI h (m + 16) = nr τ) (tr : rok (anf A) (anc A) τ) (ht : τ 1 + 1 < 10000) (x y : Int32) : OnR h m A τ (fX7_copyOn h m (m + 16) x y) (tryR A 1 τ x y) := by
  have hT := hR.1
  have n8 := hO.1.1
  have n20 := hO.1.2.1
  have isf : fX7_isFormat h m x = some (if x < 0 ∨ nI (anf A) ≤ x then 0 else 1, h) := m_isFormat (h := h) (I := zI h) hT.1 hR.2.2.1.1 n8 x
  have pin := p_in9999 h y
  unfold tryR
  rw [if_pos rfl]
  by_cases c1 : outI x (anf A)
  · rw [if_pos c1] at isf ⊢
    refine ⟨fun _ => ⟨1, h, by omega, by omega, ?_, hR, rfl, Fr.rf, rfl⟩, fun _ q => (by cases q)⟩
    unfold fX7_copyOn
    simp (disch := first | assumption | ((repeat apply RefT.s) <;> assumption) | omega) only [nl, nI_add, pk_mul, Option.bind_some, zb2_some, nI_le_t, nI_le_f, nI_lt_t, nI_lt_f, nI_eq_t, nI_eq_f, nI_m1, nI_em1, ↓reduceIte, Nat.add_zero, nI_n9, hT.1, isf]
  · rw [if_neg c1] at isf ⊢
    obtain ⟨f, f1, f2, f3⟩ := in_f (by omega) c1
    by_cases c2 : newSz y
    · have c2' : ¬ ¬ newSz y := fun z => z c2
      rw [if_neg c2']
      obtain ⟨b, b1, b2, b3, b4⟩ := in_sz c2
      rw [f3, b4, f2, b3]
      have co := n_copyOnZ (h := h) (I := zI h) (m := m) (a := m + 16) (f := f) (b := b) hT.1 hR.2.2.1.1 n8 (rk16 hT) (rl16 hT) e16 tr.1 tr.2.1 ht f1 b1 b2
      refine ⟨fun hc => ?_, fun τ' hc => ?_⟩
      · obtain ⟨ρ3, q1, q2⟩ := co.2 hc
        exact ⟨3, zrow h (m + 16) (nr ρ3), by omega, by omega, q1, RI_try hR q2, rw_a (by omega), fr16, by rw [rw_a (by omega)]⟩
      · obtain ⟨k1, k2, k3⟩ := rok_copy tr n20 ht f1 n8 ⟨b1, b2⟩ hc
        exact ⟨zrow h (m + 16) (nr τ'), co.1 τ' hc, RI_try hR k1.2.1, rw_a (by omega), fr16, by rw [rw_a (by omega)], rw_at, k1, k2⟩
    · rw [if_pos c2]
      rw [if_neg c2] at pin
      refine ⟨fun _ => ⟨2, h, by omega, by omega, ?_, hR, rfl, Fr.rf, rfl⟩, fun _ q => (by cases q)⟩
      unfold fX7_copyOn
      simp (disch := first | assumption | ((repeat apply RefT.s) <;> assumption) | omega) only [nl, nI_add, pk_mul, Option.bind_some, zb2_some, nI_le_t, nI_le_f, nI_lt_t, nI_lt_f, nI_eq_t, nI_eq_f, nI_m1, nI_em1, ↓reduceIte, Nat.add_zero, nI_n9, hT.1, isf, pin]
theorem o_offer (hR : RI h m A) (hO : bOK (anf A) (anc A) (anp A) (afr A) (att A) (agr A) (alo A) (aac A) (ali A)) (e16 : zI h (m + 16) = nr τ) (tr : rok (anf A) (anc A) τ) (ht : τ 1 + 1 < 10000) (x y : Int32) : OnR h m A τ (fX7_offerOn h m (m + 16) x y) (tryR A 2 τ x y) := by
  have hT := hR.1
  have n8 := hO.1.1
  have n20 := hO.1.2.1
  have isf : fX7_isFormat h m x = some (if x < 0 ∨ nI (anf A) ≤ x then 0 else 1, h) := m_isFormat (h := h) (I := zI h) hT.1 hR.2.2.1.1 n8 x
  have pin := p_in9999 h y
  unfold tryR
  rw [if_neg (by decide), if_pos rfl]
  by_cases c1 : outI x (anf A)
  · rw [if_pos c1] at isf ⊢
    refine ⟨fun _ => ⟨1, h, by omega, by omega, ?_, hR, rfl, Fr.rf, rfl⟩, fun _ q => (by cases q)⟩
    unfold fX7_offerOn
    simp (disch := first | assumption | ((repeat apply RefT.s) <;> assumption) | omega) only [nl, nI_add, pk_mul, Option.bind_some, zb2_some, nI_le_t, nI_le_f, nI_lt_t, nI_lt_f, nI_eq_t, nI_eq_f, nI_m1, nI_em1, ↓reduceIte, Nat.add_zero, nI_n9, hT.1, isf]
  · rw [if_neg c1] at isf ⊢
    obtain ⟨f, f1, f2, f3⟩ := in_f (by omega) c1
    by_cases c2 : newSz y
    · have c2' : ¬ ¬ newSz y := fun z => z c2
      rw [if_neg c2']
      obtain ⟨b, b1, b2, b3, b4⟩ := in_sz c2
      rw [f3, b4, f2, b3]
      have co := n_offerOnZ (h := h) (I := zI h) (m := m) (a := m + 16) (f := f) (b := b) hT.1 hR.2.2.1.1 n8 (rk16 hT) (rl16 hT) e16 tr.1 tr.2.1 ht f1 b1 b2
      refine ⟨fun hc => ?_, fun τ' hc => ?_⟩
      · obtain ⟨ρ3, q1, q2⟩ := co.2 hc
        exact ⟨3, zrow h (m + 16) (nr ρ3), by omega, by omega, q1, RI_try hR q2, rw_a (by omega), fr16, by rw [rw_a (by omega)]⟩
      · obtain ⟨k1, k2⟩ := rok_offer tr n20 ht f1 n8 ⟨b1, b2⟩ hc
        exact ⟨zrow h (m + 16) (nr τ'), co.1 τ' hc, RI_try hR k1.2.1, rw_a (by omega), fr16, by rw [rw_a (by omega)], rw_at, k1, k2⟩
    · rw [if_pos c2]
      rw [if_neg c2] at pin
      refine ⟨fun _ => ⟨2, h, by omega, by omega, ?_, hR, rfl, Fr.rf, rfl⟩, fun _ q => (by cases q)⟩
      unfold fX7_offerOn
      simp (disch := first | assumption | ((repeat apply RefT.s) <;> assumption) | omega) only [nl, nI_add, pk_mul, Option.bind_some, zb2_some, nI_le_t, nI_le_f, nI_lt_t, nI_lt_f, nI_eq_t, nI_eq_f, nI_m1, nI_em1, ↓reduceIte, Nat.add_zero, nI_n9, hT.1, isf, pin]
theorem o_paste (hR : RI h m A) (hO : bOK (anf A) (anc A) (anp A) (afr A) (att A) (agr A) (alo A) (aac A) (ali A)) (e16 : zI h (m + 16) = nr τ) (tr : rok (anf A) (anc A) τ) (ht : τ 1 + 1 < 10000) (x y : Int32) : OnR h m A τ (fX7_pasteOn h m (m + 16) x y) (tryR A 3 τ x y) := by
  have hT := hR.1
  have n8 := hO.1.1
  have n20 := hO.1.2.1
  have n6 := hO.2.2.1
  have c12 := tr.1.1
  have ise : fX7_isEntry h (m + 16) x = some (if x < 0 ∨ nI (τ 0) ≤ x then 0 else 1, h) := p_isEntry (h := h) (I := zI h) x (rk16 hT) (rl16 hT) c12 (by rw [e16]; rfl)
  have isp : fX7_isPlace h m y = some (if y < 0 ∨ nI (anp A) ≤ y then 0 else 1, h) := m_isPlace (h := h) (I := zI h) hT.1 hR.2.2.1.2.2.1 n6 y
  unfold tryR
  rw [if_neg (by decide), if_neg (by decide)]
  by_cases c1 : outI x (τ 0)
  · rw [if_pos c1] at ise ⊢
    refine ⟨fun _ => ⟨1, h, by omega, by omega, ?_, hR, rfl, Fr.rf, rfl⟩, fun _ q => (by cases q)⟩
    unfold fX7_pasteOn
    rw [if_pos hT.1, ise, zb2_some, if_pos rfl]
    rfl
  · rw [if_neg c1] at ise ⊢
    obtain ⟨e, f1, f2, f3⟩ := in_f (by omega) c1
    by_cases c2 : outI y (anp A)
    · rw [if_pos c2] at isp ⊢
      refine ⟨fun _ => ⟨1, h, by omega, by omega, ?_, hR, rfl, Fr.rf, rfl⟩, fun _ q => (by cases q)⟩
      unfold fX7_pasteOn
      rw [if_pos hT.1, ise, zb2_some, if_neg (by decide), isp, zb2_some, if_pos rfl]
      rfl
    · rw [if_neg c2] at isp ⊢
      obtain ⟨p, p1, p2, p3⟩ := in_f (by omega) c2
      rw [f3, p3, f2, p2]
      obtain ⟨-, -, rB, -, -, -, -, -, s1, ⟨os, s2, s2z⟩, s3, ⟨ot, s4⟩, ⟨od, s5⟩⟩ := id hR
      have co := n_pasteOn (h := h) (I := zI h) (m := m) (q := m + 16) (e := e) (p := p) hT rB hO s4 s5 s2 s2z tr.2.1 (by omega) (by omega) (by omega) (by omega) (rk16 hT) (rl16 hT) e16 tr.2.2.1 tr.1 (by omega) (by omega) p1
      cases hw : away A τ e p with
      | none =>
        have hw' : nway (afr A) (att A) (agr A) (alo A) (aac A) (ali A) (anc A) (anf A) τ e p = none := hw
        rw [hw'] at co
        obtain ⟨I', q1, q2⟩ := co
        exact ⟨fun _ => ⟨2, zw h I', by omega, by omega, q1, RI_rfr hR q2, q2.1 (m + 23) (by omega) (by omega) (by omega), fr_rfr q2, q2.2.1 0 (by omega)⟩, fun _ q => (by cases q)⟩
      | some w =>
        have hw' : nway (afr A) (att A) (agr A) (alo A) (aac A) (ali A) (anc A) (anf A) τ e p = some w := hw
        rw [hw'] at co
        obtain ⟨I', q1, q2, q3, q4⟩ := co
        obtain ⟨k1, k2⟩ := rok_paste hO tr ht f1 hw'
        refine ⟨fun q => (by cases q), fun τ' hc => ?_⟩
        have hc' : npaste τ e w = τ' := Option.some.inj hc
        subst hc'
        exact ⟨zw h I', q1, RI_rfp hR q2 q3 k1.2.1, q2.1 (m + 23) (by omega) (by omega) (by omega) (by omega) (by omega), fr_rfp q2, q2.2.1 0 (by omega), q3, k1, k2⟩
end RTRY
