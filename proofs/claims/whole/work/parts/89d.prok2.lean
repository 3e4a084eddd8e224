/-! pure: what rows keep to, pasting and the rest -/
section PROK2
variable {nf nc np : Nat} {ρ ρ' : zN'} {fr tt gr lo ac li : zN'} {cm : Nat → Nat → Nat}
theorem plo_le {b : Nat} (hO : bOK nf nc np fr tt gr lo ac li) (hc : cok cm nf) (hf : cfr fr tt nc cm) : ∀ s f, f < nf → fD 16 cm nf f b < fINF → pst cm nf f b = s → plo lo (pcv fr tt nc cm nf b) (fun f => pn cm nf f b) s f ≤ 9 * s := by
  intro s
  induction s with
  | zero => intro f _ _ _; exact Nat.le_refl _
  | succ s ih =>
    intro f hf' hr hp
    have hab : f ≠ b := fun z => by have := (pst_0 hc hf' hr).mpr z; omega
    obtain ⟨g1, g2, g3, g4, g5, g6, -⟩ := pn_step hc hf' hab hr
    obtain ⟨p1, p2, p3, p4⟩ := pcv_is hO.1 hf hc hf' hab hr
    have l9 := (hO.2.2.2.1 _ p2).2.2
    have := ih (pn cm nf f b) g2 g5 (by omega)
    show lo (pcv fr tt nc cm nf b f) + plo lo (pcv fr tt nc cm nf b) (fun f => pn cm nf f b) s (pn cm nf f b) ≤ 9 * (s + 1)
    omega
theorem psi_ge {b : Nat} (hO : bOK nf nc np fr tt gr lo ac li) (hc : cok cm nf) (hf : cfr fr tt nc cm) : ∀ s f v, 1 ≤ v → f < nf → fD 16 cm nf f b < fINF → pst cm nf f b = s → 1 ≤ psi gr (pcv fr tt nc cm nf b) (fun f => pn cm nf f b) s f v := by
  intro s
  induction s with
  | zero => intro f v hv _ _ _; exact hv
  | succ s ih =>
    intro f v hv hf' hr hp
    have hab : f ≠ b := fun z => by have := (pst_0 hc hf' hr).mpr z; omega
    obtain ⟨g1, g2, g3, g4, g5, g6, -⟩ := pn_step hc hf' hab hr
    obtain ⟨p1, p2, p3, p4⟩ := pcv_is hO.1 hf hc hf' hab hr
    have l1 := (hO.2.2.2.1 _ p2).1
    have m : 1 * 1 ≤ v * gr (pcv fr tt nc cm nf b f) := Nat.mul_le_mul hv l1
    refine ih (pn cm nf f b) _ ?_ g2 g5 (by omega)
    unfold gw
    split <;> omega
theorem nway_ok {e p : Nat} {w : Nat × Nat × Nat × Nat × Nat} (hO : bOK nf nc np fr tt gr lo ac li) (hr : rcs nc ρ) (ho : eok ρ e) (hw : nway fr tt gr lo ac li nc nf ρ e p = some w) : w.2.1 < nf ∧ w.2.2.1 < nf ∧ 1 ≤ w.2.2.2.1 ∧ w.2.2.2.1 ≤ 99999 ∧ w.2.2.2.2 ≤ 63 * ρ 1 + 63 := by
  have hc : cok (rcm fr tt nc ρ) nf := cok_cmt hO.1 (fun c hc => (hr c hc).2)
  have hf : cfr fr tt nc (rcm fr tt nc ρ) := cfr_cmt
  have hn := hc.1
  have lt := nway_lt hn ho hw
  unfold nway at hw
  have W := wD (D := fD 16 (rcm fr tt nc ρ) nf) (sz := fun a b => psize fr tt gr nc (rcm fr tt nc ρ) nf a b (ρ (24 + 28 * e + a))) (acc := ac p) (lim := li p) (nf := nf) (kd := fun a => ρ (24 + 28 * e + 16 + a)) nf (Nat.le_refl _)
  have e0 : nwo (fD 16 (rcm fr tt nc ρ) nf) (fun a b => psize fr tt gr nc (rcm fr tt nc ρ) nf a b (ρ (24 + 28 * e + a))) (ac p) (fun a => ρ (24 + 28 * e + 16 + a)) (li p) nf nf = nws fr tt gr ac li nc nf ρ e p nf := rfl
  rw [e0] at W
  generalize nws fr tt gr ac li nc nf ρ e p nf = s at *
  by_cases c : s.1 < fINF
  · rw [if_pos c] at hw
    cases hw
    obtain ⟨w1, w2, -, -⟩ := W c
    obtain ⟨l1, l2, l3, l4⟩ := lt
    have l1 : s.2.1 < nf := l1
    have l4 : ρ (24 + 28 * e + 16 + s.2.1) ≠ 0 := l4
    have rch : fD 16 (rcm fr tt nc ρ) nf s.2.1 s.2.2 < fINF := by omega
    have p7 := pst_7 hc l1 rch
    have v1 : 1 ≤ ρ (24 + 28 * e + s.2.1) := (ho.1 s.2.1 (by have : s.2.1 < nf := l1; omega)).2.2.2.1 l4
    have lb : ρ (24 + 28 * e + 8 + s.2.1) ≤ 63 * ρ 1 := (ho.1 s.2.1 (by have : s.2.1 < nf := l1; omega)).2.2.2.2
    have q1 := psi_ge (b := s.2.2) hO hc hf _ s.2.1 (ρ (24 + 28 * e + s.2.1)) v1 l1 rch rfl
    have q2 := plo_le (b := s.2.2) hO hc hf _ s.2.1 l1 rch rfl
    refine ⟨l1, l2, q1, l3, ?_⟩
    show ρ (24 + 28 * e + 8 + s.2.1) + plo lo (pcv fr tt nc (rcm fr tt nc ρ) nf s.2.2) (fun f => pn (rcm fr tt nc ρ) nf f s.2.2) (pst (rcm fr tt nc ρ) nf s.2.1 s.2.2) s.2.1 ≤ 63 * ρ 1 + 63
    omega
  · rw [if_neg c] at hw
    cases hw
theorem npq_hd {e w j : Nat} (hj : j < 24) (h1 : j ≠ 1) (h2 : j ≠ 2) : npq ρ e w j = ρ j := by
  unfold npq
  rw [up_b (by omega), up_b (by omega), up_b h2, up_b h1]
theorem npq_k {e w i f : Nat} (hf : f < 8) : npq ρ e w (24 + 28 * i + 16 + f) = ρ (24 + 28 * i + 16 + f) := by
  unfold npq
  rw [up_b (by omega), up_b (by omega), up_b (by omega), up_b (by omega)]
theorem npq_1 {e w : Nat} : npq ρ e w 1 = ρ 1 + 1 := by
  unfold npq
  rw [up_b (by omega), up_b (by omega), up_b (by omega), up_at]
theorem rok_paste {e p : Nat} {w : Nat × Nat × Nat × Nat × Nat} (hO : bOK nf nc np fr tt gr lo ac li) (ho : rok nf nc ρ) (ht : ρ 1 + 1 < 10000) (he : e < ρ 0) (hw : nway fr tt gr lo ac li nc nf ρ e p = some w) : rok nf nc (npaste ρ e w) ∧ npaste ρ e w 1 = ρ 1 + 1 := by
  obtain ⟨o1, o2, o3, o4⟩ := ho
  have n8 := hO.1.1
  have n20 := hO.1.2.1
  obtain ⟨w1, w2, w3, w4, w5⟩ := nway_ok hO o3 (o1.2.2.2.2 e he) hw
  have hc := o1.1
  have q1 := nok_npq (w := w.1) o1 ht he
  have q2 := rz_npq (w := w.1) o2 (e := e) (by omega)
  have q0 : npq ρ e w.1 0 = ρ 0 := npq_hd (by omega) (by omega) (by omega)
  have q3 : knf nf (npq ρ e w.1) := fun i f hi hf hn => by
    rw [q0] at hi
    rw [npq_k hf]
    exact o4 i f hi hf hn
  have q4 : ∀ j, 4 ≤ j → j < 24 → npq ρ e w.1 j = ρ j := fun j h1 h2 => npq_hd h2 (by omega) (by omega)
  have q5 : npq ρ e w.1 1 = ρ 1 + 1 := npq_1
  unfold npaste
  generalize npq ρ e w.1 = σ at *
  have D : rok nf nc (npd σ e w.2.2.1 w.2.2.2.1 w.2.2.2.2) ∧ npd σ e w.2.2.1 w.2.2.2.1 w.2.2.2.2 1 = ρ 1 + 1 ∧ npd σ e w.2.2.1 w.2.2.2.1 w.2.2.2.2 0 = ρ 0 := by
    unfold npd
    by_cases k0 : σ (24 + 28 * e + 16 + w.2.2.1) = 0
    · rw [if_pos k0]
      cases hm : nroom w.2.2.2.1 e false σ with
      | none => exact ⟨⟨q1, q2, rcs_hd o3 n20 q4, q3⟩, q5, q0⟩
      | some σ2 =>
        obtain ⟨k1, k2, k3⟩ := nroom_keep q1 hm
        obtain ⟨m0, -⟩ := nmk_same zF _ _ _ (nroom_mk hm)
        have z2 := rz_room q1 q2 hm
        have n2 := knf_room q3 hm
        have e1 : σ2 1 = ρ 1 + 1 := by rw [k3 1 (by omega) (by omega), q5]
        refine ⟨⟨nok_pf k1 (by omega) (by omega) ⟨w3, w4⟩ (by omega) (Or.inr rfl), rz_pf z2 (by omega) (by omega), ?_, knf_pf n2 w2 (by omega)⟩, ?_, ?_⟩
        · refine rcs_hd o3 n20 (fun j h1 h2 => ?_)
          show npf σ2 e w.2.2.1 w.2.2.2.1 w.2.2.2.2 2 j = _
          rw [npf_hd h2, k3 j (by omega) h2, q4 j h1 h2]
        · show npf σ2 e w.2.2.1 w.2.2.2.1 w.2.2.2.2 2 1 = _
          rw [npf_hd (by omega), e1]
        · show npf σ2 e w.2.2.1 w.2.2.2.1 w.2.2.2.2 2 0 = _
          rw [npf_hd (by omega), m0, q0]
    · rw [if_neg k0]
      exact ⟨⟨q1, q2, rcs_hd o3 n20 q4, q3⟩, q5, q0⟩
  generalize npd σ e w.2.2.1 w.2.2.2.1 w.2.2.2.2 = τ at *
  obtain ⟨⟨t1, t2, t3, t4⟩, t5, t6⟩ := D
  refine ⟨⟨nok_front t1 (by omega), rz_front t2 (by omega), rcs_hd t3 n20 (fun j h1 h2 => nfront_hd h2), knf_front t4 (by omega)⟩, ?_⟩
  rw [nfront_hd (by omega), t5]
theorem rok_drop {e : Nat} (ho : rok nf nc ρ) (hn : nc ≤ 20) (he : e < ρ 0) : rok nf nc (ndrop ρ (ρ 0) e) := by
  obtain ⟨o1, o2, o3, o4⟩ := ho
  have hc := o1.1
  exact ⟨nok_drop o1 he, rz_drop o2 he hc, rcs_hd o3 hn (fun j h1 h2 => by rw [ndrop_hd he h2, if_neg (by omega)]), knf_drop o4 he⟩
theorem nok_up {j v : Nat} (ho : nok ρ) (h0 : j ≠ 0) (h1 : j ≠ 1) (h3 : j ≠ 3) (hj : j < 24) : nok (va_up ρ j v) := by
  obtain ⟨n0, n1, n2, n3, n4⟩ := ho
  unfold nok
  rw [up_b (by omega), up_b (by omega), up_b (by omega)]
  exact ⟨n0, n1, n2, n3, fun i hi => eok_en (by rw [up_b (by omega)]; exact Nat.le_refl _) (fun k hk => up_b (by omega)) (n4 i hi)⟩
theorem rok_pin {e : Nat} (ho : rok nf nc ρ) (hn : nc ≤ 20) (he : e < ρ 0) : rok nf nc (va_up ρ (24 + 28 * e + 24) (1 - ρ (24 + 28 * e + 24))) := by
  obtain ⟨o1, o2, o3, o4⟩ := ho
  have hc := o1.1
  refine ⟨?_, rz_up o2 (by omega), rcs_hd o3 hn (fun j h1 h2 => up_b (by omega)), knf_up o4 (fun e f hf => by omega) (by omega)⟩
  obtain ⟨n0, n1, n2, n3, n4⟩ := o1
  unfold nok
  rw [up_b (by omega), up_b (by omega), up_b (by omega)]
  refine ⟨n0, n1, n2, n3, fun i hi => ?_⟩
  by_cases c : i = e
  · subst c
    obtain ⟨a1, a2, a3, a4⟩ := n4 i hi
    refine ⟨fun f hf => ?_, ?_, ?_, ?_⟩
    · rw [up_b (by omega), up_b (by omega), up_b (by omega), up_b (by omega)]
      exact a1 f hf
    · rw [up_at]; omega
    · rw [up_b (by omega), up_b (by omega)]; exact a3
    · rw [up_b (by omega), up_b (by omega)]; exact a4
  · exact eok_en (by rw [up_b (by omega)]; exact Nat.le_refl _) (fun k hk => up_b (by omega)) (n4 i hi)
theorem rok_cost {c v : Nat} (ho : rok nf nc ρ) (hn : nc ≤ 20) (hc : c < nc) (hv : 1 ≤ v ∧ v ≤ 99) : rok nf nc (va_up ρ (4 + c) v) := by
  obtain ⟨o1, o2, o3, o4⟩ := ho
  refine ⟨nok_up o1 (by omega) (by omega) (by omega) (by omega), rz_up o2 (by omega), fun i hi => ?_, knf_up o4 (fun e f hf => by omega) (by omega)⟩
  by_cases q : i = c
  · rw [q, up_at]; exact hv
  · rw [up_b (by omega)]; exact o3 i hi
theorem nok_bud {v : Nat} (ho : nok ρ) (hv : 1 ≤ v ∧ v ≤ 99999) : nok (va_up ρ 3 v) := by
  obtain ⟨n0, n1, n2, n3, n4⟩ := ho
  unfold nok
  rw [up_b (by omega), up_b (by omega), up_at]
  exact ⟨n0, n1, hv.1, hv.2, fun i hi => eok_en (by rw [up_b (by omega)]; exact Nat.le_refl _) (fun k hk => up_b (by omega)) (n4 i hi)⟩
def nbud (ρ : zN') (v : Nat) : Option zN' := nroom 0 99 true (va_up ρ 3 v)
theorem rok_bud {v : Nat} (ho : rok nf nc ρ) (hn : nc ≤ 20) (hv : 1 ≤ v ∧ v ≤ 99999) (h : nbud ρ v = some ρ') : rok nf nc ρ' ∧ ρ' 1 = ρ 1 := by
  obtain ⟨o1, o2, o3, o4⟩ := ho
  have b1 := nok_bud o1 hv
  obtain ⟨k1, k2, k3⟩ := nroom_keep b1 h
  refine ⟨⟨k1, rz_room b1 (rz_up o2 (by omega)) h, rcs_hd o3 hn (fun j h1 h2 => ?_), knf_room (knf_up o4 (fun e f hf => by omega) (by omega)) h⟩, ?_⟩
  · rw [k3 j (by omega) h2, up_b (by omega)]
  · rw [k3 1 (by omega) (by omega), up_b (by omega)]
theorem nbud_iff {v : Nat} (ho : nok ρ) (hv : 1 ≤ v ∧ v ≤ 99999) : (∃ ρ', nbud ρ v = some ρ') ↔ nls ρ 99 false ≤ v := by
  have b1 := nok_bud ho hv
  have := nroom_iff (b := 0) (but := 99) (et := true) b1 (fun _ => Or.inr (by have := b1.1; omega))
  rw [show (!true) = false from rfl, up_at, nls_cg (up_b (by omega)) (fun j hj => up_b (by omega)), Nat.add_zero] at this
  exact this
end PROK2
