/-! pure: the reference's findWay over an opaque heap -/
def awy (A : zSt) (e p : Nat) : Option (Nat × Nat × Nat × Nat × Nat) := nway (afr A) (att A) (agr A) (alo A) (aac A) (ali A) (anc A) (anf A) (aρ A) e p
section RFWAY
variable {h : zH} {m : Nat} {A : zSt}
theorem RI_rfw {I' : Nat → Nat → Int32} (hR : RI h m A) (o : rfr m (zI h) I') : RI (zw h I') m A ∧ Fr m (m + 24) h (zw h I') ∧ zI (zw h I') m 0 = zI h m 0 := by
  obtain ⟨-, -, -, -, -, -, -, -, s1, s2, s3, s4, s5⟩ := id hR
  obtain ⟨o1, o2, o3, o4⟩ := o
  refine ⟨?_, Fr.wI (fun a ha => o1 a (by omega) (by omega) (by omega)), o2 0 (by omega)⟩
  refine RI_keep hR rfl rfl rfl (fun a ha => o1 a (by omega) (by omega) (by omega)) (fun k hk => o2 k (by omega)) ⟨?_, ?_, ?_, ?_, ?_⟩
  · rw [zw_I]; obtain ⟨τ, q1, q2⟩ := s1; exact ⟨τ, (o1 _ (by omega) (by omega) (by omega)).trans q1, q2⟩
  · rw [zw_I]; obtain ⟨τ, q1, q2⟩ := s2; exact ⟨τ, (o1 _ (by omega) (by omega) (by omega)).trans q1, q2⟩
  · rw [zw_I]; obtain ⟨τ, q1, q2⟩ := s3; exact ⟨τ, (o1 _ (by omega) (by omega) (by omega)).trans q1, q2⟩
  · exact o3
  · exact o4
theorem r_fw {t e p : Nat} (hR : RI h m A) (hA : AI t A) (he : e < aρ A 0) (hp : p < anp A) :
    (awy A e p = none → ∃ h2, fX7_findWay h m (m + 15) (nI e) (nI p) = some (nI 0, h2) ∧ RI h2 m A ∧ Fr m (m + 24) h h2 ∧ zI h2 m 0 = zI h m 0) ∧ ∀ w1 w2 w3 w4 w5, awy A e p = some (w1, w2, w3, w4, w5) → ∃ h2, fX7_findWay h m (m + 15) (nI e) (nI p) = some (nI 1, h2) ∧ RI h2 m A ∧ Fr m (m + 24) h h2 ∧ zI h2 m 0 = zI h m 0 ∧ zI h2 m 33 = nI w2 ∧ zI h2 m 34 = nI w3 ∧ zI h2 m 35 = nI w1 ∧ zI h2 m 36 = nI w4 ∧ zI h2 m 37 = nI w5 := by
  obtain ⟨hT, -, rb, r5, -, -, -, -, s1, s2, s3, ⟨ot, s4⟩, ⟨od, s5⟩⟩ := id hR
  obtain ⟨a1, hO, ⟨a3, a3t⟩, a4, a5, a6⟩ := id hA
  have c12 := a3.1.1
  have L := n_findWay (h := h) (I := zI h) (q := m + 15) (e := e) (p := p) hT rb hO s4 s5 (by omega) (by omega) (by omega) (rk15 hT) (rl15 hT) r5 a3.2.2.1 (by omega) (a3.1.2.2.2.2 e he) hp
  constructor
  · intro q
    unfold awy at q
    rw [q] at L
    obtain ⟨I', k1, k2⟩ := L
    obtain ⟨g1, g2, g3⟩ := RI_rfw hR k2
    exact ⟨zw h I', k1, g1, g2, g3⟩
  · intro w1 w2 w3 w4 w5 q
    unfold awy at q
    rw [q] at L
    obtain ⟨I', k1, k2, k3, k4, k5, k6, k7⟩ := L
    obtain ⟨g1, g2, g3⟩ := RI_rfw hR k2
    exact ⟨zw h I', k1, g1, g2, g3, k3, k4, k5, k6, k7⟩
end RFWAY
