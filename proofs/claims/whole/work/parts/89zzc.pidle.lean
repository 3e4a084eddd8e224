/-! pure: which conversions are steps of best paths -/
section PIDLE
variable {cm cc : Nat → Nat → Nat} {nf u v : Nat}
/-- less edges, longer paths -/
theorem fD_less (hc : cok cm nf) (hd : cok cc nf) (e1 : ∀ x y, cc x y ≠ 0 → cm x y = cc x y) {b : Nat} : ∀ X a, a < nf → fD 16 cc nf a b = X → fD 16 cm nf a b ≤ X := by
  intro X
  induction X using Nat.strongRecOn with
  | ind X ih =>
    intro a ha hX
    by_cases q : X < fINF
    · by_cases z : a = b
      · rw [z, fD_diag]
        exact Nat.zero_le _
      · obtain ⟨g1, g2, g3, g4, g5, g6, g7, g8⟩ := pn_step hd ha z (by rw [hX]; exact q)
        have i := ih (fD 16 cc nf (pn cc nf a b) b) (by omega) (pn cc nf a b) g2 rfl
        have tri := fD_tri (s := 16) (cost := cm) (n := nf) g2 a b
        have ed := fD_edge (s := 16) (cost := cm) (n := nf) (a := a) (c := pn cc nf a b) (fun w => g3 w.symm)
        have fe : fwd 16 cm a (pn cc nf a b) = 16 * cm a (pn cc nf a b) + 1 := if_neg (by rw [e1 _ _ g4]; exact g4)
        rw [fe, e1 _ _ g4] at ed
        omega
    · have := fD_le (a := a) (b := b) hc
      omega
/-- a path that costs less than an edge goes without it -/
theorem fD_go (hc : cok cm nf) (e2 : ∀ x y, cm x y ≠ 0 → ¬ (x = u ∧ y = v) → cc x y = cm x y) {b : Nat} : ∀ X a, a < nf → fD 16 cm nf a b = X → X < fINF → X < 16 * cm u v + 1 → fD 16 cc nf a b ≤ X := by
  intro X
  induction X using Nat.strongRecOn with
  | ind X ih =>
    intro a ha hX q hw
    by_cases z : a = b
    · rw [z, fD_diag]
      exact Nat.zero_le _
    · obtain ⟨g1, g2, g3, g4, g5, g6, g7, g8⟩ := pn_step hc ha z (by rw [hX]; exact q)
      have i := ih (fD 16 cm nf (pn cm nf a b) b) (by omega) (pn cm nf a b) g2 rfl g5 (by omega)
      have ne : ¬ (a = u ∧ pn cm nf a b = v) := fun w => by
        rw [hX, w.2, w.1] at g8
        omega
      have ec := e2 _ _ g4 ne
      have tri := fD_tri (s := 16) (cost := cc) (n := nf) g2 a b
      have ed := fD_edge (s := 16) (cost := cc) (n := nf) (a := a) (c := pn cm nf a b) (fun w => g3 w.symm)
      have fe : fwd 16 cc a (pn cm nf a b) = 16 * cc a (pn cm nf a b) + 1 := if_neg (by rw [ec]; exact g4)
      rw [fe, ec] at ed
      omega
/-- an edge is a first step of a best path iff nothing else is cheaper -/
theorem used_to (hc : cok cm nf) (hd : cok cc nf) (e1 : ∀ x y, cc x y ≠ 0 → cm x y = cc x y) (hu : u < nf) (hv : v < nf) (huv : u ≠ v) {b : Nat} (hb : b < nf) (hub : u ≠ b) (hr : fD 16 cm nf u b < fINF) (hp : pn cm nf u b = v) : 16 * cm u v + 1 ≤ fD 16 cc nf u v := by
  obtain ⟨g1, g2, g3, g4, g5, g6, g7, g8⟩ := pn_step hc hu hub hr
  rw [hp] at g8
  have l := fD_less hc hd e1 (b := v) _ u hu rfl
  have tri := fD_tri (s := 16) (cost := cm) (n := nf) hv u b
  omega
theorem used_of (hc : cok cm nf) (hd : cok cc nf) (e2 : ∀ x y, cm x y ≠ 0 → ¬ (x = u ∧ y = v) → cc x y = cm x y) (hu : u < nf) (hv : v < nf) (huv : u ≠ v) (hw : cm u v ≠ 0) (hq : fD 16 cc nf u v < fINF → cm u v ≤ fD 16 cc nf u v / 16) : fD 16 cm nf u v < fINF ∧ pn cm nf u v = v := by
  have fe : fwd 16 cm u v = 16 * cm u v + 1 := if_neg hw
  have ed := fD_edge (s := 16) (cost := cm) (n := nf) huv
  rw [fe] at ed
  have le := hc.2.2 u v
  have fi : fINF = 1000000 := rfl
  have r : fD 16 cm nf u v < fINF := by omega
  have ge : 16 * cm u v + 1 ≤ fD 16 cm nf u v := by
    refine Nat.le_of_not_lt fun z => ?_
    have g := fD_go (u := u) (v := v) hc e2 (b := v) _ u hu rfl r z
    have q := hq (by omega)
    have s0 : pst cc nf u v ≠ 0 := fun w => huv ((pst_0 hd hu (by omega)).mp w)
    unfold pst at s0
    omega
  refine ⟨r, ?_⟩
  obtain ⟨g1, g2, g3, g4, g5, g6, g7, g8⟩ := pn_step hc hu huv r
  by_cases z : pn cm nf u v = v
  · exact z
  · have s0 : pst cm nf (pn cm nf u v) v ≠ 0 := fun w => z ((pst_0 hc g2 g5).mp w)
    unfold pst at g6 s0
    omega
end PIDLE
section PIDLE2
variable {A : zSt} {t : Nat}
theorem acm_uv {c : Nat} (hA : AI t A) (hc : c < anc A) : acm0 A (afr A c) (att A c) = aρ A (4 + c) ∧ (∀ x y, acm A c x y ≠ 0 → acm0 A x y = acm A c x y) ∧ ∀ x y, acm0 A x y ≠ 0 → ¬ (x = afr A c ∧ y = att A c) → acm A c x y = acm0 A x y := by
  have hb := hA.2.1.1
  have n20 := hb.2.1
  have at0 : ∀ k, k < anc A → acm0 A (afr A k) (att A k) = aρ A (4 + k) := fun k hk => by
    have := cmt_at (co := rco (aρ A)) (skip := 4294967287) hb hk (anc A) (Nat.le_refl _) hk
    rw [if_neg (by omega)] at this
    exact this
  have at1 : ∀ k, k < anc A → k ≠ c → acm A c (afr A k) (att A k) = aρ A (4 + k) := fun k hk hn => by
    have := cmt_at (co := rco (aρ A)) (skip := c) hb hk (anc A) (Nat.le_refl _) hk
    rw [if_neg hn] at this
    exact this
  refine ⟨at0 c hc, fun x y e => ?_, fun x y e ne => ?_⟩
  · obtain ⟨k, k1, k2, k3, k4, k5⟩ := cmt_nz e
    rw [← k2, ← k3, at0 k k1, at1 k k1 k4]
  · obtain ⟨k, k1, k2, k3, k4, k5⟩ := cmt_nz e
    have kn : k ≠ c := fun z => ne (by rw [← k2, ← k3, z]; exact ⟨rfl, rfl⟩)
    rw [← k2, ← k3, at0 k k1, at1 k k1 kn]
def apf (A : zSt) (a b : Nat) : Nat := pfs (afr A) (att A) (anc A) (acm0 A) (anf A) a b
theorem apf_or {a b : Nat} (hA : AI t A) (ha : a < anf A) (hb : b < anf A) : apf A a b = 4294967295 ∨ (a ≠ b ∧ fD 16 (acm0 A) (anf A) a b < fINF ∧ apf A a b < anc A ∧ afr A (apf A a b) = a ∧ att A (apf A a b) = pn (acm0 A) (anf A) a b) := by
  obtain ⟨hc, hf⟩ := AI_cok hA 4294967287
  unfold apf pfs
  by_cases z : a = b ∨ fINF ≤ fD 16 (acm0 A) (anf A) a b
  · rw [if_pos z]
    exact Or.inl rfl
  · rw [if_neg z]
    have z1 : a ≠ b := fun w => z (Or.inl w)
    have z2 : fD 16 (acm0 A) (anf A) a b < fINF := Nat.lt_of_not_le fun w => z (Or.inr w)
    obtain ⟨p1, p2, p3, p4⟩ := pcv_is hA.2.1.1 hf hc ha z1 z2
    exact Or.inr ⟨z1, z2, p2, p3, p4⟩
theorem idl_iff {c : Nat} (hA : AI t A) (hc : c < anc A) : idlP A c = false ↔ ∃ a b, a < anf A ∧ b < anf A ∧ apf A a b = c := by
  obtain ⟨k0, hf0⟩ := AI_cok hA 4294967287
  obtain ⟨k1, hf1⟩ := AI_cok hA c
  have k0' : cok (acm0 A) (anf A) := k0
  obtain ⟨m1, m2, m3⟩ := acm_uv hA hc
  obtain ⟨b1, b2, b3⟩ := hA.2.1.1.2.2.1 c hc
  obtain ⟨w1, w2⟩ := hA.2.2.1.1.2.2.1 c hc
  have w1' : 1 ≤ aρ A (4 + c) := w1
  have w2' : aρ A (4 + c) ≤ 99 := w2
  have n20 := hA.2.1.1.2.1
  unfold idlP
  rw [decide_eq_false_iff_not]
  constructor
  · intro h
    have hq : fD 16 (acm A c) (anf A) (afr A c) (att A c) < fINF → acm0 A (afr A c) (att A c) ≤ fD 16 (acm A c) (anf A) (afr A c) (att A c) / 16 := fun q => by
      rw [m1]
      unfold worV at h
      by_cases z : fD 16 (acm A c) (anf A) (afr A c) (att A c) < fINF ∧ fD 16 (acm A c) (anf A) (afr A c) (att A c) / 16 ≤ 99
      · rw [if_pos z] at h
        omega
      · rw [if_neg z] at h
        have : ¬ fD 16 (acm A c) (anf A) (afr A c) (att A c) / 16 ≤ 99 := fun w => z ⟨q, w⟩
        omega
    obtain ⟨r, p⟩ := used_of k0' k1 m3 b1 b2 b3 (by rw [m1]; omega) hq
    refine ⟨afr A c, att A c, b1, b2, ?_⟩
    rcases apf_or hA b1 b2 with z | ⟨z1, z2, z3, z4, z5⟩
    · exfalso
      unfold apf pfs at z
      rw [if_neg (fun w => w.elim b3 (fun w => by omega))] at z
      obtain ⟨p1, p2, p3, p4⟩ := pcv_is hA.2.1.1 hf0 k0 b1 b3 r
      have p2' : pcv (afr A) (att A) (anc A) (acm0 A) (anf A) (att A c) (afr A c) < anc A := p2
      omega
    · rw [p] at z5
      exact hA.2.1.1.2.2.2 _ _ z3 hc z4 z5
  · rintro ⟨a, b, ha, hb, e⟩ h
    rcases apf_or hA ha hb with z | ⟨z1, z2, z3, z4, z5⟩
    · rw [z] at e
      omega
    · rw [e] at z4 z5
      subst z4
      have u := used_to k0' k1 m2 b1 b2 b3 hb z1 z2 z5.symm
      rw [m1] at u
      unfold worV at h
      by_cases z : fD 16 (acm A c) (anf A) (afr A c) (att A c) < fINF ∧ fD 16 (acm A c) (anf A) (afr A c) (att A c) / 16 ≤ 99
      · rw [if_pos z] at h
        omega
      · rw [if_neg z] at h
        omega
end PIDLE2
