/-! pure: the component at its start -/
def ρ0 : zN' := fun j => if j = 3 then 1000 else 0
def A0 : zSt := ((fun _ => 0, 0), (1, 0, 0, fun _ => 0, fun _ => 0, fun _ => 0, fun _ => 0, fun _ => 0, fun _ => 0), ρ0, 0, fun _ _ => 0, fun _ => false, fun _ _ => 0)
theorem ρ0_z {j : Nat} (h : j ≠ 3) : ρ0 j = 0 := if_neg h
theorem ρ0_3 : ρ0 3 = 1000 := rfl
theorem AI0 : AI 0 A0 := by
  refine ⟨⟨Nat.zero_le _, fun i hi => absurd hi (Nat.not_lt_zero _)⟩, ⟨⟨by show 1 ≤ 8; omega, Nat.zero_le _, fun c hc => absurd hc (Nat.not_lt_zero _), fun c d hc => absurd hc (Nat.not_lt_zero _)⟩, Nat.le_refl _, Nat.zero_le _, fun c hc => absurd hc (Nat.not_lt_zero _), fun p hp => absurd hp (Nat.not_lt_zero _)⟩, ⟨⟨⟨?_, ?_, ?_, ?_, fun e he => ?_⟩, fun j hj => ?_, fun c hc => absurd hc (Nat.not_lt_zero _), fun e f he => ?_⟩, ?_⟩, Nat.zero_le _, fun i hi => absurd hi (Nat.not_lt_zero _), fun k _ z => (by cases z)⟩
  · show ρ0 0 ≤ 12
    rw [ρ0_z (by omega)]; omega
  · show ρ0 1 < 10000
    rw [ρ0_z (by omega)]; omega
  · show 1 ≤ ρ0 3
    rw [ρ0_3]; omega
  · show ρ0 3 ≤ 99999
    rw [ρ0_3]; omega
  · have he' : e < ρ0 0 := he
    rw [ρ0_z (by omega)] at he'
    omega
  · show ρ0 j = 0
    exact ρ0_z (by omega)
  · have he' : e < ρ0 0 := he
    rw [ρ0_z (by omega)] at he'
    omega
  · show ρ0 1 ≤ 0
    rw [ρ0_z (by omega)]; omega
section INI5
variable {h : zH} {x : Nat}
theorem i_C (s : IK x h 2) : ∃ g, fX6_startOver h x = some g ∧ CI g x A0 ∧ zn g = x + 801 := by
  obtain ⟨⟨a1, ⟨b0, b1, b2, b3, b4, b5⟩, ⟨a3, a3'⟩, a4, a5, a6, a7, a8, ⟨c6, c7, c8, c9, c10⟩, a10, a11, a12, ⟨n1, n2, n3, n4, n5⟩, a14⟩, e1, e2, e3⟩ := s
  have st : CSt h x := ⟨a1, ⟨b0, b1, b2, b3, b4, b5, c6, c7, c8⟩, a10, a11, a12, a6, a3, fun k hk => (e3 k hk).1⟩
  have cb : CBa h x (x + 159) (x + 168) := ⟨Or.inl ⟨rfl, rfl⟩, c9, c10⟩
  have mm : CMm h x 0 0 (fun _ _ => 0) := ⟨fun i hi => ⟨i, hi, (e2 i hi).1⟩, fun i j hi hj e => by
    rw [(e2 i hi).1, (e2 j hj).1] at e
    omega, fun j hj => (e2 j hj).2, fun i hi => absurd hi (Nat.not_lt_zero _)⟩
  have br : BR h (x + 159) 1 0 0 (fun _ => 0) (fun _ => 0) (fun _ => 0) (fun _ => 0) (fun _ => 0) (fun _ => 0) := ⟨n1, n2, n3, n4, fun c hc => absurd hc (Nat.not_lt_zero _), fun p hp => absurd hp (Nat.not_lt_zero _)⟩
  obtain ⟨g, g1, ⟨g2, g3⟩, -⟩ := c_start (A := A0) (h := h) (x := x) (b := x + 159) (d := x + 168) AI0 st cb ⟨by rw [a3']; rfl, fun i hi => absurd hi (Nat.not_lt_zero _)⟩ br a14 (by show zI h (x + 159) 11 = nI (ρ0 3); rw [n5]; rfl) (fun c hc => absurd hc (Nat.not_lt_zero _)) (show ρ0 0 = 0 from rfl) (show ρ0 1 = 0 from rfl) (show ρ0 2 = 0 from rfl) rfl (fun _ => rfl) mm (fun k hk => (e3 k hk).2) a4 a5 a7 a8
  refine ⟨g, g1, ⟨x + 159, x + 168, g2, g3⟩, ?_⟩
  rw [zn_X6_startOver g1, e1]
theorem i_X6 (kx : zkd h x = 7) (hn : zn h = x + 1) : ∃ g, fX6_init h x = some g ∧ (CI g x A0 ∧ zn g = x + 801) := by
  unfold fX6_init
  rw [if_pos kx]
  refine i_A kx hn (fun h6 s6 => ?_)
  refine i_B s6 (fun h9 s9 n9 => ?_)
  have z0 : IM x h9 0 := ⟨s9, by rw [n9], fun j hj => absurd hj (Nat.not_lt_zero _)⟩
  refine i_M (fun h10 y s10 => ?_) 14 0 15 h9 (by omega) (by omega) z0
  obtain ⟨p1, p2, p3⟩ := s10
  have z1 : IK x h10 0 := ⟨p1, by rw [p2], p3, fun j hj => absurd hj (Nat.not_lt_zero _)⟩
  refine i_K (fun h11 y s11 => ?_) 2 0 3 h10 (by omega) (by omega) z1
  obtain ⟨g, q1, q2, q3⟩ := i_C s11
  exact ⟨g, by rw [q1]; rfl, q2, q3⟩
end INI5
