/-! pure: the reference at its start, its facts -/
section INI6E
variable {h H : zH} {m : Nat}
theorem i_X7e (kH : zkd H m = 8) (nH : zn H = m + 24) (i4 : zI H m 4 = nI 1) (ik : ∀ k, k ≠ 4 → zI H m k = nI 0) (P1 : zP H m 1 = m + 1) (P2 : zP H m 7 = m + 2) (P3 : zP H m 8 = m + 3) (P4 : zP H m 9 = m + 4) (P5 : zP H m 10 = m + 5) (P6 : zP H m 11 = m + 6) (P7 : zP H m 12 = m + 7) (P8 : zP H m 17 = m + 8) (P9 : zP H m 18 = m + 9) (P10 : zP H m 19 = m + 10) (P11 : zP H m 20 = m + 11) (P12 : zP H m 21 = m + 12) (P13 : zP H m 22 = m + 13) (P14 : zP H m 23 = m + 14) (P15 : zP H m 24 = m + 15) (P16 : zP H m 25 = m + 16) (P17 : zP H m 26 = m + 17) (P18 : zP H m 27 = m + 18) (P19 : zP H m 29 = m + 19) (P20 : zP H m 30 = m + 20) (P21 : zP H m 31 = m + 21) (P22 : zP H m 32 = m + 22) (P23 : zP H m 38 = m + 23) (c1 : zkd H (m + 1) = 9 ∧ zln H (m + 1) = 160 ∧ zI H (m + 1) = nr (fun _ => 0)) (c2 : zkd H (m + 2) = 9 ∧ zln H (m + 2) = 20 ∧ zI H (m + 2) = nr (fun _ => 0)) (c3 : zkd H (m + 3) = 9 ∧ zln H (m + 3) = 20 ∧ zI H (m + 3) = nr (fun _ => 0)) (c4 : zkd H (m + 4) = 9 ∧ zln H (m + 4) = 20 ∧ zI H (m + 4) = nr (fun _ => 0)) (c5 : zkd H (m + 5) = 9 ∧ zln H (m + 5) = 20 ∧ zI H (m + 5) = nr (fun _ => 0)) (c6 : zkd H (m + 6) = 9 ∧ zln H (m + 6) = 6 ∧ zI H (m + 6) = nr (fun _ => 0)) (c7 : zkd H (m + 7) = 9 ∧ zln H (m + 7) = 6 ∧ zI H (m + 7) = nr (fun _ => 0)) (c8 : zkd H (m + 8) = 9 ∧ zln H (m + 8) = 20 ∧ zI H (m + 8) = nr (fun _ => 0)) (c9 : zkd H (m + 9) = 9 ∧ zln H (m + 9) = 20 ∧ zI H (m + 9) = nr (fun _ => 0)) (c10 : zkd H (m + 10) = 9 ∧ zln H (m + 10) = 20 ∧ zI H (m + 10) = nr (fun _ => 0)) (c11 : zkd H (m + 11) = 9 ∧ zln H (m + 11) = 20 ∧ zI H (m + 11) = nr (fun _ => 0)) (c12 : zkd H (m + 12) = 9 ∧ zln H (m + 12) = 20 ∧ zI H (m + 12) = nr (fun _ => 0)) (c13 : zkd H (m + 13) = 9 ∧ zln H (m + 13) = 6 ∧ zI H (m + 13) = nr (fun _ => 0)) (c14 : zkd H (m + 14) = 9 ∧ zln H (m + 14) = 6 ∧ zI H (m + 14) = nr (fun _ => 0)) (c15 : zkd H (m + 15) = 9 ∧ zln H (m + 15) = 360 ∧ zI H (m + 15) = nr (fun _ => 0)) (c16 : zkd H (m + 16) = 9 ∧ zln H (m + 16) = 360 ∧ zI H (m + 16) = nr (fun _ => 0)) (c17 : zkd H (m + 17) = 9 ∧ zln H (m + 17) = 360 ∧ zI H (m + 17) = nr (fun _ => 0)) (c18 : zkd H (m + 18) = 9 ∧ zln H (m + 18) = 5040 ∧ zI H (m + 18) = nr (fun _ => 0)) (c19 : zkd H (m + 19) = 9 ∧ zln H (m + 19) = 720 ∧ zI H (m + 19) = nr (fun _ => 0)) (c20 : zkd H (m + 20) = 11 ∧ zln H (m + 20) = 2 ∧ zI H (m + 20) = nr (fun _ => 0)) (c21 : zkd H (m + 21) = 9 ∧ zln H (m + 21) = 64 ∧ zI H (m + 21) = nr (fun _ => 0)) (c22 : zkd H (m + 22) = 9 ∧ zln H (m + 22) = 64 ∧ zI H (m + 22) = nr (fun _ => 0)) (c23 : zkd H (m + 23) = 9 ∧ zln H (m + 23) = 360 ∧ zI H (m + 23) = nr (fun _ => 0)) (M0 : ∀ a, a < m → Sm h H a) : ∃ g, ((zgP H 7 m 24).bind fun w48 => (zbI H w48 3 1000).bind fun h49 => some h49) = some g ∧ (RI g m A0 ∧ zn g = m + 24 ∧ ∀ a, a < m → Sm h g a) := by
  have hT : RefT H m := by
    refine ⟨kH, ⟨P1, P2, P3, P4, P5, P6, P7, P8, P9, P10, P11, P12, P13, P14, P15, P16, P17, P18, P19, P20, P21, P22, P23⟩, fun j h1 h2 => ?_, c1.2.1, fun j h1 h2 => ?_, fun j h1 h2 => ?_, fun j h1 h2 => ?_, fun j h1 h2 => ?_, fun j h1 h2 => ?_, c18.2.1, c19.2.1, c20.2.1, c21.2.1, c22.2.1, c23.2.1⟩
    · match j, h1, h2 with
      | 1, _, _ => exact c1.1
      | 2, _, _ => exact c2.1
      | 3, _, _ => exact c3.1
      | 4, _, _ => exact c4.1
      | 5, _, _ => exact c5.1
      | 6, _, _ => exact c6.1
      | 7, _, _ => exact c7.1
      | 8, _, _ => exact c8.1
      | 9, _, _ => exact c9.1
      | 10, _, _ => exact c10.1
      | 11, _, _ => exact c11.1
      | 12, _, _ => exact c12.1
      | 13, _, _ => exact c13.1
      | 14, _, _ => exact c14.1
      | 15, _, _ => exact c15.1
      | 16, _, _ => exact c16.1
      | 17, _, _ => exact c17.1
      | 18, _, _ => exact c18.1
      | 19, _, _ => exact c19.1
      | 20, _, _ => exact c20.1
      | 21, _, _ => exact c21.1
      | 22, _, _ => exact c22.1
      | 23, _, _ => exact c23.1
      | (n + 24), _, h2 => exact absurd h2 (by omega)
    · match j, h1, h2 with
      | 2, _, _ => exact c2.2.1
      | 3, _, _ => exact c3.2.1
      | 4, _, _ => exact c4.2.1
      | 5, _, _ => exact c5.2.1
    · match j, h1, h2 with
      | 6, _, _ => exact c6.2.1
      | 7, _, _ => exact c7.2.1
    · match j, h1, h2 with
      | 8, _, _ => exact c8.2.1
      | 9, _, _ => exact c9.2.1
      | 10, _, _ => exact c10.2.1
      | 11, _, _ => exact c11.2.1
      | 12, _, _ => exact c12.2.1
    · match j, h1, h2 with
      | 13, _, _ => exact c13.2.1
      | 14, _, _ => exact c14.2.1
    · match j, h1, h2 with
      | 15, _, _ => exact c15.2.1
      | 16, _, _ => exact c16.2.1
      | 17, _, _ => exact c17.2.1
      | (n + 18), _, h2 => exact absurd h2 (by omega)
  have g15 := qg15 hT
  have wr : zbI H (m + 15) 3 1000 = some (zsI H (m + 15) 3 (nI 1000)) := qb15 (i := 3) hT (by decide)
  refine ⟨zsI H (m + 15) 3 (nI 1000), by rw [g15, Option.bind_some, wr]; rfl, ?_, nH, fun a ha => (M0 a ha).tr ⟨rfl, rfl, sI_a (Nat.ne_of_lt (Nat.lt_of_lt_of_le ha (Nat.le_add_right _ _))), rfl⟩⟩
  have z0 : rz (fun _ => 0) := fun j _ => rfl
  have oa : ∀ k, k ≠ 15 → zI (zsI H (m + 15) 3 (nI 1000)) (m + k) = zI H (m + k) := fun k hk => sI_a (fun z => hk (Nat.add_left_cancel z))
  have om : zI (zsI H (m + 15) 3 (nI 1000)) m = zI H m := sI_a (ne_k (by decide)).symm
  refine ⟨hT.s, ⟨by rw [om]; exact ik 2 (by decide), fun i hi => absurd hi (Nat.not_lt_zero _)⟩, ⟨by rw [om]; exact i4, by rw [om]; exact ik 5 (by decide), by rw [om]; exact ik 6 (by decide), by rw [oa 2 (by decide)]; exact c2.2.2, by rw [oa 3 (by decide)]; exact c3.2.2, by rw [oa 4 (by decide)]; exact c4.2.2, by rw [oa 5 (by decide)]; exact c5.2.2, by rw [oa 6 (by decide)]; exact c6.2.2, by rw [oa 7 (by decide)]; exact c7.2.2⟩, ?_, by rw [om]; exact ik 28 (by decide), fun i hi => absurd hi (Nat.not_lt_zero _), fun k hk => by rw [oa 20 (by decide), c20.2.2]; rfl, fun k _ z => (by cases z), ⟨⟨fun _ => 0, by rw [oa 16 (by decide)]; exact c16.2.2, z0⟩, ⟨fun _ => 0, by rw [oa 17 (by decide)]; exact c17.2.2, z0⟩, ⟨fun _ => 0, by rw [oa 23 (by decide)]; exact c23.2.2, z0⟩, ⟨fun _ => 0, by rw [oa 21 (by decide)]; exact c21.2.2⟩, ⟨fun _ => 0, by rw [oa 22 (by decide)]; exact c22.2.2⟩⟩⟩
  show zI (zsI H (m + 15) 3 (nI 1000)) (m + 15) = nr ρ0
  rw [sI_row2, c15.2.2, up_n]
  rfl
end INI6E
/-! pure: the reference at its start -/
def K8 (m : Nat) (h : zH) : Prop := zkd h m = 8
section INI6
variable {h : zH} {m : Nat}
theorem stB {p kd len f : Nat} {K : zH → Option zH} {Q : zH → Prop} (hn : zn h = p) (h0 : p ≠ 0) (hm : m ≠ p) (km : K8 m h) (hk : ∀ h', SA m p kd len f h h' → K8 m h' → ∃ g, K h' = some g ∧ Q g) : ∃ g, ((zmk h kd len).bind fun h1 => (zpP h1 7 m f (zn h)).bind K) = some g ∧ Q g := stA hn h0 hm km (fun h' s => hk h' s (s.2.1.1.trans km))
theorem i_X7 (km : zkd h m = 8) (hn : zn h = m + 1) (hz : zI h m = fun _ => 0) : ∃ g, fX7_init h m = some g ∧ (RI g m A0 ∧ zn g = m + 24 ∧ ∀ a, a < m → Sm h g a) := by
  unfold fX7_init
  rw [if_pos km]
  refine stB (p := m + 1) hn (Nat.succ_ne_zero _) (ne_k (by decide)).symm km (fun h1 s1 k1 => ?_)
  have w0 : zpI h1 7 m 4 1 = some (zsI h1 m 4 1) := pI_ k1
  rw [w0, Option.bind_some]
  have r4 : zI (zsI h1 m 4 1) m 4 = nI 1 := sI_at
  have rk : ∀ k, k ≠ 4 → zI (zsI h1 m 4 1) m k = nI 0 := fun k hk => by
    rw [sI_k hk, s1.2.1.2.2, hz]
    rfl
  have sx : ∀ a, a ≠ m → Sm h1 (zsI h1 m 4 1) a := fun a ha => ⟨rfl, rfl, sI_a ha, rfl⟩
  have px : ∀ j, zP (zsI h1 m 4 1) m j = zP h1 m j := fun j => rfl
  have kx : K8 m (zsI h1 m 4 1) := k1
  have nx : zn (zsI h1 m 4 1) = m + 2 := s1.2.2.2.2.2
  generalize zsI h1 m 4 1 = h1' at *
  refine stB (p := m + 2) nx (Nat.succ_ne_zero _) (ne_k (by decide)).symm kx (fun h2 s2 k2 => ?_)
  refine stB (p := m + 3) s2.2.2.2.2.2 (Nat.succ_ne_zero _) (ne_k (by decide)).symm k2 (fun h3 s3 k3 => ?_)
  refine stB (p := m + 4) s3.2.2.2.2.2 (Nat.succ_ne_zero _) (ne_k (by decide)).symm k3 (fun h4 s4 k4 => ?_)
  refine stB (p := m + 5) s4.2.2.2.2.2 (Nat.succ_ne_zero _) (ne_k (by decide)).symm k4 (fun h5 s5 k5 => ?_)
  refine stB (p := m + 6) s5.2.2.2.2.2 (Nat.succ_ne_zero _) (ne_k (by decide)).symm k5 (fun h6 s6 k6 => ?_)
  refine stB (p := m + 7) s6.2.2.2.2.2 (Nat.succ_ne_zero _) (ne_k (by decide)).symm k6 (fun h7 s7 k7 => ?_)
  refine stB (p := m + 8) s7.2.2.2.2.2 (Nat.succ_ne_zero _) (ne_k (by decide)).symm k7 (fun h8 s8 k8 => ?_)
  refine stB (p := m + 9) s8.2.2.2.2.2 (Nat.succ_ne_zero _) (ne_k (by decide)).symm k8 (fun h9 s9 k9 => ?_)
  refine stB (p := m + 10) s9.2.2.2.2.2 (Nat.succ_ne_zero _) (ne_k (by decide)).symm k9 (fun h10 s10 k10 => ?_)
  refine stB (p := m + 11) s10.2.2.2.2.2 (Nat.succ_ne_zero _) (ne_k (by decide)).symm k10 (fun h11 s11 k11 => ?_)
  refine stB (p := m + 12) s11.2.2.2.2.2 (Nat.succ_ne_zero _) (ne_k (by decide)).symm k11 (fun h12 s12 k12 => ?_)
  refine stB (p := m + 13) s12.2.2.2.2.2 (Nat.succ_ne_zero _) (ne_k (by decide)).symm k12 (fun h13 s13 k13 => ?_)
  refine stB (p := m + 14) s13.2.2.2.2.2 (Nat.succ_ne_zero _) (ne_k (by decide)).symm k13 (fun h14 s14 k14 => ?_)
  refine stB (p := m + 15) s14.2.2.2.2.2 (Nat.succ_ne_zero _) (ne_k (by decide)).symm k14 (fun h15 s15 k15 => ?_)
  refine stB (p := m + 16) s15.2.2.2.2.2 (Nat.succ_ne_zero _) (ne_k (by decide)).symm k15 (fun h16 s16 k16 => ?_)
  refine stB (p := m + 17) s16.2.2.2.2.2 (Nat.succ_ne_zero _) (ne_k (by decide)).symm k16 (fun h17 s17 k17 => ?_)
  refine stB (p := m + 18) s17.2.2.2.2.2 (Nat.succ_ne_zero _) (ne_k (by decide)).symm k17 (fun h18 s18 k18 => ?_)
  refine stB (p := m + 19) s18.2.2.2.2.2 (Nat.succ_ne_zero _) (ne_k (by decide)).symm k18 (fun h19 s19 k19 => ?_)
  refine stB (p := m + 20) s19.2.2.2.2.2 (Nat.succ_ne_zero _) (ne_k (by decide)).symm k19 (fun h20 s20 k20 => ?_)
  refine stB (p := m + 21) s20.2.2.2.2.2 (Nat.succ_ne_zero _) (ne_k (by decide)).symm k20 (fun h21 s21 k21 => ?_)
  refine stB (p := m + 22) s21.2.2.2.2.2 (Nat.succ_ne_zero _) (ne_k (by decide)).symm k21 (fun h22 s22 k22 => ?_)
  refine stB (p := m + 23) s22.2.2.2.2.2 (Nat.succ_ne_zero _) (ne_k (by decide)).symm k22 (fun h23 s23 k23 => ?_)
  have M23 : ∀ a, a < m + 24 → a ≠ m → Sm h23 h23 a := fun a _ _ => Sm.rf
  have M22 : ∀ a, a < m + 23 → a ≠ m → Sm h22 h23 a := fun a u1 u2 => (s23.1 a u2 (Nat.ne_of_lt u1)).tr (M23 a (Nat.lt_succ_of_lt u1) u2)
  have M21 : ∀ a, a < m + 22 → a ≠ m → Sm h21 h23 a := fun a u1 u2 => (s22.1 a u2 (Nat.ne_of_lt u1)).tr (M22 a (Nat.lt_succ_of_lt u1) u2)
  have M20 : ∀ a, a < m + 21 → a ≠ m → Sm h20 h23 a := fun a u1 u2 => (s21.1 a u2 (Nat.ne_of_lt u1)).tr (M21 a (Nat.lt_succ_of_lt u1) u2)
  have M19 : ∀ a, a < m + 20 → a ≠ m → Sm h19 h23 a := fun a u1 u2 => (s20.1 a u2 (Nat.ne_of_lt u1)).tr (M20 a (Nat.lt_succ_of_lt u1) u2)
  have M18 : ∀ a, a < m + 19 → a ≠ m → Sm h18 h23 a := fun a u1 u2 => (s19.1 a u2 (Nat.ne_of_lt u1)).tr (M19 a (Nat.lt_succ_of_lt u1) u2)
  have M17 : ∀ a, a < m + 18 → a ≠ m → Sm h17 h23 a := fun a u1 u2 => (s18.1 a u2 (Nat.ne_of_lt u1)).tr (M18 a (Nat.lt_succ_of_lt u1) u2)
  have M16 : ∀ a, a < m + 17 → a ≠ m → Sm h16 h23 a := fun a u1 u2 => (s17.1 a u2 (Nat.ne_of_lt u1)).tr (M17 a (Nat.lt_succ_of_lt u1) u2)
  have M15 : ∀ a, a < m + 16 → a ≠ m → Sm h15 h23 a := fun a u1 u2 => (s16.1 a u2 (Nat.ne_of_lt u1)).tr (M16 a (Nat.lt_succ_of_lt u1) u2)
  have M14 : ∀ a, a < m + 15 → a ≠ m → Sm h14 h23 a := fun a u1 u2 => (s15.1 a u2 (Nat.ne_of_lt u1)).tr (M15 a (Nat.lt_succ_of_lt u1) u2)
  have M13 : ∀ a, a < m + 14 → a ≠ m → Sm h13 h23 a := fun a u1 u2 => (s14.1 a u2 (Nat.ne_of_lt u1)).tr (M14 a (Nat.lt_succ_of_lt u1) u2)
  have M12 : ∀ a, a < m + 13 → a ≠ m → Sm h12 h23 a := fun a u1 u2 => (s13.1 a u2 (Nat.ne_of_lt u1)).tr (M13 a (Nat.lt_succ_of_lt u1) u2)
  have M11 : ∀ a, a < m + 12 → a ≠ m → Sm h11 h23 a := fun a u1 u2 => (s12.1 a u2 (Nat.ne_of_lt u1)).tr (M12 a (Nat.lt_succ_of_lt u1) u2)
  have M10 : ∀ a, a < m + 11 → a ≠ m → Sm h10 h23 a := fun a u1 u2 => (s11.1 a u2 (Nat.ne_of_lt u1)).tr (M11 a (Nat.lt_succ_of_lt u1) u2)
  have M9 : ∀ a, a < m + 10 → a ≠ m → Sm h9 h23 a := fun a u1 u2 => (s10.1 a u2 (Nat.ne_of_lt u1)).tr (M10 a (Nat.lt_succ_of_lt u1) u2)
  have M8 : ∀ a, a < m + 9 → a ≠ m → Sm h8 h23 a := fun a u1 u2 => (s9.1 a u2 (Nat.ne_of_lt u1)).tr (M9 a (Nat.lt_succ_of_lt u1) u2)
  have M7 : ∀ a, a < m + 8 → a ≠ m → Sm h7 h23 a := fun a u1 u2 => (s8.1 a u2 (Nat.ne_of_lt u1)).tr (M8 a (Nat.lt_succ_of_lt u1) u2)
  have M6 : ∀ a, a < m + 7 → a ≠ m → Sm h6 h23 a := fun a u1 u2 => (s7.1 a u2 (Nat.ne_of_lt u1)).tr (M7 a (Nat.lt_succ_of_lt u1) u2)
  have M5 : ∀ a, a < m + 6 → a ≠ m → Sm h5 h23 a := fun a u1 u2 => (s6.1 a u2 (Nat.ne_of_lt u1)).tr (M6 a (Nat.lt_succ_of_lt u1) u2)
  have M4 : ∀ a, a < m + 5 → a ≠ m → Sm h4 h23 a := fun a u1 u2 => (s5.1 a u2 (Nat.ne_of_lt u1)).tr (M5 a (Nat.lt_succ_of_lt u1) u2)
  have M3 : ∀ a, a < m + 4 → a ≠ m → Sm h3 h23 a := fun a u1 u2 => (s4.1 a u2 (Nat.ne_of_lt u1)).tr (M4 a (Nat.lt_succ_of_lt u1) u2)
  have M2 : ∀ a, a < m + 3 → a ≠ m → Sm h2 h23 a := fun a u1 u2 => (s3.1 a u2 (Nat.ne_of_lt u1)).tr (M3 a (Nat.lt_succ_of_lt u1) u2)
  have M1' : ∀ a, a < m + 2 → a ≠ m → Sm h1' h23 a := fun a u1 u2 => (s2.1 a u2 (Nat.ne_of_lt u1)).tr (M2 a (Nat.lt_succ_of_lt u1) u2)
  have M1 : ∀ a, a < m + 2 → a ≠ m → Sm h1 h23 a := fun a u1 u2 => (sx a u2).tr (M1' a u1 u2)
  have M0 : ∀ a, a < m → Sm h h23 a := fun a u1 => (s1.1 a (Nat.ne_of_lt u1) (Nat.ne_of_lt (Nat.lt_succ_of_lt u1))).tr (M1 a (Nat.lt_succ_of_lt (Nat.lt_succ_of_lt u1)) (Nat.ne_of_lt u1))
  have im : zI h23 m = zI h1' m := s23.2.1.2.2.trans (s22.2.1.2.2.trans (s21.2.1.2.2.trans (s20.2.1.2.2.trans (s19.2.1.2.2.trans (s18.2.1.2.2.trans (s17.2.1.2.2.trans (s16.2.1.2.2.trans (s15.2.1.2.2.trans (s14.2.1.2.2.trans (s13.2.1.2.2.trans (s12.2.1.2.2.trans (s11.2.1.2.2.trans (s10.2.1.2.2.trans (s9.2.1.2.2.trans (s8.2.1.2.2.trans (s7.2.1.2.2.trans (s6.2.1.2.2.trans (s5.2.1.2.2.trans (s4.2.1.2.2.trans (s3.2.1.2.2.trans (s2.2.1.2.2)))))))))))))))))))))
  have P1 : zP h23 m 1 = m + 1 := by rw [s23.2.2.2.1 1 (by decide), s22.2.2.2.1 1 (by decide), s21.2.2.2.1 1 (by decide), s20.2.2.2.1 1 (by decide), s19.2.2.2.1 1 (by decide), s18.2.2.2.1 1 (by decide), s17.2.2.2.1 1 (by decide), s16.2.2.2.1 1 (by decide), s15.2.2.2.1 1 (by decide), s14.2.2.2.1 1 (by decide), s13.2.2.2.1 1 (by decide), s12.2.2.2.1 1 (by decide), s11.2.2.2.1 1 (by decide), s10.2.2.2.1 1 (by decide), s9.2.2.2.1 1 (by decide), s8.2.2.2.1 1 (by decide), s7.2.2.2.1 1 (by decide), s6.2.2.2.1 1 (by decide), s5.2.2.2.1 1 (by decide), s4.2.2.2.1 1 (by decide), s3.2.2.2.1 1 (by decide), s2.2.2.2.1 1 (by decide), px]; exact s1.2.2.1
  have P2 : zP h23 m 7 = m + 2 := by rw [s23.2.2.2.1 7 (by decide), s22.2.2.2.1 7 (by decide), s21.2.2.2.1 7 (by decide), s20.2.2.2.1 7 (by decide), s19.2.2.2.1 7 (by decide), s18.2.2.2.1 7 (by decide), s17.2.2.2.1 7 (by decide), s16.2.2.2.1 7 (by decide), s15.2.2.2.1 7 (by decide), s14.2.2.2.1 7 (by decide), s13.2.2.2.1 7 (by decide), s12.2.2.2.1 7 (by decide), s11.2.2.2.1 7 (by decide), s10.2.2.2.1 7 (by decide), s9.2.2.2.1 7 (by decide), s8.2.2.2.1 7 (by decide), s7.2.2.2.1 7 (by decide), s6.2.2.2.1 7 (by decide), s5.2.2.2.1 7 (by decide), s4.2.2.2.1 7 (by decide), s3.2.2.2.1 7 (by decide)]; exact s2.2.2.1
  have P3 : zP h23 m 8 = m + 3 := by rw [s23.2.2.2.1 8 (by decide), s22.2.2.2.1 8 (by decide), s21.2.2.2.1 8 (by decide), s20.2.2.2.1 8 (by decide), s19.2.2.2.1 8 (by decide), s18.2.2.2.1 8 (by decide), s17.2.2.2.1 8 (by decide), s16.2.2.2.1 8 (by decide), s15.2.2.2.1 8 (by decide), s14.2.2.2.1 8 (by decide), s13.2.2.2.1 8 (by decide), s12.2.2.2.1 8 (by decide), s11.2.2.2.1 8 (by decide), s10.2.2.2.1 8 (by decide), s9.2.2.2.1 8 (by decide), s8.2.2.2.1 8 (by decide), s7.2.2.2.1 8 (by decide), s6.2.2.2.1 8 (by decide), s5.2.2.2.1 8 (by decide), s4.2.2.2.1 8 (by decide)]; exact s3.2.2.1
  have P4 : zP h23 m 9 = m + 4 := by rw [s23.2.2.2.1 9 (by decide), s22.2.2.2.1 9 (by decide), s21.2.2.2.1 9 (by decide), s20.2.2.2.1 9 (by decide), s19.2.2.2.1 9 (by decide), s18.2.2.2.1 9 (by decide), s17.2.2.2.1 9 (by decide), s16.2.2.2.1 9 (by decide), s15.2.2.2.1 9 (by decide), s14.2.2.2.1 9 (by decide), s13.2.2.2.1 9 (by decide), s12.2.2.2.1 9 (by decide), s11.2.2.2.1 9 (by decide), s10.2.2.2.1 9 (by decide), s9.2.2.2.1 9 (by decide), s8.2.2.2.1 9 (by decide), s7.2.2.2.1 9 (by decide), s6.2.2.2.1 9 (by decide), s5.2.2.2.1 9 (by decide)]; exact s4.2.2.1
  have P5 : zP h23 m 10 = m + 5 := by rw [s23.2.2.2.1 10 (by decide), s22.2.2.2.1 10 (by decide), s21.2.2.2.1 10 (by decide), s20.2.2.2.1 10 (by decide), s19.2.2.2.1 10 (by decide), s18.2.2.2.1 10 (by decide), s17.2.2.2.1 10 (by decide), s16.2.2.2.1 10 (by decide), s15.2.2.2.1 10 (by decide), s14.2.2.2.1 10 (by decide), s13.2.2.2.1 10 (by decide), s12.2.2.2.1 10 (by decide), s11.2.2.2.1 10 (by decide), s10.2.2.2.1 10 (by decide), s9.2.2.2.1 10 (by decide), s8.2.2.2.1 10 (by decide), s7.2.2.2.1 10 (by decide), s6.2.2.2.1 10 (by decide)]; exact s5.2.2.1
  have P6 : zP h23 m 11 = m + 6 := by rw [s23.2.2.2.1 11 (by decide), s22.2.2.2.1 11 (by decide), s21.2.2.2.1 11 (by decide), s20.2.2.2.1 11 (by decide), s19.2.2.2.1 11 (by decide), s18.2.2.2.1 11 (by decide), s17.2.2.2.1 11 (by decide), s16.2.2.2.1 11 (by decide), s15.2.2.2.1 11 (by decide), s14.2.2.2.1 11 (by decide), s13.2.2.2.1 11 (by decide), s12.2.2.2.1 11 (by decide), s11.2.2.2.1 11 (by decide), s10.2.2.2.1 11 (by decide), s9.2.2.2.1 11 (by decide), s8.2.2.2.1 11 (by decide), s7.2.2.2.1 11 (by decide)]; exact s6.2.2.1
  have P7 : zP h23 m 12 = m + 7 := by rw [s23.2.2.2.1 12 (by decide), s22.2.2.2.1 12 (by decide), s21.2.2.2.1 12 (by decide), s20.2.2.2.1 12 (by decide), s19.2.2.2.1 12 (by decide), s18.2.2.2.1 12 (by decide), s17.2.2.2.1 12 (by decide), s16.2.2.2.1 12 (by decide), s15.2.2.2.1 12 (by decide), s14.2.2.2.1 12 (by decide), s13.2.2.2.1 12 (by decide), s12.2.2.2.1 12 (by decide), s11.2.2.2.1 12 (by decide), s10.2.2.2.1 12 (by decide), s9.2.2.2.1 12 (by decide), s8.2.2.2.1 12 (by decide)]; exact s7.2.2.1
  have P8 : zP h23 m 17 = m + 8 := by rw [s23.2.2.2.1 17 (by decide), s22.2.2.2.1 17 (by decide), s21.2.2.2.1 17 (by decide), s20.2.2.2.1 17 (by decide), s19.2.2.2.1 17 (by decide), s18.2.2.2.1 17 (by decide), s17.2.2.2.1 17 (by decide), s16.2.2.2.1 17 (by decide), s15.2.2.2.1 17 (by decide), s14.2.2.2.1 17 (by decide), s13.2.2.2.1 17 (by decide), s12.2.2.2.1 17 (by decide), s11.2.2.2.1 17 (by decide), s10.2.2.2.1 17 (by decide), s9.2.2.2.1 17 (by decide)]; exact s8.2.2.1
  have P9 : zP h23 m 18 = m + 9 := by rw [s23.2.2.2.1 18 (by decide), s22.2.2.2.1 18 (by decide), s21.2.2.2.1 18 (by decide), s20.2.2.2.1 18 (by decide), s19.2.2.2.1 18 (by decide), s18.2.2.2.1 18 (by decide), s17.2.2.2.1 18 (by decide), s16.2.2.2.1 18 (by decide), s15.2.2.2.1 18 (by decide), s14.2.2.2.1 18 (by decide), s13.2.2.2.1 18 (by decide), s12.2.2.2.1 18 (by decide), s11.2.2.2.1 18 (by decide), s10.2.2.2.1 18 (by decide)]; exact s9.2.2.1
  have P10 : zP h23 m 19 = m + 10 := by rw [s23.2.2.2.1 19 (by decide), s22.2.2.2.1 19 (by decide), s21.2.2.2.1 19 (by decide), s20.2.2.2.1 19 (by decide), s19.2.2.2.1 19 (by decide), s18.2.2.2.1 19 (by decide), s17.2.2.2.1 19 (by decide), s16.2.2.2.1 19 (by decide), s15.2.2.2.1 19 (by decide), s14.2.2.2.1 19 (by decide), s13.2.2.2.1 19 (by decide), s12.2.2.2.1 19 (by decide), s11.2.2.2.1 19 (by decide)]; exact s10.2.2.1
  have P11 : zP h23 m 20 = m + 11 := by rw [s23.2.2.2.1 20 (by decide), s22.2.2.2.1 20 (by decide), s21.2.2.2.1 20 (by decide), s20.2.2.2.1 20 (by decide), s19.2.2.2.1 20 (by decide), s18.2.2.2.1 20 (by decide), s17.2.2.2.1 20 (by decide), s16.2.2.2.1 20 (by decide), s15.2.2.2.1 20 (by decide), s14.2.2.2.1 20 (by decide), s13.2.2.2.1 20 (by decide), s12.2.2.2.1 20 (by decide)]; exact s11.2.2.1
  have P12 : zP h23 m 21 = m + 12 := by rw [s23.2.2.2.1 21 (by decide), s22.2.2.2.1 21 (by decide), s21.2.2.2.1 21 (by decide), s20.2.2.2.1 21 (by decide), s19.2.2.2.1 21 (by decide), s18.2.2.2.1 21 (by decide), s17.2.2.2.1 21 (by decide), s16.2.2.2.1 21 (by decide), s15.2.2.2.1 21 (by decide), s14.2.2.2.1 21 (by decide), s13.2.2.2.1 21 (by decide)]; exact s12.2.2.1
  have P13 : zP h23 m 22 = m + 13 := by rw [s23.2.2.2.1 22 (by decide), s22.2.2.2.1 22 (by decide), s21.2.2.2.1 22 (by decide), s20.2.2.2.1 22 (by decide), s19.2.2.2.1 22 (by decide), s18.2.2.2.1 22 (by decide), s17.2.2.2.1 22 (by decide), s16.2.2.2.1 22 (by decide), s15.2.2.2.1 22 (by decide), s14.2.2.2.1 22 (by decide)]; exact s13.2.2.1
  have P14 : zP h23 m 23 = m + 14 := by rw [s23.2.2.2.1 23 (by decide), s22.2.2.2.1 23 (by decide), s21.2.2.2.1 23 (by decide), s20.2.2.2.1 23 (by decide), s19.2.2.2.1 23 (by decide), s18.2.2.2.1 23 (by decide), s17.2.2.2.1 23 (by decide), s16.2.2.2.1 23 (by decide), s15.2.2.2.1 23 (by decide)]; exact s14.2.2.1
  have P15 : zP h23 m 24 = m + 15 := by rw [s23.2.2.2.1 24 (by decide), s22.2.2.2.1 24 (by decide), s21.2.2.2.1 24 (by decide), s20.2.2.2.1 24 (by decide), s19.2.2.2.1 24 (by decide), s18.2.2.2.1 24 (by decide), s17.2.2.2.1 24 (by decide), s16.2.2.2.1 24 (by decide)]; exact s15.2.2.1
  have P16 : zP h23 m 25 = m + 16 := by rw [s23.2.2.2.1 25 (by decide), s22.2.2.2.1 25 (by decide), s21.2.2.2.1 25 (by decide), s20.2.2.2.1 25 (by decide), s19.2.2.2.1 25 (by decide), s18.2.2.2.1 25 (by decide), s17.2.2.2.1 25 (by decide)]; exact s16.2.2.1
  have P17 : zP h23 m 26 = m + 17 := by rw [s23.2.2.2.1 26 (by decide), s22.2.2.2.1 26 (by decide), s21.2.2.2.1 26 (by decide), s20.2.2.2.1 26 (by decide), s19.2.2.2.1 26 (by decide), s18.2.2.2.1 26 (by decide)]; exact s17.2.2.1
  have P18 : zP h23 m 27 = m + 18 := by rw [s23.2.2.2.1 27 (by decide), s22.2.2.2.1 27 (by decide), s21.2.2.2.1 27 (by decide), s20.2.2.2.1 27 (by decide), s19.2.2.2.1 27 (by decide)]; exact s18.2.2.1
  have P19 : zP h23 m 29 = m + 19 := by rw [s23.2.2.2.1 29 (by decide), s22.2.2.2.1 29 (by decide), s21.2.2.2.1 29 (by decide), s20.2.2.2.1 29 (by decide)]; exact s19.2.2.1
  have P20 : zP h23 m 30 = m + 20 := by rw [s23.2.2.2.1 30 (by decide), s22.2.2.2.1 30 (by decide), s21.2.2.2.1 30 (by decide)]; exact s20.2.2.1
  have P21 : zP h23 m 31 = m + 21 := by rw [s23.2.2.2.1 31 (by decide), s22.2.2.2.1 31 (by decide)]; exact s21.2.2.1
  have P22 : zP h23 m 32 = m + 22 := by rw [s23.2.2.2.1 32 (by decide)]; exact s22.2.2.1
  have P23 : zP h23 m 38 = m + 23 := s23.2.2.1
  have c1 : zkd h23 (m + 1) = 9 ∧ zln h23 (m + 1) = 160 ∧ zI h23 (m + 1) = nr (fun _ => 0) := ⟨(M1 (m + 1) (lt_k (by decide)) (ne_k (by decide))).1.trans s1.2.2.2.2.1.1, (M1 (m + 1) (lt_k (by decide)) (ne_k (by decide))).2.1.trans s1.2.2.2.2.1.2.1, (M1 (m + 1) (lt_k (by decide)) (ne_k (by decide))).2.2.1.trans s1.2.2.2.2.1.2.2⟩
  have c2 : zkd h23 (m + 2) = 9 ∧ zln h23 (m + 2) = 20 ∧ zI h23 (m + 2) = nr (fun _ => 0) := ⟨(M2 (m + 2) (lt_k (by decide)) (ne_k (by decide))).1.trans s2.2.2.2.2.1.1, (M2 (m + 2) (lt_k (by decide)) (ne_k (by decide))).2.1.trans s2.2.2.2.2.1.2.1, (M2 (m + 2) (lt_k (by decide)) (ne_k (by decide))).2.2.1.trans s2.2.2.2.2.1.2.2⟩
  have c3 : zkd h23 (m + 3) = 9 ∧ zln h23 (m + 3) = 20 ∧ zI h23 (m + 3) = nr (fun _ => 0) := ⟨(M3 (m + 3) (lt_k (by decide)) (ne_k (by decide))).1.trans s3.2.2.2.2.1.1, (M3 (m + 3) (lt_k (by decide)) (ne_k (by decide))).2.1.trans s3.2.2.2.2.1.2.1, (M3 (m + 3) (lt_k (by decide)) (ne_k (by decide))).2.2.1.trans s3.2.2.2.2.1.2.2⟩
  have c4 : zkd h23 (m + 4) = 9 ∧ zln h23 (m + 4) = 20 ∧ zI h23 (m + 4) = nr (fun _ => 0) := ⟨(M4 (m + 4) (lt_k (by decide)) (ne_k (by decide))).1.trans s4.2.2.2.2.1.1, (M4 (m + 4) (lt_k (by decide)) (ne_k (by decide))).2.1.trans s4.2.2.2.2.1.2.1, (M4 (m + 4) (lt_k (by decide)) (ne_k (by decide))).2.2.1.trans s4.2.2.2.2.1.2.2⟩
  have c5 : zkd h23 (m + 5) = 9 ∧ zln h23 (m + 5) = 20 ∧ zI h23 (m + 5) = nr (fun _ => 0) := ⟨(M5 (m + 5) (lt_k (by decide)) (ne_k (by decide))).1.trans s5.2.2.2.2.1.1, (M5 (m + 5) (lt_k (by decide)) (ne_k (by decide))).2.1.trans s5.2.2.2.2.1.2.1, (M5 (m + 5) (lt_k (by decide)) (ne_k (by decide))).2.2.1.trans s5.2.2.2.2.1.2.2⟩
  have c6 : zkd h23 (m + 6) = 9 ∧ zln h23 (m + 6) = 6 ∧ zI h23 (m + 6) = nr (fun _ => 0) := ⟨(M6 (m + 6) (lt_k (by decide)) (ne_k (by decide))).1.trans s6.2.2.2.2.1.1, (M6 (m + 6) (lt_k (by decide)) (ne_k (by decide))).2.1.trans s6.2.2.2.2.1.2.1, (M6 (m + 6) (lt_k (by decide)) (ne_k (by decide))).2.2.1.trans s6.2.2.2.2.1.2.2⟩
  have c7 : zkd h23 (m + 7) = 9 ∧ zln h23 (m + 7) = 6 ∧ zI h23 (m + 7) = nr (fun _ => 0) := ⟨(M7 (m + 7) (lt_k (by decide)) (ne_k (by decide))).1.trans s7.2.2.2.2.1.1, (M7 (m + 7) (lt_k (by decide)) (ne_k (by decide))).2.1.trans s7.2.2.2.2.1.2.1, (M7 (m + 7) (lt_k (by decide)) (ne_k (by decide))).2.2.1.trans s7.2.2.2.2.1.2.2⟩
  have c8 : zkd h23 (m + 8) = 9 ∧ zln h23 (m + 8) = 20 ∧ zI h23 (m + 8) = nr (fun _ => 0) := ⟨(M8 (m + 8) (lt_k (by decide)) (ne_k (by decide))).1.trans s8.2.2.2.2.1.1, (M8 (m + 8) (lt_k (by decide)) (ne_k (by decide))).2.1.trans s8.2.2.2.2.1.2.1, (M8 (m + 8) (lt_k (by decide)) (ne_k (by decide))).2.2.1.trans s8.2.2.2.2.1.2.2⟩
  have c9 : zkd h23 (m + 9) = 9 ∧ zln h23 (m + 9) = 20 ∧ zI h23 (m + 9) = nr (fun _ => 0) := ⟨(M9 (m + 9) (lt_k (by decide)) (ne_k (by decide))).1.trans s9.2.2.2.2.1.1, (M9 (m + 9) (lt_k (by decide)) (ne_k (by decide))).2.1.trans s9.2.2.2.2.1.2.1, (M9 (m + 9) (lt_k (by decide)) (ne_k (by decide))).2.2.1.trans s9.2.2.2.2.1.2.2⟩
  have c10 : zkd h23 (m + 10) = 9 ∧ zln h23 (m + 10) = 20 ∧ zI h23 (m + 10) = nr (fun _ => 0) := ⟨(M10 (m + 10) (lt_k (by decide)) (ne_k (by decide))).1.trans s10.2.2.2.2.1.1, (M10 (m + 10) (lt_k (by decide)) (ne_k (by decide))).2.1.trans s10.2.2.2.2.1.2.1, (M10 (m + 10) (lt_k (by decide)) (ne_k (by decide))).2.2.1.trans s10.2.2.2.2.1.2.2⟩
  have c11 : zkd h23 (m + 11) = 9 ∧ zln h23 (m + 11) = 20 ∧ zI h23 (m + 11) = nr (fun _ => 0) := ⟨(M11 (m + 11) (lt_k (by decide)) (ne_k (by decide))).1.trans s11.2.2.2.2.1.1, (M11 (m + 11) (lt_k (by decide)) (ne_k (by decide))).2.1.trans s11.2.2.2.2.1.2.1, (M11 (m + 11) (lt_k (by decide)) (ne_k (by decide))).2.2.1.trans s11.2.2.2.2.1.2.2⟩
  have c12 : zkd h23 (m + 12) = 9 ∧ zln h23 (m + 12) = 20 ∧ zI h23 (m + 12) = nr (fun _ => 0) := ⟨(M12 (m + 12) (lt_k (by decide)) (ne_k (by decide))).1.trans s12.2.2.2.2.1.1, (M12 (m + 12) (lt_k (by decide)) (ne_k (by decide))).2.1.trans s12.2.2.2.2.1.2.1, (M12 (m + 12) (lt_k (by decide)) (ne_k (by decide))).2.2.1.trans s12.2.2.2.2.1.2.2⟩
  have c13 : zkd h23 (m + 13) = 9 ∧ zln h23 (m + 13) = 6 ∧ zI h23 (m + 13) = nr (fun _ => 0) := ⟨(M13 (m + 13) (lt_k (by decide)) (ne_k (by decide))).1.trans s13.2.2.2.2.1.1, (M13 (m + 13) (lt_k (by decide)) (ne_k (by decide))).2.1.trans s13.2.2.2.2.1.2.1, (M13 (m + 13) (lt_k (by decide)) (ne_k (by decide))).2.2.1.trans s13.2.2.2.2.1.2.2⟩
  have c14 : zkd h23 (m + 14) = 9 ∧ zln h23 (m + 14) = 6 ∧ zI h23 (m + 14) = nr (fun _ => 0) := ⟨(M14 (m + 14) (lt_k (by decide)) (ne_k (by decide))).1.trans s14.2.2.2.2.1.1, (M14 (m + 14) (lt_k (by decide)) (ne_k (by decide))).2.1.trans s14.2.2.2.2.1.2.1, (M14 (m + 14) (lt_k (by decide)) (ne_k (by decide))).2.2.1.trans s14.2.2.2.2.1.2.2⟩
  have c15 : zkd h23 (m + 15) = 9 ∧ zln h23 (m + 15) = 360 ∧ zI h23 (m + 15) = nr (fun _ => 0) := ⟨(M15 (m + 15) (lt_k (by decide)) (ne_k (by decide))).1.trans s15.2.2.2.2.1.1, (M15 (m + 15) (lt_k (by decide)) (ne_k (by decide))).2.1.trans s15.2.2.2.2.1.2.1, (M15 (m + 15) (lt_k (by decide)) (ne_k (by decide))).2.2.1.trans s15.2.2.2.2.1.2.2⟩
  have c16 : zkd h23 (m + 16) = 9 ∧ zln h23 (m + 16) = 360 ∧ zI h23 (m + 16) = nr (fun _ => 0) := ⟨(M16 (m + 16) (lt_k (by decide)) (ne_k (by decide))).1.trans s16.2.2.2.2.1.1, (M16 (m + 16) (lt_k (by decide)) (ne_k (by decide))).2.1.trans s16.2.2.2.2.1.2.1, (M16 (m + 16) (lt_k (by decide)) (ne_k (by decide))).2.2.1.trans s16.2.2.2.2.1.2.2⟩
  have c17 : zkd h23 (m + 17) = 9 ∧ zln h23 (m + 17) = 360 ∧ zI h23 (m + 17) = nr (fun _ => 0) := ⟨(M17 (m + 17) (lt_k (by decide)) (ne_k (by decide))).1.trans s17.2.2.2.2.1.1, (M17 (m + 17) (lt_k (by decide)) (ne_k (by decide))).2.1.trans s17.2.2.2.2.1.2.1, (M17 (m + 17) (lt_k (by decide)) (ne_k (by decide))).2.2.1.trans s17.2.2.2.2.1.2.2⟩
  have c18 : zkd h23 (m + 18) = 9 ∧ zln h23 (m + 18) = 5040 ∧ zI h23 (m + 18) = nr (fun _ => 0) := ⟨(M18 (m + 18) (lt_k (by decide)) (ne_k (by decide))).1.trans s18.2.2.2.2.1.1, (M18 (m + 18) (lt_k (by decide)) (ne_k (by decide))).2.1.trans s18.2.2.2.2.1.2.1, (M18 (m + 18) (lt_k (by decide)) (ne_k (by decide))).2.2.1.trans s18.2.2.2.2.1.2.2⟩
  have c19 : zkd h23 (m + 19) = 9 ∧ zln h23 (m + 19) = 720 ∧ zI h23 (m + 19) = nr (fun _ => 0) := ⟨(M19 (m + 19) (lt_k (by decide)) (ne_k (by decide))).1.trans s19.2.2.2.2.1.1, (M19 (m + 19) (lt_k (by decide)) (ne_k (by decide))).2.1.trans s19.2.2.2.2.1.2.1, (M19 (m + 19) (lt_k (by decide)) (ne_k (by decide))).2.2.1.trans s19.2.2.2.2.1.2.2⟩
  have c20 : zkd h23 (m + 20) = 11 ∧ zln h23 (m + 20) = 2 ∧ zI h23 (m + 20) = nr (fun _ => 0) := ⟨(M20 (m + 20) (lt_k (by decide)) (ne_k (by decide))).1.trans s20.2.2.2.2.1.1, (M20 (m + 20) (lt_k (by decide)) (ne_k (by decide))).2.1.trans s20.2.2.2.2.1.2.1, (M20 (m + 20) (lt_k (by decide)) (ne_k (by decide))).2.2.1.trans s20.2.2.2.2.1.2.2⟩
  have c21 : zkd h23 (m + 21) = 9 ∧ zln h23 (m + 21) = 64 ∧ zI h23 (m + 21) = nr (fun _ => 0) := ⟨(M21 (m + 21) (lt_k (by decide)) (ne_k (by decide))).1.trans s21.2.2.2.2.1.1, (M21 (m + 21) (lt_k (by decide)) (ne_k (by decide))).2.1.trans s21.2.2.2.2.1.2.1, (M21 (m + 21) (lt_k (by decide)) (ne_k (by decide))).2.2.1.trans s21.2.2.2.2.1.2.2⟩
  have c22 : zkd h23 (m + 22) = 9 ∧ zln h23 (m + 22) = 64 ∧ zI h23 (m + 22) = nr (fun _ => 0) := ⟨(M22 (m + 22) (lt_k (by decide)) (ne_k (by decide))).1.trans s22.2.2.2.2.1.1, (M22 (m + 22) (lt_k (by decide)) (ne_k (by decide))).2.1.trans s22.2.2.2.2.1.2.1, (M22 (m + 22) (lt_k (by decide)) (ne_k (by decide))).2.2.1.trans s22.2.2.2.2.1.2.2⟩
  have c23 : zkd h23 (m + 23) = 9 ∧ zln h23 (m + 23) = 360 ∧ zI h23 (m + 23) = nr (fun _ => 0) := ⟨(M23 (m + 23) (lt_k (by decide)) (ne_k (by decide))).1.trans s23.2.2.2.2.1.1, (M23 (m + 23) (lt_k (by decide)) (ne_k (by decide))).2.1.trans s23.2.2.2.2.1.2.1, (M23 (m + 23) (lt_k (by decide)) (ne_k (by decide))).2.2.1.trans s23.2.2.2.2.1.2.2⟩
  have nH : zn h23 = m + 24 := s23.2.2.2.2.2
  have kH : zkd h23 m = 8 := k23
  have i4 : zI h23 m 4 = nI 1 := by rw [im]; exact r4
  have ik : ∀ k, k ≠ 4 → zI h23 m k = nI 0 := fun k hk => by rw [im]; exact rk k hk
  exact i_X7e kH nH i4 ik P1 P2 P3 P4 P5 P6 P7 P8 P9 P10 P11 P12 P13 P14 P15 P16 P17 P18 P19 P20 P21 P22 P23 c1 c2 c3 c4 c5 c6 c7 c8 c9 c10 c11 c12 c13 c14 c15 c16 c17 c18 c19 c20 c21 c22 c23 M0
end INI6
