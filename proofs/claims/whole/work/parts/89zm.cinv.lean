/-! pure: the component holds the state -/
def CSt (h : zH) (x : Nat) : Prop := zkd h x = 7 ∧ (zP h x 0 = x + 1 ∧ zP h x 1 = x + 3 ∧ zP h x 2 = x + 40 ∧ zP h x 3 = x + 77 ∧ zP h x 4 = x + 78 ∧ zP h x 5 = x + 117 ∧ zP h x 6 = x + 156 ∧ zP h x 7 = x + 157 ∧ zP h x 8 = x + 158) ∧ (zkd h (x + 156) = 13 ∧ zln h (x + 156) = 14) ∧ (zkd h (x + 157) = 13 ∧ zln h (x + 157) = 2) ∧ (zkd h (x + 158) = 11 ∧ zln h (x + 158) = 2) ∧ zkd h (x + 77) = 6 ∧ CSh h (x + 1) ∧ ∀ k, k < 2 → zP h (x + 157) k = x + 723 + 39 * k
def CBa (h : zH) (x b d : Nat) : Prop := ((b = x + 159 ∧ d = x + 168) ∨ (b = x + 168 ∧ d = x + 159)) ∧ zP h x 9 = b ∧ zP h x 10 = d
def CMm (h : zH) (x nc nh : Nat) (H : Nat → zN') : Prop := (∀ i, i < 14 → ∃ j, j < 14 ∧ zP h (x + 156) i = x + 177 + 39 * j) ∧ (∀ i j, i < 14 → j < 14 → zP h (x + 156) i = zP h (x + 156) j → i = j) ∧ (∀ j, j < 14 → SSh h (x + 177 + 39 * j)) ∧ ∀ i, i < nh → SR false h (zP h (x + 156) i) nc (H i)
def CSl (h : zH) (x nc : Nat) (fl : Nat → Bool) (K : Nat → zN') : Prop := (∀ k, k < 2 → SSh h (x + 723 + 39 * k)) ∧ (∀ k, k < 2 → zI h (x + 158) k = nI (if fl k = true then 1 else 0)) ∧ ∀ k, k < 2 → fl k = true → SR false h (x + 723 + 39 * k) nc (K k)
/-- all but the paths, the way, the state and the trial -/
def CK (h : zH) (x b d : Nat) (A : zSt) : Prop := CSt h x ∧ CBa h x b d ∧ zI h x 11 = nI (anh A) ∧ (zI h (x + 1) 1 = nI (an A) ∧ ∀ i, i < an A → zI h (x + 2) i = nI (aT A i)) ∧ (BR h b (anf A) (anc A) (anp A) (afr A) (att A) (agr A) (alo A) (aac A) (ali A) ∧ BSh h d) ∧ CMm h x (anc A) (anh A) (aH A) ∧ CSl h x (anc A) (afl A) (aK A)
/-- the paths, the way, the state and the trial -/
def CN (h : zH) (x : Nat) (A : zSt) : Prop := PF h (x + 3) (anf A) (anc A) (afr A) (att A) (acm0 A) ∧ PSh h (x + 40) ∧ SR false h (x + 78) (anc A) (aρ A) ∧ SSh h (x + 117)
def CI (h : zH) (x : Nat) (A : zSt) : Prop := ∃ b d, CK h x b d A ∧ CN h x A
section CINV
variable {h h' : zH} {x b d lo hi : Nat} {A : zSt}
theorem CSt_fr (f : Fr lo hi h h') (q : hi ≤ x ∨ (x + 2 ≤ lo ∧ hi ≤ x + 156) ∨ x + 158 ≤ lo) (hS : CSt h x) : CSt h' x := by
  obtain ⟨f1, f2, f3, f4⟩ := f
  obtain ⟨s1, s2, s3, s4, s5, s6, ⟨s7, s8, s9⟩, s10⟩ := hS
  unfold CSt CSh
  rw [f1, f2, (f4 x (by omega)).2, (f4 (x + 1) (by omega)).2, (f4 (x + 157) (by omega)).2]
  exact ⟨s1, s2, s3, s4, s5, s6, ⟨s7, s8, s9⟩, s10⟩
theorem CMm_fr {nc nh : Nat} {H : Nat → zN'} (f : Fr lo hi h h') (q : hi ≤ x + 156 ∨ (x + 157 ≤ lo ∧ hi ≤ x + 177) ∨ x + 723 ≤ lo) (hc : ∀ i, i < nh → H i 0 ≤ 12) (hn : nh ≤ 14) (hM : CMm h x nc nh H) : CMm h' x nc nh H := by
  obtain ⟨m1, m2, m3, m4⟩ := hM
  have p := (f.2.2.2 (x + 156) (by omega)).2
  refine ⟨fun i hi => by rw [p]; exact m1 i hi, fun i j hi hj => by rw [p]; exact m2 i j hi hj, fun j hj => SSh_fr f (by omega) (m3 j hj), fun i hi => ?_⟩
  rw [p]
  obtain ⟨j, hj, e⟩ := m1 i (by omega)
  have g := m4 i hi
  rw [e] at g ⊢
  exact SR_fr f (by omega) g (hc i hi)
theorem CSl_fr {nc : Nat} {fl : Nat → Bool} {K : Nat → zN'} (f : Fr lo hi h h') (q : hi ≤ x + 158 ∨ (x + 159 ≤ lo ∧ hi ≤ x + 723) ∨ x + 801 ≤ lo) (hc : ∀ k, k < 2 → fl k = true → K k 0 ≤ 12) (hM : CSl h x nc fl K) : CSl h' x nc fl K := by
  obtain ⟨m1, m2, m3⟩ := hM
  refine ⟨fun k hk => SSh_fr f (by omega) (m1 k hk), fun k hk => by rw [(f.2.2.2 (x + 158) (by omega)).1]; exact m2 k hk, fun k hk fl => SR_fr f (by omega) (m3 k hk fl) (hc k hk fl)⟩
theorem AI_hc {t : Nat} (hA : AI t A) : (∀ i, i < anh A → aH A i 0 ≤ 12) ∧ ∀ k, k < 2 → afl A k = true → aK A k 0 ≤ 12 := ⟨fun i hi => (hA.2.2.2.2.1 i hi).1.1.1, fun k hk fl => (hA.2.2.2.2.2 k hk fl).1.1.1⟩
theorem CBa.bd (q : CBa h x b d) : (b = x + 159 ∨ b = x + 168) ∧ (d = x + 159 ∨ d = x + 168) ∧ b ≠ d := by
  rcases q.1 with ⟨h1, h2⟩ | ⟨h1, h2⟩ <;> omega
/-- what lies between the text and the arrays, or behind all, changes nothing of it -/
theorem CK_fr {t : Nat} (hA : AI t A) (f : Fr lo hi h h') (q : (x + 3 ≤ lo ∧ hi ≤ x + 156) ∨ x + 801 ≤ lo) (hK : CK h x b d A) : CK h' x b d A := by
  obtain ⟨k1, k2, k3, k4, ⟨k5, k5'⟩, k6, k7⟩ := hK
  have e := k2.bd
  obtain ⟨c1, c2⟩ := AI_hc hA
  obtain ⟨f1, f2, f3, f4⟩ := id f
  refine ⟨CSt_fr f (by omega) k1, ?_, ?_, ?_, ⟨BR_fr f (by omega) k5, BSh_fr f (by omega) k5'⟩, CMm_fr f (by omega) c1 hA.2.2.2.1 k6, CSl_fr f (by omega) c2 k7⟩
  · unfold CBa; rw [(f4 x (by omega)).2]; exact k2
  · rw [(f4 x (by omega)).1]; exact k3
  · rw [(f4 (x + 1) (by omega)).1, (f4 (x + 2) (by omega)).1]; exact k4
theorem CN_fr {t : Nat} (hA : AI t A) (f : Fr lo hi h h') (q : hi ≤ x + 3 ∨ x + 156 ≤ lo) (hN : CN h x A) : CN h' x A := by
  obtain ⟨n1, n2, n3, n4⟩ := hN
  exact ⟨PF_fr f (by omega) hA.2.1.1.1 n1, PSh_fr f (by omega) n2, SR_fr f (by omega) n3 hA.2.2.1.1.1.1, SSh_fr f (by omega) n4⟩
theorem CI_fr {t : Nat} (hA : AI t A) (f : Fr lo hi h h') (q : x + 801 ≤ lo) (hC : CI h x A) : CI h' x A := by
  obtain ⟨b, d, k, n⟩ := hC
  exact ⟨b, d, CK_fr hA f (Or.inr q) k, CN_fr hA f (by omega) n⟩
theorem CI_off {t : Nat} (hA : AI t A) (hC : CI h x A) : CI (zoff h) x A := CI_fr hA (Fr.off (lo := x + 801) (hi := x + 801)) (Nat.le_refl _) hC
/-- the reference is beyond -/
theorem RI_fr {m : Nat} (f : Fr lo hi h h') (q : hi ≤ m) (hR : RI h m A) : RI h' m A := by
  obtain ⟨-, -, -, -, -, -, -, -, s1, s2, s3, s4, s5⟩ := id hR
  obtain ⟨f1, f2, f3, f4⟩ := f
  refine RI_keep hR f1 f2 (f4 m (by omega)).2 (fun a ha => (f4 a (by omega)).1) (fun k _ => by rw [(f4 m (by omega)).1]) ?_
  unfold Scr
  rw [(f4 _ (by omega)).1, (f4 _ (by omega)).1, (f4 _ (by omega)).1, (f4 _ (by omega)).1, (f4 _ (by omega)).1]
  exact ⟨s1, s2, s3, s4, s5⟩
end CINV
section CST
variable {h : zH} {x b d : Nat} {A : zSt}
theorem le_ {h : zH} {a n : Nat} (hk : 9 ≤ zkd h a ∧ zkd h a ≤ 14) (hl : zln h a = n) : zle h a = some (nI n) := by
  subst hl
  exact if_pos hk
theorem CSt.g0 (s : CSt h x) : zgP h 6 x 0 = some (x + 1) := gP_ s.1 s.2.1.1 (by omega)
theorem CSt.g1 (s : CSt h x) : zgP h 6 x 1 = some (x + 3) := gP_ s.1 s.2.1.2.1 (by omega)
theorem CSt.g2 (s : CSt h x) : zgP h 6 x 2 = some (x + 40) := gP_ s.1 s.2.1.2.2.1 (by omega)
theorem CSt.g3 (s : CSt h x) : zgP h 6 x 3 = some (x + 77) := gP_ s.1 s.2.1.2.2.2.1 (by omega)
theorem CSt.g4 (s : CSt h x) : zgP h 6 x 4 = some (x + 78) := gP_ s.1 s.2.1.2.2.2.2.1 (by omega)
theorem CSt.g5 (s : CSt h x) : zgP h 6 x 5 = some (x + 117) := gP_ s.1 s.2.1.2.2.2.2.2.1 (by omega)
theorem CSt.g6 (s : CSt h x) : zgP h 6 x 6 = some (x + 156) := gP_ s.1 s.2.1.2.2.2.2.2.2.1 (by omega)
theorem CSt.g7 (s : CSt h x) : zgP h 6 x 7 = some (x + 157) := gP_ s.1 s.2.1.2.2.2.2.2.2.2.1 (by omega)
theorem CSt.g8 (s : CSt h x) : zgP h 6 x 8 = some (x + 158) := gP_ s.1 s.2.1.2.2.2.2.2.2.2.2 (by omega)
theorem CBa.g9 (s : CBa h x b d) (k : zkd h x = 7) : zgP h 6 x 9 = some b := gP_ k s.2.1 (by have := s.bd; omega)
theorem CBa.g10 (s : CBa h x b d) (k : zkd h x = 7) : zgP h 6 x 10 = some d := gP_ k s.2.2 (by have := s.bd; omega)
theorem CK.g11 (s : CK h x b d A) : zgI h 6 x 11 = some (nI (anh A)) := by rw [gI_ s.1.1, s.2.2.1]
theorem CSt.l6 (s : CSt h x) : zle h (x + 156) = some (nI 14) := le_ (by rw [s.2.2.1.1]; omega) s.2.2.1.2
theorem CSt.l8 (s : CSt h x) : zle h (x + 158) = some (nI 2) := le_ (by rw [s.2.2.2.2.1.1]; omega) s.2.2.2.2.1.2
theorem CMm.m (s : CSt h x) {nc nh i : Nat} {H : Nat → zN'} (hM : CMm h x nc nh H) (hi : i < 14) : zaP h (x + 156) (nI i) = some (zP h (x + 156) i) := aP_ (by rw [s.2.2.1.1]; omega) (by rw [s.2.2.1.2]; exact hi) (by rw [s.2.2.1.2]; omega) rfl (by obtain ⟨j, hj, e⟩ := hM.1 i hi; omega)
theorem CSt.sl (s : CSt h x) {k : Nat} (hk : k < 2) : zaP h (x + 157) (nI k) = some (x + 723 + 39 * k) := aP_ (by rw [s.2.2.2.1.1]; omega) (by rw [s.2.2.2.1.2]; exact hk) (by rw [s.2.2.2.1.2]; omega) (s.2.2.2.2.2.2.2 k hk) (by omega)
end CST
