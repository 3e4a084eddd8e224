/-! pure: which functions make no cell -/
theorem zif' {β : Type} {c : Prop} [Decidable c] {a : Option β} {r : β} (h : (if c then a else none) = some r) : c ∧ a = some r := by
  rcases zite h with q | ⟨-, q⟩
  · exact q
  · cases q
section ZN
variable {h h' r : zH} {c a k u0 u1 u2 : Nat} {i v : Int32}
theorem zn_bI (e : zbI h a i v = some h') : zn h' = zn h := by
  obtain ⟨-, rfl⟩ := zif e
  rfl
theorem zn_pI (e : zpI h c a k v = some h') : zn h' = zn h := by
  obtain ⟨-, rfl⟩ := zif e
  rfl
theorem zn_bZ (e : zbZ h a i v = some h') : zn h' = zn h := by
  obtain ⟨-, rfl⟩ := zif e
  rfl
theorem zn_cp {b : Nat} {s d n : Int32} (e : zcp h a s b d n = some h') : zn h' = zn h := by
  obtain ⟨-, rfl⟩ := zif e
  rfl
end ZN
section ZN2
variable {h : zH}
theorem zn_X2_connects {r : Int32 × zH} {a0 : Nat} {a1 a2 : Int32} (hf : fX2_connects h a0 a1 a2 = some r) : zn r.2 = zn h := by
  unfold fX2_connects at hf
  rcases zite hf with ⟨-, hf⟩ | ⟨-, hf⟩
  · obtain ⟨w1, ew1, hf⟩ := zbs hf
    obtain ⟨w2, ew2, hf⟩ := zbs hf
    obtain ⟨w3, ew3, hf⟩ := zbs hf
    rcases zite hf with ⟨-, hf⟩ | ⟨-, hf⟩
    · cases hf
      show zn h = _
      omega
    · cases hf
      show zn h = _
      omega
  · cases hf
theorem zn_X2_lowestFirstStep_L2 {r : Int32 × zH} {u0 : Nat} {u1 u2 : Int32} {k : zH → Int32 → Option (Int32 × zH)} (hk : ∀ h v, k h v = some r → zn r.2 = zn h) : ∀ n h v3, fX2_lowestFirstStep_L2 k u0 u1 u2 n h v3 = some r → zn r.2 = zn h := by
  intro n
  induction n with
  | zero => intro h v3 hf; cases hf
  | succ n ih =>
    intro h v3 hf
    rw [fX2_lowestFirstStep_L2] at hf
    rcases zite hf with ⟨-, hf⟩ | ⟨-, hf⟩
    · have q := hk _ _ hf
      omega
    · obtain ⟨w2, ew2, hf⟩ := zbs hf
      obtain ⟨w3, ew3, hf⟩ := zbs hf
      obtain ⟨w4, ew4, hf⟩ := zbs hf
      obtain ⟨w5, ew5, hf⟩ := zbs hf
      obtain ⟨w6, ew6, hf⟩ := zbs hf
      obtain ⟨w7, ew7, hf⟩ := zbs hf
      obtain ⟨w8, ew8, hf⟩ := zbs hf
      obtain ⟨w9, ew9, hf⟩ := zbs hf
      obtain ⟨w10, ew10, hf⟩ := zbs hf
      rcases zite hf with ⟨-, hf⟩ | ⟨-, hf⟩
      · obtain ⟨w12, ew12, hf⟩ := zbs hf
        obtain ⟨w13, ew13, hf⟩ := zbs hf
        obtain ⟨w14, ew14, hf⟩ := zbs hf
        cases hf
        show zn h = _
        omega
      · have q := ih _ _ hf
        omega
theorem zn_X2_lowestFirstStep {r : Int32 × zH} {a0 : Nat} {a1 a2 : Int32} (hf : fX2_lowestFirstStep h a0 a1 a2 = some r) : zn r.2 = zn h := by
  unfold fX2_lowestFirstStep at hf
  obtain ⟨-, hf⟩ := zif' hf
  refine zn_X2_lowestFirstStep_L2 ?_ _ _ _ hf
  intro h v e
  cases e
  rfl
theorem zn_X2_chooseFirstSteps_L10 {r : zH} {u0 : Nat} {u1 : Int32} {k : zH → Int32 → Option zH} (hk : ∀ h v, k h v = some r → zn r = zn h) : ∀ n h v2, fX2_chooseFirstSteps_L10 k u0 u1 n h v2 = some r → zn r = zn h := by
  intro n
  induction n with
  | zero => intro h v2 hf; cases hf
  | succ n ih =>
    intro h v2 hf
    rw [fX2_chooseFirstSteps_L10] at hf
    rcases zite hf with ⟨-, hf⟩ | ⟨-, hf⟩
    · have q := hk _ _ hf
      omega
    · rcases zite hf with ⟨-, hf⟩ | ⟨-, hf⟩
      · have q := ih _ _ hf
        omega
      · obtain ⟨w3, h4, ew3, hf⟩ := zb2s hf
        have qw3 : zn h4 = _ := zn_X2_connects ew3
        rcases zite hf with ⟨-, hf⟩ | ⟨-, hf⟩
        · have q := ih _ _ hf
          omega
        · obtain ⟨w6, ew6, hf⟩ := zbs hf
          obtain ⟨w7, ew7, hf⟩ := zbs hf
          obtain ⟨w8, h9, ew8, hf⟩ := zb2s hf
          have qw8 : zn h9 = _ := zn_X2_lowestFirstStep ew8
          obtain ⟨h10, eh10, hf⟩ := zbs hf
          have qh10 := zn_bI eh10
          have q := ih _ _ hf
          omega
theorem zn_X2_chooseFirstSteps_L2 {r : zH} {u0 : Nat} {k : zH → Int32 → Option zH} (hk : ∀ h v, k h v = some r → zn r = zn h) : ∀ n h v0, fX2_chooseFirstSteps_L2 k u0 n h v0 = some r → zn r = zn h := by
  intro n
  induction n with
  | zero => intro h v0 hf; cases hf
  | succ n ih =>
    intro h v0 hf
    rw [fX2_chooseFirstSteps_L2] at hf
    rcases zite hf with ⟨-, hf⟩ | ⟨-, hf⟩
    · exact hk _ _ hf
    · refine zn_X2_chooseFirstSteps_L10 ?_ _ _ _ hf
      intro h' v e
      exact ih _ _ e
theorem zn_X2_chooseFirstSteps {r : zH} {a0 : Nat} (hf : fX2_chooseFirstSteps h a0 = some r) : zn r = zn h := by
  unfold fX2_chooseFirstSteps at hf
  obtain ⟨-, hf⟩ := zif' hf
  refine zn_X2_chooseFirstSteps_L2 ?_ _ _ _ hf
  intro h v e
  cases e
  rfl
theorem zn_X2_shortenBy_L10 {r : zH} {u0 : Nat} {u1 u2 : Int32} {k : zH → Int32 → Option zH} (hk : ∀ h v, k h v = some r → zn r = zn h) : ∀ n h v3, fX2_shortenBy_L10 k u0 u1 u2 n h v3 = some r → zn r = zn h := by
  intro n
  induction n with
  | zero => intro h v3 hf; cases hf
  | succ n ih =>
    intro h v3 hf
    rw [fX2_shortenBy_L10] at hf
    rcases zite hf with ⟨-, hf⟩ | ⟨-, hf⟩
    · have q := hk _ _ hf
      omega
    · obtain ⟨w2, ew2, hf⟩ := zbs hf
      obtain ⟨w3, ew3, hf⟩ := zbs hf
      obtain ⟨w4, ew4, hf⟩ := zbs hf
      obtain ⟨w5, ew5, hf⟩ := zbs hf
      obtain ⟨w6, ew6, hf⟩ := zbs hf
      obtain ⟨w7, ew7, hf⟩ := zbs hf
      obtain ⟨w8, ew8, hf⟩ := zbs hf
      obtain ⟨w9, ew9, hf⟩ := zbs hf
      obtain ⟨w10, ew10, hf⟩ := zbs hf
      obtain ⟨w11, ew11, hf⟩ := zbs hf
      obtain ⟨w12, ew12, hf⟩ := zbs hf
      obtain ⟨h13, eh13, hf⟩ := zbs hf
      have qh13 := zn_bI eh13
      have q := ih _ _ hf
      omega
theorem zn_X2_shortenBy_L2 {r : zH} {u0 : Nat} {u1 : Int32} {k : zH → Int32 → Option zH} (hk : ∀ h v, k h v = some r → zn r = zn h) : ∀ n h v0, fX2_shortenBy_L2 k u0 u1 n h v0 = some r → zn r = zn h := by
  intro n
  induction n with
  | zero => intro h v0 hf; cases hf
  | succ n ih =>
    intro h v0 hf
    rw [fX2_shortenBy_L2] at hf
    rcases zite hf with ⟨-, hf⟩ | ⟨-, hf⟩
    · exact hk _ _ hf
    · refine zn_X2_shortenBy_L10 ?_ _ _ _ hf
      intro h' v e
      exact ih _ _ e
theorem zn_X2_shortenBy {r : zH} {a0 : Nat} {a1 : Int32} (hf : fX2_shortenBy h a0 a1 = some r) : zn r = zn h := by
  unfold fX2_shortenBy at hf
  obtain ⟨-, hf⟩ := zif' hf
  refine zn_X2_shortenBy_L2 ?_ _ _ _ hf
  intro h v e
  cases e
  rfl
theorem zn_X2_clearSteps_L10 {r : zH} {u0 : Nat} {u1 : Int32} {k : zH → Int32 → Option zH} (hk : ∀ h v, k h v = some r → zn r = zn h) : ∀ n h v2, fX2_clearSteps_L10 k u0 u1 n h v2 = some r → zn r = zn h := by
  intro n
  induction n with
  | zero => intro h v2 hf; cases hf
  | succ n ih =>
    intro h v2 hf
    rw [fX2_clearSteps_L10] at hf
    rcases zite hf with ⟨-, hf⟩ | ⟨-, hf⟩
    · have q := hk _ _ hf
      omega
    · obtain ⟨w2, ew2, hf⟩ := zbs hf
      obtain ⟨w3, ew3, hf⟩ := zbs hf
      obtain ⟨h4, eh4, hf⟩ := zbs hf
      have qh4 := zn_bI eh4
      obtain ⟨w5, ew5, hf⟩ := zbs hf
      obtain ⟨w6, ew6, hf⟩ := zbs hf
      obtain ⟨h7, eh7, hf⟩ := zbs hf
      have qh7 := zn_bI eh7
      obtain ⟨w8, ew8, hf⟩ := zbs hf
      obtain ⟨w9, ew9, hf⟩ := zbs hf
      rcases zite hf with ⟨-, hf⟩ | ⟨-, hf⟩
      · obtain ⟨h11, eh11, hf⟩ := zbs hf
        have qh11 := zn_bI eh11
        obtain ⟨w12, ew12, hf⟩ := zbs hf
        obtain ⟨w13, ew13, hf⟩ := zbs hf
        obtain ⟨h14, eh14, hf⟩ := zbs hf
        have qh14 := zn_bI eh14
        have q := ih _ _ hf
        omega
      · obtain ⟨h15, eh15, hf⟩ := zbs hf
        have qh15 := zn_bI eh15
        obtain ⟨w16, ew16, hf⟩ := zbs hf
        obtain ⟨w17, ew17, hf⟩ := zbs hf
        obtain ⟨h18, eh18, hf⟩ := zbs hf
        have qh18 := zn_bI eh18
        have q := ih _ _ hf
        omega
theorem zn_X2_clearSteps_L2 {r : zH} {u0 : Nat} {k : zH → Int32 → Option zH} (hk : ∀ h v, k h v = some r → zn r = zn h) : ∀ n h v0, fX2_clearSteps_L2 k u0 n h v0 = some r → zn r = zn h := by
  intro n
  induction n with
  | zero => intro h v0 hf; cases hf
  | succ n ih =>
    intro h v0 hf
    rw [fX2_clearSteps_L2] at hf
    rcases zite hf with ⟨-, hf⟩ | ⟨-, hf⟩
    · exact hk _ _ hf
    · refine zn_X2_clearSteps_L10 ?_ _ _ _ hf
      intro h' v e
      exact ih _ _ e
theorem zn_X2_clearSteps {r : zH} {a0 : Nat} (hf : fX2_clearSteps h a0 = some r) : zn r = zn h := by
  unfold fX2_clearSteps at hf
  obtain ⟨-, hf⟩ := zif' hf
  refine zn_X2_clearSteps_L2 ?_ _ _ _ hf
  intro h v e
  cases e
  rfl
theorem zn_X2_find_L7 {r : zH} {u0 u1 u2 : Nat} {u3 : Int32} {k : zH → Int32 → Option zH} (hk : ∀ h v, k h v = some r → zn r = zn h) : ∀ n h v4, fX2_find_L7 k u0 u1 u2 u3 n h v4 = some r → zn r = zn h := by
  intro n
  induction n with
  | zero => intro h v4 hf; cases hf
  | succ n ih =>
    intro h v4 hf
    rw [fX2_find_L7] at hf
    obtain ⟨w1, ew1, hf⟩ := zbs hf
    rcases zite hf with ⟨-, hf⟩ | ⟨-, hf⟩
    · have q := hk _ _ hf
      omega
    · obtain ⟨w3, ew3, hf⟩ := zbs hf
      rcases zite hf with ⟨-, hf⟩ | ⟨-, hf⟩
      · have q := hk _ _ hf
        omega
      · rcases zite hf with ⟨-, hf⟩ | ⟨-, hf⟩
        · have q := ih _ _ hf
          omega
        · obtain ⟨w6, ew6, hf⟩ := zbs hf
          obtain ⟨w7, ew7, hf⟩ := zbs hf
          obtain ⟨w8, ew8, hf⟩ := zbs hf
          obtain ⟨w9, ew9, hf⟩ := zbs hf
          obtain ⟨w10, ew10, hf⟩ := zbs hf
          obtain ⟨w11, ew11, hf⟩ := zbs hf
          obtain ⟨w12, ew12, hf⟩ := zbs hf
          obtain ⟨h13, eh13, hf⟩ := zbs hf
          have qh13 := zn_bI eh13
          obtain ⟨w14, ew14, hf⟩ := zbs hf
          obtain ⟨w15, ew15, hf⟩ := zbs hf
          obtain ⟨h16, eh16, hf⟩ := zbs hf
          have qh16 := zn_bI eh16
          obtain ⟨w17, ew17, hf⟩ := zbs hf
          obtain ⟨w18, ew18, hf⟩ := zbs hf
          obtain ⟨w19, ew19, hf⟩ := zbs hf
          obtain ⟨w20, ew20, hf⟩ := zbs hf
          obtain ⟨w21, ew21, hf⟩ := zbs hf
          obtain ⟨h22, eh22, hf⟩ := zbs hf
          have qh22 := zn_bI eh22
          have q := ih _ _ hf
          omega
theorem zn_X2_find_L107 {r : zH} {u0 u1 u2 : Nat} {u3 : Int32} {k : zH → Int32 → Option zH} (hk : ∀ h v, k h v = some r → zn r = zn h) : ∀ n h v4, fX2_find_L107 k u0 u1 u2 u3 n h v4 = some r → zn r = zn h := by
  intro n
  induction n with
  | zero => intro h v4 hf; cases hf
  | succ n ih =>
    intro h v4 hf
    rw [fX2_find_L107] at hf
    rcases zite hf with ⟨-, hf⟩ | ⟨-, hf⟩
    · have q := hk _ _ hf
      omega
    · obtain ⟨h2, eh2, hf⟩ := zbs hf
      have qh2 := zn_X2_shortenBy eh2
      have q := ih _ _ hf
      omega
theorem zn_X2_find {r : zH} {a0 a1 a2 : Nat} {a3 : Int32} (hf : fX2_find h a0 a1 a2 a3 = some r) : zn r = zn h := by
  unfold fX2_find at hf
  obtain ⟨-, hf⟩ := zif' hf
  obtain ⟨h1, e1, hf⟩ := zbs hf
  have q1 := zn_X2_clearSteps e1
  rw [← q1]
  refine zn_X2_find_L7 ?_ _ _ _ hf
  intro h2 v e
  refine zn_X2_find_L107 ?_ _ _ _ e
  intro h4 w e
  obtain ⟨h6, e6, e⟩ := zbs e
  cases e
  exact zn_X2_chooseFirstSteps e6
theorem zn_X6_findPaths {r : zH} {a0 : Nat} (hf : fX6_findPaths h a0 = some r) : zn r = zn h := by
  unfold fX6_findPaths at hf
  rcases zite hf with ⟨-, hf⟩ | ⟨-, hf⟩
  · obtain ⟨w1, ew1, hf⟩ := zbs hf
    obtain ⟨w2, ew2, hf⟩ := zbs hf
    obtain ⟨w3, ew3, hf⟩ := zbs hf
    obtain ⟨w4, ew4, hf⟩ := zbs hf
    obtain ⟨h5, eh5, hf⟩ := zbs hf
    have qh5 := zn_X2_find eh5
    cases hf
    omega
  · cases hf
theorem zn_X3_begin {r : zH} {a0 a1 : Nat} (hf : fX3_begin h a0 a1 = some r) : zn r = zn h := by
  unfold fX3_begin at hf
  rcases zite hf with ⟨-, hf⟩ | ⟨-, hf⟩
  · obtain ⟨h1, eh1, hf⟩ := zbs hf
    have qh1 := zn_pI eh1
    obtain ⟨h2, eh2, hf⟩ := zbs hf
    have qh2 := zn_pI eh2
    obtain ⟨h3, eh3, hf⟩ := zbs hf
    have qh3 := zn_pI eh3
    obtain ⟨w4, ew4, hf⟩ := zbs hf
    obtain ⟨h5, eh5, hf⟩ := zbs hf
    have qh5 := zn_pI eh5
    obtain ⟨w6, ew6, hf⟩ := zbs hf
    obtain ⟨w7, ew7, hf⟩ := zbs hf
    obtain ⟨h8, eh8, hf⟩ := zbs hf
    have qh8 := zn_cp eh8
    cases hf
    omega
  · cases hf
theorem zn_X6_startOver_L18 {r : zH} {u0 : Nat} {k : zH → Int32 → Option zH} (hk : ∀ h v, k h v = some r → zn r = zn h) : ∀ n h v1, fX6_startOver_L18 k u0 n h v1 = some r → zn r = zn h := by
  intro n
  induction n with
  | zero => intro h v1 hf; cases hf
  | succ n ih =>
    intro h v1 hf
    rw [fX6_startOver_L18] at hf
    obtain ⟨w1, ew1, hf⟩ := zbs hf
    obtain ⟨w2, ew2, hf⟩ := zbs hf
    rcases zite hf with ⟨-, hf⟩ | ⟨-, hf⟩
    · have q := hk _ _ hf
      omega
    · obtain ⟨w4, ew4, hf⟩ := zbs hf
      obtain ⟨h5, eh5, hf⟩ := zbs hf
      have qh5 := zn_bZ eh5
      have q := ih _ _ hf
      omega
theorem zn_X6_startOver {r : zH} {a0 : Nat} (hf : fX6_startOver h a0 = some r) : zn r = zn h := by
  unfold fX6_startOver at hf
  obtain ⟨-, hf⟩ := zif' hf
  obtain ⟨w1, e1, hf⟩ := zbs hf
  obtain ⟨w2, e2, hf⟩ := zbs hf
  obtain ⟨h3, e3, hf⟩ := zbs hf
  obtain ⟨h4, e4, hf⟩ := zbs hf
  have q3 := zn_X3_begin e3
  have q4 := zn_pI e4
  rw [← q3, ← q4]
  refine zn_X6_startOver_L18 ?_ _ _ _ hf
  intro h5 v e
  obtain ⟨h7, e7, e⟩ := zbs e
  cases e
  exact zn_X6_findPaths e7
theorem zn_X0_begin_L31 {r : zH} {u0 : Nat} {u1 u2 : Int32} {k : zH → Int32 → Option zH} (hk : ∀ h v, k h v = some r → zn r = zn h) : ∀ n h v3, fX0_begin_L31 k u0 u1 u2 n h v3 = some r → zn r = zn h := by
  intro n
  induction n with
  | zero => intro h v3 hf; cases hf
  | succ n ih =>
    intro h v3 hf
    rw [fX0_begin_L31] at hf
    obtain ⟨w1, ew1, hf⟩ := zbs hf
    obtain ⟨w2, ew2, hf⟩ := zbs hf
    rcases zite hf with ⟨-, hf⟩ | ⟨-, hf⟩
    · have q := hk _ _ hf
      omega
    · obtain ⟨w4, ew4, hf⟩ := zbs hf
      obtain ⟨h5, eh5, hf⟩ := zbs hf
      have qh5 := zn_bZ eh5
      have q := ih _ _ hf
      omega
theorem zn_X0_begin {r : zH} {a0 : Nat} {b d : Int32} (hf : fX0_begin h a0 b d = some r) : zn r = zn h := by
  unfold fX0_begin at hf
  obtain ⟨-, hf⟩ := zif' hf
  obtain ⟨h1, e1, hf⟩ := zbs hf
  obtain ⟨h2, e2, hf⟩ := zbs hf
  obtain ⟨h3, e3, hf⟩ := zbs hf
  obtain ⟨h4, e4, hf⟩ := zbs hf
  rw [← zn_pI e1, ← zn_pI e2, ← zn_pI e3, ← zn_pI e4]
  refine zn_X0_begin_L31 ?_ _ _ _ hf
  intro h v e
  cases e
  rfl
end ZN2
