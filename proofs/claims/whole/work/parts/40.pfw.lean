/-! pure: shortest paths by one table, with two weighings -/
def fINF : Nat := 1000000
def fws (M : Nat → Nat → Nat) (v : Nat) : Nat → Nat → Nat := fun a b => if M a v + M v b < M a b then M a v + M v b else M a b
def fw (M : Nat → Nat → Nat) : Nat → Nat → Nat → Nat
  | 0 => M
  | v + 1 => fws (fw M v) v
/-- the first table: s times the cost and one for each step; cost 0: no conversion -/
def fwd (s : Nat) (cost : Nat → Nat → Nat) : Nat → Nat → Nat := fun a b => if cost a b = 0 then fINF else s * cost a b + 1
def fw0 (s : Nat) (cost : Nat → Nat → Nat) : Nat → Nat → Nat := fun a b => if a = b then 0 else fwd s cost a b
def fD (s : Nat) (cost : Nat → Nat → Nat) (n : Nat) : Nat → Nat → Nat := fw (fw0 s cost) n
theorem fws_le (M : Nat → Nat → Nat) (v a b : Nat) : fws M v a b ≤ M a b ∧ fws M v a b ≤ M a v + M v b := by
  unfold fws
  split <;> omega
theorem fws_or (M : Nat → Nat → Nat) (v a b : Nat) : fws M v a b = M a b ∨ (fws M v a b = M a v + M v b ∧ M a v + M v b < M a b) := by
  unfold fws
  split
  · exact Or.inr ⟨rfl, by assumption⟩
  · exact Or.inl rfl
theorem fw_diag {M : Nat → Nat → Nat} (h : ∀ a, M a a = 0) : ∀ k a, fw M k a a = 0 := by
  intro k
  induction k with
  | zero => exact h
  | succ k ih =>
    intro a
    have := (fws_le (fw M k) k a a).1
    rw [ih a] at this
    show fws (fw M k) k a a = 0
    omega
theorem fw_mono {M : Nat → Nat → Nat} (k a b : Nat) : fw M (k + 1) a b ≤ fw M k a b := (fws_le _ _ _ _).1
theorem fw_mono0 {M : Nat → Nat → Nat} (k a b : Nat) : fw M k a b ≤ M a b := by
  induction k with
  | zero => exact Nat.le_refl _
  | succ k ih => exact Nat.le_trans (fw_mono k a b) ih
theorem fw_monoN {M : Nat → Nat → Nat} {k n : Nat} (h : k ≤ n) (a b : Nat) : fw M n a b ≤ fw M k a b := by
  induction n with
  | zero => rw [show k = 0 by omega]; exact Nat.le_refl _
  | succ n ih =>
    by_cases c : k = n + 1
    · rw [c]; exact Nat.le_refl _
    · exact Nat.le_trans (fw_mono n a b) (ih (by omega))
theorem fw_tri {M : Nat → Nat → Nat} (h : ∀ a, M a a = 0) : ∀ k c, c < k → ∀ a b, fw M k a b ≤ fw M k a c + fw M k c b := by
  intro k
  induction k with
  | zero => intro c hc; omega
  | succ k ih =>
    intro c hc a b
    have dg := fw_diag h k
    have q := fws_le (fw M k) k a b
    show fws (fw M k) k a b ≤ fws (fw M k) k a c + fws (fw M k) k c b
    by_cases e : c = k
    · subst e
      have e1 : fws (fw M c) c a c = fw M c a c := by
        rcases fws_or (fw M c) c a c with z | z
        · exact z
        · have := dg c; omega
      have e2 : fws (fw M c) c c b = fw M c c b := by
        rcases fws_or (fw M c) c c b with z | z
        · exact z
        · have := dg c; omega
      rw [e1, e2]
      exact q.2
    · have h1 := ih c (by omega)
      rcases fws_or (fw M k) k a c with z1 | ⟨z1, -⟩ <;> rcases fws_or (fw M k) k c b with z2 | ⟨z2, -⟩ <;> rw [z1, z2]
      · have := h1 a b; omega
      · have := h1 a k; omega
      · have := h1 k b; omega
      · omega
theorem fw0_diag (s : Nat) (cost : Nat → Nat → Nat) (a : Nat) : fw0 s cost a a = 0 := if_pos rfl
section FW
variable {s n : Nat} {cost : Nat → Nat → Nat}
theorem fD_diag (a : Nat) : fD s cost n a a = 0 := fw_diag (fw0_diag s cost) n a
theorem fD_tri {c : Nat} (hc : c < n) (a b : Nat) : fD s cost n a b ≤ fD s cost n a c + fD s cost n c b := fw_tri (fw0_diag s cost) n c hc a b
theorem fD_edge {a c : Nat} (h : a ≠ c) : fD s cost n a c ≤ fwd s cost a c := by
  have := fw_mono0 (M := fw0 s cost) n a c
  rw [show fw0 s cost a c = fwd s cost a c from if_neg h] at this
  exact this
theorem fD_real (he : ∀ a c, cost a c ≠ 0 → a ≠ c ∧ c < n) : ∀ k, k ≤ n → ∀ a b, a ≠ b → fw (fw0 s cost) k a b < fINF → ∃ c, cost a c ≠ 0 ∧ fwd s cost a c + fD s cost n c b ≤ fw (fw0 s cost) k a b := by
  intro k
  induction k with
  | zero =>
    intro _ a b hab hf
    have e : fw (fw0 s cost) 0 a b = fwd s cost a b := if_neg hab
    rw [e] at hf ⊢
    refine ⟨b, fun q => ?_, ?_⟩
    · unfold fwd at hf
      rw [if_pos q] at hf
      omega
    · rw [fD_diag]; omega
  | succ k ih =>
    intro hk a b hab hf
    rcases fws_or (fw (fw0 s cost) k) k a b with z | ⟨z, zl⟩
    · have z : fw (fw0 s cost) (k + 1) a b = fw (fw0 s cost) k a b := z
      rw [z] at hf ⊢
      exact ih (by omega) a b hab hf
    · have z : fw (fw0 s cost) (k + 1) a b = fw (fw0 s cost) k a k + fw (fw0 s cost) k k b := z
      rw [z] at hf ⊢
      by_cases e : a = k
      · subst e
        rw [fw_diag (fw0_diag s cost)] at zl
        omega
      · obtain ⟨c, h1, h2⟩ := ih (by omega) a k e (by omega)
        refine ⟨c, h1, ?_⟩
        have t := fD_tri (s := s) (cost := cost) (n := n) (c := k) (by omega) c b
        have t2 : fD s cost n k b ≤ fw (fw0 s cost) k k b := fw_monoN (by omega) k b
        omega
/-- the best path's first step -/
theorem fD_next (he : ∀ a c, cost a c ≠ 0 → a ≠ c ∧ c < n) {a b : Nat} (hab : a ≠ b) (hf : fD s cost n a b < fINF) : ∃ c, cost a c ≠ 0 ∧ s * cost a c + 1 + fD s cost n c b = fD s cost n a b := by
  obtain ⟨c, h1, h2⟩ := fD_real he n (Nat.le_refl _) a b hab hf
  have h3 := he a c h1
  have t := fD_tri (s := s) (cost := cost) (n := n) h3.2 a b
  have t2 := fD_edge (s := s) (cost := cost) (n := n) h3.1
  have e : fwd s cost a c = s * cost a c + 1 := if_neg h1
  refine ⟨c, h1, ?_⟩
  have h2 : fwd s cost a c + fD s cost n c b ≤ fD s cost n a b := h2
  omega
end FW
theorem nsum_lt {g g' : Nat → Nat} {n k : Nat} (hk : k < n) (h : ∀ j, j < n → g j ≤ g' j) (hl : g k < g' k) : nsum g n < nsum g' n := by
  induction n with
  | zero => omega
  | succ n ih =>
    rw [nsum, nsum]
    have h1 := h n (by omega)
    by_cases c : k = n
    · subst c
      have := nsum_mono (g := g) (g' := g') (n := k) fun j hj => h j (by omega)
      omega
    · have := ih (by omega) (fun j hj => h j (by omega))
      omega
def fcnt (D : Nat → Nat) (n x : Nat) : Nat := nsum (fun v => if D v < x then 1 else 0) n
theorem fcnt_lt {D : Nat → Nat} {n c x : Nat} (hc : c < n) (h : D c < x) : fcnt D n (D c) < fcnt D n x := by
  refine nsum_lt hc (fun j _ => ?_) ?_
  · show (if D j < D c then 1 else 0) ≤ (if D j < x then 1 else 0)
    by_cases q : D j < D c
    · rw [if_pos q, if_pos (by omega)]; omega
    · rw [if_neg q]; omega
  · show (if D c < D c then 1 else 0) < (if D c < x then 1 else 0)
    rw [if_neg (by omega), if_pos h]
    omega
theorem fcnt_n {D : Nat → Nat} {n a : Nat} (ha : a < n) : fcnt D n (D a) < n := by
  have h1 := nsum_lt (g := fun v => if D v < D a then 1 else 0) (g' := fun _ => 1) (n := n) (k := a) ha (fun j _ => by
    show (if D j < D a then 1 else 0) ≤ 1
    split <;> omega) (by
    show (if D a < D a then 1 else 0) < 1
    rw [if_neg (by omega)]; omega)
  have h2 := nsum_le (g := fun _ => 1) (n := n) (b := 1) (fun _ _ => Nat.le_refl 1)
  unfold fcnt
  omega
/-- a best path by s has so many steps m and costs c; by t it is no dearer than t * c + m -/
theorem fD_chain {s t n : Nat} {cost : Nat → Nat → Nat} (he : ∀ a c, cost a c ≠ 0 → a ≠ c ∧ c < n) (hcm : ∀ a c, cost a c ≤ 99) {b : Nat} : ∀ x a, a < n → fD s cost n a b = x → x < fINF → ∃ c m, m ≤ fcnt (fun v => fD s cost n v b) n x ∧ x = s * c + m ∧ fD t cost n a b ≤ t * c + m ∧ c ≤ 99 * m ∧ (a ≠ b → 1 ≤ m) ∧ (a = b → c = 0 ∧ m = 0) := by
  intro x
  induction x using Nat.strongRecOn with
  | _ x ih =>
    intro a ha hx hf
    by_cases hab : a = b
    · subst hab
      rw [fD_diag] at hx
      subst hx
      exact ⟨0, 0, Nat.zero_le _, by omega, by rw [fD_diag]; omega, by omega, fun q => absurd rfl q, fun _ => ⟨rfl, rfl⟩⟩
    · obtain ⟨c, h1, h2⟩ := fD_next he hab (by rw [hx]; exact hf)
      have h3 := he a c h1
      obtain ⟨C, m, g1, g2, g3, g4, -, -⟩ := ih (fD s cost n c b) (by omega) c h3.2 rfl (by omega)
      have hl : fcnt (fun v => fD s cost n v b) n (fD s cost n c b) < fcnt (fun v => fD s cost n v b) n x := fcnt_lt (D := fun v => fD s cost n v b) h3.2 (by show fD s cost n c b < x; omega)
      have t1 := fD_tri (s := t) (cost := cost) (n := n) h3.2 a b
      have t2 := fD_edge (s := t) (cost := cost) (n := n) h3.1
      have e : fwd t cost a c = t * cost a c + 1 := if_neg h1
      have hc9 := hcm a c
      refine ⟨C + cost a c, m + 1, by omega, ?_, ?_, by omega, fun _ => by omega, fun q => absurd q hab⟩
      · rw [Nat.mul_add]; omega
      · rw [Nat.mul_add]; omega
/-- what both weighings tell of a path: its cost and its steps -/
theorem fD_both {n : Nat} {cost : Nat → Nat → Nat} (hn : n ≤ 8) (he : ∀ a c, cost a c ≠ 0 → a ≠ c ∧ c < n) (hcm : ∀ a c, cost a c ≤ 99) {a b : Nat} (ha : a < n) :
    (fD 16 cost n a b < fINF ↔ fD 8 cost n a b < fINF) ∧ (fD 16 cost n a b < fINF → ∃ c m, fD 16 cost n a b = 16 * c + m ∧ fD 8 cost n a b = 8 * c + m ∧ m ≤ 7 ∧ c ≤ 99 * m ∧ (a ≠ b → 1 ≤ m) ∧ (a = b → c = 0 ∧ m = 0)) := by
  have key : ∀ s t, (s = 8 ∧ t = 16) ∨ (s = 16 ∧ t = 8) → fD s cost n a b < fINF → ∃ c m, m ≤ 7 ∧ fD s cost n a b = s * c + m ∧ fD t cost n a b ≤ t * c + m ∧ c ≤ 99 * m ∧ (a ≠ b → 1 ≤ m) ∧ (a = b → c = 0 ∧ m = 0) := fun s t _ hf => by
    obtain ⟨c, m, g1, g2, g3, g4, g5, g6⟩ := fD_chain (s := s) (t := t) he hcm (b := b) (fD s cost n a b) a ha rfl hf
    have := fcnt_n (D := fun v => fD s cost n v b) ha
    exact ⟨c, m, by omega, g2, g3, g4, g5, g6⟩
  have i1 : fD 8 cost n a b < fINF → fD 16 cost n a b < fINF := fun h => by
    obtain ⟨c, m, g1, g2, g3, g4, -⟩ := key 8 16 (Or.inl ⟨rfl, rfl⟩) h
    unfold fINF
    omega
  have i2 : fD 16 cost n a b < fINF → fD 8 cost n a b < fINF := fun h => by
    obtain ⟨c, m, g1, g2, g3, g4, -⟩ := key 16 8 (Or.inr ⟨rfl, rfl⟩) h
    unfold fINF
    omega
  refine ⟨⟨i2, i1⟩, fun h => ?_⟩
  obtain ⟨c, m, g1, g2, g3, g4, g5, g6⟩ := key 16 8 (Or.inr ⟨rfl, rfl⟩) h
  obtain ⟨c2, m2, k1, k2, k3, k4, k5, k6⟩ := key 8 16 (Or.inl ⟨rfl, rfl⟩) (i2 h)
  have e : c = c2 := by omega
  subst e
  exact ⟨c, m, g2, by omega, g1, g4, g5, g6⟩
/-- a first step is tight by one weighing just if by the other -/
theorem fD_tight {n : Nat} {cost : Nat → Nat → Nat} (hn : n ≤ 8) (he : ∀ a c, cost a c ≠ 0 → a ≠ c ∧ c < n) (hcm : ∀ a c, cost a c ≤ 99) {a b f : Nat} (ha : a < n) (hf : f < n) (hab : a ≠ b) (hr : fD 16 cost n a b < fINF) : fwd 8 cost a f + fD 8 cost n f b = fD 8 cost n a b ↔ (fwd 16 cost a f < fINF ∧ fwd 16 cost a f + fD 16 cost n f b = fD 16 cost n a b) := by
  obtain ⟨i, g⟩ := fD_both hn he hcm (a := a) (b := b) ha
  obtain ⟨c, m, h1, h2, h3, h4, h5, -⟩ := g hr
  obtain ⟨i2, g2⟩ := fD_both hn he hcm (a := f) (b := b) hf
  have h5 := h5 hab
  have hb8 := i.mp hr
  by_cases z : cost a f = 0
  · have e8 : fwd 8 cost a f = fINF := if_pos z
    have e16 : fwd 16 cost a f = fINF := if_pos z
    rw [e8, e16]
    constructor
    · intro q; omega
    · intro q; omega
  · have e8 : fwd 8 cost a f = 8 * cost a f + 1 := if_neg z
    have e16 : fwd 16 cost a f = 16 * cost a f + 1 := if_neg z
    have h99 := hcm a f
    rw [e8, e16]
    by_cases r : fD 16 cost n f b < fINF
    · obtain ⟨c2, m2, k1, k2, k3, k4, -, -⟩ := g2 r
      unfold fINF
      constructor
      · intro q; omega
      · intro q; omega
    · have r8 : ¬ fD 8 cost n f b < fINF := fun q => r (i2.mpr q)
      constructor
      · intro q; omega
      · intro q; omega
