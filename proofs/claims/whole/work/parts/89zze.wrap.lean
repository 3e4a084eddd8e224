/-! pure: one call of the law -/
def PY (o : Option (Int32 × zH)) : Prop := ∃ h', o = some (1, h')
theorem PY_t {c : Prop} [Decidable c] {a b : Option (Int32 × zH)} (h : c) (p : PY a) : PY (if c then a else b) := by rw [if_pos h]; exact p
theorem PY_f {c : Prop} [Decidable c] {a b : Option (Int32 × zH)} (h : ¬ c) (p : PY b) : PY (if c then a else b) := by rw [if_neg h]; exact p
theorem PY_b {α : Type} {o : Option α} {v : α} {f : α → Option (Int32 × zH)} (e : o = some v) (p : PY (f v)) : PY (o.bind f) := by rw [e]; exact p
theorem PY_z {α : Type} {o : Option (α × zH)} {v : α} {h : zH} {f : α → zH → Option (Int32 × zH)} (e : o = some (v, h)) (p : PY (f v h)) : PY (zb2 o f) := by rw [e]; exact p
theorem cmp_self (x : Int64) : lg_cmp x x = 0 := by
  unfold lg_cmp
  rw [if_neg (fun z : x < x => Int64.lt_irrefl z), if_pos rfl]
/-- the wrapper answers so -/
def WO (h : zH) (x u : Nat) (F : Option (Int32 × zH)) (S : zAn) : Prop := ∃ h6, F = some (nI S.1, h6) ∧ S.1 ≤ 3 ∧ CI h6 x S.2.2 ∧ (zkd h6 = zkd h ∧ zln h6 = zln h ∧ ∀ a, (a < x ∨ x + 801 ≤ a) → zI h6 a = zI h a ∧ zP h6 a = zP h a) ∧ (S.1 = 0 → zJ h6 u 0 = S.2.1.toInt64)
def LI (h : zH) (x m u : Nat) (A : zSt) : Prop := CI h x A ∧ RI h m A ∧ zkd h u = 10 ∧ zln h u = 1
section WRAP
variable {h : zH} {x m u t : Nat} {A : zSt} {S : zAn} {r : Option ((Int32 ⊕ String) × zH)}
theorem CI.j {a k : Nat} {v : Int64} (hC : CI h x A) : CI (zsJ h a k v) x A := hC
theorem sJ_at {a k : Nat} {v : Int64} : zJ (zsJ h a k v) a k = v := by simp [zJ, zsJ, zu]
theorem bJ_ {a : Nat} {v : Int64} (hk : zkd h a = 10) (hl : zln h a = 1) : zbJ h a 0 v = some (zsJ h a 0 v) := by
  unfold zbJ
  rw [if_pos ⟨hk, by rw [hl]; decide⟩]
  rfl
theorem aJ_ {a : Nat} (hk : zkd h a = 10) (hl : zln h a = 1) : zaJ h a 0 = some (zJ h a 0) := by
  unfold zaJ
  rw [if_pos ⟨hk, by rw [hl]; decide⟩]
  rfl
theorem wrapW {l : List String} {H : String → zH → Option (Int32 × zH)} (uk : zkd h u = 10) (ul : zln h u = 1) (c : CO h x r S l) (l3 : l.length ≤ 3) (hH : ∀ k h4, k ≠ 0 → k ≤ l.length → H (exn l k) h4 = some (nI k, h4)) : WO h x u (zb5 r (fun w1 h2 => (zbJ h2 u 0 (w1 : Int32).toInt64).bind fun h5 => some (0, h5)) H) S := by
  obtain ⟨c1, h', c2, c3, c4⟩ := c
  by_cases z : S.1 = 0
  · rw [if_pos z] at c2
    rw [c2]
    have b : zbJ h' u 0 S.2.1.toInt64 = some (zsJ h' u 0 S.2.1.toInt64) := bJ_ (by rw [c4.1]; exact uk) (by rw [c4.2.1]; exact ul)
    refine ⟨zsJ h' u 0 S.2.1.toInt64, ?_, by omega, c3.j, ⟨c4.1, c4.2.1, fun a ha => c4.2.2.2 a ha⟩, fun _ => sJ_at⟩
    show (zbJ h' u 0 S.2.1.toInt64).bind (fun h5 => some (0, h5)) = _
    rw [b, z]
    rfl
  · rw [if_neg z] at c2
    rw [c2]
    exact ⟨h', hH S.1 h' z c1, by omega, c3, ⟨c4.1, c4.2.1, fun a ha => c4.2.2.2 a ha⟩, fun w => absurd w z⟩
theorem wrap1 {s1 : String} (uk : zkd h u = 10) (ul : zln h u = 1) (c : CO h x r S [s1]) : WO h x u (zb5 r (fun w1 h2 => (zbJ h2 u 0 (w1 : Int32).toInt64).bind fun h5 => some (0, h5)) (fun E3 h4 => if E3 = s1 then some (1, h4) else none)) S := wrapW uk ul c (by show 1 ≤ 3; omega) (fun k h4 h0 hk => by
  have hk' : k ≤ 1 := hk
  have e : k = 1 := by omega
  subst e
  exact if_pos rfl)
theorem wrap2 {s1 s2 : String} (ne : ¬ s2 = s1) (uk : zkd h u = 10) (ul : zln h u = 1) (c : CO h x r S [s1, s2]) : WO h x u (zb5 r (fun w1 h2 => (zbJ h2 u 0 (w1 : Int32).toInt64).bind fun h5 => some (0, h5)) (fun E3 h4 => if E3 = s1 then some (1, h4) else if E3 = s2 then some (2, h4) else none)) S := wrapW uk ul c (by show 2 ≤ 3; omega) (fun k h4 h0 hk => by
  have hk' : k ≤ 2 := hk
  by_cases e : k = 1
  · subst e
    exact if_pos rfl
  · have e2 : k = 2 := by omega
    subst e2
    exact (if_neg ne).trans (if_pos rfl))
theorem wrap3 {s1 s2 s3 : String} (n1 : ¬ s2 = s1) (n2 : ¬ s3 = s1) (n3 : ¬ s3 = s2) (uk : zkd h u = 10) (ul : zln h u = 1) (c : CO h x r S [s1, s2, s3]) : WO h x u (zb5 r (fun w1 h2 => (zbJ h2 u 0 (w1 : Int32).toInt64).bind fun h5 => some (0, h5)) (fun E3 h4 => if E3 = s1 then some (1, h4) else if E3 = s2 then some (2, h4) else if E3 = s3 then some (3, h4) else none)) S := wrapW uk ul c (by show 3 ≤ 3; omega) (fun k h4 h0 hk => by
  have hk' : k ≤ 3 := hk
  by_cases e : k = 1
  · subst e
    exact if_pos rfl
  · by_cases e2 : k = 2
    · subst e2
      exact (if_neg n1).trans (if_pos rfl)
    · have e3 : k = 3 := by omega
      subst e3
      exact (if_neg n2).trans ((if_neg n3).trans (if_pos rfl)))
theorem RI_w {h6 : zH} (f : zkd h6 = zkd h ∧ zln h6 = zln h ∧ ∀ a, (a < x ∨ x + 801 ≤ a) → zI h6 a = zI h a ∧ zP h6 a = zP h a) (hm : x + 801 ≤ m) (hR : RI h m A) : RI h6 m A := by
  obtain ⟨-, -, -, -, -, -, -, -, s1, s2, s3, s4, s5⟩ := id hR
  obtain ⟨f1, f2, f4⟩ := f
  refine RI_keep hR f1 f2 (f4 m (by omega)).2 (fun a ha => (f4 a (by omega)).1) (fun k _ => by rw [(f4 m (by omega)).1]) ?_
  unfold Scr
  rw [(f4 _ (by omega)).1, (f4 _ (by omega)).1, (f4 _ (by omega)).1, (f4 _ (by omega)).1, (f4 _ (by omega)).1]
  exact ⟨s1, s2, s3, s4, s5⟩
theorem thr {g : zH} {k : Int32} (hT : RefT g m) (e : zI g m 0 = k) : fX7_thrown g m = some (k, g) := by
  unfold fX7_thrown
  rw [if_pos hT.1, gI_ (c := 7) hT.1, e]
  rfl
/-- the reference answers, and the answers are held against each other -/
theorem PY_R {h6 : zH} {r : Option (Int32 × zH)} {K : zH → Option (Int32 × zH)} (hm : x + 801 ≤ m) (hu : m + 24 ≤ u) (C : CI h6 x S.2.2) (hA : AI t S.2.2) (uk : zkd h6 u = 10) (ul : zln h6 u = 1) (j : S.1 = 0 → zJ h6 u 0 = S.2.1.toInt64) (s3 : S.1 ≤ 3) (R : RO h6 m r S) (k : ∀ g, LI g x m u S.2.2 → PY (K g)) : PY (zb2 r fun w8 h9 => zb2 (fX7_thrown h9 m) fun w10 h11 => if (w10 : Int32) = nI S.1 then if (nI S.1 : Int32) = 0 then (zaJ h11 u 0).bind fun w14 => if ((lg_cmp w14 (w8 : Int32).toInt64) : Int32) = 0 then K h11 else some (0, h11) else K h11 else some (0, h11)) := by
  obtain ⟨v, h9, r1, r2, r3, r4, r5⟩ := R
  have th := thr r4.1 r3
  have kd9 : zkd h9 u = 10 := by rw [r5.1]; exact uk
  have ln9 : zln h9 u = 1 := by rw [r5.2.1]; exact ul
  have L9 : LI h9 x m u S.2.2 := ⟨CI_fr hA r5 hm C, r4, kd9, ln9⟩
  refine PY_z r1 (PY_z th (PY_t rfl ?_))
  by_cases z : S.1 = 0
  · refine PY_t (by rw [z]; rfl) (PY_b (aJ_ kd9 ln9) (PY_t ?_ (k h9 L9)))
    rw [r5.2.2.1, j z, r2 z]
    exact cmp_self _
  · refine PY_f (fun w => z ((nI_eq (by omega) (by omega)).mp (show nI S.1 = nI 0 from w))) (k h9 L9)
/-- a call that never throws -/
theorem PY_P {F : Option (Int32 × zH)} {R : zH → Option (Int32 × zH)} {K : zH → Option (Int32 × zH)} (hm : x + 801 ≤ m) (hu : m + 24 ≤ u) (L : LI h x m u A) (hA : AI t S.2.2) (hF : CP h x F S) (hR : ∀ h6, RI h6 m A → RO h6 m (R h6) S) (k : ∀ g, LI g x m u S.2.2 → PY (K g)) : PY (zb2 F fun w17 h18 => zb2 (R h18) fun w19 h20 => if (w17 : Int32) = w19 then K h20 else some (0, h20)) := by
  obtain ⟨L1, L2, L3, L4⟩ := L
  obtain ⟨z, h6, f1, f2, f3⟩ := hF
  have R6 := RI_fr f3 hm L2
  obtain ⟨v, h9, r1, r2, r3, r4, r5⟩ := hR h6 R6
  refine PY_z f1 (PY_z r1 (PY_t (r2 z).symm (k h9 ⟨CI_fr hA r5 hm f2, r4, ?_, ?_⟩)))
  · rw [r5.1, f3.1]; exact L3
  · rw [r5.2.1, f3.2.1]; exact L4
end WRAP
