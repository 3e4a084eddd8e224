/-! pure: the law is true -/
def z0 (G : zG) : zH := (fun _ => 0, fun _ => 0, fun _ _ => 0, fun _ _ => 0, fun _ _ => 0, zgB G)
theorem CI_sm {h h' : zH} {x : Nat} {A : zSt} (e : ∀ a, a < x + 801 → Sm h h' a) (c : CI h x A) : CI h' x A := by
  sorry
theorem law_true (G : zG) (hB : 0 < zgB G) (hL : zgL G ≤ 2048) : ∃ h', fL_law G (z0 G) = some (1, h') := by
  unfold fL_law
  have n0 : zn (z0 G) = zgB G := rfl
  rw [mk_ (by rw [n0]; omega), Option.bind_some, n0]
  obtain ⟨h2, a1, a2, a3⟩ := i_X6 (h := zal (z0 G) 7 0) (x := zgB G) al_kd rfl
  rw [a1, Option.bind_some, mk_ (by rw [a3]; omega), Option.bind_some]
  have k3 : zkd (zal h2 8 0) (zn h2) = 8 := al_kd
  obtain ⟨h4, b1, b2, b3, b4⟩ := i_X7 (h := zal h2 8 0) (m := zn h2) k3 rfl al_I
  rw [b1, Option.bind_some, mk_ (by rw [b3]; omega), Option.bind_some]
  have C4 : CI (zal h4 10 1) (zgB G) A0 := CI_sm (fun a ha => ((al_sm (by omega)).tr (b4 a (by omega))).tr (al_sm (by omega))) a2
  have R4 : RI (zal h4 10 1) (zn h2) A0 := by
    sorry
  have L : LI (zal h4 10 1) (zgB G) (zn h2) (zn h4) A0 := ⟨C4, R4, al_kd, al_ln⟩
  exact law_loop hL (by omega) (by omega) 514 0 _ A0 (by omega) (by omega) L AI0
