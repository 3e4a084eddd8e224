/-! pure: the law's loop, whole -/
section LAW3
variable {G : zG} {x m u : Nat}
theorem law_loop (hL : zgL G ≤ 2048) (hm : x + 801 ≤ m) (hu : m + 24 ≤ u) : ∀ n i (h : zH) (A : zSt), n + i = 514 → i ≤ 512 → LI h x m u A → AI i A → PY (fL_law_L23 G (fun h6 y7 => some (1, h6)) x m u n h (nI (4 * i))) := by
  intro n
  induction n with
  | zero => intro i h A h1 h2; omega
  | succ n ih =>
    intro i h A h1 h2 L hA
    by_cases c : 4 * i + 4 ≤ zgL G
    · refine law_turn hL hm hu (t := i) c (by omega) L hA (fun h' A' L' hA' => ?_)
      have e : nI (4 * i) + 4 = nI (4 * (i + 1)) := by
        rw [show (4 : Int32) = nI 4 from rfl, nI_add]
        congr 1
      rw [e]
      exact ih (i + 1) h' A' (by omega) (by omega) L' hA'
    · rw [fL_law_L23]
      refine PY_t ?_ ⟨h, rfl⟩
      show nI (zgL G) - nI 4 < nI (4 * i)
      rw [Int32.lt_iff_toInt_lt, pk_sub_toInt (by omega) (by omega), nI_toInt (by omega)]
      omega
end LAW3
