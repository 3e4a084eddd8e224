/-! pure: copying and offering on a row of the reference -/
def nroom (b but : Nat) (et : Bool) (ρ : zN') : Option zN' := match nmk b but et zF ρ with
  | some (true, ρ') => some ρ'
  | _ => none
theorem cpy_pred {α : Type} {f g : Nat → α} {sp dp n : Nat} : va_up (va_cpy f g (sp + 1) (dp + 1) n) dp (f sp) = va_cpy f g sp dp (n + 1) := by
  funext j
  unfold va_up va_cpy
  by_cases h : j = dp
  · subst h
    rw [if_pos rfl, if_pos (by omega)]
    congr 1; omega
  · rw [if_neg h]
    by_cases h2 : dp + 1 ≤ j ∧ j < dp + 1 + n
    · rw [if_pos h2, if_pos (by omega)]
      congr 1; omega
    · rw [if_neg h2, if_neg (by omega)]
def nins (ρ : zN') : zN' := va_up (va_cpy (fun _ => 0) (va_cpy ρ ρ 24 52 (28 * ρ 0)) 0 24 28) 0 (ρ 0 + 1)
section COPY
variable {h : zH} {I : Nat → Nat → Int32} {a : Nat} {ρ : zN'}
theorem n_rd {j : Nat} {x : Int32} (hk : zkd h a = 9) (hl : zln h a = 360) (hI : I a = nr ρ) (hj : j < 360) (hx : nI j = x) : zaI (zw h I) a x = some (nI (ρ j)) := by
  subst hx
  rw [zaIw _ hk (by omega) (by omega), hI]
  rfl
theorem n_wr {j v : Nat} {x y : Int32} (hk : zkd h a = 9) (hl : zln h a = 360) (hI : I a = nr ρ) (hj : j < 360) (hx : nI j = x) (hy : nI v = y) : zbI (zw h I) a x y = some (zw h (zz I a (nr (va_up ρ j v)))) := by
  subst hx; subst hy
  rw [zbIw _ _ hk (by omega) (by omega), hI, up_n]
theorem n_makeRoom_ok {b but : Nat} {bb : Int32} {et : Bool} {ei : Int32} {ρ' : zN'} (hk : zkd h a = 9) (hl : zln h a = 360) (hb : nbut bb but) (hbn : b ≤ 99999) (hei : ei = if et = true then 1 else 0) (hI : I a = nr ρ) (ho : nok ρ) (hr : nroom b but et ρ = some ρ') : fX7_makeRoom (zw h I) a (nI b) bb ei = some (1, zw h (zz I a (nr ρ'))) := by
  unfold nroom at hr
  obtain ⟨ok, ρ2, e⟩ := nmk_end (b := b) (but := but) (et := et) zF ρ ho (by have := nmu_le ho.1; unfold zF; omega)
  rw [e] at hr
  unfold fX7_makeRoom
  rw [n_makeRoom_L hk hl hb hbn hei _ zF ρ I ok ρ2 hI ho e]
  cases ok with
  | true => cases hr; rfl
  | false => cases hr
theorem n_makeRoom_no {b but : Nat} {bb : Int32} {et : Bool} {ei : Int32} (hk : zkd h a = 9) (hl : zln h a = 360) (hb : nbut bb but) (hbn : b ≤ 99999) (hei : ei = if et = true then 1 else 0) (hI : I a = nr ρ) (ho : nok ρ) (hr : nroom b but et ρ = none) : ∃ ρ', fX7_makeRoom (zw h I) a (nI b) bb ei = some (0, zw h (zz I a (nr ρ'))) := by
  unfold nroom at hr
  obtain ⟨ok, ρ2, e⟩ := nmk_end (b := b) (but := but) (et := et) zF ρ ho (by have := nmu_le ho.1; unfold zF; omega)
  rw [e] at hr
  unfold fX7_makeRoom
  rw [n_makeRoom_L hk hl hb hbn hei _ zF ρ I ok ρ2 hI ho e]
  cases ok with
  | true => cases hr
  | false => exact ⟨ρ2, rfl⟩
theorem n_insert_L9 {c : Nat} (hk : zkd h a = 9) (hl : zln h a = 360) (hc : c < 12) (k : zH → Int32 → Option zH) : ∀ d n, d ≤ 28 * c → d < n → fX7_insert_L9 k a n (zw h (zz I a (nr (va_cpy ρ ρ (24 + d) (52 + d) (28 * c - d))))) (nI (24 + d) - 1) = k (zw h (zz I a (nr (va_cpy ρ ρ 24 52 (28 * c))))) (nI 23) := by
  intro d
  induction d with
  | zero =>
    intro n hd hn
    obtain ⟨n, rfl⟩ := fuel1 hn
    rw [fX7_insert_L9, show nI (24 + 0) - 1 = nI 23 from nI_pred 23, if_pos (by decide)]
    rfl
  | succ d ih =>
    intro n hd hn
    obtain ⟨n, rfl⟩ := fuel1 hn
    have goal := ih n (by omega) (by omega)
    rw [fX7_insert_L9, show nI (24 + (d + 1)) - 1 = nI (24 + d) from nI_pred (24 + d), if_neg (by rw [show (24 : Int32) = nI 24 from rfl, nI_ltI (by omega) (by omega)]; omega), n_rd (ρ := va_cpy ρ ρ (24 + (d + 1)) (52 + (d + 1)) (28 * c - (d + 1))) hk hl zz_at (j := 24 + d) (by omega) rfl, Option.bind_some, pk_cpy_out (by omega), show (28 : Int32) = nI 28 from rfl, nI_add, n_wr (ρ := va_cpy ρ ρ (24 + (d + 1)) (52 + (d + 1)) (28 * c - (d + 1))) hk hl zz_at (j := 24 + d + 28) (by omega) rfl rfl, Option.bind_some, zz_zz, show 24 + d + 28 = 52 + d by omega]
    rw [show va_up (va_cpy ρ ρ (24 + (d + 1)) (52 + (d + 1)) (28 * c - (d + 1))) (52 + d) (ρ (24 + d)) = va_cpy ρ ρ (24 + d) (52 + d) (28 * c - d) from by
      have := cpy_pred (f := ρ) (g := ρ) (sp := 24 + d) (dp := 52 + d) (n := 28 * c - (d + 1))
      rw [show 28 * c - (d + 1) + 1 = 28 * c - d by omega] at this
      exact this]
    rw [show nI (24 + d) + (-1) = nI (24 + d) - 1 from (Int32.sub_eq_add_neg _ _).symm]
    exact goal
theorem n_insert_L32 (hk : zkd h a = 9) (hl : zln h a = 360) (k : zH → Int32 → Option zH) : ∀ d i n, i + d = 28 → d < n → fX7_insert_L32 k a n (zw h (zz I a (nr (va_cpy (fun _ => 0) ρ 0 24 i)))) (nI i) = k (zw h (zz I a (nr (va_cpy (fun _ => 0) ρ 0 24 28)))) (nI 28) := by
  intro d
  induction d with
  | zero =>
    intro i n hf hn
    obtain ⟨n, rfl⟩ := fuel1 hn
    have ee : i = 28 := by omega
    subst ee
    rw [fX7_insert_L32, if_pos (by decide)]
  | succ d ih =>
    intro i n hf hn
    obtain ⟨n, rfl⟩ := fuel1 hn
    rw [fX7_insert_L32, if_neg (by rw [show (28 : Int32) = nI 28 from rfl, nI_leI (by omega) (by omega)]; omega), show (24 : Int32) = nI 24 from rfl, nI_add, n_wr (ρ := va_cpy (fun _ => 0) ρ 0 24 i) hk hl zz_at (j := 24 + i) (v := 0) (y := 0) (by omega) rfl rfl, Option.bind_some, zz_zz, nI_1]
    rw [show va_up (va_cpy (fun _ => 0) ρ 0 24 i) (24 + i) 0 = va_cpy (fun _ => 0) ρ 0 24 (i + 1) from cpy_succ (f := fun _ => 0) (g := ρ) (sp := 0) (dp := 24) (i := i)]
    exact ih (i + 1) n (by omega) (by omega)
theorem n_insert (hk : zkd h a = 9) (hl : zln h a = 360) (hI : I a = nr ρ) (hc : ρ 0 < 12) : fX7_insert (zw h I) a = some (zw h (zz I a (nr (nins ρ)))) := by
  unfold fX7_insert
  rw [n_rd (x := 0) hk hl hI (j := 0) (by omega) rfl, Option.bind_some, p_at, zb2_some]
  have e1 := n_insert_L9 (h := h) (I := I) (a := a) (ρ := ρ) (c := ρ 0) hk hl hc (fun h4 y5 => fX7_insert_L32 (fun h6 y7 => (zaI h6 a 0).bind fun w8 => (zbI h6 a 0 (w8 + 1)).bind fun h9 => some h9) a zF h4 0) (28 * ρ 0) zF (Nat.le_refl _) (by unfold zF; omega)
  rw [Nat.sub_self, cpy_zero, ← hI, zz_self] at e1
  refine e1.trans ?_
  have e2 := n_insert_L32 (h := h) (I := I) (a := a) (ρ := va_cpy ρ ρ 24 52 (28 * ρ 0)) hk hl (fun h6 y7 => (zaI h6 a 0).bind fun w8 => (zbI h6 a 0 (w8 + 1)).bind fun h9 => some h9) 28 0 zF (by omega) (by decide)
  rw [cpy_zero] at e2
  refine e2.trans ?_
  rw [n_rd (x := 0) (ρ := va_cpy (fun _ => 0) (va_cpy ρ ρ 24 52 (28 * ρ 0)) 0 24 28) hk hl zz_at (j := 0) (by omega) rfl, Option.bind_some, pk_cpy_out (by left; omega), pk_cpy_out (by left; omega), nI_1, n_wr (x := 0) (ρ := va_cpy (fun _ => 0) (va_cpy ρ ρ 24 52 (28 * ρ 0)) 0 24 28) hk hl zz_at (j := 0) (by omega) rfl rfl, Option.bind_some, zz_zz]
  rfl
end COPY
theorem nins_en {ρ : zN'} {i k : Nat} (hk : k < 28) : nins ρ (24 + 28 * i + k) = if i = 0 then 0 else if i ≤ ρ 0 then ρ (24 + 28 * (i - 1) + k) else ρ (24 + 28 * i + k) := by
  unfold nins
  rw [show va_up (va_cpy (fun _ => 0) (va_cpy ρ ρ 24 52 (28 * ρ 0)) 0 24 28) 0 (ρ 0 + 1) (24 + 28 * i + k) = va_cpy (fun _ => 0) (va_cpy ρ ρ 24 52 (28 * ρ 0)) 0 24 28 (24 + 28 * i + k) from if_neg (by omega)]
  by_cases h0 : i = 0
  · subst h0
    rw [if_pos rfl, pk_cpy_in (by omega) (by omega)]
  · rw [if_neg h0, pk_cpy_out (by omega)]
    by_cases h1 : i ≤ ρ 0
    · rw [if_pos h1, pk_cpy_in (by omega) (by omega)]
      congr 1; omega
    · rw [if_neg h1, pk_cpy_out (by omega)]
theorem nins_hd {ρ : zN'} {j : Nat} (hj : j < 24) : nins ρ j = if j = 0 then ρ 0 + 1 else ρ j := by
  unfold nins
  by_cases h : j = 0
  · subst h; rfl
  · rw [if_neg h, show va_up (va_cpy (fun _ => 0) (va_cpy ρ ρ 24 52 (28 * ρ 0)) 0 24 28) 0 (ρ 0 + 1) j = va_cpy (fun _ => 0) (va_cpy ρ ρ 24 52 (28 * ρ 0)) 0 24 28 j from if_neg h, pk_cpy_out (by omega), pk_cpy_out (by omega)]
