/-! pure: what rows keep to -/
def knf (nf : Nat) (ρ : zN') : Prop := ∀ e f, e < ρ 0 → f < 8 → nf ≤ f → ρ (24 + 28 * e + 16 + f) = 0
def rok (nf nc : Nat) (ρ : zN') : Prop := nok ρ ∧ rz ρ ∧ rcs nc ρ ∧ knf nf ρ
section PROK
variable {nf nc np : Nat} {ρ ρ' : zN'} {fr tt gr lo ac li : zN'}
theorem eok_pf {e f b l k : Nat} (ho : eok ρ e) (hf : f < 8) (hb : 1 ≤ b ∧ b ≤ 99999) (hl : l ≤ 63 * ρ 1) (hk : k = 1 ∨ k = 2) : eok (npf ρ e f b l k) e := by
  obtain ⟨o1, o2, o3, o4⟩ := ho
  have h1 : npf ρ e f b l k 1 = ρ 1 := by rw [npf_at, if_neg (by omega), if_neg (by omega), if_neg (by omega)]
  refine ⟨fun g hg => ?_, ?_, ?_, ?_⟩
  · rw [npf_k hg hf, npf_b hg hf, npf_l hg hf, h1]
    by_cases c : g = f
    · simp only [if_pos c]
      omega
    · simp only [if_neg c]
      exact o1 g hg
  · rw [npf_r (by omega) hf]; exact o2
  · rw [npf_r (by omega) hf, h1]; exact o3
  · rw [npf_r (by omega) hf, h1]; exact o4
theorem npf_ne {e f b l k i j : Nat} (hi : i ≠ e) (hj : j < 28) (hf : f < 8) : npf ρ e f b l k (24 + 28 * i + j) = ρ (24 + 28 * i + j) := by
  rw [npf_at, if_neg (by omega), if_neg (by omega), if_neg (by omega)]
theorem npf_hd {e f b l k j : Nat} (hj : j < 24) : npf ρ e f b l k j = ρ j := by
  rw [npf_at, if_neg (by omega), if_neg (by omega), if_neg (by omega)]
theorem nok_pf {e f b l k : Nat} (ho : nok ρ) (he : e < ρ 0) (hf : f < 8) (hb : 1 ≤ b ∧ b ≤ 99999) (hl : l ≤ 63 * ρ 1) (hk : k = 1 ∨ k = 2) : nok (npf ρ e f b l k) := by
  obtain ⟨n0, n1, n2, n3, n4⟩ := ho
  unfold nok
  rw [npf_hd (by omega), npf_hd (by omega), npf_hd (by omega)]
  refine ⟨n0, n1, n2, n3, fun i hi => ?_⟩
  by_cases c : i = e
  · rw [c]; exact eok_pf (n4 e he) hf hb hl hk
  · exact eok_en (by rw [npf_hd (by omega)]; exact Nat.le_refl _) (fun j hj => npf_ne c hj hf) (n4 i hi)
theorem nok_front {e : Nat} (ho : nok ρ) (he : e < ρ 0) : nok (nfront ρ e) := by
  obtain ⟨n0, n1, n2, n3, n4⟩ := ho
  unfold nok
  rw [nfront_hd (by omega), nfront_hd (by omega), nfront_hd (by omega)]
  refine ⟨n0, n1, n2, n3, fun i hi => eok_en (by rw [nfront_hd (by omega)]; exact Nat.le_refl _) (fun k hk => nfront_en hk) (n4 _ ?_)⟩
  split
  · exact he
  · split <;> omega
theorem ncpf_hd {f b j : Nat} (hj : j < 24) : ncpf ρ f b j = if j = 0 then ρ 0 + 1 else ρ j := by
  unfold ncpf
  rw [up_b (by omega), up_b (by omega), npf_hd hj, nins_hd hj]
theorem ncpf_en {f b i k : Nat} (hf : f < 8) (hk : k < 28) : ncpf ρ f b (24 + 28 * i + k) = if i = 0 then (if k = f then b else if k = 16 + f then 1 else if k = 26 then ρ 1 else if k = 27 then 4294967287 else 0) else if i ≤ ρ 0 then ρ (24 + 28 * (i - 1) + k) else ρ (24 + 28 * i + k) := by
  unfold ncpf va_up
  rw [npf_at, nins_en hk]
  repeat' split
  all_goals first | rfl | omega
theorem nok_cpf {f b : Nat} (ho : nok ρ) (hc : ρ 0 < 12) (hf : f < 8) (hb : 1 ≤ b ∧ b ≤ 99999) : nok (ncpf ρ f b) := by
  obtain ⟨n0, n1, n2, n3, n4⟩ := ho
  have h1 : ncpf ρ f b 1 = ρ 1 := by rw [ncpf_hd (by omega), if_neg (by omega)]
  unfold nok
  rw [h1, ncpf_hd (j := 0) (by omega), if_pos rfl, ncpf_hd (j := 3) (by omega), if_neg (by omega)]
  refine ⟨by omega, n1, n2, n3, fun i hi => ?_⟩
  by_cases c : i = 0
  · have cell : ∀ k, k < 28 → ncpf ρ f b (24 + 28 * i + k) = (if k = f then b else if k = 16 + f then 1 else if k = 26 then ρ 1 else if k = 27 then 4294967287 else 0) := fun k hk => by rw [ncpf_en hf hk, if_pos c]
    have c16 : ∀ g, g < 8 → ncpf ρ f b (24 + 28 * i + 16 + g) = if g = f then 1 else 0 := fun g hg => by
      rw [Nat.add_assoc (24 + 28 * i), cell _ (by omega)]
      repeat' split
      all_goals omega
    have c8 : ∀ g, g < 8 → ncpf ρ f b (24 + 28 * i + 8 + g) = 0 := fun g hg => by
      rw [Nat.add_assoc (24 + 28 * i), cell _ (by omega)]
      repeat' split
      all_goals omega
    have c0 : ∀ g, g < 8 → ncpf ρ f b (24 + 28 * i + g) = if g = f then b else 0 := fun g hg => by
      rw [cell _ (by omega)]
      repeat' split
      all_goals omega
    refine ⟨fun g hg => ?_, ?_, ?_, ?_⟩
    · rw [c16 g hg, c8 g hg, c0 g hg, h1]
      by_cases q : g = f
      · simp only [if_pos q]
        omega
      · rw [if_neg q, if_neg q]
        exact ⟨by omega, by omega, fun _ => ⟨rfl, rfl⟩, fun z => absurd rfl z, by omega⟩
    · rw [cell 24 (by omega)]
      repeat' split
      all_goals omega
    · rw [cell 25 (by omega), h1]
      repeat' split
      all_goals omega
    · rw [cell 26 (by omega), h1]
      repeat' split
      all_goals omega
  · exact eok_en (i' := i - 1) (by rw [h1]; exact Nat.le_refl _) (fun k hk => by rw [ncpf_en hf hk, if_neg c, if_pos (by omega)]) (n4 (i - 1) (by omega))
theorem knf_mk {b but : Nat} {et : Bool} : ∀ n (ρ : zN') ok ρ', knf nf ρ → nmk b but et n ρ = some (ok, ρ') → knf nf ρ' := by
  intro n
  induction n with
  | zero => intro ρ ok ρ' _ e; cases e
  | succ n ih =>
    intro ρ ok ρ' hk e
    unfold nmk at e
    by_cases c : nus ρ (ρ 0) + b ≤ ρ 3
    · rw [if_pos c] at e
      cases e
      exact hk
    · rw [if_neg c] at e
      cases hl : nlg ρ but with
      | some w =>
        obtain ⟨e', f'⟩ := w
        rw [hl] at e
        dsimp only at e
        obtain ⟨g1, g2, g3, g4, -⟩ := nlg_some hl
        refine ih _ _ _ (fun i f hi hf hn => ?_) e
        rw [ndf_at, if_neg (by omega)] at hi
        rw [ndf_at]
        split
        · rfl
        · exact hk i f hi hf hn
      | none =>
        rw [hl] at e
        dsimp only at e
        cases et with
        | false => rw [if_neg (by decide)] at e; cases e; exact hk
        | true =>
          rw [if_pos rfl] at e
          cases hv : nhv ρ but (ρ 0) with
          | none => rw [hv] at e; cases e; exact hk
          | some e' =>
            rw [hv] at e
            dsimp only at e
            obtain ⟨g1, g2, g3⟩ := nhv_lt hv
            refine ih _ _ _ (fun i f hi hf hn => ?_) e
            rw [ndrop_hd g1 (by omega), if_pos rfl] at hi
            rw [Nat.add_assoc (24 + 28 * i), ndrop_en g1 hi (by omega), ← Nat.add_assoc]
            exact hk _ f (by split <;> omega) hf hn
theorem knf_room {b but : Nat} {et : Bool} (hk : knf nf ρ) (h : nroom b but et ρ = some ρ') : knf nf ρ' := knf_mk zF ρ true ρ' hk (nroom_mk h)
theorem knf_drop {e : Nat} (hk : knf nf ρ) (he : e < ρ 0) : knf nf (ndrop ρ (ρ 0) e) := fun i f hi hf hn => by
  rw [ndrop_hd he (by omega), if_pos rfl] at hi
  rw [Nat.add_assoc (24 + 28 * i), ndrop_en he hi (by omega), ← Nat.add_assoc]
  exact hk _ f (by split <;> omega) hf hn
theorem knf_up {j v : Nat} (hk : knf nf ρ) (hj : ∀ e f, f < 8 → j ≠ 24 + 28 * e + 16 + f) (h0 : j ≠ 0) : knf nf (va_up ρ j v) := fun e f he hf hn => by
  rw [up_b (by omega)] at he
  rw [up_b (fun z => hj e f hf z.symm)]
  exact hk e f he hf hn
theorem knf_df {e f : Nat} (hk : knf nf ρ) : knf nf (ndf ρ e f) := fun i g hi hg hn => by
  rw [ndf_at, if_neg (by omega)] at hi
  rw [ndf_at]
  split
  · rfl
  · exact hk i g hi hg hn
theorem knf_pf {e f b l k : Nat} (hk : knf nf ρ) (hf : f < nf) (h8 : f < 8) : knf nf (npf ρ e f b l k) := fun i g hi hg hn => by
  rw [npf_hd (by omega)] at hi
  by_cases c : i = e
  · rw [c, npf_k hg h8, if_neg (by omega)]
    exact hk e g (by omega) hg hn
  · rw [Nat.add_assoc (24 + 28 * i), npf_ne c (by omega) h8, ← Nat.add_assoc]
    exact hk i g hi hg hn
theorem knf_front {e : Nat} (hk : knf nf ρ) (he : e < ρ 0) : knf nf (nfront ρ e) := fun i g hi hg hn => by
  rw [nfront_hd (by omega)] at hi
  rw [Nat.add_assoc (24 + 28 * i), nfront_en (by omega), ← Nat.add_assoc]
  exact hk _ g (by split; exact he; split <;> omega) hg hn
theorem knf_cpf {f b : Nat} (hk : knf nf ρ) (hf : f < nf) (h8 : f < 8) : knf nf (ncpf ρ f b) := fun i g hi hg hn => by
  rw [ncpf_hd (by omega), if_pos rfl] at hi
  rw [Nat.add_assoc (24 + 28 * i), ncpf_en h8 (by omega)]
  by_cases c : i = 0
  · rw [if_pos c]
    repeat' split
    all_goals omega
  · rw [if_neg c, if_pos (by omega), ← Nat.add_assoc]
    exact hk _ g (by omega) hg hn
theorem rcs_hd (hr : rcs nc ρ) (hn : nc ≤ 20) (h : ∀ j, 4 ≤ j → j < 24 → ρ' j = ρ j) : rcs nc ρ' := fun c hc => by
  rw [h _ (by omega) (by omega)]
  exact hr c hc
theorem rz_cpf {f b : Nat} (hz : rz ρ) (hc : ρ 0 < 12) (hf : f < 8) : rz (ncpf ρ f b) := rz_up (rz_up (rz_pf (rz_ins hz hc) (by omega) hf) (by omega)) (by omega)
/-- copying keeps it -/
theorem rok_copy {f b : Nat} (ho : rok nf nc ρ) (hn : nc ≤ 20) (ht : ρ 1 + 1 < 10000) (hf : f < nf) (h8 : nf ≤ 8) (hb : 1 ≤ b ∧ b ≤ 9999) (h : ncopy ρ f b = some ρ') : rok nf nc ρ' ∧ ρ' 1 = ρ 1 + 1 ∧ 1 ≤ ρ' 0 := by
  obtain ⟨o1, o2, o3, o4⟩ := ho
  have hot := nok_time o1 ht
  have hzt : rz (va_up ρ 1 (ρ 1 + 1)) := rz_up o2 (by omega)
  have hkt : knf nf (va_up ρ 1 (ρ 1 + 1)) := knf_up o4 (fun e f hf => by omega) (by omega)
  have t1 : va_up ρ 1 (ρ 1 + 1) 1 = ρ 1 + 1 := up_at
  have tj : ∀ j, 4 ≤ j → j < 24 → va_up ρ 1 (ρ 1 + 1) j = ρ j := fun j h1 h2 => up_b (by omega)
  unfold ncopy at h
  generalize va_up ρ 1 (ρ 1 + 1) = σ at *
  cases hp : ncp0 σ with
  | none => rw [hp] at h; cases h
  | some σ1 =>
    rw [hp, Option.bind_some] at h
    obtain ⟨p1, p2, p3, p4⟩ := ncp0_ok hot hp
    have zk : rz σ1 ∧ knf nf σ1 := by
      unfold ncp0 at hp
      by_cases c : σ 0 = 12
      · rw [if_pos c] at hp
        cases hv : nhv σ 99 12 with
        | none => rw [hv] at hp; cases hp
        | some e =>
          rw [hv] at hp
          have hp : some (ndrop σ 12 e) = some σ1 := hp
          cases hp
          obtain ⟨g1, -⟩ := nhv_lt hv
          refine ⟨rz_drop hzt g1 (by omega), ?_⟩
          have := knf_drop (e := e) hkt (by omega)
          rw [c] at this
          exact this
      · rw [if_neg c] at hp
        cases hp
        exact ⟨hzt, hkt⟩
    cases hm : nroom b 99 true σ1 with
    | none => rw [hm] at h; cases h
    | some σ2 =>
      rw [hm] at h
      have h : some (ncpf σ2 f b) = some ρ' := h
      cases h
      obtain ⟨k1, k2, k3⟩ := nroom_keep p1 hm
      have z2 := rz_room p1 zk.1 hm
      have n2 := knf_room zk.2 hm
      refine ⟨⟨nok_cpf k1 (by omega) (by omega) (by omega), rz_cpf z2 (by omega) (by omega), ?_, knf_cpf n2 hf (by omega)⟩, ?_, ?_⟩
      · refine rcs_hd o3 hn (fun j h1 h2 => ?_)
        rw [ncpf_hd h2, if_neg (by omega), k3 j (by omega) h2, p4 j (by omega) h2, tj j h1 h2]
      · rw [ncpf_hd (by omega), if_neg (by omega), k3 1 (by omega) (by omega), p4 1 (by omega) (by omega), t1]
      · rw [ncpf_hd (by omega), if_pos rfl]
        omega
theorem rok_offer {f b : Nat} (ho : rok nf nc ρ) (hn : nc ≤ 20) (ht : ρ 1 + 1 < 10000) (hf : f < nf) (h8 : nf ≤ 8) (hb : 1 ≤ b ∧ b ≤ 9999) (h : noffer ρ f b = some ρ') : rok nf nc ρ' ∧ ρ' 1 = ρ 1 + 1 := by
  obtain ⟨o1, o2, o3, o4⟩ := ho
  have hot := nok_time o1 ht
  have hzt : rz (va_up ρ 1 (ρ 1 + 1)) := rz_up o2 (by omega)
  have hkt : knf nf (va_up ρ 1 (ρ 1 + 1)) := knf_up o4 (fun e f hf => by omega) (by omega)
  have t1 : va_up ρ 1 (ρ 1 + 1) 1 = ρ 1 + 1 := up_at
  have t0 : va_up ρ 1 (ρ 1 + 1) 0 = ρ 0 := up_b (by omega)
  have tj : ∀ j, 4 ≤ j → j < 24 → va_up ρ 1 (ρ 1 + 1) j = ρ j := fun j h1 h2 => up_b (by omega)
  unfold noffer at h
  by_cases c : ρ 0 = 0 ∨ ρ (40 + f) = 1
  · rw [if_pos c] at h; cases h
  rw [if_neg c] at h
  have c0 : ρ 0 ≠ 0 := fun w => c (Or.inl w)
  generalize va_up ρ 1 (ρ 1 + 1) = σ at *
  have nd := nok_df hot (e := 0) (f := f) (by omega) (by omega)
  have dh : ∀ j, j < 24 → ndf σ 0 f j = σ j := fun j hj => by rw [ndf_at, if_neg (by omega)]
  cases hm : nroom b 0 true (ndf σ 0 f) with
  | none => rw [hm] at h; cases h
  | some σ2 =>
    rw [hm] at h
    have h : some (npf σ2 0 f b 0 1) = some ρ' := h
    cases h
    obtain ⟨k1, k2, k3⟩ := nroom_keep nd hm
    obtain ⟨m1, -⟩ := nmk_k0 zF _ _ _ (by rw [dh 0 (by omega)]; omega) (nroom_mk hm)
    have z2 := rz_room nd (rz_df hzt (by omega) (by omega)) hm
    have n2 := knf_room (knf_df hkt) hm
    refine ⟨⟨nok_pf k1 (by omega) (by omega) (by omega) (by omega) (Or.inl rfl), rz_pf z2 (by omega) (by omega), ?_, knf_pf n2 hf (by omega)⟩, ?_⟩
    · refine rcs_hd o3 hn (fun j h1 h2 => ?_)
      rw [npf_hd h2, k3 j (by omega) h2, dh j h2, tj j h1 h2]
    · rw [npf_hd (by omega), k3 1 (by omega) (by omega), dh 1 (by omega), t1]
end PROK
