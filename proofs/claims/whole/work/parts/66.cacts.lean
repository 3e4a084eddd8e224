/-! pure: the component's actions on a state -/
theorem nls_cg {ρ ρ' : zN'} {but : Nat} {ke : Bool} (h0 : ρ' 0 = ρ 0) (he : ∀ j, 24 ≤ j → ρ' j = ρ j) : nls ρ' but ke = nls ρ but ke := by
  unfold nls
  rw [h0]
  refine nsum_congr fun i hi => ?_
  have z : nsz ρ' i = nsz ρ i := nsum_congr fun f hf => he _ (by omega)
  have o : nor ρ' i = nor ρ i := nsum_congr fun f hf => by rw [he _ (by omega), he (24 + 28 * i + f) (by omega)]
  unfold nli
  rw [z, o, he _ (by omega)]
theorem nsum_one : ∀ n, nsum (fun _ => 1) n = n := by
  intro n
  induction n with
  | zero => rfl
  | succ n ih => show nsum (fun _ => 1) n + 1 = n + 1; rw [ih]
theorem nhv_pin {ρ : zN'} (ho : nok ρ) {n : Nat} (hn : n ≤ ρ 0) : nhv ρ 99 n = none ↔ ¬ npin ρ n < n := by
  have hc := ho.1
  constructor
  · intro h q
    have := nsum_mono (g := fun _ => 1) (g' := fun e => ρ (24 + 28 * e + 24)) (n := n) fun e he => by
      have := (nhv_none h e he).resolve_left (by omega)
      show 1 ≤ ρ (24 + 28 * e + 24)
      omega
    rw [nsum_one] at this
    unfold npin at q
    omega
  · intro q
    cases h : nhv ρ 99 n with
    | none => rfl
    | some e =>
      obtain ⟨h1, h2, h3⟩ := nhv_lt h
      have := nsum_lt (g := fun e => ρ (24 + 28 * e + 24)) (g' := fun _ => 1) h1 (fun j hj => (ho.2.2.2.2 j (by omega)).2.1) (by show ρ (24 + 28 * e + 24) < 1; omega)
      rw [nsum_one] at this
      exact absurd this q
theorem up_b {ρ : zN'} {k v j : Nat} (h : j ≠ k) : va_up ρ k v j = ρ j := up_ne h
theorem ncopy_iff {ρ : zN'} {f b : Nat} (ho : nok ρ) (ht : ρ 1 + 1 < 10000) : (∃ ρ', ncopy ρ f b = some ρ') ↔ ((ρ 0 = 12 → npin ρ (ρ 0) < ρ 0) ∧ nls ρ 99 false + b ≤ ρ 3) := by
  have hot := nok_time ho ht
  have t0 : va_up ρ 1 (ρ 1 + 1) 0 = ρ 0 := up_b (by omega)
  have t3 : va_up ρ 1 (ρ 1 + 1) 3 = ρ 3 := up_b (by omega)
  have te : ∀ j, 24 ≤ j → va_up ρ 1 (ρ 1 + 1) j = ρ j := fun j hj => up_b (by omega)
  have tp : npin (va_up ρ 1 (ρ 1 + 1)) 12 = npin ρ 12 := nsum_congr fun e he => te _ (by omega)
  have tl : nls (va_up ρ 1 (ρ 1 + 1)) 99 false = nls ρ 99 false := nls_cg t0 te
  have hc := ho.1
  unfold ncopy
  generalize va_up ρ 1 (ρ 1 + 1) = σ at *
  unfold ncp0
  by_cases c : ρ 0 = 12
  · rw [t0, if_pos c]
    have hp := nhv_pin (ρ := σ) hot (n := 12) (by omega)
    rw [tp] at hp
    cases hv : nhv σ 99 12 with
    | none =>
      have := hp.mp hv
      rw [c]
      exact ⟨fun ⟨_, w⟩ => (by cases w), fun w => absurd (w.1 rfl) this⟩
    | some e =>
      obtain ⟨h1, h2, h3⟩ := nhv_lt hv
      have pn : npin ρ 12 < 12 := Classical.byContradiction fun w => by
        rw [hp.mpr w] at hv; cases hv
      have s0 : σ 0 = 12 := by omega
      have nd := nok_drop hot (e := e) (by omega)
      rw [s0] at nd
      have e0 : ndrop σ 12 e 0 = 11 := by rw [ndrop_hd (by omega) (by omega)]; rfl
      have e3 : ndrop σ 12 e 3 = σ 3 := by rw [ndrop_hd (by omega) (by omega)]; rfl
      have ld := nls_drop (ρ := σ) (e := e) (but := 99) (by omega) h2 h3 (Or.inr (by omega))
      rw [s0] at ld
      have rm := nroom_iff (b := b) (but := 99) (et := true) (ρ := ndrop σ 12 e) nd (fun _ => Or.inr (by omega))
      rw [show (!true) = false from rfl, ld, tl, e3, t3] at rm
      rw [c, ← rm]
      constructor
      · intro ⟨ρ', w⟩
        refine ⟨fun _ => pn, ?_⟩
        cases hr : nroom b 99 true (ndrop σ 12 e) with
        | none =>
          have : (none : Option zN') = some ρ' := by rw [← w]; simp only [Option.map_some, Option.bind_some, hr, Option.map_none]
          cases this
        | some r => exact ⟨r, rfl⟩
      · intro ⟨_, r, hr⟩
        exact ⟨ncpf r f b, by simp only [Option.map_some, Option.bind_some, hr]⟩
  · rw [t0, if_neg c]
    have rm := nroom_iff (b := b) (but := 99) (et := true) (ρ := σ) hot (fun _ => Or.inr (by omega))
    rw [show (!true) = false from rfl, tl, t3] at rm
    rw [← rm]
    constructor
    · intro ⟨ρ', w⟩
      refine ⟨fun z => absurd z c, ?_⟩
      cases hr : nroom b 99 true σ with
      | none =>
        have : (none : Option zN') = some ρ' := by rw [← w]; simp only [Option.bind_some, hr, Option.map_none]
        cases this
      | some r => exact ⟨r, rfl⟩
    · intro ⟨_, r, hr⟩
      exact ⟨ncpf r f b, by simp only [Option.bind_some, hr, Option.map_some]⟩
theorem nmk_k0 {b : Nat} {et : Bool} : ∀ n (ρ : zN') ok ρ', 1 ≤ ρ 0 → nmk b 0 et n ρ = some (ok, ρ') → 1 ≤ ρ' 0 ∧ ∀ k, k < 28 → ρ' (24 + 28 * 0 + k) = ρ (24 + 28 * 0 + k) := by
  intro n
  induction n with
  | zero => intro ρ ok ρ' _ e; cases e
  | succ n ih =>
    intro ρ ok ρ' h1 e
    unfold nmk at e
    by_cases c : nus ρ (ρ 0) + b ≤ ρ 3
    · rw [if_pos c] at e
      cases e
      exact ⟨h1, fun k hk => rfl⟩
    · rw [if_neg c] at e
      cases hl : nlg ρ 0 with
      | some w =>
        obtain ⟨e', f'⟩ := w
        rw [hl] at e
        dsimp only at e
        obtain ⟨g1, g2, g3, g4, -⟩ := nlg_some hl
        have e0 : ndf ρ e' f' 0 = ρ 0 := by rw [ndf_at, if_neg (by omega)]
        obtain ⟨i1, i2⟩ := ih _ _ _ (by rw [e0]; exact h1) e
        exact ⟨i1, fun k hk => by rw [i2 k hk]; exact ndf_ne (Ne.symm g3) hk g2⟩
      | none =>
        rw [hl] at e
        dsimp only at e
        cases et with
        | false => rw [if_neg (by decide)] at e; cases e; exact ⟨h1, fun k hk => rfl⟩
        | true =>
          rw [if_pos rfl] at e
          cases hv : nhv ρ 0 (ρ 0) with
          | none => rw [hv] at e; cases e; exact ⟨h1, fun k hk => rfl⟩
          | some e' =>
            rw [hv] at e
            dsimp only at e
            obtain ⟨g1, g2, g3⟩ := nhv_lt hv
            have e0 : ndrop ρ (ρ 0) e' 0 = ρ 0 - 1 := by rw [ndrop_hd g1 (by omega)]; rfl
            obtain ⟨i1, i2⟩ := ih _ _ _ (by rw [e0]; omega) e
            refine ⟨i1, fun k hk => ?_⟩
            rw [i2 k hk, ndrop_en g1 (by omega) hk, if_pos (by omega)]
theorem nroom_mk {b but : Nat} {et : Bool} {ρ ρ' : zN'} (hr : nroom b but et ρ = some ρ') : nmk b but et zF ρ = some (true, ρ') := by
  unfold nroom at hr
  cases hm : nmk b but et zF ρ with
  | none => rw [hm] at hr; cases hr
  | some w =>
    obtain ⟨ok, r⟩ := w
    rw [hm] at hr
    cases ok with
    | true => cases hr; rfl
    | false => cases hr
theorem noffer_iff {ρ : zN'} {f b : Nat} (ho : nok ρ) (ht : ρ 1 + 1 < 10000) (hf : f < 8) (h0 : ρ 0 ≠ 0) (hk : ρ (40 + f) ≠ 1) : (∃ ρ', noffer ρ f b = some ρ') ↔ nls ρ 0 false - ρ (24 + f) + b ≤ ρ 3 := by
  have hot := nok_time ho ht
  have t0 : va_up ρ 1 (ρ 1 + 1) 0 = ρ 0 := up_b (by omega)
  have t3 : va_up ρ 1 (ρ 1 + 1) 3 = ρ 3 := up_b (by omega)
  have te : ∀ j, 24 ≤ j → va_up ρ 1 (ρ 1 + 1) j = ρ j := fun j hj => up_b (by omega)
  have tl : nls (va_up ρ 1 (ρ 1 + 1)) 0 false = nls ρ 0 false := nls_cg t0 te
  have tf := te (24 + f) (by omega)
  have hc := ho.1
  unfold noffer
  rw [if_neg (fun w => w.elim h0 hk)]
  generalize va_up ρ 1 (ρ 1 + 1) = σ at *
  have nd := nok_df hot (e := 0) (by omega) hf
  have e0 : ndf σ 0 f 0 = σ 0 := by rw [ndf_at, if_neg (by omega)]
  have e3 : ndf σ 0 f 3 = σ 3 := by rw [ndf_at, if_neg (by omega)]
  have rm := nroom_iff (b := b) (but := 0) (et := true) (ρ := ndf σ 0 f) nd (fun _ => Or.inl rfl)
  have ls : nls (ndf σ 0 f) 0 false + σ (24 + f) = nls σ 0 false := by
    unfold nls
    rw [e0]
    have ch := nsum_chg (g := nli σ 0 false) (g' := nli (ndf σ 0 f) 0 false) (n := σ 0) (k := 0) (by omega) (fun j hj hn => by
      have z : ∀ k, k < 28 → ndf σ 0 f (24 + 28 * j + k) = σ (24 + 28 * j + k) := fun k hk => ndf_ne hn hk hf
      unfold nli
      rw [if_neg hn, if_neg hn, z 24 (by omega)]
      have eo : nor (ndf σ 0 f) j = nor σ j := nsum_congr fun g hg => by
        have := z (16 + g) (by omega)
        rw [← Nat.add_assoc] at this
        rw [this, z g (by omega)]
      rw [eo])
    have v1 : nli σ 0 false 0 = nsz σ 0 := if_pos rfl
    have v2 : nli (ndf σ 0 f) 0 false 0 = nsz (ndf σ 0 f) 0 := if_pos rfl
    have df := nsz_df (ρ := σ) (e := 0) hf
    rw [show 24 + 28 * 0 + f = 24 + f by omega] at df
    rw [v1, v2] at ch
    omega
  rw [show (!true) = false from rfl, e3, t3] at rm
  have eq : nls ρ 0 false - ρ (24 + f) + b = nls (ndf σ 0 f) 0 false + b := by omega
  rw [eq, ← rm]
  constructor
  · intro ⟨ρ', w⟩
    cases hr : nroom b 0 true (ndf σ 0 f) with
    | none => rw [hr] at w; cases w
    | some r => exact ⟨r, rfl⟩
  · intro ⟨r, hr⟩
    exact ⟨_, by rw [hr]; rfl⟩
section CACT
variable {tg : Bool} {h : zH} {q nc : Nat} {ρ ρ' : zN'}
theorem c_can {f b : Nat} (hS : SR tg h q nc ρ) (ho : nok ρ) (ht : ρ 1 + 1 < 10000) (hb : b ≤ 9999) : fX3_canAddEntry h q (nI b) = some (if (ncopy ρ f b).isSome = true then nI 1 else nI 0, h) := by
  have hc := ho.1
  have b3 := ho.2.2.2.1
  have lb := nls_bd ho 99 false
  have L := c_least false hS ho nbut_m1
  rw [if_neg (by decide)] at L
  have ci := ncopy_iff (f := f) (b := b) ho ht
  have np : npin ρ (ρ 0) ≤ 12 := Nat.le_trans (nsum_le (b := 1) fun j hj => (ho.2.2.2.2 j hj).2.1) (by omega)
  have yes : ∀ (p : (ρ 0 = 12 → npin ρ (ρ 0) < ρ 0) ∧ nls ρ 99 false + b ≤ ρ 3), (ncopy ρ f b).isSome = true := fun p => by
    obtain ⟨r, hr⟩ := ci.mpr p
    rw [hr]; rfl
  have no : ∀ (p : ¬ ((ρ 0 = 12 → npin ρ (ρ 0) < ρ 0) ∧ nls ρ 99 false + b ≤ ρ 3)), (ncopy ρ f b).isSome = false := fun p => by
    cases hr : ncopy ρ f b with
    | none => rfl
    | some r => exact absurd (ci.mp ⟨r, hr⟩) p
  unfold fX3_canAddEntry
  by_cases c : ρ 0 = 12
  · by_cases p : npin ρ (ρ 0) < ρ 0
    · by_cases r : nls ρ 99 false + b ≤ ρ 3
      · rw [yes ⟨fun _ => p, r⟩]
        rw [c] at p
        simp (disch := first | assumption | (simp only [sI_kd, sP_kd, rw_kd, sI_ln, sP_ln, rw_ln] <;> first | assumption | omega) | omega) only [nl, nI_add, pk_mul, Option.bind_some, zb2_some, nI_le_t, nI_le_f, nI_lt_t, nI_lt_f, nI_eq_t, nI_eq_f, nI_m1, nI_em1, ↓reduceIte, Nat.add_zero, hS.kd, c_full hS hc, c, c_pinned hS ho, hS.cn, L, hS.bg]
      · rw [no (fun w => r w.2)]
        rw [c] at p
        simp (disch := first | assumption | (simp only [sI_kd, sP_kd, rw_kd, sI_ln, sP_ln, rw_ln] <;> first | assumption | omega) | omega) only [nl, nI_add, pk_mul, Option.bind_some, zb2_some, nI_le_t, nI_le_f, nI_lt_t, nI_lt_f, nI_eq_t, nI_eq_f, nI_m1, nI_em1, ↓reduceIte, Nat.add_zero, hS.kd, c_full hS hc, c, c_pinned hS ho, hS.cn, L, hS.bg, Bool.false_eq_true]
    · rw [no (fun w => p (w.1 c))]
      rw [c] at p np
      simp (disch := first | assumption | (simp only [sI_kd, sP_kd, rw_kd, sI_ln, sP_ln, rw_ln] <;> first | assumption | omega) | omega) only [nl, nI_add, pk_mul, Option.bind_some, zb2_some, nI_le_t, nI_le_f, nI_lt_t, nI_lt_f, nI_eq_t, nI_eq_f, nI_m1, nI_em1, ↓reduceIte, Nat.add_zero, hS.kd, c_full hS hc, c, c_pinned hS ho, hS.cn, Bool.false_eq_true]
  · by_cases r : nls ρ 99 false + b ≤ ρ 3
    · rw [yes ⟨fun w => absurd w c, r⟩]
      simp (disch := first | assumption | (simp only [sI_kd, sP_kd, rw_kd, sI_ln, sP_ln, rw_ln] <;> first | assumption | omega) | omega) only [nl, nI_add, pk_mul, Option.bind_some, zb2_some, nI_le_t, nI_le_f, nI_lt_t, nI_lt_f, nI_eq_t, nI_eq_f, nI_m1, nI_em1, ↓reduceIte, Nat.add_zero, hS.kd, c_full hS hc, c, L, hS.bg]
    · rw [no (fun w => r w.2)]
      simp (disch := first | assumption | (simp only [sI_kd, sP_kd, rw_kd, sI_ln, sP_ln, rw_ln] <;> first | assumption | omega) | omega) only [nl, nI_add, pk_mul, Option.bind_some, zb2_some, nI_le_t, nI_le_f, nI_lt_t, nI_lt_f, nI_eq_t, nI_eq_f, nI_m1, nI_em1, ↓reduceIte, Nat.add_zero, hS.kd, c_full hS hc, c, L, hS.bg, Bool.false_eq_true]
def nadd (ρ : zN') (f b : Nat) : zN' := fun j => if 24 + 28 * ρ 0 ≤ j ∧ j < 52 + 28 * ρ 0 then (if j = 24 + 28 * ρ 0 + f then b else if j = 24 + 28 * ρ 0 + 16 + f then 1 else if j = 24 + 28 * ρ 0 + 26 then ρ 1 else if j = 24 + 28 * ρ 0 + 27 then 4294967287 else 0) else if j = 0 then ρ 0 + 1 else ρ j
theorem nadd_new {f b k : Nat} (hk : k < 28) : nadd ρ f b (24 + 28 * ρ 0 + k) = if k = f then b else if k = 16 + f then 1 else if k = 26 then ρ 1 else if k = 27 then 4294967287 else 0 := by
  unfold nadd
  rw [if_pos (by omega)]
  repeat' split
  all_goals first | rfl | omega
theorem nadd_old {f b i k : Nat} (hi : i < ρ 0) (hk : k < 28) : nadd ρ f b (24 + 28 * i + k) = ρ (24 + 28 * i + k) := by
  unfold nadd
  rw [if_neg (by omega), if_neg (by omega)]
theorem nadd_hd {f b j : Nat} (hj : j < 24) : nadd ρ f b j = if j = 0 then ρ 0 + 1 else ρ j := by
  unfold nadd
  rw [if_neg (by omega)]
/-- the end of copy: a new entry behind, brought to the front -/
theorem c_atail {f b : Nat} (hS : SR tg h q nc ρ) (hn : nc ≤ 20) (hc : ρ 0 < 12) (hf : f < 8) : ∃ h14 h18, (∃ x, zaP h (q + 1) (nI (ρ 0)) = some x ∧ fX1_begin h x (nI f) (nI b) (nI (ρ 1)) = some h14) ∧ zgI h14 3 q 2 = some (nI (ρ 0)) ∧ zpI h14 3 q 2 (nI (ρ 0 + 1)) = some (zsI h14 q 2 (nI (ρ 0 + 1))) ∧ zgI (zsI h14 q 2 (nI (ρ 0 + 1))) 3 q 2 = some (nI (ρ 0 + 1)) ∧ fX3_moveToFront (zsI h14 q 2 (nI (ρ 0 + 1))) q (nI (ρ 0)) = some h18 ∧ SR tg h18 q nc (ncpf ρ f b) ∧ Fr q (q + 39) h h18 := by
  have hs := hS.1
  obtain ⟨j0, hj0, e0⟩ := hs.ea (i := ρ 0) (by omega)
  have sh := hs.sh (i := ρ 0) (by omega)
  obtain ⟨h14, b1, b2, b3⟩ := c_begin (tg := tg) (e := ρ 0) (t := ρ 1) (ρ' := nadd ρ f b) sh hf (fun k hk => nadd_new (b := b) hk)
  obtain ⟨f1, f2, f3, f4, f5⟩ := id b3
  rw [e0] at f5
  have kd : zkd h14 q = 4 := by rw [f1]; exact hs.1
  have i2 : zI h14 q = zI h q := f5 q (by omega)
  have S16 : SR tg (zsI h14 q 2 (nI (ρ 0 + 1))) q nc (nadd ρ f b) := by
    obtain ⟨-, c2, c3, c4, c5, cc, ce⟩ := hS
    refine ⟨SSh_fI (lo := q) (hi := q + 1) (FrI.sI (by omega) (by omega)) (SSh_fI b3 hs), ?_, ?_, ?_, ?_, fun c hc => ?_, fun i hi => ?_⟩
    · rw [sI_at, nadd_hd (by omega), if_pos rfl]
    · rw [sI_k (by omega), i2, nadd_hd (by omega), if_neg (by omega)]; exact c3
    · rw [sI_k (by omega), i2, nadd_hd (by omega), if_neg (by omega)]; exact c4
    · rw [sI_k (by omega), i2, nadd_hd (by omega), if_neg (by omega)]; exact c5
    · rw [sI_a (by omega), f5 _ (by omega), nadd_hd (by omega), if_neg (by omega)]; exact cc c hc
    · rw [nadd_hd (by omega), if_pos rfl] at hi
      rw [sI_P, f4]
      obtain ⟨j1, hj1, e1⟩ := hs.ea (i := i) (by omega)
      by_cases z : i = ρ 0
      · rw [z]
        refine ER_fr (fun a g1 g2 => ?_) b2
        rw [e0] at g1 g2
        rw [sI_a (by omega)]
      · have ne : j1 ≠ j0 := fun w => z (hs.inj (by omega) (by omega) (by rw [e0, e1, w]))
        refine ER_en (fun k hk => nadd_old (by omega) hk) (ER_fr (fun a g1 g2 => ?_) (ce i (by omega)))
        rw [e1] at g1 g2
        rw [sI_a (by omega), f5 a (by omega)]
  have n0 : nadd ρ f b 0 = ρ 0 + 1 := by rw [nadd_hd (by omega), if_pos rfl]
  obtain ⟨h18, m1, m2, m3⟩ := c_front (e := ρ 0) S16 hn (by omega) (by omega)
  refine ⟨h14, h18, ⟨_, hs.en (by omega), b1⟩, by rw [gI_ kd, i2, hS.2.1], pI_ kd, by rw [gI_ (h := zsI h14 q 2 (nI (ρ 0 + 1))) kd, sI_at], m1, ?_, ?_⟩
  · refine SR_cg hn (fun j hj => ?_) (fun i k hi hk => ?_) m2
    · rw [nfront_hd hj, nadd_hd hj]
      unfold ncpf
      rw [up_b (by omega), up_b (by omega), npf_at, if_neg (by omega), if_neg (by omega), if_neg (by omega), nins_hd hj]
    · rw [nfront_hd (by omega), n0] at hi
      rw [nfront_en hk]
      unfold ncpf va_up
      rw [npf_at, nins_en hk]
      by_cases z : i = 0
      · rw [if_pos z, if_pos z, nadd_new hk]
        repeat' split
        all_goals first | rfl | omega
      · have eqI : (if i = 0 then ρ 0 else if i ≤ ρ 0 then i - 1 else i) = i - 1 := by rw [if_neg z, if_pos (by omega)]
        rw [eqI, nadd_old (by omega) hk]
        repeat' split
        all_goals first | rfl | omega
  · refine Fr.tr ((b3.wd ?_ ?_).fr) (Fr.tr (FrI.sI (by omega) (by omega)).fr m3)
    · omega
    · omega
theorem c_addEntry {f b : Nat} (hS : SR tg h q nc ρ) (hn : nc ≤ 20) (ho : nok ρ) (ht : ρ 1 + 1 < 10000) (hf : f < 8) (hb : b ≤ 9999) (hr : ncopy ρ f b = some ρ') : ∃ h', fX3_addEntry h q (nI f) (nI b) = some h' ∧ SR tg h' q nc ρ' ∧ Fr q (q + 39) h h' := by
  have hc := ho.1
  have hot := nok_time ho ht
  have S2 := SR_time (t := ρ 1 + 1) hS hc
  have t0 : va_up ρ 1 (ρ 1 + 1) 0 = ρ 0 := up_b (by omega)
  have F2 : Fr q (q + 39) h (zsI h q 3 (nI (ρ 1 + 1))) := (FrI.sI (by omega) (by omega)).fr
  unfold ncopy at hr
  generalize va_up ρ 1 (ρ 1 + 1) = σ at *
  have p3 : zpI h 3 q 3 (nI (ρ 1 + 1)) = some (zsI h q 3 (nI (ρ 1 + 1))) := pI_ hS.kd
  cases hp : ncp0 σ with
  | none => rw [hp] at hr; cases hr
  | some σ1 =>
    rw [hp, Option.bind_some] at hr
    obtain ⟨o1, o2, o3, o4⟩ := ncp0_ok hot hp
    cases hm : nroom b 99 true σ1 with
    | none => rw [hm] at hr; cases hr
    | some σ2 =>
      rw [hm] at hr
      have hr : some (ncpf σ2 f b) = some ρ' := hr
      cases hr
      obtain ⟨k1, k2, k3⟩ := nroom_keep o1 hm
      unfold ncp0 at hp
      by_cases c : σ 0 = 12
      · rw [if_pos c] at hp
        cases hv : nhv σ 99 12 with
        | none => rw [hv] at hp; cases hp
        | some e =>
          rw [hv] at hp
          have hp : some (ndrop σ 12 e) = some σ1 := hp
          cases hp
          obtain ⟨g1, g2, g3⟩ := nhv_lt hv
          have hw := c_heavy S2 hot nbut_m1
          rw [c, hv] at hw
          have hw' : fX3_heaviest (zsI h q 3 (nI (ρ 1 + 1))) q (nI 4294967295) = some (nI e, zsI h q 3 (nI (ρ 1 + 1))) := hw
          obtain ⟨h3, d1, d2, d3⟩ := c_dropEntry (e := e) S2 hn (by omega) (by omega)
          rw [c] at d2
          obtain ⟨h4, r1, r2, r3⟩ := c_makeRoom d2 hn o1 nbut_m1 (by omega) hm
          obtain ⟨h14, h18, ⟨x, x1, x2⟩, y1, y2, y3, y4, y5, y6⟩ := c_atail (f := f) (b := b) r2 hn (by omega) hf
          refine ⟨h18, ?_, y5, ((F2.tr d3).tr r3).tr y6⟩
          have fu := c_full S2 (by omega)
          have fu4 := c_full r2 (by omega)
          have n12 : ¬ σ2 0 = 12 := by omega
          unfold fX3_addEntry
          simp (disch := first | assumption | (simp only [sI_kd, sP_kd, rw_kd, sI_ln, sP_ln, rw_ln] <;> first | assumption | omega) | omega) only [nl, nI_add, pk_mul, Option.bind_some, zb2_some, nI_le_t, nI_le_f, nI_lt_t, nI_lt_f, nI_eq_t, nI_eq_f, nI_m1, nI_em1, ↓reduceIte, Nat.add_zero, hS.kd, hS.tm, p3, fu, c, hw', d1, r1, fu4, n12, r2.1.es, r2.cn, r2.tm, x1, x2, y1, y2, y3, pk_sub, Nat.add_sub_cancel, y4]
      · rw [if_neg c] at hp
        cases hp
        obtain ⟨h4, r1, r2, r3⟩ := c_makeRoom S2 hn hot nbut_m1 (by omega) hm
        obtain ⟨h14, h18, ⟨x, x1, x2⟩, y1, y2, y3, y4, y5, y6⟩ := c_atail (f := f) (b := b) r2 hn (by omega) hf
        refine ⟨h18, ?_, y5, (F2.tr r3).tr y6⟩
        have fu := c_full S2 (by omega)
        have fu4 := c_full r2 (by omega)
        have n12 : ¬ σ2 0 = 12 := by omega
        unfold fX3_addEntry
        simp (disch := first | assumption | (simp only [sI_kd, sP_kd, rw_kd, sI_ln, sP_ln, rw_ln] <;> first | assumption | omega) | omega) only [nl, nI_add, pk_mul, Option.bind_some, zb2_some, nI_le_t, nI_le_f, nI_lt_t, nI_lt_f, nI_eq_t, nI_eq_f, nI_m1, nI_em1, ↓reduceIte, Nat.add_zero, hS.kd, hS.tm, p3, fu, c, r1, fu4, n12, r2.1.es, r2.cn, r2.tm, x1, x2, y1, y2, y3, pk_sub, Nat.add_sub_cancel, y4]
end CACT
