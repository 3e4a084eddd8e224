/-! pure: the component reads places and the whole text -/
section CREAD3
variable {h h' g : zH} {x d n s nf : Nat} {T : zN'} {B : zBd}
theorem k_place (hX : CX h x T n s) (ht : txt T n) (hs : s < n) (hB : CBr h d nf B) (hk : bkk nf B) (h1 : 1 ≤ nf) (hd : x + 1 < d ∨ d + 9 ≤ x) :
    itR h x d T n nf (fX4_readPlace h x d) (if bnp B < 6 ∧ T s = 112 then pplace T n nf B (s + 1) else .inl s) := by
  have n8 := hk.1.1
  have kx := hX.1.1
  have cn := k_canP hB hk
  obtain ⟨K, hK⟩ : ∃ K : zH → Int32 → Int32 → Int32 → Option (Int32 × zH), K = (fun h7 y8 y9 y10 => if (y8 : Int32) = 0 then some (0, h7) else zb2 (fX4_readSign h7 x 58) fun w12 h13 => if (w12 : Int32) = 0 then some (0, h13) else zb2 (fX4_readNumber h13 x 5) fun w15 h16 => if (w15 : Int32) = (-1) then some (0, h16) else (fX0_addPlace h16 d y8 w15).bind fun h18 => some (1, h18)) := ⟨_, rfl⟩
  have su : fX4_readPlace h x d = if zkd h x = 5 then zb2 (fX0_canAddPlace h d) fun w1 h2 => if (w1 : Int32) = 0 then some (0, h2) else zb2 (fX4_readSign h2 x 112) fun w4 h5 => if (w4 : Int32) = 0 then some (0, h5) else fX4_readPlace_L25 K x d zF h5 0 0 0 else none := by
    rw [hK]
    rfl
  rw [su]
  by_cases c6 : bnp B < 6
  · rw [if_pos c6] at cn
    have R := k_rsign (c := 112) hX ht (by omega) (by omega)
    by_cases cp : T s = 112
    · have cc : bnp B < 6 ∧ T s = 112 := ⟨c6, cp⟩
      have c1 : s < n ∧ T s = 112 := ⟨hs, cp⟩
      rw [if_pos cc]
      rw [if_pos c1] at R
      have X1 : CX (zsI h x 2 (nI (s + 1))) x T n (s + 1) := hX.sp
      have B1 : CBr (zsI h x 2 (nI (s + 1))) d nf B := CBr_x (by omega) hB
      obtain ⟨y, z, L⟩ := k_set_L (K := K) ht h1 n8 hd 8 0 0 (s + 1) (zsI h x 2 (nI (s + 1))) 0 zF rfl (by decide) (by decide) (by omega) X1 (by omega) B1.1.1 B1.2.1
      rw [sI_sI] at L
      have po := pset_ok (T := T) (n := n) n8 8 0 0 (s + 1) (by omega) (by decide) (by omega)
      have st : (if zkd h x = 5 then zb2 (fX0_canAddPlace h d) fun w1 h2 => if (w1 : Int32) = 0 then some (0, h2) else zb2 (fX4_readSign h2 x 112) fun w4 h5 => if (w4 : Int32) = 0 then some (0, h5) else fX4_readPlace_L25 K x d zF h5 0 0 0 else none) = fX4_readPlace_L25 K x d zF (zsI h x 2 (nI (s + 1))) (nI 0) (nI 0) (nI 0) := by
        simp (disch := first | assumption | (simp only [sI_kd, sP_kd, rw_kd, sI_ln, sP_ln, rw_ln] <;> first | assumption | omega) | omega) only [nl, nI_add, pk_mul, Option.bind_some, zb2_some, nI_le_t, nI_le_f, nI_lt_t, nI_lt_f, nI_eq_t, nI_eq_f, nI_m1, nI_em1, ↓reduceIte, Nat.add_zero, kx, cn, R]
      rw [st, L]
      clear st L
      unfold pplace
      cases hp : pset T n nf 8 0 0 (s + 1) with
      | mk stt q =>
      rw [hp] at po
      dsimp only at po ⊢
      obtain ⟨p0, p8⟩ := pow8 n8
      have Xq : CX (zsI h x 2 (nI q)) x T n q := hX.sp
      have Bq : CBr (zsI h x 2 (nI q)) d nf B := CBr_x (by omega) hB
      have R2 := k_rsign (c := 58) Xq ht (by omega) (by omega)
      rw [hK]
      dsimp only
      by_cases c0 : stt = 0
      · rw [if_pos c0]
        refine ⟨zsI h x 2 (nI q), ?_, sI_at, CTF.sx⟩
        rw [c0]
        exact if_pos rfl
      · rw [if_neg c0]
        by_cases c5 : q < n ∧ T q = 58
        · rw [if_pos c5] at R2 ⊢
          rw [sI_sI] at R2
          have X2 : CX (zsI h x 2 (nI (q + 1))) x T n (q + 1) := hX.sp
          have N := k_number (D := 5) X2 ht (by omega) (by omega)
          rw [sI_sI] at N
          have kn := pnum_ok (T := T) (n := n) (ab := true) 5 0 (q + 1) (by omega)
          cases hpn : pnum T n true 5 0 (q + 1) with
          | mk o p =>
          rw [hpn] at N kn
          dsimp only at kn ⊢
          cases o with
          | none =>
            have N' : fX4_readNumber (zsI h x 2 (nI (q + 1))) x (nI 5) = some (nI 4294967295, zsI h x 2 (nI p)) := N
            refine ⟨zsI h x 2 (nI p), ?_, sI_at, CTF.sx⟩
            simp (disch := first | assumption | (simp only [sI_kd, sP_kd, rw_kd, sI_ln, sP_ln, rw_ln] <;> first | assumption | omega) | omega) only [nl, nI_add, pk_mul, Option.bind_some, zb2_some, nI_le_t, nI_le_f, nI_lt_t, nI_lt_f, nI_eq_t, nI_eq_f, nI_m1, nI_em1, ↓reduceIte, Nat.add_zero, R2, N']
          | some v =>
            obtain ⟨m1, m2, m3⟩ := kn
            obtain ⟨k1, k2, -, -⟩ := m3 v rfl
            have nv := neM (w := v) (by omega)
            have N' : fX4_readNumber (zsI h x 2 (nI (q + 1))) x (nI 5) = some (nI v, zsI h x 2 (nI p)) := N
            obtain ⟨h', e1, e2, e3, e4⟩ := k_addP (st := stt) (v := v) (CBr_x (v := nI p) (x := x) (by omega) hB) hk c6
            refine ⟨h', ?_, ?_, e2, CTF.tr CTF.sx (CTF.ob e3 (by omega)), ?_⟩
            · simp (disch := first | assumption | (simp only [sI_kd, sP_kd, rw_kd, sI_ln, sP_ln, rw_ln] <;> first | assumption | omega) | omega) only [nl, nI_add, pk_mul, Option.bind_some, zb2_some, nI_le_t, nI_le_f, nI_lt_t, nI_lt_f, nI_eq_t, nI_eq_f, nI_m1, nI_em1, ↓reduceIte, Nat.add_zero, R2, N', nv, e1]
            · rw [e3.2.2.2.2 x (by omega), sI_at]
            · rw [e4, sI_a (by omega)]
        · rw [if_neg c5] at R2 ⊢
          refine ⟨zsI h x 2 (nI q), ?_, sI_at, CTF.sx⟩
          simp (disch := first | assumption | (simp only [sI_kd, sP_kd, rw_kd, sI_ln, sP_ln, rw_ln] <;> first | assumption | omega) | omega) only [nl, nI_add, pk_mul, Option.bind_some, zb2_some, nI_le_t, nI_le_f, nI_lt_t, nI_lt_f, nI_eq_t, nI_eq_f, nI_m1, nI_em1, ↓reduceIte, Nat.add_zero, R2]
    · have cc : ¬ (bnp B < 6 ∧ T s = 112) := fun z => cp z.2
      have c1 : ¬ (s < n ∧ T s = 112) := fun z => cp z.2
      rw [if_neg cc]
      rw [if_neg c1] at R
      refine ⟨h, ?_, hX.2.2.1, CTF.rf⟩
      simp (disch := first | assumption | (simp only [sI_kd, sP_kd, rw_kd, sI_ln, sP_ln, rw_ln] <;> first | assumption | omega) | omega) only [nl, nI_add, pk_mul, Option.bind_some, zb2_some, nI_le_t, nI_le_f, nI_lt_t, nI_lt_f, nI_eq_t, nI_eq_f, nI_m1, nI_em1, ↓reduceIte, Nat.add_zero, kx, cn, R]
  · have cc : ¬ (bnp B < 6 ∧ T s = 112) := fun z => c6 z.1
    rw [if_neg cc]
    rw [if_neg c6] at cn
    refine ⟨h, ?_, hX.2.2.1, CTF.rf⟩
    simp (disch := first | assumption | (simp only [sI_kd, sP_kd, rw_kd, sI_ln, sP_ln, rw_ln] <;> first | assumption | omega) | omega) only [nl, nI_add, pk_mul, Option.bind_some, zb2_some, nI_le_t, nI_le_f, nI_lt_t, nI_lt_f, nI_eq_t, nI_eq_f, nI_m1, nI_em1, ↓reduceIte, Nat.add_zero, kx, cn]
theorem k_item (hX : CX h x T n s) (ht : txt T n) (hs : s < n) (hB : CBr h d nf B) (hk : bkk nf B) (h1 : 1 ≤ nf) (hd : x + 1 < d ∨ d + 9 ≤ x) :
    itR h x d T n nf (if T s = 99 then fX4_readConversion h x d else fX4_readPlace h x d) (pitem T n nf B s) := by
  unfold pitem
  by_cases c : T s = 99
  · rw [if_pos c, if_pos c]
    exact k_conv hX ht hs c hB hk h1 hd
  · rw [if_neg c, if_neg c]
    exact k_place hX ht hs hB hk h1 hd
def kK (x : Nat) : zH → Int32 → Int32 → Option (Int32 × zH) := fun h4 y5 y6 => if (y5 : Int32) = 0 then (zgI h4 4 x 2).bind fun w8 => some (w8, h4) else some ((-9), h4)
theorem k_items (ht : txt T n) (h1 : 1 ≤ nf) (hd : x + 1 < d ∨ d + 9 ≤ x) : ∀ k B s h i fu, bkk nf B → CX h x T n s → CBr h d nf B → s ≤ n → i + (n - s) ≤ 160 → 160 < i + fu →
    match pitems T n nf k B s with
    | none => True
    | some (.inl p) => ∃ h', fX4_readInto_L13 (kK x) x d fu h (nI 1) (nI i) = some (nI p, h') ∧ CTF x d h h'
    | some (.inr B') => ∃ h', fX4_readInto_L13 (kK x) x d fu h (nI 1) (nI i) = some (nI 4294967287, h') ∧ CBr h' d nf B' ∧ CTF x d h h' ∧ zI h' d 11 = zI h d 11 := by
  intro k
  induction k with
  | zero => intro B s h i fu _ _ _ _ _ _; exact trivial
  | succ k ih =>
    intro B s h i fu hk hX hB hs hi hf
    obtain ⟨fu, rfl⟩ : ∃ m, fu = m + 1 := ⟨fu - 1, by omega⟩
    have n8 := hk.1.1
    have kx := hX.1.1
    have x1 := hX.2.1
    have x2 := hX.2.2.1
    have t1 := ht.1
    have g1 : zgI h 4 x 1 = some (nI n) := by rw [gI_ kx, x1]
    have g2 : zgI h 4 x 2 = some (nI s) := by rw [gI_ kx, x2]
    have e : pitems T n nf (k + 1) B s = if s < n then (match pitem T n nf B s with
      | .inl p => some (.inl p)
      | .inr (B', s') => pitems T n nf k B' s') else some (.inr B) := rfl
    have fin : ∀ b, kK x h (nI 1) b = some (nI 4294967287, h) := fun b => if_neg (by decide)
    rw [e, fX4_readInto_L13]
    by_cases c : s < n
    · rw [if_pos c]
      have S := k_sign hX ht hs
      rw [if_pos c] at S
      have tb := ht.2 s c
      have R := k_item hX ht c hB hk h1 hd
      obtain ⟨w, h2, eR⟩ : ∃ w h2, (if T s = 99 then fX4_readConversion h x d else fX4_readPlace h x d) = some (w, h2) := by
        cases hp : pitem T n nf B s with
        | inl p => rw [hp] at R; obtain ⟨h', r1, -⟩ := R; exact ⟨_, _, r1⟩
        | inr u => obtain ⟨B', s'⟩ := u; rw [hp] at R; obtain ⟨h', r1, -⟩ := R; exact ⟨_, _, r1⟩
      have step : (if (160 : Int32) ≤ nI i then kK x h (nI 1) (nI i) else if (nI 1 : Int32) = 0 then kK x h (nI 1) (nI i) else (zgI h 4 x 2).bind fun w3 => (zgI h 4 x 1).bind fun w4 => if (w4 : Int32) ≤ w3 then kK x h (nI 1) (nI i) else zb2 (fX4_shownSign h x) fun w6 h7 => if (w6 : Int32) = 99 then zb2 (fX4_readConversion h7 x d) fun w9 h10 => fX4_readInto_L13 (kK x) x d fu h10 w9 (nI i + 1) else zb2 (fX4_readPlace h7 x d) fun w11 h12 => fX4_readInto_L13 (kK x) x d fu h12 w11 (nI i + 1)) = fX4_readInto_L13 (kK x) x d fu h2 w (nI (i + 1)) := by
        by_cases q : T s = 99
        · rw [if_pos q] at eR
          simp (disch := first | assumption | (simp only [sI_kd, sP_kd, rw_kd, sI_ln, sP_ln, rw_ln] <;> first | assumption | omega) | omega) only [nl, nI_add, pk_mul, Option.bind_some, zb2_some, nI_le_t, nI_le_f, nI_lt_t, nI_lt_f, nI_eq_t, nI_eq_f, nI_m1, nI_em1, ↓reduceIte, Nat.add_zero, g1, g2, S, q, eR]
        · rw [if_neg q] at eR
          simp (disch := first | assumption | (simp only [sI_kd, sP_kd, rw_kd, sI_ln, sP_ln, rw_ln] <;> first | assumption | omega) | omega) only [nl, nI_add, pk_mul, Option.bind_some, zb2_some, nI_le_t, nI_le_f, nI_lt_t, nI_lt_f, nI_eq_t, nI_eq_f, nI_m1, nI_em1, ↓reduceIte, Nat.add_zero, g1, g2, S, eR]
      rw [step]
      rw [eR] at R
      cases hp : pitem T n nf B s with
      | inl p =>
        rw [hp] at R
        obtain ⟨h', r1, r2, r3⟩ := R
        cases r1
        have kx' : zkd h2 x = 5 := by rw [r3.1]; exact kx
        have gp : zgI h2 4 x 2 = some (nI p) := by rw [gI_ kx', r2]
        have kk : ∀ b, kK x h2 (nI 0) b = some (nI p, h2) := fun b => by
          unfold kK
          simp (disch := first | assumption | (simp only [sI_kd, sP_kd, rw_kd, sI_ln, sP_ln, rw_ln] <;> first | assumption | omega) | omega) only [nl, nI_add, pk_mul, Option.bind_some, zb2_some, nI_le_t, nI_le_f, nI_lt_t, nI_lt_f, nI_eq_t, nI_eq_f, nI_m1, nI_em1, ↓reduceIte, Nat.add_zero, gp]
        refine ⟨h2, ?_, r3⟩
        obtain ⟨fu, rfl⟩ : ∃ m, fu = m + 1 := ⟨fu - 1, by omega⟩
        rw [fX4_readInto_L13]
        by_cases q : 160 ≤ i + 1
        · simp (disch := first | assumption | (simp only [sI_kd, sP_kd, rw_kd, sI_ln, sP_ln, rw_ln] <;> first | assumption | omega) | omega) only [nl, nI_add, pk_mul, Option.bind_some, zb2_some, nI_le_t, nI_le_f, nI_lt_t, nI_lt_f, nI_eq_t, nI_eq_f, nI_m1, nI_em1, ↓reduceIte, Nat.add_zero, kk]
        · simp (disch := first | assumption | (simp only [sI_kd, sP_kd, rw_kd, sI_ln, sP_ln, rw_ln] <;> first | assumption | omega) | omega) only [nl, nI_add, pk_mul, Option.bind_some, zb2_some, nI_le_t, nI_le_f, nI_lt_t, nI_lt_f, nI_eq_t, nI_eq_f, nI_m1, nI_em1, ↓reduceIte, Nat.add_zero, kk]
      | inr u =>
        obtain ⟨B', s'⟩ := u
        rw [hp] at R
        obtain ⟨h', r1, r2, r3, r4, r5⟩ := R
        cases r1
        obtain ⟨k1, k2, k3⟩ := pitem_ok n8 c hk hp
        have I := ih B' s' h2 (i + 1) fu k1 (hX.f r4 hd r2) r3 k3 (by omega) (by omega)
        dsimp only
        cases hq : pitems T n nf k B' s' with
        | none => trivial
        | some v =>
          rw [hq] at I
          cases v with
          | inl p =>
            obtain ⟨h3, j1, j2⟩ := I
            exact ⟨h3, j1, r4.tr j2⟩
          | inr B2 =>
            obtain ⟨h3, j1, j2, j3, j4⟩ := I
            exact ⟨h3, j1, j2, r4.tr j3, j4.trans r5⟩
    · rw [if_neg c]
      refine ⟨h, ?_, hB, CTF.rf, rfl⟩
      by_cases q : 160 ≤ i
      · simp (disch := first | assumption | (simp only [sI_kd, sP_kd, rw_kd, sI_ln, sP_ln, rw_ln] <;> first | assumption | omega) | omega) only [nl, nI_add, pk_mul, Option.bind_some, zb2_some, nI_le_t, nI_le_f, nI_lt_t, nI_lt_f, nI_eq_t, nI_eq_f, nI_m1, nI_em1, ↓reduceIte, Nat.add_zero, fin]
      · simp (disch := first | assumption | (simp only [sI_kd, sP_kd, rw_kd, sI_ln, sP_ln, rw_ln] <;> first | assumption | omega) | omega) only [nl, nI_add, pk_mul, Option.bind_some, zb2_some, nI_le_t, nI_le_f, nI_lt_t, nI_lt_f, nI_eq_t, nI_eq_f, nI_m1, nI_em1, ↓reduceIte, Nat.add_zero, g1, g2, fin]
theorem k_text {s0 : Nat} (hX : CX h x T n s0) (ht : txt T n) (hS : BSh h d) (hd : x + 1 < d ∨ d + 9 ≤ x) :
    match ptext T n with
    | .inl p => ∃ h', fX4_readInto h x d = some (nI p, h') ∧ CTF x d h h'
    | .inr (f, bu, B) => ∃ h', fX4_readInto h x d = some (nI 4294967287, h') ∧ CBr h' d f B ∧ zI h' d 11 = nI bu ∧ CTF x d h h' := by
  have kx := hX.1.1
  have t1 := ht.1
  have X0 : CX (zsI h x 2 (nI 0)) x T n 0 := hX.sp
  have hS0 : BSh (zsI h x 2 (nI 0)) d := hS.w
  have F0 : CTF x d h (zsI h x 2 (nI 0)) := CTF.sx
  have px : zpI h 4 x 2 (nI 0) = some (zsI h x 2 (nI 0)) := pI_ kx
  have su : fX4_readInto h x d = zb2 (fX4_readHead (zsI h x 2 (nI 0)) x d) fun w2 h3 => fX4_readInto_L13 (kK x) x d zF h3 w2 (nI 0) := by
    unfold fX4_readInto
    rw [if_pos kx, show (0 : Int32) = nI 0 from rfl, px, Option.bind_some]
    rfl
  rw [su]
  have R := k_rsign (c := 75) X0 ht (by omega) (by omega)
  have kx0 : zkd (zsI h x 2 (nI 0)) x = 5 := X0.1.1
  have fail : ∀ p g, fX4_readHead (zsI h x 2 (nI 0)) x d = some (nI 0, g) → zkd g x = 5 → zI g x 2 = nI p → (zb2 (fX4_readHead (zsI h x 2 (nI 0)) x d) fun w2 h3 => fX4_readInto_L13 (kK x) x d zF h3 w2 (nI 0)) = some (nI p, g) := fun p g e1 e2 e3 => by
    have gp : zgI g 4 x 2 = some (nI p) := by rw [gI_ e2, e3]
    have kk : ∀ b, kK x g (nI 0) b = some (nI p, g) := fun b => by
      unfold kK
      simp (disch := first | assumption | (simp only [sI_kd, sP_kd, rw_kd, sI_ln, sP_ln, rw_ln] <;> first | assumption | omega) | omega) only [nl, nI_add, pk_mul, Option.bind_some, zb2_some, nI_le_t, nI_le_f, nI_lt_t, nI_lt_f, nI_eq_t, nI_eq_f, nI_m1, nI_em1, ↓reduceIte, Nat.add_zero, gp]
    rw [e1, zb2_some, show zF = 9999 + 1 from rfl, fX4_readInto_L13]
    simp (disch := first | assumption | (simp only [sI_kd, sP_kd, rw_kd, sI_ln, sP_ln, rw_ln] <;> first | assumption | omega) | omega) only [nl, nI_add, pk_mul, Option.bind_some, zb2_some, nI_le_t, nI_le_f, nI_lt_t, nI_lt_f, nI_eq_t, nI_eq_f, nI_m1, nI_em1, ↓reduceIte, Nat.add_zero, kk]
  by_cases c : 0 < n ∧ T 0 = 75
  · rw [if_pos c] at R
    have R' : fX4_readSign (zsI h x 2 (nI 0)) x (nI 75) = some (nI 1, zsI h x 2 (nI 1)) := by
      rw [R, sI_sI]
    have X1 : CX (zsI h x 2 (nI 1)) x T n 1 := hX.sp
    have kx1 : zkd (zsI h x 2 (nI 1)) x = 5 := X1.1.1
    have D := k_rdigit (lo := 1) (hi := 8) X1 ht (by omega) (by omega) (by omega)
    cases hdg : dg T n 1 with
    | none =>
      have pv : ptext T n = Sum.inl 1 := by
        unfold ptext
        rw [if_pos c, hdg]
      rw [pv]
      rw [hdg] at D
      have D' : fX4_readDigit (zsI h x 2 (nI 1)) x (nI 1) (nI 8) = some (nI 4294967295, zsI h x 2 (nI 1)) := D
      refine ⟨zsI h x 2 (nI 1), fail 1 _ ?_ kx1 sI_at, CTF.sx⟩
      unfold fX4_readHead
      simp (disch := first | assumption | (simp only [sI_kd, sP_kd, rw_kd, sI_ln, sP_ln, rw_ln] <;> first | assumption | omega) | omega) only [nl, nI_add, pk_mul, Option.bind_some, zb2_some, nI_le_t, nI_le_f, nI_lt_t, nI_lt_f, nI_eq_t, nI_eq_f, nI_m1, nI_em1, ↓reduceIte, Nat.add_zero, kx0, R', D']
    | some f =>
      obtain ⟨d1, d2, d3, d4, d5⟩ := dg_some hdg
      rw [hdg] at D
      dsimp only at D
      by_cases cf : 1 ≤ f ∧ f ≤ 8
      · rw [if_pos cf, sI_sI] at D
        have ny := neM (w := f) (by omega)
        have X2 : CX (zsI h x 2 (nI 2)) x T n 2 := hX.sp
        have N := k_number (D := 5) X2 ht (by omega) (by omega)
        rw [sI_sI] at N
        have kn := pnum_ok (T := T) (n := n) (ab := true) 5 0 2 (by omega)
        have D' : fX4_readDigit (zsI h x 2 (nI 1)) x (nI 1) (nI 8) = some (nI f, zsI h x 2 (nI 2)) := D
        cases hp : pnum T n true 5 0 2 with
        | mk o p =>
        rw [hp] at N kn
        dsimp only at kn
        obtain ⟨m1, m2, m3⟩ := kn
        have Xp : CX (zsI h x 2 (nI p)) x T n p := hX.sp
        cases o with
        | none =>
          have pv : ptext T n = Sum.inl p := by
            unfold ptext
            rw [if_pos c, hdg]
            dsimp only
            rw [if_pos cf, hp]
          rw [pv]
          have N' : fX4_readNumber (zsI h x 2 (nI 2)) x (nI 5) = some (nI 4294967295, zsI h x 2 (nI p)) := N
          refine ⟨zsI h x 2 (nI p), fail p _ ?_ Xp.1.1 sI_at, CTF.sx⟩
          unfold fX4_readHead
          simp (disch := first | assumption | (simp only [sI_kd, sP_kd, rw_kd, sI_ln, sP_ln, rw_ln] <;> first | assumption | omega) | omega) only [nl, nI_add, pk_mul, Option.bind_some, zb2_some, nI_le_t, nI_le_f, nI_lt_t, nI_lt_f, nI_eq_t, nI_eq_f, nI_m1, nI_em1, ↓reduceIte, Nat.add_zero, kx0, R', D', ny, N']
        | some bu =>
          obtain ⟨k1, k2, -, -⟩ := m3 bu rfl
          have nv := neM (w := bu) (by omega)
          have N' : fX4_readNumber (zsI h x 2 (nI 2)) x (nI 5) = some (nI bu, zsI h x 2 (nI p)) := N
          obtain ⟨g, b1, b2, b3, b4⟩ := k_begin (f := f) (bu := bu) (hS.w : BSh (zsI h x 2 (nI p)) d) cf.1 cf.2
          have Fg : CTF x d h g := CTF.tr CTF.sx (CTF.ob b4 (by omega))
          have Xg : CX g x T n p := hX.f Fg hd (by rw [b4.2.2.2.2 x (by omega), sI_at])
          have hh : fX4_readHead (zsI h x 2 (nI 0)) x d = some (nI 1, g) := by
            unfold fX4_readHead
            simp (disch := first | assumption | (simp only [sI_kd, sP_kd, rw_kd, sI_ln, sP_ln, rw_ln] <;> first | assumption | omega) | omega) only [nl, nI_add, pk_mul, Option.bind_some, zb2_some, nI_le_t, nI_le_f, nI_lt_t, nI_lt_f, nI_eq_t, nI_eq_f, nI_m1, nI_em1, ↓reduceIte, Nat.add_zero, kx0, R', D', ny, N', nv, b1]
          have I := k_items (x := x) (d := d) ht cf.1 hd pfu bz p g 0 zF (bkk_bz cf.2) Xg b2 m2 (by omega) (by unfold zF; omega)
          obtain ⟨r, hr, -⟩ := pitems_ok (T := T) (n := n) cf.2 pfu bz p m2 (by unfold pfu; omega) (bkk_bz cf.2)
          rw [hh, zb2_some]
          rw [hr] at I
          cases r with
          | inl q =>
            have pv : ptext T n = Sum.inl q := by
              unfold ptext
              rw [if_pos c, hdg]
              dsimp only
              rw [if_pos cf, hp]
              dsimp only
              rw [hr]
            rw [pv]
            obtain ⟨h2, j1, j2⟩ := I
            exact ⟨h2, j1, Fg.tr j2⟩
          | inr B' =>
            have pv : ptext T n = Sum.inr (f, bu, B') := by
              unfold ptext
              rw [if_pos c, hdg]
              dsimp only
              rw [if_pos cf, hp]
              dsimp only
              rw [hr]
            rw [pv]
            obtain ⟨h2, j1, j2, j3, j4⟩ := I
            exact ⟨h2, j1, j2, j4.trans b3, Fg.tr j3⟩
      · rw [if_neg cf] at D
        have pv : ptext T n = Sum.inl 1 := by
          unfold ptext
          rw [if_pos c, hdg]
          dsimp only
          rw [if_neg cf]
        rw [pv]
        have D' : fX4_readDigit (zsI h x 2 (nI 1)) x (nI 1) (nI 8) = some (nI 4294967295, zsI h x 2 (nI 1)) := D
        refine ⟨zsI h x 2 (nI 1), fail 1 _ ?_ kx1 sI_at, CTF.sx⟩
        unfold fX4_readHead
        simp (disch := first | assumption | (simp only [sI_kd, sP_kd, rw_kd, sI_ln, sP_ln, rw_ln] <;> first | assumption | omega) | omega) only [nl, nI_add, pk_mul, Option.bind_some, zb2_some, nI_le_t, nI_le_f, nI_lt_t, nI_lt_f, nI_eq_t, nI_eq_f, nI_m1, nI_em1, ↓reduceIte, Nat.add_zero, kx0, R', D']
  · rw [if_neg c] at R
    have pv : ptext T n = Sum.inl 0 := by
      unfold ptext
      rw [if_neg c]
    rw [pv]
    refine ⟨zsI h x 2 (nI 0), fail 0 _ ?_ kx0 sI_at, CTF.sx⟩
    unfold fX4_readHead
    simp (disch := first | assumption | (simp only [sI_kd, sP_kd, rw_kd, sI_ln, sP_ln, rw_ln] <;> first | assumption | omega) | omega) only [nl, nI_add, pk_mul, Option.bind_some, zb2_some, nI_le_t, nI_le_f, nI_lt_t, nI_lt_f, nI_eq_t, nI_eq_f, nI_m1, nI_em1, ↓reduceIte, Nat.add_zero, kx0, R]
end CREAD3
