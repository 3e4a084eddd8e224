/-! pure: the component searches the way -/
section CWAY
variable {tg : Bool} {h : zH} {w bd fw x e p nf nc np : Nat} {fr tt gr lo ac li ρ : zN'} {cm : Nat → Nat → Nat}
/-- what a search holds: the rank by eights, the formats in the way's cells -/
def so (cm : Nat → Nat → Nat) (nf : Nat) (kd : Nat → Nat) (s : Nat × Nat × Nat) : Prop := s.1 ≤ fINF ∧ (s.1 < fINF → s.2.1 < nf ∧ s.2.2 < nf ∧ s.1 = fD 16 cm nf s.2.1 s.2.2 ∧ kd s.2.1 ≠ 0)
def c8 (cm : Nat → Nat → Nat) (nf : Nat) (s : Nat × Nat × Nat) : Nat := if s.1 < fINF then fD 8 cm nf s.2.1 s.2.2 else fINF
def SW (g : zH) (fw : Nat) (s : Nat × Nat × Nat) : Prop := s.1 < fINF → zI g fw 1 = nI s.2.1 ∧ zI g fw 2 = nI s.2.2
theorem ord8 {a b : Nat} {s : Nat × Nat × Nat} {kd : Nat → Nat} (hc : cok cm nf) (ha : a < nf) (hs : so cm nf kd s) : fD 8 cm nf a b < c8 cm nf s ↔ fD 16 cm nf a b < s.1 := by
  obtain ⟨hn, he, hm⟩ := hc
  have bo := fD_both hn he hm (a := a) (b := b) ha
  unfold c8
  by_cases q : s.1 < fINF
  · rw [if_pos q]
    obtain ⟨q1, q2, q3, -⟩ := hs.2 q
    have bs := fD_both hn he hm (a := s.2.1) (b := s.2.2) q1
    obtain ⟨C', m', e1', e2', e3', -⟩ := bs.2 (by omega)
    constructor
    · intro z
      have r8 : fD 8 cm nf a b < fINF := by
        have := bs.1.mp (by omega)
        omega
      obtain ⟨C, m, e1, e2, e3, -⟩ := bo.2 (bo.1.mpr r8)
      omega
    · intro z
      obtain ⟨C, m, e1, e2, e3, -⟩ := bo.2 (by omega)
      omega
  · rw [if_neg q]
    have := hs.1
    rw [← bo.1]
    omega
theorem c8_le {s : Nat × Nat × Nat} (hc : cok cm nf) : c8 cm nf s ≤ fINF := by
  unfold c8
  split
  · exact fD_le8 hc _ _
  · exact Nat.le_refl _
theorem so_wst {a b : Nat} {sz : Nat → Nat → Nat} {acc lim : Nat} {kd : Nat → Nat} {s : Nat × Nat × Nat} (ha : a < nf) (hb : b < nf) (hs : so cm nf kd s) : so cm nf kd (wst (fD 16 cm nf) sz acc kd lim b a s) := by
  unfold wst
  by_cases q : acc / 2 ^ b % 2 = 1 ∧ kd a ≠ 0 ∧ fD 16 cm nf a b < s.1 ∧ sz a b ≤ lim
  · rw [if_pos q]
    have := hs.1
    exact ⟨by show fD 16 cm nf a b ≤ fINF; omega, fun _ => ⟨ha, hb, rfl, q.2.1⟩⟩
  · rw [if_neg q]; exact hs
theorem sr_19 {b : Nat} {k : zH → Int32 → Int32 → Option (Int32 × zH)} (hP : PF h w nf nc fr tt cm) (hB : BR h bd nf nc np fr tt gr lo ac li) (hO : bOK nf nc np fr tt gr lo ac li) (hc : cok cm nf) (hf : cfr fr tt nc cm) (hsx : ESh h x) (hrx : ER tg h x ρ e) (ho : eok ρ e) (hp : p < np) (hb : b < nf) (hw : zkd h fw = 6) (d1 : w + 37 ≤ fw ∨ fw < w) (d2 : bd + 9 ≤ fw ∨ fw < bd) (d3 : x + 3 ≤ fw ∨ fw < x) {s : Nat × Nat × Nat} : ∀ d a n g, a + d = nf → d < n → FrI fw (fw + 1) h g → so cm nf (fun a => ρ (24 + 28 * e + 16 + a)) (nwi (fD 16 cm nf) (fun a b => psize fr tt gr nc cm nf a b (ρ (24 + 28 * e + a))) (ac p) (fun a => ρ (24 + 28 * e + 16 + a)) (li p) b s a) → SW g fw (nwi (fD 16 cm nf) (fun a b => psize fr tt gr nc cm nf a b (ρ (24 + 28 * e + a))) (ac p) (fun a => ρ (24 + 28 * e + 16 + a)) (li p) b s a) →
    ∃ g', fX5_search_L19 k fw x (nI p) bd w (nI b) n g (nI (c8 cm nf (nwi (fD 16 cm nf) (fun a b => psize fr tt gr nc cm nf a b (ρ (24 + 28 * e + a))) (ac p) (fun a => ρ (24 + 28 * e + 16 + a)) (li p) b s a))) (nI a) = k g' (nI (c8 cm nf (nwi (fD 16 cm nf) (fun a b => psize fr tt gr nc cm nf a b (ρ (24 + 28 * e + a))) (ac p) (fun a => ρ (24 + 28 * e + 16 + a)) (li p) b s nf))) (nI nf) ∧ FrI fw (fw + 1) h g' ∧ so cm nf (fun a => ρ (24 + 28 * e + 16 + a)) (nwi (fD 16 cm nf) (fun a b => psize fr tt gr nc cm nf a b (ρ (24 + 28 * e + a))) (ac p) (fun a => ρ (24 + 28 * e + 16 + a)) (li p) b s nf) ∧ SW g' fw (nwi (fD 16 cm nf) (fun a b => psize fr tt gr nc cm nf a b (ρ (24 + 28 * e + a))) (ac p) (fun a => ρ (24 + 28 * e + 16 + a)) (li p) b s nf) := by
  have hn := hc.1
  have n6 := hO.2.2.1
  have pb := hO.2.2.2.2 p hp
  have fi : fINF = 1000000 := rfl
  intro d
  induction d with
  | zero =>
    intro a n g hd hn' F S W
    obtain ⟨n, rfl⟩ := fuel1 hn'
    have e8 : a = nf := by omega
    subst e8
    have B := BR_fr F.fr (by omega) hB
    refine ⟨g, ?_, F, S, W⟩
    rw [fX5_search_L19]
    simp (disch := first | assumption | (simp only [sI_kd, sP_kd, rw_kd, sI_ln, sP_ln, rw_ln] <;> first | assumption | omega) | omega) only [nl, nI_add, pk_mul, Option.bind_some, zb2_some, nI_le_t, nI_le_f, nI_lt_t, nI_lt_f, nI_eq_t, nI_eq_f, nI_m1, nI_em1, ↓reduceIte, Nat.add_zero, B.gnf]
  | succ d ih =>
    intro a n g hd hn' F S W
    obtain ⟨n, rfl⟩ := fuel1 hn'
    have B := BR_fr F.fr (by omega) hB
    have P := PF_fr F.fr (by omega) hn hP
    have sx := ESh_fr F.1 F.2.1 (by rw [F.2.2.2.1]) hsx
    have rx := ER_fr (fun a h1 h2 => F.2.2.2.2 a (by omega)) hrx
    have bt := bit_at _ pb.1 b (by omega)
    have st : nwi (fD 16 cm nf) (fun a b => psize fr tt gr nc cm nf a b (ρ (24 + 28 * e + a))) (ac p) (fun a => ρ (24 + 28 * e + 16 + a)) (li p) b s (a + 1) = wst (fD 16 cm nf) (fun a b => psize fr tt gr nc cm nf a b (ρ (24 + 28 * e + a))) (ac p) (fun a => ρ (24 + 28 * e + 16 + a)) (li p) b a (nwi (fD 16 cm nf) (fun a b => psize fr tt gr nc cm nf a b (ρ (24 + 28 * e + a))) (ac p) (fun a => ρ (24 + 28 * e + 16 + a)) (li p) b s a) := rfl
    have IH := ih (a + 1) n
    rw [st] at IH
    have S' := so_wst (a := a) (b := b) (sz := fun a b => psize fr tt gr nc cm nf a b (ρ (24 + 28 * e + a))) (acc := ac p) (lim := li p) (by omega) hb S
    generalize nwi (fD 16 cm nf) (fun a b => psize fr tt gr nc cm nf a b (ρ (24 + 28 * e + a))) (ac p) (fun a => ρ (24 + 28 * e + 16 + a)) (li p) b s a = u at *
    have og := ord8 (a := a) (b := b) hc (by omega) S
    have cl := c8_le (s := u) hc
    have l8 := fD_le8 hc a b
    have skip : ∀ (hno : ¬ (ac p / 2 ^ b % 2 = 1 ∧ ρ (24 + 28 * e + 16 + a) ≠ 0 ∧ fD 16 cm nf a b < u.1 ∧ psize fr tt gr nc cm nf a b (ρ (24 + 28 * e + a)) ≤ li p)), wst (fD 16 cm nf) (fun a b => psize fr tt gr nc cm nf a b (ρ (24 + 28 * e + a))) (ac p) (fun a => ρ (24 + 28 * e + 16 + a)) (li p) b a u = u := fun hno => if_neg hno
    rw [fX5_search_L19]
    by_cases c1 : ac p / 2 ^ b % 2 = 1
    · rw [c1] at bt
      have hh := c_holds sx rx (f := a) (by omega)
      by_cases c2 : ρ (24 + 28 * e + 16 + a) = 0
      · rw [if_pos c2] at hh
        rw [skip (fun z => z.2.1 c2)] at IH S'
        obtain ⟨g', i1, i2⟩ := IH g (by omega) (by omega) F S W
        refine ⟨g', ?_, i2⟩
        simp (disch := first | assumption | (simp only [sI_kd, sP_kd, rw_kd, sI_ln, sP_ln, rw_ln] <;> first | assumption | omega) | omega) only [nl, nI_add, pk_mul, Option.bind_some, zb2_some, nI_le_t, nI_le_f, nI_lt_t, nI_lt_f, nI_eq_t, nI_eq_f, nI_m1, nI_em1, ↓reduceIte, Nat.add_zero, B.gnf, B.1.p5, B.gac n6, bt, hh]
        exact i1
      · rw [if_neg c2] at hh
        have rk := f_rank P hn (a := a) (b := b) (by omega) hb
        by_cases c3 : fD 16 cm nf a b < u.1
        · have c3' := og.mpr c3
          have rch : fD 16 cm nf a b < fINF := by have := S.1; omega
          have bz := (ho.1 a (by omega)).2.1
          have rd := c_rd sx rx (f := a) (by omega) c2
          have pp : zgP g 1 x 0 = some (x + 1) := gP_ sx.1 sx.2.1 (by omega)
          have fs := f_size P B hO hc hf (a := a) (b := b) (v := ρ (24 + 28 * e + a)) (by omega) hb bz
          rw [if_pos rch] at fs
          have pl : psize fr tt gr nc cm nf a b (ρ (24 + 28 * e + a)) ≤ 99999 := psi_le _ _ _ bz
          by_cases c4 : psize fr tt gr nc cm nf a b (ρ (24 + 28 * e + a)) ≤ li p
          · have ne : wst (fD 16 cm nf) (fun a b => psize fr tt gr nc cm nf a b (ρ (24 + 28 * e + a))) (ac p) (fun a => ρ (24 + 28 * e + 16 + a)) (li p) b a u = (fD 16 cm nf a b, a, b) := if_pos ⟨c1, c2, c3, c4⟩
            rw [ne] at IH S'
            have c8e : c8 cm nf (fD 16 cm nf a b, a, b) = fD 8 cm nf a b := if_pos rch
            rw [c8e] at IH
            have kg : zkd g fw = 6 := by rw [F.1]; exact hw
            have p1 : zpI g 5 fw 1 (nI a) = some (zsI g fw 1 (nI a)) := pI_ kg
            have p2 : zpI (zsI g fw 1 (nI a)) 5 fw 2 (nI b) = some (zsI (zsI g fw 1 (nI a)) fw 2 (nI b)) := pI_ kg
            obtain ⟨g', i1, i2⟩ := IH (zsI (zsI g fw 1 (nI a)) fw 2 (nI b)) (by omega) (by omega) ((F.tr (FrI.sI (by omega) (by omega))).tr (FrI.sI (by omega) (by omega))) S' (fun _ => ⟨by rw [sI_k (by omega), sI_at], by rw [sI_at]⟩)
            refine ⟨g', ?_, i2⟩
            simp (disch := first | assumption | (simp only [sI_kd, sP_kd, rw_kd, sI_ln, sP_ln, rw_ln] <;> first | assumption | omega) | omega) only [nl, nI_add, pk_mul, Option.bind_some, zb2_some, nI_le_t, nI_le_f, nI_lt_t, nI_lt_f, nI_eq_t, nI_eq_f, nI_m1, nI_em1, ↓reduceIte, Nat.add_zero, B.gnf, B.1.p5, B.gac n6, bt, hh, rk, pp, rd, fs, B.1.p6, B.gli n6, p1, p2]
            exact i1
          · rw [skip (fun z => c4 z.2.2.2)] at IH S'
            obtain ⟨g', i1, i2⟩ := IH g (by omega) (by omega) F S W
            refine ⟨g', ?_, i2⟩
            simp (disch := first | assumption | (simp only [sI_kd, sP_kd, rw_kd, sI_ln, sP_ln, rw_ln] <;> first | assumption | omega) | omega) only [nl, nI_add, pk_mul, Option.bind_some, zb2_some, nI_le_t, nI_le_f, nI_lt_t, nI_lt_f, nI_eq_t, nI_eq_f, nI_m1, nI_em1, ↓reduceIte, Nat.add_zero, B.gnf, B.1.p5, B.gac n6, bt, hh, rk, pp, rd, fs, B.1.p6, B.gli n6]
            exact i1
        · have c3' : ¬ fD 8 cm nf a b < c8 cm nf u := fun z => c3 (og.mp z)
          rw [skip (fun z => c3 z.2.2.1)] at IH S'
          obtain ⟨g', i1, i2⟩ := IH g (by omega) (by omega) F S W
          refine ⟨g', ?_, i2⟩
          simp (disch := first | assumption | (simp only [sI_kd, sP_kd, rw_kd, sI_ln, sP_ln, rw_ln] <;> first | assumption | omega) | omega) only [nl, nI_add, pk_mul, Option.bind_some, zb2_some, nI_le_t, nI_le_f, nI_lt_t, nI_lt_f, nI_eq_t, nI_eq_f, nI_m1, nI_em1, ↓reduceIte, Nat.add_zero, B.gnf, B.1.p5, B.gac n6, bt, hh, rk]
          exact i1
    · have c0 : ac p / 2 ^ b % 2 = 0 := by omega
      rw [c0] at bt
      rw [skip (fun z => c1 z.1)] at IH S'
      obtain ⟨g', i1, i2⟩ := IH g (by omega) (by omega) F S W
      refine ⟨g', ?_, i2⟩
      simp (disch := first | assumption | (simp only [sI_kd, sP_kd, rw_kd, sI_ln, sP_ln, rw_ln] <;> first | assumption | omega) | omega) only [nl, nI_add, pk_mul, Option.bind_some, zb2_some, nI_le_t, nI_le_f, nI_lt_t, nI_lt_f, nI_eq_t, nI_eq_f, nI_m1, nI_em1, ↓reduceIte, Nat.add_zero, B.gnf, B.1.p5, B.gac n6, bt]
      exact i1
theorem sr_7 {k : zH → Int32 → Int32 → Option (Int32 × zH)} (hP : PF h w nf nc fr tt cm) (hB : BR h bd nf nc np fr tt gr lo ac li) (hO : bOK nf nc np fr tt gr lo ac li) (hc : cok cm nf) (hf : cfr fr tt nc cm) (hsx : ESh h x) (hrx : ER tg h x ρ e) (ho : eok ρ e) (hp : p < np) (hw : zkd h fw = 6) (d1 : w + 37 ≤ fw ∨ fw < w) (d2 : bd + 9 ≤ fw ∨ fw < bd) (d3 : x + 3 ≤ fw ∨ fw < x) : ∀ d b n g, b + d = nf → d < n → FrI fw (fw + 1) h g → so cm nf (fun a => ρ (24 + 28 * e + 16 + a)) (nwo (fD 16 cm nf) (fun a b => psize fr tt gr nc cm nf a b (ρ (24 + 28 * e + a))) (ac p) (fun a => ρ (24 + 28 * e + 16 + a)) (li p) nf b) → SW g fw (nwo (fD 16 cm nf) (fun a b => psize fr tt gr nc cm nf a b (ρ (24 + 28 * e + a))) (ac p) (fun a => ρ (24 + 28 * e + 16 + a)) (li p) nf b) →
    ∃ g', fX5_search_L7 k fw x (nI p) bd w n g (nI (c8 cm nf (nwo (fD 16 cm nf) (fun a b => psize fr tt gr nc cm nf a b (ρ (24 + 28 * e + a))) (ac p) (fun a => ρ (24 + 28 * e + 16 + a)) (li p) nf b))) (nI b) = k g' (nI (c8 cm nf (nwo (fD 16 cm nf) (fun a b => psize fr tt gr nc cm nf a b (ρ (24 + 28 * e + a))) (ac p) (fun a => ρ (24 + 28 * e + 16 + a)) (li p) nf nf))) (nI nf) ∧ FrI fw (fw + 1) h g' ∧ so cm nf (fun a => ρ (24 + 28 * e + 16 + a)) (nwo (fD 16 cm nf) (fun a b => psize fr tt gr nc cm nf a b (ρ (24 + 28 * e + a))) (ac p) (fun a => ρ (24 + 28 * e + 16 + a)) (li p) nf nf) ∧ SW g' fw (nwo (fD 16 cm nf) (fun a b => psize fr tt gr nc cm nf a b (ρ (24 + 28 * e + a))) (ac p) (fun a => ρ (24 + 28 * e + 16 + a)) (li p) nf nf) := by
  have hn := hc.1
  intro d
  induction d with
  | zero =>
    intro b n g hd hn' F S W
    obtain ⟨n, rfl⟩ := fuel1 hn'
    have e8 : b = nf := by omega
    subst e8
    have B := BR_fr F.fr (by omega) hB
    refine ⟨g, ?_, F, S, W⟩
    rw [fX5_search_L7]
    simp (disch := first | assumption | (simp only [sI_kd, sP_kd, rw_kd, sI_ln, sP_ln, rw_ln] <;> first | assumption | omega) | omega) only [nl, nI_add, pk_mul, Option.bind_some, zb2_some, nI_le_t, nI_le_f, nI_lt_t, nI_lt_f, nI_eq_t, nI_eq_f, nI_m1, nI_em1, ↓reduceIte, Nat.add_zero, B.gnf]
  | succ d ih =>
    intro b n g hd hn' F S W
    obtain ⟨n, rfl⟩ := fuel1 hn'
    have B := BR_fr F.fr (by omega) hB
    obtain ⟨g1, j1, j2, j3, j4⟩ := sr_19 (k := fun h3 y4 y5 => fX5_search_L7 k fw x (nI p) bd w n h3 y4 (nI (b + 1))) (b := b) (s := nwo (fD 16 cm nf) (fun a b => psize fr tt gr nc cm nf a b (ρ (24 + 28 * e + a))) (ac p) (fun a => ρ (24 + 28 * e + 16 + a)) (li p) nf b) hP hB hO hc hf hsx hrx ho hp (by omega) hw d1 d2 d3 nf 0 zF g (by omega) (by unfold zF; omega) F S W
    obtain ⟨g', i1, i2⟩ := ih (b + 1) n g1 (by omega) (by omega) j2 j3 j4
    refine ⟨g', ?_, i2⟩
    rw [fX5_search_L7]
    simp (disch := first | assumption | (simp only [sI_kd, sP_kd, rw_kd, sI_ln, sP_ln, rw_ln] <;> first | assumption | omega) | omega) only [nl, nI_add, pk_mul, Option.bind_some, zb2_some, nI_le_t, nI_le_f, nI_lt_t, nI_lt_f, nI_eq_t, nI_eq_f, nI_m1, nI_em1, ↓reduceIte, Nat.add_zero, B.gnf]
    exact j1.trans i1
theorem c_search (hP : PF h w nf nc fr tt (rcm fr tt nc ρ)) (hB : BR h bd nf nc np fr tt gr lo ac li) (hO : bOK nf nc np fr tt gr lo ac li) (hr : rcs nc ρ) (hsx : ESh h x) (hrx : ER tg h x ρ e) (ho : eok ρ e) (hp : p < np) (hw : zkd h fw = 6) (d1 : w + 37 ≤ fw ∨ fw < w) (d2 : bd + 9 ≤ fw ∨ fw < bd) (d3 : x + 3 ≤ fw ∨ fw < x) :
    match nway fr tt gr lo ac li nc nf ρ e p with
    | none => ∃ h', fX5_search h fw x (nI p) bd w = some (nI 0, h') ∧ FrI fw (fw + 1) h h'
    | some v => ∃ h', fX5_search h fw x (nI p) bd w = some (nI 1, h') ∧ WR h' fw v ∧ FrI fw (fw + 1) h h' := by
  have hc : cok (rcm fr tt nc ρ) nf := cok_cmt hO.1 (fun c hc => (hr c hc).2)
  have hf : cfr fr tt nc (rcm fr tt nc ρ) := cfr_cmt
  have hn := hc.1
  obtain ⟨K, hK⟩ : ∃ K : zH → Int32 → Int32 → Option (Int32 × zH), K = (fun h1 y2 y3 =>
    if (y2 : Int32) = nI 1000000 then
    some (nI 0, h1)
    else
    (zgI h1 5 fw 1).bind fun w5 =>
    (zgI h1 5 fw 2).bind fun w6 =>
    zb2 (fX2_costOf h1 (w) (w5) (w6)) fun w7 h8 =>
    (zpI h8 5 fw 0 w7).bind fun h9 =>
    (zgI h9 5 fw 1).bind fun w10 =>
    (zgI h9 5 fw 2).bind fun w11 =>
    (zgP h9 1 x 0).bind fun w12 =>
    (zgI h9 5 fw 1).bind fun w13 =>
    (zaI h9 w12 (w13)).bind fun w14 =>
    zb2 (fX2_sizeAtEnd h9 (w) (w10) (w11) (w14) (bd)) fun w15 h16 =>
    (zpI h16 5 fw 3 w15).bind fun h17 =>
    (zgP h17 1 x 1).bind fun w18 =>
    (zgI h17 5 fw 1).bind fun w19 =>
    (zaI h17 w18 (w19)).bind fun w20 =>
    (zgI h17 5 fw 1).bind fun w21 =>
    (zgI h17 5 fw 2).bind fun w22 =>
    zb2 (fX2_lossOf h17 (w) (w21) (w22) (bd)) fun w23 h24 =>
    (zpI h24 5 fw 4 ((w20 : Int32) + w23)).bind fun h25 =>
    some (nI 1, h25)) := ⟨_, rfl⟩
  have su : fX5_search h fw x (nI p) bd w = fX5_search_L7 K fw x (nI p) bd w zF h (nI fINF) (nI 0) := by
    rw [hK]
    unfold fX5_search
    exact if_pos hw
  obtain ⟨g, i1, F, S, W⟩ := sr_7 (k := K) (p := p) hP hB hO hc hf hsx hrx ho hp hw d1 d2 d3 nf 0 zF h (by omega) (by unfold zF; omega) FrI.rf ⟨Nat.le_refl _, fun z => absurd z (Nat.lt_irrefl _)⟩ (fun z => absurd z (Nat.lt_irrefl _))
  have i1' := su.trans i1
  have e0 : nwo (fD 16 (rcm fr tt nc ρ) nf) (fun a b => psize fr tt gr nc (rcm fr tt nc ρ) nf a b (ρ (24 + 28 * e + a))) (ac p) (fun a => ρ (24 + 28 * e + 16 + a)) (li p) nf nf = nws fr tt gr ac li nc nf ρ e p nf := rfl
  rw [e0] at i1' S W
  clear i1
  unfold nway
  generalize nws fr tt gr ac li nc nf ρ e p nf = s at *
  have fi : fINF = 1000000 := rfl
  by_cases c : s.1 < fINF
  · rw [if_pos c]
    obtain ⟨s1, s2, s3, s4⟩ := S.2 c
    obtain ⟨v1, v2⟩ := W c
    have B := BR_fr F.fr (by omega) hB
    have P := PF_fr F.fr (by omega) hn hP
    have rch : fD 16 (rcm fr tt nc ρ) nf s.2.1 s.2.2 < fINF := by omega
    have bo := (fD_both hn hc.2.1 hc.2.2 (a := s.2.1) (b := s.2.2) s1).1.mp rch
    have e8 : c8 (rcm fr tt nc ρ) nf s = fD 8 (rcm fr tt nc ρ) nf s.2.1 s.2.2 := if_pos c
    have ne : ¬ c8 (rcm fr tt nc ρ) nf s = 1000000 := by rw [e8]; omega
    have cl := c8_le (s := s) hc
    have bz := (ho.1 s.2.1 (by omega)).2.1
    have kg : zkd g fw = 6 := by rw [F.1]; exact hw
    have fc := f_cost P hc s1 s2
    rw [if_pos rch, ← s3] at fc
    have a1 : zgI g 5 fw 1 = some (nI s.2.1) := by rw [gI_ kg, v1]
    have a2 : zgI g 5 fw 2 = some (nI s.2.2) := by rw [gI_ kg, v2]
    have a3 : zpI g 5 fw 0 (nI (s.1 / 16)) = some (zsI g fw 0 (nI (s.1 / 16))) := pI_ kg
    have F9 : FrI fw (fw + 1) h (zsI g fw 0 (nI (s.1 / 16))) := F.tr (FrI.sI (by omega) (by omega))
    have b1 : zgI (zsI g fw 0 (nI (s.1 / 16))) 5 fw 1 = some (nI s.2.1) := by rw [gI_ (h := zsI g fw 0 (nI (s.1 / 16))) kg, sI_k (by omega), v1]
    have b2 : zgI (zsI g fw 0 (nI (s.1 / 16))) 5 fw 2 = some (nI s.2.2) := by rw [gI_ (h := zsI g fw 0 (nI (s.1 / 16))) kg, sI_k (by omega), v2]
    have wv1 : zI (zsI g fw 0 (nI (s.1 / 16))) fw 1 = nI s.2.1 := by rw [sI_k (by omega), v1]
    have wv2 : zI (zsI g fw 0 (nI (s.1 / 16))) fw 2 = nI s.2.2 := by rw [sI_k (by omega), v2]
    have wv0 : zI (zsI g fw 0 (nI (s.1 / 16))) fw 0 = nI (s.1 / 16) := sI_at
    generalize zsI g fw 0 (nI (s.1 / 16)) = g9 at *
    have k9 : zkd g9 fw = 6 := by rw [F9.1]; exact hw
    have B9 := BR_fr F9.fr (by omega) hB
    have P9 := PF_fr F9.fr (by omega) hn hP
    have sx9 := ESh_fr F9.1 F9.2.1 (by rw [F9.2.2.2.1]) hsx
    have rx9 := ER_fr (fun a h1 h2 => F9.2.2.2.2 a (by omega)) hrx
    have pp : zgP g9 1 x 0 = some (x + 1) := gP_ sx9.1 sx9.2.1 (by omega)
    have rd := c_rd sx9 rx9 (f := s.2.1) (by omega) s4
    have fs := f_size P9 B9 hO hc hf (a := s.2.1) (b := s.2.2) (v := ρ (24 + 28 * e + s.2.1)) s1 s2 bz
    rw [if_pos rch] at fs
    generalize psize fr tt gr nc (rcm fr tt nc ρ) nf s.2.1 s.2.2 (ρ (24 + 28 * e + s.2.1)) = z3 at *
    have a4 : zpI g9 5 fw 3 (nI z3) = some (zsI g9 fw 3 (nI z3)) := pI_ k9
    have F17 : FrI fw (fw + 1) h (zsI g9 fw 3 (nI z3)) := F9.tr (FrI.sI (by omega) (by omega))
    have c1 : zgI (zsI g9 fw 3 (nI z3)) 5 fw 1 = some (nI s.2.1) := by rw [gI_ (h := zsI g9 fw 3 (nI z3)) k9, sI_k (by omega), wv1]
    have c2 : zgI (zsI g9 fw 3 (nI z3)) 5 fw 2 = some (nI s.2.2) := by rw [gI_ (h := zsI g9 fw 3 (nI z3)) k9, sI_k (by omega), wv2]
    have xv0 : zI (zsI g9 fw 3 (nI z3)) fw 0 = nI (s.1 / 16) := by rw [sI_k (by omega), wv0]
    have xv1 : zI (zsI g9 fw 3 (nI z3)) fw 1 = nI s.2.1 := by rw [sI_k (by omega), wv1]
    have xv2 : zI (zsI g9 fw 3 (nI z3)) fw 2 = nI s.2.2 := by rw [sI_k (by omega), wv2]
    have xv3 : zI (zsI g9 fw 3 (nI z3)) fw 3 = nI z3 := sI_at
    generalize zsI g9 fw 3 (nI z3) = g17 at *
    have k17 : zkd g17 fw = 6 := by rw [F17.1]; exact hw
    have B17 := BR_fr F17.fr (by omega) hB
    have P17 := PF_fr F17.fr (by omega) hn hP
    have sx17 := ESh_fr F17.1 F17.2.1 (by rw [F17.2.2.2.1]) hsx
    have rx17 := ER_fr (fun a h1 h2 => F17.2.2.2.2 a (by omega)) hrx
    have pq : zgP g17 1 x 1 = some (x + 2) := gP_ sx17.1 sx17.2.2.1 (by omega)
    have rl : zaI g17 (x + 2) (nI s.2.1) = some (nI (ρ (24 + 28 * e + 8 + s.2.1))) := by
      obtain ⟨-, -, -, -, -, q1, q2⟩ := sx17
      rw [aI_ q1 (by omega) (by omega), (rx17.2.2.2.2.2.2.1 s.2.1 (by omega) s4).2]
    have fl := f_loss P17 B17 hO hc hf s1 s2
    rw [if_pos rch] at fl
    have a5 : zpI g17 5 fw 4 (nI (ρ (24 + 28 * e + 8 + s.2.1) + ploss fr tt lo nc (rcm fr tt nc ρ) nf s.2.1 s.2.2)) = some (zsI g17 fw 4 (nI (ρ (24 + 28 * e + 8 + s.2.1) + ploss fr tt lo nc (rcm fr tt nc ρ) nf s.2.1 s.2.2))) := pI_ k17
    refine ⟨zsI g17 fw 4 (nI (ρ (24 + 28 * e + 8 + s.2.1) + ploss fr tt lo nc (rcm fr tt nc ρ) nf s.2.1 s.2.2)), ?_, ⟨k17, ?_, ?_, ?_, ?_, ?_⟩, F17.tr (FrI.sI (by omega) (by omega))⟩
    · rw [i1', hK]
      simp (disch := first | assumption | (simp only [sI_kd, sP_kd, rw_kd, sI_ln, sP_ln, rw_ln] <;> first | assumption | omega) | omega) only [nl, nI_add, pk_mul, Option.bind_some, zb2_some, nI_le_t, nI_le_f, nI_lt_t, nI_lt_f, nI_eq_t, nI_eq_f, nI_m1, nI_em1, ↓reduceIte, Nat.add_zero, ne, a1, a2, fc, a3, b1, b2, pp, rd, fs, a4, pq, c1, c2, rl, fl, a5]
    · rw [sI_k (by omega), xv0]
    · rw [sI_k (by omega), xv1]
    · rw [sI_k (by omega), xv2]
    · rw [sI_k (by omega), xv3]
    · rw [sI_at]
  · rw [if_neg c]
    have e8 : c8 (rcm fr tt nc ρ) nf s = fINF := if_neg c
    refine ⟨g, ?_, F⟩
    rw [i1', e8, hK]
    exact if_pos rfl
end CWAY
