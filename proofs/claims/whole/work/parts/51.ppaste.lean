/-! pure: the reference's paste -/
def npq (ρ : zN') (e w : Nat) : zN' := va_up (va_up (va_up (va_up ρ 1 (ρ 1 + 1)) 2 (ρ 2 + w)) (24 + 28 * e + 25) (ρ (24 + 28 * e + 25) + 1)) (24 + 28 * e + 26) (ρ 1 + 1)
def npd (ρ : zN') (e w3 w4 w5 : Nat) : zN' := if ρ (24 + 28 * e + 16 + w3) = 0 then (match nroom w4 e false ρ with | some ρ' => npf ρ' e w3 w4 w5 2 | none => ρ) else ρ
def npaste (ρ : zN') (e : Nat) (w : Nat × Nat × Nat × Nat × Nat) : zN' := nfront (npd (npq ρ e w.1) e w.2.2.1 w.2.2.2.1 w.2.2.2.2) e
section PASTE
variable {h : zH} {I : Nat → Nat → Int32} {m a : Nat} {ρ : zN'}
theorem n_ptail {e : Nat} {u2 u3 : Int32} {σ : zN'} (hT : RefT h m) (hk : zkd h a = 9) (hl : zln h a = 360) (ha : a ≠ m + 17) (hI : I a = nr ρ) (hs : I (m + 17) = nr σ) (he : e < 12) : ((zgP (zw h I) 7 m 26).bind fun w49 => (fX7_copyRow (zw h I) a (nI (24 + 28 * e)) w49 0 28).bind fun h50 => fX7_pasteOn_L168 (fun h51 y52 => (zgP h51 7 m 26).bind fun w53 => (fX7_copyRow h51 w53 0 a 24 28).bind fun h54 => some ((0 : Int32), h54)) m a u2 u3 (nI (24 + 28 * e)) zF h50 (nI (24 + 28 * e) - 1)) = some (0, zw h (zz (zz I (m + 17) (nr (va_cpy ρ σ (24 + 28 * e) 0 28))) a (nr (nfront ρ e)))) := by
  have l17 := rl17 hT
  have k17 := rk17 hT
  have c1 := p_copyRow (h := h) (I := I) (a := a) (b := m + 17) (24 + 28 * e) 0 28 hk k17 (by omega) (by omega) (by omega) (by omega) (Or.inl ha)
  rw [hI, hs, cpy_n] at c1
  rw [rg17 hT, Option.bind_some, show (0 : Int32) = nI 0 from rfl, show (28 : Int32) = nI 28 from rfl, c1, Option.bind_some]
  generalize eJ : zz I (m + 17) (nr (va_cpy ρ σ (24 + 28 * e) 0 28)) = J
  have Ja : J a = nr ρ := by rw [← eJ, zz_ne ha]; exact hI
  have Js : J (m + 17) = nr (va_cpy ρ σ (24 + 28 * e) 0 28) := by rw [← eJ, zz_at]
  have lp := fun k => n_front_L (h := h) (I := J) (m := m) (a := a) (ρ := ρ) (e := e) (u2 := u2) (u3 := u3) (u4 := nI (24 + 28 * e)) hk hl he k (28 * e) zF (by omega) (by unfold zF; omega)
  rw [Nat.sub_self, cpy_zero, ← Ja, zz_self] at lp
  refine Eq.trans (lp _) ?_
  rw [rg17 hT, Option.bind_some]
  have c2 := p_copyRow (h := h) (I := zz J a (nr (va_cpy ρ ρ 24 52 (28 * e)))) (a := m + 17) (b := a) 0 24 28 k17 hk (by omega) (by omega) (by omega) (by omega) (Or.inl (fun q => ha q.symm))
  rw [zz_at, zz_ne (fun q => ha q.symm), Js, cpy_n, zz_zz] at c2
  have fe : va_cpy (va_cpy ρ σ (24 + 28 * e) 0 28) (va_cpy ρ ρ 24 52 (28 * e)) 0 24 28 = nfront ρ e := by
    funext j
    unfold nfront
    by_cases c : 24 ≤ j ∧ j < 24 + 28
    · rw [pk_cpy_in c.1 c.2, pk_cpy_in c.1 c.2, pk_cpy_in (by omega) (by omega)]
      congr 1
      omega
    · rw [pk_cpy_out (f := va_cpy ρ σ (24 + 28 * e) 0 28) (show j < 24 ∨ 24 + 28 ≤ j by omega), pk_cpy_out (sp := 24 + 28 * e) (dp := 24) (show j < 24 ∨ 24 + 28 ≤ j by omega)]
  rw [fe] at c2
  rw [show (24 : Int32) = nI 24 from rfl, c2, Option.bind_some]
theorem nmk_same {b but : Nat} : ∀ n (ρ : zN') ok ρ', nmk b but false n ρ = some (ok, ρ') → ρ' 0 = ρ 0 ∧ ∀ k, k < 28 → ρ' (24 + 28 * but + k) = ρ (24 + 28 * but + k) := by
  intro n
  induction n with
  | zero => intro ρ ok ρ' e; cases e
  | succ n ih =>
    intro ρ ok ρ' e
    unfold nmk at e
    split at e
    · cases e
      exact ⟨rfl, fun _ _ => rfl⟩
    · cases hl : nlg ρ but with
      | none =>
        rw [hl] at e
        cases e
        exact ⟨rfl, fun _ _ => rfl⟩
      | some ef =>
        obtain ⟨e', f'⟩ := ef
        rw [hl] at e
        obtain ⟨g1, g2, g3, -⟩ := nlg_some hl
        obtain ⟨i1, i2⟩ := ih _ _ _ e
        refine ⟨by rw [i1, ndf_at, if_neg (by omega)], fun k hk => ?_⟩
        rw [i2 k hk, ndf_ne (fun q => g3 q.symm) hk g2]
theorem nway_lt {nf nc e p : Nat} {fr tt gr lo ac li : zN'} {w : Nat × Nat × Nat × Nat × Nat} (hn : nf ≤ 8) (ho : eok ρ e) (hw : nway fr tt gr lo ac li nc nf ρ e p = some w) : w.2.1 < nf ∧ w.2.2.1 < nf ∧ w.2.2.2.1 ≤ 99999 ∧ ρ (24 + 28 * e + 16 + w.2.1) ≠ 0 := by
  unfold nway at hw
  split at hw
  · rename_i c
    cases hw
    have so := nwo_ok (D := fD 16 (rcm fr tt nc ρ) nf) (sz := fun a b => psize fr tt gr nc (rcm fr tt nc ρ) nf a b (ρ (24 + 28 * e + a))) (acc := ac p) (kd := fun a => ρ (24 + 28 * e + 16 + a)) (lim := li p) (nf := nf) nf (by omega)
    have wd := wD (D := fD 16 (rcm fr tt nc ρ) nf) (sz := fun a b => psize fr tt gr nc (rcm fr tt nc ρ) nf a b (ρ (24 + 28 * e + a))) (acc := ac p) (kd := fun a => ρ (24 + 28 * e + 16 + a)) (lim := li p) (nf := nf) nf (by omega)
    obtain ⟨a1, a2⟩ := so.2 c
    exact ⟨a1, a2, psi_le _ _ _ (ho.1 _ (Nat.lt_of_lt_of_le a1 hn)).2.1, (wd c).2.1⟩
  · cases hw
theorem n_makeRoom_nz {b but : Nat} {bb : Int32} {et : Bool} {ei : Int32} (hk : zkd h a = 9) (hl : zln h a = 360) (hb : nbut bb but) (hbn : b ≤ 99999) (hei : ei = if et = true then 1 else 0) (hI : I a = nr ρ) (ho : nok ρ) (hz : rz ρ) (hr : nroom b but et ρ = none) : ∃ ρ', fX7_makeRoom (zw h I) a (nI b) bb ei = some (0, zw h (zz I a (nr ρ'))) ∧ rz ρ' := by
  obtain ⟨ok, ρ', e⟩ := nmk_end (b := b) (but := but) (et := et) zF ρ ho (by have := nmu_le ho.1; unfold zF; omega)
  have hz' := rz_mk _ _ _ _ ho hz e
  unfold nroom at hr
  rw [e] at hr
  cases ok with
  | true => cases hr
  | false =>
    refine ⟨ρ', ?_, hz'⟩
    unfold fX7_makeRoom
    exact n_makeRoom_L hk hl hb hbn hei _ zF ρ I false ρ' hI ho e
theorem rz_npq {e w : Nat} (hz : rz ρ) (he : e < 12) : rz (npq ρ e w) := rz_up (rz_up (rz_up (rz_up hz (by omega)) (by omega)) (by omega)) (by omega)
theorem nok_npq {e w : Nat} (ho : nok ρ) (ht : ρ 1 + 1 < 10000) (he : e < ρ 0) : nok (npq ρ e w) := by
  obtain ⟨h0, h1, h2, h3, h4⟩ := ho
  have e1 : npq ρ e w 1 = ρ 1 + 1 := by unfold npq; rw [up_ne (by omega), up_ne (by omega), up_ne (by omega), up_at]
  have en : ∀ j, j ≠ 1 → j ≠ 2 → j ≠ 24 + 28 * e + 25 → j ≠ 24 + 28 * e + 26 → npq ρ e w j = ρ j := fun j a b c d => by unfold npq; rw [up_ne d, up_ne c, up_ne b, up_ne a]
  refine ⟨by rw [en 0 (by omega) (by omega) (by omega) (by omega)]; exact h0, by omega, by rw [en 3 (by omega) (by omega) (by omega) (by omega)]; exact h2, by rw [en 3 (by omega) (by omega) (by omega) (by omega)]; exact h3, fun i hi => ?_⟩
  rw [en 0 (by omega) (by omega) (by omega) (by omega)] at hi
  by_cases c : i = e
  · subst c
    obtain ⟨a1, a2, a3, a4⟩ := h4 i hi
    refine ⟨fun f hf => ?_, ?_, ?_, ?_⟩
    · obtain ⟨b1, b2, b3, b4, b5⟩ := a1 f hf
      rw [en _ (by omega) (by omega) (by omega) (by omega), en _ (by omega) (by omega) (by omega) (by omega), en _ (by omega) (by omega) (by omega) (by omega), e1]
      exact ⟨b1, b2, b3, b4, by omega⟩
    · rw [en _ (by omega) (by omega) (by omega) (by omega)]; exact a2
    · rw [e1]; unfold npq; rw [up_ne (by omega), up_at]; omega
    · rw [e1]; unfold npq; rw [up_at]; omega
  · exact eok_en (i' := i) (by omega) (fun k hk => en _ (by omega) (by omega) (by omega) (by omega)) (h4 i hi)
/-- what a paste of the reference changes -/
def rfp (m q : Nat) (I I' : Nat → Nat → Int32) : Prop := (∀ a, a ≠ m → a ≠ m + 21 → a ≠ m + 22 → a ≠ m + 17 → a ≠ q → I' a = I a) ∧ (∀ k, k < 33 ∨ 37 < k → I' m k = I m k) ∧ (∃ td, I' (m + 21) = nr td) ∧ (∃ dd, I' (m + 22) = nr dd) ∧ ∃ sd, I' (m + 17) = nr sd ∧ rz sd
theorem rfp_of {q : Nat} {I' I2 : Nat → Nat → Int32} {sd : zN'} (hqm : q ≠ m) (hq1 : q ≠ m + 21) (hq2 : q ≠ m + 22) (f : rfr m I I') (h2 : ∀ b, b ≠ m + 17 → b ≠ q → I2 b = I' b) (hs : I2 (m + 17) = nr sd) (hz : rz sd) : rfp m q I I2 := by
  obtain ⟨f1, f2, ⟨td, f3⟩, ⟨dd, f4⟩⟩ := f
  refine ⟨fun b x y z w v => by rw [h2 b w v, f1 b x y z], fun k hk => by rw [h2 m (by omega) (fun q => hqm q.symm)]; exact f2 k hk, ⟨td, by rw [h2 _ (by omega) (fun q => hq1 q.symm)]; exact f3⟩, ⟨dd, by rw [h2 _ (by omega) (fun q => hq2 q.symm)]; exact f4⟩, ⟨sd, hs, hz⟩⟩
theorem n_pasteOn {nf nc np q e p : Nat} {fr tt gr lo ac li ot od os : zN'} (hT : RefT h m) (hB : RBd I m nf nc np fr tt gr lo ac li) (hO : bOK nf nc np fr tt gr lo ac li) (h21 : I (m + 21) = nr ot) (h22 : I (m + 22) = nr od) (h17 : I (m + 17) = nr os) (hzs : rz os) (hz : rz ρ) (hqm : q ≠ m) (hq1 : q ≠ m + 21) (hq2 : q ≠ m + 22) (hq3 : q ≠ m + 17) (hk : zkd h q = 9) (hl : zln h q = 360) (hI : I q = nr ρ) (hr : rcs nc ρ) (ho : nok ρ) (ht : ρ 1 + 1 < 10000) (he : e < ρ 0) (hp : p < np) :
    match nway fr tt gr lo ac li nc nf ρ e p with
    | none => ∃ I', fX7_pasteOn (zw h I) m q (nI e) (nI p) = some (2, zw h I') ∧ rfr m I I'
    | some w => ∃ I', fX7_pasteOn (zw h I) m q (nI e) (nI p) = some (0, zw h I') ∧ rfp m q I I' ∧ I' q = nr (npaste ρ e w) ∧ I' m 34 = nI w.2.2.1 := by
  have hc := ho.1
  have hnp := hO.2.2.1
  have fw := n_findWay hT hB hO h21 h22 hqm hq1 hq2 hk hl hI hr (show e < 12 by omega) (ho.2.2.2.2 e he) hp
  have pl := m_isPlace hT.1 hB.2.2.1 hnp (nI p)
  rw [if_neg (in_no hp (by omega) rfl)] at pl
  have en := p_isEntry (h := h) (I := I) (a := q) (nI e) hk hl hc (by rw [hI]; rfl)
  rw [if_neg (in_no he (by omega) rfl)] at en
  cases hw : nway fr tt gr lo ac li nc nf ρ e p with
  | none =>
    rw [hw] at fw
    obtain ⟨I', f1, f2⟩ := fw
    refine ⟨I', ?_, f2⟩
    unfold fX7_pasteOn
    rw [if_pos (rkd hT), en, zb2_some, if_neg (by decide), pl, zb2_some, if_neg (by decide), f1, zb2_some, if_pos rfl]
  | some w =>
    obtain ⟨w1, w2, w3, w4, w5⟩ := w
    rw [hw] at fw
    obtain ⟨I', f1, f2, f3, f4, f5, f6, f7⟩ := fw
    obtain ⟨l2, l3, l4, l5⟩ := nway_lt hO.1.1 (ho.2.2.2.2 e he) hw
    have hn := hO.1.1
    dsimp only at l2 l3 l4 l5
    have I'q : I' q = nr ρ := by rw [f2.1 q hqm hq1 hq2]; exact hI
    have I's : I' (m + 17) = nr os := by rw [f2.1 _ (by omega) (by omega) (by omega)]; exact h17
    have mid : fX7_pasteOn (zw h I) m q (nI e) (nI p) = if nI (ρ (24 + 28 * e + 16 + w3)) = 0 then
        (zgP (zw h (zz I' q (nr (npq ρ e w1)))) 7 m 26).bind fun w24 =>
        (fX7_copyRow (zw h (zz I' q (nr (npq ρ e w1)))) q 0 w24 0 360).bind fun h25 =>
        (zgP h25 7 m 26).bind fun w26 =>
        (zgI h25 7 m 36).bind fun w27 =>
        zb2 (fX7_makeRoom h25 w26 w27 (nI e) 0) fun w28 h29 =>
        if w28 = 0 then
        (zgP h29 7 m 26).bind fun w31 =>
        (fX7_copyRow h29 q (nI (24 + 28 * e)) w31 0 28).bind fun h32 =>
        fX7_pasteOn_L168 (fun h33 y34 => (zgP h33 7 m 26).bind fun w35 => (fX7_copyRow h33 w35 0 q 24 28).bind fun h36 => some (0, h36)) m q (nI e) (nI p) (nI (24 + 28 * e)) zF h32 (nI (24 + 28 * e) - 1)
        else
        (zgP h29 7 m 26).bind fun w37 =>
        (fX7_copyRow h29 w37 0 q 0 360).bind fun h38 =>
        (zgI h38 7 m 34).bind fun w39 =>
        (zgI h38 7 m 36).bind fun w40 =>
        (zgI h38 7 m 37).bind fun w41 =>
        (fX7_putForm h38 q (nI e) w39 w40 w41 2).bind fun h42 =>
        (zgP h42 7 m 26).bind fun w43 =>
        (fX7_copyRow h42 q (nI (24 + 28 * e)) w43 0 28).bind fun h44 =>
        fX7_pasteOn_L168 (fun h45 y46 => (zgP h45 7 m 26).bind fun w47 => (fX7_copyRow h45 w47 0 q 24 28).bind fun h48 => some (0, h48)) m q (nI e) (nI p) (nI (24 + 28 * e)) zF h44 (nI (24 + 28 * e) - 1)
        else
        (zgP (zw h (zz I' q (nr (npq ρ e w1)))) 7 m 26).bind fun w49 =>
        (fX7_copyRow (zw h (zz I' q (nr (npq ρ e w1)))) q (nI (24 + 28 * e)) w49 0 28).bind fun h50 =>
        fX7_pasteOn_L168 (fun h51 y52 => (zgP h51 7 m 26).bind fun w53 => (fX7_copyRow h51 w53 0 q 24 28).bind fun h54 => some (0, h54)) m q (nI e) (nI p) (nI (24 + 28 * e)) zF h50 (nI (24 + 28 * e) - 1) := by
      unfold fX7_pasteOn
      rw [if_pos (rkd hT), en, zb2_some, if_neg (by decide), pl, zb2_some, if_neg (by decide), f1, zb2_some, if_neg (by decide)]
      unfold npq
      simp (disch := first | assumption | omega) only [nl, nI_add, pk_mul, Option.bind_some, zb2_some, zz_at, zz_zz, zz_ne, nr_at, up_n, zaIw, zbIw, zgIw, zpIw, nI_le_t, nI_le_f, nI_lt_t, nI_lt_f, nI_eq_t, nI_eq_f, ↓reduceIte, zw_kd, zw_ln, zw_P, zw_I, nI_n9, Nat.add_zero, rgI hT, rpI hT, rkd hT, p_at, I'q, up_at, up_ne, f4, f5]
      rfl
    rw [mid]
    have ne := ho.2.2.2.2 e he
    have k3 := (ne.1 w3 (by omega)).1
    have ho1 := nok_npq (w := w1) ho ht he
    have hz1 := rz_npq (w := w1) hz (show e < 12 by omega)
    have kq : npq ρ e w1 (24 + 28 * e + 16 + w3) = ρ (24 + 28 * e + 16 + w3) := by unfold npq; rw [up_ne (by omega), up_ne (by omega), up_ne (by omega), up_ne (by omega)]
    show ∃ I2, _ ∧ rfp m q I I2 ∧ I2 q = nr (nfront (npd (npq ρ e w1) e w3 w4 w5) e) ∧ I2 m 34 = nI w3
    generalize npq ρ e w1 = ρ1 at ho1 hz1 kq ⊢
    unfold npd
    rw [kq]
    have qs : m + 17 ≠ q := fun z => hq3 z.symm
    have qm : m ≠ q := fun z => hqm z.symm
    by_cases c : ρ (24 + 28 * e + 16 + w3) = 0
    · rw [if_pos (show nI (ρ (24 + 28 * e + 16 + w3)) = 0 by rw [c]; rfl), if_pos c]
      have k17 := rk17 hT
      have l17 := rl17 hT
      have c1 := p_copyRow (h := h) (I := zz I' q (nr ρ1)) (a := q) (b := m + 17) 0 0 360 hk k17 (by omega) (by omega) (by omega) (by omega) (Or.inl hq3)
      rw [zz_at, zz_ne qs, I's, cpy_n, cpy_all hz1 hzs] at c1
      have m36 : ∀ r r', zgI (zw h (zz (zz I' q r) (m + 17) r')) 7 m 36 = some (nI w4) := fun r r' => by rw [rgI hT, zz_ne (by omega), zz_ne qm, f6]
      rw [rg17 hT, Option.bind_some, show (0 : Int32) = nI 0 from rfl, show (360 : Int32) = nI 360 from rfl, c1, Option.bind_some, rg17 hT, Option.bind_some, m36, Option.bind_some]
      cases hr' : nroom w4 e false ρ1 with
      | none =>
        obtain ⟨ρ3, e3, z3⟩ := n_makeRoom_nz (h := h) (I := zz (zz I' q (nr ρ1)) (m + 17) (nr ρ1)) (a := m + 17) (b := w4) (but := e) (bb := nI e) (et := false) (ei := nI 0) k17 l17 (nbut_at (by omega)) l4 rfl zz_at ho1 hz1 hr'
        rw [zz_zz] at e3
        rw [e3, zb2_some, if_pos (show (0 : Int32) = nI 0 from rfl)]
        have t := n_ptail (I := zz (zz I' q (nr ρ1)) (m + 17) (nr ρ3)) (ρ := ρ1) (e := e) (u2 := nI e) (u3 := nI p) (σ := ρ3) hT hk hl hq3 (by rw [zz_ne hq3, zz_at]) zz_at (by omega)
        refine ⟨_, t, rfp_of hqm hq1 hq2 f2 (fun b x y => by rw [zz_ne y, zz_ne x, zz_ne x, zz_ne y]) (sd := va_cpy ρ1 ρ3 (24 + 28 * e) 0 28) (by rw [zz_ne qs, zz_at]) (rz_cpy z3 (by omega)), zz_at, ?_⟩
        rw [zz_ne qm, zz_ne (by omega), zz_ne (by omega), zz_ne qm]
        exact f4
      | some ρ3 =>
        have e3 := n_makeRoom_ok (h := h) (I := zz (zz I' q (nr ρ1)) (m + 17) (nr ρ1)) (a := m + 17) (b := w4) (but := e) (bb := nI e) (et := false) (ei := nI 0) k17 l17 (nbut_at (by omega)) l4 rfl zz_at ho1 hr'
        have z3 := rz_room ho1 hz1 hr'
        rw [zz_zz] at e3
        rw [e3, zb2_some, if_neg (by decide), rg17 hT, Option.bind_some]
        have c2 := p_copyRow (h := h) (I := zz (zz I' q (nr ρ1)) (m + 17) (nr ρ3)) (a := m + 17) (b := q) 0 0 360 k17 hk (by omega) (by omega) (by omega) (by omega) (Or.inl qs)
        rw [zz_at, zz_ne hq3, zz_at, cpy_n, cpy_all z3 hz1] at c2
        have K : zz (zz (zz I' q (nr ρ1)) (m + 17) (nr ρ3)) q (nr ρ3) = zz (zz I' (m + 17) (nr ρ3)) q (nr ρ3) := by
          rw [zz_comm I' hq3, zz_zz]
        rw [K] at c2
        have g : ∀ k, zgI (zw h (zz (zz I' (m + 17) (nr ρ3)) q (nr ρ3))) 7 m k = some (I' m k) := fun k => by rw [rgI hT, zz_ne qm, zz_ne (by omega)]
        have pf := n_putForm (I := zz (zz I' (m + 17) (nr ρ3)) q (nr ρ3)) (ρ := ρ3) (e := e) (f := w3) (b := w4) (l := w5) (k := 2) hk hl zz_at (by omega) (by omega)
        rw [zz_zz] at pf
        rw [c2, Option.bind_some, g, Option.bind_some, g, Option.bind_some, g, Option.bind_some, f4, f6, f7, show (2 : Int32) = nI 2 from rfl, pf, Option.bind_some]
        have t := n_ptail (I := zz (zz I' (m + 17) (nr ρ3)) q (nr (npf ρ3 e w3 w4 w5 2))) (ρ := npf ρ3 e w3 w4 w5 2) (e := e) (u2 := nI e) (u3 := nI p) (σ := ρ3) hT hk hl hq3 zz_at (by rw [zz_ne qs, zz_at]) (by omega)
        refine ⟨_, t, rfp_of hqm hq1 hq2 f2 (fun b x y => by rw [zz_ne y, zz_ne x, zz_ne y, zz_ne x]) (sd := va_cpy (npf ρ3 e w3 w4 w5 2) ρ3 (24 + 28 * e) 0 28) (by rw [zz_ne qs, zz_at]) (rz_cpy z3 (by omega)), zz_at, ?_⟩
        rw [zz_ne qm, zz_ne (by omega), zz_ne qm, zz_ne (by omega)]
        exact f4
    · rw [if_neg (show ¬ nI (ρ (24 + 28 * e + 16 + w3)) = 0 from fun z => c ((nI_eq (b := 0) (by omega) (by omega)).mp z)), if_neg c]
      have t := n_ptail (I := zz I' q (nr ρ1)) (ρ := ρ1) (e := e) (u2 := nI e) (u3 := nI p) (σ := os) hT hk hl hq3 zz_at (by rw [zz_ne qs]; exact I's) (by omega)
      refine ⟨_, t, rfp_of hqm hq1 hq2 f2 (fun b x y => by rw [zz_ne y, zz_ne x, zz_ne y]) (sd := va_cpy ρ1 os (24 + 28 * e) 0 28) (by rw [zz_ne qs, zz_at]) (rz_cpy hzs (by omega)), zz_at, ?_⟩
      rw [zz_ne qm, zz_ne (by omega), zz_ne qm]
      exact f4
end PASTE
