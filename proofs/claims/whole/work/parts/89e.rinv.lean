/-! pure: the whole state; the reference holds it -/
abbrev zSt : Type := (zN' × Nat) × (Nat × Nat × Nat × zN' × zN' × zN' × zN' × zN' × zN') × zN' × Nat × (Nat → zN') × (Nat → Bool) × (Nat → zN')
def aT (A : zSt) : zN' := A.1.1
def an (A : zSt) : Nat := A.1.2
def anf (A : zSt) : Nat := A.2.1.1
def anc (A : zSt) : Nat := A.2.1.2.1
def anp (A : zSt) : Nat := A.2.1.2.2.1
def afr (A : zSt) : zN' := A.2.1.2.2.2.1
def att (A : zSt) : zN' := A.2.1.2.2.2.2.1
def agr (A : zSt) : zN' := A.2.1.2.2.2.2.2.1
def alo (A : zSt) : zN' := A.2.1.2.2.2.2.2.2.1
def aac (A : zSt) : zN' := A.2.1.2.2.2.2.2.2.2.1
def ali (A : zSt) : zN' := A.2.1.2.2.2.2.2.2.2.2
def aρ (A : zSt) : zN' := A.2.2.1
def anh (A : zSt) : Nat := A.2.2.2.1
def aH (A : zSt) : Nat → zN' := A.2.2.2.2.1
def afl (A : zSt) : Nat → Bool := A.2.2.2.2.2.1
def aK (A : zSt) : Nat → zN' := A.2.2.2.2.2.2
def arok (A : zSt) (t : Nat) (ρ : zN') : Prop := rok (anf A) (anc A) ρ ∧ ρ 1 ≤ t
/-- what every state keeps to, behind t calls -/
def AI (t : Nat) (A : zSt) : Prop := txt (aT A) (an A) ∧ bOK (anf A) (anc A) (anp A) (afr A) (att A) (agr A) (alo A) (aac A) (ali A) ∧ arok A t (aρ A) ∧ anh A ≤ 14 ∧ (∀ i, i < anh A → arok A t (aH A i)) ∧ ∀ k, k < 2 → afl A k = true → arok A t (aK A k)
def Scr (h : zH) (m : Nat) : Prop := (∃ τ, zI h (m + 16) = nr τ ∧ rz τ) ∧ (∃ τ, zI h (m + 17) = nr τ ∧ rz τ) ∧ (∃ τ, zI h (m + 23) = nr τ ∧ rz τ) ∧ (∃ τ, zI h (m + 21) = nr τ) ∧ ∃ τ, zI h (m + 22) = nr τ
def RI (h : zH) (m : Nat) (A : zSt) : Prop := RefT h m ∧ (zI h m 2 = nI (an A) ∧ ∀ i, i < an A → zI h (m + 1) i = nI (aT A i)) ∧ RBd (zI h) m (anf A) (anc A) (anp A) (afr A) (att A) (agr A) (alo A) (aac A) (ali A) ∧ zI h (m + 15) = nr (aρ A) ∧ zI h m 28 = nI (anh A) ∧ (∀ i, i < anh A → ∀ j, j < 360 → zI h (m + 18) (360 * i + j) = nI (aH A i j)) ∧ (∀ k, k < 2 → zI h (m + 20) k = nI (if afl A k = true then 1 else 0)) ∧ (∀ k, k < 2 → afl A k = true → ∀ j, j < 360 → zI h (m + 19) (360 * k + j) = nI (aK A k j)) ∧ Scr h m
def ntg (ρ : zN') : Nat → zN'
  | 0 => ρ
  | k + 1 => va_up (ntg ρ k) (24 + 28 * k + 27) k
theorem ntg_o {ρ : zN'} {j : Nat} : ∀ k, (∀ e, e < k → j ≠ 24 + 28 * e + 27) → ntg ρ k j = ρ j := by
  intro k
  induction k with
  | zero => intro _; rfl
  | succ k ih =>
    intro hj
    show va_up (ntg ρ k) (24 + 28 * k + 27) k j = ρ j
    rw [up_b (hj k (by omega)), ih (fun e he => hj e (by omega))]
theorem ntg_t {ρ : zN'} {e : Nat} : ∀ k, e < k → ntg ρ k (24 + 28 * e + 27) = e := by
  intro k
  induction k with
  | zero => intro h; omega
  | succ k ih =>
    intro he
    show va_up (ntg ρ k) (24 + 28 * k + 27) k (24 + 28 * e + 27) = e
    by_cases c : e = k
    · rw [c, up_at]
    · rw [up_b (by omega), ih (by omega)]
theorem ntg_k {ρ : zN'} {k e f : Nat} (hf : f < 27) : ntg ρ k (24 + 28 * e + f) = ρ (24 + 28 * e + f) := ntg_o k (fun i _ => by omega)
theorem ntg_h {ρ : zN'} {k j : Nat} (hj : j < 24) : ntg ρ k j = ρ j := ntg_o k (fun i _ => by omega)
theorem rok_ntg {nf nc k : Nat} {ρ : zN'} (ho : rok nf nc ρ) (hn : nc ≤ 20) (hk : k ≤ 12) : rok nf nc (ntg ρ k) := by
  obtain ⟨⟨n0, n1, n2, n3, n4⟩, o2, o3, o4⟩ := ho
  refine ⟨?_, fun j hj => ?_, rcs_hd o3 hn (fun j _ h2 => ntg_h h2), fun e f he hf hnf => ?_⟩
  · unfold nok
    rw [ntg_h (by omega), ntg_h (by omega), ntg_h (by omega)]
    refine ⟨n0, n1, n2, n3, fun e he => ?_⟩
    obtain ⟨a1, a2, a3, a4⟩ := n4 e he
    refine ⟨fun f hf => ?_, ?_, ?_, ?_⟩
    · rw [Nat.add_assoc (24 + 28 * e) 16 f, Nat.add_assoc (24 + 28 * e) 8 f, ntg_k (by omega), ntg_k (by omega), ntg_k (by omega), ntg_h (by omega), ← Nat.add_assoc, ← Nat.add_assoc]
      exact a1 f hf
    · rw [ntg_k (by omega)]; exact a2
    · rw [ntg_k (by omega), ntg_h (by omega)]; exact a3
    · rw [ntg_k (by omega), ntg_h (by omega)]; exact a4
  · rw [ntg_o k (fun i hi => by omega)]; exact o2 j hj
  · rw [ntg_h (by omega)] at he
    rw [Nat.add_assoc (24 + 28 * e), ntg_k (by omega), ← Nat.add_assoc]
    exact o4 e f he hf hnf
section RINV
variable {h h' : zH} {m : Nat} {A : zSt}
theorem RI_keep (hR : RI h m A) (k : zkd h' = zkd h) (l : zln h' = zln h) (p : zP h' m = zP h m) (ha : ∀ a, (m + 1 ≤ a ∧ a ≤ m + 7) ∨ a = m + 15 ∨ (m + 18 ≤ a ∧ a ≤ m + 20) → zI h' a = zI h a) (hm : ∀ k, k = 2 ∨ k = 4 ∨ k = 5 ∨ k = 6 ∨ k = 28 → zI h' m k = zI h m k) (sc : Scr h' m) : RI h' m A := by
  obtain ⟨r1, ⟨r2, r3⟩, r4, r5, r6, r7, r8, r9, -⟩ := hR
  refine ⟨RefT.fI k l p r1, ⟨by rw [hm 2 (by omega)]; exact r2, fun i hi => by rw [ha _ (by omega)]; exact r3 i hi⟩, ?_, by rw [ha _ (by omega)]; exact r5, by rw [hm 28 (by omega)]; exact r6, fun i hi j hj => by rw [ha _ (by omega)]; exact r7 i hi j hj, fun k hk => by rw [ha _ (by omega)]; exact r8 k hk, fun k hk f j hj => by rw [ha _ (by omega)]; exact r9 k hk f j hj, sc⟩
  unfold RBd
  rw [hm 4 (by omega), hm 5 (by omega), hm 6 (by omega), ha (m + 2) (by omega), ha (m + 3) (by omega), ha (m + 4) (by omega), ha (m + 5) (by omega), ha (m + 6) (by omega), ha (m + 7) (by omega)]
  exact r4
theorem q_copyRow {a b : Nat} (sp dp n : Nat) (hka : zkd h a = 9) (hkb : zkd h b = 9) (hla : sp + n ≤ zln h a) (hlb : dp + n ≤ zln h b) (hba : zln h a < 10000) (hbb : zln h b < 10000) (hab : a ≠ b ∨ dp ≤ sp) : fX7_copyRow h a (nI sp) b (nI dp) (nI n) = some (zrow h b (va_cpy (zI h a) (zI h b) sp dp n)) := p_copyRow (h := h) (I := zI h) sp dp n hka hkb hla hlb hba hbb hab
theorem cpy_row {f g : zN'} (hf : rz f) (hg : rz g) : va_cpy (nr f) (nr g) 0 0 360 = nr f := by
  rw [cpy_n, cpy_all hf hg]
theorem row_row {a : Nat} {r r' : Nat → Int32} : zrow (zrow h a r) a r' = zrow h a r' := by
  have e : zz (zz (zI h) a r) a r' = zz (zI h) a r' := zz_zz _ _ _ _
  show (zkd h, zln h, zz (zz (zI h) a r) a r', zJ h, zP h, zn h) = _
  rw [e]; rfl
theorem sI_row {a k : Nat} {r : Nat → Int32} {v : Int32} : zsI (zrow h a r) a k v = zrow h a (va_up r k v) := by
  have e : zu (zz (zI h) a r) a k v = zz (zI h) a (va_up r k v) := by rw [zu_row, zz_zz, zz_at]
  show (zkd h, zln h, zu (zz (zI h) a r) a k v, zJ h, zP h, zn h) = _
  rw [e]; rfl
theorem RefT.r {a : Nat} {r : Nat → Int32} (hT : RefT h m) : RefT (zrow h a r) m := hT
theorem r_tryNow (hR : RI h m A) (ho : rok (anf A) (anc A) (aρ A)) : fX7_tryNow h m = some (zrow h (m + 16) (nr (ntg (aρ A) (aρ A 0)))) := by
  obtain ⟨hT, -, -, r5, -, -, -, -, ⟨τ, s1, s2⟩, -⟩ := id hR
  have hc := ho.1.1
  have hz := ho.2.1
  have cp : fX7_copyRow h (m + 15) (nI 0) (m + 16) (nI 0) (nI 360) = some (zrow h (m + 16) (nr (aρ A))) := by
    rw [q_copyRow 0 0 360 (rk15 hT) (rk16 hT) (by rw [rl15 hT]; omega) (by rw [rl16 hT]; omega) (by rw [rl15 hT]; omega) (by rw [rl16 hT]; omega) (Or.inl (by omega)), r5, s1, cpy_row hz s2]
  have key : ∀ d e n, e + d = aρ A 0 → d < n → fX7_tryNow_L18 (fun h4 y5 => some h4) m n (zrow h (m + 16) (nr (ntg (aρ A) e))) (nI e) = some (zrow h (m + 16) (nr (ntg (aρ A) (aρ A 0)))) := by
    intro d
    induction d with
    | zero =>
      intro e n he hn
      obtain ⟨n, rfl⟩ := fuel1 hn
      have e8 : e = aρ A 0 := by omega
      have hT' := hT.r (a := m + 16) (r := nr (ntg (aρ A) e))
      have r0 : zaI (zrow h (m + 16) (nr (ntg (aρ A) e))) (m + 16) (nI 0) = some (nI (aρ A 0)) := by
        rw [qa16 hT' (by omega), rw_at]
        show some (nI (ntg (aρ A) e 0)) = _
        rw [ntg_h (by omega)]
      rw [fX7_tryNow_L18, ← e8]
      rw [← e8] at r0
      simp (disch := first | assumption | ((repeat apply RefT.s) <;> assumption) | omega) only [nl, nI_add, pk_mul, Option.bind_some, zb2_some, nI_le_t, nI_le_f, nI_lt_t, nI_lt_f, nI_eq_t, nI_eq_f, nI_m1, nI_em1, ↓reduceIte, Nat.add_zero, nI_n9, qg16, r0]
    | succ d ih =>
      intro e n he hn
      obtain ⟨n, rfl⟩ := fuel1 hn
      have hT' := hT.r (a := m + 16) (r := nr (ntg (aρ A) e))
      have r0 : zaI (zrow h (m + 16) (nr (ntg (aρ A) e))) (m + 16) (nI 0) = some (nI (aρ A 0)) := by
        rw [qa16 hT' (by omega), rw_at]
        show some (nI (ntg (aρ A) e 0)) = _
        rw [ntg_h (by omega)]
      have wr : zbI (zrow h (m + 16) (nr (ntg (aρ A) e))) (m + 16) (nI (24 + 28 * e + 27)) (nI e) = some (zrow h (m + 16) (nr (ntg (aρ A) (e + 1)))) := by
        rw [qb16 hT' (by omega), sI_row, up_n]
        rfl
      rw [fX7_tryNow_L18]
      simp (disch := first | assumption | ((repeat apply RefT.s) <;> assumption) | omega) only [nl, nI_add, pk_mul, Option.bind_some, zb2_some, nI_le_t, nI_le_f, nI_lt_t, nI_lt_f, nI_eq_t, nI_eq_f, nI_m1, nI_em1, ↓reduceIte, Nat.add_zero, nI_n9, qg16, r0, p_at, wr]
      exact ih (e + 1) n (by omega) (by omega)
  have k0 := key (aρ A 0) 0 zF (by omega) (by unfold zF; omega)
  rw [show ntg (aρ A) 0 = aρ A from rfl] at k0
  unfold fX7_tryNow
  simp (disch := first | assumption | ((repeat apply RefT.s) <;> assumption) | omega) only [nl, nI_add, pk_mul, Option.bind_some, zb2_some, nI_le_t, nI_le_f, nI_lt_t, nI_lt_f, nI_eq_t, nI_eq_f, nI_m1, nI_em1, ↓reduceIte, Nat.add_zero, nI_n9, hT.1, qg15, qg16, cp]
  exact k0
theorem RI_try {τ : zN'} (hR : RI h m A) (hz : rz τ) : RI (zrow h (m + 16) (nr τ)) m A := by
  obtain ⟨-, -, -, -, -, -, -, -, s1, s2, s3, s4, s5⟩ := id hR
  refine RI_keep hR rfl rfl rfl (fun a ha => rw_a (by omega)) (fun k _ => by rw [rw_a (by omega)]) ⟨⟨τ, rw_at, hz⟩, ?_, ?_, ?_, ?_⟩
  · rw [rw_a (by omega)]; exact s2
  · rw [rw_a (by omega)]; exact s3
  · rw [rw_a (by omega)]; exact s4
  · rw [rw_a (by omega)]; exact s5
/-- what is remembered -/
def hpush (nh : Nat) (H : Nat → zN') (ρ : zN') : Nat × (Nat → zN') := if nh = 14 then (14, fun i => if i < 13 then H (i + 1) else ρ) else (nh + 1, fun i => if i = nh then ρ else H i)
def anote (A : zSt) : zSt := (A.1, A.2.1, A.2.2.1, (hpush (anh A) (aH A) (aρ A)).1, (hpush (anh A) (aH A) (aρ A)).2, A.2.2.2.2.2)
def aput (A : zSt) (ρ : zN') : zSt := (A.1, A.2.1, ρ, A.2.2.2)
theorem r_note (hR : RI h m A) (hh : anh A ≤ 14) : ∃ h', fX7_note h m = some h' ∧ RI h' m (anote A) ∧ Fr m (m + 24) h h' ∧ zI h' (m + 16) = zI h (m + 16) ∧ (∀ k, k ≠ 28 → zI h' m k = zI h m k) := by
  obtain ⟨hT, ⟨r2, r3⟩, r4, r5, r6, r7, r8, r9, s1, s2, s3, s4, s5⟩ := id hR
  by_cases c : anh A = 14
  · have cp1 : fX7_copyRow h (m + 18) (nI 360) (m + 18) (nI 0) (nI 4680) = some (zrow h (m + 18) (va_cpy (zI h (m + 18)) (zI h (m + 18)) 360 0 4680)) := q_copyRow 360 0 4680 (rk18 hT) (rk18 hT) (by rw [rl18 hT]; omega) (by rw [rl18 hT]; omega) (by rw [rl18 hT]; omega) (by rw [rl18 hT]; omega) (Or.inr (by omega))
    have hT1 := hT.r (a := m + 18) (r := va_cpy (zI h (m + 18)) (zI h (m + 18)) 360 0 4680)
    have hT2 := hT1.s (a := m) (k := 28) (v := nI 13)
    have i28 : zI (zrow h (m + 18) (va_cpy (zI h (m + 18)) (zI h (m + 18)) 360 0 4680)) m 28 = nI 14 := by rw [rw_a (by omega), r6, c]
    have cp2 : fX7_copyRow (zsI (zrow h (m + 18) (va_cpy (zI h (m + 18)) (zI h (m + 18)) 360 0 4680)) m 28 (nI 13)) (m + 15) (nI 0) (m + 18) (nI 4680) (nI 360) = some (zrow (zsI (zrow h (m + 18) (va_cpy (zI h (m + 18)) (zI h (m + 18)) 360 0 4680)) m 28 (nI 13)) (m + 18) (va_cpy (nr (aρ A)) (va_cpy (zI h (m + 18)) (zI h (m + 18)) 360 0 4680) 0 4680 360)) := by
      rw [q_copyRow 0 4680 360 (rk15 hT2) (rk18 hT2) (by rw [rl15 hT2]; omega) (by rw [rl18 hT2]; omega) (by rw [rl15 hT2]; omega) (by rw [rl18 hT2]; omega) (Or.inl (by omega)), sI_a (by omega), sI_a (by omega), rw_a (by omega), rw_at, r5]
    have j28 : zI (zsI (zrow h (m + 18) (va_cpy (zI h (m + 18)) (zI h (m + 18)) 360 0 4680)) m 28 (nI 13)) m 28 = nI 13 := sI_at
    generalize hg : zrow h (m + 18) (va_cpy (zI h (m + 18)) (zI h (m + 18)) 360 0 4680) = g1 at *
    have hT3 := hT2.r (a := m + 18) (r := va_cpy (nr (aρ A)) (va_cpy (zI h (m + 18)) (zI h (m + 18)) 360 0 4680) 0 4680 360)
    have k28 : zI (zrow (zsI g1 m 28 (nI 13)) (m + 18) (va_cpy (nr (aρ A)) (va_cpy (zI h (m + 18)) (zI h (m + 18)) 360 0 4680) 0 4680 360)) m 28 = nI 13 := by rw [rw_a (by omega)]; exact j28
    have o : ∀ a, a ≠ m → a ≠ m + 18 → zI (zsI (zrow (zsI g1 m 28 (nI 13)) (m + 18) (va_cpy (nr (aρ A)) (va_cpy (zI h (m + 18)) (zI h (m + 18)) 360 0 4680) 0 4680 360)) m 28 (nI 14)) a = zI h a := fun a h1 h2 => by
      rw [sI_a h1, rw_a h2, sI_a h1, ← hg, rw_a h2]
    have om : ∀ k, k ≠ 28 → zI (zsI (zrow (zsI g1 m 28 (nI 13)) (m + 18) (va_cpy (nr (aρ A)) (va_cpy (zI h (m + 18)) (zI h (m + 18)) 360 0 4680) 0 4680 360)) m 28 (nI 14)) m k = zI h m k := fun k h1 => by
      rw [sI_k h1, rw_a (by omega), sI_k h1, ← hg, rw_a (by omega)]
    have nn : anh (anote A) = 14 := by show (hpush (anh A) (aH A) (aρ A)).1 = 14; unfold hpush; rw [if_pos c]
    have nH : ∀ i, aH (anote A) i = if i < 13 then aH A (i + 1) else aρ A := fun i => by show (hpush (anh A) (aH A) (aρ A)).2 i = _; unfold hpush; rw [if_pos c]
    refine ⟨zsI (zrow (zsI g1 m 28 (nI 13)) (m + 18) (va_cpy (nr (aρ A)) (va_cpy (zI h (m + 18)) (zI h (m + 18)) 360 0 4680) 0 4680 360)) m 28 (nI 14), ?_, ?_, ⟨by subst hg; rfl, by subst hg; rfl, by subst hg; rfl, fun a ha => ⟨o a (by omega) (by omega), by subst hg; rfl⟩⟩, o _ (by omega) (by omega), om⟩
    · unfold fX7_note
      simp (disch := first | assumption | ((repeat apply RefT.s) <;> assumption) | omega) only [nl, nI_add, pk_mul, Option.bind_some, zb2_some, nI_le_t, nI_le_f, nI_lt_t, nI_lt_f, nI_eq_t, nI_eq_f, nI_m1, nI_em1, ↓reduceIte, Nat.add_zero, nI_n9, hT.1, qI, r6, c, qg18, cp1, i28, pk_sub, qp, qg15, sgP, j28, cp2, k28]
    · refine ⟨hT3.s, ⟨by rw [om 2 (by omega)]; exact r2, fun i hi => by rw [o _ (by omega) (by omega)]; exact r3 i hi⟩, ?_, by rw [o _ (by omega) (by omega)]; exact r5, by rw [sI_at, nn], fun i hi j hj => ?_, fun k hk => by rw [o _ (by omega) (by omega)]; exact r8 k hk, fun k hk f j hj => by rw [o _ (by omega) (by omega)]; exact r9 k hk f j hj, ?_⟩
      · unfold RBd
        rw [om 4 (by omega), om 5 (by omega), om 6 (by omega), o (m + 2) (by omega) (by omega), o (m + 3) (by omega) (by omega), o (m + 4) (by omega) (by omega), o (m + 5) (by omega) (by omega), o (m + 6) (by omega) (by omega), o (m + 7) (by omega) (by omega)]
        exact r4
      · rw [nn] at hi
        rw [sI_a (by omega), rw_at, nH i]
        by_cases q : i < 13
        · rw [if_pos q, pk_cpy_out (by omega), pk_cpy_in (by omega) (by omega), ← r7 (i + 1) (by omega) j hj]
          congr 1; omega
        · rw [if_neg q, pk_cpy_in (by omega) (by omega), show 0 + (360 * i + j - 4680) = j by omega]
          rfl
      · unfold Scr
        rw [o _ (by omega) (by omega), o _ (by omega) (by omega), o _ (by omega) (by omega), o _ (by omega) (by omega), o _ (by omega) (by omega)]
        exact ⟨s1, s2, s3, s4, s5⟩
  · have cp : fX7_copyRow h (m + 15) (nI 0) (m + 18) (nI (360 * anh A)) (nI 360) = some (zrow h (m + 18) (va_cpy (nr (aρ A)) (zI h (m + 18)) 0 (360 * anh A) 360)) := by
      rw [q_copyRow 0 (360 * anh A) 360 (rk15 hT) (rk18 hT) (by rw [rl15 hT]; omega) (by rw [rl18 hT]; omega) (by rw [rl15 hT]; omega) (by rw [rl18 hT]; omega) (Or.inl (by omega)), r5]
    have hT1 := hT.r (a := m + 18) (r := va_cpy (nr (aρ A)) (zI h (m + 18)) 0 (360 * anh A) 360)
    have i28 : zI (zrow h (m + 18) (va_cpy (nr (aρ A)) (zI h (m + 18)) 0 (360 * anh A) 360)) m 28 = nI (anh A) := by rw [rw_a (by omega), r6]
    have o : ∀ a, a ≠ m → a ≠ m + 18 → zI (zsI (zrow h (m + 18) (va_cpy (nr (aρ A)) (zI h (m + 18)) 0 (360 * anh A) 360)) m 28 (nI (anh A + 1))) a = zI h a := fun a h1 h2 => by rw [sI_a h1, rw_a h2]
    have om : ∀ k, k ≠ 28 → zI (zsI (zrow h (m + 18) (va_cpy (nr (aρ A)) (zI h (m + 18)) 0 (360 * anh A) 360)) m 28 (nI (anh A + 1))) m k = zI h m k := fun k h1 => by rw [sI_k h1, rw_a (by omega)]
    have nn : anh (anote A) = anh A + 1 := by show (hpush (anh A) (aH A) (aρ A)).1 = _; unfold hpush; rw [if_neg c]
    have nH : ∀ i, aH (anote A) i = if i = anh A then aρ A else aH A i := fun i => by show (hpush (anh A) (aH A) (aρ A)).2 i = _; unfold hpush; rw [if_neg c]
    refine ⟨zsI (zrow h (m + 18) (va_cpy (nr (aρ A)) (zI h (m + 18)) 0 (360 * anh A) 360)) m 28 (nI (anh A + 1)), ?_, ?_, ⟨rfl, rfl, rfl, fun a ha => ⟨o a (by omega) (by omega), rfl⟩⟩, o _ (by omega) (by omega), om⟩
    · unfold fX7_note
      simp (disch := first | assumption | ((repeat apply RefT.s) <;> assumption) | omega) only [nl, nI_add, pk_mul, Option.bind_some, zb2_some, nI_le_t, nI_le_f, nI_lt_t, nI_lt_f, nI_eq_t, nI_eq_f, nI_m1, nI_em1, ↓reduceIte, Nat.add_zero, nI_n9, hT.1, qI, r6, qg15, qg18, cp, i28, qp]
    · refine ⟨hT1.s, ⟨by rw [om 2 (by omega)]; exact r2, fun i hi => by rw [o _ (by omega) (by omega)]; exact r3 i hi⟩, ?_, by rw [o _ (by omega) (by omega)]; exact r5, by rw [sI_at, nn], fun i hi j hj => ?_, fun k hk => by rw [o _ (by omega) (by omega)]; exact r8 k hk, fun k hk f j hj => by rw [o _ (by omega) (by omega)]; exact r9 k hk f j hj, ?_⟩
      · unfold RBd
        rw [om 4 (by omega), om 5 (by omega), om 6 (by omega), o (m + 2) (by omega) (by omega), o (m + 3) (by omega) (by omega), o (m + 4) (by omega) (by omega), o (m + 5) (by omega) (by omega), o (m + 6) (by omega) (by omega), o (m + 7) (by omega) (by omega)]
        exact r4
      · rw [nn] at hi
        rw [sI_a (by omega), rw_at, nH i]
        by_cases q : i = anh A
        · rw [if_pos q, pk_cpy_in (by omega) (by omega), show 0 + (360 * i + j - 360 * anh A) = j by rw [q]; omega]
          rfl
        · rw [if_neg q, pk_cpy_out (by omega)]
          exact r7 i (by omega) j hj
      · unfold Scr
        rw [o _ (by omega) (by omega), o _ (by omega) (by omega), o _ (by omega) (by omega), o _ (by omega) (by omega), o _ (by omega) (by omega)]
        exact ⟨s1, s2, s3, s4, s5⟩
end RINV
