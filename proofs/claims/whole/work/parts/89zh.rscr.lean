/-! pure: the reference's runScript -/
/-- the command i of n, of the script s -/
def grpN (n s i : Nat) : Nat := s / 1000000 ^ (n - 1 - i) % 1000000
/-- runs the commands from i, d are left; the number of the first that fails -/
def scrR (A : zSt) (n s : Nat) : Nat → Nat → zN' → Nat
  | 0, _, _ => 4294967287
  | d + 1, i, τ => match cmdR A τ (grpN n s i) with
    | none => i
    | some τ' => scrR A n s d (i + 1) τ'
def lcl (s : Int64) : Nat := s.toNatClampNeg
abbrev outS (n : Nat) (s : Int64) : Prop := s < 0 ∨ lN (1000000 ^ n) ≤ s
def scrS (A : zSt) (x : Int32) (s : Int64) : zAn := if ¬ (1 ≤ x ∧ x ≤ 3) then (1, 0, A) else if outS (cl x) s then (1, 0, A) else (0, nI (scrR A (cl x) (lcl s) (cl x) 0 (atg A)), A)
theorem pow6 {n : Nat} (h : n ≤ 3) : 1 ≤ 1000000 ^ n ∧ 1000000 ^ n ≤ 1000000000000000000 := by
  match n, h with
  | 0, _ => decide
  | 1, _ => decide
  | 2, _ => decide
  | 3, _ => decide
theorem in_s {s : Int64} {n : Nat} (hn : n ≤ 3) (hs : ¬ outS n s) : ∃ k, k < 1000000 ^ n ∧ s = lN k ∧ lcl s = k := by
  have p := pow6 hn
  obtain ⟨k, k1, k2⟩ := pk_lOf (fun q => hs (Or.inl q))
  refine ⟨k, ?_, k2, ?_⟩
  · refine Nat.lt_of_not_le fun q => hs (Or.inr ?_)
    rw [k2]
    exact (pk_lLE (by omega) k1).mpr q
  · rw [k2]
    show (lN k).toInt.toNat = k
    rw [pk_lT k1]
    rfl
theorem p_inS (h : zH) {s : Int64} {n : Nat} (hn : n ≤ 3) : fX7_in h s 0 (lN (1000000 ^ n) - 1) = some (if outS n s then nI 0 else nI 1, h) := by
  have p := pow6 hn
  have e : lN (1000000 ^ n) - 1 = lN (1000000 ^ n - 1) := lN_sub p.1
  unfold fX7_in
  rw [e]
  simp only [lg_cmp_lt, lg_cmp_gt]
  by_cases c : s < 0
  · rw [if_pos c, if_pos (Or.inl c)]
    rfl
  · rw [if_neg c]
    obtain ⟨k, k1, k2⟩ := pk_lOf c
    by_cases c2 : lN (1000000 ^ n) ≤ s
    · rw [if_pos (show outS n s from Or.inr c2)]
      rw [k2] at c2 ⊢
      have := (pk_lLE (by omega) k1).mp c2
      rw [if_pos ((pk_lLT (by omega) k1).mpr (by omega))]
      rfl
    · rw [if_neg (show ¬ outS n s from fun z => z.elim c c2)]
      rw [k2] at c2 ⊢
      have : ¬ 1000000 ^ n ≤ k := fun z => c2 ((pk_lLE (by omega) k1).mpr z)
      rw [if_neg (fun z => absurd ((pk_lLT (by omega) k1).mp z) (by omega))]
      rfl
theorem r_mil_L {h : zH} {n : Nat} (hn : n ≤ 3) (k : zH → Int64 → Int32 → Option (Int64 × zH)) : ∀ d i fu, i + d = n → d < fu → fX7_million_L4 k (nI n) fu h (lN (1000000 ^ i)) (nI i) = k h (lN (1000000 ^ n)) (nI n) := by
  intro d
  induction d with
  | zero =>
    intro i fu hi hf
    obtain ⟨fu, rfl⟩ := fuel1 hf
    have e : i = n := by omega
    rw [fX7_million_L4, e]
    simp (disch := first | assumption | ((repeat apply RefT.s) <;> assumption) | omega) only [nl, nI_add, pk_mul, Option.bind_some, zb2_some, nI_le_t, nI_le_f, nI_lt_t, nI_lt_f, nI_eq_t, nI_eq_f, nI_m1, nI_em1, ↓reduceIte, Nat.add_zero, nI_n9]
  | succ d ih =>
    intro i fu hi hf
    obtain ⟨fu, rfl⟩ := fuel1 hf
    have i1 := ih (i + 1) fu (by omega) (by omega)
    have e : lN (1000000 ^ i) * 1000000 = lN (1000000 ^ (i + 1)) := by
      rw [show (1000000 : Int64) = lN 1000000 from rfl, lN_mul, Nat.pow_succ]
    rw [fX7_million_L4, e]
    simp (disch := first | assumption | ((repeat apply RefT.s) <;> assumption) | omega) only [nl, nI_add, pk_mul, Option.bind_some, zb2_some, nI_le_t, nI_le_f, nI_lt_t, nI_lt_f, nI_eq_t, nI_eq_f, nI_m1, nI_em1, ↓reduceIte, Nat.add_zero, nI_n9]
    exact i1
theorem r_mil {h : zH} {n : Nat} (hn : n ≤ 3) : fX7_million h (nI n) = some (lN (1000000 ^ n), h) := by
  unfold fX7_million
  exact r_mil_L hn _ n 0 zF (by omega) (by unfold zF; omega)
section RSCR
variable {m : Nat} {A : zSt}
theorem r_scr_L {n s : Nat} (hO : bOK (anf A) (anc A) (anp A) (afr A) (att A) (agr A) (alo A) (aac A) (ali A)) (hn : n ≤ 3) (hs : s < 1000000 ^ n) : ∀ d i fu (h : zH) (τ : zN'), i + d = n → d < fu → RI h m A → zI h (m + 16) = nr τ → rok (anf A) (anc A) τ → τ 1 + d < 9990 → ∃ h2, fX7_runScript_L47 (fun h8 y9 => some (-9, h8)) m (nI n) (lN s) fu h (nI i) = some (nI (scrR A n s d i τ), h2) ∧ RI h2 m A ∧ Fr m (m + 24) h h2 ∧ zI h2 m 0 = zI h m 0 := by
  have p := pow6 hn
  intro d
  induction d with
  | zero =>
    intro i fu h τ hi hf hR e16 tr ht
    obtain ⟨fu, rfl⟩ := fuel1 hf
    have e : i = n := by omega
    refine ⟨h, ?_, hR, Fr.rf, rfl⟩
    rw [fX7_runScript_L47, e]
    simp (disch := first | assumption | ((repeat apply RefT.s) <;> assumption) | omega) only [nl, nI_add, pk_mul, Option.bind_some, zb2_some, nI_le_t, nI_le_f, nI_lt_t, nI_lt_f, nI_eq_t, nI_eq_f, nI_m1, nI_em1, ↓reduceIte, Nat.add_zero, nI_n9]
    rfl
  | succ d ih =>
    intro i fu h τ hi hf hR e16 tr ht
    obtain ⟨fu, rfl⟩ := fuel1 hf
    have pi := pow6 (n := n - 1 - i) (by omega)
    have mi := r_mil (h := h) (n := n - 1 - i) (by omega)
    have s1 : nI n - nI 1 - nI i = nI (n - 1 - i) := by rw [pk_sub (by omega), pk_sub (by omega)]
    have nz : (lN (1000000 ^ (n - 1 - i)) = 0) = False := eq_false fun q => by
      have := (pk_lEQ (b := 0) (by omega) (by omega)).mp q
      omega
    have dl : s / 1000000 ^ (n - 1 - i) < 2 ^ 63 := by
      have := Nat.div_le_self s (1000000 ^ (n - 1 - i))
      omega
    have gq : lN s / lN (1000000 ^ (n - 1 - i)) - lN s / lN (1000000 ^ (n - 1 - i)) / 1000000 * 1000000 = lN (grpN n s i) := by
      rw [lN_div (by omega) (by omega) (by omega), show (1000000 : Int64) = lN 1000000 from rfl, pk_lRem dl (by omega) (by omega)]
      rfl
    have gl : grpN n s i < 1000000 := Nat.mod_lt _ (by omega)
    obtain ⟨t1, t2⟩ := r_cmd hR hO e16 tr (by omega) gl
    rw [fX7_runScript_L47]
    cases q : cmdR A τ (grpN n s i) with
    | none =>
      obtain ⟨g1, p1, p2, p3, p4, p5⟩ := t1 q
      have sv : scrR A n s (d + 1) i τ = i := by unfold scrR; rw [q]
      refine ⟨g1, ?_, p2, p3, p4⟩
      rw [sv]
      simp (disch := first | assumption | ((repeat apply RefT.s) <;> assumption) | omega) only [nl, nI_add, pk_mul, Option.bind_some, zb2_some, nI_le_t, nI_le_f, nI_lt_t, nI_lt_f, nI_eq_t, nI_eq_f, nI_m1, nI_em1, ↓reduceIte, Nat.add_zero, nI_n9, s1, mi, nz, gq, lN_i, p1]
    | some τ' =>
      obtain ⟨g1, p1, p2, p3, p4, p5, p6, p7⟩ := t2 τ' q
      have sv : scrR A n s (d + 1) i τ = scrR A n s d (i + 1) τ' := by
        show (match cmdR A τ (grpN n s i) with | none => i | some τ' => scrR A n s d (i + 1) τ') = _
        rw [q]
      obtain ⟨h2, l1, l2, l3, l4⟩ := ih (i + 1) fu g1 τ' (by omega) (by omega) p2 p5 p6 (by omega)
      refine ⟨h2, ?_, l2, p3.tr l3, l4.trans p4⟩
      rw [sv, ← l1]
      simp (disch := first | assumption | ((repeat apply RefT.s) <;> assumption) | omega) only [nl, nI_add, pk_mul, Option.bind_some, zb2_some, nI_le_t, nI_le_f, nI_lt_t, nI_lt_f, nI_eq_t, nI_eq_f, nI_m1, nI_em1, ↓reduceIte, Nat.add_zero, nI_n9, s1, mi, nz, gq, lN_i, p1]
theorem r_scr {h : zH} {t : Nat} (hR : RI h m A) (hA : AI t A) (ht : t < 9000) (x : Int32) (s : Int64) : RO h m (fX7_runScript h m x s) (scrS A x s) := by
  have hT := hR.1
  obtain ⟨a1, hO, ⟨a3, a3t⟩, a4, a5, a6⟩ := hA
  have n20 := hO.1.2.1
  have pin : fX7_in h x.toInt64 1 3 = some (if 1 ≤ x ∧ x ≤ 3 then 1 else 0, h) := p_in h x 1 3
  have rf1 := r_ref (k := 1) hT (by omega)
  have rf0 := r_ref (k := 0) hT (by omega)
  rw [if_neg (by decide)] at rf1
  rw [if_pos rfl] at rf0
  unfold scrS
  by_cases c2 : 1 ≤ x ∧ x ≤ 3
  · rw [if_neg (fun z => z c2)]
    rw [if_pos c2] at pin
    have sz : newSz x := ⟨c2.1, Int32.le_trans c2.2 (by decide)⟩
    obtain ⟨n, n1, n2, n3, n4⟩ := in_sz sz
    have n3' : n ≤ 3 := by
      have := c2.2
      rw [n3] at this
      exact (nI_leI (b := 3) (by omega) (by omega)).mp this
    rw [n4]
    subst n3
    have mi := r_mil (h := h) n3'
    have ps := p_inS h (s := s) n3'
    by_cases c3 : outS n s
    · rw [if_pos c3] at ps ⊢
      refine RO_err hR (by omega) ?_
      unfold fX7_runScript
      simp (disch := first | assumption | ((repeat apply RefT.s) <;> assumption) | omega) only [nl, nI_add, pk_mul, Option.bind_some, zb2_some, nI_le_t, nI_le_f, nI_lt_t, nI_lt_f, nI_eq_t, nI_eq_f, nI_m1, nI_em1, ↓reduceIte, Nat.add_zero, nI_n9, hT.1, pin, mi, ps, rf1]
    · rw [if_neg c3] at ps ⊢
      obtain ⟨k, k1, k2, k3⟩ := in_s n3' c3
      rw [k3]
      have R0 := RI_0 (v := nI 0) hR
      have tn : fX7_tryNow (zsI h m 0 (nI 0)) m = some (zrow (zsI h m 0 (nI 0)) (m + 16) (nr (atg A))) := r_tryNow R0 a3
      have tr := atg_rok a3 n20
      have R1 := RI_try (τ := atg A) R0 tr.2.1
      have tt : atg A 1 = aρ A 1 := ntg_h (by omega)
      obtain ⟨h2, l1, l2, l3, l4⟩ := r_scr_L hO n3' k1 n 0 zF _ (atg A) (by omega) (by unfold zF; omega) R1 rw_at tr (by omega)
      have l1' : fX7_runScript_L47 (fun h8 y9 => some (nI 4294967287, h8)) m (nI n) (lN k) zF (zrow (zsI h m 0 (nI 0)) (m + 16) (nr (atg A))) (nI 0) = some (nI (scrR A n k n 0 (atg A)), h2) := l1
      refine ⟨_, h2, ?_, fun _ => rfl, ?_, l2, (fr0.tr fr16).tr l3⟩
      · subst k2
        unfold fX7_runScript
        simp (disch := first | assumption | ((repeat apply RefT.s) <;> assumption) | omega) only [nl, nI_add, pk_mul, Option.bind_some, zb2_some, nI_le_t, nI_le_f, nI_lt_t, nI_lt_f, nI_eq_t, nI_eq_f, nI_m1, nI_em1, ↓reduceIte, Nat.add_zero, nI_n9, hT.1, pin, mi, ps, rf0, tn]
        exact l1'
      · rw [l4, rw_a (by omega), sI_at]
  · rw [if_pos c2]
    rw [if_neg c2] at pin
    refine RO_err hR (by omega) ?_
    unfold fX7_runScript
    simp (disch := first | assumption | ((repeat apply RefT.s) <;> assumption) | omega) only [nl, nI_add, pk_mul, Option.bind_some, zb2_some, nI_le_t, nI_le_f, nI_lt_t, nI_lt_f, nI_eq_t, nI_eq_f, nI_m1, nI_em1, ↓reduceIte, Nat.add_zero, nI_n9, hT.1, pin, rf1]
end RSCR
