/-! pure: the law's loop -/
theorem sc_at {G : zG} {j : Nat} (hj : j < zgL G) (hL : zgL G ≤ 2048) : zsc G (nI j) = some (zgx G j) := by
  unfold zsc
  rw [nI_clamp (by omega), if_pos (fun z => z.elim (fun z => absurd ((nI_ltI (b := 0) (by omega) (by omega)).mp z) (by omega)) (fun z => by omega))]
theorem AI_clr {A : zSt} {t : Nat} (h : AI t A) : AI t (clrS A).2.2 := ⟨⟨Nat.zero_le _, fun i hi => absurd hi (Nat.not_lt_zero _)⟩, h.2⟩
theorem AI_eq {A A' : zSt} {t : Nat} (h : AI t A) (e : A' = A) : AI (t + 1) A' := by rw [e]; exact AI_mono h (by omega)
section LAWL
variable {G : zG} {x m u : Nat} {k : zH → Int32 → Option (Int32 × zH)}
theorem same_errS (A : zSt) : (errS A).2.2 = A := rfl
theorem same_abtS (A : zSt) (a : Int32) : (abtS A a).2.2 = A := by
  unfold abtS
  repeat' split
  all_goals rfl
theorem same_cvS (A : zSt) (a b : Int32) : (cvS A a b).2.2 = A := by
  unfold cvS
  repeat' split
  all_goals rfl
theorem same_plS (A : zSt) (a b : Int32) : (plS A a b).2.2 = A := by
  unfold plS
  repeat' split
  all_goals rfl
theorem same_entS (A : zSt) (a b : Int32) : (entS A a b).2.2 = A := by
  unfold entS
  repeat' split
  all_goals rfl
theorem same_frmS (A : zSt) (a b c : Int32) : (frmS A a b c).2.2 = A := by
  unfold frmS
  repeat' split
  all_goals rfl
theorem same_pthS (A : zSt) (a b c : Int32) : (pthS A a b c).2.2 = A := by
  unfold pthS
  repeat' split
  all_goals rfl
theorem same_stpS (A : zSt) (a b c : Int32) : (stpS A a b c).2.2 = A := by
  unfold stpS
  repeat' split
  all_goals rfl
theorem same_szaS (A : zSt) (a b c : Int32) : (szaS A a b c).2.2 = A := by
  unfold szaS
  repeat' split
  all_goals rfl
theorem same_rchS (A : zSt) (a : Int32) : (rchS A a).2.2 = A := by
  unfold rchS
  repeat' split
  all_goals rfl
theorem same_woS (A : zSt) (a b c : Int32) : (woS A a b c).2.2 = A := by
  unfold woS
  repeat' split
  all_goals rfl
theorem same_worS (A : zSt) (a : Int32) : (worS A a).2.2 = A := by
  unfold worS
  repeat' split
  all_goals rfl
theorem same_idlS (A : zSt) : (idlS A).2.2 = A := rfl
theorem same_btwS (A : zSt) (a : Int32) : (btwS A a).2.2 = A := by
  unfold btwS
  repeat' split
  all_goals rfl
theorem same_wayS (A : zSt) (a b c : Int32) : (wayS A a b c).2.2 = A := by
  unfold wayS
  repeat' split
  all_goals rfl
theorem same_bstS (A : zSt) (a : Int32) : (bstS A a).2.2 = A := by
  unfold bstS
  repeat' split
  all_goals rfl
theorem same_vicS (A : zSt) (a : Int32) : (vicS A a).2.2 = A := by
  unfold vicS
  repeat' split
  all_goals rfl
theorem same_romS (A : zSt) : (romS A).2.2 = A := rfl
theorem same_rnkS (A : zSt) (a : Int32) : (rnkS A a).2.2 = A := by
  unfold rnkS
  repeat' split
  all_goals rfl
theorem same_scrS (A : zSt) (a : Int32) (b : Int64) : (scrS A a b).2.2 = A := by
  unfold scrS
  repeat' split
  all_goals rfl
theorem same_simS (A : zSt) (a : Int64) (b : Int32) : (simS A a b).2.2 = A := by
  unfold simS
  repeat' split
  all_goals rfl
/-- what the next turn gives -/
def NX (G : zG) (k : zH → Int32 → Option (Int32 × zH)) (x m u n i t : Nat) : Prop := ∀ h A, LI h x m u A → AI (t + 1) A → PY (fL_law_L23 G k x m u n h (nI (4 * i) + 4))
/-- a call of the law, wrapped -/
theorem PY_W {h : zH} {t : Nat} {A : zSt} {S : zAn} {F : Option (Int32 × zH)} {R : zH → Option (Int32 × zH)} {K : zH → Option (Int32 × zH)} (hm : x + 801 ≤ m) (hu : m + 24 ≤ u) (L : LI h x m u A) (hA : AI t S.2.2) (hF : WO h x u F S) (hR : ∀ h6, RI h6 m A → RO h6 m (R h6) S) (hk : ∀ g, LI g x m u S.2.2 → PY (K g)) : ∃ h6, F = some (nI S.1, h6) ∧ PY (zb2 (R h6) fun w8 h9 => zb2 (fX7_thrown h9 m) fun w10 h11 => if (w10 : Int32) = nI S.1 then if (nI S.1 : Int32) = 0 then (zaJ h11 u 0).bind fun w14 => if ((lg_cmp w14 (w8 : Int32).toInt64) : Int32) = 0 then K h11 else some (0, h11) else K h11 else some (0, h11)) := by
  obtain ⟨L1, L2, L3, L4⟩ := L
  obtain ⟨h6, f1, f2, f3, f4, f5⟩ := hF
  exact ⟨h6, f1, PY_R hm hu f3 hA (by rw [f4.1]; exact L3) (by rw [f4.2.1]; exact L4) f5 f2 (hR h6 (RI_w f4 hm L2)) hk⟩
theorem law_load {h : zH} {t : Nat} {A : zSt} {K : zH → Option (Int32 × zH)} (hm : x + 801 ≤ m) (hu : m + 24 ≤ u) (L : LI h x m u A) (hA : AI t A) (hk : ∀ g A', LI g x m u A' → AI (t + 1) A' → PY (K g)) : PY (zb2 (fL_load h x u) fun w29 h30 => zb2 (fX7_load h30 m) fun w31 h32 => zb2 (fX7_thrown h32 m) fun w33 h34 => if (w33 : Int32) = w29 then if (w29 : Int32) = 0 then (zaJ h34 u 0).bind fun w37 => if ((lg_cmp w37 (w31 : Int32).toInt64) : Int32) = 0 then K h34 else some (0, h34) else K h34 else some (0, h34)) := by
  obtain ⟨C, R, uk, ul⟩ := id L
  obtain ⟨S0, q0⟩ : ∃ S0, loadR A S0 := by
    unfold loadR
    cases hp : ptext (aT A) (an A) with
    | inl p => exact ⟨(1, 0, A), rfl⟩
    | inr w =>
      obtain ⟨f, bu, B⟩ := w
      exact ⟨(0, nI (bnc B), loadA A f bu B (bac B) (bli B)), bac B, bli B, fun p _ => ⟨rfl, rfl⟩, rfl⟩
  have W0 : WO h x u (fL_load h x u) S0 := wrap1 uk ul (k_load C hA q0)
  obtain ⟨h6, f1, f2, f3, f4, f5⟩ := W0
  obtain ⟨S, s1, s2⟩ := r_load (RI_w f4 hm R) hA
  have W : WO h x u (fL_load h x u) S := wrap1 uk ul (k_load C hA s1)
  obtain ⟨h7, g1, g2, g3, g4, g5⟩ := W
  have e : h7 = h6 := by
    rw [f1] at g1
    exact (Prod.mk.inj (Option.some.inj g1)).2.symm
  subst e
  have A1 : AI (t + 1) S.2.2 := AI_mono (AI_load hA s1) (by omega)
  exact PY_z g1 (PY_R hm hu g3 A1 (by rw [g4.1]; exact uk) (by rw [g4.2.1]; exact ul) g5 g2 s2 (fun g Lg => hk g S.2.2 Lg A1))
end LAWL
