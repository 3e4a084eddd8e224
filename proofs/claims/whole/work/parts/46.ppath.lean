/-! pure: paths, as steps and conversions -/
theorem cmt_nz {fr tt co : Nat → Nat} {skip x y : Nat} : ∀ {n : Nat}, cmt fr tt co skip n x y ≠ 0 → ∃ c, c < n ∧ fr c = x ∧ tt c = y ∧ c ≠ skip ∧ cmt fr tt co skip n x y = co c := by
  intro n
  induction n with
  | zero => intro e; exact absurd rfl e
  | succ n ih =>
    intro e
    have u : cmt fr tt co skip (n + 1) x y = if x = fr n ∧ y = tt n then (if n = skip then 0 else co n) else cmt fr tt co skip n x y := rfl
    by_cases c : x = fr n ∧ y = tt n
    · rw [if_pos c] at u
      by_cases d : n = skip
      · rw [if_pos d] at u
        exact absurd u e
      · rw [if_neg d] at u
        exact ⟨n, by omega, c.1.symm, c.2.symm, d, u⟩
    · rw [if_neg c] at u
      rw [u] at e
      obtain ⟨d, h1, h2⟩ := ih e
      rw [u]
      exact ⟨d, by omega, h2⟩
theorem cmt_at {fr tt co : Nat → Nat} {skip nc nf c : Nat} (hb : bok fr tt nc nf) (hc : c < nc) : ∀ n, n ≤ nc → c < n → cmt fr tt co skip n (fr c) (tt c) = if c = skip then 0 else co c := by
  intro n
  induction n with
  | zero => intro _ h; omega
  | succ n ih =>
    intro hn h
    have u : cmt fr tt co skip (n + 1) (fr c) (tt c) = if fr c = fr n ∧ tt c = tt n then (if n = skip then 0 else co n) else cmt fr tt co skip n (fr c) (tt c) := rfl
    rw [u]
    by_cases q : fr c = fr n ∧ tt c = tt n
    · rw [if_pos q, hb.2.2.2 c n hc (by omega) q.1 q.2]
    · rw [if_neg q]
      refine ih (by omega) ?_
      by_cases z : c = n
      · exact absurd (show fr c = fr n ∧ tt c = tt n by rw [z]; exact ⟨rfl, rfl⟩) q
      · omega
/-- what the costs of a board keep to -/
def cok (cm : Nat → Nat → Nat) (nf : Nat) : Prop := nf ≤ 8 ∧ (∀ a c, cm a c ≠ 0 → a ≠ c ∧ c < nf) ∧ ∀ a c, cm a c ≤ 99
theorem cok_cmt {fr tt co : Nat → Nat} {skip nc nf : Nat} (hb : bok fr tt nc nf) (hco : ∀ c, c < nc → co c ≤ 99) : cok (cmt fr tt co skip nc) nf := by
  refine ⟨hb.1, fun a c e => ?_, cmt_le hco⟩
  obtain ⟨d, h1, h2, h3, -⟩ := cmt_nz e
  obtain ⟨g1, g2, g3⟩ := hb.2.2.1 d h1
  rw [← h2, ← h3]
  exact ⟨g3, g2⟩
/-- the format behind one on the best path -/
def pnx (cm : Nat → Nat → Nat) (nf a b : Nat) : Nat → Option Nat
  | 0 => none
  | d + 1 => if nf - (d + 1) ≠ a ∧ fwd 16 cm a (nf - (d + 1)) < fINF ∧ fwd 16 cm a (nf - (d + 1)) + fD 16 cm nf (nf - (d + 1)) b = fD 16 cm nf a b then some (nf - (d + 1)) else pnx cm nf a b d
theorem nnx_pnx {cm : Nat → Nat → Nat} {ot od : zN'} {nf a b : Nat} (hn : nf ≤ 8) (ha : a < nf) (hb : b < nf) : ∀ d, d ≤ nf → nnx (mrow (fwn nf (fw0 16 cm) nf) ot) (mrow (fwd 16 cm) od) nf a b d = pnx cm nf a b d := by
  intro d
  induction d with
  | zero => intro _; rfl
  | succ d ih =>
    intro hd
    unfold nnx pnx
    rw [mrow_at (by omega) (by omega), mrow_at (by omega) (by omega), mrow_at (by omega) (by omega), fwn_eq nf (by omega) _ _ (by omega) (by omega), fwn_eq nf (by omega) _ _ (by omega) (by omega), ih (by omega)]
    rfl
theorem pnx_some {cm : Nat → Nat → Nat} {nf a b f : Nat} : ∀ {d : Nat}, d ≤ nf → pnx cm nf a b d = some f → f < nf ∧ nf - d ≤ f ∧ f ≠ a ∧ fwd 16 cm a f < fINF ∧ fwd 16 cm a f + fD 16 cm nf f b = fD 16 cm nf a b ∧ ∀ g, nf - d ≤ g → g < f → ¬ (g ≠ a ∧ fwd 16 cm a g < fINF ∧ fwd 16 cm a g + fD 16 cm nf g b = fD 16 cm nf a b) := by
  intro d
  induction d with
  | zero => intro _ e; cases e
  | succ d ih =>
    intro hd e
    unfold pnx at e
    split at e
    · rename_i c
      cases e
      exact ⟨by omega, by omega, c.1, c.2.1, c.2.2, fun g h1 h2 => absurd h2 (by omega)⟩
    · rename_i c
      obtain ⟨a1, a2, a3, a4, a5, a6⟩ := ih (by omega) e
      refine ⟨a1, by omega, a3, a4, a5, fun g h1 h2 => ?_⟩
      by_cases q : g = nf - (d + 1)
      · rw [q]; exact c
      · exact a6 g (by omega) h2
theorem pnx_none {cm : Nat → Nat → Nat} {nf a b : Nat} : ∀ {d : Nat}, d ≤ nf → pnx cm nf a b d = none → ∀ g, nf - d ≤ g → g < nf → ¬ (g ≠ a ∧ fwd 16 cm a g < fINF ∧ fwd 16 cm a g + fD 16 cm nf g b = fD 16 cm nf a b) := by
  intro d
  induction d with
  | zero => intro _ _ g h1 h2; omega
  | succ d ih =>
    intro hd e g h1 h2
    unfold pnx at e
    split at e
    · cases e
    · rename_i c
      by_cases q : g = nf - (d + 1)
      · rw [q]; exact c
      · exact ih (by omega) e g (by omega) h2
def pn (cm : Nat → Nat → Nat) (nf a b : Nat) : Nat := (pnx cm nf a b nf).getD 0
/-- how many steps -/
def pst (cm : Nat → Nat → Nat) (nf a b : Nat) : Nat := fD 16 cm nf a b % 16
theorem fwd_lt {cm : Nat → Nat → Nat} {a f : Nat} (h : fwd 16 cm a f < fINF) : cm a f ≠ 0 ∧ fwd 16 cm a f = 16 * cm a f + 1 := by
  unfold fwd at h ⊢
  by_cases c : cm a f = 0
  · rw [if_pos c] at h
    exact absurd h (Nat.lt_irrefl _)
  · rw [if_neg c]
    exact ⟨c, rfl⟩
/-- a step on a path -/
theorem pn_step {cm : Nat → Nat → Nat} {nf a b : Nat} (hc : cok cm nf) (ha : a < nf) (hab : a ≠ b) (hr : fD 16 cm nf a b < fINF) : pnx cm nf a b nf = some (pn cm nf a b) ∧ pn cm nf a b < nf ∧ pn cm nf a b ≠ a ∧ cm a (pn cm nf a b) ≠ 0 ∧ fD 16 cm nf (pn cm nf a b) b < fINF ∧ pst cm nf a b = pst cm nf (pn cm nf a b) b + 1 ∧ pst cm nf a b ≤ 7 ∧ fD 16 cm nf a b = 16 * cm a (pn cm nf a b) + 1 + fD 16 cm nf (pn cm nf a b) b := by
  obtain ⟨hn, he, hm⟩ := hc
  have ex : ∃ f, pnx cm nf a b nf = some f := by
    cases e : pnx cm nf a b nf with
    | some f => exact ⟨f, rfl⟩
    | none =>
      exfalso
      obtain ⟨c, h1, h2⟩ := fD_next he hab hr
      obtain ⟨h3, h4⟩ := he a c h1
      have h5 := hm a c
      have w : fwd 16 cm a c = 16 * cm a c + 1 := if_neg h1
      refine pnx_none (Nat.le_refl _) e c (by omega) h4 ⟨fun q => h3 q.symm, ?_, by rw [w]; exact h2⟩
      rw [w]
      unfold fINF
      omega
  obtain ⟨f, e⟩ := ex
  have ef : pn cm nf a b = f := by unfold pn; rw [e]; rfl
  obtain ⟨g1, -, g3, g4, g5, -⟩ := pnx_some (Nat.le_refl _) e
  obtain ⟨g6, g7⟩ := fwd_lt g4
  have g8 : fD 16 cm nf f b < fINF := by omega
  obtain ⟨c, k, k1, -, k3, -, k5, -⟩ := (fD_both hn he hm (a := a) (b := b) ha).2 hr
  obtain ⟨c', k', l1, -, l3, -, -, -⟩ := (fD_both hn he hm (a := f) (b := b) g1).2 g8
  have k5 := k5 hab
  rw [ef]
  unfold pst
  refine ⟨e, g1, g3, g6, g8, by omega, by omega, by omega⟩
theorem pst_0 {cm : Nat → Nat → Nat} {nf a b : Nat} (hc : cok cm nf) (ha : a < nf) (hr : fD 16 cm nf a b < fINF) : pst cm nf a b = 0 ↔ a = b := by
  obtain ⟨hn, he, hm⟩ := hc
  obtain ⟨c, k, k1, -, k3, -, k5, k6⟩ := (fD_both hn he hm (a := a) (b := b) ha).2 hr
  unfold pst
  by_cases q : a = b
  · have := k6 q
    exact ⟨fun _ => q, fun _ => by omega⟩
  · have := k5 q
    exact ⟨fun z => by omega, fun z => absurd z q⟩
/-- the loss along s steps, and the size behind them -/
def plo (lo : zN') (cv : Nat → Nat) (nx : Nat → Nat) : Nat → Nat → Nat
  | 0, _ => 0
  | s + 1, f => lo (cv f) + plo lo cv nx s (nx f)
def gw (gr v : Nat) : Nat := if (v * gr + 9) / 10 ≤ 99999 then (v * gr + 9) / 10 else 99999
def psi (gr : zN') (cv : Nat → Nat) (nx : Nat → Nat) : Nat → Nat → Nat → Nat
  | 0, _, v => v
  | s + 1, f, v => psi gr cv nx s (nx f) (gw (gr (cv f)) v)
def pcv (fr tt : zN') (nc : Nat) (cm : Nat → Nat → Nat) (nf b f : Nat) : Nat := (ncv fr tt f (pn cm nf f b) nc).getD 0
def ploss (fr tt lo : zN') (nc : Nat) (cm : Nat → Nat → Nat) (nf a b : Nat) : Nat := plo lo (pcv fr tt nc cm nf b) (fun f => pn cm nf f b) (pst cm nf a b) a
def psize (fr tt gr : zN') (nc : Nat) (cm : Nat → Nat → Nat) (nf a b v : Nat) : Nat := psi gr (pcv fr tt nc cm nf b) (fun f => pn cm nf f b) (pst cm nf a b) a v
/-- a board's costs are those of its conversions -/
def cfr (fr tt : zN') (nc : Nat) (cm : Nat → Nat → Nat) : Prop := ∀ x y, cm x y ≠ 0 → ∃ c, c < nc ∧ fr c = x ∧ tt c = y
theorem cfr_cmt {fr tt co : zN'} {skip nc : Nat} : cfr fr tt nc (cmt fr tt co skip nc) := fun x y e => by
  obtain ⟨c, h1, h2, h3, -⟩ := cmt_nz e
  exact ⟨c, h1, h2, h3⟩
theorem pcv_is {fr tt : zN'} {nc nf a b : Nat} {cm : Nat → Nat → Nat} (hb : bok fr tt nc nf) (hf : cfr fr tt nc cm) (hc : cok cm nf) (ha : a < nf) (hab : a ≠ b) (hr : fD 16 cm nf a b < fINF) : ncv fr tt a (pn cm nf a b) nc = some (pcv fr tt nc cm nf b a) ∧ pcv fr tt nc cm nf b a < nc ∧ fr (pcv fr tt nc cm nf b a) = a ∧ tt (pcv fr tt nc cm nf b a) = pn cm nf a b := by
  obtain ⟨-, -, -, h4, -⟩ := pn_step hc ha hab hr
  obtain ⟨c, g1, g2, g3⟩ := hf _ _ h4
  have e : ncv fr tt a (pn cm nf a b) nc = some c := by
    rw [← g3, ← g2]
    exact ncv_is hb g1
  have e2 : pcv fr tt nc cm nf b a = c := by unfold pcv; rw [e]; rfl
  rw [e2]
  exact ⟨e, g1, g2, g3⟩
