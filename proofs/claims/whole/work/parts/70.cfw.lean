/-! pure: the component's paths: over eight formats, by eights -/
theorem fw0_lN {s : Nat} {cm : Nat → Nat → Nat} (hs : s ≤ 16) (hc : ∀ x y, cm x y ≤ 99) (k a b : Nat) : fw (fw0 s cm) k a b ≤ fINF := Nat.le_trans (fw_mono0 k a b) (fw0_le hs hc a b)
theorem fw_far {s nf v : Nat} {cm : Nat → Nat → Nat} (he : ∀ a c, cm a c ≠ 0 → a ≠ c ∧ c < nf) (hv : nf ≤ v) : ∀ k a, a ≠ v → fINF ≤ fw (fw0 s cm) k a v := by
  intro k
  induction k with
  | zero =>
    intro a ha
    show fINF ≤ fw0 s cm a v
    unfold fw0 fwd
    rw [if_neg ha]
    by_cases c : cm a v = 0
    · rw [if_pos c]; exact Nat.le_refl _
    · have := (he a v c).2
      omega
  | succ k ih =>
    intro a ha
    show fINF ≤ fws (fw (fw0 s cm) k) k a v
    have i1 := ih a ha
    rcases fws_or (fw (fw0 s cm) k) k a v with q | ⟨q, w⟩
    · rw [q]; exact i1
    · by_cases c : k = v
      · subst c
        omega
      · have := ih k c
        omega
theorem fw_same {s nf k : Nat} {cm : Nat → Nat → Nat} (hs : s ≤ 16) (hc : cok cm nf) (hk : nf ≤ k) (a b : Nat) : fw (fw0 s cm) (k + 1) a b = fw (fw0 s cm) k a b := by
  show fws (fw (fw0 s cm) k) k a b = _
  rcases fws_or (fw (fw0 s cm) k) k a b with q | ⟨q, w⟩
  · exact q
  · exfalso
    have l := fw0_lN hs hc.2.2 k a b
    by_cases c : a = k
    · subst c
      have := fw_diag (fw0_diag s cm) a a
      omega
    · have := fw_far (s := s) hc.2.1 hk k a c
      omega
theorem fD_8 {nf : Nat} {cm : Nat → Nat → Nat} (hc : cok cm nf) (a b : Nat) : fD 8 cm 8 a b = fD 8 cm nf a b := by
  have key : ∀ d, fw (fw0 8 cm) (nf + d) a b = fw (fw0 8 cm) nf a b := by
    intro d
    induction d with
    | zero => rfl
    | succ d ih => rw [← Nat.add_assoc, fw_same (by omega) hc (by omega), ih]
  have h8 := hc.1
  have := key (8 - nf)
  rw [show nf + (8 - nf) = 8 by omega] at this
  exact this
theorem fD_le8 {nf : Nat} {cm : Nat → Nat → Nat} (hc : cok cm nf) (a b : Nat) : fD 8 cm nf a b ≤ fINF := fw0_lN (by omega) hc.2.2 nf a b
/-- the numbers of the direct conversions -/
def stp (fr tt : Nat → Nat) (skip : Nat) : Nat → Nat → Nat → Nat
  | 0 => fun _ _ => 4294967295
  | c + 1 => if c = skip then stp fr tt skip c else mup (stp fr tt skip c) (fr c) (tt c) c
theorem stp_at {fr tt : Nat → Nat} {skip nc nf c : Nat} (hb : bok fr tt nc nf) (hc : c < nc) (hs : c ≠ skip) : ∀ n, n ≤ nc → c < n → stp fr tt skip n (fr c) (tt c) = c := by
  intro n
  induction n with
  | zero => intro _ h; omega
  | succ n ih =>
    intro hn h
    unfold stp
    by_cases q : n = skip
    · rw [if_pos q]
      exact ih (by omega) (by omega)
    · rw [if_neg q]
      show (if fr c = fr n ∧ tt c = tt n then n else stp fr tt skip n (fr c) (tt c)) = c
      by_cases z : fr c = fr n ∧ tt c = tt n
      · rw [if_pos z]
        exact (hb.2.2.2 c n hc (by omega) z.1 z.2).symm
      · rw [if_neg z]
        refine ih (by omega) ?_
        by_cases y : c = n
        · exact absurd (show fr c = fr n ∧ tt c = tt n by rw [y]; exact ⟨rfl, rfl⟩) z
        · omega
theorem cmt_un {fr tt co : Nat → Nat} {skip nc nf c : Nat} (hb : bok fr tt nc nf) (hc : c < nc) : ∀ n, n ≤ c → cmt fr tt co skip n (fr c) (tt c) = 0 := by
  intro n
  induction n with
  | zero => intro _; rfl
  | succ n ih =>
    intro hn
    show (if fr c = fr n ∧ tt c = tt n then (if n = skip then 0 else co n) else cmt fr tt co skip n (fr c) (tt c)) = 0
    by_cases z : fr c = fr n ∧ tt c = tt n
    · have := hb.2.2.2 c n hc (by omega) z.1 z.2
      omega
    · rw [if_neg z]
      exact ih (by omega)
theorem mup_same {T : Nat → Nat → Nat} {a b v : Nat} (h : T a b = v) : mup T a b v = T := by
  funext x y
  unfold mup
  by_cases c : x = a ∧ y = b
  · rw [if_pos c, c.1, c.2, h]
  · rw [if_neg c]
theorem cmt_skip {fr tt co : Nat → Nat} {skip nc nf c : Nat} (hb : bok fr tt nc nf) (hc : c < nc) (hs : c = skip) : cmt fr tt co skip (c + 1) = cmt fr tt co skip c := by
  show mup (cmt fr tt co skip c) (fr c) (tt c) (if c = skip then 0 else co c) = _
  rw [if_pos hs]
  exact mup_same (cmt_un hb hc c (Nat.le_refl _))
theorem fwd_up8 {fr tt co : Nat → Nat} {skip c : Nat} (hc : 1 ≤ co c) (hs : c ≠ skip) : mup (fwd 8 (cmt fr tt co skip c)) (fr c) (tt c) (8 * co c + 1) = fwd 8 (cmt fr tt co skip (c + 1)) := by
  funext x y
  have u : cmt fr tt co skip (c + 1) x y = if x = fr c ∧ y = tt c then (if c = skip then 0 else co c) else cmt fr tt co skip c x y := rfl
  unfold mup fwd
  rw [u]
  by_cases q : x = fr c ∧ y = tt c
  · rw [if_pos q, if_pos q, if_neg hs, if_neg (by omega)]
  · rw [if_neg q, if_neg q]
theorem fw0_up8 {fr tt co : Nat → Nat} {skip c : Nat} (hc : 1 ≤ co c) (hs : c ≠ skip) (hn : fr c ≠ tt c) : mup (fw0 8 (cmt fr tt co skip c)) (fr c) (tt c) (8 * co c + 1) = fw0 8 (cmt fr tt co skip (c + 1)) := by
  have e := fwd_up8 (fr := fr) (tt := tt) hc hs
  funext x y
  unfold fw0
  rw [← e]
  unfold mup
  by_cases q : x = fr c ∧ y = tt c
  · rw [if_pos q, if_neg (by rw [q.1, q.2]; exact hn), if_pos q]
  · rw [if_neg q, if_neg q]
def lfs (D S R : Nat → Nat → Nat) (a b : Nat) : Nat → Nat
  | 0 => 4294967295
  | n + 1 => if D a (8 - (n + 1)) + R (8 - (n + 1)) b = R a b then S a (8 - (n + 1)) else lfs D S R a b n
theorem lfs_is {D S R : Nat → Nat → Nat} {a b p : Nat} (hp : p < 8) (h1 : D a p + R p b = R a b) (h2 : ∀ g, g < p → D a g + R g b ≠ R a b) : ∀ d, d ≤ 8 → 8 - d ≤ p → lfs D S R a b d = S a p := by
  intro d
  induction d with
  | zero => intro _ h; omega
  | succ d ih =>
    intro hd hl
    unfold lfs
    by_cases c : 8 - (d + 1) = p
    · rw [c, if_pos h1]
    · rw [if_neg (h2 _ (by omega))]
      exact ih (by omega) (by omega)
def pfs (fr tt : zN') (nc : Nat) (cm : Nat → Nat → Nat) (nf a b : Nat) : Nat := if a = b ∨ fINF ≤ fD 16 cm nf a b then 4294967295 else pcv fr tt nc cm nf b a
theorem fwd16_8 {cm : Nat → Nat → Nat} {a f : Nat} : fwd 8 cm a f < fINF → cm a f ≠ 0 := fun h c => by
  unfold fwd at h
  rw [if_pos c] at h
  omega
theorem lfs_pcv {fr tt co : zN'} {skip nc nf a b : Nat} (hb : bok fr tt nc nf) (hco : ∀ c, c < nc → 1 ≤ co c ∧ co c ≤ 99) (ha : a < nf) (hab : a ≠ b) (hr : fD 16 (cmt fr tt co skip nc) nf a b < fINF) : lfs (fwd 8 (cmt fr tt co skip nc)) (stp fr tt skip nc) (fD 8 (cmt fr tt co skip nc) nf) a b 8 = pcv fr tt nc (cmt fr tt co skip nc) nf b a := by
  have hc : cok (cmt fr tt co skip nc) nf := cok_cmt hb (fun c h => (hco c h).2)
  have hf : cfr fr tt nc (cmt fr tt co skip nc) := cfr_cmt
  obtain ⟨g1, g2, g3, g4, -⟩ := pn_step hc ha hab hr
  obtain ⟨x1, -, x3, x4, x5, x6⟩ := pnx_some (Nat.le_refl _) g1
  obtain ⟨p1, p2, p3, p4⟩ := pcv_is hb hf hc ha hab hr
  obtain ⟨hn, he, hm⟩ := id hc
  have t1 := fD_tight hn he hm ha x1 hab hr
  rw [lfs_is (p := pn (cmt fr tt co skip nc) nf a b) (by omega) (t1.mpr ⟨x4, x5⟩) (fun g hg q => ?_) 8 (by omega) (by omega)]
  · obtain ⟨c, c1, c2, c3, c4, -⟩ := cmt_nz g4
    have ec : pcv fr tt nc (cmt fr tt co skip nc) nf b a = c := hb.2.2.2 _ _ p2 c1 (by rw [p3, c2]) (by rw [p4, c3])
    rw [ec]
    have := stp_at (skip := skip) hb c1 c4 nc (Nat.le_refl _) c1
    rw [c2, c3] at this
    exact this
  · have t2 := (fD_tight hn he hm ha (f := g) (by omega) hab hr).mp q
    have cg := (fwd_lt t2.1).1
    exact x6 g (by omega) hg ⟨fun z => (he a g cg).1 z.symm, t2⟩
