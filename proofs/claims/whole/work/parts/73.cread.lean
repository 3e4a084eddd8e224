/-! pure: the component's questions on paths -/
def pat (cm : Nat → Nat → Nat) (nf b : Nat) : Nat → Nat → Nat
  | 0, a => a
  | i + 1, a => pat cm nf b i (pn cm nf a b)
section CREAD
variable {h : zH} {w bd nf nc np : Nat} {fr tt gr lo ac li : zN'} {cm : Nat → Nat → Nat}
theorem f_rd2 {a b : Nat} (hP : PF h w nf nc fr tt cm) (hn : nf ≤ 8) (ha : a < nf) (hb : b < nf) : zaI h (w + 2 + 9 * 2 + a) (nI b) = some (nI (fD 8 cm nf a b)) := by
  obtain ⟨k, l⟩ := (hP.1.2.2 2 a (by omega) (by omega)).2
  rw [aI_ k (by omega) (by omega), (hP.2 a b ha hb).1]
theorem f_rd3 {a b : Nat} (hP : PF h w nf nc fr tt cm) (hn : nf ≤ 8) (ha : a < nf) (hb : b < nf) : zaI h (w + 2 + 9 * 3 + a) (nI b) = some (nI (pfs fr tt nc cm nf a b)) := by
  obtain ⟨k, l⟩ := (hP.1.2.2 3 a (by omega) (by omega)).2
  rw [aI_ k (by omega) (by omega), (hP.2 a b ha hb).2]
theorem f_rank {a b : Nat} (hP : PF h w nf nc fr tt cm) (hn : nf ≤ 8) (ha : a < nf) (hb : b < nf) : fX2_rankOf h w (nI a) (nI b) = some (nI (fD 8 cm nf a b), h) := by
  have hs := hP.1
  have r := f_rd2 hP hn ha hb
  unfold fX2_rankOf
  simp (disch := first | assumption | (simp only [sI_kd, sP_kd, rw_kd, sI_ln, sP_ln, rw_ln] <;> first | assumption | omega) | omega) only [nl, nI_add, pk_mul, Option.bind_some, zb2_some, nI_le_t, nI_le_f, nI_lt_t, nI_lt_f, nI_eq_t, nI_eq_f, nI_m1, nI_em1, ↓reduceIte, Nat.add_zero, hs.1, hs.p, hs.r, r]
theorem f_conn {a b : Nat} (hP : PF h w nf nc fr tt cm) (hc : cok cm nf) (ha : a < nf) (hb : b < nf) : fX2_connects h w (nI a) (nI b) = some (if fD 16 cm nf a b < fINF then nI 1 else nI 0, h) := by
  have hn := hc.1
  have hs := hP.1
  have r := f_rd2 hP hn ha hb
  have bo := (fD_both hn hc.2.1 hc.2.2 (a := a) (b := b) ha).1
  have l8 := fD_le8 hc a b
  have fi : fINF = 1000000 := rfl
  unfold fX2_connects
  by_cases c : fD 16 cm nf a b < fINF
  · have c8 := bo.mp c
    rw [if_pos c]
    simp (disch := first | assumption | (simp only [sI_kd, sP_kd, rw_kd, sI_ln, sP_ln, rw_ln] <;> first | assumption | omega) | omega) only [nl, nI_add, pk_mul, Option.bind_some, zb2_some, nI_le_t, nI_le_f, nI_lt_t, nI_lt_f, nI_eq_t, nI_eq_f, nI_m1, nI_em1, ↓reduceIte, Nat.add_zero, hs.1, hs.p, hs.r, r]
  · have c8 : ¬ fD 8 cm nf a b < fINF := fun z => c (bo.mpr z)
    rw [if_neg c]
    simp (disch := first | assumption | (simp only [sI_kd, sP_kd, rw_kd, sI_ln, sP_ln, rw_ln] <;> first | assumption | omega) | omega) only [nl, nI_add, pk_mul, Option.bind_some, zb2_some, nI_le_t, nI_le_f, nI_lt_t, nI_lt_f, nI_eq_t, nI_eq_f, nI_m1, nI_em1, ↓reduceIte, Nat.add_zero, hs.1, hs.p, hs.r, r]
theorem f_cost {a b : Nat} (hP : PF h w nf nc fr tt cm) (hc : cok cm nf) (ha : a < nf) (hb : b < nf) : fX2_costOf h w (nI a) (nI b) = some (nI (if fD 16 cm nf a b < fINF then fD 16 cm nf a b / 16 else 4294967287), h) := by
  have hn := hc.1
  have hs := hP.1
  have r := f_rd2 hP hn ha hb
  have cn := f_conn hP hc ha hb
  have bo := fD_both hn hc.2.1 hc.2.2 (a := a) (b := b) ha
  unfold fX2_costOf
  by_cases c : fD 16 cm nf a b < fINF
  · obtain ⟨C, m, e1, e2, e3, e4, -⟩ := bo.2 c
    have dv : nI (fD 8 cm nf a b) / nI 8 = nI (fD 16 cm nf a b / 16) := by
      rw [pk_div (by omega) (by omega) (by omega)]
      congr 1
      omega
    rw [if_pos c] at cn ⊢
    simp (disch := first | assumption | (simp only [sI_kd, sP_kd, rw_kd, sI_ln, sP_ln, rw_ln] <;> first | assumption | omega) | omega) only [nl, nI_add, pk_mul, Option.bind_some, zb2_some, nI_le_t, nI_le_f, nI_lt_t, nI_lt_f, nI_eq_t, nI_eq_f, nI_m1, nI_em1, ↓reduceIte, Nat.add_zero, hs.1, cn, hs.p, hs.r, r, dv]
  · rw [if_neg c] at cn ⊢
    simp (disch := first | assumption | (simp only [sI_kd, sP_kd, rw_kd, sI_ln, sP_ln, rw_ln] <;> first | assumption | omega) | omega) only [nl, nI_add, pk_mul, Option.bind_some, zb2_some, nI_le_t, nI_le_f, nI_lt_t, nI_lt_f, nI_eq_t, nI_eq_f, nI_m1, nI_em1, ↓reduceIte, Nat.add_zero, hs.1, cn, nI_n9]
theorem f_steps {a b : Nat} (hP : PF h w nf nc fr tt cm) (hc : cok cm nf) (ha : a < nf) (hb : b < nf) : fX2_stepsOf h w (nI a) (nI b) = some (nI (if fD 16 cm nf a b < fINF then fD 16 cm nf a b % 16 else 4294967287), h) := by
  have hn := hc.1
  have hs := hP.1
  have r := f_rd2 hP hn ha hb
  have cn := f_conn hP hc ha hb
  have bo := fD_both hn hc.2.1 hc.2.2 (a := a) (b := b) ha
  unfold fX2_stepsOf
  by_cases c : fD 16 cm nf a b < fINF
  · obtain ⟨C, m, e1, e2, e3, e4, -⟩ := bo.2 c
    have dv : nI (fD 8 cm nf a b) - nI (fD 8 cm nf a b) / nI 8 * nI 8 = nI (fD 16 cm nf a b % 16) := by
      rw [pk_rem (by omega) (by omega) (by omega)]
      congr 1
      omega
    rw [if_pos c] at cn ⊢
    simp (disch := first | assumption | (simp only [sI_kd, sP_kd, rw_kd, sI_ln, sP_ln, rw_ln] <;> first | assumption | omega) | omega) only [nl, nI_add, pk_mul, Option.bind_some, zb2_some, nI_le_t, nI_le_f, nI_lt_t, nI_lt_f, nI_eq_t, nI_eq_f, nI_m1, nI_em1, ↓reduceIte, Nat.add_zero, hs.1, cn, hs.p, hs.r, r, dv]
  · rw [if_neg c] at cn ⊢
    simp (disch := first | assumption | (simp only [sI_kd, sP_kd, rw_kd, sI_ln, sP_ln, rw_ln] <;> first | assumption | omega) | omega) only [nl, nI_add, pk_mul, Option.bind_some, zb2_some, nI_le_t, nI_le_f, nI_lt_t, nI_lt_f, nI_eq_t, nI_eq_f, nI_m1, nI_em1, ↓reduceIte, Nat.add_zero, hs.1, cn, nI_n9]
theorem pfs_go {a b : Nat} (hab : a ≠ b) (hr : fD 16 cm nf a b < fINF) : pfs fr tt nc cm nf a b = pcv fr tt nc cm nf b a := if_neg (fun z => z.elim hab (fun y => by omega))
theorem pfs_no {a b : Nat} (hr : ¬ fD 16 cm nf a b < fINF) : pfs fr tt nc cm nf a b = 4294967295 := if_pos (Or.inr (by omega))
theorem pfs_eq {a : Nat} : pfs fr tt nc cm nf a a = 4294967295 := if_pos (Or.inl rfl)
theorem f_loss_L {u1 : Int32} {b : Nat} {k : zH → Int32 → Int32 → Int32 → Option (Int32 × zH)} (hP : PF h w nf nc fr tt cm) (hB : BR h bd nf nc np fr tt gr lo ac li) (hO : bOK nf nc np fr tt gr lo ac li) (hc : cok cm nf) (hf : cfr fr tt nc cm) (hb : b < nf) : ∀ s f v i n, f < nf → fD 16 cm nf f b < fINF → pst cm nf f b = s → i + s ≤ 7 → s < n → ∃ y, fX2_lossOf_L9 k w u1 (nI b) bd n h (nI v) (nI f) (nI i) = k h (nI (v + plo lo (pcv fr tt nc cm nf b) (fun f => pn cm nf f b) s f)) (nI b) y := by
  have hn := hc.1
  have hs := hP.1
  have n20 := hO.1.2.1
  intro s
  induction s with
  | zero =>
    intro f v i n hf' hr hp hi hn'
    obtain ⟨n, rfl⟩ := fuel1 hn'
    have e := (pst_0 hc hf' hr).mp hp
    subst e
    refine ⟨nI i, ?_⟩
    rw [fX2_lossOf_L9]
    simp (disch := first | assumption | (simp only [sI_kd, sP_kd, rw_kd, sI_ln, sP_ln, rw_ln] <;> first | assumption | omega) | omega) only [nl, nI_add, pk_mul, Option.bind_some, zb2_some, nI_le_t, nI_le_f, nI_lt_t, nI_lt_f, nI_eq_t, nI_eq_f, nI_m1, nI_em1, ↓reduceIte, Nat.add_zero]
    rfl
  | succ s ih =>
    intro f v i n hf' hr hp hi hn'
    obtain ⟨n, rfl⟩ := fuel1 hn'
    have hab : f ≠ b := fun z => by have := (pst_0 hc hf' hr).mpr z; omega
    obtain ⟨g1, g2, g3, g4, g5, g6, -⟩ := pn_step hc hf' hab hr
    obtain ⟨p1, p2, p3, p4⟩ := pcv_is hO.1 hf hc hf' hab hr
    have r := f_rd3 hP hn hf' hb
    rw [pfs_go hab hr] at r
    obtain ⟨y, i1⟩ := ih (pn cm nf f b) (v + lo (pcv fr tt nc cm nf b f)) (i + 1) n g2 g5 (by omega) (by omega) (by omega)
    refine ⟨y, ?_⟩
    have l1 : zaI h (bd + 2) (nI (pcv fr tt nc cm nf b f)) = some (nI (pn cm nf f b)) := by rw [hB.gtt n20 p2, p4]
    rw [fX2_lossOf_L9]
    simp (disch := first | assumption | (simp only [sI_kd, sP_kd, rw_kd, sI_ln, sP_ln, rw_ln] <;> first | assumption | omega) | omega) only [nl, nI_add, pk_mul, Option.bind_some, zb2_some, nI_le_t, nI_le_f, nI_lt_t, nI_lt_f, nI_eq_t, nI_eq_f, nI_m1, nI_em1, ↓reduceIte, Nat.add_zero, hs.p, hs.r, r, hB.1.p4, hB.1.p1, hB.glo n20, l1]
    rw [i1, Nat.add_assoc]
    rfl
theorem f_loss {a b : Nat} (hP : PF h w nf nc fr tt cm) (hB : BR h bd nf nc np fr tt gr lo ac li) (hO : bOK nf nc np fr tt gr lo ac li) (hc : cok cm nf) (hf : cfr fr tt nc cm) (ha : a < nf) (hb : b < nf) : fX2_lossOf h w (nI a) (nI b) bd = some (nI (if fD 16 cm nf a b < fINF then ploss fr tt lo nc cm nf a b else 4294967287), h) := by
  have hn := hc.1
  have hs := hP.1
  unfold fX2_lossOf
  rw [if_pos hs.1]
  by_cases c : fD 16 cm nf a b < fINF
  · rw [if_pos c]
    have p7 : pst cm nf a b ≤ 7 := by
      by_cases z : a = b
      · rw [(pst_0 hc ha c).mpr z]; omega
      · exact (pn_step hc ha z c).2.2.2.2.2.2.1
    obtain ⟨y, e⟩ := f_loss_L (k := fun h1 y2 y3 y4 => some (y2, h1)) (u1 := nI a) hP hB hO hc hf hb (pst cm nf a b) a 0 0 zF ha c rfl (by omega) (by unfold zF; omega)
    rw [Nat.zero_add] at e
    exact e
  · rw [if_neg c]
    have hab : a ≠ b := fun z => c (by rw [z, fD_diag]; decide)
    have r := f_rd3 hP hn ha hb
    rw [pfs_no c] at r
    rw [show zF = 9999 + 1 from rfl, fX2_lossOf_L9]
    simp (disch := first | assumption | (simp only [sI_kd, sP_kd, rw_kd, sI_ln, sP_ln, rw_ln] <;> first | assumption | omega) | omega) only [nl, nI_add, pk_mul, Option.bind_some, zb2_some, nI_le_t, nI_le_f, nI_lt_t, nI_lt_f, nI_eq_t, nI_eq_f, nI_m1, nI_em1, ↓reduceIte, Nat.add_zero, hs.p, hs.r, r, nI_n9]
theorem f_sas {c v : Nat} (hB : BR h bd nf nc np fr tt gr lo ac li) (hO : bOK nf nc np fr tt gr lo ac li) (hc : c < nc) (hv : v ≤ 99999) : fX0_sizeAfterStep h bd (nI c) (nI v) = some (nI (gw (gr c) v), h) := by
  have n20 := hO.1.2.1
  have g := (hO.2.2.2.1 c hc).2.1
  have m : v * gr c ≤ 99999 * 99 := Nat.mul_le_mul hv g
  have dv : nI (v * gr c + 9) / nI 10 = nI ((v * gr c + 9) / 10) := pk_div (by omega) (by omega) (by omega)
  unfold fX0_sizeAfterStep gw
  by_cases q : (v * gr c + 9) / 10 ≤ 99999
  · rw [if_pos q]
    simp (disch := first | assumption | (simp only [sI_kd, sP_kd, rw_kd, sI_ln, sP_ln, rw_ln] <;> first | assumption | omega) | omega) only [nl, nI_add, pk_mul, Option.bind_some, zb2_some, nI_le_t, nI_le_f, nI_lt_t, nI_lt_f, nI_eq_t, nI_eq_f, nI_m1, nI_em1, ↓reduceIte, Nat.add_zero, hB.1.1, hB.1.p3, hB.ggr n20, dv]
  · rw [if_neg q]
    simp (disch := first | assumption | (simp only [sI_kd, sP_kd, rw_kd, sI_ln, sP_ln, rw_ln] <;> first | assumption | omega) | omega) only [nl, nI_add, pk_mul, Option.bind_some, zb2_some, nI_le_t, nI_le_f, nI_lt_t, nI_lt_f, nI_eq_t, nI_eq_f, nI_m1, nI_em1, ↓reduceIte, Nat.add_zero, hB.1.1, hB.1.p3, hB.ggr n20, dv]
theorem f_size_L {u1 u3 : Int32} {b : Nat} {k : zH → Int32 → Int32 → Int32 → Option (Int32 × zH)} (hP : PF h w nf nc fr tt cm) (hB : BR h bd nf nc np fr tt gr lo ac li) (hO : bOK nf nc np fr tt gr lo ac li) (hc : cok cm nf) (hf : cfr fr tt nc cm) (hb : b < nf) : ∀ s f v i n, v ≤ 99999 → f < nf → fD 16 cm nf f b < fINF → pst cm nf f b = s → i + s ≤ 7 → s < n → ∃ y, fX2_sizeAtEnd_L9 k w u1 (nI b) u3 bd n h (nI v) (nI f) (nI i) = k h (nI (psi gr (pcv fr tt nc cm nf b) (fun f => pn cm nf f b) s f v)) (nI b) y := by
  have hn := hc.1
  have hs := hP.1
  have n20 := hO.1.2.1
  intro s
  induction s with
  | zero =>
    intro f v i n hv hf' hr hp hi hn'
    obtain ⟨n, rfl⟩ := fuel1 hn'
    have e := (pst_0 hc hf' hr).mp hp
    subst e
    refine ⟨nI i, ?_⟩
    rw [fX2_sizeAtEnd_L9]
    simp (disch := first | assumption | (simp only [sI_kd, sP_kd, rw_kd, sI_ln, sP_ln, rw_ln] <;> first | assumption | omega) | omega) only [nl, nI_add, pk_mul, Option.bind_some, zb2_some, nI_le_t, nI_le_f, nI_lt_t, nI_lt_f, nI_eq_t, nI_eq_f, nI_m1, nI_em1, ↓reduceIte, Nat.add_zero]
    rfl
  | succ s ih =>
    intro f v i n hv hf' hr hp hi hn'
    obtain ⟨n, rfl⟩ := fuel1 hn'
    have hab : f ≠ b := fun z => by have := (pst_0 hc hf' hr).mpr z; omega
    obtain ⟨g1, g2, g3, g4, g5, g6, -⟩ := pn_step hc hf' hab hr
    obtain ⟨p1, p2, p3, p4⟩ := pcv_is hO.1 hf hc hf' hab hr
    have r := f_rd3 hP hn hf' hb
    rw [pfs_go hab hr] at r
    obtain ⟨y, i1⟩ := ih (pn cm nf f b) (gw (gr (pcv fr tt nc cm nf b f)) v) (i + 1) n (gw_le _ _) g2 g5 (by omega) (by omega) (by omega)
    refine ⟨y, ?_⟩
    have l1 : zaI h (bd + 2) (nI (pcv fr tt nc cm nf b f)) = some (nI (pn cm nf f b)) := by rw [hB.gtt n20 p2, p4]
    have sa := f_sas hB hO p2 hv
    rw [fX2_sizeAtEnd_L9]
    simp (disch := first | assumption | (simp only [sI_kd, sP_kd, rw_kd, sI_ln, sP_ln, rw_ln] <;> first | assumption | omega) | omega) only [nl, nI_add, pk_mul, Option.bind_some, zb2_some, nI_le_t, nI_le_f, nI_lt_t, nI_lt_f, nI_eq_t, nI_eq_f, nI_m1, nI_em1, ↓reduceIte, Nat.add_zero, hs.p, hs.r, r, hB.1.p1, sa, l1]
    exact i1
theorem pst_7 {a b : Nat} (hc : cok cm nf) (ha : a < nf) (c : fD 16 cm nf a b < fINF) : pst cm nf a b ≤ 7 := by
  by_cases z : a = b
  · rw [(pst_0 hc ha c).mpr z]; omega
  · exact (pn_step hc ha z c).2.2.2.2.2.2.1
theorem f_size {a b v : Nat} (hP : PF h w nf nc fr tt cm) (hB : BR h bd nf nc np fr tt gr lo ac li) (hO : bOK nf nc np fr tt gr lo ac li) (hc : cok cm nf) (hf : cfr fr tt nc cm) (ha : a < nf) (hb : b < nf) (hv : v ≤ 99999) : fX2_sizeAtEnd h w (nI a) (nI b) (nI v) bd = some (nI (if fD 16 cm nf a b < fINF then psize fr tt gr nc cm nf a b v else 4294967287), h) := by
  have hn := hc.1
  have hs := hP.1
  unfold fX2_sizeAtEnd
  rw [if_pos hs.1]
  by_cases c : fD 16 cm nf a b < fINF
  · rw [if_pos c]
    have p7 := pst_7 hc ha c
    obtain ⟨y, e⟩ := f_size_L (k := fun h1 y2 y3 y4 => some (y2, h1)) (u1 := nI a) (u3 := nI v) hP hB hO hc hf hb (pst cm nf a b) a v 0 zF hv ha c rfl (by omega) (by unfold zF; omega)
    exact e
  · rw [if_neg c]
    have hab : a ≠ b := fun z => c (by rw [z, fD_diag]; decide)
    have r := f_rd3 hP hn ha hb
    rw [pfs_no c] at r
    rw [show zF = 9999 + 1 from rfl, fX2_sizeAtEnd_L9]
    simp (disch := first | assumption | (simp only [sI_kd, sP_kd, rw_kd, sI_ln, sP_ln, rw_ln] <;> first | assumption | omega) | omega) only [nl, nI_add, pk_mul, Option.bind_some, zb2_some, nI_le_t, nI_le_f, nI_lt_t, nI_lt_f, nI_eq_t, nI_eq_f, nI_m1, nI_em1, ↓reduceIte, Nat.add_zero, hs.p, hs.r, r, nI_n9]
theorem pat_lt {b : Nat} (hc : cok cm nf) : ∀ i a, a < nf → fD 16 cm nf a b < fINF → i ≤ pst cm nf a b → pat cm nf b i a < nf := by
  intro i
  induction i with
  | zero => intro a ha _ _; exact ha
  | succ i ih =>
    intro a ha hr hi
    have hab : a ≠ b := fun z => by have := (pst_0 hc ha hr).mpr z; omega
    obtain ⟨g1, g2, g3, g4, g5, g6, -⟩ := pn_step hc ha hab hr
    exact ih _ g2 g5 (by omega)
theorem f_fmt_L {u1 : Int32} {b x : Nat} (hP : PF h w nf nc fr tt cm) (hB : BR h bd nf nc np fr tt gr lo ac li) (hO : bOK nf nc np fr tt gr lo ac li) (hc : cok cm nf) (hf : cfr fr tt nc cm) (hb : b < nf) (hx : x ≤ 7) : ∀ d f i n, i + d = x → d < n → f < nf → fD 16 cm nf f b < fINF → fX2_formatAt_L18 (fun h4 y5 y6 => some (y5, h4)) w u1 (nI b) (nI x) bd n h (nI f) (nI i) = some (nI (if d ≤ pst cm nf f b then pat cm nf b d f else 4294967287), h) := by
  have hn := hc.1
  have hs := hP.1
  have n20 := hO.1.2.1
  intro d
  induction d with
  | zero =>
    intro f i n hd hn' hf' hr
    obtain ⟨n, rfl⟩ := fuel1 hn'
    rw [if_pos (Nat.zero_le _)]
    rw [fX2_formatAt_L18]
    simp (disch := first | assumption | (simp only [sI_kd, sP_kd, rw_kd, sI_ln, sP_ln, rw_ln] <;> first | assumption | omega) | omega) only [nl, nI_add, pk_mul, Option.bind_some, zb2_some, nI_le_t, nI_le_f, nI_lt_t, nI_lt_f, nI_eq_t, nI_eq_f, nI_m1, nI_em1, ↓reduceIte, Nat.add_zero]
    rfl
  | succ d ih =>
    intro f i n hd hn' hf' hr
    obtain ⟨n, rfl⟩ := fuel1 hn'
    have r := f_rd3 hP hn hf' hb
    by_cases hab : f = b
    · have z := (pst_0 hc hf' hr).mpr hab
      rw [if_neg (by omega)]
      rw [hab, pfs_eq] at r
      rw [fX2_formatAt_L18, hab]
      simp (disch := first | assumption | (simp only [sI_kd, sP_kd, rw_kd, sI_ln, sP_ln, rw_ln] <;> first | assumption | omega) | omega) only [nl, nI_add, pk_mul, Option.bind_some, zb2_some, nI_le_t, nI_le_f, nI_lt_t, nI_lt_f, nI_eq_t, nI_eq_f, nI_m1, nI_em1, ↓reduceIte, Nat.add_zero, hs.p, hs.r, r, nI_n9]
    · obtain ⟨g1, g2, g3, g4, g5, g6, -⟩ := pn_step hc hf' hab hr
      obtain ⟨p1, p2, p3, p4⟩ := pcv_is hO.1 hf hc hf' hab hr
      rw [pfs_go hab hr] at r
      have l1 : zaI h (bd + 2) (nI (pcv fr tt nc cm nf b f)) = some (nI (pn cm nf f b)) := by rw [hB.gtt n20 p2, p4]
      rw [fX2_formatAt_L18]
      simp (disch := first | assumption | (simp only [sI_kd, sP_kd, rw_kd, sI_ln, sP_ln, rw_ln] <;> first | assumption | omega) | omega) only [nl, nI_add, pk_mul, Option.bind_some, zb2_some, nI_le_t, nI_le_f, nI_lt_t, nI_lt_f, nI_eq_t, nI_eq_f, nI_m1, nI_em1, ↓reduceIte, Nat.add_zero, hs.p, hs.r, r, hB.1.p1, l1]
      rw [ih (pn cm nf f b) (i + 1) n (by omega) (by omega) g2 g5]
      by_cases q : d + 1 ≤ pst cm nf f b
      · rw [if_pos q, if_pos (by omega)]
        rfl
      · rw [if_neg q, if_neg (by omega)]
theorem f_fmt {a b x : Nat} (hP : PF h w nf nc fr tt cm) (hB : BR h bd nf nc np fr tt gr lo ac li) (hO : bOK nf nc np fr tt gr lo ac li) (hc : cok cm nf) (hf : cfr fr tt nc cm) (ha : a < nf) (hb : b < nf) (hx : x ≤ 7) : fX2_formatAt h w (nI a) (nI b) (nI x) bd = some (nI (if fD 16 cm nf a b < fINF ∧ x ≤ pst cm nf a b then pat cm nf b x a else 4294967287), h) := by
  have hs := hP.1
  have cn := f_conn hP hc ha hb
  unfold fX2_formatAt
  by_cases c : fD 16 cm nf a b < fINF
  · rw [if_pos c] at cn
    simp (disch := first | assumption | (simp only [sI_kd, sP_kd, rw_kd, sI_ln, sP_ln, rw_ln] <;> first | assumption | omega) | omega) only [nl, nI_add, pk_mul, Option.bind_some, zb2_some, nI_le_t, nI_le_f, nI_lt_t, nI_lt_f, nI_eq_t, nI_eq_f, nI_m1, nI_em1, ↓reduceIte, Nat.add_zero, hs.1, cn]
    rw [f_fmt_L hP hB hO hc hf hb hx x a 0 zF (by omega) (by unfold zF; omega) ha c]
    by_cases q : x ≤ pst cm nf a b
    · rw [if_pos q, if_pos ⟨c, q⟩]
    · rw [if_neg q, if_neg (fun z => q z.2)]
  · rw [if_neg c] at cn
    have nn : ¬ (fD 16 cm nf a b < fINF ∧ x ≤ pst cm nf a b) := fun z => c z.1
    rw [if_neg nn]
    simp (disch := first | assumption | (simp only [sI_kd, sP_kd, rw_kd, sI_ln, sP_ln, rw_ln] <;> first | assumption | omega) | omega) only [nl, nI_add, pk_mul, Option.bind_some, zb2_some, nI_le_t, nI_le_f, nI_lt_t, nI_lt_f, nI_eq_t, nI_eq_f, nI_m1, nI_em1, ↓reduceIte, Nat.add_zero, hs.1, cn, nI_n9]
/-- whether a path passes by -/
def pps (cm : Nat → Nat → Nat) (nf a b f : Nat) : Nat → Bool
  | 0 => false
  | n + 1 => pps cm nf a b f n || decide (fD 16 cm nf a b < fINF ∧ n ≤ pst cm nf a b ∧ pat cm nf b n a = f)
theorem f_pas_L {a b f : Nat} (hP : PF h w nf nc fr tt cm) (hB : BR h bd nf nc np fr tt gr lo ac li) (hO : bOK nf nc np fr tt gr lo ac li) (hc : cok cm nf) (hf : cfr fr tt nc cm) (ha : a < nf) (hb : b < nf) (hF : f < nf) : ∀ d i n, i + d = 8 → d < n → pps cm nf a b f i = false → fX2_passes_L3 (fun h1 y2 => some (0, h1)) w (nI a) (nI b) (nI f) bd n h (nI i) = some (if pps cm nf a b f 8 = true then nI 1 else nI 0, h) := by
  have hn := hc.1
  intro d
  induction d with
  | zero =>
    intro i n hi hn' hp
    obtain ⟨n, rfl⟩ := fuel1 hn'
    have e8 : i = 8 := by omega
    subst e8
    rw [fX2_passes_L3, hp]
    simp (disch := first | assumption | (simp only [sI_kd, sP_kd, rw_kd, sI_ln, sP_ln, rw_ln] <;> first | assumption | omega) | omega) only [nl, nI_add, pk_mul, Option.bind_some, zb2_some, nI_le_t, nI_le_f, nI_lt_t, nI_lt_f, nI_eq_t, nI_eq_f, nI_m1, nI_em1, ↓reduceIte, Nat.add_zero, Bool.false_eq_true]
  | succ d ih =>
    intro i n hi hn' hp
    obtain ⟨n, rfl⟩ := fuel1 hn'
    have fm := f_fmt hP hB hO hc hf ha hb (x := i) (by omega)
    have st : pps cm nf a b f (i + 1) = decide (fD 16 cm nf a b < fINF ∧ i ≤ pst cm nf a b ∧ pat cm nf b i a = f) := by
      show (pps cm nf a b f i || _) = _
      rw [hp, Bool.false_or]
    rw [fX2_passes_L3]
    by_cases q : fD 16 cm nf a b < fINF ∧ i ≤ pst cm nf a b
    · rw [if_pos q] at fm
      have pl := pat_lt hc i a ha q.1 q.2
      by_cases e : pat cm nf b i a = f
      · have all : ∀ j, i + 1 ≤ j → pps cm nf a b f j = true := by
          intro j hj
          obtain ⟨m, rfl⟩ : ∃ m, j = i + 1 + m := ⟨j - (i + 1), by omega⟩
          clear hj
          induction m with
          | zero =>
            show pps cm nf a b f (i + 1) = true
            rw [st]
            exact decide_eq_true ⟨q.1, q.2, e⟩
          | succ m ihm =>
            show (pps cm nf a b f (i + 1 + m) || _) = true
            rw [ihm, Bool.true_or]
        rw [all 8 (by omega)]
        simp (disch := first | assumption | (simp only [sI_kd, sP_kd, rw_kd, sI_ln, sP_ln, rw_ln] <;> first | assumption | omega) | omega) only [nl, nI_add, pk_mul, Option.bind_some, zb2_some, nI_le_t, nI_le_f, nI_lt_t, nI_lt_f, nI_eq_t, nI_eq_f, nI_m1, nI_em1, ↓reduceIte, Nat.add_zero, fm, e]
      · have nx : pps cm nf a b f (i + 1) = false := by
          rw [st]
          exact decide_eq_false (fun z => e z.2.2)
        simp (disch := first | assumption | (simp only [sI_kd, sP_kd, rw_kd, sI_ln, sP_ln, rw_ln] <;> first | assumption | omega) | omega) only [nl, nI_add, pk_mul, Option.bind_some, zb2_some, nI_le_t, nI_le_f, nI_lt_t, nI_lt_f, nI_eq_t, nI_eq_f, nI_m1, nI_em1, ↓reduceIte, Nat.add_zero, fm]
        exact ih (i + 1) n (by omega) (by omega) nx
    · rw [if_neg q] at fm
      have nx : pps cm nf a b f (i + 1) = false := by
        rw [st]
        exact decide_eq_false (fun z => q ⟨z.1, z.2.1⟩)
      have ne : (nI 4294967287 = nI f) = False := eq_false fun z => by
        have := (nI_eqN (by omega) (by omega)).mp z
        omega
      simp (disch := first | assumption | (simp only [sI_kd, sP_kd, rw_kd, sI_ln, sP_ln, rw_ln] <;> first | assumption | omega) | omega) only [nl, nI_add, pk_mul, Option.bind_some, zb2_some, nI_le_t, nI_le_f, nI_lt_t, nI_lt_f, nI_eq_t, nI_eq_f, nI_m1, nI_em1, ↓reduceIte, Nat.add_zero, fm, ne]
      exact ih (i + 1) n (by omega) (by omega) nx
theorem f_pas {a b f : Nat} (hP : PF h w nf nc fr tt cm) (hB : BR h bd nf nc np fr tt gr lo ac li) (hO : bOK nf nc np fr tt gr lo ac li) (hc : cok cm nf) (hf : cfr fr tt nc cm) (ha : a < nf) (hb : b < nf) (hF : f < nf) : fX2_passes h w (nI a) (nI b) (nI f) bd = some (if pps cm nf a b f 8 = true then nI 1 else nI 0, h) := by
  unfold fX2_passes
  rw [if_pos hP.1.1]
  exact f_pas_L hP hB hO hc hf ha hb hF 8 0 zF rfl (by decide) rfl
end CREAD
