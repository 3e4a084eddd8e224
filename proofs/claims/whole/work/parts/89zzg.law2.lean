/-! pure: the law's turns -/
section LAWT
variable {G : zG} {x m u : Nat} {k : zH → Int32 → Option (Int32 × zH)}
set_option maxHeartbeats 4000000 in
theorem law_turn (hL : zgL G ≤ 2048) (hm : x + 801 ≤ m) (hu : m + 24 ≤ u) {n i t : Nat} {h : zH} {A : zSt} (hi : 4 * i + 4 ≤ zgL G) (ht : t < 9000) (L : LI h x m u A) (hA : AI t A) (nx : NX G k x m u n i t) : PY (fL_law_L23 G k x m u (n + 1) h (nI (4 * i))) := by
  have s0 : zsc G (nI (4 * i)) = some (zgx G (4 * i)) := sc_at (by omega) hL
  have s1 : zsc G (nI (4 * i) + 1) = some (zgx G (4 * i + 1)) := by
    rw [show nI (4 * i) + 1 = nI (4 * i + 1) from nI_add _ 1]
    exact sc_at (by omega) hL
  have s2 : zsc G (nI (4 * i) + 2) = some (zgx G (4 * i + 2)) := by
    rw [show nI (4 * i) + 2 = nI (4 * i + 2) from nI_add _ 2]
    exact sc_at (by omega) hL
  have s3 : zsc G (nI (4 * i) + 3) = some (zgx G (4 * i + 3)) := by
    rw [show nI (4 * i) + 3 = nI (4 * i + 3) from nI_add _ 3]
    exact sc_at (by omega) hL
  have ng : ¬ (Int32.ofNat (zgL G) - 4 : Int32) < nI (4 * i) := fun z => by
    have z' : nI (zgL G) - nI 4 < nI (4 * i) := z
    rw [Int32.lt_iff_toInt_lt, pk_sub_toInt (by omega) (by omega), nI_toInt (by omega)] at z'
    omega
  obtain ⟨C, R, uk, ul⟩ := id L
  rw [fL_law_L23]
  refine PY_f ng (PY_b s0 ?_)
  unfold NX at nx
  generalize zgx G (4 * i) = w2
  generalize zgx G (4 * i + 1) = v1 at *
  generalize zgx G (4 * i + 2) = v2 at *
  generalize zgx G (4 * i + 3) = v3 at *
  generalize nI (4 * i) = v4 at *
  by_cases c0 : (w2 &&& 63 : Int32) = 0
  · refine PY_t c0 ?_
    have A1 : AI (t + 1) (appS A v1).2.2 := AI_mono (AI_app hA v1) (by omega)
    have W : WO h x u (fL_append h x v1 u) (appS A v1) := wrap2 (by decide) uk ul (k_app C hA v1)
    obtain ⟨h6, e6, p6⟩ := PY_W hm hu L A1 W (fun h6 R6 => r_app R6 hA v1) (fun g Lg => nx g _ Lg A1)
    exact (PY_b s1 (PY_z e6 (PY_b s1 p6)))
  refine PY_f c0 ?_
  by_cases c1 : (w2 &&& 63 : Int32) = 1
  · refine PY_t c1 ?_
    have A1 : AI (t + 1) (clrS A).2.2 := AI_mono (AI_clr hA) (by omega)
    exact PY_P hm hu L A1 (k_clr C hA) (fun h6 R6 => r_clr R6) (fun g Lg => nx g _ Lg A1)
  refine PY_f c1 ?_
  by_cases c2 : (w2 &&& 63 : Int32) = 2
  · refine PY_t c2 ?_
    have A1 : AI (t + 1) (errS A).2.2 := AI_eq hA (same_errS A)
    exact PY_P hm hu L A1 (k_err C hA) (fun h6 R6 => r_err R6 hA) (fun g Lg => nx g _ Lg A1)
  refine PY_f c2 ?_
  by_cases c3 : (w2 &&& 63 : Int32) = 3
  · refine PY_t c3 ?_
    refine law_load hm hu L hA (fun g A' Lg A1 => nx g A' Lg A1)
  refine PY_f c3 ?_
  by_cases c4 : (w2 &&& 63 : Int32) = 4
  · refine PY_t c4 ?_
    have A1 : AI (t + 1) (abtS A v1).2.2 := AI_eq hA (same_abtS A v1)
    have W : WO h x u (fL_about h x v1 u) (abtS A v1) := wrap1 uk ul (k_abt C hA v1)
    obtain ⟨h6, e6, p6⟩ := PY_W hm hu L A1 W (fun h6 R6 => r_abt R6 hA v1) (fun g Lg => nx g _ Lg A1)
    exact (PY_b s1 (PY_z e6 (PY_b s1 p6)))
  refine PY_f c4 ?_
  by_cases c5 : (w2 &&& 63 : Int32) = 5
  · refine PY_t c5 ?_
    have A1 : AI (t + 1) (cvS A v1 v2).2.2 := AI_eq hA (same_cvS A v1 v2)
    have W : WO h x u (fL_conversion h x v1 v2 u) (cvS A v1 v2) := wrap2 (by decide) uk ul (k_cv C hA v1 v2)
    obtain ⟨h6, e6, p6⟩ := PY_W hm hu L A1 W (fun h6 R6 => r_cv R6 hA v1 v2) (fun g Lg => nx g _ Lg A1)
    exact (PY_b s1 (PY_b s2 (PY_z e6 (PY_b s1 (PY_b s2 p6)))))
  refine PY_f c5 ?_
  by_cases c6 : (w2 &&& 63 : Int32) = 6
  · refine PY_t c6 ?_
    have A1 : AI (t + 1) (plS A v1 v2).2.2 := AI_eq hA (same_plS A v1 v2)
    have W : WO h x u (fL_place h x v1 v2 u) (plS A v1 v2) := wrap2 (by decide) uk ul (k_pl C hA v1 v2)
    obtain ⟨h6, e6, p6⟩ := PY_W hm hu L A1 W (fun h6 R6 => r_pl R6 hA v1 v2) (fun g Lg => nx g _ Lg A1)
    exact (PY_b s1 (PY_b s2 (PY_z e6 (PY_b s1 (PY_b s2 p6)))))
  refine PY_f c6 ?_
  by_cases c7 : (w2 &&& 63 : Int32) = 7
  · refine PY_t c7 ?_
    have A1 : AI (t + 1) (entS A v1 v2).2.2 := AI_eq hA (same_entS A v1 v2)
    have W : WO h x u (fL_entry h x v1 v2 u) (entS A v1 v2) := wrap2 (by decide) uk ul (k_ent C hA v1 v2)
    obtain ⟨h6, e6, p6⟩ := PY_W hm hu L A1 W (fun h6 R6 => r_ent R6 hA v1 v2) (fun g Lg => nx g _ Lg A1)
    exact (PY_b s1 (PY_b s2 (PY_z e6 (PY_b s1 (PY_b s2 p6)))))
  refine PY_f c7 ?_
  by_cases c8 : (w2 &&& 63 : Int32) = 8
  · refine PY_t c8 ?_
    refine PY_b s1 (PY_b s2 (PY_b s3 ?_))
    by_cases cz : v3 = 0
    · refine PY_t cz ?_
      have A1 : AI (t + 1) (frmS A v1 v2 0).2.2 := AI_eq hA (same_frmS A v1 v2 0)
      have W : WO h x u (fL_form h x v1 v2 0 u) (frmS A v1 v2 0) := wrap1 uk ul (k_frm C hA v1 v2 0)
      obtain ⟨h6, e6, p6⟩ := PY_W hm hu L A1 W (fun h6 R6 => r_frm R6 hA v1 v2 0) (fun g Lg => nx g _ Lg A1)
      exact PY_z e6 (PY_b s1 (PY_b s2 (PY_b s3 (PY_t cz p6))))
    · refine PY_f cz ?_
      have A1 : AI (t + 1) (frmS A v1 v2 1).2.2 := AI_eq hA (same_frmS A v1 v2 1)
      have W : WO h x u (fL_form h x v1 v2 1 u) (frmS A v1 v2 1) := wrap1 uk ul (k_frm C hA v1 v2 1)
      obtain ⟨h6, e6, p6⟩ := PY_W hm hu L A1 W (fun h6 R6 => r_frm R6 hA v1 v2 1) (fun g Lg => nx g _ Lg A1)
      exact PY_z e6 (PY_b s1 (PY_b s2 (PY_b s3 (PY_f cz p6))))
  refine PY_f c8 ?_
  by_cases c9 : (w2 &&& 63 : Int32) = 9
  · refine PY_t c9 ?_
    have A1 : AI (t + 1) (copyS A v1 v2).2.2 := AI_copy hA ht v1 v2
    have W : WO h x u (fL_copy h x v1 v2 u) (copyS A v1 v2) := wrap3 (by decide) (by decide) (by decide) uk ul (k_copy C hA ht v1 v2)
    obtain ⟨h6, e6, p6⟩ := PY_W hm hu L A1 W (fun h6 R6 => r_copy R6 hA ht v1 v2) (fun g Lg => nx g _ Lg A1)
    exact (PY_b s1 (PY_b s2 (PY_z e6 (PY_b s1 (PY_b s2 p6)))))
  refine PY_f c9 ?_
  by_cases c10 : (w2 &&& 63 : Int32) = 10
  · refine PY_t c10 ?_
    have A1 : AI (t + 1) (offerS A v1 v2).2.2 := AI_offer hA ht v1 v2
    have W : WO h x u (fL_offer h x v1 v2 u) (offerS A v1 v2) := wrap3 (by decide) (by decide) (by decide) uk ul (k_offer C hA ht v1 v2)
    obtain ⟨h6, e6, p6⟩ := PY_W hm hu L A1 W (fun h6 R6 => r_offer R6 hA ht v1 v2) (fun g Lg => nx g _ Lg A1)
    exact (PY_b s1 (PY_b s2 (PY_z e6 (PY_b s1 (PY_b s2 p6)))))
  refine PY_f c10 ?_
  by_cases c11 : (w2 &&& 63 : Int32) = 11
  · refine PY_t c11 ?_
    have A1 : AI (t + 1) (pasteS A v1 v2).2.2 := AI_paste hA ht v1 v2
    have W : WO h x u (fL_paste h x v1 v2 u) (pasteS A v1 v2) := wrap2 (by decide) uk ul (k_paste C hA ht v1 v2)
    obtain ⟨h6, e6, p6⟩ := PY_W hm hu L A1 W (fun h6 R6 => r_paste R6 hA ht v1 v2) (fun g Lg => nx g _ Lg A1)
    exact (PY_b s1 (PY_b s2 (PY_z e6 (PY_b s1 (PY_b s2 p6)))))
  refine PY_f c11 ?_
  by_cases c12 : (w2 &&& 63 : Int32) = 12
  · refine PY_t c12 ?_
    have A1 : AI (t + 1) (pinS A v1).2.2 := AI_pin hA v1
    have W : WO h x u (fL_togglePin h x v1 u) (pinS A v1) := wrap1 uk ul (k_pin C hA v1)
    obtain ⟨h6, e6, p6⟩ := PY_W hm hu L A1 W (fun h6 R6 => r_pin R6 hA v1) (fun g Lg => nx g _ Lg A1)
    exact (PY_b s1 (PY_z e6 (PY_b s1 p6)))
  refine PY_f c12 ?_
  by_cases c13 : (w2 &&& 63 : Int32) = 13
  · refine PY_t c13 ?_
    have A1 : AI (t + 1) (remS A v1).2.2 := AI_rem hA v1
    have W : WO h x u (fL_remove h x v1 u) (remS A v1) := wrap1 uk ul (k_rem C hA v1)
    obtain ⟨h6, e6, p6⟩ := PY_W hm hu L A1 W (fun h6 R6 => r_rem R6 hA v1) (fun g Lg => nx g _ Lg A1)
    exact (PY_b s1 (PY_z e6 (PY_b s1 p6)))
  refine PY_f c13 ?_
  by_cases c14 : (w2 &&& 63 : Int32) = 14
  · refine PY_t c14 ?_
    have A1 : AI (t + 1) (budS A v1).2.2 := AI_bud hA v1
    have W : WO h x u (fL_setBudget h x v1 u) (budS A v1) := wrap2 (by decide) uk ul (k_bud C hA v1)
    obtain ⟨h6, e6, p6⟩ := PY_W hm hu L A1 W (fun h6 R6 => r_bud R6 hA v1) (fun g Lg => nx g _ Lg A1)
    exact (PY_b s1 (PY_z e6 (PY_b s1 p6)))
  refine PY_f c14 ?_
  by_cases c15 : (w2 &&& 63 : Int32) = 15
  · refine PY_t c15 ?_
    have A1 : AI (t + 1) (costS A v1 v2).2.2 := AI_cost hA v1 v2
    have W : WO h x u (fL_setCost h x v1 v2 u) (costS A v1 v2) := wrap2 (by decide) uk ul (k_cost C hA v1 v2)
    obtain ⟨h6, e6, p6⟩ := PY_W hm hu L A1 W (fun h6 R6 => r_cost R6 hA v1 v2) (fun g Lg => nx g _ Lg A1)
    exact (PY_b s1 (PY_b s2 (PY_z e6 (PY_b s1 (PY_b s2 p6)))))
  refine PY_f c15 ?_
  by_cases c16 : (w2 &&& 63 : Int32) = 16
  · refine PY_t c16 ?_
    have A1 : AI (t + 1) (undoS A).2.2 := AI_mono (AI_undo hA) (by omega)
    have W : WO h x u (fL_undo h x u) (undoS A) := wrap1 uk ul (k_undo C hA)
    obtain ⟨h6, e6, p6⟩ := PY_W hm hu L A1 W (fun h6 R6 => r_undo R6 hA) (fun g Lg => nx g _ Lg A1)
    exact (PY_z e6 p6)
  refine PY_f c16 ?_
  by_cases c17 : (w2 &&& 63 : Int32) = 17
  · refine PY_t c17 ?_
    have A1 : AI (t + 1) (pthS A v1 v2 v3).2.2 := AI_eq hA (same_pthS A v1 v2 v3)
    have W : WO h x u (fL_path h x v1 v2 v3 u) (pthS A v1 v2 v3) := wrap2 (by decide) uk ul (k_pth C hA v1 v2 v3)
    obtain ⟨h6, e6, p6⟩ := PY_W hm hu L A1 W (fun h6 R6 => r_pth R6 hA v1 v2 v3) (fun g Lg => nx g _ Lg A1)
    exact (PY_b s1 (PY_b s2 (PY_b s3 (PY_z e6 (PY_b s1 (PY_b s2 (PY_b s3 p6)))))))
  refine PY_f c17 ?_
  by_cases c18 : (w2 &&& 63 : Int32) = 18
  · refine PY_t c18 ?_
    have A1 : AI (t + 1) (stpS A v1 v2 v3).2.2 := AI_eq hA (same_stpS A v1 v2 v3)
    have W : WO h x u (fL_step h x v1 v2 v3 u) (stpS A v1 v2 v3) := wrap2 (by decide) uk ul (k_stp C hA v1 v2 v3)
    obtain ⟨h6, e6, p6⟩ := PY_W hm hu L A1 W (fun h6 R6 => r_stp R6 hA v1 v2 v3) (fun g Lg => nx g _ Lg A1)
    exact (PY_b s1 (PY_b s2 (PY_b s3 (PY_z e6 (PY_b s1 (PY_b s2 (PY_b s3 p6)))))))
  refine PY_f c18 ?_
  by_cases c19 : (w2 &&& 63 : Int32) = 19
  · refine PY_t c19 ?_
    have A1 : AI (t + 1) (szaS A v1 v2 v3).2.2 := AI_eq hA (same_szaS A v1 v2 v3)
    have W : WO h x u (fL_sizeAfter h x v1 v2 v3 u) (szaS A v1 v2 v3) := wrap2 (by decide) uk ul (k_sza C hA v1 v2 v3)
    obtain ⟨h6, e6, p6⟩ := PY_W hm hu L A1 W (fun h6 R6 => r_sza R6 hA v1 v2 v3) (fun g Lg => nx g _ Lg A1)
    exact (PY_b s1 (PY_b s2 (PY_b s3 (PY_z e6 (PY_b s1 (PY_b s2 (PY_b s3 p6)))))))
  refine PY_f c19 ?_
  by_cases c20 : (w2 &&& 63 : Int32) = 20
  · refine PY_t c20 ?_
    have A1 : AI (t + 1) (rchS A v1).2.2 := AI_eq hA (same_rchS A v1)
    have W : WO h x u (fL_reachable h x v1 u) (rchS A v1) := wrap1 uk ul (k_rch C hA v1)
    obtain ⟨h6, e6, p6⟩ := PY_W hm hu L A1 W (fun h6 R6 => r_rch R6 hA v1) (fun g Lg => nx g _ Lg A1)
    exact (PY_b s1 (PY_z e6 (PY_b s1 p6)))
  refine PY_f c20 ?_
  by_cases c21 : (w2 &&& 63 : Int32) = 21
  · refine PY_t c21 ?_
    have A1 : AI (t + 1) (woS A v1 v2 v3).2.2 := AI_eq hA (same_woS A v1 v2 v3)
    have W : WO h x u (fL_without h x v1 v2 v3 u) (woS A v1 v2 v3) := wrap1 uk ul (k_wo C hA v1 v2 v3)
    obtain ⟨h6, e6, p6⟩ := PY_W hm hu L A1 W (fun h6 R6 => r_wo R6 hA v1 v2 v3) (fun g Lg => nx g _ Lg A1)
    exact (PY_b s1 (PY_b s2 (PY_b s3 (PY_z e6 (PY_b s1 (PY_b s2 (PY_b s3 p6)))))))
  refine PY_f c21 ?_
  by_cases c22 : (w2 &&& 63 : Int32) = 22
  · refine PY_t c22 ?_
    have A1 : AI (t + 1) (worS A v1).2.2 := AI_eq hA (same_worS A v1)
    have W : WO h x u (fL_worth h x v1 u) (worS A v1) := wrap1 uk ul (k_wor C hA v1)
    obtain ⟨h6, e6, p6⟩ := PY_W hm hu L A1 W (fun h6 R6 => r_wor R6 hA v1) (fun g Lg => nx g _ Lg A1)
    exact (PY_b s1 (PY_z e6 (PY_b s1 p6)))
  refine PY_f c22 ?_
  by_cases c23 : (w2 &&& 63 : Int32) = 23
  · refine PY_t c23 ?_
    have A1 : AI (t + 1) (idlS A).2.2 := AI_eq hA (same_idlS A)
    exact PY_P hm hu L A1 (k_idl C hA) (fun h6 R6 => r_idl R6 hA) (fun g Lg => nx g _ Lg A1)
  refine PY_f c23 ?_
  by_cases c24 : (w2 &&& 63 : Int32) = 24
  · refine PY_t c24 ?_
    have A1 : AI (t + 1) (btwS A v1).2.2 := AI_eq hA (same_btwS A v1)
    have W : WO h x u (fL_between h x v1 u) (btwS A v1) := wrap1 uk ul (k_btw C hA v1)
    obtain ⟨h6, e6, p6⟩ := PY_W hm hu L A1 W (fun h6 R6 => r_btw R6 hA v1) (fun g Lg => nx g _ Lg A1)
    exact (PY_b s1 (PY_z e6 (PY_b s1 p6)))
  refine PY_f c24 ?_
  by_cases c25 : (w2 &&& 63 : Int32) = 25
  · refine PY_t c25 ?_
    have A1 : AI (t + 1) (wayS A v1 v2 v3).2.2 := AI_eq hA (same_wayS A v1 v2 v3)
    have W : WO h x u (fL_way h x v1 v2 v3 u) (wayS A v1 v2 v3) := wrap2 (by decide) uk ul (k_way C hA v1 v2 v3)
    obtain ⟨h6, e6, p6⟩ := PY_W hm hu L A1 W (fun h6 R6 => r_way R6 hA v1 v2 v3) (fun g Lg => nx g _ Lg A1)
    exact (PY_b s1 (PY_b s2 (PY_b s3 (PY_z e6 (PY_b s1 (PY_b s2 (PY_b s3 p6)))))))
  refine PY_f c25 ?_
  by_cases c26 : (w2 &&& 63 : Int32) = 26
  · refine PY_t c26 ?_
    have A1 : AI (t + 1) (bstS A v1).2.2 := AI_eq hA (same_bstS A v1)
    have W : WO h x u (fL_bestFor h x v1 u) (bstS A v1) := wrap1 uk ul (k_bst C hA v1)
    obtain ⟨h6, e6, p6⟩ := PY_W hm hu L A1 W (fun h6 R6 => r_bst R6 hA v1) (fun g Lg => nx g _ Lg A1)
    exact (PY_b s1 (PY_z e6 (PY_b s1 p6)))
  refine PY_f c26 ?_
  by_cases c27 : (w2 &&& 63 : Int32) = 27
  · refine PY_t c27 ?_
    have A1 : AI (t + 1) (vicS A v1).2.2 := AI_eq hA (same_vicS A v1)
    have W : WO h x u (fL_victims h x v1 u) (vicS A v1) := wrap1 uk ul (k_vct C hA ht v1)
    obtain ⟨h6, e6, p6⟩ := PY_W hm hu L A1 W (fun h6 R6 => r_vct R6 hA ht v1) (fun g Lg => nx g _ Lg A1)
    exact (PY_b s1 (PY_z e6 (PY_b s1 p6)))
  refine PY_f c27 ?_
  by_cases c28 : (w2 &&& 63 : Int32) = 28
  · refine PY_t c28 ?_
    have A1 : AI (t + 1) (romS A).2.2 := AI_eq hA (same_romS A)
    exact PY_P hm hu L A1 (k_rom C hA) (fun h6 R6 => r_rom R6 hA) (fun g Lg => nx g _ Lg A1)
  refine PY_f c28 ?_
  by_cases c29 : (w2 &&& 63 : Int32) = 29
  · refine PY_t c29 ?_
    have A1 : AI (t + 1) (rnkS A v1).2.2 := AI_eq hA (same_rnkS A v1)
    have W : WO h x u (fL_ranked h x v1 u) (rnkS A v1) := wrap1 uk ul (k_rnk C hA v1)
    obtain ⟨h6, e6, p6⟩ := PY_W hm hu L A1 W (fun h6 R6 => r_rnk R6 hA v1) (fun g Lg => nx g _ Lg A1)
    exact (PY_b s1 (PY_z e6 (PY_b s1 p6)))
  refine PY_f c29 ?_
  by_cases c30 : (w2 &&& 63 : Int32) = 30
  · refine PY_t c30 ?_
    have A1 : AI (t + 1) (scrS A v1 ((v2.toInt64 <<< ((32 : Int32).toInt64 &&& 63)) ||| (v3.toInt64 &&& 4294967295))).2.2 := AI_eq hA (same_scrS A v1 ((v2.toInt64 <<< ((32 : Int32).toInt64 &&& 63)) ||| (v3.toInt64 &&& 4294967295)))
    have W : WO h x u (fL_runScript h x v1 ((v2.toInt64 <<< ((32 : Int32).toInt64 &&& 63)) ||| (v3.toInt64 &&& 4294967295)) u) (scrS A v1 ((v2.toInt64 <<< ((32 : Int32).toInt64 &&& 63)) ||| (v3.toInt64 &&& 4294967295))) := wrap1 uk ul (k_scr C hA ht v1 ((v2.toInt64 <<< ((32 : Int32).toInt64 &&& 63)) ||| (v3.toInt64 &&& 4294967295)))
    obtain ⟨h6, e6, p6⟩ := PY_W hm hu L A1 W (fun h6 R6 => r_scr R6 hA ht v1 ((v2.toInt64 <<< ((32 : Int32).toInt64 &&& 63)) ||| (v3.toInt64 &&& 4294967295))) (fun g Lg => nx g _ Lg A1)
    exact (PY_b s1 (PY_b s2 (PY_b s3 (PY_z e6 (PY_b s1 (PY_b s2 (PY_b s3 p6)))))))
  refine PY_f c30 ?_
  by_cases c31 : (w2 &&& 63 : Int32) = 31
  · refine PY_t c31 ?_
    have A1 : AI (t + 1) (simS A ((v1.toInt64 <<< ((32 : Int32).toInt64 &&& 63)) ||| (v2.toInt64 &&& 4294967295)) v3).2.2 := AI_eq hA (same_simS A ((v1.toInt64 <<< ((32 : Int32).toInt64 &&& 63)) ||| (v2.toInt64 &&& 4294967295)) v3)
    have W : WO h x u (fL_simulate h x ((v1.toInt64 <<< ((32 : Int32).toInt64 &&& 63)) ||| (v2.toInt64 &&& 4294967295)) v3 u) (simS A ((v1.toInt64 <<< ((32 : Int32).toInt64 &&& 63)) ||| (v2.toInt64 &&& 4294967295)) v3) := wrap1 uk ul (k_sim C hA ht ((v1.toInt64 <<< ((32 : Int32).toInt64 &&& 63)) ||| (v2.toInt64 &&& 4294967295)) v3)
    obtain ⟨h6, e6, p6⟩ := PY_W hm hu L A1 W (fun h6 R6 => r_sim R6 hA ht ((v1.toInt64 <<< ((32 : Int32).toInt64 &&& 63)) ||| (v2.toInt64 &&& 4294967295)) v3) (fun g Lg => nx g _ Lg A1)
    exact (PY_b s1 (PY_b s2 (PY_b s3 (PY_z e6 (PY_b s1 (PY_b s2 (PY_b s3 p6)))))))
  refine PY_f c31 ?_
  by_cases c32 : (w2 &&& 63 : Int32) = 32
  · refine PY_t c32 ?_
    have A1 : AI (t + 1) (saveS A v1).2.2 := AI_mono (AI_save hA v1) (by omega)
    have W : WO h x u (fL_save h x v1 u) (saveS A v1) := wrap1 uk ul (k_save C hA v1)
    obtain ⟨h6, e6, p6⟩ := PY_W hm hu L A1 W (fun h6 R6 => r_save R6 hA v1) (fun g Lg => nx g _ Lg A1)
    exact (PY_b s1 (PY_z e6 (PY_b s1 p6)))
  refine PY_f c32 ?_
  by_cases c33 : (w2 &&& 63 : Int32) = 33
  · refine PY_t c33 ?_
    have A1 : AI (t + 1) (resS A v1).2.2 := AI_mono (AI_res hA v1) (by omega)
    have W : WO h x u (fL_restore h x v1 u) (resS A v1) := wrap2 (by decide) uk ul (k_res C hA v1)
    obtain ⟨h6, e6, p6⟩ := PY_W hm hu L A1 W (fun h6 R6 => r_res R6 hA v1) (fun g Lg => nx g _ Lg A1)
    exact (PY_b s1 (PY_z e6 (PY_b s1 p6)))
  refine PY_f c33 ?_
  exact nx h A L (AI_mono hA (by omega))
end LAWT
