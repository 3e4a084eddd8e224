/-! the law from its entry, out of the pure statement law_true -/
theorem z0_rep {G : zG} {H : Heap} (h : H.size = zgB G) : zRep G (z0 G) H := ⟨Nat.le_of_eq h.symm, Or.inr h, fun a ha => absurd rfl ha⟩
theorem zTb_in {w : Cond} (h : w ∈ zTb) : w ∈ lw_tbl := (List.mem_filter.mp h).1
theorem zmemT {w : Cond} (i : Nat) (h : lw_tbl[i]? = some w) : w ∈ lw_tbl := List.mem_of_getElem? h
theorem zarr_of {s : State} {args : Array Value} {ty : FieldType} (h : (Cond.arrayClass ty).before args s = true) (hp : ∀ C, ty ≠ .object C) : ∃ cA, s.vm.findClass ("[" ++ ty.toString) = some cA ∧ ArrOfT s cA ty ∧ va_RA s cA ty := by
  obtain ⟨c, k, comp, h1, h2, h3⟩ := Cond.arrayClass_spec h
  refine ⟨c, h1, fun n z => ⟨(fun k h => by cases h), k, h2, comp, h3⟩, ?_⟩
  cases ty with
  | object C => exact absurd rfl (hp C)
  | _ => exact h1
theorem zarr_obj {s : State} {C : String} (h : va_AO C s) : ∃ cA, ArrOfT s cA (.object C) ∧ va_RA s cA (.object C) := by
  obtain ⟨comp, c, k, h1, h2, h3, h4, h5⟩ := Cond.arrayOver_spec h
  exact ⟨c, fun n z => ⟨(fun k h => by cases h), k, h3, comp, h4⟩, k, comp, h3, h4, h1, h5⟩
theorem zarr_arr {s : State} {t : FieldType} (h : va_AOA t s) : ∃ cA, ArrOfT s cA (.array t) ∧ va_RA s cA (.array t) := by
  obtain ⟨comp, c, k, h1, h2, h3, h4, h5⟩ := arrayOverA_spec h
  exact ⟨c, fun n z => ⟨(fun k h => by cases h), k, h3, comp, h4⟩, h5⟩
theorem zStr_in : ∀ q ∈ zStr, Cond.stringRef RX6 q.1 q.2 ∈ lw_tbl := by
  unfold zStr
  refine List.forall_mem_cons.mpr ⟨zmemT 549 (by decide +kernel), ?_⟩
  refine List.forall_mem_cons.mpr ⟨zmemT 589 (by decide +kernel), ?_⟩
  refine List.forall_mem_cons.mpr ⟨zmemT 608 (by decide +kernel), ?_⟩
  refine List.forall_mem_cons.mpr ⟨zmemT 620 (by decide +kernel), ?_⟩
  refine List.forall_mem_cons.mpr ⟨zmemT 642 (by decide +kernel), ?_⟩
  refine List.forall_mem_cons.mpr ⟨zmemT 649 (by decide +kernel), ?_⟩
  refine List.forall_mem_cons.mpr ⟨zmemT 665 (by decide +kernel), ?_⟩
  refine List.forall_mem_cons.mpr ⟨zmemT 666 (by decide +kernel), ?_⟩
  refine List.forall_mem_cons.mpr ⟨zmemT 682 (by decide +kernel), ?_⟩
  refine List.forall_mem_cons.mpr ⟨zmemT 690 (by decide +kernel), ?_⟩
  refine List.forall_mem_cons.mpr ⟨zmemT 703 (by decide +kernel), ?_⟩
  refine List.forall_mem_cons.mpr ⟨zmemT 721 (by decide +kernel), ?_⟩
  refine List.forall_mem_cons.mpr ⟨zmemT 732 (by decide +kernel), ?_⟩
  refine List.forall_mem_cons.mpr ⟨zmemT 807 (by decide +kernel), ?_⟩
  refine List.forall_mem_cons.mpr ⟨zmemT 851 (by decide +kernel), ?_⟩
  refine List.forall_mem_cons.mpr ⟨zmemT 884 (by decide +kernel), ?_⟩
  refine List.forall_mem_cons.mpr ⟨zmemT 885 (by decide +kernel), ?_⟩
  refine List.forall_mem_cons.mpr ⟨zmemT 894 (by decide +kernel), ?_⟩
  refine List.forall_mem_cons.mpr ⟨zmemT 902 (by decide +kernel), ?_⟩
  refine List.forall_mem_cons.mpr ⟨zmemT 916 (by decide +kernel), ?_⟩
  refine List.forall_mem_cons.mpr ⟨zmemT 924 (by decide +kernel), ?_⟩
  refine List.forall_mem_cons.mpr ⟨zmemT 936 (by decide +kernel), ?_⟩
  refine List.forall_mem_cons.mpr ⟨zmemT 1008 (by decide +kernel), ?_⟩
  refine List.forall_mem_cons.mpr ⟨zmemT 1020 (by decide +kernel), ?_⟩
  refine List.forall_mem_cons.mpr ⟨zmemT 1025 (by decide +kernel), ?_⟩
  refine List.forall_mem_cons.mpr ⟨zmemT 1061 (by decide +kernel), ?_⟩
  refine List.forall_mem_cons.mpr ⟨zmemT 1078 (by decide +kernel), ?_⟩
  refine List.forall_mem_cons.mpr ⟨zmemT 1086 (by decide +kernel), ?_⟩
  exact fun _ h => nomatch h
theorem zNs_in : ∀ q ∈ zNs, Cond.methodLinkNest q.1 q.2.1 q.2.2.1 q.2.2.2 ∈ lw_tbl := by
  unfold zNs
  refine List.forall_mem_cons.mpr ⟨zmemT 90 (by decide +kernel), ?_⟩
  refine List.forall_mem_cons.mpr ⟨zmemT 108 (by decide +kernel), ?_⟩
  refine List.forall_mem_cons.mpr ⟨zmemT 129 (by decide +kernel), ?_⟩
  refine List.forall_mem_cons.mpr ⟨zmemT 167 (by decide +kernel), ?_⟩
  exact fun _ h => nomatch h
theorem zDc_in : ∀ y ∈ zDc, Cond.declares y ∈ lw_tbl := by
  unfold zDc
  refine List.forall_mem_cons.mpr ⟨zmemT 512 (by decide +kernel), ?_⟩
  refine List.forall_mem_cons.mpr ⟨zmemT 514 (by decide +kernel), ?_⟩
  refine List.forall_mem_cons.mpr ⟨zmemT 516 (by decide +kernel), ?_⟩
  exact fun _ h => nomatch h
theorem zCa_in : ∀ a ∈ zEx, Cond.castable a a ∈ lw_tbl := by
  unfold zEx
  refine List.forall_mem_cons.mpr ⟨zmemT 510 (by decide +kernel), ?_⟩
  refine List.forall_mem_cons.mpr ⟨zmemT 582 (by decide +kernel), ?_⟩
  refine List.forall_mem_cons.mpr ⟨zmemT 635 (by decide +kernel), ?_⟩
  exact fun _ h => nomatch h
theorem zNc_in : ∀ a ∈ zEx, ∀ b ∈ zEx, a ≠ b → Cond.not (.castable a b) ∈ flatC (Jvm.Cond.and given_1 narrow_1) := by decide +kernel
set_option maxHeartbeats 4000000 in
theorem whole_start {p : Program} {e : Env} {s : State} {m : MethodId} {below : List Frame} {meth : Method} {c : Code} (l : Launch) (hflags : l.flags = flags0) {b L : Nat} {xs : Nat → Int32} (hL : L ≤ 2048) (C0 : lw_At p s m meth c b L xs) : W p l e room_1 s m #[Value.ref b] below meth c s.heap [] 0 0 (lw_Z below #[Value.ref b] s) (entryFrame m ([Value.ref b] : List Value).toArray 7) := by
  obtain ⟨hx, hb, hr, hml, hown, hts, hX, hbl, hlocks, hgv⟩ := id C0
  have hfl := flat_of_before _ hgv
  have hA : ∀ a : Nat, a < s.heap.size → ¬ (fun q : Nat => s.heap.size ≤ q) a := fun a h => Nat.not_le.mpr h
  obtain ⟨c0, i0, k0⟩ := u_known (C := RX0) (T := TX0) (N := 12) (n := 12) hts (fun w h => zTb_in (zcl0.2.2.1 w h)) (hts (.instantiable RX0 12) (zmemT 242 (by decide +kernel)))
  obtain ⟨c1, i1, k1⟩ := u_known (C := RX1) (T := TX1) (N := 9) (n := 9) hts (fun w h => zTb_in (zcl1.2.2.1 w h)) (hts (.instantiable RX1 9) (zmemT 166 (by decide +kernel)))
  obtain ⟨c2, i2, k2⟩ := u_known (C := RX2) (T := TX2) (N := 4) (n := 4) hts (fun w h => zTb_in (zcl2.2.2.1 w h)) (hts (.instantiable RX2 4) (zmemT 107 (by decide +kernel)))
  obtain ⟨c3, i3, k3⟩ := u_known (C := RX3) (T := TX3) (N := 6) (n := 6) hts (fun w h => zTb_in (zcl3.2.2.1 w h)) (hts (.instantiable RX3 6) (zmemT 159 (by decide +kernel)))
  obtain ⟨c4, i4, k4⟩ := u_known (C := RX4) (T := TX4) (N := 3) (n := 3) hts (fun w h => zTb_in (zcl4.2.2.1 w h)) (hts (.instantiable RX4 3) (zmemT 89 (by decide +kernel)))
  obtain ⟨c5, i5, k5⟩ := u_known (C := RX5) (T := TX5) (N := 5) (n := 5) hts (fun w h => zTb_in (zcl5.2.2.1 w h)) (hts (.instantiable RX5 5) (zmemT 128 (by decide +kernel)))
  obtain ⟨c6, i6, k6⟩ := u_known (C := RX6) (T := TX6) (N := 12) (n := 12) hts (fun w h => zTb_in (zcl6.2.2.1 w h)) (hts (.instantiable RX6 12) (zmemT 81 (by decide +kernel)))
  obtain ⟨c7, i7, k7⟩ := u_known (C := RX7) (T := TX7) (N := 39) (n := 39) hts (fun w h => zTb_in (zcl7.2.2.1 w h)) (hts (.instantiable RX7 39) (zmemT 1088 (by decide +kernel)))
  have ao1 : va_AO RX1 s := va_AO.of (hts _ (zmemT 165 (by decide +kernel)))
  have ao3 : va_AO RX3 s := va_AO.of (hts _ (zmemT 240 (by decide +kernel)))
  have aoi : va_AOA .int s := hts (.arrayOver (.array .int)) (zmemT 113 (by decide +kernel))
  obtain ⟨t0, -, t0a, t0b⟩ := zarr_of (hts _ (zTb_in kw_ai)) (fun C h => by cases h)
  obtain ⟨t1, -, t1a, t1b⟩ := zarr_of (hts _ (zTb_in kw_aj)) (fun C h => by cases h)
  obtain ⟨t2, -, t2a, t2b⟩ := zarr_of (hts _ (zTb_in kw_az)) (fun C h => by cases h)
  obtain ⟨t3, t3a, t3b⟩ := zarr_obj ao1
  obtain ⟨t4, t4a, t4b⟩ := zarr_obj ao3
  obtain ⟨t5, t5a, t5b⟩ := zarr_arr aoi
  have hcur : ∃ cur, s.vm.findClass RX6 = some cur := ⟨_, k6.2.1⟩
  obtain ⟨cur, hcur⟩ := hcur
  have hstr : ∀ k : Nat, ∃ a : Nat, ∀ tx, (k, tx) ∈ zStr → (Term.string RX6 k).eval #[] s none [] s = some (.ref a) := fun k => by
    by_cases hk : ∃ tx, (k, tx) ∈ zStr
    · obtain ⟨tx, hk⟩ := hk
      have h1 := hts _ (zStr_in _ hk)
      obtain ⟨-, -, -, a, -, -, -, -, -, h2⟩ := Cond.stringRef_spec hcur h1
      exact ⟨a, fun tx2 _ => h2⟩
    · exact ⟨0, fun tx h => absurd ⟨tx, h⟩ hk⟩
  obtain ⟨sa, hsa⟩ := Classical.axiomOfChoice hstr
  obtain ⟨D, hKc⟩ : ∃ D : va_G, ∀ (k : Nat) (q : vw_C), vwCl[k]? = some q → u_Kn s q.1 q.2.1 q.2.2 (D.1 k) (D.2 k) := by
    refine ⟨(fun k => ([c0, c1, c2, c3, c4, c5, c6, c7] : List ClassId).getD k c0, fun k => ([i0, i1, i2, i3, i4, i5, i6, i7] : List (Nat → Nat)).getD k i0), ?_⟩
    intro k q hq
    match k, hq with
    | 0, hq => cases hq; exact k0
    | 1, hq => cases hq; exact k1
    | 2, hq => cases hq; exact k2
    | 3, hq => cases hq; exact k3
    | 4, hq => cases hq; exact k4
    | 5, hq => cases hq; exact k5
    | 6, hq => cases hq; exact k6
    | 7, hq => cases hq; exact k7
    | k + 8, hq => simp [vwCl] at hq
  obtain ⟨G, hGe⟩ : ∃ G : zG, G = (D, (fun k => ([t0, t1, t2, t3, t4, t5] : List ClassId).getD k t0), s.heap.size, sa, b, L, xs) := ⟨_, rfl⟩
  have hGs : zGs G s := by
    subst hGe
    refine ⟨⟨hKc, fun k q hk => ?_⟩, fun q hq => va_Nw.of rfl (hts _ (zNs_in q hq)), ⟨ao1, ao3, aoi⟩, fun q hq => vk_R.of (hts _ (zStr_in q hq)) (hsa q.1 q.2 hq), vx_Zqof (hts _ (zmemT 535 (by decide +kernel))) (hts (.initialized Bundle.tN) (zmemT 74 (by decide +kernel))) (hfl _ (by decide +kernel)) hA, vx_Zqof (hts _ (zmemT 537 (by decide +kernel))) (hts (.initialized Bundle.tN) (zmemT 74 (by decide +kernel))) (hfl _ (by decide +kernel)) hA, ⟨hX, hbl⟩, fun x hx y hy n => va_Nc.of (hfl _ (zNc_in x hx y hy n)), fun x hx => va_Nw.of rfl (hts _ (zCa_in x hx)), fun y hy => va_Nw.of rfl (hts _ (zDc_in y hy))⟩
    match k, hk with
    | 0, hk => cases hk; exact ⟨t0a, t0b⟩
    | 1, hk => cases hk; exact ⟨t1a, t1b⟩
    | 2, hk => cases hk; exact ⟨t2a, t2b⟩
    | 3, hk => cases hk; exact ⟨t3a, t3b⟩
    | 4, hk => cases hk; exact ⟨t4a, t4b⟩
    | 5, hk => cases hk; exact ⟨t5a, t5b⟩
    | k + 6, hk => simp [ztys] at hk
  have hB : zgB G = s.heap.size := by rw [hGe]; rfl
  have hgb : zgb G = b := by rw [hGe]; rfl
  have hgL : zgL G = L := by rw [hGe]; rfl
  obtain ⟨h', hf⟩ := law_true G (by omega) (by omega)
  have hst : l.stackTraces = false := by
    unfold Launch.stackTraces
    rw [hflags]
    decide +kernel
  have K := tL_law (G := G) (x := (p, l, e, room_1, s, m, #[Value.ref b], below, meth, c)) ⟨hx, hb, hml, hown, fun w hw => hts w (zTb_in hw), hGs, rfl, hr, hlocks, Nat.le_of_eq hB, hst, rfl⟩ hst (Nat.le_of_eq hB.symm) (by rw [hgb]) (r := (1, h')) rfl hf
  rw [lg_entry_eq]
  refine K s.heap [] _ (z0_rep hB.symm) va_S.rf ?_
  rw [hgb]
  exact lv_entry [.ref b] (n := 7) (Nat.le_of_ble_eq_true rfl)
