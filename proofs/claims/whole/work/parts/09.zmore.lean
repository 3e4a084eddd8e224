/-! constructors' calls, throws, the library's members, the script -/
def zMeI (own : String) (idx : Nat) (y : MethodName) (n : Nat) : Prop := Cond.methodLink own idx y ∈ zTb ∧ Cond.instanceMethod y ∈ zTb ∧ Cond.initialized y.cls ∈ zTb ∧ y.name = "<init>" ∧ y.cls ≠ "java/lang/invoke/MethodHandle" ∧ y.cls ≠ "java/lang/invoke/VarHandle" ∧ (parseMethodDescriptor y.desc).map (fun d => d.parameters.length) = some n
def zMeN (own : String) (idx : Nat) (y : MethodName) (host : String) (n : Nat) : Prop := (own, idx, y, host) ∈ zNs ∧ Cond.instanceMethod y ∈ zTb ∧ Cond.initialized y.cls ∈ zTb ∧ y.name = "<init>" ∧ y.cls ≠ "java/lang/invoke/MethodHandle" ∧ y.cls ≠ "java/lang/invoke/VarHandle" ∧ (parseMethodDescriptor y.desc).map (fun d => d.parameters.length) = some n
def zSup : List String := ["java/lang/RuntimeException", "java/lang/Exception"]
def zTh (own : String) (ik ic : Nat) (E : String) : Prop := Cond.classLink own ik E ∈ zTb ∧ Cond.initialized E ∈ zTb ∧ (∀ w ∈ vx_atS own ic E zSup, w ∈ zTb ∨ w = Cond.castable E E ∨ w ∈ zDc.map Cond.declares) ∧ Bundle.fit E = true ∧ E ∈ zEx
section ZMORE
variable {G : zG} {x : zX} {cc : ByteArray} {nL : Nat} {own nm : String} {rm : Room} {ret : Option FieldType} {Q : State → Prop} {h h' : zH} {cs ss pc pc' : Nat} {lv : List (Nat × Value)} {st : List Value}
theorem z_callI (B : zB G x cc nL own nm rm ret) {y : MethodName} {bytes : ByteArray} {maxL idx n mc ms b : Nat} {rm2 : Room} (As rest : List Value) (hw : Cond.code y bytes maxL none ∈ zTb) (hl : zMeI own idx y n) (hM : zMet (zl x) G y (.code y bytes maxL none) rm2 mc ms (.ref b :: As) h (.inl none, h')) (hR : zRm rm rm2 mc ms maxL cs ss) (hn : As.length = n) (hst : st = As.reverse ++ .ref b :: rest) (hW : (rest.map fun v => v.category).sum ≤ 8)
    (hd : zD cc pc (.invokespecial idx) 3 pc') (kk : zV G x nL Q h' (cs + mc) (ss + ms) pc' lv rest) : zV G x nL Q h cs ss pc lv st := by
  obtain ⟨hd, rfl⟩ := hd
  obtain ⟨l1, l2, l3, l4, l6⟩ := hl
  have hts := B.2.2.2.2.1
  intro H locs ls hr hS hv
  exact zrun B hS hv (vx_runI (n := n) (As := As) (rest := rest) ⟨B.1, B.2.1, B.2.2.1, B.2.2.2.1, hts⟩ hM ⟨zcb (w := .tt) B hw l1 l3 l6 hR, l4, hts _ l2⟩ ⟨zPc.blind, zpre B hr hS⟩ rfl hn hv.1 hst (lv_room (rest := st) hW) hd (by rw [B.2.2.2.2.2.2.1]; exact hR.2.2.2.2)) kk
theorem z_callN (B : zB G x cc nL own nm rm ret) {y : MethodName} {bytes : ByteArray} {maxL idx n mc ms b : Nat} {rm2 : Room} {host : String} (As rest : List Value) (hw : Cond.code y bytes maxL none ∈ zTb) (hl : zMeN own idx y host n) (hM : zMet (zl x) G y (.code y bytes maxL none) rm2 mc ms (.ref b :: As) h (.inl none, h')) (hR : zRm rm rm2 mc ms maxL cs ss) (hn : As.length = n) (hst : st = As.reverse ++ .ref b :: rest) (hW : (rest.map fun v => v.category).sum ≤ 8)
    (hd : zD cc pc (.invokespecial idx) 3 pc') (kk : zV G x nL Q h' (cs + mc) (ss + ms) pc' lv rest) : zV G x nL Q h cs ss pc lv st := by
  obtain ⟨hd, rfl⟩ := hd
  obtain ⟨l1, l2, l3, l4, l6⟩ := hl
  have hts := B.2.2.2.2.1
  intro H locs ls hr hS hv
  exact zrun B hS hv (vx_runIN (n := n) (As := As) (rest := rest) (host := host) ⟨B.1, B.2.1, B.2.2.1, B.2.2.2.1, hts⟩ hM ⟨va_cnB n hts (zgood hw) rfl hR.1 hR.2.1 (B.2.2.2.2.2.1.2.1 _ l1) (hts _ l3) l6 (by rw [B.2.2.2.2.2.2.1]; exact ⟨hR.2.2.1, hR.2.2.2.1⟩), l4, hts _ l2⟩ ⟨zPc.blind, zpre B hr hS⟩ rfl hn hv.1 hst (lv_room (rest := st) hW) hd (by rw [B.2.2.2.2.2.2.1]; exact hR.2.2.2.2)) kk
theorem z_oinit (B : zB G x cc nL own nm rm ret) {idx a : Nat} (w1 : Cond.methodLink own idx Lib.objectInit ∈ zTb) (w2 : Cond.instanceMethod Lib.objectInit ∈ zTb) (w3 : Cond.code Lib.objectInit ⟨#[0xb1]⟩ 1 none ∈ zTb) (hd : zD cc pc (.invokespecial idx) 3 pc') (h1 : 1 ≤ rm.frames) (h2 : (st.map fun v => v.category).sum + 12 ≤ rm.locals) (kk : zV G x nL Q h cs ss pc' lv st) : zV G x nL Q h cs ss pc lv (.ref a :: st) := by
  obtain ⟨hd, rfl⟩ := hd
  have hts := B.2.2.2.2.1
  intro H locs ls hr hS hv
  exact W.objInit B.1 B.2.1 B.2.2.2.1 (hts _ w1) (hts _ w2) (hts _ w3) rfl (by rw [B.2.2.1]; exact hv.1) rfl hd (by rw [B.2.2.2.2.2.2.1]; exact h1) (by rw [B.2.2.2.2.2.2.1]; show 2 * 0 + _ + 12 ≤ _; omega) (kk H locs ls hr hS hv)
theorem zTh.good {own E : String} {ik ic : Nat} (w : zTh own ik ic E) : ∀ w ∈ Cond.classLink own ik E :: Cond.initialized E :: vx_atS own ic E zSup, vx_ot w = true := by
  intro v hv
  have hm : v ∈ zTb ∨ v = Cond.castable E E ∨ v ∈ zDc.map Cond.declares := by
    rcases List.mem_cons.mp hv with rfl | hv
    · exact Or.inl w.1
    · rcases List.mem_cons.mp hv with rfl | hv
      · exact Or.inl w.2.1
      · exact w.2.2.1 v hv
  rcases hm with hm | rfl | hm
  · simp only [vx_ot, Bool.or_eq_true]
    exact Or.inr (List.mem_filter.mp hm).2
  · rfl
  · obtain ⟨y, -, rfl⟩ := List.mem_map.mp hm
    rfl
theorem z_throw (B : zB G x cc nL own nm rm ret) (hE : ∀ e ∈ (zc x).exceptionTable.toList, False) {ik ic is p3 p4 p6 p9 mc ms : Nat} {E text : String} (ho : own = RX6) (w : zTh own ik ic E) (hs : (is, text) ∈ zStr) (d0 : zD cc pc (.new ik) 3 p3) (d3 : zD cc p3 .dup 1 p4) (d4 : zD cc p4 (.ldc is) 2 p6) (d6 : zD cc p6 (.invokespecial ic) 3 p9) (d9 : zD cc p9 .athrow 1 pc')
    (hf : 5 < rm.frames) (hl : (st.map fun v => v.category).sum + 82 ≤ rm.locals) (h1 : cs + 1 ≤ rm.cells) (h2 : ss + 6 ≤ rm.slots) (hc : cs + 1 ≤ mc) (hss : ss + 6 ≤ ms) : zV G x nL (zQ G x (.inr E, zoff h) mc ms) h cs ss pc lv st := by
  obtain ⟨d0, rfl⟩ := d0
  obtain ⟨d3, rfl⟩ := d3
  obtain ⟨d4, rfl⟩ := d4
  obtain ⟨d6, rfl⟩ := d6
  obtain ⟨d9, -⟩ := d9
  have hts := B.2.2.2.2.1
  obtain ⟨hK, hNs, hAO, hStr, hU, hN, -, -, hCa, hDc⟩ := B.2.2.2.2.2.1
  subst ho
  intro H locs ls hr hS hv
  refine vx_throwS (names := zSup) (A := zA G) B.1 B.2.1 B.2.2.2.2.2.2.2.2.2.2.1 B.2.2.2.1 w.2.2.2.1 (by decide) (hts _ w.1) (hts _ w.2.1) (hStr _ hs) (fun v hv => (w.2.2.1 v hv).elim (hts v) (fun e => e.elim (fun e => by rw [e]; exact va_Nw.use rfl (hCa _ w.2.2.2.2)) (fun e => by obtain ⟨y, hy, e⟩ := List.mem_map.mp e; rw [← e]; exact va_Nw.use rfl (hDc y hy)))) w.good hU hN hS (by rw [B.2.2.1]; exact hv.1) d0 d3 d4 d6 d9 (fun x hx => (hE x hx).elim) (by rw [B.2.2.2.2.2.2.1]; exact hf) (by rw [B.2.2.2.2.2.2.1]; exact hl) (by rw [B.2.2.2.2.2.2.1]; exact h1) (by rw [B.2.2.2.2.2.2.1]; exact h2) B.2.2.2.2.2.2.2.2.1 (fun t ha hz ho => ⟨rfl, hr.off hz ho, ?_⟩) hS.2.2 hc hss
  exact ⟨Nat.le_trans hS.1 hz, fun q g1 g2 => (ho q (Nat.lt_of_lt_of_le g1 hS.1)).trans (hS.2.1 q g1 g2)⟩
theorem z_throwW (B : zB G x cc nL own nm rm ret) (hE : ∀ e ∈ (zc x).exceptionTable.toList, False) {ik ic is p3 p4 p6 p9 mc ms : Nat} {E text : String} (ho : own = RX6) (w : zTh own ik ic E) (hs : (is, text) ∈ zStr) (d0 : zD cc pc (.new ik) 3 p3) (d3 : zD cc p3 .dup 1 p4) (d4 : zD cc p4 (.ldc_w is) 3 p6) (d6 : zD cc p6 (.invokespecial ic) 3 p9) (d9 : zD cc p9 .athrow 1 pc')
    (hf : 5 < rm.frames) (hl : (st.map fun v => v.category).sum + 82 ≤ rm.locals) (h1 : cs + 1 ≤ rm.cells) (h2 : ss + 6 ≤ rm.slots) (hc : cs + 1 ≤ mc) (hss : ss + 6 ≤ ms) : zV G x nL (zQ G x (.inr E, zoff h) mc ms) h cs ss pc lv st := by
  obtain ⟨d0, rfl⟩ := d0
  obtain ⟨d3, rfl⟩ := d3
  obtain ⟨d4, rfl⟩ := d4
  obtain ⟨d6, rfl⟩ := d6
  obtain ⟨d9, -⟩ := d9
  have hts := B.2.2.2.2.1
  obtain ⟨hK, hNs, hAO, hStr, hU, hN, -, -, hCa, hDc⟩ := B.2.2.2.2.2.1
  subst ho
  intro H locs ls hr hS hv
  refine vx_throwSW (names := zSup) (A := zA G) B.1 B.2.1 B.2.2.2.2.2.2.2.2.2.2.1 B.2.2.2.1 w.2.2.2.1 (by decide) (hts _ w.1) (hts _ w.2.1) (hStr _ hs) (fun v hv => (w.2.2.1 v hv).elim (hts v) (fun e => e.elim (fun e => by rw [e]; exact va_Nw.use rfl (hCa _ w.2.2.2.2)) (fun e => by obtain ⟨y, hy, e⟩ := List.mem_map.mp e; rw [← e]; exact va_Nw.use rfl (hDc y hy)))) w.good hU hN hS (by rw [B.2.2.1]; exact hv.1) d0 d3 d4 d6 d9 (fun x hx => (hE x hx).elim) (by rw [B.2.2.2.2.2.2.1]; exact hf) (by rw [B.2.2.2.2.2.2.1]; exact hl) (by rw [B.2.2.2.2.2.2.1]; exact h1) (by rw [B.2.2.2.2.2.2.1]; exact h2) B.2.2.2.2.2.2.2.2.1 (fun t ha hz ho => ⟨rfl, hr.off hz ho, ?_⟩) hS.2.2 hc hss
  exact ⟨Nat.le_trans hS.1 hz, fun q g1 g2 => (ho q (Nat.lt_of_lt_of_le g1 hS.1)).trans (hS.2.1 q g1 g2)⟩
theorem z_max (B : zB G x cc nL own nm rm ret) {idx : Nat} {a b : Int32} (w1 : Cond.methodLink own idx Lib.Math.max.name ∈ zTb) (w2 : Cond.static Lib.Math.max.name ∈ zTb) (w3 : Cond.initialized "java/lang/Math" ∈ zTb) (w4 : Cond.code Lib.Math.max.name Lib.Math.max.code 2 (some .int) ∈ zTb) (hd : zD cc pc (.invokestatic idx) 3 pc') (h1 : 1 ≤ rm.frames) (h2 : (st.map fun v => v.category).sum + 13 ≤ rm.locals) (h3 : cs ≤ rm.cells) (h4 : ss ≤ rm.slots) (kk : zV G x nL Q h cs ss pc' lv (.int (if a < b then b else a) :: st)) : zV G x nL Q h cs ss pc lv (.int b :: .int a :: st) := by
  obtain ⟨hd, rfl⟩ := hd
  have hts := B.2.2.2.2.1
  intro H locs ls hr hS hv
  exact va_mmax B.1 B.2.1 (by rw [B.2.2.1]; exact hv.1.symm) B.2.2.2.1 (hts _ w1) (hts _ w2) (hts _ w3) (hts _ w4) (by rw [B.2.2.2.2.2.2.1]; exact h1) (by rw [B.2.2.2.2.2.2.1]; exact h2) (by rw [B.2.2.2.2.2.2.1]; exact h3) (by rw [B.2.2.2.2.2.2.1]; exact h4) hd (kk H locs ls hr hS hv)
theorem z_min (B : zB G x cc nL own nm rm ret) {idx : Nat} {a b : Int32} (w1 : Cond.methodLink own idx Lib.Math.min.name ∈ zTb) (w2 : Cond.static Lib.Math.min.name ∈ zTb) (w3 : Cond.initialized "java/lang/Math" ∈ zTb) (w4 : Cond.code Lib.Math.min.name Lib.Math.min.code 2 (some .int) ∈ zTb) (hd : zD cc pc (.invokestatic idx) 3 pc') (h1 : 1 ≤ rm.frames) (h2 : (st.map fun v => v.category).sum + 13 ≤ rm.locals) (h3 : cs ≤ rm.cells) (h4 : ss ≤ rm.slots) (kk : zV G x nL Q h cs ss pc' lv (.int (if b < a then b else a) :: st)) : zV G x nL Q h cs ss pc lv (.int b :: .int a :: st) := by
  obtain ⟨hd, rfl⟩ := hd
  have hts := B.2.2.2.2.1
  intro H locs ls hr hS hv
  exact va_mmin B.1 B.2.1 (by rw [B.2.2.1]; exact hv.1.symm) B.2.2.2.1 (hts _ w1) (hts _ w2) (hts _ w3) (hts _ w4) (by rw [B.2.2.2.2.2.2.1]; exact h1) (by rw [B.2.2.2.2.2.2.1]; exact h2) (by rw [B.2.2.2.2.2.2.1]; exact h3) (by rw [B.2.2.2.2.2.2.1]; exact h4) hd (kk H locs ls hr hS hv)
theorem z_cp (B : zB G x cc nL own nm rm ret) {idx a b : Nat} {sp dp n : Int32} (e : zcp h a sp b dp n = some h') (w1 : Cond.methodLink own idx arraycopyName ∈ zTb) (w2 : Cond.native arraycopyName ∈ zTb) (w3 : Cond.static arraycopyName ∈ zTb) (w4 : Cond.initialized "java/lang/System" ∈ zTb) (hd : zD cc pc (.invokestatic idx) 3 pc') (hf : 1 ≤ rm.frames) (hlo : (st.map fun v => v.category).sum + (nativeFrameWords "java/lang/System" "arraycopy" 5 + 11) ≤ rm.locals) (kk : zV G x nL Q h' cs ss pc' lv st) : zV G x nL Q h cs ss pc lv (.int n :: .int dp :: .ref b :: .int sp :: .ref a :: st) := by
  obtain ⟨⟨hka, hkb, h1, h2, h3, h4, h5⟩, rfl⟩ := zif e
  obtain ⟨hd, rfl⟩ := hd
  have hts := B.2.2.2.2.1
  have nn : ∀ z : Int32, ¬ z < 0 → z.toInt = (z.toNatClampNeg : Int) := by
    intro z hz
    have hz0 : (0 : Int) ≤ z.toInt := by
      have := Int32.not_lt.mp hz
      simpa using Int32.le_iff_toInt_le.mp this
    show z.toInt = ((z.toInt.toNat : Nat) : Int)
    omega
  intro H locs ls hr hS hv
  intro T hT X
  have hc0 : H[a]? = some (arrV (zgT G 0) (zln h a) (zav 0 h a)) := hr.ar (k := 0) hka
  have hc1 : H[b]? = some (arrV (zgT G 0) (zln h b) (zav 0 h b)) := hr.ar (k := 0) hkb
  have ea : zav 0 h a = fun j => .int (zI h a j) := by funext j; simp [zav]
  have eb : zav 0 h b = fun j => .int (zI h b j) := by funext j; simp [zav]
  rw [ea] at hc0
  rw [eb] at hc1
  obtain ⟨-, k0, hk0, cm0, hkk0⟩ := zty G B.2.2.2.2.2.1 0 (ty := .int) rfl (zln h a) (fun j => .int (zI h a j))
  obtain ⟨-, k1, hk1, cm1, hkk1⟩ := zty G B.2.2.2.2.2.1 0 (ty := .int) rfl (zln h b) (fun j => .int (zI h b j))
  obtain ⟨vm', X', step⟩ := X.arraycopy B.1 B.2.2.2.1 (hts _ w1) (hts _ w2) (hts _ w3) (hts _ w4) (src := a) (dst := b) (cs := vp_cell (zgT G 0) (zln h a, .inl (zI h a))) (cd := vp_cell (zgT G 0) (zln h b, .inl (zI h b))) (srcPos := sp) (destPos := dp) (n := n) (by rw [hT]; exact hc0) (by rw [hT]; exact hc1)
    (fun _ h => by cases h) (fun _ h => by cases h) (fun h => by cases h) (fun h => by cases h) hk0 hk1 hkk0 hkk1 (by simp [refKind]) h1 h2 h3
    (by rw [nn sp h1, nn n h3]; show ¬ _ > ((arrV (zgT G 0) (zln h a) (fun j => .int (zI h a j))).slots.size : Int); rw [arrV_size]; omega)
    (by rw [nn dp h2, nn n h3]; show ¬ _ > ((arrV (zgT G 0) (zln h b) (fun j => .int (zI h b j))).slots.size : Int); rw [arrV_size]; omega)
    (fun vm₁ _ i hi => by
      have e : (vp_cell (zgT G 0) (zln h a, .inl (zI h a))).slots.getD (sp.toNatClampNeg + i) .null = .int (zI h a (sp.toNatClampNeg + i)) := by
        show (arrV (zgT G 0) (zln h a) (fun j => .int (zI h a j))).slots.getD _ _ = _
        rw [Array.getD_eq_getD_getElem?, arrV_read _ _ (by omega)]
        rfl
      refine ⟨?_, ?_⟩
      · rw [e]
        rfl
      · rw [e]
        exact trivial)
    (g := F0 (zm x) pc ls (.int n :: .int dp :: .ref b :: .int sp :: .ref a :: st)) rfl (by rw [B.2.2.1]; exact hv.1) (rest := st) rfl (by rw [B.2.1]; exact hd) (by rw [B.2.2.2.2.2.2.1]; exact hf) (by rw [B.2.2.2.2.2.2.1]; show 2 * 0 + _ + _ ≤ _; omega)
  have e1 : copied (vp_cell (zgT G 0) (zln h a, .inl (zI h a))) (vp_cell (zgT G 0) (zln h b, .inl (zI h b))) sp dp n = vp_cell (zgT G 0) (zln h b, .inl (va_cpy (zI h a) (zI h b) sp.toNatClampNeg dp.toNatClampNeg n.toNatClampNeg)) := va_copied (fun z => .int z) (zgT G 0) (zgT G 0) (zI h a) (zI h b) h4
  rw [e1] at X' step
  have hl : b < H.size := (Array.getElem?_eq_some_iff.mp hc1).1
  generalize hH1 : ((T.setVm vm').setCell b (vp_cell (zgT G 0) (zln h b, .inl (va_cpy (zI h a) (zI h b) sp.toNatClampNeg dp.toNatClampNeg n.toNatClampNeg)))).heap = H1
  have hheap : H1 = H.setIfInBounds b (vp_cell (zgT G 0) (zln h b, .inl (va_cpy (zI h a) (zI h b) sp.toNatClampNeg dp.toNatClampNeg n.toNatClampNeg))) := by rw [← hH1, ← hT]; rfl
  have oq : ∀ q : Nat, q ≠ b → H1[q]? = H[q]? := fun q hq => by rw [hheap]; simp [Array.getElem?_setIfInBounds, Ne.symm hq]
  have z1 : H1.size = H.size := by rw [hheap]; simp
  have f1 : H1[b]? = some (vp_cell (zgT G 0) (zln h b, .inl (va_cpy (zI h a) (zI h b) sp.toNatClampNeg dp.toNatClampNeg n.toNatClampNeg))) := by rw [hheap]; simp [Array.getElem?_setIfInBounds, hl]
  have hA : zA G b := hr.inA (by rw [hkb]; decide)
  have rep : zRep G (zrow h b (va_cpy (zI h a) (zI h b) sp.toNatClampNeg dp.toNatClampNeg n.toNatClampNeg)) H1 := by
    refine hr.upd (by rw [hkb]; decide) rfl rfl rfl (fun q hq => zz_ne hq) (fun _ _ => rfl) (fun _ _ => rfl) z1 oq ⟨fun c2 h2 h28 => ?_, fun k2 h2 => ?_⟩
    · have : zkd h b = c2 + 1 := h2
      omega
    · have h22 : zkd h b = k2 + 9 := h2
      have e2 : k2 = 0 := by omega
      subst e2
      rw [f1]
      have e3 : zav 0 (zrow h b (va_cpy (zI h a) (zI h b) sp.toNatClampNeg dp.toNatClampNeg n.toNatClampNeg)) b = fun j => .int (va_cpy (zI h a) (zI h b) sp.toNatClampNeg dp.toNatClampNeg n.toNatClampNeg j) := by
        funext j
        simp [zav, zrow, zI, zz]
      rw [e3]
      rfl
  obtain ⟨t2, a1, b1⟩ := kk H1 _ ls rep ⟨by rw [z1]; exact hS.1, fun q g1 g2 => by
      rw [oq q (fun e => g2 (by rw [e]; exact hA))]
      exact hS.2.1 q g1 g2, fun q hq => by
      rcases List.mem_append.mp hq with h | h
      · exact hS.2.2 q h
      · obtain ⟨z, -, hz⟩ := List.mem_map.mp h
        rw [← hz]
        exact hA⟩ hv _ hH1 X'
  exact ⟨t2, step t2 a1, b1⟩
theorem z_sld (B : zB G x cc nL own nm rm ret) {i : Int32} (hin : vp_in i (zgL G)) (hd : zD cc pc .iaload 1 pc') (kk : zV G x nL Q h cs ss pc' lv (.int (zgx G i.toNatClampNeg) :: st)) : zV G x nL Q h cs ss pc lv (.int i :: .ref (zgb G) :: st) := by
  obtain ⟨hd, rfl⟩ := hd
  obtain ⟨-, -, -, -, -, -, ⟨hX, hb⟩, -⟩ := B.2.2.2.2.2.1
  intro H locs ls hr hS hv
  exact va_sld B.1 B.2.1 hX (Nat.lt_of_lt_of_le hb B.2.2.2.2.2.2.2.2.2.1) (Nat.not_le.mpr hb) hS hin hd (kk H locs ls hr hS hv)
theorem z_slen (B : zB G x cc nL own nm rm ret) (hd : zD cc pc .arraylength 1 pc') (kk : zV G x nL Q h cs ss pc' lv (.int (Int32.ofNat (zgL G)) :: st)) : zV G x nL Q h cs ss pc lv (.ref (zgb G) :: st) := by
  obtain ⟨hd, rfl⟩ := hd
  obtain ⟨-, -, -, -, -, -, ⟨hX, hb⟩, -⟩ := B.2.2.2.2.2.1
  intro H locs ls hr hS hv
  exact va_slen B.1 B.2.1 hX (Nat.lt_of_lt_of_le hb B.2.2.2.2.2.2.2.2.2.1) (Nat.not_le.mpr hb) hS hd (kk H locs ls hr hS hv)
end ZMORE
