/-! calls, new cells, throws -/
def zMeV (own : String) (idx : Nat) (C : String) (y : MethodName) (n : Nat) : Prop := Cond.methodLink own idx y ∈ zTb ∧ Cond.instanceMethod y ∈ zTb ∧ Cond.selects C y y ∈ zTb ∧ Cond.initialized C ∈ zTb ∧ y.cls = C ∧ C ≠ "java/lang/invoke/MethodHandle" ∧ C ≠ "java/lang/invoke/VarHandle" ∧ (parseMethodDescriptor y.desc).map (fun d => d.parameters.length) = some n
def zMeS (own : String) (idx : Nat) (y : MethodName) (n : Nat) : Prop := Cond.methodLink own idx y ∈ zTb ∧ Cond.static y ∈ zTb ∧ Cond.initialized y.cls ∈ zTb ∧ y.cls ≠ "java/lang/invoke/MethodHandle" ∧ y.cls ≠ "java/lang/invoke/VarHandle" ∧ (parseMethodDescriptor y.desc).map (fun d => d.parameters.length) = some n
/-- the room of a call -/
def zRm (R rm : Room) (mc ms maxL cs ss : Nat) : Prop := rm.cells = mc ∧ rm.slots = ms ∧ rm.frames + 1 ≤ R.frames ∧ 8 + (maxL + 11) + rm.locals ≤ R.locals ∧ cs + mc ≤ R.cells ∧ ss + ms ≤ R.slots
section ZCALL
variable {G : zG} {x : zX} {cc : ByteArray} {nL : Nat} {own nm : String} {rm : Room} {ret : Option FieldType} {Q : State → Prop} {h h' : zH} {cs ss pc pc' : Nat} {lv : List (Nat × Value)} {st : List Value}
theorem zfree {H : Heap} {locs : List Loc} {H1 : Heap} {L : List Loc} {st0 t T' : State} (h0 : st0.heap = H) (e1 : T'.heap = t.heap) (hS : va_S (zA G) (zs x).heap H locs) (hL : ∀ q ∈ L, zA G q.base) (hF : va_F (zA G) st0 t) : va_S (zA G) (zs x).heap T'.heap (locs ++ L) :=
  (vx_keep (A1 := zA G) (free := zA G) h0 e1 hS (fun _ _ h => h) (fun _ h => h) hL hF).2.2
theorem zpre (B : zB G x cc nL own nm rm ret) {H : Heap} {locs : List Loc} (hr : zRep G h H) (hS : va_S (zA G) (zs x).heap H locs) {av : List Value} : ∀ U : State, U.heap = H → (zs x).WarmedH U.vm → zPc G av h av.toArray U := fun U hU hW => ⟨rfl, B.2.2.2.2.2.1.go hW B.2.2.2.2.2.2.2.2.2.1 (fun q h1 h2 => by rw [hU]; exact hS.2.1 q h1 h2), by rw [hU]; exact hr⟩
theorem zrun (B : zB G x cc nL own nm rm ret) {H : Heap} {locs : List Loc} {ls : Array Slot} {mc ms : Nat} {rest : List Value} {v : Option Value} {aa : Array Value} (hS : va_S (zA G) (zs x).heap H locs) (hv : lv_has ls nL lv)
    (run : vx_Run (zp x) (zl x) (ze x) (zR x) (zs x) (zm x) (za x) (zb x) (zt x) (zc x) H locs cs ss mc ms (F0 (zm x) pc ls st) rest (zQc G (.inl v, h') aa) (zXC G (.inl v, h')) (zA G)) (kk : zV G x nL Q h' (cs + mc) (ss + ms) (pc + 3) lv (v.toList ++ rest)) : W (zp x) (zl x) (ze x) (zR x) (zs x) (zm x) (za x) (zb x) (zt x) (zc x) H locs cs ss Q (F0 (zm x) pc ls st) := by
  intro T hT X
  rcases run T hT X with ⟨v2, st0, t, T', L, h0, X', hL, e1, e2, ⟨v3, hv3, hoc, hrep, hF⟩, stp⟩ | ⟨q, st0, t, T', L, E, ce, h0, X', hL, e1, e2, ⟨hx, -⟩, -⟩
  · cases hv3
    cases hoc
    obtain ⟨t2, a1, b1⟩ := kk T'.heap (locs ++ L) ls (by rw [e1]; exact hrep) (zfree (x := x) (H1 := H) h0 e1 hS hL hF) hv T' rfl X'
    exact ⟨t2, stp t2 a1, b1⟩
  · cases hx
theorem zrunX (B : zB G x cc nL own nm rm ret) (hE : ∀ e ∈ (zc x).exceptionTable.toList, False) {H : Heap} {locs : List Loc} {ls : Array Slot} {mc ms MC MS : Nat} {rest : List Value} {E : String} {aa : Array Value} (hS : va_S (zA G) (zs x).heap H locs) (hv : lv_has ls nL lv) (hc : cs + mc ≤ MC) (hs : ss + ms ≤ MS)
    (run : vx_Run (zp x) (zl x) (ze x) (zR x) (zs x) (zm x) (za x) (zb x) (zt x) (zc x) H locs cs ss mc ms (F0 (zm x) pc ls st) rest (zQc G (.inr E, h') aa) (zXC G (.inr E, h')) (zA G)) : W (zp x) (zl x) (ze x) (zR x) (zs x) (zm x) (za x) (zb x) (zt x) (zc x) H locs cs ss (zQ G x (.inr E, h') MC MS) (F0 (zm x) pc ls st) := by
  intro T hT X
  rcases run T hT X with ⟨v2, st0, t, T', L, h0, X', hL, e1, e2, ⟨v3, hv3, -⟩, -⟩ | ⟨q, st0, t, T', L, E2, ce, h0, X', hL, e1, e2, ⟨hx, hrep, hF⟩, hce, hcv, hcl, stp⟩
  · cases hv3
  · cases hx
    have hS2 := zfree (x := x) (H1 := H) h0 e1 hS hL hF
    have ho := vx_out (p := zp x) (l := zl x) (e := ze x) (R := zR x) (s := zs x) (m := zm x) (args := za x) (below := zb x) (meth := zt x) (c := zc x) (H := T'.heap) (locs := locs ++ L) (cells := cs + mc) (slots := ss + ms) (mc := MC) (ms := MS) (free := zA G) (Qc := zQc G (.inr E, h')) (XC := zXC G (.inr E, h')) (pc := pc) (ls := ls) (rest := rest) (E := E) (ce := ce) (q := q) (fun x hx => (hE x hx).elim) B.2.2.2.2.2.2.2.2.1 (by rw [e1]; exact hce) hcv hcl (fun t2 ht2 _ => ⟨rfl, by rw [ht2, e1]; exact hrep, hS2.F ht2⟩) hS2.2.2 hc hs
    obtain ⟨t2, a1, b1⟩ := ho T' rfl X'
    exact ⟨t2, stp.trans a1, b1⟩
theorem zrecv (B : zB G x cc nL own nm rm ret) {H : Heap} (hr : zRep G h H) {ci b : Nat} {C : String} {T : u_T} {N : Nat} (hc : vwCl[ci]? = some (C, T, N)) (h8 : ci < 8) (hk : zkd h b = ci + 1) : ∃ cell : Cell, H[b]? = some cell ∧ cell.vm.isStatics = false ∧ (zs x).vm.findClass C = some cell.cls := by
  obtain ⟨cell, g1, g2, g3, -⟩ := hr.ob hk h8
  exact ⟨cell, g1, by rw [g3]; rfl, by rw [g2]; exact ((B.2.2.2.2.2.1).1.1 ci _ hc).2.1⟩
theorem zcb {y : MethodName} {w : Cond} {bytes : ByteArray} {maxL idx n mc ms : Nat} {rt : Option FieldType} {rm2 : Room} (B : zB G x cc nL own nm rm ret) (hw : Cond.code y bytes maxL rt ∈ zTb) (hl : Cond.methodLink own idx y ∈ zTb) (hi : Cond.initialized y.cls ∈ zTb) (hd : y.cls ≠ "java/lang/invoke/MethodHandle" ∧ y.cls ≠ "java/lang/invoke/VarHandle" ∧ (parseMethodDescriptor y.desc).map (fun d => d.parameters.length) = some n) (hR : zRm rm rm2 mc ms maxL cs ss) :
    CallB (zR x) (zs x) (za x) own idx y bytes maxL rt (Cond.code y bytes maxL rt :: zTb) rm2 mc ms n := by
  have hts := B.2.2.2.2.1
  exact callB_of n hts (zgood hw) rfl hR.1 hR.2.1 (hts _ hi) (hts _ hl) hd (by rw [B.2.2.2.2.2.2.1]; exact ⟨hR.2.2.1, hR.2.2.2.1⟩)
theorem z_callV (B : zB G x cc nL own nm rm ret) {y : MethodName} {bytes : ByteArray} {maxL idx n mc ms ci b N : Nat} {rt : Option FieldType} {rm2 : Room} {C : String} {T : u_T} {v : Option Value} (As rest : List Value) (hw : Cond.code y bytes maxL rt ∈ zTb) (hl : zMeV own idx C y n) (hM : zMet (zl x) G y (.code y bytes maxL rt) rm2 mc ms (.ref b :: As) h (.inl v, h')) (hc : vwCl[ci]? = some (C, T, N)) (h8 : ci < 8) (hk : zkd h b = ci + 1) (hR : zRm rm rm2 mc ms maxL cs ss) (hn : As.length = n) (hst : st = As.reverse ++ .ref b :: rest) (hW : (rest.map fun v => v.category).sum ≤ 8)
    (hd : zD cc pc (.invokevirtual idx) 3 pc') (kk : zV G x nL Q h' (cs + mc) (ss + ms) pc' lv (v.toList ++ rest)) : zV G x nL Q h cs ss pc lv st := by
  obtain ⟨hd, rfl⟩ := hd
  obtain ⟨l1, l2, l3, l4, l5, l6⟩ := hl
  have hts := B.2.2.2.2.1
  subst l5
  intro H locs ls hr hS hv
  exact zrun B hS hv (vx_runV (n := n) (C := y.cls) (As := As) (rest := rest) ⟨B.1, B.2.1, B.2.2.1, B.2.2.2.1, hts⟩ hM ⟨zcb (w := .tt) B hw l1 l4 l6 hR, hts _ l2, hts _ l3⟩ ⟨zPc.blind, zrecv B hr hc h8 hk, zpre B hr hS⟩ rfl hn hv.1 hst (lv_room (rest := st) hW) hd (by rw [B.2.2.2.2.2.2.1]; exact hR.2.2.2.2)) kk
theorem z_callVX (B : zB G x cc nL own nm rm ret) (hE : ∀ e ∈ (zc x).exceptionTable.toList, False) {y : MethodName} {bytes : ByteArray} {maxL idx n mc ms ci b N MC MS : Nat} {rt : Option FieldType} {rm2 : Room} {C : String} {T : u_T} {E : String} (As rest : List Value) (hw : Cond.code y bytes maxL rt ∈ zTb) (hl : zMeV own idx C y n) (hM : zMet (zl x) G y (.code y bytes maxL rt) rm2 mc ms (.ref b :: As) h (.inr E, h')) (hc : vwCl[ci]? = some (C, T, N)) (h8 : ci < 8) (hk : zkd h b = ci + 1) (hR : zRm rm rm2 mc ms maxL cs ss) (hn : As.length = n) (hst : st = As.reverse ++ .ref b :: rest) (hW : (rest.map fun v => v.category).sum ≤ 8)
    (hd : zD cc pc (.invokevirtual idx) 3 pc') (h1 : cs + mc ≤ MC) (h2 : ss + ms ≤ MS) : zV G x nL (zQ G x (.inr E, h') MC MS) h cs ss pc lv st := by
  obtain ⟨hd, rfl⟩ := hd
  obtain ⟨l1, l2, l3, l4, l5, l6⟩ := hl
  have hts := B.2.2.2.2.1
  subst l5
  intro H locs ls hr hS hv
  exact zrunX B hE hS hv h1 h2 (vx_runV (n := n) (C := y.cls) (As := As) (rest := rest) ⟨B.1, B.2.1, B.2.2.1, B.2.2.2.1, hts⟩ hM ⟨zcb (w := .tt) B hw l1 l4 l6 hR, hts _ l2, hts _ l3⟩ ⟨zPc.blind, zrecv B hr hc h8 hk, zpre B hr hS⟩ rfl hn hv.1 hst (lv_room (rest := st) hW) hd (by rw [B.2.2.2.2.2.2.1]; exact hR.2.2.2.2))
theorem z_callS (B : zB G x cc nL own nm rm ret) {y : MethodName} {bytes : ByteArray} {maxL idx n mc ms : Nat} {rt : Option FieldType} {rm2 : Room} {v : Option Value} (As rest : List Value) (hw : Cond.code y bytes maxL rt ∈ zTb) (hl : zMeS own idx y n) (hM : zMet (zl x) G y (.code y bytes maxL rt) rm2 mc ms As h (.inl v, h')) (hR : zRm rm rm2 mc ms maxL cs ss) (hn : As.length = n) (hst : st = As.reverse ++ rest) (hW : (rest.map fun v => v.category).sum ≤ 8)
    (hd : zD cc pc (.invokestatic idx) 3 pc') (kk : zV G x nL Q h' (cs + mc) (ss + ms) pc' lv (v.toList ++ rest)) : zV G x nL Q h cs ss pc lv st := by
  obtain ⟨hd, rfl⟩ := hd
  obtain ⟨l1, l2, l3, l6⟩ := hl
  have hts := B.2.2.2.2.1
  intro H locs ls hr hS hv
  exact zrun B hS hv (vx_runS (n := n) (As := As) (rest := rest) ⟨B.1, B.2.1, B.2.2.1, B.2.2.2.1, hts⟩ hM ⟨zcb (w := .tt) B hw l1 l3 l6 hR, hts _ l2⟩ ⟨zPc.blind, zpre B hr hS⟩ rfl hn hv.1 hst (lv_room (rest := st) hW) hd (by rw [B.2.2.2.2.2.2.1]; exact hR.2.2.2.2)) kk
theorem z_callSX (B : zB G x cc nL own nm rm ret) (hE : ∀ e ∈ (zc x).exceptionTable.toList, False) {y : MethodName} {bytes : ByteArray} {maxL idx n mc ms MC MS : Nat} {rt : Option FieldType} {rm2 : Room} {E : String} (As rest : List Value) (hw : Cond.code y bytes maxL rt ∈ zTb) (hl : zMeS own idx y n) (hM : zMet (zl x) G y (.code y bytes maxL rt) rm2 mc ms As h (.inr E, h')) (hR : zRm rm rm2 mc ms maxL cs ss) (hn : As.length = n) (hst : st = As.reverse ++ rest) (hW : (rest.map fun v => v.category).sum ≤ 8)
    (hd : zD cc pc (.invokestatic idx) 3 pc') (h1 : cs + mc ≤ MC) (h2 : ss + ms ≤ MS) : zV G x nL (zQ G x (.inr E, h') MC MS) h cs ss pc lv st := by
  obtain ⟨hd, rfl⟩ := hd
  obtain ⟨l1, l2, l3, l6⟩ := hl
  have hts := B.2.2.2.2.1
  intro H locs ls hr hS hv
  exact zrunX B hE hS hv h1 h2 (vx_runS (n := n) (As := As) (rest := rest) ⟨B.1, B.2.1, B.2.2.1, B.2.2.2.1, hts⟩ hM ⟨zcb (w := .tt) B hw l1 l3 l6 hR, hts _ l2⟩ ⟨zPc.blind, zpre B hr hS⟩ rfl hn hv.1 hst (lv_room (rest := st) hW) hd (by rw [B.2.2.2.2.2.2.1]; exact hR.2.2.2.2))
end ZCALL
