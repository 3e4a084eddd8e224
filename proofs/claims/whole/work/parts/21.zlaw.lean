/-! rows of the law: its static methods with handlers, its script, its end -/
def zb5 {β : Type} (o : Option ((Int32 ⊕ String) × zH)) (f : Int32 → zH → Option β) (g : String → zH → Option β) : Option β := match o with
  | none => none
  | some (.inl v, h) => f v h
  | some (.inr E, h) => g E h
theorem zb5s {β : Type} {o : Option ((Int32 ⊕ String) × zH)} {f : Int32 → zH → Option β} {g : String → zH → Option β} {r : β} (h : zb5 o f g = some r) : (∃ v h', o = some (.inl v, h') ∧ f v h' = some r) ∨ ∃ E h', o = some (.inr E, h') ∧ g E h' = some r := by
  match o, h with
  | some (.inl v, h'), h => exact Or.inl ⟨v, h', rfl, h⟩
  | some (.inr E, h'), h => exact Or.inr ⟨E, h', rfl, h⟩
def zsc (G : zG) (i : Int32) : Option Int32 := if ¬ (i < 0 ∨ zgL G ≤ i.toNatClampNeg) then some (zgx G i.toNatClampNeg) else none
section ZLAW
variable {G : zG} {x : zX} {cc : ByteArray} {nL : Nat} {own nm : String} {rm : Room} {ret : Option FieldType} {Q : State → Prop} {h h' : zH} {cs ss pc pc' : Nat} {lv : List (Nat × Value)} {st : List Value}
theorem z_sc (B : zB G x cc nL own nm rm ret) {i v : Int32} (e : zsc G i = some v) (hd : zD cc pc .iaload 1 pc') (kk : zV G x nL Q h cs ss pc' lv (.int v :: st)) : zV G x nL Q h cs ss pc lv (.int i :: .ref (zgb G) :: st) := by
  obtain ⟨hin, rfl⟩ := zif e
  exact z_sld B hin hd kk
theorem zcatch {H : Heap} {locs : List Loc} {ls : Array Slot} {ce : Cell} {q : Addr} {rest : List Value} {E : String} (B : zB G x cc nL own nm rm ret) (pre : List ExceptionTableEntry) (e : ExceptionTableEntry) (suf : List ExceptionTableEntry) (hT : (zc x).exceptionTable.toList = pre ++ e :: suf)
    (hpass : ∀ z ∈ pre, z.catchType ≠ 0 ∧ ∃ n, Cond.classLink own z.catchType n ∈ zTb ∧ n ∈ zEx ∧ E ≠ n) (hE : E ∈ zEx) (hx : covers e pc = true) (h0 : e.catchType ≠ 0) (hlink : Cond.classLink own e.catchType E ∈ zTb)
    (hcell : H[q]? = some ce) (hcv : ce.vm = .none) (hcl : (zs x).vm.findClass E = some ce.cls) (hr : zRep G h H) (hS : va_S (zA G) (zs x).heap H locs) (hv : lv_has ls nL lv) (kk : zV G x nL Q h cs ss e.handlerPc lv [.ref q]) :
    vx_W (zp x) (zl x) (ze x) (zR x) (zs x) (zm x) (za x) (zb x) (zt x) (zc x) H locs cs ss Q (F0 (zm x) pc ls rest) q := by
  have hts := B.2.2.2.2.1
  obtain ⟨-, -, -, -, -, -, -, hNc, hCa, -⟩ := B.2.2.2.2.2.1
  exact vx_catch (own := own) (name := E) (E := E) B.2.2.2.1 pre e suf hT (fun z hz => by
    obtain ⟨h1, n, h2, h3, h4⟩ := hpass z hz
    exact Or.inr ⟨h1, n, hts _ h2, hNc E hE n h3 h4⟩) hx h0 (hts _ hlink) (va_Nw.use rfl (hCa E hE)) hcell hcv hcl (kk H locs ls hr hS hv)
theorem z_callVC (B : zB G x cc nL own nm rm ret) {y : MethodName} {bytes : ByteArray} {maxL idx n mc ms ci b N : Nat} {rt : Option FieldType} {rm2 : Room} {C : String} {T : u_T} {E : String} (As rest : List Value) (pre : List ExceptionTableEntry) (e : ExceptionTableEntry) (suf : List ExceptionTableEntry) (hT : (zc x).exceptionTable.toList = pre ++ e :: suf)
    (hpass : ∀ z ∈ pre, z.catchType ≠ 0 ∧ ∃ n, Cond.classLink own z.catchType n ∈ zTb ∧ n ∈ zEx ∧ E ≠ n) (hE : E ∈ zEx) (hx : covers e pc = true) (h0 : e.catchType ≠ 0) (hlink : Cond.classLink own e.catchType E ∈ zTb)
    (hw : Cond.code y bytes maxL rt ∈ zTb) (hl : zMeV own idx C y n) (hM : zMet (zl x) G y (.code y bytes maxL rt) rm2 mc ms (.ref b :: As) h (.inr E, h')) (hc : vwCl[ci]? = some (C, T, N)) (h8 : ci < 8) (hk : zkd h b = ci + 1) (hR : zRm rm rm2 mc ms maxL cs ss) (hn : As.length = n) (hst : st = As.reverse ++ .ref b :: rest) (hW : (rest.map fun v => v.category).sum ≤ 8)
    (hd : zD cc pc (.invokevirtual idx) 3 pc') (kk : ∀ q, zV G x nL Q h' (cs + mc) (ss + ms) e.handlerPc lv [.ref q]) : zV G x nL Q h cs ss pc lv st := by
  obtain ⟨hd, rfl⟩ := hd
  obtain ⟨l1, l2, l3, l4, l5, l6⟩ := hl
  have hts := B.2.2.2.2.1
  subst l5
  intro H locs ls hr hS hv
  have run := vx_runV (l := zl x) (e := ze x) (below := zb x) (meth := zt x) (locs := locs) (cells := cs) (slots := ss) (n := n) (C := y.cls) (As := As) (rest := rest) (g := F0 (zm x) pc ls st) (H := H) ⟨B.1, B.2.1, B.2.2.1, B.2.2.2.1, hts⟩ hM ⟨zcb (w := .tt) B hw l1 l4 l6 hR, hts _ l2, hts _ l3⟩ ⟨zPc.blind, zrecv B hr hc h8 hk, zpre B hr hS⟩ rfl hn hv.1 hst (lv_room (rest := st) hW) hd (by rw [B.2.2.2.2.2.2.1]; exact hR.2.2.2.2)
  intro T hT2 X
  rcases run T hT2 X with ⟨v2, st0, t, T', L, h0', X', hL, e1, e2, ⟨v3, hv3, -⟩, -⟩ | ⟨q, st0, t, T', L, E2, ce, h0', X', hL, e1, e2, ⟨hx2, hrep, hF⟩, hce, hcv, hcl, stp⟩
  · cases hv3
  · cases hx2
    have hS2 := zfree (x := x) (H1 := H) h0' e1 hS hL hF
    obtain ⟨t2, a1, b1⟩ := zcatch (cs := cs + mc) (ss := ss + ms) (pc := pc) (rest := rest) (ls := ls) (H := T'.heap) (locs := locs ++ L) (h := h') (Q := Q) (lv := lv) B pre e suf hT hpass hE hx h0 hlink (by rw [e1]; exact hce) hcv hcl (by rw [e1]; exact hrep) hS2 hv (kk q) T' rfl X'
    exact ⟨t2, stp.trans a1, b1⟩
theorem z_callSW (B : zB G x cc nL own nm rm ret) {y : MethodName} {bytes : ByteArray} {maxL idx n mc ms : Nat} {rt : Option FieldType} {hh : List (Nat × Nat × Nat × Nat)} {rm2 : Room} {v : Int32} (As rest : List Value) (hw : Cond.codeWith y bytes maxL rt hh ∈ zTb) (hl : zMeS own idx y n) (hM : zMet (zl x) G y (.codeWith y bytes maxL rt hh) rm2 mc ms As h (.inl (some (.int v)), h')) (hR : zRm rm rm2 mc ms maxL cs ss) (hn : As.length = n) (hst : st = As.reverse ++ rest) (hW : (rest.map fun v => v.category).sum ≤ 8)
    (hd : zD cc pc (.invokestatic idx) 3 pc') (kk : zV G x nL Q h' (cs + mc) (ss + ms) pc' lv (.int v :: rest)) : zV G x nL Q h cs ss pc lv st := by
  obtain ⟨hd, rfl⟩ := hd
  obtain ⟨l1, l2, l3, l6⟩ := hl
  have hts := B.2.2.2.2.1
  have hG : GoodIn zTb (va_wsS own idx y (Cond.codeWith y bytes maxL rt hh :: zTb)) := by
    intro w hw2
    unfold va_wsS at hw2
    rcases List.mem_append.mp hw2 with q | q
    · have hm : w ∈ zTb := by
        rcases List.mem_cons.mp q with rfl | q
        · exact l1
        · rcases List.mem_cons.mp q with rfl | q
          · exact l2
          · rcases List.mem_cons.mp q with rfl | q
            · exact l3
            · cases q
      exact ⟨hm, good_of_word (List.mem_filter.mp hm).2⟩
    · exact zgood hw w q
  intro H locs ls hr hS hv
  exact zrun B hS hv (vx_runSX (n := n) (As := As) (rest := rest) (hh := hh) ⟨B.1, B.2.1, B.2.2.1, B.2.2.2.1, hts⟩ hM (vx_cwSW n hts hG rfl hR.1 hR.2.1 l6 (by rw [B.2.2.2.2.2.2.1]; exact ⟨hR.2.2.1, hR.2.2.2.1⟩)) ⟨zPc.blind, zpre B hr hS⟩ rfl hn hv.1 hst (lv_room (rest := st) hW) hd (by rw [B.2.2.2.2.2.2.1]; exact hR.2.2.2.2)) kk
end ZLAW
theorem zfalse {r : Int32 × zH} {h : zH} (hr : r.1 = 1) : ¬ (some ((0 : Int32), h) = some r) := fun e => by
  cases e
  exact absurd (show (0 : Int32) = 1 from hr) (by decide)
theorem z_lawret {G : zG} {x : zX} {nm : String} {h : zH} {cs ss pc : Nat} {lv : List (Nat × Value)} (B : zB G x code 7 RL nm room_1 (some .boolean)) (hB : (zs x).heap.size ≤ zgB G) (ha : za x = #[Value.ref (zgb G)]) (hd : decode code pc = .ok (.ireturn, 1)) (hc : cs ≤ 601024) (hs : ss ≤ 7293034) : zV G x 7 (lw_Z (zb x) (za x) (zs x)) h cs ss pc lv [.int 1] := by
  obtain ⟨p, l, e, R, s, m, args, below, meth, c⟩ := x
  obtain ⟨b1, b2, b3, b4, b5, b6, b7, b8, b9, -⟩ := B
  have b7 : R = room_1 := b7
  have ha : args = #[Value.ref (zgb G)] := ha
  subst b7
  subst ha
  intro H locs ls hr hS hv
  exact va_forget (fun q hq => Nat.le_trans hB (hS.2.2 q hq)) (W.widen hc hs (lw_ret b1 b2 b8 b9 hd))
