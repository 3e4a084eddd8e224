/-! new cells -/
def zmn (h : zH) (n k : Nat) : zH := (fun a => if a = zn h then 14 else if zn h < a ∧ a ≤ zn h + n then 9 else zkd h a, fun a => if a = zn h then n else if zn h < a ∧ a ≤ zn h + n then k else zln h a, fun a j => if zn h < a ∧ a ≤ zn h + n then 0 else zI h a j, zJ h, fun a j => if a = zn h then (if j < n then zn h + 1 + j else 0) else zP h a j, zn h + n + 1)
def zNew (own : String) (idx c : Nat) : Prop := ∃ (C : String) (T : u_T) (N : Nat) (tys : Nat → FieldType), zCl c C T N tys ∧ Cond.classLink own idx C ∈ zTb ∧ Cond.instantiable C N ∈ zTb ∧ Cond.initialized C ∈ zTb ∧ (∀ k, k < N → defaultValue (tys k) = (if zrk c k = true then .null else .int 0))
section ZMAKE
variable {G : zG} {x : zX} {cc : ByteArray} {nL : Nat} {own nm : String} {rm : Room} {ret : Option FieldType} {Q : State → Prop} {h h' : zH} {cs ss pc pc' : Nat} {lv : List (Nat × Value)} {st : List Value}
theorem zS_grow {H H1 : Heap} {H0 : Heap} {locs : List Loc} (hS : va_S (zA G) H0 H locs) (z1 : H.size ≤ H1.size) (o1 : ∀ q, q < H.size → H1[q]? = H[q]?) : va_S (zA G) H0 H1 locs := ⟨Nat.le_trans hS.1 z1, fun q h1 h2 => (o1 q (Nat.lt_of_lt_of_le h1 hS.1)).trans (hS.2.1 q h1 h2), hS.2.2⟩
theorem z_new (B : zB G x cc nL own nm rm ret) {idx c : Nat} (hw : zNew own idx c) (h0 : zn h ≠ 0) (hd : zD cc pc (.new idx) 3 pc') (h1 : cs + 1 ≤ rm.cells) (h2 : ss + zN c ≤ rm.slots) (kk : zV G x nL Q (zal h (c + 1) 0) (cs + 1) (ss + zN c) pc' lv (.ref (zn h) :: st)) : zV G x nL Q h cs ss pc lv st := by
  obtain ⟨hd, rfl⟩ := hd
  obtain ⟨C, T, N, tys, ⟨hc, hN, hin, hty, hnm, h8⟩, w1, w2, w3, hdf⟩ := hw
  have hts := B.2.2.2.2.1
  subst hN
  intro H locs ls hr hS hv
  obtain ⟨hK, -⟩ := B.2.2.2.2.2.1
  have hKn := hK.1 c _ hc
  have hsz : H.size = zn h := hr.2.1.resolve_left h0
  refine W.newcK B.1 B.2.1 B.2.2.2.1 (hts _ w1) (hts _ w2) (hts _ w3) rfl hd (by rw [B.2.2.2.2.2.2.1]; exact h1) (by rw [B.2.2.2.2.2.2.1]; exact h2) hKn.2.1 hsz fun H1 kC hkC e1 z1 o1 => ?_
  refine kk H1 locs ls (hr.al h0 z1 o1 ⟨fun c2 hc2 h28 => ?_, fun k2 hk2 => ?_⟩) (zS_grow hS (by omega) (by rw [hsz]; exact o1)) hv
  · have : zkd (zal h (c + 1) 0) (zn h) = c + 1 := by show va_up _ _ _ _ = _; simp [va_up]
    have e2 : c2 = c := by omega
    subst e2
    refine (u_born tys hts hin hKn hkC e1 hty).to fun k hk => ?_
    show defaultValue (tys k) = _
    rw [hdf k hk]
    unfold zfv
    by_cases hz : zrk c2 k = true
    · rw [if_pos hz, if_pos hz, show zP (zal h (c2 + 1) 0) (zn h) k = 0 by simp [zal, zP, zz]]; rfl
    · rw [if_neg hz, if_neg hz, show zI (zal h (c2 + 1) 0) (zn h) k = 0 by simp [zal, zI, zz]]
  · have : zkd (zal h (c + 1) 0) (zn h) = c + 1 := by show va_up _ _ _ _ = _; simp [va_up]
    omega
theorem zarr_new {H H1 : Heap} {k N : Nat} {cA : ClassId} {d : Value} (hr : zRep G h H) (h0 : zn h ≠ 0) (hcA : cA = zgT G k) (e1 : H1[zn h]? = some (arrV cA N (fun _ => d))) (z1 : H1.size = zn h + 1) (o1 : ∀ q, q < zn h → H1[q]? = H[q]?) (hd : d = if k = 1 then .long 0 else if k ≤ 2 then .int 0 else .null) : zRep G (zal h (k + 9) N) H1 := by
  have hkd : zkd (zal h (k + 9) N) (zn h) = k + 9 := by show va_up _ _ _ _ = _; simp [va_up]
  refine hr.al h0 z1 o1 ⟨fun c2 hc2 h28 => by omega, fun k2 hk2 => ?_⟩
  have e2 : k2 = k := by omega
  subst e2
  rw [e1, hcA, hd]
  have hl : zln (zal h (k2 + 9) N) (zn h) = N := by show va_up _ _ _ _ = _; simp [va_up]
  rw [hl]
  congr 2
  funext j
  have f1 : zI (zal h (k2 + 9) N) (zn h) j = 0 := by simp [zal, zI, zz]
  have f2 : zJ (zal h (k2 + 9) N) (zn h) j = 0 := by simp [zal, zJ, zz]
  have f3 : zP (zal h (k2 + 9) N) (zn h) j = 0 := by simp [zal, zP, zz]
  simp only [zav, f1, f2, f3]
  rfl
theorem zty2 {s : State} (hG : zGs G s) (k : Nat) {ty : FieldType} (ht : (ztys (zgT G))[k]? = some (zgT G k, ty)) {cA : ClassId} (hf : s.vm.findClass ("[" ++ ty.toString) = some cA) : cA = zgT G k := by
  have h2 := (hG.1.2 k _ ht).2
  have h3 : s.vm.findClass ("[" ++ ty.toString) = some (zgT G k) := by
    cases ty with
    | object C => obtain ⟨kA, comp, -, -, -, h4⟩ := h2; exact h4
    | _ => exact h2
  exact Option.some.inj (hf.symm.trans h3)
theorem z_newaI (B : zB G x cc nL own nm rm ret) {n : Int32} {N : Nat} (hw : Cond.arrayClass .int ∈ zTb) (h0 : zn h ≠ 0) (hn : ¬ n < 0) (hN : n.toNatClampNeg = N) (hbytes : N * 4 ≤ 536870912) (hd : zD cc pc (.newarray .int) 2 pc') (h1 : cs + 1 ≤ rm.cells) (h2 : ss + N ≤ rm.slots) (kk : zV G x nL Q (zal h 9 N) (cs + 1) (ss + N) pc' lv (.ref (zn h) :: st)) : zV G x nL Q h cs ss pc lv (.int n :: st) := by
  obtain ⟨hd, rfl⟩ := hd
  intro H locs ls hr hS hv
  have hsz : H.size = zn h := hr.2.1.resolve_left h0
  exact va_newaK (N := N) B.1 B.2.1 (atype := .int) (B.2.2.2.2.1 _ hw) rfl hd rfl hn hN hbytes (by rw [B.2.2.2.2.2.2.1]; exact h1) (by rw [B.2.2.2.2.2.2.1]; exact h2) hsz fun H1 cA e1 z1 o1 _ hf => kk H1 locs ls (zarr_new (k := 0) hr h0 (zty2 B.2.2.2.2.2.1 0 rfl hf) e1 z1 o1 rfl) (zS_grow hS (by omega) (by rw [hsz]; exact o1)) hv
theorem z_newaZ (B : zB G x cc nL own nm rm ret) {n : Int32} {N : Nat} (hw : Cond.arrayClass .boolean ∈ zTb) (h0 : zn h ≠ 0) (hn : ¬ n < 0) (hN : n.toNatClampNeg = N) (hbytes : N * 1 ≤ 536870912) (hd : zD cc pc (.newarray .boolean) 2 pc') (h1 : cs + 1 ≤ rm.cells) (h2 : ss + N ≤ rm.slots) (kk : zV G x nL Q (zal h 11 N) (cs + 1) (ss + N) pc' lv (.ref (zn h) :: st)) : zV G x nL Q h cs ss pc lv (.int n :: st) := by
  obtain ⟨hd, rfl⟩ := hd
  intro H locs ls hr hS hv
  have hsz : H.size = zn h := hr.2.1.resolve_left h0
  exact va_newaK (N := N) B.1 B.2.1 (atype := .boolean) (B.2.2.2.2.1 _ hw) rfl hd rfl hn hN hbytes (by rw [B.2.2.2.2.2.2.1]; exact h1) (by rw [B.2.2.2.2.2.2.1]; exact h2) hsz fun H1 cA e1 z1 o1 _ hf => kk H1 locs ls (zarr_new (k := 2) hr h0 (zty2 B.2.2.2.2.2.1 2 rfl hf) e1 z1 o1 rfl) (zS_grow hS (by omega) (by rw [hsz]; exact o1)) hv
theorem z_newaJ (B : zB G x cc nL own nm rm ret) {n : Int32} {N : Nat} (hw : Cond.arrayClass .long ∈ zTb) (h0 : zn h ≠ 0) (hn : ¬ n < 0) (hN : n.toNatClampNeg = N) (hbytes : N * 8 ≤ 536870912) (hd : zD cc pc (.newarray .long) 2 pc') (h1 : cs + 1 ≤ rm.cells) (h2 : ss + N ≤ rm.slots) (kk : zV G x nL Q (zal h 10 N) (cs + 1) (ss + N) pc' lv (.ref (zn h) :: st)) : zV G x nL Q h cs ss pc lv (.int n :: st) := by
  obtain ⟨hd, rfl⟩ := hd
  intro H locs ls hr hS hv
  have hsz : H.size = zn h := hr.2.1.resolve_left h0
  exact va_newaK (N := N) B.1 B.2.1 (atype := .long) (B.2.2.2.2.1 _ hw) rfl hd rfl hn hN hbytes (by rw [B.2.2.2.2.2.2.1]; exact h1) (by rw [B.2.2.2.2.2.2.1]; exact h2) hsz fun H1 cA e1 z1 o1 _ hf => kk H1 locs ls (zarr_new (k := 1) hr h0 (zty2 B.2.2.2.2.2.1 1 rfl hf) e1 z1 o1 rfl) (zS_grow hS (by omega) (by rw [hsz]; exact o1)) hv
theorem z_newq (B : zB G x cc nL own nm rm ret) {idx k : Nat} {C : String} {n : Int32} {N : Nat} (hk3 : 3 ≤ k) (hw : Cond.classLink own idx C ∈ zTb) (hover : ∀ s : State, zGs G s → va_AO C s) (ht : ∀ ta, (ztys ta)[k]? = some (ta k, .object C)) (h0 : zn h ≠ 0) (hn : ¬ n < 0) (hN : n.toNatClampNeg = N) (hbytes : N * 4 ≤ 536870912) (hd : zD cc pc (.anewarray idx) 3 pc') (h1 : cs + 1 ≤ rm.cells) (h2 : ss + N ≤ rm.slots) (kk : zV G x nL Q (zal h (k + 9) N) (cs + 1) (ss + N) pc' lv (.ref (zn h) :: st)) : zV G x nL Q h cs ss pc lv (.int n :: st) := by
  obtain ⟨hd, rfl⟩ := hd
  subst hN
  intro H locs ls hr hS hv
  have hsz : H.size = zn h := hr.2.1.resolve_left h0
  refine W.anew B.1 B.2.1 B.2.2.2.1 (B.2.2.2.2.1 _ hw) (va_AO.use (hover _ B.2.2.2.2.2.1)) rfl hd rfl hn hbytes (by rw [B.2.2.2.2.2.2.1]; exact h1) (by rw [B.2.2.2.2.2.2.1]; exact h2) fun cA kA comp f1 f2 f3 f4 => ?_
  generalize hH1 : H.push ({ cls := cA, slots := Array.replicate n.toNatClampNeg .null, vm := .none } : Cell) = H1
  have z1 : H1.size = zn h + 1 := by rw [← hH1, Array.size_push, hsz]
  have e1 : H1[zn h]? = some (arrV cA n.toNatClampNeg (fun _ => .null)) := by rw [← hH1, ← hsz, Array.getElem?_push_size, ← arrV_new]
  have o1 : ∀ q : Nat, q < zn h → H1[q]? = H[q]? := fun q hq => by rw [← hH1, Array.getElem?_push, if_neg (by omega)]
  have K := kk H1 locs ls (zarr_new (k := k) hr h0 (zty2 B.2.2.2.2.2.1 k (ht _) f1) e1 z1 o1 (by simp [show k ≠ 1 by omega, show ¬ k ≤ 2 by omega])) (zS_grow hS (by omega) (by rw [hsz]; exact o1)) hv
  rw [← hsz] at K
  exact K
theorem z_multi (B : zB G x cc nL own nm rm ret) {idx : Nat} {n k : Int32} {N K : Nat} (hw : Cond.classLink own idx "[[I" ∈ zTb) (hw2 : Cond.arrayClass .int ∈ zTb) (h0 : zn h ≠ 0) (hn : ¬ n < 0) (hk : ¬ k < 0) (hN : n.toNatClampNeg = N) (hK : k.toNatClampNeg = K) (hb1 : N * 4 ≤ 536870912) (hb2 : K * 4 ≤ 536870912) (hb3 : K ≤ 536870912) (hd : zD cc pc (.multianewarray idx 2) 4 pc') (h1 : cs + (1 + N) ≤ rm.cells) (h2 : ss + (N + N * K) ≤ rm.slots) (kk : zV G x nL Q (zmn h N K) (cs + 1 + N) (ss + N + N * K) pc' lv (.ref (zn h) :: st)) : zV G x nL Q h cs ss pc lv (.int k :: .int n :: st) := by
  obtain ⟨hd, rfl⟩ := hd
  subst hN; subst hK
  intro H locs ls hr hS hv
  have hsz : H.size = zn h := hr.2.1.resolve_left h0
  have hG := B.2.2.2.2.2.1
  intro T hT Xs
  obtain ⟨vm₁, cA, comp, -, fA, fC, hO, -, X', step⟩ := Xs.multianewarray2F B.1 B.2.2.2.1 (B.2.2.2.2.1 _ hw) (va_AOA.use hG.2.2.1.2.2) (B.2.2.2.2.1 _ hw2) (g := F0 (zm x) pc ls (.int k :: .int n :: st)) rfl (by rw [B.2.1]; exact hd) rfl hn hk hb1 hb2 hb3 rfl rfl (by rw [B.2.2.2.2.2.2.1]; exact h1) (by rw [B.2.2.2.2.2.2.1]; exact h2)
  have ec : comp = zgT G 0 := zty2 hG 0 (ty := .int) rfl fC
  have eA : cA = zgT G 5 := zty2 hG 5 (ty := .array .int) rfl fA
  generalize hF : Jvm.Free.Multi.fill (T.setVm vm₁) cA comp n.toNatClampNeg k.toNatClampNeg (defaultValue .int) n.toNatClampNeg = F at X' step
  have hTh : (T.setVm vm₁).heap = H := hT
  obtain ⟨f1, f2, -, -⟩ := Jvm.Free.Multi.fill_facts (T.setVm vm₁) cA comp n.toNatClampNeg k.toNatClampNeg (defaultValue .int) n.toNatClampNeg
  rw [hF, hTh] at f1 f2
  have hold : ∀ q : Nat, q < H.size → F.heap[q]? = H[q]? := fun q hq => by
    have := Jvm.Free.Multi.fill_old (T.setVm vm₁) cA comp n.toNatClampNeg k.toNatClampNeg (defaultValue .int) (a := q) (by rw [hTh]; exact hq) n.toNatClampNeg
    rw [hF, hTh] at this
    exact this
  have hrow : ∀ j : Nat, j < n.toNatClampNeg → F.heap[H.size + 1 + j]? = some (arrV comp k.toNatClampNeg (fun _ => .int 0)) := fun j hj => by
    have := Jvm.Free.Multi.fill_inner (T.setVm vm₁) cA comp n.toNatClampNeg k.toNatClampNeg (defaultValue .int) n.toNatClampNeg j hj
    rw [hF, hTh] at this
    rw [this]
    exact congrArg some (arrV_new comp k.toNatClampNeg (.int 0))
  rw [vr_outer] at f2
  have hB1 := hr.1
  have rep : zRep G (zmn h n.toNatClampNeg k.toNatClampNeg) F.heap := by
    refine ⟨by omega, Or.inr (by show F.heap.size = zn h + n.toNatClampNeg + 1; omega), fun a ha => ?_⟩
    by_cases e1 : a = zn h
    · subst e1
      refine ⟨by omega, by omega, fun c2 hc2 h28 => ?_, fun k2 hk2 => ?_⟩
      · have : zkd (zmn h n.toNatClampNeg k.toNatClampNeg) (zn h) = 14 := by simp [zmn, zkd]
        omega
      · have : zkd (zmn h n.toNatClampNeg k.toNatClampNeg) (zn h) = 14 := by simp [zmn, zkd]
        have e2 : k2 = 5 := by omega
        subst e2
        rw [← hsz, f2, eA]
        have hl : zln (zmn h n.toNatClampNeg k.toNatClampNeg) H.size = n.toNatClampNeg := by simp [zmn, zln, hsz]
        rw [hl]
        congr 2
        funext j
        have f3 : zP (zmn h n.toNatClampNeg k.toNatClampNeg) H.size j = if j < n.toNatClampNeg then H.size + 1 + j else 0 := by simp [zmn, zP, hsz]
        simp only [zav, f3]
        by_cases hj : j < n.toNatClampNeg
        · simp [hj, zro]
        · simp [hj, zro]
    · by_cases e2 : zn h < a ∧ a ≤ zn h + n.toNatClampNeg
      · refine ⟨by omega, by omega, fun c2 hc2 h28 => ?_, fun k2 hk2 => ?_⟩
        · have : zkd (zmn h n.toNatClampNeg k.toNatClampNeg) a = 9 := by simp [zmn, zkd, e1, e2]
          omega
        · have : zkd (zmn h n.toNatClampNeg k.toNatClampNeg) a = 9 := by simp [zmn, zkd, e1, e2]
          have e3 : k2 = 0 := by omega
          subst e3
          have ea : a = H.size + 1 + (a - H.size - 1) := by omega
          rw [ea, hrow (a - H.size - 1) (by omega), ec, ← ea]
          have hl : zln (zmn h n.toNatClampNeg k.toNatClampNeg) a = k.toNatClampNeg := by simp [zmn, zln, e1, e2]
          rw [hl]
          congr 2
          funext j
          simp [zav, zmn, zI, e2]
      · have hkd : zkd (zmn h n.toNatClampNeg k.toNatClampNeg) a = zkd h a := by simp [zmn, zkd, e1, e2]
        rw [hkd] at ha
        obtain ⟨g1, g2, g3⟩ := hr.2.2 a ha
        refine ⟨g1, by omega, g3.go hkd ?_ ?_ rfl ?_ (hold a g2)⟩
        · simp [zmn, zln, e1, e2]
        · funext j; simp [zmn, zI, e2]
        · funext j; simp [zmn, zP, e1]
  obtain ⟨t2, a1, b1⟩ := kk F.heap locs ls rep (zS_grow hS (by omega) hold) hv F rfl X'
  refine ⟨t2, step t2 ?_, b1⟩
  rw [hT, hsz]
  exact a1
end ZMAKE
