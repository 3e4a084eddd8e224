/-! the abstract heap: kind, length, ints, longs, references of each cell, by address; the next free address (0: not known) -/
abbrev zH : Type := (Nat → Nat) × (Nat → Nat) × (Nat → Nat → Int32) × (Nat → Nat → Int64) × (Nat → Nat → Nat) × Nat
def zkd (h : zH) : Nat → Nat := h.1
def zln (h : zH) : Nat → Nat := h.2.1
def zI (h : zH) : Nat → Nat → Int32 := h.2.2.1
def zJ (h : zH) : Nat → Nat → Int64 := h.2.2.2.1
def zP (h : zH) : Nat → Nat → Nat := h.2.2.2.2.1
def zn (h : zH) : Nat := h.2.2.2.2.2
def zu {α : Type} (f : Nat → Nat → α) (a k : Nat) (v : α) : Nat → Nat → α := fun b j => if b = a ∧ j = k then v else f b j
def zz {α : Type} (f : Nat → Nat → α) (a : Nat) (v : Nat → α) : Nat → Nat → α := fun b j => if b = a then v j else f b j
def zsI (h : zH) (a k : Nat) (v : Int32) : zH := (zkd h, zln h, zu (zI h) a k v, zJ h, zP h, zn h)
def zsJ (h : zH) (a k : Nat) (v : Int64) : zH := (zkd h, zln h, zI h, zu (zJ h) a k v, zP h, zn h)
def zsP (h : zH) (a k : Nat) (v : Nat) : zH := (zkd h, zln h, zI h, zJ h, zu (zP h) a k v, zn h)
def zrow (h : zH) (a : Nat) (f : Nat → Int32) : zH := (zkd h, zln h, zz (zI h) a f, zJ h, zP h, zn h)
def zoff (h : zH) : zH := (zkd h, zln h, zI h, zJ h, zP h, 0)
def zal (h : zH) (kd len : Nat) : zH := (va_up (zkd h) (zn h) kd, va_up (zln h) (zn h) len, zz (zI h) (zn h) (fun _ => 0), zz (zJ h) (zn h) (fun _ => 0), zz (zP h) (zn h) (fun _ => 0), zn h + 1)
def zro (n : Nat) : Option Nat := if n = 0 then none else some n
def zN (c : Nat) : Nat := ([12, 9, 4, 6, 3, 5, 12, 39] : List Nat).getD c 0
/-- which fields are references -/
def zrk (c k : Nat) : Bool := (([[0,1,2,3,4,5,6,7], [0,1], [0,1,2,3], [0,1], [0], [], [0,1,2,3,4,5,6,7,8,9,10], [1,7,8,9,10,11,12,17,18,19,20,21,22,23,24,25,26,27,29,30,31,32,38]] : List (List Nat)).getD c []).contains k
def zfv (c : Nat) (h : zH) (a k : Nat) : Value := if zrk c k = true then va_rf (zro (zP h a k)) else .int (zI h a k)
def zav (k : Nat) (h : zH) (a j : Nat) : Value := if k = 1 then .long (zJ h a j) else if k ≤ 2 then .int (zI h a j) else va_rf (zro (zP h a j))
/-- the launch's numbers: classes and slots; array classes; the first new address; texts; the script -/
abbrev zG : Type := va_G × (Nat → ClassId) × Nat × (Nat → Nat) × Nat × Nat × (Nat → Int32)
def zgD (G : zG) : va_G := G.1
def zgT (G : zG) : Nat → ClassId := G.2.1
def zgB (G : zG) : Nat := G.2.2.1
def zgS (G : zG) : Nat → Nat := G.2.2.2.1
def zgb (G : zG) : Nat := G.2.2.2.2.1
def zgL (G : zG) : Nat := G.2.2.2.2.2.1
def zgx (G : zG) : Nat → Int32 := G.2.2.2.2.2.2
def zA (G : zG) : Nat → Prop := fun q => zgB G ≤ q
def zOb (G : zG) (h : zH) (a : Nat) (H : Heap) : Prop :=
  (∀ c, zkd h a = c + 1 → c < 8 → t_OB a ((zgD G).1 c) (zN c) ((zgD G).2 c) H (zfv c h a)) ∧ (∀ k, zkd h a = k + 9 → H[a]? = some (arrV (zgT G k) (zln h a) (zav k h a)))
def zRep (G : zG) (h : zH) (H : Heap) : Prop := zgB G ≤ H.size ∧ (zn h = 0 ∨ H.size = zn h) ∧ ∀ a, zkd h a ≠ 0 → zgB G ≤ a ∧ a < H.size ∧ zOb G h a H
theorem zRep.ob {G : zG} {h : zH} {H : Heap} (hr : zRep G h H) {a c : Nat} (hk : zkd h a = c + 1) (hc : c < 8) : t_OB a ((zgD G).1 c) (zN c) ((zgD G).2 c) H (zfv c h a) := (hr.2.2 a (by rw [hk]; exact Nat.succ_ne_zero c)).2.2.1 c hk hc
theorem zRep.ar {G : zG} {h : zH} {H : Heap} (hr : zRep G h H) {a k : Nat} (hk : zkd h a = k + 9) : H[a]? = some (arrV (zgT G k) (zln h a) (zav k h a)) := (hr.2.2 a (by rw [hk]; exact Nat.succ_ne_zero _)).2.2.2 k hk
theorem zRep.inA {G : zG} {h : zH} {H : Heap} (hr : zRep G h H) {a : Nat} (hk : zkd h a ≠ 0) : zA G a := (hr.2.2 a hk).1
theorem zOb.go {G : zG} {h h' : zH} {H H' : Heap} {b : Nat} (ho : zOb G h b H) (hkd : zkd h' b = zkd h b) (hln : zln h' b = zln h b) (hI : zI h' b = zI h b) (hJ : zJ h' b = zJ h b) (hP : zP h' b = zP h b) (hH : H'[b]? = H[b]?) : zOb G h' b H' := by
  refine ⟨fun c hc h8 => ?_, fun k hk => ?_⟩
  · have e : zfv c h' b = zfv c h b := by funext k; simp only [zfv, hI, hP]
    rw [e]
    exact (ho.1 c (hkd.symm.trans hc) h8).kept hH
  · have e : zav k h' b = zav k h b := by funext j; simp only [zav, hI, hP, hJ]
    rw [e, hln, hH]
    exact ho.2 k (hkd.symm.trans hk)
theorem zRep.upd {G : zG} {h h' : zH} {H H' : Heap} {a : Nat} (hr : zRep G h H) (ha : zkd h a ≠ 0) (hkd : zkd h' = zkd h) (hln : zln h' = zln h) (hzn : zn h' = zn h) (hI : ∀ b, b ≠ a → zI h' b = zI h b) (hJ : ∀ b, b ≠ a → zJ h' b = zJ h b) (hP : ∀ b, b ≠ a → zP h' b = zP h b)
    (hsz : H'.size = H.size) (ho : ∀ q, q ≠ a → H'[q]? = H[q]?) (hat : zOb G h' a H') : zRep G h' H' := by
  refine ⟨by rw [hsz]; exact hr.1, by rw [hsz, hzn]; exact hr.2.1, fun b hb => ?_⟩
  rw [hkd] at hb
  obtain ⟨h1, h2, h3⟩ := hr.2.2 b hb
  refine ⟨h1, by rw [hsz]; exact h2, ?_⟩
  by_cases e : b = a
  · subst e; exact hat
  · exact h3.go (by rw [hkd]) (by rw [hln]) (hI b e) (hJ b e) (hP b e) (ho b e)
theorem zu_ne {α : Type} {f : Nat → Nat → α} {a k : Nat} {v : α} {b : Nat} (e : b ≠ a) : zu f a k v b = f b := by funext j; simp [zu, e]
theorem zz_ne {α : Type} {f : Nat → Nat → α} {a : Nat} {v : Nat → α} {b : Nat} (e : b ≠ a) : zz f a v b = f b := by funext j; simp [zz, e]
theorem zz_at {α : Type} {f : Nat → Nat → α} {a : Nat} {v : Nat → α} : zz f a v a = v := by funext j; simp [zz]
theorem zfv_setI {c : Nat} {h : zH} {a k : Nat} {v : Int32} (hk : zrk c k = false) : zfv c (zsI h a k v) a = updV (zfv c h a) k (.int v) := by
  funext j
  by_cases e : j = k
  · subst e; simp [zfv, updV, hk, zsI, zI, zu]
  · simp [zfv, updV, e, zsI, zI, zu, zP]
theorem zfv_setP {c : Nat} {h : zH} {a k v : Nat} (hk : zrk c k = true) (hv : v ≠ 0) : zfv c (zsP h a k v) a = updV (zfv c h a) k (.ref v) := by
  funext j
  by_cases e : j = k
  · subst e; simp [zfv, updV, hk, zsP, zP, zu, zro, hv, va_rf]
  · simp [zfv, updV, e, zsP, zI, zu, zP]
theorem zav_setI {k : Nat} {h : zH} {a i : Nat} {v : Int32} (h1 : k ≠ 1) (h2 : k ≤ 2) : zav k (zsI h a i v) a = updV (zav k h a) i (.int v) := by
  funext j
  by_cases e : j = i
  · subst e; simp [zav, updV, h1, h2, zsI, zI, zu]
  · simp [zav, updV, e, h1, h2, zsI, zI, zu]
theorem zav_setJ {h : zH} {a i : Nat} {v : Int64} : zav 1 (zsJ h a i v) a = updV (zav 1 h a) i (.long v) := by
  funext j
  by_cases e : j = i
  · subst e; simp [zav, updV, zsJ, zJ, zu]
  · simp [zav, updV, e, zsJ, zJ, zu]
theorem zav_setP {k : Nat} {h : zH} {a i v : Nat} (h2 : 3 ≤ k) (hv : v ≠ 0) : zav k (zsP h a i v) a = updV (zav k h a) i (.ref v) := by
  have h1 : k ≠ 1 := by omega
  have h3 : ¬ k ≤ 2 := by omega
  funext j
  by_cases e : j = i
  · subst e; simp [zav, updV, h1, h3, zsP, zP, zu, zro, hv, va_rf]
  · simp [zav, updV, e, h1, h3, zsP, zP, zu]
/-- a new cell -/
theorem zRep.al {G : zG} {h : zH} {H H' : Heap} {kd len : Nat} (hr : zRep G h H) (hn : zn h ≠ 0) (hsz : H'.size = zn h + 1) (ho : ∀ q, q < zn h → H'[q]? = H[q]?) (hat : zOb G (zal h kd len) (zn h) H') : zRep G (zal h kd len) H' := by
  have hs : H.size = zn h := hr.2.1.resolve_left hn
  refine ⟨by have := hr.1; omega, Or.inr hsz, fun b hb => ?_⟩
  by_cases e : b = zn h
  · subst e
    exact ⟨by have := hr.1; omega, by omega, hat⟩
  · have hkd : zkd (zal h kd len) b = zkd h b := by show va_up (zkd h) (zn h) kd b = _; simp [va_up, e]
    rw [hkd] at hb
    obtain ⟨h1, h2, h3⟩ := hr.2.2 b hb
    refine ⟨h1, by omega, h3.go hkd ?_ ?_ ?_ ?_ (ho b (by omega))⟩
    · show va_up (zln h) (zn h) len b = _; simp [va_up, e]
    · exact zz_ne e
    · exact zz_ne e
    · exact zz_ne e
theorem zRep.off {G : zG} {h : zH} {H H' : Heap} (hr : zRep G h H) (hsz : H.size ≤ H'.size) (ho : ∀ q, q < H.size → H'[q]? = H[q]?) : zRep G (zoff h) H' := by
  refine ⟨Nat.le_trans hr.1 hsz, Or.inl rfl, fun b hb => ?_⟩
  obtain ⟨h1, h2, h3⟩ := hr.2.2 b hb
  exact ⟨h1, Nat.lt_of_lt_of_le h2 hsz, h3.go rfl rfl rfl rfl rfl (ho b h2)⟩
/-- the words that all methods may use -/
def zTb : List Cond := lw_tbl.filter goodWord
theorem zmem {w : Cond} (i : Nat) (h : lw_tbl[i]? = some w) (g : goodWord w = true) : w ∈ zTb := List.mem_filter.mpr ⟨List.mem_of_getElem? h, g⟩
theorem zgood {w : Cond} (h : w ∈ zTb) : GoodIn zTb (w :: zTb) := by
  have hg : ∀ v ∈ zTb, v ∈ zTb ∧ ((v.onTables && v.keeps) = true ∨ ∃ ty, v = .arrayClass ty) := fun v hv => ⟨hv, good_of_word (List.mem_filter.mp hv).2⟩
  intro v hv
  rcases List.mem_cons.mp hv with rfl | hv
  · exact hg _ h
  · exact hg v hv
def ztys (ta : Nat → ClassId) : List (ClassId × FieldType) := [(ta 0, .int), (ta 1, .long), (ta 2, .boolean), (ta 3, .object RX1), (ta 4, .object RX3), (ta 5, .array .int)]
def zStr : List (Nat × String) := [(69, "the character code is not 0 to 255"), (80, "the text is full"), (95, "the text is not a clipboard text"), (122, "what is not 0 to 7"), (389, "there is no such conversion"), (143, "what is not 0 to 4"), (394, "there is no such place"), (154, "what is not 0 or 1"), (399, "there is no such entry"), (188, "what is not 0 to 6"), (387, "there is no such format"), (406, "the size is not 1 to 9999"), (209, "no room for the entry"), (222, "no entry, an original form already, or no room for the form"), (231, "the entry cannot be pasted into the place"), (250, "the budget is not 1 to 99999"), (256, "what cannot be removed is larger than the budget"), (261, "the cost is not 1 to 99"), (269, "no state is remembered"), (286, "what is not 0 to 2"), (288, "the index is not 0 to 7"), (294, "the size is not 1 to 99999"), (339, "there is no such rank"), (345, "the number of commands is not 1 to 3"), (351, "the script is negative or has too many digits"), (360, "the number of rounds is not 1 to 50"), (401, "there is no such slot"), (372, "the slot is empty")]
def zNs : List (String × Nat × MethodName × String) := [(RX6, 9, yX4_init, RX6), (RX6, 18, yX2_init, RX6), (RX6, 28, yX5_init, RX6), (RX3, 21, yX1_init, RX6)]
def zEx : List String := ["java/lang/IllegalArgumentException", "java/lang/IllegalStateException", "java/lang/IndexOutOfBoundsException"]
def zDc : List MethodName := [⟨"java/lang/RuntimeException", "<init>", "(Ljava/lang/String;)V"⟩, ⟨"java/lang/Exception", "<init>", "(Ljava/lang/String;)V"⟩, ⟨"java/lang/Throwable", "<init>", "(Ljava/lang/String;)V"⟩]
/-- what holds of the tables and of the old cells, at every state -/
def zGs (G : zG) (U : State) : Prop :=
  va_K (zgD G) vwCl (ztys (zgT G)) U ∧ (∀ q ∈ zNs, va_Nw (.methodLinkNest q.1 q.2.1 q.2.2.1 q.2.2.2) U) ∧ (va_AO RX1 U ∧ va_AO RX3 U ∧ va_AOA .int U) ∧ (∀ q ∈ zStr, vk_R RX6 q.1 q.2 (zgS G q.1) U) ∧
  vx_Zq Bundle.tN "UNASSIGNED_STACK" Bundle.steD (zA G) U U.heap ∧ vx_Zq Bundle.tN "SUPPRESSED_SENTINEL" Bundle.listD (zA G) U U.heap ∧ (va_X (zgb G) (zgL G) (zgx G) U U.heap ∧ zgb G < zgB G) ∧
  (∀ a ∈ zEx, ∀ b ∈ zEx, a ≠ b → va_Nc a b U) ∧ (∀ a ∈ zEx, va_Nw (.castable a a) U) ∧ (∀ y ∈ zDc, va_Nw (.declares y) U)
theorem va_AOA.moved {t : FieldType} {u U : State} (hvm : u.vm.Alike U.vm) (h : va_AOA t u) : va_AOA t U := by
  obtain ⟨comp, c, k, h1, h2, h3, h4, h5⟩ := arrayOverA_spec h
  obtain ⟨k', hk', he⟩ := hvm.2.2 _ _ h3
  have hi : (U.vm.classes.findIdx? fun (x : Class) => match x.kind with | .array component _ => component == comp | _ => false) = some c := by
    refine (va_idx_bare U.vm comp).symm.trans ?_
    first | rw [hvm.bare_eq] | rw [← hvm.bare_eq]
    exact (va_idx_bare u.vm comp).trans h2
  have hkind : k'.kind = .array comp (.array t) := by rw [he]; exact h4
  have f1 : U.vm.findClass (FieldType.array t).toString = some comp := by rw [hvm.findClass]; exact h1
  have f2 : U.vm.findClass ("[" ++ (FieldType.array t).toString) = some c := by rw [hvm.findClass]; exact h5
  unfold va_AOA Cond.before Cond.holds
  simp only [Cond.value]
  rw [f1, Option.bind_some]
  refine (congrArg (fun o : Option Nat => (o.bind (fun c => (U.vm.classes[c]?).map fun (k : Class) => match k.kind with | .array _ ty => decide (ty = FieldType.array t) && decide (U.vm.findClass ("[" ++ (FieldType.array t).toString) = some c) | _ => false) == some true)) hi).trans ?_
  simp [hk', hkind, f2]
/-- .. kept over what a method warms and writes -/
theorem zGs.go {G : zG} {s U : State} (h : zGs G s) (hW : s.WarmedH U.vm) (hB : zgB G ≤ s.heap.size) (hq : ∀ q, q < s.heap.size → ¬ zA G q → U.heap[q]? = s.heap[q]?) : zGs G U := by
  obtain ⟨h1, h2, ⟨h3, h4, h5⟩, h6, h7, h8, ⟨h9, h10⟩, h11, h12, h13⟩ := h
  have a := hW.alike
  refine ⟨h1.moved a, fun q m => va_Nw.warmM hW (h2 q m), ⟨h3.moved a, h4.moved a, h5.moved a⟩, fun q m => (h6 q m).warm hW, (h7.moved a).kept hq, (h8.moved a).kept hq, ⟨(h9.moved a).kept (hq _ (Nat.lt_of_lt_of_le h10 hB) (Nat.not_le.mpr h10)), h10⟩, fun x hx y hy n => (h11 x hx y hy n).moved a, fun x hx => va_Nw.warmC hW (h12 x hx), fun y hy => va_Nw.warmD hW (h13 y hy)⟩
theorem zGs.same {G : zG} {s U : State} (h : zGs G s) (hv : U.vm = s.vm) (hh : U.heap = s.heap) : zGs G U := by
  obtain ⟨h1, h2, ⟨h3, h4, h5⟩, h6, h7, h8, ⟨h9, h10⟩, h11, h12, h13⟩ := h
  have a : s.vm.Alike U.vm := by rw [hv]; exact Vm.Alike.refl s.vm
  refine ⟨h1.moved a, fun q m => va_Nw.same rfl hv.symm (h2 q m), ⟨h3.moved a, h4.moved a, h5.moved a⟩, fun q m => (h6 q m).same hv, by rw [hh]; exact h7.moved a, by rw [hh]; exact h8.moved a, ⟨by rw [hh]; exact h9.moved a, h10⟩, fun x hx y hy n => (h11 x hx y hy n).moved a, fun x hx => va_Nw.same rfl hv.symm (h12 x hx), fun y hy => va_Nw.same rfl hv.symm (h13 y hy)⟩
/-- a method's context: the machine's and the frame's names -/
abbrev zX : Type := Program × Launch × Env × Room × State × MethodId × Array Value × List Frame × Method × Code
abbrev zp (x : zX) : Program := x.1
abbrev zl (x : zX) : Launch := x.2.1
abbrev ze (x : zX) : Env := x.2.2.1
abbrev zR (x : zX) : Room := x.2.2.2.1
abbrev zs (x : zX) : State := x.2.2.2.2.1
abbrev zm (x : zX) : MethodId := x.2.2.2.2.2.1
abbrev za (x : zX) : Array Value := x.2.2.2.2.2.2.1
abbrev zb (x : zX) : List Frame := x.2.2.2.2.2.2.2.1
abbrev zt (x : zX) : Method := x.2.2.2.2.2.2.2.2.1
abbrev zc (x : zX) : Code := x.2.2.2.2.2.2.2.2.2
def zV (G : zG) (x : zX) (nL : Nat) (Q : State → Prop) (h : zH) (cs ss pc : Nat) (lv : List (Nat × Value)) (st : List Value) : Prop :=
  ∀ (H : Heap) (locs : List Loc) (ls : Array Slot), zRep G h H → va_S (zA G) (zs x).heap H locs → lv_has ls nL lv → W (zp x) (zl x) (ze x) (zR x) (zs x) (zm x) (za x) (zb x) (zt x) (zc x) H locs cs ss Q (F0 (zm x) pc ls st)
def zB (G : zG) (x : zX) (cc : ByteArray) (nL : Nat) (own nm : String) (rm : Room) (ret : Option FieldType) : Prop :=
  (zp x).tables.exec = Jvm.exec ∧ (zc x).code = cc ∧ (zc x).maxLocals = nL ∧ (zs x).vm.findClass own = some (zm x).cls ∧ (∀ w ∈ zTb, w.before (za x) (zs x) = true) ∧ zGs G (zs x) ∧ zR x = rm ∧ (zt x).sig.returnType = ret ∧ (zt x).locks = false ∧ zgB G ≤ (zs x).heap.size ∧ (zl x).stackTraces = false ∧ (zt x).name = nm
abbrev zO : Type := Option Value ⊕ String
abbrev zE : Type := zO × zH
def zQc (G : zG) (r : zE) : Array Value → State → Outcome → State → Prop := fun _ st oc t => ∃ v, r.1 = .inl v ∧ oc = .returned v ∧ zRep G r.2 t.heap ∧ va_F (zA G) st t
def zXC (G : zG) (r : zE) : String → State → State → Prop := fun E st t => r.1 = .inr E ∧ zRep G r.2 t.heap ∧ va_F (zA G) st t
def zQ (G : zG) (x : zX) (r : zE) (mc ms : Nat) : State → Prop := vx_MQ (zb x) (zQc G r) (zXC G r) (za x) (zs x) mc ms (zA G)
def zPc (G : zG) (av : List Value) (h : zH) : Array Value → State → Prop := va_Pc av (fun U => zGs G U ∧ zRep G h U.heap)
def zMet (l : Launch) (G : zG) (y : MethodName) (w : Cond) (rm : Room) (mc ms : Nat) (av : List Value) (h : zH) (r : zE) : Prop := vx_Met l y (w :: zTb) rm (zPc G av h) (zQc G r) (zXC G r) mc ms (zA G)
theorem zPc.blind {G : zG} {av : List Value} {h : zH} : FrameBlind (zPc G av h) := fun a U g mk q => ⟨q.1, q.2.1.same rfl rfl, q.2.2⟩
/-- a method from its entry -/
theorem z_enter {l : Launch} {G : zG} {y : MethodName} {cc : ByteArray} {nL : Nat} {ret : Option FieldType} {rm : Room} {mc ms : Nat} {av : List Value} {h : zH} {r : zE} (hy : plainName y.cls = true) (hl : (lg_sl av).length ≤ nL) (hst : l.stackTraces = false)
    (k : ∀ x : zX, zl x = l → zB G x cc nL y.cls y.name rm ret → (∀ e ∈ (zc x).exceptionTable.toList, False) → zV G x nL (zQ G x r mc ms) h 0 0 0 (lv_args 0 av) []) : zMet l G y (.code y cc nL ret) rm mc ms av h r := by
  refine vx_ofW (cc := cc) (maxL := nL) (ret := ret) hy rfl ?_
  intro p e s m args below meth c s₁ B hml hT hP
  obtain ⟨rfl, hG, hR⟩ := hP
  have hts := atoms_spec (ws := Cond.code y cc nL ret :: zTb) B.pre
  have hB0 : zgB G ≤ s.heap.size := hR.1
  have K := k (p, l, e, rm, s, m, av.toArray, below, meth, c) rfl ⟨B.exec, B.bytes, hml, findClass_of_methodNamed B.named, fun w hw => hts w (List.mem_cons_of_mem _ hw), hG, rfl, B.returns, B.notSynchronized, hB0, hst, (name_of_methodNamed B.named B.method).1⟩ hT
  rw [lg_entry_eq]
  exact K s.heap [] _ hR va_S.rf (lv_entry av hl)
theorem z_enterW {l : Launch} {G : zG} {y : MethodName} {cc : ByteArray} {nL : Nat} {ret : Option FieldType} {hh : List (Nat × Nat × Nat × Nat)} {rm : Room} {mc ms : Nat} {av : List Value} {h : zH} {r : zE} (hy : plainName y.cls = true) (hl : (lg_sl av).length ≤ nL) (hst : l.stackTraces = false)
    (k : ∀ x : zX, zl x = l → zB G x cc nL y.cls y.name rm ret → (zc x).exceptionTable.toList = tableOf hh → zV G x nL (zQ G x r mc ms) h 0 0 0 (lv_args 0 av) []) : zMet l G y (.codeWith y cc nL ret hh) rm mc ms av h r := by
  refine vx_ofWH (cc := cc) (maxL := nL) (ret := ret) (hh := hh) hy rfl ?_
  intro p e s m args below meth c s₁ B hml hP
  obtain ⟨rfl, hG, hR⟩ := hP
  have hts := atoms_spec (ws := Cond.codeWith y cc nL ret hh :: zTb) B.pre
  have hB0 : zgB G ≤ s.heap.size := hR.1
  have K := k (p, l, e, rm, s, m, av.toArray, below, meth, c) rfl ⟨B.exec, B.bytes, hml, findClass_of_methodNamed B.named, fun w hw => hts w (List.mem_cons_of_mem _ hw), hG, rfl, B.returns, B.notSynchronized, hB0, hst, (name_of_methodNamed B.named B.method).1⟩ (vx_table (x := y) B (hts _ List.mem_cons_self))
  rw [lg_entry_eq]
  exact K s.heap [] _ hR va_S.rf (lv_entry av hl)
