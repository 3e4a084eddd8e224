def zD (cc : ByteArray) (pc : Nat) (i : Instr) (n pc' : Nat) : Prop := decode cc pc = .ok (i, n) ∧ pc + n = pc'
section ZROWS
variable {G : zG} {x : zX} {cc : ByteArray} {nL : Nat} {own nm : String} {rm : Room} {ret : Option FieldType} {Q : State → Prop} {h : zH} {cs ss pc pc' : Nat} {lv : List (Nat × Value)} {st : List Value}
theorem zV.sub (ks : List Nat) {lv' : List (Nat × Value)} (hl : lv_pick lv ks = lv') (k : zV G x nL Q h cs ss pc lv' st) : zV G x nL Q h cs ss pc lv st := fun H locs ls hr hS hv => k H locs ls hr hS (lv_sub hv ks hl)
theorem zV.wid {c2 s2 : Nat} (h1 : cs ≤ c2) (h2 : ss ≤ s2) (k : zV G x nL Q h c2 s2 pc lv st) : zV G x nL Q h cs ss pc lv st := fun H locs ls hr hS hv => W.widen h1 h2 (k H locs ls hr hS hv)
theorem z_iadd (B : zB G x cc nL own nm rm ret) {a b : Int32} (hd : zD cc pc (.iadd) 1 pc') (k : zV G x nL Q h cs ss pc' lv (.int (a + b) :: st)) : zV G x nL Q h cs ss pc lv (.int b :: .int a :: st) := by
  obtain ⟨hd, rfl⟩ := hd
  exact fun H locs ls hr hS hv => lv_iadd B.1 B.2.1 hd (k H locs ls hr hS hv)
theorem z_isub (B : zB G x cc nL own nm rm ret) {a b : Int32} (hd : zD cc pc (.isub) 1 pc') (k : zV G x nL Q h cs ss pc' lv (.int (a - b) :: st)) : zV G x nL Q h cs ss pc lv (.int b :: .int a :: st) := by
  obtain ⟨hd, rfl⟩ := hd
  exact fun H locs ls hr hS hv => lv_isub B.1 B.2.1 hd (k H locs ls hr hS hv)
theorem z_imul (B : zB G x cc nL own nm rm ret) {a b : Int32} (hd : zD cc pc (.imul) 1 pc') (k : zV G x nL Q h cs ss pc' lv (.int (a * b) :: st)) : zV G x nL Q h cs ss pc lv (.int b :: .int a :: st) := by
  obtain ⟨hd, rfl⟩ := hd
  exact fun H locs ls hr hS hv => lv_imul B.1 B.2.1 hd (k H locs ls hr hS hv)
theorem z_iand (B : zB G x cc nL own nm rm ret) {a b : Int32} (hd : zD cc pc (.iand) 1 pc') (k : zV G x nL Q h cs ss pc' lv (.int (a &&& b) :: st)) : zV G x nL Q h cs ss pc lv (.int b :: .int a :: st) := by
  obtain ⟨hd, rfl⟩ := hd
  exact fun H locs ls hr hS hv => lv_iand B.1 B.2.1 hd (k H locs ls hr hS hv)
theorem z_ior (B : zB G x cc nL own nm rm ret) {a b : Int32} (hd : zD cc pc (.ior) 1 pc') (k : zV G x nL Q h cs ss pc' lv (.int (a ||| b) :: st)) : zV G x nL Q h cs ss pc lv (.int b :: .int a :: st) := by
  obtain ⟨hd, rfl⟩ := hd
  exact fun H locs ls hr hS hv => lv_ior B.1 B.2.1 hd (k H locs ls hr hS hv)
theorem z_ixor (B : zB G x cc nL own nm rm ret) {a b : Int32} (hd : zD cc pc (.ixor) 1 pc') (k : zV G x nL Q h cs ss pc' lv (.int (a ^^^ b) :: st)) : zV G x nL Q h cs ss pc lv (.int b :: .int a :: st) := by
  obtain ⟨hd, rfl⟩ := hd
  exact fun H locs ls hr hS hv => lv_ixor B.1 B.2.1 hd (k H locs ls hr hS hv)
theorem z_ishl (B : zB G x cc nL own nm rm ret) {a b : Int32} (hd : zD cc pc (.ishl) 1 pc') (k : zV G x nL Q h cs ss pc' lv (.int (a <<< (b &&& 31)) :: st)) : zV G x nL Q h cs ss pc lv (.int b :: .int a :: st) := by
  obtain ⟨hd, rfl⟩ := hd
  exact fun H locs ls hr hS hv => lv_ishl B.1 B.2.1 hd (k H locs ls hr hS hv)
theorem z_ishr (B : zB G x cc nL own nm rm ret) {a b : Int32} (hd : zD cc pc (.ishr) 1 pc') (k : zV G x nL Q h cs ss pc' lv (.int (a >>> (b &&& 31)) :: st)) : zV G x nL Q h cs ss pc lv (.int b :: .int a :: st) := by
  obtain ⟨hd, rfl⟩ := hd
  exact fun H locs ls hr hS hv => lv_ishr B.1 B.2.1 hd (k H locs ls hr hS hv)
theorem z_idiv (B : zB G x cc nL own nm rm ret) {a b : Int32} (hd : zD cc pc (.idiv) 1 pc') (hne : ¬ b = 0) (k : zV G x nL Q h cs ss pc' lv (.int (a / b) :: st)) : zV G x nL Q h cs ss pc lv (.int b :: .int a :: st) := by
  obtain ⟨hd, rfl⟩ := hd
  exact fun H locs ls hr hS hv => lv_idiv B.1 B.2.1 hd hne (k H locs ls hr hS hv)
theorem z_irem (B : zB G x cc nL own nm rm ret) {a b : Int32} (hd : zD cc pc (.irem) 1 pc') (hne : ¬ b = 0) (k : zV G x nL Q h cs ss pc' lv (.int (a - a / b * b) :: st)) : zV G x nL Q h cs ss pc lv (.int b :: .int a :: st) := by
  obtain ⟨hd, rfl⟩ := hd
  exact fun H locs ls hr hS hv => lv_irem B.1 B.2.1 hd hne (k H locs ls hr hS hv)
theorem z_ladd (B : zB G x cc nL own nm rm ret) {a b : Int64} (hd : zD cc pc (.ladd) 1 pc') (k : zV G x nL Q h cs ss pc' lv (.long (a + b) :: st)) : zV G x nL Q h cs ss pc lv (.long b :: .long a :: st) := by
  obtain ⟨hd, rfl⟩ := hd
  exact fun H locs ls hr hS hv => lv_ladd B.1 B.2.1 hd (k H locs ls hr hS hv)
theorem z_lsub (B : zB G x cc nL own nm rm ret) {a b : Int64} (hd : zD cc pc (.lsub) 1 pc') (k : zV G x nL Q h cs ss pc' lv (.long (a - b) :: st)) : zV G x nL Q h cs ss pc lv (.long b :: .long a :: st) := by
  obtain ⟨hd, rfl⟩ := hd
  exact fun H locs ls hr hS hv => lv_lsub B.1 B.2.1 hd (k H locs ls hr hS hv)
theorem z_lmul (B : zB G x cc nL own nm rm ret) {a b : Int64} (hd : zD cc pc (.lmul) 1 pc') (k : zV G x nL Q h cs ss pc' lv (.long (a * b) :: st)) : zV G x nL Q h cs ss pc lv (.long b :: .long a :: st) := by
  obtain ⟨hd, rfl⟩ := hd
  exact fun H locs ls hr hS hv => lv_lmul B.1 B.2.1 hd (k H locs ls hr hS hv)
theorem z_land (B : zB G x cc nL own nm rm ret) {a b : Int64} (hd : zD cc pc (.land) 1 pc') (k : zV G x nL Q h cs ss pc' lv (.long (a &&& b) :: st)) : zV G x nL Q h cs ss pc lv (.long b :: .long a :: st) := by
  obtain ⟨hd, rfl⟩ := hd
  exact fun H locs ls hr hS hv => lv_land B.1 B.2.1 hd (k H locs ls hr hS hv)
theorem z_lor (B : zB G x cc nL own nm rm ret) {a b : Int64} (hd : zD cc pc (.lor) 1 pc') (k : zV G x nL Q h cs ss pc' lv (.long (a ||| b) :: st)) : zV G x nL Q h cs ss pc lv (.long b :: .long a :: st) := by
  obtain ⟨hd, rfl⟩ := hd
  exact fun H locs ls hr hS hv => lv_lor B.1 B.2.1 hd (k H locs ls hr hS hv)
theorem z_ldiv (B : zB G x cc nL own nm rm ret) {a b : Int64} (hd : zD cc pc (.ldiv) 1 pc') (hne : ¬ b = 0) (k : zV G x nL Q h cs ss pc' lv (.long (a / b) :: st)) : zV G x nL Q h cs ss pc lv (.long b :: .long a :: st) := by
  obtain ⟨hd, rfl⟩ := hd
  exact fun H locs ls hr hS hv => lv_ldiv B.1 B.2.1 hd hne (k H locs ls hr hS hv)
theorem z_lrem (B : zB G x cc nL own nm rm ret) {a b : Int64} (hd : zD cc pc (.lrem) 1 pc') (hne : ¬ b = 0) (k : zV G x nL Q h cs ss pc' lv (.long (a - a / b * b) :: st)) : zV G x nL Q h cs ss pc lv (.long b :: .long a :: st) := by
  obtain ⟨hd, rfl⟩ := hd
  exact fun H locs ls hr hS hv => lv_lrem B.1 B.2.1 hd hne (k H locs ls hr hS hv)
theorem z_lshl (B : zB G x cc nL own nm rm ret) {a : Int64} {b : Int32} (hd : zD cc pc (.lshl) 1 pc') (k : zV G x nL Q h cs ss pc' lv (.long (a <<< (b.toInt64 &&& 63)) :: st)) : zV G x nL Q h cs ss pc lv (.int b :: .long a :: st) := by
  obtain ⟨hd, rfl⟩ := hd
  exact fun H locs ls hr hS hv => lv_lshl B.1 B.2.1 hd rfl (k H locs ls hr hS hv)
theorem z_lushr (B : zB G x cc nL own nm rm ret) {a : Int64} {b : Int32} (hd : zD cc pc (.lushr) 1 pc') (k : zV G x nL Q h cs ss pc' lv (.long ((a.toUInt64 >>> (b.toInt64.toUInt64 &&& Int64.toUInt64 63)).toInt64) :: st)) : zV G x nL Q h cs ss pc lv (.int b :: .long a :: st) := by
  obtain ⟨hd, rfl⟩ := hd
  exact fun H locs ls hr hS hv => lv_lushr B.1 B.2.1 hd rfl (k H locs ls hr hS hv)
theorem z_i2l (B : zB G x cc nL own nm rm ret) {a : Int32} (hd : zD cc pc (.i2l) 1 pc') (k : zV G x nL Q h cs ss pc' lv (.long a.toInt64 :: st)) : zV G x nL Q h cs ss pc lv (.int a :: st) := by
  obtain ⟨hd, rfl⟩ := hd
  exact fun H locs ls hr hS hv => lv_i2l B.1 B.2.1 hd rfl (k H locs ls hr hS hv)
theorem z_l2i (B : zB G x cc nL own nm rm ret) {a : Int64} (hd : zD cc pc (.l2i) 1 pc') (k : zV G x nL Q h cs ss pc' lv (.int a.toInt32 :: st)) : zV G x nL Q h cs ss pc lv (.long a :: st) := by
  obtain ⟨hd, rfl⟩ := hd
  exact fun H locs ls hr hS hv => lv_l2i B.1 B.2.1 hd rfl (k H locs ls hr hS hv)
theorem z_lcmp (B : zB G x cc nL own nm rm ret) {a b : Int64} (hd : zD cc pc (.lcmp) 1 pc') (k : zV G x nL Q h cs ss pc' lv (.int (lg_cmp a b) :: st)) : zV G x nL Q h cs ss pc lv (.long b :: .long a :: st) := by
  obtain ⟨hd, rfl⟩ := hd
  exact fun H locs ls hr hS hv => W.lcmp B.1 B.2.1 hd (k H locs ls hr hS hv)
theorem z_iconst (B : zB G x cc nL own nm rm ret) {n : Int} {v : Int32} (hd : zD cc pc (.iconst n) 1 pc') (hq : Int32.ofInt n = v) (k : zV G x nL Q h cs ss pc' lv (.int v :: st)) : zV G x nL Q h cs ss pc lv (st) := by
  obtain ⟨hd, rfl⟩ := hd
  exact fun H locs ls hr hS hv => lv_iconst B.1 B.2.1 hd hq (k H locs ls hr hS hv)
theorem z_bipush (B : zB G x cc nL own nm rm ret) {n : Int} {v : Int32} (hd : zD cc pc (.bipush n) 2 pc') (hq : (Int8.ofInt n).toInt32 = v) (k : zV G x nL Q h cs ss pc' lv (.int v :: st)) : zV G x nL Q h cs ss pc lv (st) := by
  obtain ⟨hd, rfl⟩ := hd
  exact fun H locs ls hr hS hv => lv_bipush B.1 B.2.1 hd hq (k H locs ls hr hS hv)
theorem z_sipush (B : zB G x cc nL own nm rm ret) {n : Int} {v : Int32} (hd : zD cc pc (.sipush n) 3 pc') (hq : (Int16.ofInt n).toInt32 = v) (k : zV G x nL Q h cs ss pc' lv (.int v :: st)) : zV G x nL Q h cs ss pc lv (st) := by
  obtain ⟨hd, rfl⟩ := hd
  exact fun H locs ls hr hS hv => lv_sipush B.1 B.2.1 hd hq (k H locs ls hr hS hv)
theorem z_lconst (B : zB G x cc nL own nm rm ret) {n : Fin 2} {v : Int64} (hd : zD cc pc (.lconst n) 1 pc') (hq : Int64.ofNat (n : Nat) = v) (k : zV G x nL Q h cs ss pc' lv (.long v :: st)) : zV G x nL Q h cs ss pc lv (st) := by
  obtain ⟨hd, rfl⟩ := hd
  exact fun H locs ls hr hS hv => lv_lconst B.1 B.2.1 hd hq (k H locs ls hr hS hv)
theorem z_ldc (B : zB G x cc nL own nm rm ret) {i : Nat} {v : Int32} (hd : zD cc pc (.ldc i) 2 pc') (hw : Cond.constant own i v ∈ zTb) (k : zV G x nL Q h cs ss pc' lv (.int v :: st)) : zV G x nL Q h cs ss pc lv (st) := by
  obtain ⟨hd, rfl⟩ := hd
  exact fun H locs ls hr hS hv => lv_ldc B.1 B.2.1 B.2.2.2.1 (B.2.2.2.2.1 _ hw) hd (k H locs ls hr hS hv)
theorem z_ldcw (B : zB G x cc nL own nm rm ret) {i : Nat} {v : Int32} (hd : zD cc pc (.ldc_w i) 3 pc') (hw : Cond.constant own i v ∈ zTb) (k : zV G x nL Q h cs ss pc' lv (.int v :: st)) : zV G x nL Q h cs ss pc lv (st) := by
  obtain ⟨hd, rfl⟩ := hd
  exact fun H locs ls hr hS hv => lv_ldcw B.1 B.2.1 B.2.2.2.1 (B.2.2.2.2.1 _ hw) hd (k H locs ls hr hS hv)
theorem z_ldc2 (B : zB G x cc nL own nm rm ret) {i : Nat} {v : Int64} (hd : zD cc pc (.ldc2_w i) 3 pc') (hw : Cond.constantLong own i v ∈ zTb) (k : zV G x nL Q h cs ss pc' lv (.long v :: st)) : zV G x nL Q h cs ss pc lv (st) := by
  obtain ⟨hd, rfl⟩ := hd
  exact fun H locs ls hr hS hv => lv_ldc2 B.1 B.2.1 B.2.2.2.1 (B.2.2.2.2.1 _ hw) hd (k H locs ls hr hS hv)
theorem z_dup (B : zB G x cc nL own nm rm ret) {a : Value} (hd : zD cc pc (.dup) 1 pc') (hc : a.category = 1) (k : zV G x nL Q h cs ss pc' lv (a :: a :: st)) : zV G x nL Q h cs ss pc lv (a :: st) := by
  obtain ⟨hd, rfl⟩ := hd
  exact fun H locs ls hr hS hv => lv_dup B.1 B.2.1 hd hc (k H locs ls hr hS hv)
theorem z_pop (B : zB G x cc nL own nm rm ret) {a : Value} (hd : zD cc pc (.pop) 1 pc') (hc : a.category = 1) (k : zV G x nL Q h cs ss pc' lv (st)) : zV G x nL Q h cs ss pc lv (a :: st) := by
  obtain ⟨hd, rfl⟩ := hd
  exact fun H locs ls hr hS hv => lv_pop B.1 B.2.1 hd hc (k H locs ls hr hS hv)
theorem z_dup2 (B : zB G x cc nL own nm rm ret) {a b : Value} (hd : zD cc pc (.dup2) 1 pc') (hb : b.category = 1) (ha : a.category = 1) (k : zV G x nL Q h cs ss pc' lv (b :: a :: b :: a :: st)) : zV G x nL Q h cs ss pc lv (b :: a :: st) := by
  obtain ⟨hd, rfl⟩ := hd
  exact fun H locs ls hr hS hv => lv_dup2_11 B.1 B.2.1 hd hb ha (k H locs ls hr hS hv)
theorem z_iload_n (B : zB G x cc nL own nm rm ret) {j : Fin 4} {i : Nat} {v : Int32} (hd : zD cc pc (.iload_n j) 1 pc') (hi : (j : Nat) = i) (q : Nat) (hq : lv[q]? = some (i, .int v)) (k : zV G x nL Q h cs ss pc' lv (.int v :: st)) : zV G x nL Q h cs ss pc lv (st) := by
  obtain ⟨hd, rfl⟩ := hd
  exact fun H locs ls hr hS hv => lv_iload_n B.1 B.2.1 hd hi (lv_at hv q hq) (k H locs ls hr hS hv)
theorem z_iload (B : zB G x cc nL own nm rm ret) {i : Nat} {v : Int32} (hd : zD cc pc (.iload i) 2 pc') (q : Nat) (hq : lv[q]? = some (i, .int v)) (k : zV G x nL Q h cs ss pc' lv (.int v :: st)) : zV G x nL Q h cs ss pc lv (st) := by
  obtain ⟨hd, rfl⟩ := hd
  exact fun H locs ls hr hS hv => lv_iload B.1 B.2.1 hd (lv_at hv q hq) (k H locs ls hr hS hv)
theorem z_istore_n (B : zB G x cc nL own nm rm ret) {j : Fin 4} {i : Nat} {v : Int32} {lv' : List (Nat × Value)} (hd : zD cc pc (.istore_n j) 1 pc') (hi : (j : Nat) = i) (hn : i < nL) (hl : (i, Value.int v) :: lv.filter (fun q => !(q.1 == i) && !(q.1 + 1 == i && q.2.category == 2)) = lv') (k : zV G x nL Q h cs ss pc' lv' st) : zV G x nL Q h cs ss pc lv (.int v :: st) := by
  obtain ⟨hd, rfl⟩ := hd
  exact fun H locs ls hr hS hv => lv_istore_n B.1 B.2.1 hd hi hv hn hl (fun ls' hv' => k H locs ls' hr hS hv')
theorem z_istore (B : zB G x cc nL own nm rm ret) {i : Nat} {v : Int32} {lv' : List (Nat × Value)} (hd : zD cc pc (.istore i) 2 pc') (hn : i < nL) (hl : (i, Value.int v) :: lv.filter (fun q => !(q.1 == i) && !(q.1 + 1 == i && q.2.category == 2)) = lv') (k : zV G x nL Q h cs ss pc' lv' st) : zV G x nL Q h cs ss pc lv (.int v :: st) := by
  obtain ⟨hd, rfl⟩ := hd
  exact fun H locs ls hr hS hv => lv_istore B.1 B.2.1 hd hv hn hl (fun ls' hv' => k H locs ls' hr hS hv')
theorem z_lload_n (B : zB G x cc nL own nm rm ret) {j : Fin 4} {i : Nat} {v : Int64} (hd : zD cc pc (.lload_n j) 1 pc') (hi : (j : Nat) = i) (q : Nat) (hq : lv[q]? = some (i, .long v)) (k : zV G x nL Q h cs ss pc' lv (.long v :: st)) : zV G x nL Q h cs ss pc lv (st) := by
  obtain ⟨hd, rfl⟩ := hd
  exact fun H locs ls hr hS hv => lv_lload_n B.1 B.2.1 hd hi (lv_at hv q hq) (k H locs ls hr hS hv)
theorem z_lload (B : zB G x cc nL own nm rm ret) {i : Nat} {v : Int64} (hd : zD cc pc (.lload i) 2 pc') (q : Nat) (hq : lv[q]? = some (i, .long v)) (k : zV G x nL Q h cs ss pc' lv (.long v :: st)) : zV G x nL Q h cs ss pc lv (st) := by
  obtain ⟨hd, rfl⟩ := hd
  exact fun H locs ls hr hS hv => lv_lload B.1 B.2.1 hd (lv_at hv q hq) (k H locs ls hr hS hv)
theorem z_lstore_n (B : zB G x cc nL own nm rm ret) {j : Fin 4} {i : Nat} {v : Int64} {lv' : List (Nat × Value)} (hd : zD cc pc (.lstore_n j) 1 pc') (hi : (j : Nat) = i) (hn : i + 1 < nL) (hl : (i, Value.long v) :: lv.filter (fun q => !(q.1 == i) && (!(q.1 == i + 1) && !(q.1 + 1 == i && q.2.category == 2))) = lv') (k : zV G x nL Q h cs ss pc' lv' st) : zV G x nL Q h cs ss pc lv (.long v :: st) := by
  obtain ⟨hd, rfl⟩ := hd
  exact fun H locs ls hr hS hv => lv_lstore_n B.1 B.2.1 hd hi hv hn hl (fun ls' hv' => k H locs ls' hr hS hv')
theorem z_lstore (B : zB G x cc nL own nm rm ret) {i : Nat} {v : Int64} {lv' : List (Nat × Value)} (hd : zD cc pc (.lstore i) 2 pc') (hn : i + 1 < nL) (hl : (i, Value.long v) :: lv.filter (fun q => !(q.1 == i) && (!(q.1 == i + 1) && !(q.1 + 1 == i && q.2.category == 2))) = lv') (k : zV G x nL Q h cs ss pc' lv' st) : zV G x nL Q h cs ss pc lv (.long v :: st) := by
  obtain ⟨hd, rfl⟩ := hd
  exact fun H locs ls hr hS hv => lv_lstore B.1 B.2.1 hd hv hn hl (fun ls' hv' => k H locs ls' hr hS hv')
theorem z_aload_n (B : zB G x cc nL own nm rm ret) {j : Fin 4} {i : Nat} {v : Nat} (hd : zD cc pc (.aload_n j) 1 pc') (hi : (j : Nat) = i) (q : Nat) (hq : lv[q]? = some (i, .ref v)) (k : zV G x nL Q h cs ss pc' lv (.ref v :: st)) : zV G x nL Q h cs ss pc lv (st) := by
  obtain ⟨hd, rfl⟩ := hd
  exact fun H locs ls hr hS hv => lv_aload_n B.1 B.2.1 hd hi (lv_at hv q hq) (k H locs ls hr hS hv)
theorem z_aload (B : zB G x cc nL own nm rm ret) {i : Nat} {v : Nat} (hd : zD cc pc (.aload i) 2 pc') (q : Nat) (hq : lv[q]? = some (i, .ref v)) (k : zV G x nL Q h cs ss pc' lv (.ref v :: st)) : zV G x nL Q h cs ss pc lv (st) := by
  obtain ⟨hd, rfl⟩ := hd
  exact fun H locs ls hr hS hv => lv_aload B.1 B.2.1 hd (lv_at hv q hq) (k H locs ls hr hS hv)
theorem z_astore_n (B : zB G x cc nL own nm rm ret) {j : Fin 4} {i : Nat} {v : Nat} {lv' : List (Nat × Value)} (hd : zD cc pc (.astore_n j) 1 pc') (hi : (j : Nat) = i) (hn : i < nL) (hl : (i, Value.ref v) :: lv.filter (fun q => !(q.1 == i) && !(q.1 + 1 == i && q.2.category == 2)) = lv') (k : zV G x nL Q h cs ss pc' lv' st) : zV G x nL Q h cs ss pc lv (.ref v :: st) := by
  obtain ⟨hd, rfl⟩ := hd
  exact fun H locs ls hr hS hv => lv_astore_n B.1 B.2.1 hd hi hv hn hl (fun ls' hv' => k H locs ls' hr hS hv')
theorem z_astore (B : zB G x cc nL own nm rm ret) {i : Nat} {v : Nat} {lv' : List (Nat × Value)} (hd : zD cc pc (.astore i) 2 pc') (hn : i < nL) (hl : (i, Value.ref v) :: lv.filter (fun q => !(q.1 == i) && !(q.1 + 1 == i && q.2.category == 2)) = lv') (k : zV G x nL Q h cs ss pc' lv' st) : zV G x nL Q h cs ss pc lv (.ref v :: st) := by
  obtain ⟨hd, rfl⟩ := hd
  exact fun H locs ls hr hS hv => lv_astore B.1 B.2.1 hd hv hn hl (fun ls' hv' => k H locs ls' hr hS hv')
theorem z_iinc (B : zB G x cc nL own nm rm ret) {i : Nat} {n : Int} {v v' : Int32} {lv' : List (Nat × Value)} (hd : zD cc pc (.iinc i n) 3 pc') (q : Nat) (hq : lv[q]? = some (i, .int v)) (hv' : v + Int32.ofInt n = v') (hn : i < nL) (hl : (i, Value.int v') :: lv.filter (fun q => !(q.1 == i) && !(q.1 + 1 == i && q.2.category == 2)) = lv') (k : zV G x nL Q h cs ss pc' lv' st) : zV G x nL Q h cs ss pc lv st := by
  obtain ⟨hd, rfl⟩ := hd
  exact fun H locs ls hr hS hv => lv_iinc B.1 B.2.1 hd hv hq hv' hn hl (fun ls' hv' => k H locs ls' hr hS hv')
theorem z_goto (B : zB G x cc nL own nm rm ret) {off : Int} (tgt : Nat) (hd : zD cc pc (.goto off) 3 pc') (ht : (pc : Int) + off = (tgt : Int)) (k : zV G x nL Q h cs ss tgt lv st) : zV G x nL Q h cs ss pc lv st :=
  fun H locs ls hr hS hv => lv_goto B.1 B.2.1 hd.1 ht (k H locs ls hr hS hv)
theorem z_if_eq (B : zB G x cc nL own nm rm ret) {a : Int32} {off : Int} (tgt : Nat) (hd : zD cc pc (.ifCond .eq off) 3 pc') (ht : (pc : Int) + off = (tgt : Int)) (kt : a = 0 → zV G x nL Q h cs ss tgt lv st) (kf : ¬ a = 0 → zV G x nL Q h cs ss pc' lv st) : zV G x nL Q h cs ss pc lv (.int a :: st) := by
  obtain ⟨hd, rfl⟩ := hd
  exact fun H locs ls hr hS hv => lv_if_eq B.1 B.2.1 hd ht (fun e => kt e H locs ls hr hS hv) (fun e => kf e H locs ls hr hS hv)
theorem z_if_ne (B : zB G x cc nL own nm rm ret) {a : Int32} {off : Int} (tgt : Nat) (hd : zD cc pc (.ifCond .ne off) 3 pc') (ht : (pc : Int) + off = (tgt : Int)) (kt : ¬ a = 0 → zV G x nL Q h cs ss tgt lv st) (kf : a = 0 → zV G x nL Q h cs ss pc' lv st) : zV G x nL Q h cs ss pc lv (.int a :: st) := by
  obtain ⟨hd, rfl⟩ := hd
  exact fun H locs ls hr hS hv => lv_if_ne B.1 B.2.1 hd ht (fun e => kt e H locs ls hr hS hv) (fun e => kf e H locs ls hr hS hv)
theorem z_if_lt (B : zB G x cc nL own nm rm ret) {a : Int32} {off : Int} (tgt : Nat) (hd : zD cc pc (.ifCond .lt off) 3 pc') (ht : (pc : Int) + off = (tgt : Int)) (kt : a < 0 → zV G x nL Q h cs ss tgt lv st) (kf : ¬ a < 0 → zV G x nL Q h cs ss pc' lv st) : zV G x nL Q h cs ss pc lv (.int a :: st) := by
  obtain ⟨hd, rfl⟩ := hd
  exact fun H locs ls hr hS hv => lv_if_lt B.1 B.2.1 hd ht (fun e => kt e H locs ls hr hS hv) (fun e => kf e H locs ls hr hS hv)
theorem z_if_ge (B : zB G x cc nL own nm rm ret) {a : Int32} {off : Int} (tgt : Nat) (hd : zD cc pc (.ifCond .ge off) 3 pc') (ht : (pc : Int) + off = (tgt : Int)) (kt : 0 ≤ a → zV G x nL Q h cs ss tgt lv st) (kf : ¬ 0 ≤ a → zV G x nL Q h cs ss pc' lv st) : zV G x nL Q h cs ss pc lv (.int a :: st) := by
  obtain ⟨hd, rfl⟩ := hd
  exact fun H locs ls hr hS hv => lv_if_ge B.1 B.2.1 hd ht (fun e => kt e H locs ls hr hS hv) (fun e => kf e H locs ls hr hS hv)
theorem z_if_gt (B : zB G x cc nL own nm rm ret) {a : Int32} {off : Int} (tgt : Nat) (hd : zD cc pc (.ifCond .gt off) 3 pc') (ht : (pc : Int) + off = (tgt : Int)) (kt : 0 < a → zV G x nL Q h cs ss tgt lv st) (kf : ¬ 0 < a → zV G x nL Q h cs ss pc' lv st) : zV G x nL Q h cs ss pc lv (.int a :: st) := by
  obtain ⟨hd, rfl⟩ := hd
  exact fun H locs ls hr hS hv => lv_if_gt B.1 B.2.1 hd ht (fun e => kt e H locs ls hr hS hv) (fun e => kf e H locs ls hr hS hv)
theorem z_if_le (B : zB G x cc nL own nm rm ret) {a : Int32} {off : Int} (tgt : Nat) (hd : zD cc pc (.ifCond .le off) 3 pc') (ht : (pc : Int) + off = (tgt : Int)) (kt : a ≤ 0 → zV G x nL Q h cs ss tgt lv st) (kf : ¬ a ≤ 0 → zV G x nL Q h cs ss pc' lv st) : zV G x nL Q h cs ss pc lv (.int a :: st) := by
  obtain ⟨hd, rfl⟩ := hd
  exact fun H locs ls hr hS hv => lv_if_le B.1 B.2.1 hd ht (fun e => kt e H locs ls hr hS hv) (fun e => kf e H locs ls hr hS hv)
theorem z_icmp_eq (B : zB G x cc nL own nm rm ret) {a b : Int32} {off : Int} (tgt : Nat) (hd : zD cc pc (.if_icmp .eq off) 3 pc') (ht : (pc : Int) + off = (tgt : Int)) (kt : a = b → zV G x nL Q h cs ss tgt lv st) (kf : ¬ a = b → zV G x nL Q h cs ss pc' lv st) : zV G x nL Q h cs ss pc lv (.int b :: .int a :: st) := by
  obtain ⟨hd, rfl⟩ := hd
  exact fun H locs ls hr hS hv => lv_icmp_eq B.1 B.2.1 hd ht (fun e => kt e H locs ls hr hS hv) (fun e => kf e H locs ls hr hS hv)
theorem z_icmp_ne (B : zB G x cc nL own nm rm ret) {a b : Int32} {off : Int} (tgt : Nat) (hd : zD cc pc (.if_icmp .ne off) 3 pc') (ht : (pc : Int) + off = (tgt : Int)) (kt : ¬ a = b → zV G x nL Q h cs ss tgt lv st) (kf : a = b → zV G x nL Q h cs ss pc' lv st) : zV G x nL Q h cs ss pc lv (.int b :: .int a :: st) := by
  obtain ⟨hd, rfl⟩ := hd
  exact fun H locs ls hr hS hv => lv_icmp_ne B.1 B.2.1 hd ht (fun e => kt e H locs ls hr hS hv) (fun e => kf e H locs ls hr hS hv)
theorem z_icmp_lt (B : zB G x cc nL own nm rm ret) {a b : Int32} {off : Int} (tgt : Nat) (hd : zD cc pc (.if_icmp .lt off) 3 pc') (ht : (pc : Int) + off = (tgt : Int)) (kt : a < b → zV G x nL Q h cs ss tgt lv st) (kf : ¬ a < b → zV G x nL Q h cs ss pc' lv st) : zV G x nL Q h cs ss pc lv (.int b :: .int a :: st) := by
  obtain ⟨hd, rfl⟩ := hd
  exact fun H locs ls hr hS hv => lv_icmp_lt B.1 B.2.1 hd ht (fun e => kt e H locs ls hr hS hv) (fun e => kf e H locs ls hr hS hv)
theorem z_icmp_ge (B : zB G x cc nL own nm rm ret) {a b : Int32} {off : Int} (tgt : Nat) (hd : zD cc pc (.if_icmp .ge off) 3 pc') (ht : (pc : Int) + off = (tgt : Int)) (kt : b ≤ a → zV G x nL Q h cs ss tgt lv st) (kf : ¬ b ≤ a → zV G x nL Q h cs ss pc' lv st) : zV G x nL Q h cs ss pc lv (.int b :: .int a :: st) := by
  obtain ⟨hd, rfl⟩ := hd
  exact fun H locs ls hr hS hv => lv_icmp_ge B.1 B.2.1 hd ht (fun e => kt e H locs ls hr hS hv) (fun e => kf e H locs ls hr hS hv)
theorem z_icmp_gt (B : zB G x cc nL own nm rm ret) {a b : Int32} {off : Int} (tgt : Nat) (hd : zD cc pc (.if_icmp .gt off) 3 pc') (ht : (pc : Int) + off = (tgt : Int)) (kt : b < a → zV G x nL Q h cs ss tgt lv st) (kf : ¬ b < a → zV G x nL Q h cs ss pc' lv st) : zV G x nL Q h cs ss pc lv (.int b :: .int a :: st) := by
  obtain ⟨hd, rfl⟩ := hd
  exact fun H locs ls hr hS hv => lv_icmp_gt B.1 B.2.1 hd ht (fun e => kt e H locs ls hr hS hv) (fun e => kf e H locs ls hr hS hv)
theorem z_icmp_le (B : zB G x cc nL own nm rm ret) {a b : Int32} {off : Int} (tgt : Nat) (hd : zD cc pc (.if_icmp .le off) 3 pc') (ht : (pc : Int) + off = (tgt : Int)) (kt : a ≤ b → zV G x nL Q h cs ss tgt lv st) (kf : ¬ a ≤ b → zV G x nL Q h cs ss pc' lv st) : zV G x nL Q h cs ss pc lv (.int b :: .int a :: st) := by
  obtain ⟨hd, rfl⟩ := hd
  exact fun H locs ls hr hS hv => lv_icmp_le B.1 B.2.1 hd ht (fun e => kt e H locs ls hr hS hv) (fun e => kf e H locs ls hr hS hv)
theorem z_tabIn (B : zB G x cc nL own nm rm ret) {dflt lo hi : Int} {offs : Array Int} {n : Nat} {a : Int32} {off : Int} (v : Int32) (tgt : Nat) (hd : zD cc pc (.tableswitch dflt lo hi offs) n pc') (e : a = v) (h1 : ¬ v.toInt < lo) (h2 : ¬ hi < v.toInt) (ho : offs[(v.toInt - lo).toNat]? = some off) (ht : (pc : Int) + off = (tgt : Int)) (k : zV G x nL Q h cs ss tgt lv st) : zV G x nL Q h cs ss pc lv (.int a :: st) := by
  subst e
  exact fun H locs ls hr hS hv => lv_tableIn B.1 B.2.1 hd.1 h1 h2 ho ht (k H locs ls hr hS hv)
theorem z_tabOut (B : zB G x cc nL own nm rm ret) {dflt lo hi : Int} {offs : Array Int} {n : Nat} {a : Int32} (tgt : Nat) (hd : zD cc pc (.tableswitch dflt lo hi offs) n pc') (ho : a.toInt < lo ∨ hi < a.toInt) (ht : (pc : Int) + dflt = (tgt : Int)) (k : zV G x nL Q h cs ss tgt lv st) : zV G x nL Q h cs ss pc lv (.int a :: st) :=
  fun H locs ls hr hS hv => lv_tableOut B.1 B.2.1 hd.1 ho ht (k H locs ls hr hS hv)
theorem z_look (B : zB G x cc nL own nm rm ret) {dflt : Int} {ps : Array (Int × Int)} {n : Nat} {a : Int32} {off : Int} (tgt : Nat) (hd : zD cc pc (.lookupswitch dflt ps) n pc') (hp : (ps.toList.zip (ps.toList.drop 1)).all (fun (a, next) => a.1 < next.1) = true) (ho : Op.lookupswitch.offset ps.toList dflt a.toInt = off) (ht : (pc : Int) + off = (tgt : Int)) (k : zV G x nL Q h cs ss tgt lv st) : zV G x nL Q h cs ss pc lv (.int a :: st) :=
  fun H locs ls hr hS hv => lv_lookup B.1 B.2.1 hd.1 hp ho ht (k H locs ls hr hS hv)
theorem z_out {a : Int32} (n : Nat) (hn : n < 2 ^ 31) (hv : ∀ j : Nat, j < n → ¬ a = nI j) : a.toInt < 0 ∨ (n : Int) - 1 < a.toInt := by
  rcases pk_ix a hn with h | h | ⟨j, hj, e⟩
  · left; simpa using Int32.lt_iff_toInt_lt.mp h
  · right
    have h1 := Int32.le_iff_toInt_le.mp h
    rw [nI_toInt hn] at h1
    omega
  · exact absurd e (hv j hj)
/-! ends -/
theorem z_iret (B : zB G x cc nL own nm rm (some .int)) {v : Int32} {mc ms : Nat} (hd : zD cc pc .ireturn 1 pc') (hc : cs ≤ mc) (hs : ss ≤ ms) : zV G x nL (zQ G x (.inl (some (.int v)), h) mc ms) h cs ss pc lv [.int v] :=
  fun H locs ls hr hS hv => W.widen hc hs (vx_ret (W.iret B.1 B.2.1 B.2.2.2.2.2.2.2.1 (fun t ht hW => ⟨_, rfl, rfl, by rw [ht]; exact hr, hS.F ht⟩) hS.2.2 hd.1 B.2.2.2.2.2.2.2.2.1))
theorem z_zret (B : zB G x cc nL own nm rm (some .boolean)) {v : Int32} {mc ms : Nat} (hd : zD cc pc .ireturn 1 pc') (hv : v = 0 ∨ v = 1) (hc : cs ≤ mc) (hs : ss ≤ ms) : zV G x nL (zQ G x (.inl (some (.int v)), h) mc ms) h cs ss pc lv [.int v] :=
  fun H locs ls hr hS _ => W.widen hc hs (vx_ret (W.zret B.1 B.2.1 B.2.2.2.2.2.2.2.1 (by rcases hv with rfl | rfl <;> rfl) (fun t ht hW => ⟨_, rfl, rfl, by rw [ht]; exact hr, hS.F ht⟩) hS.2.2 hd.1 B.2.2.2.2.2.2.2.2.1))
theorem z_lret (B : zB G x cc nL own nm rm (some .long)) {v : Int64} {mc ms : Nat} (hd : zD cc pc .lreturn 1 pc') (hc : cs ≤ mc) (hs : ss ≤ ms) : zV G x nL (zQ G x (.inl (some (.long v)), h) mc ms) h cs ss pc lv [.long v] :=
  fun H locs ls hr hS hv => W.widen hc hs (vx_ret (W.lret B.1 B.2.1 B.2.2.2.2.2.2.2.1 (fun t ht hW => ⟨_, rfl, rfl, by rw [ht]; exact hr, hS.F ht⟩) hS.2.2 hd.1 B.2.2.2.2.2.2.2.2.1))
theorem z_vret (B : zB G x cc nL own nm rm none) {mc ms : Nat} (hd : zD cc pc .return_ 1 pc') (hc : cs ≤ mc) (hs : ss ≤ ms) : zV G x nL (zQ G x (.inl none, h) mc ms) h cs ss pc lv [] :=
  fun H locs ls hr hS hv => W.widen hc hs (vx_ret (W.vret B.1 B.2.1 B.2.2.2.2.2.2.2.1 (fun t ht hW => ⟨_, rfl, rfl, by rw [ht]; exact hr, hS.F ht⟩) hS.2.2 hd.1 B.2.2.2.2.2.2.2.2.1))
end ZROWS
