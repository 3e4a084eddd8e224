/-! rows over the heap -/
def zCl (c : Nat) (C : String) (T : u_T) (N : Nat) (ty : Nat → FieldType) : Prop := vwCl[c]? = some (C, T, N) ∧ N = zN c ∧ (∀ w ∈ u_ws C T N, w ∈ zTb) ∧ (∀ k, k < N → parseFieldDescriptor (T k).2.2.1 = some (ty k)) ∧ (∀ a, a < N → ∀ b, b < N → a ≠ b → (T a).2.1 ≠ (T b).2.1) ∧ c < 8
def zFL (own : String) (idx c k : Nat) (ty : FieldType) (fin : Bool) : Prop := ∃ (C : String) (T : u_T) (N : Nat) (tys : Nat → FieldType), zCl c C T N tys ∧ k < N ∧ Cond.fieldLink own idx (T k).1 (T k).2.1 (T k).2.2.1 ∈ zTb ∧ tys k = ty ∧ (T k).2.2.2 = fin ∧ (fin = true → (T k).1 = own)
section ZHEAP
variable {G : zG} {x : zX} {cc : ByteArray} {nL : Nat} {own nm : String} {rm : Room} {ret : Option FieldType} {Q : State → Prop} {h : zH} {cs ss pc pc' : Nat} {lv : List (Nat × Value)} {st : List Value}
theorem z_get (B : zB G x cc nL own nm rm ret) {idx c k a : Nat} {ty : FieldType} {fin : Bool} (fl : zFL own idx c k ty fin) (hk : zkd h a = c + 1) (hd : zD cc pc (.getfield idx) 3 pc') (kk : zV G x nL Q h cs ss pc' lv (zfv c h a k :: st)) : zV G x nL Q h cs ss pc lv (.ref a :: st) := by
  obtain ⟨hd, rfl⟩ := hd
  obtain ⟨C, T, N, tys, ⟨hc, hN, hin, hty, hnm, h8⟩, hkN, hl, -, -, -⟩ := fl
  intro H locs ls hr hS hv
  obtain ⟨cell, q1, q2, q3, q4⟩ := hr.ob hk h8
  obtain ⟨hK, -⟩ := B.2.2.2.2.2.1
  obtain ⟨hS1, hfc, kC, hkC, hkind⟩ := hK.1 c _ hc
  obtain ⟨cf, kf, fi, f, hi, hsl⟩ := hS1 k hkN
  refine W.getf B.1 B.2.1 B.2.2.2.1 (B.2.2.2.2.1 _ hl) hi (u_facts hfc hkC (u_lays B.2.2.2.2.1 hin hkN) hi).1 q1 (by rw [q3]; exact fun h => by cases h) (v := zfv c h a k) ?_ rfl rfl hd (kk H locs ls hr hS hv)
  rw [hsl, q4 k (by rw [← hN]; exact hkN)]
theorem z_getI (B : zB G x cc nL own nm rm ret) {idx c k a : Nat} {ty : FieldType} {fin : Bool} (fl : zFL own idx c k ty fin) (hk : zkd h a = c + 1) (hz : zrk c k = false) (hd : zD cc pc (.getfield idx) 3 pc') (kk : zV G x nL Q h cs ss pc' lv (.int (zI h a k) :: st)) : zV G x nL Q h cs ss pc lv (.ref a :: st) :=
  z_get B fl hk hd (by simpa [zfv, hz] using kk)
theorem z_getP (B : zB G x cc nL own nm rm ret) {idx c k a : Nat} {ty : FieldType} {fin : Bool} (fl : zFL own idx c k ty fin) (hk : zkd h a = c + 1) (hz : zrk c k = true) (h0 : zP h a k ≠ 0) (hd : zD cc pc (.getfield idx) 3 pc') (kk : zV G x nL Q h cs ss pc' lv (.ref (zP h a k) :: st)) : zV G x nL Q h cs ss pc lv (.ref a :: st) :=
  z_get B fl hk hd (by simpa [zfv, hz, zro, h0, va_rf] using kk)
/-- putfield: the cell as the row has it -/
theorem z_put (B : zB G x cc nL own nm rm ret) {idx c k a : Nat} {ty : FieldType} {fin : Bool} (fl : zFL own idx c k ty fin) (hk : zkd h a = c + 1) (hfin : fin = false ∨ nm = "<init>") {v : Value} (hn : narrow ty v = v) (hfit : fits ty v = true) (h' : zH) (hkd : zkd h' = zkd h) (hln : zln h' = zln h) (hzn : zn h' = zn h) (hI : ∀ b, b ≠ a → zI h' b = zI h b) (hJ : ∀ b, b ≠ a → zJ h' b = zJ h b) (hP : ∀ b, b ≠ a → zP h' b = zP h b) (hf : zfv c h' a = updV (zfv c h a) k v)
    (hd : zD cc pc (.putfield idx) 3 pc') (kk : zV G x nL Q h' cs ss pc' lv st) : zV G x nL Q h cs ss pc lv (v :: .ref a :: st) := by
  obtain ⟨hd, rfl⟩ := hd
  obtain ⟨C, T, N, tys, ⟨hc, hN, hin, hty, hnm, h8⟩, hkN, hl, ht, hfi, hown⟩ := fl
  intro H locs ls hr hS hv
  obtain ⟨cell, q1, q2, q3, q4⟩ := hr.ob hk h8
  obtain ⟨hK, -⟩ := B.2.2.2.2.2.1
  have hts := B.2.2.2.2.1
  have hap := va_apart (own := own) hts hin tys hty hnm hK hc
  obtain ⟨hS1, hfc, kC, hkC, hkind⟩ := hK.1 c _ hc
  obtain ⟨cf, kf, fi, f, hi, hsl⟩ := hS1 k hkN
  have hlay := hts _ (hin _ (u_in_lay hkN))
  have hst := (u_facts hfc hkC (u_lays hts hin hkN) hi).1
  have hdd : parseFieldDescriptor (T k).2.2.1 = some ty := by rw [hty k hkN, ht]
  have hA : zA G a := hr.inA (by rw [hk]; exact Nat.succ_ne_zero c)
  have fin2 : ∀ H', H'[a]? = some (cell.setSlot f.slot v) → H'.size = H.size → (∀ q, q ≠ a → H'[q]? = H[q]?) → zRep G h' H' := fun H' e1 e2 e3 => by
    refine hr.upd (by rw [hk]; exact Nat.succ_ne_zero c) hkd hln hzn hI hJ hP e2 e3 ⟨fun c2 h2 h28 => ?_, fun k2 h2 => ?_⟩
    · rw [hkd, hk] at h2
      cases h2
      rw [hf]
      rw [hsl] at e1
      exact ⟨_, e1, q2, q3, fun j hj => t_set (V := zfv c h a) q4 (by rw [← hN]; exact hap) (by rw [← hN]; exact hkN) v j hj⟩
    · rw [hkd, hk] at h2
      omega
  have kq : ∀ H', H'[a]? = some (cell.setSlot f.slot v) → H'.size = H.size → (∀ q, q ≠ a → H'[q]? = H[q]?) → W (zp x) (zl x) (ze x) (zR x) (zs x) (zm x) (za x) (zb x) (zt x) (zc x) H' (locs ++ [⟨a, f.slot⟩]) cs ss Q (F0 (zm x) (pc + 3) ls st) := fun H' e1 e2 e3 => kk H' _ ls (fin2 H' e1 e2 e3) (hS.put e2 e3 hA) hv
  cases fin with
  | false =>
    unfold u_lay at hlay
    rw [if_neg (by rw [hfi]; decide)] at hlay
    have h6 := u_store hfc hkC hkind hlay hi hdd hn hfit
    exact W.putK B.1 B.2.1 (f := f) ⟨B.2.2.2.1, hts _ hl, ⟨_, _, _, hi⟩, hst⟩ (by rw [q2]; exact h6) q1 q3 (by rw [hsl]; exact k2_hasslot (q4 k (by rw [← hN]; exact hkN))) rfl rfl hd kq
  | true =>
    have hin2 : (zt x).name = "<init>" := by
      rcases hfin with h | h
      · cases h
      · rw [← h]; exact B.2.2.2.2.2.2.2.2.2.2.2
    unfold u_lay at hlay
    rw [if_pos hfi] at hlay
    have hcf : (zm x).cls = cf := by
      obtain ⟨_, _, c', _, _, _, -, -, hf', -, -, -, hown2, -⟩ := Cond.laysFinal_spec hlay
      have e1 : c' = cf := by have := hi.symm.trans hf'; simp at this; exact this.1.symm
      rw [hown rfl] at hown2
      rw [← e1]; exact Option.some.inj (B.2.2.2.1.symm.trans hown2)
    have h6 := u_fits hfc hkC hkind (Or.inr hlay) hi hdd hn hfit
    exact W.putFinK B.1 B.2.1 B.2.2.2.1 (hts _ hl) hi hst hcf hin2 (by rw [q2]; exact h6) q1 q3 (by rw [hsl]; exact k2_hasslot (q4 k (by rw [← hN]; exact hkN))) rfl rfl hd kq
end ZHEAP
/-! what the steps are, as functions that may fail -/
def zgI (h : zH) (c a k : Nat) : Option Int32 := if zkd h a = c + 1 then some (zI h a k) else none
def zgP (h : zH) (c a k : Nat) : Option Nat := if zkd h a = c + 1 ∧ zP h a k ≠ 0 then some (zP h a k) else none
def zpI (h : zH) (c a k : Nat) (v : Int32) : Option zH := if zkd h a = c + 1 then some (zsI h a k v) else none
def zpZ (h : zH) (c a k : Nat) (v : Int32) : Option zH := if zkd h a = c + 1 ∧ (v = 0 ∨ v = 1) then some (zsI h a k v) else none
def zpP (h : zH) (c a k v : Nat) : Option zH := if zkd h a = c + 1 ∧ v ≠ 0 then some (zsP h a k v) else none
def zaI (h : zH) (a : Nat) (i : Int32) : Option Int32 := if zkd h a = 9 ∧ ¬ (i < 0 ∨ zln h a ≤ i.toNatClampNeg) then some (zI h a i.toNatClampNeg) else none
def zaJ (h : zH) (a : Nat) (i : Int32) : Option Int64 := if zkd h a = 10 ∧ ¬ (i < 0 ∨ zln h a ≤ i.toNatClampNeg) then some (zJ h a i.toNatClampNeg) else none
def zaZ (h : zH) (a : Nat) (i : Int32) : Option Int32 := if zkd h a = 11 ∧ ¬ (i < 0 ∨ zln h a ≤ i.toNatClampNeg) then some (zI h a i.toNatClampNeg) else none
def zaP (h : zH) (a : Nat) (i : Int32) : Option Nat := if 12 ≤ zkd h a ∧ zkd h a ≤ 14 ∧ ¬ (i < 0 ∨ zln h a ≤ i.toNatClampNeg) ∧ zP h a i.toNatClampNeg ≠ 0 then some (zP h a i.toNatClampNeg) else none
def zbI (h : zH) (a : Nat) (i v : Int32) : Option zH := if zkd h a = 9 ∧ ¬ (i < 0 ∨ zln h a ≤ i.toNatClampNeg) then some (zsI h a i.toNatClampNeg v) else none
def zbJ (h : zH) (a : Nat) (i : Int32) (v : Int64) : Option zH := if zkd h a = 10 ∧ ¬ (i < 0 ∨ zln h a ≤ i.toNatClampNeg) then some (zsJ h a i.toNatClampNeg v) else none
def zbZ (h : zH) (a : Nat) (i v : Int32) : Option zH := if zkd h a = 11 ∧ ¬ (i < 0 ∨ zln h a ≤ i.toNatClampNeg) ∧ (v = 0 ∨ v = 1) then some (zsI h a i.toNatClampNeg v) else none
def zbP (h : zH) (a : Nat) (i : Int32) (v : Nat) : Option zH := if ((zkd h a = 12 ∧ zkd h v = 2) ∨ (zkd h a = 13 ∧ zkd h v = 4)) ∧ ¬ (i < 0 ∨ zln h a ≤ i.toNatClampNeg) ∧ v ≠ 0 then some (zsP h a i.toNatClampNeg v) else none
def zle (h : zH) (a : Nat) : Option Int32 := if 9 ≤ zkd h a ∧ zkd h a ≤ 14 then some (Int32.ofNat (zln h a)) else none
def zcp (h : zH) (a : Nat) (sp : Int32) (b : Nat) (dp n : Int32) : Option zH := if zkd h a = 9 ∧ zkd h b = 9 ∧ ¬ sp < 0 ∧ ¬ dp < 0 ∧ ¬ n < 0 ∧ sp.toNatClampNeg + n.toNatClampNeg ≤ zln h a ∧ dp.toNatClampNeg + n.toNatClampNeg ≤ zln h b then some (zrow h b (va_cpy (zI h a) (zI h b) sp.toNatClampNeg dp.toNatClampNeg n.toNatClampNeg)) else none
theorem zif {α : Type} {c : Prop} [Decidable c] {a b : α} (h : (if c then some a else none) = some b) : c ∧ a = b := by
  by_cases e : c
  · rw [if_pos e] at h; exact ⟨e, Option.some.inj h⟩
  · rw [if_neg e] at h; cases h
section ZHEAP2
variable {G : zG} {x : zX} {cc : ByteArray} {nL : Nat} {own nm : String} {rm : Room} {ret : Option FieldType} {Q : State → Prop} {h h' : zH} {cs ss pc pc' : Nat} {lv : List (Nat × Value)} {st : List Value}
theorem z_gI (B : zB G x cc nL own nm rm ret) {idx c k a : Nat} {ty : FieldType} {fin : Bool} {v : Int32} (fl : zFL own idx c k ty fin) (e : zgI h c a k = some v) (hz : zrk c k = false) (hd : zD cc pc (.getfield idx) 3 pc') (kk : zV G x nL Q h cs ss pc' lv (.int v :: st)) : zV G x nL Q h cs ss pc lv (.ref a :: st) := by
  obtain ⟨hk, rfl⟩ := zif e
  exact z_getI B fl hk hz hd kk
theorem z_gP (B : zB G x cc nL own nm rm ret) {idx c k a : Nat} {ty : FieldType} {fin : Bool} {v : Nat} (fl : zFL own idx c k ty fin) (e : zgP h c a k = some v) (hz : zrk c k = true) (hd : zD cc pc (.getfield idx) 3 pc') (kk : zV G x nL Q h cs ss pc' lv (.ref v :: st)) : zV G x nL Q h cs ss pc lv (.ref a :: st) := by
  obtain ⟨⟨hk, h0⟩, rfl⟩ := zif e
  exact z_getP B fl hk hz h0 hd kk
theorem z_pI (B : zB G x cc nL own nm rm ret) {idx c k a : Nat} {v : Int32} (fl : zFL own idx c k .int false) (e : zpI h c a k v = some h') (hz : zrk c k = false) (hd : zD cc pc (.putfield idx) 3 pc') (kk : zV G x nL Q h' cs ss pc' lv st) : zV G x nL Q h cs ss pc lv (.int v :: .ref a :: st) := by
  obtain ⟨hk, rfl⟩ := zif e
  exact z_put B fl hk (Or.inl rfl) rfl rfl (zsI h a k v) rfl rfl rfl (fun b hb => zu_ne hb) (fun _ _ => rfl) (fun _ _ => rfl) (zfv_setI hz) hd kk
theorem z_pZ (B : zB G x cc nL own nm rm ret) {idx c k a : Nat} {v : Int32} (fl : zFL own idx c k .boolean false) (e : zpZ h c a k v = some h') (hz : zrk c k = false) (hd : zD cc pc (.putfield idx) 3 pc') (kk : zV G x nL Q h' cs ss pc' lv st) : zV G x nL Q h cs ss pc lv (.int v :: .ref a :: st) := by
  obtain ⟨⟨hk, hv⟩, rfl⟩ := zif e
  exact z_put B fl hk (Or.inl rfl) (by rcases hv with rfl | rfl <;> rfl) (by rcases hv with rfl | rfl <;> rfl) (zsI h a k v) rfl rfl rfl (fun b hb => zu_ne hb) (fun _ _ => rfl) (fun _ _ => rfl) (zfv_setI hz) hd kk
theorem z_pP (B : zB G x cc nL own nm rm ret) {idx c k a v : Nat} {ty : FieldType} {fin : Bool} (fl : zFL own idx c k ty fin) (e : zpP h c a k v = some h') (hfin : fin = false ∨ nm = "<init>") (hn : narrow ty (.ref v) = .ref v) (hf : fits ty (.ref v) = true) (hz : zrk c k = true) (hd : zD cc pc (.putfield idx) 3 pc') (kk : zV G x nL Q h' cs ss pc' lv st) : zV G x nL Q h cs ss pc lv (.ref v :: .ref a :: st) := by
  obtain ⟨⟨hk, h0⟩, rfl⟩ := zif e
  exact z_put B fl hk hfin hn hf (zsP h a k v) rfl rfl rfl (fun _ _ => rfl) (fun _ _ => rfl) (fun b hb => zu_ne hb) (zfv_setP hz h0) hd kk
theorem zty (G : zG) {s : State} (hG : zGs G s) (k : Nat) {ty : FieldType} (ht : (ztys (zgT G))[k]? = some (zgT G k, ty)) : ArrOfT s (zgT G k) ty := (hG.1.2 k _ ht).1
theorem z_aI (B : zB G x cc nL own nm rm ret) {a : Nat} {i v : Int32} (e : zaI h a i = some v) (hd : zD cc pc .iaload 1 pc') (kk : zV G x nL Q h cs ss pc' lv (.int v :: st)) : zV G x nL Q h cs ss pc lv (.int i :: .ref a :: st) := by
  obtain ⟨⟨hk, hin⟩, rfl⟩ := zif e
  obtain ⟨hd, rfl⟩ := hd
  intro H locs ls hr hS hv
  have hlt : i.toNatClampNeg < zln h a := Nat.not_le.mp fun q => hin (Or.inr q)
  exact W.iald (v := .int (zI h a i.toNatClampNeg)) B.1 B.2.1 (hr.ar (k := 0) hk) (zty G B.2.2.2.2.2.1 0 rfl _ _) (fun q => by cases q) (by rw [arrV_size]; exact hin) (by rw [arrV_read _ _ hlt]; rfl) rfl rfl hd (kk H locs ls hr hS hv)
theorem z_aJ (B : zB G x cc nL own nm rm ret) {a : Nat} {i : Int32} {v : Int64} (e : zaJ h a i = some v) (hd : zD cc pc .laload 1 pc') (kk : zV G x nL Q h cs ss pc' lv (.long v :: st)) : zV G x nL Q h cs ss pc lv (.int i :: .ref a :: st) := by
  obtain ⟨⟨hk, hin⟩, rfl⟩ := zif e
  obtain ⟨hd, rfl⟩ := hd
  intro H locs ls hr hS hv
  have hlt : i.toNatClampNeg < zln h a := Nat.not_le.mp fun q => hin (Or.inr q)
  exact W.lald (v := .long (zJ h a i.toNatClampNeg)) B.1 B.2.1 (hr.ar (k := 1) hk) (zty G B.2.2.2.2.2.1 1 rfl _ _) (fun q => by cases q) (by rw [arrV_size]; exact hin) (by rw [arrV_read _ _ hlt]; rfl) rfl rfl hd (kk H locs ls hr hS hv)
theorem z_aZ (B : zB G x cc nL own nm rm ret) {a : Nat} {i v : Int32} (e : zaZ h a i = some v) (hd : zD cc pc .baload 1 pc') (kk : zV G x nL Q h cs ss pc' lv (.int v :: st)) : zV G x nL Q h cs ss pc lv (.int i :: .ref a :: st) := by
  obtain ⟨⟨hk, hin⟩, rfl⟩ := zif e
  obtain ⟨hd, rfl⟩ := hd
  intro H locs ls hr hS hv
  have hlt : i.toNatClampNeg < zln h a := Nat.not_le.mp fun q => hin (Or.inr q)
  exact W.zald (v := .int (zI h a i.toNatClampNeg)) B.1 B.2.1 (hr.ar (k := 2) hk) (zty G B.2.2.2.2.2.1 2 rfl _ _) (fun q => by cases q) (by rw [arrV_size]; exact hin) (by rw [arrV_read _ _ hlt]; rfl) rfl rfl hd (kk H locs ls hr hS hv)
theorem z_aP (B : zB G x cc nL own nm rm ret) {a v : Nat} {i : Int32} (e : zaP h a i = some v) (hd : zD cc pc .aaload 1 pc') (kk : zV G x nL Q h cs ss pc' lv (.ref v :: st)) : zV G x nL Q h cs ss pc lv (.int i :: .ref a :: st) := by
  obtain ⟨⟨hk1, hk2, hin, h0⟩, rfl⟩ := zif e
  obtain ⟨hd, rfl⟩ := hd
  intro H locs ls hr hS hv
  have hlt : i.toNatClampNeg < zln h a := Nat.not_le.mp fun q => hin (Or.inr q)
  obtain ⟨k, hk, hk3, hk5⟩ : ∃ k, zkd h a = k + 9 ∧ 3 ≤ k ∧ k ≤ 5 := ⟨zkd h a - 9, by omega, by omega, by omega⟩
  have hty : ∃ ty : FieldType, ty.isReference = true ∧ (ztys (zgT G))[k]? = some (zgT G k, ty) := by
    rcases (show k = 3 ∨ k = 4 ∨ k = 5 by omega) with rfl | rfl | rfl
    · exact ⟨_, rfl, rfl⟩
    · exact ⟨_, rfl, rfl⟩
    · exact ⟨_, rfl, rfl⟩
  obtain ⟨ty, hty1, hty2⟩ := hty
  have e1 : zav k h a i.toNatClampNeg = .ref (zP h a i.toNatClampNeg) := by
    simp [zav, show k ≠ 1 by omega, show ¬ k ≤ 2 by omega, zro, h0, va_rf]
  exact W.aald (v := .ref (zP h a i.toNatClampNeg)) (ty := ty) B.1 B.2.1 (hr.ar hk) (zty G B.2.2.2.2.2.1 k hty2 _ _) hty1 (fun q => by cases q) (by rw [arrV_size]; exact hin) (by rw [arrV_read _ _ hlt, e1]) rfl rfl hd (kk H locs ls hr hS hv)
theorem z_len (B : zB G x cc nL own nm rm ret) {a : Nat} {v : Int32} (e : zle h a = some v) (hd : zD cc pc .arraylength 1 pc') (kk : zV G x nL Q h cs ss pc' lv (.int v :: st)) : zV G x nL Q h cs ss pc lv (.ref a :: st) := by
  obtain ⟨⟨hk1, hk2⟩, rfl⟩ := zif e
  obtain ⟨hd, rfl⟩ := hd
  intro H locs ls hr hS hv
  obtain ⟨k, hk, hk5⟩ : ∃ k, zkd h a = k + 9 ∧ k ≤ 5 := ⟨zkd h a - 9, by omega, by omega⟩
  have hty : ∃ ty : FieldType, (ztys (zgT G))[k]? = some (zgT G k, ty) := by
    rcases (show k = 0 ∨ k = 1 ∨ k = 2 ∨ k = 3 ∨ k = 4 ∨ k = 5 by omega) with rfl | rfl | rfl | rfl | rfl | rfl <;> exact ⟨_, rfl⟩
  obtain ⟨ty, hty2⟩ := hty
  exact W.alen (n := Int32.ofNat (zln h a)) B.1 B.2.1 (hr.ar hk) (zty G B.2.2.2.2.2.1 k hty2 _ _) (by rw [arrV_size] <;> rfl) rfl rfl hd (kk H locs ls hr hS hv)
/-- behind a store into an array -/
theorem zRep.stored {H H' : Heap} {a k : Nat} {i : Nat} {v : Value} (hr : zRep G h H) (hk : zkd h a = k + 9) (hkd : zkd h' = zkd h) (hln : zln h' = zln h) (hzn : zn h' = zn h) (hI : ∀ b, b ≠ a → zI h' b = zI h b) (hJ : ∀ b, b ≠ a → zJ h' b = zJ h b) (hP : ∀ b, b ≠ a → zP h' b = zP h b) (hf : zav k h' a = updV (zav k h a) i v)
    (e1 : H'[a]? = some ((arrV (zgT G k) (zln h a) (zav k h a)).setSlot i v)) (e2 : H'.size = H.size) (e3 : ∀ q, q ≠ a → H'[q]? = H[q]?) : zRep G h' H' := by
  refine hr.upd (by rw [hk]; exact Nat.succ_ne_zero _) hkd hln hzn hI hJ hP e2 e3 ⟨fun c2 h2 h28 => ?_, fun k2 h2 => ?_⟩
  · rw [hkd, hk] at h2; omega
  · rw [hkd, hk] at h2
    have : k2 = k := by omega
    subst this
    rw [e1, arrV_store, hf, hln]
theorem z_bI (B : zB G x cc nL own nm rm ret) {a : Nat} {i v : Int32} (e : zbI h a i v = some h') (hd : zD cc pc .iastore 1 pc') (kk : zV G x nL Q h' cs ss pc' lv st) : zV G x nL Q h cs ss pc lv (.int v :: .int i :: .ref a :: st) := by
  obtain ⟨⟨hk, hin⟩, rfl⟩ := zif e
  obtain ⟨hd, rfl⟩ := hd
  intro H locs ls hr hS hv
  exact W.iast B.1 B.2.1 (hr.ar (k := 0) hk) (zty G B.2.2.2.2.2.1 0 rfl _ _) (fun q => by cases q) (by rw [arrV_size]; exact hin) rfl rfl hd fun H1 e1 e2 e3 => kk H1 _ ls (hr.stored (k := 0) hk rfl rfl rfl (fun b hb => zu_ne hb) (fun _ _ => rfl) (fun _ _ => rfl) (zav_setI (by decide) (by decide)) e1 e2 e3) (hS.put e2 e3 (hr.inA (by rw [hk]; decide))) hv
theorem z_bJ (B : zB G x cc nL own nm rm ret) {a : Nat} {i : Int32} {v : Int64} (e : zbJ h a i v = some h') (hd : zD cc pc .lastore 1 pc') (kk : zV G x nL Q h' cs ss pc' lv st) : zV G x nL Q h cs ss pc lv (.long v :: .int i :: .ref a :: st) := by
  obtain ⟨⟨hk, hin⟩, rfl⟩ := zif e
  obtain ⟨hd, rfl⟩ := hd
  intro H locs ls hr hS hv
  exact W.last B.1 B.2.1 (hr.ar (k := 1) hk) (zty G B.2.2.2.2.2.1 1 rfl _ _) (fun q => by cases q) (by rw [arrV_size]; exact hin) rfl rfl hd fun H1 e1 e2 e3 => kk H1 _ ls (hr.stored (k := 1) hk rfl rfl rfl (fun _ _ => rfl) (fun b hb => zu_ne hb) (fun _ _ => rfl) zav_setJ e1 e2 e3) (hS.put e2 e3 (hr.inA (by rw [hk]; decide))) hv
theorem z_bZ (B : zB G x cc nL own nm rm ret) {a : Nat} {i v : Int32} (e : zbZ h a i v = some h') (hd : zD cc pc .bastore 1 pc') (kk : zV G x nL Q h' cs ss pc' lv st) : zV G x nL Q h cs ss pc lv (.int v :: .int i :: .ref a :: st) := by
  obtain ⟨⟨hk, hin, hz⟩, rfl⟩ := zif e
  obtain ⟨hd, rfl⟩ := hd
  intro H locs ls hr hS hv
  have hnar : narrow .boolean (.int v) = .int v := by rcases hz with rfl | rfl <;> rfl
  exact W.zast B.1 B.2.1 (hr.ar (k := 2) hk) (zty G B.2.2.2.2.2.1 2 rfl _ _) (fun q => by cases q) (by rw [arrV_size]; exact hin) rfl rfl hd fun H1 e1 e2 e3 => kk H1 _ ls (hr.stored (k := 2) hk rfl rfl rfl (fun b hb => zu_ne hb) (fun _ _ => rfl) (fun _ _ => rfl) (zav_setI (by decide) (by decide)) (by rw [hnar] at e1; exact e1) e2 e3) (hS.put e2 e3 (hr.inA (by rw [hk]; decide))) hv
theorem z_bP (B : zB G x cc nL own nm rm ret) {a v : Nat} {i : Int32} (e : zbP h a i v = some h') (hd : zD cc pc .aastore 1 pc') (kk : zV G x nL Q h' cs ss pc' lv st) : zV G x nL Q h cs ss pc lv (.ref v :: .int i :: .ref a :: st) := by
  obtain ⟨⟨hkk, hin, h0⟩, rfl⟩ := zif e
  obtain ⟨hd, rfl⟩ := hd
  intro H locs ls hr hS hv
  have hlt : i.toNatClampNeg < zln h a := Nat.not_le.mp fun q => hin (Or.inr q)
  have hi0 : ¬ i < 0 := fun q => hin (Or.inl q)
  have hcl : ∃ (k ci : Nat) (q : vw_C), 3 ≤ k ∧ zkd h a = k + 9 ∧ zkd h v = ci + 1 ∧ ci < 8 ∧ vwCl[ci]? = some q ∧ (ztys (zgT G))[k]? = some (zgT G k, .object q.1) := by
    rcases hkk with ⟨h1, h2⟩ | ⟨h1, h2⟩
    · exact ⟨3, 1, _, by decide, h1, h2, by decide, rfl, rfl⟩
    · exact ⟨4, 3, _, by decide, h1, h2, by decide, rfl, rfl⟩
  obtain ⟨k, ci, q, hk3, hk, hkv, h8, hc, ht⟩ := hcl
  obtain ⟨hK, -⟩ := B.2.2.2.2.2.1
  obtain ⟨cellV, g1, g2, g3, -⟩ := hr.ob hkv h8
  have hcls := (hK.1 ci q hc).2
  obtain ⟨kA, comp, k1, k2, k3, -⟩ := (hK.2 k _ ht).2
  have hcomp : comp = (zgD G).1 ci := Option.some.inj (k3.symm.trans hcls.1)
  subst hcomp
  obtain ⟨kC, hkC, -⟩ := hcls.2
  exact W.aast B.1 B.2.1 (hr.ar hk) (fun q h => by cases h) (fun h => by cases h) k1 k2 rfl hkC ⟨hi0, by rw [arrV_size]; exact hlt⟩ g1 (fun q h => by rw [g3] at h; cases h) (by rw [g2]; exact hkC) (by rw [g2]; exact va_assign hcls) rfl rfl hd fun H1 e1 e2 e3 => kk H1 _ ls (hr.stored hk rfl rfl rfl (fun _ _ => rfl) (fun _ _ => rfl) (fun b hb => zu_ne hb) (zav_setP hk3 h0) e1 e2 e3) (hS.put e2 e3 (hr.inA (by rw [hk]; exact Nat.succ_ne_zero _))) hv
end ZHEAP2
