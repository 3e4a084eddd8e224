/-! what the functions are made of -/
def zF : Nat := 10000
def zb2 {α β : Type} (o : Option (α × zH)) (f : α → zH → Option β) : Option β := match o with
  | none => none
  | some (a, h) => f a h
def zb4 {β : Type} (o : Option (Option String × zH)) (f : zH → Option ((β ⊕ String) × zH)) : Option ((β ⊕ String) × zH) := match o with
  | none => none
  | some (none, h) => f h
  | some (some E, h) => some (.inr E, h)
def zmk (h : zH) (kd len : Nat) : Option zH := if zn h = 0 then none else some (zal h kd len)
def zmk2 (h : zH) (n k : Nat) : Option zH := if zn h = 0 then none else some (zmn h n k)
theorem zbs {α β : Type} {o : Option α} {f : α → Option β} {r : β} (h : o.bind f = some r) : ∃ v, o = some v ∧ f v = some r := by
  cases o with
  | none => cases h
  | some v => exact ⟨v, rfl, h⟩
theorem zb2s {α β : Type} {o : Option (α × zH)} {f : α → zH → Option β} {r : β} (h : zb2 o f = some r) : ∃ v h', o = some (v, h') ∧ f v h' = some r := by
  match o, h with
  | some (v, h'), h => exact ⟨v, h', rfl, h⟩
theorem zb4s {β : Type} {o : Option (Option String × zH)} {f : zH → Option ((β ⊕ String) × zH)} {r : (β ⊕ String) × zH} (h : zb4 o f = some r) : (∃ E h', o = some (some E, h') ∧ r = (.inr E, h')) ∨ ∃ h', o = some (none, h') ∧ f h' = some r := by
  match o, h with
  | some (none, h'), h => exact Or.inr ⟨h', rfl, h⟩
  | some (some E, h'), h => exact Or.inl ⟨E, h', rfl, (Option.some.inj h).symm⟩
theorem zite {β : Type} {c : Prop} [Decidable c] {a b : Option β} {r : β} (h : (if c then a else b) = some r) : (c ∧ a = some r) ∨ (¬ c ∧ b = some r) := by
  by_cases e : c
  · rw [if_pos e] at h; exact Or.inl ⟨e, h⟩
  · rw [if_neg e] at h; exact Or.inr ⟨e, h⟩
theorem zck {β : Type} {c : Prop} [Decidable c] {a : Option β} {r : β} (h : (if c then a else none) = some r) : c ∧ a = some r := by
  by_cases e : c
  · rw [if_pos e] at h; exact ⟨e, h⟩
  · rw [if_neg e] at h; cases h
abbrev zoi (r : Int32 × zH) : zE := (.inl (some (.int r.1)), r.2)
abbrev zol (r : Int64 × zH) : zE := (.inl (some (.long r.1)), r.2)
abbrev zov (r : zH) : zE := (.inl none, r)
abbrev zoxi (r : (Int32 ⊕ String) × zH) : zE := (match r.1 with
  | .inl v => .inl (some (.int v))
  | .inr E => .inr E, r.2)
abbrev zoxv (r : Option String × zH) : zE := (match r.1 with
  | none => .inl none
  | some E => .inr E, r.2)
theorem z_outL {a : Int32} (lo n : Nat) (hn : n < 2 ^ 31) (hv : ∀ j : Nat, lo ≤ j → j < n → ¬ a = nI j) : a.toInt < (lo : Int) ∨ (n : Int) - 1 < a.toInt := by
  rcases pk_ix a hn with h | h | ⟨j, hj, e⟩
  · left
    have h1 := Int32.lt_iff_toInt_lt.mp h
    have h2 : (0 : Int32).toInt = 0 := rfl
    rw [h2] at h1
    omega
  · right
    have h1 := Int32.le_iff_toInt_le.mp h
    rw [nI_toInt hn] at h1
    omega
  · left
    rcases Nat.lt_or_ge j lo with q | q
    · rw [e, nI_toInt (by omega)]
      omega
    · exact absurd e (hv j q hj)
/-- a field that is read from another class -/
def zFR (own : String) (idx c k : Nat) : Prop := ∃ (C : String) (T : u_T) (N : Nat) (tys : Nat → FieldType), zCl c C T N tys ∧ k < N ∧ Cond.fieldLink own idx (T k).1 (T k).2.1 (T k).2.2.1 ∈ zTb
section ZSUG
variable {G : zG} {x : zX} {cc : ByteArray} {nL : Nat} {own nm : String} {rm : Room} {ret : Option FieldType} {Q : State → Prop} {h h' : zH} {cs ss pc pc' : Nat} {lv : List (Nat × Value)} {st : List Value}
theorem z_getR (B : zB G x cc nL own nm rm ret) {idx c k a : Nat} (fl : zFR own idx c k) (hk : zkd h a = c + 1) (hd : zD cc pc (.getfield idx) 3 pc') (kk : zV G x nL Q h cs ss pc' lv (zfv c h a k :: st)) : zV G x nL Q h cs ss pc lv (.ref a :: st) := by
  obtain ⟨hd, rfl⟩ := hd
  obtain ⟨C, T, N, tys, ⟨hc, hN, hin, hty, hnm, h8⟩, hkN, hl⟩ := fl
  intro H locs ls hr hS hv
  obtain ⟨cell, q1, q2, q3, q4⟩ := hr.ob hk h8
  obtain ⟨hK, -⟩ := B.2.2.2.2.2.1
  obtain ⟨hS1, hfc, kC, hkC, hkind⟩ := hK.1 c _ hc
  obtain ⟨cf, kf, fi, f, hi, hsl⟩ := hS1 k hkN
  refine W.getf B.1 B.2.1 B.2.2.2.1 (B.2.2.2.2.1 _ hl) hi (u_facts hfc hkC (u_lays B.2.2.2.2.1 hin hkN) hi).1 q1 (by rw [q3]; exact fun h => by cases h) (v := zfv c h a k) ?_ rfl rfl hd (kk H locs ls hr hS hv)
  rw [hsl, q4 k (by rw [← hN]; exact hkN)]
theorem z_gIR (B : zB G x cc nL own nm rm ret) {idx c k a : Nat} {v : Int32} (fl : zFR own idx c k) (e : zgI h c a k = some v) (hz : zrk c k = false) (hd : zD cc pc (.getfield idx) 3 pc') (kk : zV G x nL Q h cs ss pc' lv (.int v :: st)) : zV G x nL Q h cs ss pc lv (.ref a :: st) := by
  obtain ⟨hk, rfl⟩ := zif e
  exact z_getR B fl hk hd (by simpa [zfv, hz] using kk)
theorem z_gPR (B : zB G x cc nL own nm rm ret) {idx c k a : Nat} {v : Nat} (fl : zFR own idx c k) (e : zgP h c a k = some v) (hz : zrk c k = true) (hd : zD cc pc (.getfield idx) 3 pc') (kk : zV G x nL Q h cs ss pc' lv (.ref v :: st)) : zV G x nL Q h cs ss pc lv (.ref a :: st) := by
  obtain ⟨⟨hk, h0⟩, rfl⟩ := zif e
  exact z_getR B fl hk hd (by simpa [zfv, hz, zro, h0, va_rf] using kk)
theorem z_callVi (B : zB G x cc nL own nm rm ret) {y : MethodName} {bytes : ByteArray} {maxL idx n mc ms ci b N : Nat} {rt : Option FieldType} {rm2 : Room} {C : String} {T : u_T} {v : Int32} (As rest : List Value) (hw : Cond.code y bytes maxL rt ∈ zTb) (hl : zMeV own idx C y n) (hM : zMet (zl x) G y (.code y bytes maxL rt) rm2 mc ms (.ref b :: As) h (.inl (some (.int v)), h')) (hc : vwCl[ci]? = some (C, T, N)) (h8 : ci < 8) (hk : zkd h b = ci + 1) (hR : zRm rm rm2 mc ms maxL cs ss) (hn : As.length = n) (hst : st = As.reverse ++ .ref b :: rest) (hW : (rest.map fun v => v.category).sum ≤ 8)
    (hd : zD cc pc (.invokevirtual idx) 3 pc') (kk : zV G x nL Q h' (cs + mc) (ss + ms) pc' lv (.int v :: rest)) : zV G x nL Q h cs ss pc lv st := z_callV B As rest hw hl hM hc h8 hk hR hn hst hW hd kk
theorem z_callVv (B : zB G x cc nL own nm rm ret) {y : MethodName} {bytes : ByteArray} {maxL idx n mc ms ci b N : Nat} {rt : Option FieldType} {rm2 : Room} {C : String} {T : u_T} (As rest : List Value) (hw : Cond.code y bytes maxL rt ∈ zTb) (hl : zMeV own idx C y n) (hM : zMet (zl x) G y (.code y bytes maxL rt) rm2 mc ms (.ref b :: As) h (.inl none, h')) (hc : vwCl[ci]? = some (C, T, N)) (h8 : ci < 8) (hk : zkd h b = ci + 1) (hR : zRm rm rm2 mc ms maxL cs ss) (hn : As.length = n) (hst : st = As.reverse ++ .ref b :: rest) (hW : (rest.map fun v => v.category).sum ≤ 8)
    (hd : zD cc pc (.invokevirtual idx) 3 pc') (kk : zV G x nL Q h' (cs + mc) (ss + ms) pc' lv rest) : zV G x nL Q h cs ss pc lv st := z_callV B As rest hw hl hM hc h8 hk hR hn hst hW hd kk
theorem z_callSi (B : zB G x cc nL own nm rm ret) {y : MethodName} {bytes : ByteArray} {maxL idx n mc ms : Nat} {rt : Option FieldType} {rm2 : Room} {v : Int32} (As rest : List Value) (hw : Cond.code y bytes maxL rt ∈ zTb) (hl : zMeS own idx y n) (hM : zMet (zl x) G y (.code y bytes maxL rt) rm2 mc ms As h (.inl (some (.int v)), h')) (hR : zRm rm rm2 mc ms maxL cs ss) (hn : As.length = n) (hst : st = As.reverse ++ rest) (hW : (rest.map fun v => v.category).sum ≤ 8)
    (hd : zD cc pc (.invokestatic idx) 3 pc') (kk : zV G x nL Q h' (cs + mc) (ss + ms) pc' lv (.int v :: rest)) : zV G x nL Q h cs ss pc lv st := z_callS B As rest hw hl hM hR hn hst hW hd kk
theorem z_callSl (B : zB G x cc nL own nm rm ret) {y : MethodName} {bytes : ByteArray} {maxL idx n mc ms : Nat} {rt : Option FieldType} {rm2 : Room} {v : Int64} (As rest : List Value) (hw : Cond.code y bytes maxL rt ∈ zTb) (hl : zMeS own idx y n) (hM : zMet (zl x) G y (.code y bytes maxL rt) rm2 mc ms As h (.inl (some (.long v)), h')) (hR : zRm rm rm2 mc ms maxL cs ss) (hn : As.length = n) (hst : st = As.reverse ++ rest) (hW : (rest.map fun v => v.category).sum ≤ 8)
    (hd : zD cc pc (.invokestatic idx) 3 pc') (kk : zV G x nL Q h' (cs + mc) (ss + ms) pc' lv (.long v :: rest)) : zV G x nL Q h cs ss pc lv st := z_callS B As rest hw hl hM hR hn hst hW hd kk
theorem z_callSv (B : zB G x cc nL own nm rm ret) {y : MethodName} {bytes : ByteArray} {maxL idx n mc ms : Nat} {rt : Option FieldType} {rm2 : Room} (As rest : List Value) (hw : Cond.code y bytes maxL rt ∈ zTb) (hl : zMeS own idx y n) (hM : zMet (zl x) G y (.code y bytes maxL rt) rm2 mc ms As h (.inl none, h')) (hR : zRm rm rm2 mc ms maxL cs ss) (hn : As.length = n) (hst : st = As.reverse ++ rest) (hW : (rest.map fun v => v.category).sum ≤ 8)
    (hd : zD cc pc (.invokestatic idx) 3 pc') (kk : zV G x nL Q h' (cs + mc) (ss + ms) pc' lv rest) : zV G x nL Q h cs ss pc lv st := z_callS B As rest hw hl hM hR hn hst hW hd kk
theorem zmks {kd len : Nat} (e : zmk h kd len = some h') : zn h ≠ 0 ∧ zal h kd len = h' := by
  unfold zmk at e
  rcases zite e with ⟨-, e⟩ | ⟨c, e⟩
  · cases e
  · exact ⟨c, Option.some.inj e⟩
theorem z_newS (B : zB G x cc nL own nm rm ret) {idx c : Nat} (hw : zNew own idx c) (e : zmk h (c + 1) 0 = some h') (hd : zD cc pc (.new idx) 3 pc') (h1 : cs + 1 ≤ rm.cells) (h2 : ss + zN c ≤ rm.slots) (kk : zV G x nL Q h' (cs + 1) (ss + zN c) pc' lv (.ref (zn h) :: st)) : zV G x nL Q h cs ss pc lv st := by
  obtain ⟨h0, rfl⟩ := zmks e
  exact z_new B hw h0 hd h1 h2 kk
theorem z_newaIS (B : zB G x cc nL own nm rm ret) {n : Int32} {N : Nat} (hw : Cond.arrayClass .int ∈ zTb) (e : zmk h 9 N = some h') (hn : ¬ n < 0) (hN : n.toNatClampNeg = N) (hbytes : N * 4 ≤ 536870912) (hd : zD cc pc (.newarray .int) 2 pc') (h1 : cs + 1 ≤ rm.cells) (h2 : ss + N ≤ rm.slots) (kk : zV G x nL Q h' (cs + 1) (ss + N) pc' lv (.ref (zn h) :: st)) : zV G x nL Q h cs ss pc lv (.int n :: st) := by
  obtain ⟨h0, rfl⟩ := zmks e
  exact z_newaI B hw h0 hn hN hbytes hd h1 h2 kk
theorem z_newaZS (B : zB G x cc nL own nm rm ret) {n : Int32} {N : Nat} (hw : Cond.arrayClass .boolean ∈ zTb) (e : zmk h 11 N = some h') (hn : ¬ n < 0) (hN : n.toNatClampNeg = N) (hbytes : N * 1 ≤ 536870912) (hd : zD cc pc (.newarray .boolean) 2 pc') (h1 : cs + 1 ≤ rm.cells) (h2 : ss + N ≤ rm.slots) (kk : zV G x nL Q h' (cs + 1) (ss + N) pc' lv (.ref (zn h) :: st)) : zV G x nL Q h cs ss pc lv (.int n :: st) := by
  obtain ⟨h0, rfl⟩ := zmks e
  exact z_newaZ B hw h0 hn hN hbytes hd h1 h2 kk
theorem z_newaJS (B : zB G x cc nL own nm rm ret) {n : Int32} {N : Nat} (hw : Cond.arrayClass .long ∈ zTb) (e : zmk h 10 N = some h') (hn : ¬ n < 0) (hN : n.toNatClampNeg = N) (hbytes : N * 8 ≤ 536870912) (hd : zD cc pc (.newarray .long) 2 pc') (h1 : cs + 1 ≤ rm.cells) (h2 : ss + N ≤ rm.slots) (kk : zV G x nL Q h' (cs + 1) (ss + N) pc' lv (.ref (zn h) :: st)) : zV G x nL Q h cs ss pc lv (.int n :: st) := by
  obtain ⟨h0, rfl⟩ := zmks e
  exact z_newaJ B hw h0 hn hN hbytes hd h1 h2 kk
theorem z_newqS (B : zB G x cc nL own nm rm ret) {idx k : Nat} {C : String} {n : Int32} {N : Nat} (hk3 : 3 ≤ k) (hw : Cond.classLink own idx C ∈ zTb) (hover : ∀ s : State, zGs G s → va_AO C s) (ht : ∀ ta, (ztys ta)[k]? = some (ta k, .object C)) (e : zmk h (k + 9) N = some h') (hn : ¬ n < 0) (hN : n.toNatClampNeg = N) (hbytes : N * 4 ≤ 536870912) (hd : zD cc pc (.anewarray idx) 3 pc') (h1 : cs + 1 ≤ rm.cells) (h2 : ss + N ≤ rm.slots) (kk : zV G x nL Q h' (cs + 1) (ss + N) pc' lv (.ref (zn h) :: st)) : zV G x nL Q h cs ss pc lv (.int n :: st) := by
  obtain ⟨h0, rfl⟩ := zmks e
  exact z_newq B hk3 hw hover ht h0 hn hN hbytes hd h1 h2 kk
theorem z_multiS (B : zB G x cc nL own nm rm ret) {idx : Nat} {n k : Int32} {N K : Nat} (hw : Cond.classLink own idx "[[I" ∈ zTb) (hw2 : Cond.arrayClass .int ∈ zTb) (e : zmk2 h N K = some h') (hn : ¬ n < 0) (hk : ¬ k < 0) (hN : n.toNatClampNeg = N) (hK : k.toNatClampNeg = K) (hb1 : N * 4 ≤ 536870912) (hb2 : K * 4 ≤ 536870912) (hb3 : K ≤ 536870912) (hd : zD cc pc (.multianewarray idx 2) 4 pc') (h1 : cs + (1 + N) ≤ rm.cells) (h2 : ss + (N + N * K) ≤ rm.slots) (kk : zV G x nL Q h' (cs + 1 + N) (ss + N + N * K) pc' lv (.ref (zn h) :: st)) : zV G x nL Q h cs ss pc lv (.int k :: .int n :: st) := by
  unfold zmk2 at e
  rcases zite e with ⟨-, e⟩ | ⟨c, e⟩
  · cases e
  · cases e
    exact z_multi B hw hw2 c hn hk hN hK hb1 hb2 hb3 hd h1 h2 kk
end ZSUG
