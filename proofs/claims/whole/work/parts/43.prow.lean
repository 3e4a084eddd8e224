/-! pure: the reference's arrays, by number -/
section PROW
variable {h : zH} {I : Nat → Nat → Int32} {m : Nat}
theorem rg1 (hT : RefT h m) : zgP (zw h I) 7 m 1 = some (m + 1) := by
  obtain ⟨t, ⟨z, -, -, -, -, -, -, -, -, -, -, -, -, -, -, -, -, -, -, -, -, -, -⟩, -⟩ := hT
  exact zgPw t z (by omega)
theorem rk1 (hT : RefT h m) : zkd h (m + 1) = 9 := by
  rw [hT.2.2.1 1 (by omega) (by omega)]; rfl
theorem rl1 (hT : RefT h m) : zln h (m + 1) = 160 := hT.2.2.2.1
theorem ra1 (hT : RefT h m) {i : Nat} (hi : i < 160) : zaI (zw h I) (m + 1) (nI i) = some (I (m + 1) i) := zaIw _ (rk1 hT) (by rw [rl1 hT]; exact hi) (by rw [rl1 hT]; decide)
theorem rb1 (hT : RefT h m) {i : Nat} {v : Int32} (hi : i < 160) : zbI (zw h I) (m + 1) (nI i) v = some (zw h (zz I (m + 1) (va_up (I (m + 1)) i v))) := zbIw _ _ (rk1 hT) (by rw [rl1 hT]; exact hi) (by rw [rl1 hT]; decide)
theorem rg2 (hT : RefT h m) : zgP (zw h I) 7 m 7 = some (m + 2) := by
  obtain ⟨t, ⟨-, z, -, -, -, -, -, -, -, -, -, -, -, -, -, -, -, -, -, -, -, -, -⟩, -⟩ := hT
  exact zgPw t z (by omega)
theorem rk2 (hT : RefT h m) : zkd h (m + 2) = 9 := by
  rw [hT.2.2.1 2 (by omega) (by omega)]; rfl
theorem rl2 (hT : RefT h m) : zln h (m + 2) = 20 := hT.2.2.2.2.1 2 (by omega) (by omega)
theorem ra2 (hT : RefT h m) {i : Nat} (hi : i < 20) : zaI (zw h I) (m + 2) (nI i) = some (I (m + 2) i) := zaIw _ (rk2 hT) (by rw [rl2 hT]; exact hi) (by rw [rl2 hT]; decide)
theorem rb2 (hT : RefT h m) {i : Nat} {v : Int32} (hi : i < 20) : zbI (zw h I) (m + 2) (nI i) v = some (zw h (zz I (m + 2) (va_up (I (m + 2)) i v))) := zbIw _ _ (rk2 hT) (by rw [rl2 hT]; exact hi) (by rw [rl2 hT]; decide)
theorem rg3 (hT : RefT h m) : zgP (zw h I) 7 m 8 = some (m + 3) := by
  obtain ⟨t, ⟨-, -, z, -, -, -, -, -, -, -, -, -, -, -, -, -, -, -, -, -, -, -, -⟩, -⟩ := hT
  exact zgPw t z (by omega)
theorem rk3 (hT : RefT h m) : zkd h (m + 3) = 9 := by
  rw [hT.2.2.1 3 (by omega) (by omega)]; rfl
theorem rl3 (hT : RefT h m) : zln h (m + 3) = 20 := hT.2.2.2.2.1 3 (by omega) (by omega)
theorem ra3 (hT : RefT h m) {i : Nat} (hi : i < 20) : zaI (zw h I) (m + 3) (nI i) = some (I (m + 3) i) := zaIw _ (rk3 hT) (by rw [rl3 hT]; exact hi) (by rw [rl3 hT]; decide)
theorem rb3 (hT : RefT h m) {i : Nat} {v : Int32} (hi : i < 20) : zbI (zw h I) (m + 3) (nI i) v = some (zw h (zz I (m + 3) (va_up (I (m + 3)) i v))) := zbIw _ _ (rk3 hT) (by rw [rl3 hT]; exact hi) (by rw [rl3 hT]; decide)
theorem rg4 (hT : RefT h m) : zgP (zw h I) 7 m 9 = some (m + 4) := by
  obtain ⟨t, ⟨-, -, -, z, -, -, -, -, -, -, -, -, -, -, -, -, -, -, -, -, -, -, -⟩, -⟩ := hT
  exact zgPw t z (by omega)
theorem rk4 (hT : RefT h m) : zkd h (m + 4) = 9 := by
  rw [hT.2.2.1 4 (by omega) (by omega)]; rfl
theorem rl4 (hT : RefT h m) : zln h (m + 4) = 20 := hT.2.2.2.2.1 4 (by omega) (by omega)
theorem ra4 (hT : RefT h m) {i : Nat} (hi : i < 20) : zaI (zw h I) (m + 4) (nI i) = some (I (m + 4) i) := zaIw _ (rk4 hT) (by rw [rl4 hT]; exact hi) (by rw [rl4 hT]; decide)
theorem rb4 (hT : RefT h m) {i : Nat} {v : Int32} (hi : i < 20) : zbI (zw h I) (m + 4) (nI i) v = some (zw h (zz I (m + 4) (va_up (I (m + 4)) i v))) := zbIw _ _ (rk4 hT) (by rw [rl4 hT]; exact hi) (by rw [rl4 hT]; decide)
theorem rg5 (hT : RefT h m) : zgP (zw h I) 7 m 10 = some (m + 5) := by
  obtain ⟨t, ⟨-, -, -, -, z, -, -, -, -, -, -, -, -, -, -, -, -, -, -, -, -, -, -⟩, -⟩ := hT
  exact zgPw t z (by omega)
theorem rk5 (hT : RefT h m) : zkd h (m + 5) = 9 := by
  rw [hT.2.2.1 5 (by omega) (by omega)]; rfl
theorem rl5 (hT : RefT h m) : zln h (m + 5) = 20 := hT.2.2.2.2.1 5 (by omega) (by omega)
theorem ra5 (hT : RefT h m) {i : Nat} (hi : i < 20) : zaI (zw h I) (m + 5) (nI i) = some (I (m + 5) i) := zaIw _ (rk5 hT) (by rw [rl5 hT]; exact hi) (by rw [rl5 hT]; decide)
theorem rb5 (hT : RefT h m) {i : Nat} {v : Int32} (hi : i < 20) : zbI (zw h I) (m + 5) (nI i) v = some (zw h (zz I (m + 5) (va_up (I (m + 5)) i v))) := zbIw _ _ (rk5 hT) (by rw [rl5 hT]; exact hi) (by rw [rl5 hT]; decide)
theorem rg6 (hT : RefT h m) : zgP (zw h I) 7 m 11 = some (m + 6) := by
  obtain ⟨t, ⟨-, -, -, -, -, z, -, -, -, -, -, -, -, -, -, -, -, -, -, -, -, -, -⟩, -⟩ := hT
  exact zgPw t z (by omega)
theorem rk6 (hT : RefT h m) : zkd h (m + 6) = 9 := by
  rw [hT.2.2.1 6 (by omega) (by omega)]; rfl
theorem rl6 (hT : RefT h m) : zln h (m + 6) = 6 := hT.2.2.2.2.2.1 6 (by omega) (by omega)
theorem ra6 (hT : RefT h m) {i : Nat} (hi : i < 6) : zaI (zw h I) (m + 6) (nI i) = some (I (m + 6) i) := zaIw _ (rk6 hT) (by rw [rl6 hT]; exact hi) (by rw [rl6 hT]; decide)
theorem rb6 (hT : RefT h m) {i : Nat} {v : Int32} (hi : i < 6) : zbI (zw h I) (m + 6) (nI i) v = some (zw h (zz I (m + 6) (va_up (I (m + 6)) i v))) := zbIw _ _ (rk6 hT) (by rw [rl6 hT]; exact hi) (by rw [rl6 hT]; decide)
theorem rg7 (hT : RefT h m) : zgP (zw h I) 7 m 12 = some (m + 7) := by
  obtain ⟨t, ⟨-, -, -, -, -, -, z, -, -, -, -, -, -, -, -, -, -, -, -, -, -, -, -⟩, -⟩ := hT
  exact zgPw t z (by omega)
theorem rk7 (hT : RefT h m) : zkd h (m + 7) = 9 := by
  rw [hT.2.2.1 7 (by omega) (by omega)]; rfl
theorem rl7 (hT : RefT h m) : zln h (m + 7) = 6 := hT.2.2.2.2.2.1 7 (by omega) (by omega)
theorem ra7 (hT : RefT h m) {i : Nat} (hi : i < 6) : zaI (zw h I) (m + 7) (nI i) = some (I (m + 7) i) := zaIw _ (rk7 hT) (by rw [rl7 hT]; exact hi) (by rw [rl7 hT]; decide)
theorem rb7 (hT : RefT h m) {i : Nat} {v : Int32} (hi : i < 6) : zbI (zw h I) (m + 7) (nI i) v = some (zw h (zz I (m + 7) (va_up (I (m + 7)) i v))) := zbIw _ _ (rk7 hT) (by rw [rl7 hT]; exact hi) (by rw [rl7 hT]; decide)
theorem rg8 (hT : RefT h m) : zgP (zw h I) 7 m 17 = some (m + 8) := by
  obtain ⟨t, ⟨-, -, -, -, -, -, -, z, -, -, -, -, -, -, -, -, -, -, -, -, -, -, -⟩, -⟩ := hT
  exact zgPw t z (by omega)
theorem rk8 (hT : RefT h m) : zkd h (m + 8) = 9 := by
  rw [hT.2.2.1 8 (by omega) (by omega)]; rfl
theorem rl8 (hT : RefT h m) : zln h (m + 8) = 20 := hT.2.2.2.2.2.2.1 8 (by omega) (by omega)
theorem ra8 (hT : RefT h m) {i : Nat} (hi : i < 20) : zaI (zw h I) (m + 8) (nI i) = some (I (m + 8) i) := zaIw _ (rk8 hT) (by rw [rl8 hT]; exact hi) (by rw [rl8 hT]; decide)
theorem rb8 (hT : RefT h m) {i : Nat} {v : Int32} (hi : i < 20) : zbI (zw h I) (m + 8) (nI i) v = some (zw h (zz I (m + 8) (va_up (I (m + 8)) i v))) := zbIw _ _ (rk8 hT) (by rw [rl8 hT]; exact hi) (by rw [rl8 hT]; decide)
theorem rg9 (hT : RefT h m) : zgP (zw h I) 7 m 18 = some (m + 9) := by
  obtain ⟨t, ⟨-, -, -, -, -, -, -, -, z, -, -, -, -, -, -, -, -, -, -, -, -, -, -⟩, -⟩ := hT
  exact zgPw t z (by omega)
theorem rk9 (hT : RefT h m) : zkd h (m + 9) = 9 := by
  rw [hT.2.2.1 9 (by omega) (by omega)]; rfl
theorem rl9 (hT : RefT h m) : zln h (m + 9) = 20 := hT.2.2.2.2.2.2.1 9 (by omega) (by omega)
theorem ra9 (hT : RefT h m) {i : Nat} (hi : i < 20) : zaI (zw h I) (m + 9) (nI i) = some (I (m + 9) i) := zaIw _ (rk9 hT) (by rw [rl9 hT]; exact hi) (by rw [rl9 hT]; decide)
theorem rb9 (hT : RefT h m) {i : Nat} {v : Int32} (hi : i < 20) : zbI (zw h I) (m + 9) (nI i) v = some (zw h (zz I (m + 9) (va_up (I (m + 9)) i v))) := zbIw _ _ (rk9 hT) (by rw [rl9 hT]; exact hi) (by rw [rl9 hT]; decide)
theorem rg10 (hT : RefT h m) : zgP (zw h I) 7 m 19 = some (m + 10) := by
  obtain ⟨t, ⟨-, -, -, -, -, -, -, -, -, z, -, -, -, -, -, -, -, -, -, -, -, -, -⟩, -⟩ := hT
  exact zgPw t z (by omega)
theorem rk10 (hT : RefT h m) : zkd h (m + 10) = 9 := by
  rw [hT.2.2.1 10 (by omega) (by omega)]; rfl
theorem rl10 (hT : RefT h m) : zln h (m + 10) = 20 := hT.2.2.2.2.2.2.1 10 (by omega) (by omega)
theorem ra10 (hT : RefT h m) {i : Nat} (hi : i < 20) : zaI (zw h I) (m + 10) (nI i) = some (I (m + 10) i) := zaIw _ (rk10 hT) (by rw [rl10 hT]; exact hi) (by rw [rl10 hT]; decide)
theorem rb10 (hT : RefT h m) {i : Nat} {v : Int32} (hi : i < 20) : zbI (zw h I) (m + 10) (nI i) v = some (zw h (zz I (m + 10) (va_up (I (m + 10)) i v))) := zbIw _ _ (rk10 hT) (by rw [rl10 hT]; exact hi) (by rw [rl10 hT]; decide)
theorem rg11 (hT : RefT h m) : zgP (zw h I) 7 m 20 = some (m + 11) := by
  obtain ⟨t, ⟨-, -, -, -, -, -, -, -, -, -, z, -, -, -, -, -, -, -, -, -, -, -, -⟩, -⟩ := hT
  exact zgPw t z (by omega)
theorem rk11 (hT : RefT h m) : zkd h (m + 11) = 9 := by
  rw [hT.2.2.1 11 (by omega) (by omega)]; rfl
theorem rl11 (hT : RefT h m) : zln h (m + 11) = 20 := hT.2.2.2.2.2.2.1 11 (by omega) (by omega)
theorem ra11 (hT : RefT h m) {i : Nat} (hi : i < 20) : zaI (zw h I) (m + 11) (nI i) = some (I (m + 11) i) := zaIw _ (rk11 hT) (by rw [rl11 hT]; exact hi) (by rw [rl11 hT]; decide)
theorem rb11 (hT : RefT h m) {i : Nat} {v : Int32} (hi : i < 20) : zbI (zw h I) (m + 11) (nI i) v = some (zw h (zz I (m + 11) (va_up (I (m + 11)) i v))) := zbIw _ _ (rk11 hT) (by rw [rl11 hT]; exact hi) (by rw [rl11 hT]; decide)
theorem rg12 (hT : RefT h m) : zgP (zw h I) 7 m 21 = some (m + 12) := by
  obtain ⟨t, ⟨-, -, -, -, -, -, -, -, -, -, -, z, -, -, -, -, -, -, -, -, -, -, -⟩, -⟩ := hT
  exact zgPw t z (by omega)
theorem rk12 (hT : RefT h m) : zkd h (m + 12) = 9 := by
  rw [hT.2.2.1 12 (by omega) (by omega)]; rfl
theorem rl12 (hT : RefT h m) : zln h (m + 12) = 20 := hT.2.2.2.2.2.2.1 12 (by omega) (by omega)
theorem ra12 (hT : RefT h m) {i : Nat} (hi : i < 20) : zaI (zw h I) (m + 12) (nI i) = some (I (m + 12) i) := zaIw _ (rk12 hT) (by rw [rl12 hT]; exact hi) (by rw [rl12 hT]; decide)
theorem rb12 (hT : RefT h m) {i : Nat} {v : Int32} (hi : i < 20) : zbI (zw h I) (m + 12) (nI i) v = some (zw h (zz I (m + 12) (va_up (I (m + 12)) i v))) := zbIw _ _ (rk12 hT) (by rw [rl12 hT]; exact hi) (by rw [rl12 hT]; decide)
theorem rg13 (hT : RefT h m) : zgP (zw h I) 7 m 22 = some (m + 13) := by
  obtain ⟨t, ⟨-, -, -, -, -, -, -, -, -, -, -, -, z, -, -, -, -, -, -, -, -, -, -⟩, -⟩ := hT
  exact zgPw t z (by omega)
theorem rk13 (hT : RefT h m) : zkd h (m + 13) = 9 := by
  rw [hT.2.2.1 13 (by omega) (by omega)]; rfl
theorem rl13 (hT : RefT h m) : zln h (m + 13) = 6 := hT.2.2.2.2.2.2.2.1 13 (by omega) (by omega)
theorem ra13 (hT : RefT h m) {i : Nat} (hi : i < 6) : zaI (zw h I) (m + 13) (nI i) = some (I (m + 13) i) := zaIw _ (rk13 hT) (by rw [rl13 hT]; exact hi) (by rw [rl13 hT]; decide)
theorem rb13 (hT : RefT h m) {i : Nat} {v : Int32} (hi : i < 6) : zbI (zw h I) (m + 13) (nI i) v = some (zw h (zz I (m + 13) (va_up (I (m + 13)) i v))) := zbIw _ _ (rk13 hT) (by rw [rl13 hT]; exact hi) (by rw [rl13 hT]; decide)
theorem rg14 (hT : RefT h m) : zgP (zw h I) 7 m 23 = some (m + 14) := by
  obtain ⟨t, ⟨-, -, -, -, -, -, -, -, -, -, -, -, -, z, -, -, -, -, -, -, -, -, -⟩, -⟩ := hT
  exact zgPw t z (by omega)
theorem rk14 (hT : RefT h m) : zkd h (m + 14) = 9 := by
  rw [hT.2.2.1 14 (by omega) (by omega)]; rfl
theorem rl14 (hT : RefT h m) : zln h (m + 14) = 6 := hT.2.2.2.2.2.2.2.1 14 (by omega) (by omega)
theorem ra14 (hT : RefT h m) {i : Nat} (hi : i < 6) : zaI (zw h I) (m + 14) (nI i) = some (I (m + 14) i) := zaIw _ (rk14 hT) (by rw [rl14 hT]; exact hi) (by rw [rl14 hT]; decide)
theorem rb14 (hT : RefT h m) {i : Nat} {v : Int32} (hi : i < 6) : zbI (zw h I) (m + 14) (nI i) v = some (zw h (zz I (m + 14) (va_up (I (m + 14)) i v))) := zbIw _ _ (rk14 hT) (by rw [rl14 hT]; exact hi) (by rw [rl14 hT]; decide)
theorem rg15 (hT : RefT h m) : zgP (zw h I) 7 m 24 = some (m + 15) := by
  obtain ⟨t, ⟨-, -, -, -, -, -, -, -, -, -, -, -, -, -, z, -, -, -, -, -, -, -, -⟩, -⟩ := hT
  exact zgPw t z (by omega)
theorem rk15 (hT : RefT h m) : zkd h (m + 15) = 9 := by
  rw [hT.2.2.1 15 (by omega) (by omega)]; rfl
theorem rl15 (hT : RefT h m) : zln h (m + 15) = 360 := hT.2.2.2.2.2.2.2.2.1 15 (by omega) (by omega)
theorem ra15 (hT : RefT h m) {i : Nat} (hi : i < 360) : zaI (zw h I) (m + 15) (nI i) = some (I (m + 15) i) := zaIw _ (rk15 hT) (by rw [rl15 hT]; exact hi) (by rw [rl15 hT]; decide)
theorem rb15 (hT : RefT h m) {i : Nat} {v : Int32} (hi : i < 360) : zbI (zw h I) (m + 15) (nI i) v = some (zw h (zz I (m + 15) (va_up (I (m + 15)) i v))) := zbIw _ _ (rk15 hT) (by rw [rl15 hT]; exact hi) (by rw [rl15 hT]; decide)
theorem rg16 (hT : RefT h m) : zgP (zw h I) 7 m 25 = some (m + 16) := by
  obtain ⟨t, ⟨-, -, -, -, -, -, -, -, -, -, -, -, -, -, -, z, -, -, -, -, -, -, -⟩, -⟩ := hT
  exact zgPw t z (by omega)
theorem rk16 (hT : RefT h m) : zkd h (m + 16) = 9 := by
  rw [hT.2.2.1 16 (by omega) (by omega)]; rfl
theorem rl16 (hT : RefT h m) : zln h (m + 16) = 360 := hT.2.2.2.2.2.2.2.2.1 16 (by omega) (by omega)
theorem ra16 (hT : RefT h m) {i : Nat} (hi : i < 360) : zaI (zw h I) (m + 16) (nI i) = some (I (m + 16) i) := zaIw _ (rk16 hT) (by rw [rl16 hT]; exact hi) (by rw [rl16 hT]; decide)
theorem rb16 (hT : RefT h m) {i : Nat} {v : Int32} (hi : i < 360) : zbI (zw h I) (m + 16) (nI i) v = some (zw h (zz I (m + 16) (va_up (I (m + 16)) i v))) := zbIw _ _ (rk16 hT) (by rw [rl16 hT]; exact hi) (by rw [rl16 hT]; decide)
theorem rg17 (hT : RefT h m) : zgP (zw h I) 7 m 26 = some (m + 17) := by
  obtain ⟨t, ⟨-, -, -, -, -, -, -, -, -, -, -, -, -, -, -, -, z, -, -, -, -, -, -⟩, -⟩ := hT
  exact zgPw t z (by omega)
theorem rk17 (hT : RefT h m) : zkd h (m + 17) = 9 := by
  rw [hT.2.2.1 17 (by omega) (by omega)]; rfl
theorem rl17 (hT : RefT h m) : zln h (m + 17) = 360 := hT.2.2.2.2.2.2.2.2.1 17 (by omega) (by omega)
theorem ra17 (hT : RefT h m) {i : Nat} (hi : i < 360) : zaI (zw h I) (m + 17) (nI i) = some (I (m + 17) i) := zaIw _ (rk17 hT) (by rw [rl17 hT]; exact hi) (by rw [rl17 hT]; decide)
theorem rb17 (hT : RefT h m) {i : Nat} {v : Int32} (hi : i < 360) : zbI (zw h I) (m + 17) (nI i) v = some (zw h (zz I (m + 17) (va_up (I (m + 17)) i v))) := zbIw _ _ (rk17 hT) (by rw [rl17 hT]; exact hi) (by rw [rl17 hT]; decide)
theorem rg18 (hT : RefT h m) : zgP (zw h I) 7 m 27 = some (m + 18) := by
  obtain ⟨t, ⟨-, -, -, -, -, -, -, -, -, -, -, -, -, -, -, -, -, z, -, -, -, -, -⟩, -⟩ := hT
  exact zgPw t z (by omega)
theorem rk18 (hT : RefT h m) : zkd h (m + 18) = 9 := by
  rw [hT.2.2.1 18 (by omega) (by omega)]; rfl
theorem rl18 (hT : RefT h m) : zln h (m + 18) = 5040 := hT.2.2.2.2.2.2.2.2.2.1
theorem ra18 (hT : RefT h m) {i : Nat} (hi : i < 5040) : zaI (zw h I) (m + 18) (nI i) = some (I (m + 18) i) := zaIw _ (rk18 hT) (by rw [rl18 hT]; exact hi) (by rw [rl18 hT]; decide)
theorem rb18 (hT : RefT h m) {i : Nat} {v : Int32} (hi : i < 5040) : zbI (zw h I) (m + 18) (nI i) v = some (zw h (zz I (m + 18) (va_up (I (m + 18)) i v))) := zbIw _ _ (rk18 hT) (by rw [rl18 hT]; exact hi) (by rw [rl18 hT]; decide)
theorem rg19 (hT : RefT h m) : zgP (zw h I) 7 m 29 = some (m + 19) := by
  obtain ⟨t, ⟨-, -, -, -, -, -, -, -, -, -, -, -, -, -, -, -, -, -, z, -, -, -, -⟩, -⟩ := hT
  exact zgPw t z (by omega)
theorem rk19 (hT : RefT h m) : zkd h (m + 19) = 9 := by
  rw [hT.2.2.1 19 (by omega) (by omega)]; rfl
theorem rl19 (hT : RefT h m) : zln h (m + 19) = 720 := hT.2.2.2.2.2.2.2.2.2.2.1
theorem ra19 (hT : RefT h m) {i : Nat} (hi : i < 720) : zaI (zw h I) (m + 19) (nI i) = some (I (m + 19) i) := zaIw _ (rk19 hT) (by rw [rl19 hT]; exact hi) (by rw [rl19 hT]; decide)
theorem rb19 (hT : RefT h m) {i : Nat} {v : Int32} (hi : i < 720) : zbI (zw h I) (m + 19) (nI i) v = some (zw h (zz I (m + 19) (va_up (I (m + 19)) i v))) := zbIw _ _ (rk19 hT) (by rw [rl19 hT]; exact hi) (by rw [rl19 hT]; decide)
theorem rg20 (hT : RefT h m) : zgP (zw h I) 7 m 30 = some (m + 20) := by
  obtain ⟨t, ⟨-, -, -, -, -, -, -, -, -, -, -, -, -, -, -, -, -, -, -, z, -, -, -⟩, -⟩ := hT
  exact zgPw t z (by omega)
theorem rk20 (hT : RefT h m) : zkd h (m + 20) = 11 := by
  rw [hT.2.2.1 20 (by omega) (by omega)]; rfl
theorem rl20 (hT : RefT h m) : zln h (m + 20) = 2 := hT.2.2.2.2.2.2.2.2.2.2.2.1
theorem ra20 (hT : RefT h m) {i : Nat} (hi : i < 2) : zaZ (zw h I) (m + 20) (nI i) = some (I (m + 20) i) := zaZw _ (rk20 hT) (by rw [rl20 hT]; exact hi) (by rw [rl20 hT]; decide)
theorem rb20 (hT : RefT h m) {i : Nat} {v : Int32} (hv : v = 0 ∨ v = 1) (hi : i < 2) : zbZ (zw h I) (m + 20) (nI i) v = some (zw h (zz I (m + 20) (va_up (I (m + 20)) i v))) := zbZw _ _ hv (rk20 hT) (by rw [rl20 hT]; exact hi) (by rw [rl20 hT]; decide)
theorem rg21 (hT : RefT h m) : zgP (zw h I) 7 m 31 = some (m + 21) := by
  obtain ⟨t, ⟨-, -, -, -, -, -, -, -, -, -, -, -, -, -, -, -, -, -, -, -, z, -, -⟩, -⟩ := hT
  exact zgPw t z (by omega)
theorem rk21 (hT : RefT h m) : zkd h (m + 21) = 9 := by
  rw [hT.2.2.1 21 (by omega) (by omega)]; rfl
theorem rl21 (hT : RefT h m) : zln h (m + 21) = 64 := hT.2.2.2.2.2.2.2.2.2.2.2.2.1
theorem ra21 (hT : RefT h m) {i : Nat} (hi : i < 64) : zaI (zw h I) (m + 21) (nI i) = some (I (m + 21) i) := zaIw _ (rk21 hT) (by rw [rl21 hT]; exact hi) (by rw [rl21 hT]; decide)
theorem rb21 (hT : RefT h m) {i : Nat} {v : Int32} (hi : i < 64) : zbI (zw h I) (m + 21) (nI i) v = some (zw h (zz I (m + 21) (va_up (I (m + 21)) i v))) := zbIw _ _ (rk21 hT) (by rw [rl21 hT]; exact hi) (by rw [rl21 hT]; decide)
theorem rg22 (hT : RefT h m) : zgP (zw h I) 7 m 32 = some (m + 22) := by
  obtain ⟨t, ⟨-, -, -, -, -, -, -, -, -, -, -, -, -, -, -, -, -, -, -, -, -, z, -⟩, -⟩ := hT
  exact zgPw t z (by omega)
theorem rk22 (hT : RefT h m) : zkd h (m + 22) = 9 := by
  rw [hT.2.2.1 22 (by omega) (by omega)]; rfl
theorem rl22 (hT : RefT h m) : zln h (m + 22) = 64 := hT.2.2.2.2.2.2.2.2.2.2.2.2.2.1
theorem ra22 (hT : RefT h m) {i : Nat} (hi : i < 64) : zaI (zw h I) (m + 22) (nI i) = some (I (m + 22) i) := zaIw _ (rk22 hT) (by rw [rl22 hT]; exact hi) (by rw [rl22 hT]; decide)
theorem rb22 (hT : RefT h m) {i : Nat} {v : Int32} (hi : i < 64) : zbI (zw h I) (m + 22) (nI i) v = some (zw h (zz I (m + 22) (va_up (I (m + 22)) i v))) := zbIw _ _ (rk22 hT) (by rw [rl22 hT]; exact hi) (by rw [rl22 hT]; decide)
theorem rg23 (hT : RefT h m) : zgP (zw h I) 7 m 38 = some (m + 23) := by
  obtain ⟨t, ⟨-, -, -, -, -, -, -, -, -, -, -, -, -, -, -, -, -, -, -, -, -, -, z⟩, -⟩ := hT
  exact zgPw t z (by omega)
theorem rk23 (hT : RefT h m) : zkd h (m + 23) = 9 := by
  rw [hT.2.2.1 23 (by omega) (by omega)]; rfl
theorem rl23 (hT : RefT h m) : zln h (m + 23) = 360 := hT.2.2.2.2.2.2.2.2.2.2.2.2.2.2
theorem ra23 (hT : RefT h m) {i : Nat} (hi : i < 360) : zaI (zw h I) (m + 23) (nI i) = some (I (m + 23) i) := zaIw _ (rk23 hT) (by rw [rl23 hT]; exact hi) (by rw [rl23 hT]; decide)
theorem rb23 (hT : RefT h m) {i : Nat} {v : Int32} (hi : i < 360) : zbI (zw h I) (m + 23) (nI i) v = some (zw h (zz I (m + 23) (va_up (I (m + 23)) i v))) := zbIw _ _ (rk23 hT) (by rw [rl23 hT]; exact hi) (by rw [rl23 hT]; decide)
theorem rgI (hT : RefT h m) {k : Nat} : zgI (zw h I) 7 m k = some (I m k) := zgIw hT.1
theorem rpI (hT : RefT h m) {k : Nat} {v : Int32} : zpI (zw h I) 7 m k v = some (zw h (zz I m (va_up (I m) k v))) := zpIw v hT.1
theorem rkd (hT : RefT h m) : zkd (zw h I) m = 8 := hT.1
end PROW
