/-! long functions, in pieces -/
def fX7_path_c2 (a0 : Nat) (a1 : Int32) (a2 : Int32) (a3 : Int32) (w9 : Int32) (h10 : zH) : Option (Int32 × zH) :=
    if (w9 : Int32) < 1000000 then
    if (a3 : Int32) = 0 then
    zb2 (fX7_costOf h10 (a0) (a1) (a2)) fun w13 h14 =>
    some (((w13 : Int32) / 16), h14)
    else
    if (a3 : Int32) = 1 then
    zb2 (fX7_costOf h10 (a0) (a1) (a2)) fun w16 h17 =>
    some (((w16 : Int32) - w16 / 16 * 16), h17)
    else
    zb2 (fX7_lossOn h10 (a0) (a1) (a2)) fun w18 h19 =>
    some (w18, h19)
    else
    some ((-9), h10)
def fX7_path_c1 (a0 : Nat) (a1 : Int32) (a2 : Int32) (a3 : Int32) (w4 : Int32) (h5 : zH) : Option (Int32 × zH) :=
    if (w4 : Int32) = 0 then
    (zgP h5 7 a0 24).bind fun w7 =>
    (fX7_layTable h5 (a0) (w7) ((-9))).bind fun h8 =>
    zb2 (fX7_costOf h8 (a0) (a1) (a2)) fun w9 h10 =>
    fX7_path_c2 (a0) (a1) (a2) (a3) (w9) (h10)
    else
    some (0, h5)
def fX7_path_c5 (a0 : Nat) (a1 : Int32) (a2 : Int32) (a3 : Int32) (h29 : zH) : Option (Int32 × zH) :=
    if (a3 : Int32) = 1 then
    zb2 (fX7_costOf h29 (a0) (a1) (a2)) fun w35 h36 =>
    some (((w35 : Int32) - w35 / 16 * 16), h36)
    else
    zb2 (fX7_lossOn h29 (a0) (a1) (a2)) fun w37 h38 =>
    some (w37, h38)
def fX7_path_c4 (a0 : Nat) (a1 : Int32) (a2 : Int32) (a3 : Int32) (h24 : zH) (w26 : Nat) : Option (Int32 × zH) :=
    (fX7_layTable h24 (a0) (w26) ((-9))).bind fun h27 =>
    zb2 (fX7_costOf h27 (a0) (a1) (a2)) fun w28 h29 =>
    if (w28 : Int32) < 1000000 then
    if (a3 : Int32) = 0 then
    zb2 (fX7_costOf h29 (a0) (a1) (a2)) fun w32 h33 =>
    some (((w32 : Int32) / 16), h33)
    else
    fX7_path_c5 (a0) (a1) (a2) (a3) (h29)
    else
    some ((-9), h29)
def fX7_path_c7 (a0 : Nat) (a1 : Int32) (a2 : Int32) (a3 : Int32) (w47 : Int32) (h48 : zH) : Option (Int32 × zH) :=
    if (w47 : Int32) < 1000000 then
    if (a3 : Int32) = 0 then
    zb2 (fX7_costOf h48 (a0) (a1) (a2)) fun w51 h52 =>
    some (((w51 : Int32) / 16), h52)
    else
    if (a3 : Int32) = 1 then
    zb2 (fX7_costOf h48 (a0) (a1) (a2)) fun w54 h55 =>
    some (((w54 : Int32) - w54 / 16 * 16), h55)
    else
    zb2 (fX7_lossOn h48 (a0) (a1) (a2)) fun w56 h57 =>
    some (w56, h57)
    else
    some ((-9), h48)
def fX7_path_c6 (a0 : Nat) (a1 : Int32) (a2 : Int32) (a3 : Int32) (w42 : Int32) (h43 : zH) : Option (Int32 × zH) :=
    if (w42 : Int32) = 0 then
    (zgP h43 7 a0 24).bind fun w45 =>
    (fX7_layTable h43 (a0) (w45) ((-9))).bind fun h46 =>
    zb2 (fX7_costOf h46 (a0) (a1) (a2)) fun w47 h48 =>
    fX7_path_c7 (a0) (a1) (a2) (a3) (w47) (h48)
    else
    some (0, h43)
def fX7_path_c9 (a0 : Nat) (a1 : Int32) (a2 : Int32) (a3 : Int32) (w63 : Int32) (h64 : zH) : Option (Int32 × zH) :=
    if (w63 : Int32) < 1000000 then
    if (a3 : Int32) = 0 then
    zb2 (fX7_costOf h64 (a0) (a1) (a2)) fun w67 h68 =>
    some (((w67 : Int32) / 16), h68)
    else
    if (a3 : Int32) = 1 then
    zb2 (fX7_costOf h64 (a0) (a1) (a2)) fun w70 h71 =>
    some (((w70 : Int32) - w70 / 16 * 16), h71)
    else
    zb2 (fX7_lossOn h64 (a0) (a1) (a2)) fun w72 h73 =>
    some (w72, h73)
    else
    some ((-9), h64)
def fX7_path_c8 (a0 : Nat) (a1 : Int32) (a2 : Int32) (a3 : Int32) (w58 : Int32) (h59 : zH) : Option (Int32 × zH) :=
    if (w58 : Int32) = 0 then
    (zgP h59 7 a0 24).bind fun w61 =>
    (fX7_layTable h59 (a0) (w61) ((-9))).bind fun h62 =>
    zb2 (fX7_costOf h62 (a0) (a1) (a2)) fun w63 h64 =>
    fX7_path_c9 (a0) (a1) (a2) (a3) (w63) (h64)
    else
    some (0, h59)
def fX7_path_c3 (a0 : Nat) (a1 : Int32) (a2 : Int32) (a3 : Int32) (w20 : Int32) (h21 : zH) : Option (Int32 × zH) :=
    if (w20 : Int32) = 0 then
    zb2 (fX7_refused h21 (a0) (1)) fun w23 h24 =>
    if (w23 : Int32) = 0 then
    (zgP h24 7 a0 24).bind fun w26 =>
    fX7_path_c4 (a0) (a1) (a2) (a3) (h24) (w26)
    else
    some (0, h24)
    else
    zb2 (fX7_in h21 ((a3 : Int32).toInt64) (0) (2)) fun w39 h40 =>
    if (w39 : Int32) = 0 then
    zb2 (fX7_refused h40 (a0) (2)) fun w42 h43 =>
    fX7_path_c6 (a0) (a1) (a2) (a3) (w42) (h43)
    else
    zb2 (fX7_refused h40 (a0) (0)) fun w58 h59 =>
    fX7_path_c8 (a0) (a1) (a2) (a3) (w58) (h59)
theorem fX7_path_e {h : zH} {a0 : Nat} {a1 : Int32} {a2 : Int32} {a3 : Int32} : fX7_path h a0 a1 a2 a3 = (
    if zkd h a0 = 8 then
    zb2 (fX7_isFormat h (a0) (a1)) fun w1 h2 =>
    if (w1 : Int32) = 0 then
    zb2 (fX7_refused h2 (a0) (1)) fun w4 h5 =>
    fX7_path_c1 (a0) (a1) (a2) (a3) (w4) (h5)
    else
    zb2 (fX7_isFormat h2 (a0) (a2)) fun w20 h21 =>
    fX7_path_c3 (a0) (a1) (a2) (a3) (w20) (h21)
    else
    none) := rfl
def fX7_sizeAfter_c2 (a0 : Nat) (a1 : Int32) (a2 : Int32) (a3 : Int32) (w9 : Int32) (h10 : zH) : Option (Int32 × zH) :=
    if (w9 : Int32) < 1000000 then
    zb2 (fX7_sizeOn h10 (a0) (a1) (a2) (a3)) fun w12 h13 =>
    some (w12, h13)
    else
    some ((-9), h10)
def fX7_sizeAfter_c1 (a0 : Nat) (a1 : Int32) (a2 : Int32) (a3 : Int32) (w4 : Int32) (h5 : zH) : Option (Int32 × zH) :=
    if (w4 : Int32) = 0 then
    (zgP h5 7 a0 24).bind fun w7 =>
    (fX7_layTable h5 (a0) (w7) ((-9))).bind fun h8 =>
    zb2 (fX7_costOf h8 (a0) (a1) (a2)) fun w9 h10 =>
    fX7_sizeAfter_c2 (a0) (a1) (a2) (a3) (w9) (h10)
    else
    some (0, h5)
def fX7_sizeAfter_c4 (a0 : Nat) (a1 : Int32) (a2 : Int32) (a3 : Int32) (h18 : zH) (w20 : Nat) : Option (Int32 × zH) :=
    (fX7_layTable h18 (a0) (w20) ((-9))).bind fun h21 =>
    zb2 (fX7_costOf h21 (a0) (a1) (a2)) fun w22 h23 =>
    if (w22 : Int32) < 1000000 then
    zb2 (fX7_sizeOn h23 (a0) (a1) (a2) (a3)) fun w25 h26 =>
    some (w25, h26)
    else
    some ((-9), h23)
def fX7_sizeAfter_c6 (a0 : Nat) (a1 : Int32) (a2 : Int32) (a3 : Int32) (w35 : Int32) (h36 : zH) : Option (Int32 × zH) :=
    if (w35 : Int32) < 1000000 then
    zb2 (fX7_sizeOn h36 (a0) (a1) (a2) (a3)) fun w38 h39 =>
    some (w38, h39)
    else
    some ((-9), h36)
def fX7_sizeAfter_c5 (a0 : Nat) (a1 : Int32) (a2 : Int32) (a3 : Int32) (w30 : Int32) (h31 : zH) : Option (Int32 × zH) :=
    if (w30 : Int32) = 0 then
    (zgP h31 7 a0 24).bind fun w33 =>
    (fX7_layTable h31 (a0) (w33) ((-9))).bind fun h34 =>
    zb2 (fX7_costOf h34 (a0) (a1) (a2)) fun w35 h36 =>
    fX7_sizeAfter_c6 (a0) (a1) (a2) (a3) (w35) (h36)
    else
    some (0, h31)
def fX7_sizeAfter_c8 (a0 : Nat) (a1 : Int32) (a2 : Int32) (a3 : Int32) (w45 : Int32) (h46 : zH) : Option (Int32 × zH) :=
    if (w45 : Int32) < 1000000 then
    zb2 (fX7_sizeOn h46 (a0) (a1) (a2) (a3)) fun w48 h49 =>
    some (w48, h49)
    else
    some ((-9), h46)
def fX7_sizeAfter_c7 (a0 : Nat) (a1 : Int32) (a2 : Int32) (a3 : Int32) (w40 : Int32) (h41 : zH) : Option (Int32 × zH) :=
    if (w40 : Int32) = 0 then
    (zgP h41 7 a0 24).bind fun w43 =>
    (fX7_layTable h41 (a0) (w43) ((-9))).bind fun h44 =>
    zb2 (fX7_costOf h44 (a0) (a1) (a2)) fun w45 h46 =>
    fX7_sizeAfter_c8 (a0) (a1) (a2) (a3) (w45) (h46)
    else
    some (0, h41)
def fX7_sizeAfter_c3 (a0 : Nat) (a1 : Int32) (a2 : Int32) (a3 : Int32) (w14 : Int32) (h15 : zH) : Option (Int32 × zH) :=
    if (w14 : Int32) = 0 then
    zb2 (fX7_refused h15 (a0) (1)) fun w17 h18 =>
    if (w17 : Int32) = 0 then
    (zgP h18 7 a0 24).bind fun w20 =>
    fX7_sizeAfter_c4 (a0) (a1) (a2) (a3) (h18) (w20)
    else
    some (0, h18)
    else
    zb2 (fX7_in h15 ((a3 : Int32).toInt64) (1) (99999)) fun w27 h28 =>
    if (w27 : Int32) = 0 then
    zb2 (fX7_refused h28 (a0) (2)) fun w30 h31 =>
    fX7_sizeAfter_c5 (a0) (a1) (a2) (a3) (w30) (h31)
    else
    zb2 (fX7_refused h28 (a0) (0)) fun w40 h41 =>
    fX7_sizeAfter_c7 (a0) (a1) (a2) (a3) (w40) (h41)
theorem fX7_sizeAfter_e {h : zH} {a0 : Nat} {a1 : Int32} {a2 : Int32} {a3 : Int32} : fX7_sizeAfter h a0 a1 a2 a3 = (
    if zkd h a0 = 8 then
    zb2 (fX7_isFormat h (a0) (a1)) fun w1 h2 =>
    if (w1 : Int32) = 0 then
    zb2 (fX7_refused h2 (a0) (1)) fun w4 h5 =>
    fX7_sizeAfter_c1 (a0) (a1) (a2) (a3) (w4) (h5)
    else
    zb2 (fX7_isFormat h2 (a0) (a2)) fun w14 h15 =>
    fX7_sizeAfter_c3 (a0) (a1) (a2) (a3) (w14) (h15)
    else
    none) := rfl
def fX7_without_c2 (a0 : Nat) (a2 : Int32) (a3 : Int32) (w9 : Int32) (h10 : zH) : Option (Int32 × zH) :=
    if (w9 : Int32) < 1000000 then
    zb2 (fX7_costOf h10 (a0) (a2) (a3)) fun w12 h13 =>
    some (((w12 : Int32) / 16), h13)
    else
    some ((-9), h10)
def fX7_without_c1 (a0 : Nat) (a1 : Int32) (a2 : Int32) (a3 : Int32) (w4 : Int32) (h5 : zH) : Option (Int32 × zH) :=
    if (w4 : Int32) = 0 then
    (zgP h5 7 a0 24).bind fun w7 =>
    (fX7_layTable h5 (a0) (w7) (a1)).bind fun h8 =>
    zb2 (fX7_costOf h8 (a0) (a2) (a3)) fun w9 h10 =>
    fX7_without_c2 (a0) (a2) (a3) (w9) (h10)
    else
    some (0, h5)
def fX7_without_c4 (a0 : Nat) (a1 : Int32) (a2 : Int32) (a3 : Int32) (h18 : zH) (w20 : Nat) : Option (Int32 × zH) :=
    (fX7_layTable h18 (a0) (w20) (a1)).bind fun h21 =>
    zb2 (fX7_costOf h21 (a0) (a2) (a3)) fun w22 h23 =>
    if (w22 : Int32) < 1000000 then
    zb2 (fX7_costOf h23 (a0) (a2) (a3)) fun w25 h26 =>
    some (((w25 : Int32) / 16), h26)
    else
    some ((-9), h23)
def fX7_without_c6 (a0 : Nat) (a2 : Int32) (a3 : Int32) (w35 : Int32) (h36 : zH) : Option (Int32 × zH) :=
    if (w35 : Int32) < 1000000 then
    zb2 (fX7_costOf h36 (a0) (a2) (a3)) fun w38 h39 =>
    some (((w38 : Int32) / 16), h39)
    else
    some ((-9), h36)
def fX7_without_c5 (a0 : Nat) (a1 : Int32) (a2 : Int32) (a3 : Int32) (w30 : Int32) (h31 : zH) : Option (Int32 × zH) :=
    if (w30 : Int32) = 0 then
    (zgP h31 7 a0 24).bind fun w33 =>
    (fX7_layTable h31 (a0) (w33) (a1)).bind fun h34 =>
    zb2 (fX7_costOf h34 (a0) (a2) (a3)) fun w35 h36 =>
    fX7_without_c6 (a0) (a2) (a3) (w35) (h36)
    else
    some (0, h31)
def fX7_without_c8 (a0 : Nat) (a2 : Int32) (a3 : Int32) (w45 : Int32) (h46 : zH) : Option (Int32 × zH) :=
    if (w45 : Int32) < 1000000 then
    zb2 (fX7_costOf h46 (a0) (a2) (a3)) fun w48 h49 =>
    some (((w48 : Int32) / 16), h49)
    else
    some ((-9), h46)
def fX7_without_c7 (a0 : Nat) (a1 : Int32) (a2 : Int32) (a3 : Int32) (w40 : Int32) (h41 : zH) : Option (Int32 × zH) :=
    if (w40 : Int32) = 0 then
    (zgP h41 7 a0 24).bind fun w43 =>
    (fX7_layTable h41 (a0) (w43) (a1)).bind fun h44 =>
    zb2 (fX7_costOf h44 (a0) (a2) (a3)) fun w45 h46 =>
    fX7_without_c8 (a0) (a2) (a3) (w45) (h46)
    else
    some (0, h41)
def fX7_without_c3 (a0 : Nat) (a1 : Int32) (a2 : Int32) (a3 : Int32) (w14 : Int32) (h15 : zH) : Option (Int32 × zH) :=
    if (w14 : Int32) = 0 then
    zb2 (fX7_refused h15 (a0) (1)) fun w17 h18 =>
    if (w17 : Int32) = 0 then
    (zgP h18 7 a0 24).bind fun w20 =>
    fX7_without_c4 (a0) (a1) (a2) (a3) (h18) (w20)
    else
    some (0, h18)
    else
    zb2 (fX7_isFormat h15 (a0) (a3)) fun w27 h28 =>
    if (w27 : Int32) = 0 then
    zb2 (fX7_refused h28 (a0) (1)) fun w30 h31 =>
    fX7_without_c5 (a0) (a1) (a2) (a3) (w30) (h31)
    else
    zb2 (fX7_refused h28 (a0) (0)) fun w40 h41 =>
    fX7_without_c7 (a0) (a1) (a2) (a3) (w40) (h41)
theorem fX7_without_e {h : zH} {a0 : Nat} {a1 : Int32} {a2 : Int32} {a3 : Int32} : fX7_without h a0 a1 a2 a3 = (
    if zkd h a0 = 8 then
    zb2 (fX7_isConversion h (a0) (a1)) fun w1 h2 =>
    if (w1 : Int32) = 0 then
    zb2 (fX7_refused h2 (a0) (1)) fun w4 h5 =>
    fX7_without_c1 (a0) (a1) (a2) (a3) (w4) (h5)
    else
    zb2 (fX7_isFormat h2 (a0) (a2)) fun w14 h15 =>
    fX7_without_c3 (a0) (a1) (a2) (a3) (w14) (h15)
    else
    none) := rfl
