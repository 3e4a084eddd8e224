/-! long functions, in pieces -/
def fX7_readConversion_c6 (a0 : Nat) (w24 : Int32) (h42 : zH) : Option (Int32 × zH) :=
    (zgP h42 7 a0 21).bind fun w43 =>
    (zaI h42 w43 (w24)).bind fun w44 =>
    if (w44 : Int32) = (-9) then
    some (0, h42)
    else
    (zgI h42 7 a0 14).bind fun w46 =>
    (zpI h42 7 a0 14 ((w46 : Int32) + 1)).bind fun h47 =>
    some (1, h47)
def fX7_readConversion_c7 (a0 : Nat) (w24 : Int32) (w38 : Nat) (w48 : Int32) (h49 : zH) : Option (Int32 × zH) :=
    (zbI h49 w38 (w24) (w48)).bind fun h50 =>
    (zgP h50 7 a0 21).bind fun w51 =>
    (zaI h50 w51 (w24)).bind fun w52 =>
    if (w52 : Int32) = (-9) then
    some (0, h50)
    else
    (zgI h50 7 a0 14).bind fun w54 =>
    (zpI h50 7 a0 14 ((w54 : Int32) + 1)).bind fun h55 =>
    some (1, h55)
def fX7_readConversion_c5 (a0 : Nat) (w24 : Int32) (h32 : zH) (w33 : Nat) : Option (Int32 × zH) :=
    (zbI h32 w33 (w24) ((-9))).bind fun h37 =>
    (zgP h37 7 a0 21).bind fun w38 =>
    (zgP h37 7 a0 20).bind fun w39 =>
    (zaI h37 w39 (w24)).bind fun w40 =>
    if (w40 : Int32) = (-9) then
    (zbI h37 w38 (w24) ((-9))).bind fun h42 =>
    fX7_readConversion_c6 (a0) (w24) (h42)
    else
    zb2 (fX7_number h37 (a0) (1) (0)) fun w48 h49 =>
    fX7_readConversion_c7 (a0) (w24) (w38) (w48) (h49)
def fX7_readConversion_c9 (a0 : Nat) (w24 : Int32) (h58 : zH) (w59 : Nat) : Option (Int32 × zH) :=
    (zbI h58 w59 (w24) ((-9))).bind fun h63 =>
    (zgP h63 7 a0 21).bind fun w64 =>
    (zaI h63 w64 (w24)).bind fun w65 =>
    if (w65 : Int32) = (-9) then
    some (0, h63)
    else
    (zgI h63 7 a0 14).bind fun w67 =>
    (zpI h63 7 a0 14 ((w67 : Int32) + 1)).bind fun h68 =>
    some (1, h68)
def fX7_readConversion_c10 (a0 : Nat) (w24 : Int32) (h58 : zH) (w59 : Nat) : Option (Int32 × zH) :=
    zb2 (fX7_number h58 (a0) (1) (0)) fun w69 h70 =>
    (zbI h70 w59 (w24) (w69)).bind fun h71 =>
    (zgP h71 7 a0 21).bind fun w72 =>
    (zaI h71 w72 (w24)).bind fun w73 =>
    if (w73 : Int32) = (-9) then
    some (0, h71)
    else
    (zgI h71 7 a0 14).bind fun w75 =>
    (zpI h71 7 a0 14 ((w75 : Int32) + 1)).bind fun h76 =>
    some (1, h76)
def fX7_readConversion_c8 (a0 : Nat) (w24 : Int32) (h32 : zH) (w33 : Nat) : Option (Int32 × zH) :=
    zb2 (fX7_number h32 (a0) (2) (1)) fun w56 h57 =>
    (zbI h57 w33 (w24) (w56)).bind fun h58 =>
    (zgP h58 7 a0 21).bind fun w59 =>
    (zgP h58 7 a0 20).bind fun w60 =>
    (zaI h58 w60 (w24)).bind fun w61 =>
    if (w61 : Int32) = (-9) then
    fX7_readConversion_c9 (a0) (w24) (h58) (w59)
    else
    fX7_readConversion_c10 (a0) (w24) (h58) (w59)
def fX7_readConversion_c4 (a0 : Nat) (w24 : Int32) (h28 : zH) (w29 : Nat) : Option (Int32 × zH) :=
    zb2 (fX7_number h28 (a0) (2) (1)) fun w30 h31 =>
    (zbI h31 w29 (w24) (w30)).bind fun h32 =>
    (zgP h32 7 a0 20).bind fun w33 =>
    (zgP h32 7 a0 19).bind fun w34 =>
    (zaI h32 w34 (w24)).bind fun w35 =>
    if (w35 : Int32) = (-9) then
    fX7_readConversion_c5 (a0) (w24) (h32) (w33)
    else
    fX7_readConversion_c8 (a0) (w24) (h32) (w33)
def fX7_readConversion_c3 (a0 : Nat) (w1 : Int32) (w13 : Int32) (h23 : zH) : Option (Int32 × zH) :=
    (zgI h23 7 a0 14).bind fun w24 =>
    (zgP h23 7 a0 17).bind fun w25 =>
    (zbI h23 w25 (w24) (w1)).bind fun h26 =>
    (zgP h26 7 a0 18).bind fun w27 =>
    (zbI h26 w27 (w24) (w13)).bind fun h28 =>
    (zgP h28 7 a0 19).bind fun w29 =>
    fX7_readConversion_c4 (a0) (w24) (h28) (w29)
def fX7_readConversion_c2 (a0 : Nat) (w1 : Int32) (w13 : Int32) (h14 : zH) (w15 : Int32) : Option (Int32 × zH) :=
    zb2 (fX7_in h14 ((w13 : Int32).toInt64) (0) ((((w15 : Int32) - 1) : Int32).toInt64)) fun w16 h17 =>
    if (w16 : Int32) = 0 then
    some (0, h17)
    else
    zb2 (fX7_readAway h17 (a0) (w1)) fun w19 h20 =>
    if (((((w19 : Int32) >>> (w13 &&& 31)) : Int32) &&& 1) : Int32) = 1 then
    some (0, h20)
    else
    (zgI h20 7 a0 3).bind fun w22 =>
    (zpI h20 7 a0 3 ((w22 : Int32) + 1)).bind fun h23 =>
    fX7_readConversion_c3 (a0) (w1) (w13) (h23)
def fX7_readConversion_c1 (a0 : Nat) (w1 : Int32) (w7 : Int32) (h8 : zH) : Option (Int32 × zH) :=
    (zgI h8 7 a0 13).bind fun w9 =>
    if (w7 : Int32) = ((((1 : Int32) <<< (w9 &&& 31)) : Int32) - 1) then
    some (0, h8)
    else
    (zgI h8 7 a0 3).bind fun w11 =>
    (zpI h8 7 a0 3 ((w11 : Int32) + 1)).bind fun h12 =>
    zb2 (fX7_digit h12 (a0)) fun w13 h14 =>
    (zgI h14 7 a0 13).bind fun w15 =>
    fX7_readConversion_c2 (a0) (w1) (w13) (h14) (w15)
theorem fX7_readConversion_e {h : zH} {a0 : Nat} : fX7_readConversion h a0 = (
    if zkd h a0 = 8 then
    zb2 (fX7_digit h (a0)) fun w1 h2 =>
    (zgI h2 7 a0 13).bind fun w3 =>
    zb2 (fX7_in h2 ((w1 : Int32).toInt64) (0) ((((w3 : Int32) - 1) : Int32).toInt64)) fun w4 h5 =>
    if (w4 : Int32) = 0 then
    some (0, h5)
    else
    zb2 (fX7_readAway h5 (a0) (w1)) fun w7 h8 =>
    fX7_readConversion_c1 (a0) (w1) (w7) (h8)
    else
    none) := rfl
def fX4_readConversion_c3 (a0 : Nat) (a1 : Nat) (w7 : Int32) (w14 : Int32) (h20 : zH) : Option (Int32 × zH) :=
    zb2 (fX4_readNumber h20 (a0) (2)) fun w21 h22 =>
    if (w21 : Int32) = (-1) then
    some (0, h22)
    else
    zb2 (fX4_readNumber h22 (a0) (2)) fun w24 h25 =>
    if (w24 : Int32) = (-1) then
    some (0, h25)
    else
    zb2 (fX4_readDigit h25 (a0) (0) (9)) fun w27 h28 =>
    if (w27 : Int32) = (-1) then
    some (0, h28)
    else
    (fX0_addConversion h28 (a1) (w7) (w14) (w21) (w24) (w27)).bind fun h30 =>
    some (1, h30)
def fX4_readConversion_c2 (a0 : Nat) (a1 : Nat) (w7 : Int32) (h13 : zH) : Option (Int32 × zH) :=
    zb2 (fX4_shownDigit h13 (a0)) fun w14 h15 =>
    zb2 (fX0_canLink h15 (a1) (w7) (w14)) fun w16 h17 =>
    if (w16 : Int32) = 0 then
    some (0, h17)
    else
    (zgI h17 4 a0 2).bind fun w19 =>
    (zpI h17 4 a0 2 ((w19 : Int32) + 1)).bind fun h20 =>
    fX4_readConversion_c3 (a0) (a1) (w7) (w14) (h20)
def fX4_readConversion_c1 (a0 : Nat) (a1 : Nat) (h5 : zH) : Option (Int32 × zH) :=
    zb2 (fX4_shownDigit h5 (a0)) fun w7 h8 =>
    zb2 (fX0_canAddConversionFrom h8 (a1) (w7)) fun w9 h10 =>
    if (w9 : Int32) = 0 then
    some (0, h10)
    else
    (zgI h10 4 a0 2).bind fun w12 =>
    (zpI h10 4 a0 2 ((w12 : Int32) + 1)).bind fun h13 =>
    fX4_readConversion_c2 (a0) (a1) (w7) (h13)
theorem fX4_readConversion_e {h : zH} {a0 : Nat} {a1 : Nat} : fX4_readConversion h a0 a1 = (
    if zkd h a0 = 5 then
    zb2 (fX0_canAddConversion h (a1)) fun w1 h2 =>
    if (w1 : Int32) = 0 then
    some (0, h2)
    else
    zb2 (fX4_readSign h2 (a0) (99)) fun w4 h5 =>
    if (w4 : Int32) = 0 then
    some (0, h5)
    else
    fX4_readConversion_c1 (a0) (a1) (h5)
    else
    none) := rfl
def fX7_readText_c3 (a0 : Nat) (h20 : zH) : Option (Int32 × zH) :=
    (zgI h20 7 a0 16).bind fun w21 =>
    if (w21 : Int32) = (-9) then
    (zgI h20 7 a0 3).bind fun w23 =>
    some (w23, h20)
    else
        fX7_readText_L91 (fun h24 =>
    some ((-9), h24)) (a0) zF h20
def fX7_readText_c2 (a0 : Nat) (w12 : Int32) (h13 : zH) : Option (Int32 × zH) :=
    if (w12 : Int32) = 0 then
    (zgI h13 7 a0 3).bind fun w15 =>
    some (w15, h13)
    else
    (zgI h13 7 a0 3).bind fun w16 =>
    (zpI h13 7 a0 3 ((w16 : Int32) + 1)).bind fun h17 =>
    zb2 (fX7_number h17 (a0) (5) (1)) fun w18 h19 =>
    (zpI h19 7 a0 16 w18).bind fun h20 =>
    fX7_readText_c3 (a0) (h20)
def fX7_readText_c1 (a0 : Nat) (w4 : Int32) (h5 : zH) : Option (Int32 × zH) :=
    if (w4 : Int32) = 0 then
    (zgI h5 7 a0 3).bind fun w7 =>
    some (w7, h5)
    else
    zb2 (fX7_digit h5 (a0)) fun w8 h9 =>
    (zpI h9 7 a0 13 w8).bind fun h10 =>
    (zgI h10 7 a0 13).bind fun w11 =>
    zb2 (fX7_in h10 ((w11 : Int32).toInt64) (1) (8)) fun w12 h13 =>
    fX7_readText_c2 (a0) (w12) (h13)
theorem fX7_readText_e {h : zH} {a0 : Nat} : fX7_readText h a0 = (
    if zkd h a0 = 8 then
    (zpI h 7 a0 3 0).bind fun h1 =>
    (zpI h1 7 a0 14 0).bind fun h2 =>
    (zpI h2 7 a0 15 0).bind fun h3 =>
    zb2 (fX7_passes h3 (a0) (75)) fun w4 h5 =>
    fX7_readText_c1 (a0) (w4) (h5)
    else
    none) := rfl
