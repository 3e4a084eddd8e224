/-! long functions, in pieces -/
def fX7_setBudget_c2 (a0 : Nat) (w14 : Int32) (h15 : zH) : Option (Int32 × zH) :=
    if (w14 : Int32) = 0 then
    (fX7_accept h15 (a0)).bind fun h17 =>
    (zgP h17 7 a0 24).bind fun w18 =>
    zb2 (fX7_used h17 (w18)) fun w19 h20 =>
    some (w19, h20)
    else
    some (0, h15)
def fX7_setBudget_c3 (a0 : Nat) (w21 : Int32) (h22 : zH) : Option (Int32 × zH) :=
    if (w21 : Int32) = 0 then
    (fX7_accept h22 (a0)).bind fun h24 =>
    (zgP h24 7 a0 24).bind fun w25 =>
    zb2 (fX7_used h24 (w25)) fun w26 h27 =>
    some (w26, h27)
    else
    some (0, h22)
def fX7_setBudget_c1 (a0 : Nat) (a1 : Int32) (h7 : zH) : Option (Int32 × zH) :=
    (zgP h7 7 a0 25).bind fun w8 =>
    (zbI h7 w8 (3) (a1)).bind fun h9 =>
    (zgP h9 7 a0 25).bind fun w10 =>
    zb2 (fX7_makeRoom h9 (w10) (0) ((-9)) (1)) fun w11 h12 =>
    if (w11 : Int32) = 0 then
    zb2 (fX7_refused h12 (a0) (2)) fun w14 h15 =>
    fX7_setBudget_c2 (a0) (w14) (h15)
    else
    zb2 (fX7_refused h12 (a0) (0)) fun w21 h22 =>
    fX7_setBudget_c3 (a0) (w21) (h22)
def fX7_setBudget_c5 (a0 : Nat) (w38 : Int32) (h39 : zH) : Option (Int32 × zH) :=
    if (w38 : Int32) = 0 then
    (fX7_accept h39 (a0)).bind fun h41 =>
    (zgP h41 7 a0 24).bind fun w42 =>
    zb2 (fX7_used h41 (w42)) fun w43 h44 =>
    some (w43, h44)
    else
    some (0, h39)
def fX7_setBudget_c6 (a0 : Nat) (w45 : Int32) (h46 : zH) : Option (Int32 × zH) :=
    if (w45 : Int32) = 0 then
    (fX7_accept h46 (a0)).bind fun h48 =>
    (zgP h48 7 a0 24).bind fun w49 =>
    zb2 (fX7_used h48 (w49)) fun w50 h51 =>
    some (w50, h51)
    else
    some (0, h46)
def fX7_setBudget_c4 (a0 : Nat) (a1 : Int32) (h31 : zH) : Option (Int32 × zH) :=
    (zgP h31 7 a0 25).bind fun w32 =>
    (zbI h31 w32 (3) (a1)).bind fun h33 =>
    (zgP h33 7 a0 25).bind fun w34 =>
    zb2 (fX7_makeRoom h33 (w34) (0) ((-9)) (1)) fun w35 h36 =>
    if (w35 : Int32) = 0 then
    zb2 (fX7_refused h36 (a0) (2)) fun w38 h39 =>
    fX7_setBudget_c5 (a0) (w38) (h39)
    else
    zb2 (fX7_refused h36 (a0) (0)) fun w45 h46 =>
    fX7_setBudget_c6 (a0) (w45) (h46)
theorem fX7_setBudget_e {h : zH} {a0 : Nat} {a1 : Int32} : fX7_setBudget h a0 a1 = (
    if zkd h a0 = 8 then
    zb2 (fX7_in h ((a1 : Int32).toInt64) (1) (99999)) fun w1 h2 =>
    if (w1 : Int32) = 0 then
    zb2 (fX7_refused h2 (a0) (1)) fun w4 h5 =>
    if (w4 : Int32) = 0 then
    (fX7_tryNow h5 (a0)).bind fun h7 =>
    fX7_setBudget_c1 (a0) (a1) (h7)
    else
    some (0, h5)
    else
    zb2 (fX7_refused h2 (a0) (0)) fun w28 h29 =>
    if (w28 : Int32) = 0 then
    (fX7_tryNow h29 (a0)).bind fun h31 =>
    fX7_setBudget_c4 (a0) (a1) (h31)
    else
    some (0, h29)
    else
    none) := rfl
def fX7_restore_c1 (a0 : Nat) (a1 : Int32) (h2 : zH) : Option (Int32 × zH) :=
    zb2 (fX7_refused h2 (a0) (2)) fun w16 h17 =>
    if (w16 : Int32) = 0 then
    (zgP h17 7 a0 29).bind fun w19 =>
    (zgP h17 7 a0 24).bind fun w20 =>
    (fX7_copyRow h17 (w19) (((360 : Int32) * a1)) (w20) (0) (360)).bind fun h21 =>
    (zpI h21 7 a0 28 0).bind fun h22 =>
    (zgP h22 7 a0 24).bind fun w23 =>
    (zaI h22 w23 (0)).bind fun w24 =>
    some (w24, h22)
    else
    some (0, h17)
def fX7_restore_c2 (a0 : Nat) (a1 : Int32) (h2 : zH) : Option (Int32 × zH) :=
    zb2 (fX7_refused h2 (a0) (0)) fun w25 h26 =>
    if (w25 : Int32) = 0 then
    (zgP h26 7 a0 29).bind fun w28 =>
    (zgP h26 7 a0 24).bind fun w29 =>
    (fX7_copyRow h26 (w28) (((360 : Int32) * a1)) (w29) (0) (360)).bind fun h30 =>
    (zpI h30 7 a0 28 0).bind fun h31 =>
    (zgP h31 7 a0 24).bind fun w32 =>
    (zaI h31 w32 (0)).bind fun w33 =>
    some (w33, h31)
    else
    some (0, h26)
theorem fX7_restore_e {h : zH} {a0 : Nat} {a1 : Int32} : fX7_restore h a0 a1 = (
    if zkd h a0 = 8 then
    zb2 (fX7_in h ((a1 : Int32).toInt64) (0) (1)) fun w1 h2 =>
    if (w1 : Int32) = 0 then
    zb2 (fX7_refused h2 (a0) (1)) fun w4 h5 =>
    if (w4 : Int32) = 0 then
    (zgP h5 7 a0 29).bind fun w7 =>
    (zgP h5 7 a0 24).bind fun w8 =>
    (fX7_copyRow h5 (w7) (((360 : Int32) * a1)) (w8) (0) (360)).bind fun h9 =>
    (zpI h9 7 a0 28 0).bind fun h10 =>
    (zgP h10 7 a0 24).bind fun w11 =>
    (zaI h10 w11 (0)).bind fun w12 =>
    some (w12, h10)
    else
    some (0, h5)
    else
    (zgP h2 7 a0 30).bind fun w13 =>
    (zaZ h2 w13 (a1)).bind fun w14 =>
    if (w14 : Int32) = 0 then
    fX7_restore_c1 (a0) (a1) (h2)
    else
    fX7_restore_c2 (a0) (a1) (h2)
    else
    none) := rfl

theorem fX7_undo_e {h : zH} {a0 : Nat} : fX7_undo h a0 = (
    if zkd h a0 = 8 then
    (zgI h 7 a0 28).bind fun w1 =>
    if (w1 : Int32) = 0 then
    zb2 (fX7_refused h (a0) (1)) fun w3 h4 =>
    if (w3 : Int32) = 0 then
    (zgI h4 7 a0 28).bind fun w6 =>
    (zpI h4 7 a0 28 ((w6 : Int32) - 1)).bind fun h7 =>
    (zgP h7 7 a0 27).bind fun w8 =>
    (zgI h7 7 a0 28).bind fun w9 =>
    (zgP h7 7 a0 24).bind fun w10 =>
    (fX7_copyRow h7 (w8) (((360 : Int32) * w9)) (w10) (0) (360)).bind fun h11 =>
    (zgI h11 7 a0 28).bind fun w12 =>
    some (w12, h11)
    else
    some (0, h4)
    else
    zb2 (fX7_refused h (a0) (0)) fun w13 h14 =>
    if (w13 : Int32) = 0 then
    (zgI h14 7 a0 28).bind fun w16 =>
    (zpI h14 7 a0 28 ((w16 : Int32) - 1)).bind fun h17 =>
    (zgP h17 7 a0 27).bind fun w18 =>
    (zgI h17 7 a0 28).bind fun w19 =>
    (zgP h17 7 a0 24).bind fun w20 =>
    (fX7_copyRow h17 (w18) (((360 : Int32) * w19)) (w20) (0) (360)).bind fun h21 =>
    (zgI h21 7 a0 28).bind fun w22 =>
    some (w22, h21)
    else
    some (0, h14)
    else
    none) := rfl
