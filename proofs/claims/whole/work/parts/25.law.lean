def fL_law_L23 (G : zG) (k : zH → Int32 → Option (Int32 × zH)) (u1 : Nat) (u2 : Nat) (u3 : Nat) : Nat → zH → Int32 → Option (Int32 × zH)
  | 0, _, _ => none
  | n + 1, h, v4 => if ((((Int32.ofNat (zgL G)) : Int32) - 4) : Int32) < v4 then
    k h (v4)
    else
    (zsc G (v4)).bind fun w2 =>
    if (((w2 : Int32) &&& 63) : Int32) = 0 then
    (zsc G (((v4 : Int32) + 1))).bind fun w4 =>
    zb2 (fL_append h (u1) (w4) (u3)) fun w5 h6 =>
    (zsc G (((v4 : Int32) + 1))).bind fun w7 =>
    zb2 (fX7_append h6 (u2) (w7)) fun w8 h9 =>
    zb2 (fX7_thrown h9 (u2)) fun w10 h11 =>
    if (w10 : Int32) = w5 then
    if (w5 : Int32) = 0 then
    (zaJ h11 u3 (0)).bind fun w14 =>
    if ((lg_cmp w14 (w8 : Int32).toInt64) : Int32) = 0 then
    fL_law_L23 G k u1 u2 u3 n h11 ((v4 + 4))
    else
    some (0, h11)
    else
    fL_law_L23 G k u1 u2 u3 n h11 ((v4 + 4))
    else
    some (0, h11)
    else
    if (((w2 : Int32) &&& 63) : Int32) = 1 then
    zb2 (fX6_clearText h (u1)) fun w17 h18 =>
    zb2 (fX7_clearText h18 (u2)) fun w19 h20 =>
    if (w17 : Int32) = w19 then
    fL_law_L23 G k u1 u2 u3 n h20 ((v4 + 4))
    else
    some (0, h20)
    else
    if (((w2 : Int32) &&& 63) : Int32) = 2 then
    zb2 (fX6_errorPosition h (u1)) fun w23 h24 =>
    zb2 (fX7_errorPosition h24 (u2)) fun w25 h26 =>
    if (w23 : Int32) = w25 then
    fL_law_L23 G k u1 u2 u3 n h26 ((v4 + 4))
    else
    some (0, h26)
    else
    if (((w2 : Int32) &&& 63) : Int32) = 3 then
    zb2 (fL_load h (u1) (u3)) fun w29 h30 =>
    zb2 (fX7_load h30 (u2)) fun w31 h32 =>
    zb2 (fX7_thrown h32 (u2)) fun w33 h34 =>
    if (w33 : Int32) = w29 then
    if (w29 : Int32) = 0 then
    (zaJ h34 u3 (0)).bind fun w37 =>
    if ((lg_cmp w37 (w31 : Int32).toInt64) : Int32) = 0 then
    fL_law_L23 G k u1 u2 u3 n h34 ((v4 + 4))
    else
    some (0, h34)
    else
    fL_law_L23 G k u1 u2 u3 n h34 ((v4 + 4))
    else
    some (0, h34)
    else
    if (((w2 : Int32) &&& 63) : Int32) = 4 then
    (zsc G (((v4 : Int32) + 1))).bind fun w40 =>
    zb2 (fL_about h (u1) (w40) (u3)) fun w41 h42 =>
    (zsc G (((v4 : Int32) + 1))).bind fun w43 =>
    zb2 (fX7_about h42 (u2) (w43)) fun w44 h45 =>
    zb2 (fX7_thrown h45 (u2)) fun w46 h47 =>
    if (w46 : Int32) = w41 then
    if (w41 : Int32) = 0 then
    (zaJ h47 u3 (0)).bind fun w50 =>
    if ((lg_cmp w50 (w44 : Int32).toInt64) : Int32) = 0 then
    fL_law_L23 G k u1 u2 u3 n h47 ((v4 + 4))
    else
    some (0, h47)
    else
    fL_law_L23 G k u1 u2 u3 n h47 ((v4 + 4))
    else
    some (0, h47)
    else
    if (((w2 : Int32) &&& 63) : Int32) = 5 then
    (zsc G (((v4 : Int32) + 1))).bind fun w53 =>
    (zsc G (((v4 : Int32) + 2))).bind fun w54 =>
    zb2 (fL_conversion h (u1) (w53) (w54) (u3)) fun w55 h56 =>
    (zsc G (((v4 : Int32) + 1))).bind fun w57 =>
    (zsc G (((v4 : Int32) + 2))).bind fun w58 =>
    zb2 (fX7_conversion h56 (u2) (w57) (w58)) fun w59 h60 =>
    zb2 (fX7_thrown h60 (u2)) fun w61 h62 =>
    if (w61 : Int32) = w55 then
    if (w55 : Int32) = 0 then
    (zaJ h62 u3 (0)).bind fun w65 =>
    if ((lg_cmp w65 (w59 : Int32).toInt64) : Int32) = 0 then
    fL_law_L23 G k u1 u2 u3 n h62 ((v4 + 4))
    else
    some (0, h62)
    else
    fL_law_L23 G k u1 u2 u3 n h62 ((v4 + 4))
    else
    some (0, h62)
    else
    if (((w2 : Int32) &&& 63) : Int32) = 6 then
    (zsc G (((v4 : Int32) + 1))).bind fun w68 =>
    (zsc G (((v4 : Int32) + 2))).bind fun w69 =>
    zb2 (fL_place h (u1) (w68) (w69) (u3)) fun w70 h71 =>
    (zsc G (((v4 : Int32) + 1))).bind fun w72 =>
    (zsc G (((v4 : Int32) + 2))).bind fun w73 =>
    zb2 (fX7_place h71 (u2) (w72) (w73)) fun w74 h75 =>
    zb2 (fX7_thrown h75 (u2)) fun w76 h77 =>
    if (w76 : Int32) = w70 then
    if (w70 : Int32) = 0 then
    (zaJ h77 u3 (0)).bind fun w80 =>
    if ((lg_cmp w80 (w74 : Int32).toInt64) : Int32) = 0 then
    fL_law_L23 G k u1 u2 u3 n h77 ((v4 + 4))
    else
    some (0, h77)
    else
    fL_law_L23 G k u1 u2 u3 n h77 ((v4 + 4))
    else
    some (0, h77)
    else
    if (((w2 : Int32) &&& 63) : Int32) = 7 then
    (zsc G (((v4 : Int32) + 1))).bind fun w83 =>
    (zsc G (((v4 : Int32) + 2))).bind fun w84 =>
    zb2 (fL_entry h (u1) (w83) (w84) (u3)) fun w85 h86 =>
    (zsc G (((v4 : Int32) + 1))).bind fun w87 =>
    (zsc G (((v4 : Int32) + 2))).bind fun w88 =>
    zb2 (fX7_entry h86 (u2) (w87) (w88)) fun w89 h90 =>
    zb2 (fX7_thrown h90 (u2)) fun w91 h92 =>
    if (w91 : Int32) = w85 then
    if (w85 : Int32) = 0 then
    (zaJ h92 u3 (0)).bind fun w95 =>
    if ((lg_cmp w95 (w89 : Int32).toInt64) : Int32) = 0 then
    fL_law_L23 G k u1 u2 u3 n h92 ((v4 + 4))
    else
    some (0, h92)
    else
    fL_law_L23 G k u1 u2 u3 n h92 ((v4 + 4))
    else
    some (0, h92)
    else
    if (((w2 : Int32) &&& 63) : Int32) = 8 then
    (zsc G (((v4 : Int32) + 1))).bind fun w98 =>
    (zsc G (((v4 : Int32) + 2))).bind fun w99 =>
    (zsc G (((v4 : Int32) + 3))).bind fun w100 =>
    if (w100 : Int32) = 0 then
    zb2 (fL_form h (u1) (w98) (w99) (0) (u3)) fun w102 h103 =>
    (zsc G (((v4 : Int32) + 1))).bind fun w104 =>
    (zsc G (((v4 : Int32) + 2))).bind fun w105 =>
    (zsc G (((v4 : Int32) + 3))).bind fun w106 =>
    if (w106 : Int32) = 0 then
    zb2 (fX7_form h103 (u2) (w104) (w105) (0)) fun w108 h109 =>
    zb2 (fX7_thrown h109 (u2)) fun w110 h111 =>
    if (w110 : Int32) = w102 then
    if (w102 : Int32) = 0 then
    (zaJ h111 u3 (0)).bind fun w114 =>
    if ((lg_cmp w114 (w108 : Int32).toInt64) : Int32) = 0 then
    fL_law_L23 G k u1 u2 u3 n h111 ((v4 + 4))
    else
    some (0, h111)
    else
    fL_law_L23 G k u1 u2 u3 n h111 ((v4 + 4))
    else
    some (0, h111)
    else
    zb2 (fX7_form h103 (u2) (w104) (w105) (1)) fun w116 h117 =>
    zb2 (fX7_thrown h117 (u2)) fun w118 h119 =>
    if (w118 : Int32) = w102 then
    if (w102 : Int32) = 0 then
    (zaJ h119 u3 (0)).bind fun w122 =>
    if ((lg_cmp w122 (w116 : Int32).toInt64) : Int32) = 0 then
    fL_law_L23 G k u1 u2 u3 n h119 ((v4 + 4))
    else
    some (0, h119)
    else
    fL_law_L23 G k u1 u2 u3 n h119 ((v4 + 4))
    else
    some (0, h119)
    else
    zb2 (fL_form h (u1) (w98) (w99) (1) (u3)) fun w124 h125 =>
    (zsc G (((v4 : Int32) + 1))).bind fun w126 =>
    (zsc G (((v4 : Int32) + 2))).bind fun w127 =>
    (zsc G (((v4 : Int32) + 3))).bind fun w128 =>
    if (w128 : Int32) = 0 then
    zb2 (fX7_form h125 (u2) (w126) (w127) (0)) fun w130 h131 =>
    zb2 (fX7_thrown h131 (u2)) fun w132 h133 =>
    if (w132 : Int32) = w124 then
    if (w124 : Int32) = 0 then
    (zaJ h133 u3 (0)).bind fun w136 =>
    if ((lg_cmp w136 (w130 : Int32).toInt64) : Int32) = 0 then
    fL_law_L23 G k u1 u2 u3 n h133 ((v4 + 4))
    else
    some (0, h133)
    else
    fL_law_L23 G k u1 u2 u3 n h133 ((v4 + 4))
    else
    some (0, h133)
    else
    zb2 (fX7_form h125 (u2) (w126) (w127) (1)) fun w138 h139 =>
    zb2 (fX7_thrown h139 (u2)) fun w140 h141 =>
    if (w140 : Int32) = w124 then
    if (w124 : Int32) = 0 then
    (zaJ h141 u3 (0)).bind fun w144 =>
    if ((lg_cmp w144 (w138 : Int32).toInt64) : Int32) = 0 then
    fL_law_L23 G k u1 u2 u3 n h141 ((v4 + 4))
    else
    some (0, h141)
    else
    fL_law_L23 G k u1 u2 u3 n h141 ((v4 + 4))
    else
    some (0, h141)
    else
    if (((w2 : Int32) &&& 63) : Int32) = 9 then
    (zsc G (((v4 : Int32) + 1))).bind fun w147 =>
    (zsc G (((v4 : Int32) + 2))).bind fun w148 =>
    zb2 (fL_copy h (u1) (w147) (w148) (u3)) fun w149 h150 =>
    (zsc G (((v4 : Int32) + 1))).bind fun w151 =>
    (zsc G (((v4 : Int32) + 2))).bind fun w152 =>
    zb2 (fX7_copy h150 (u2) (w151) (w152)) fun w153 h154 =>
    zb2 (fX7_thrown h154 (u2)) fun w155 h156 =>
    if (w155 : Int32) = w149 then
    if (w149 : Int32) = 0 then
    (zaJ h156 u3 (0)).bind fun w159 =>
    if ((lg_cmp w159 (w153 : Int32).toInt64) : Int32) = 0 then
    fL_law_L23 G k u1 u2 u3 n h156 ((v4 + 4))
    else
    some (0, h156)
    else
    fL_law_L23 G k u1 u2 u3 n h156 ((v4 + 4))
    else
    some (0, h156)
    else
    if (((w2 : Int32) &&& 63) : Int32) = 10 then
    (zsc G (((v4 : Int32) + 1))).bind fun w162 =>
    (zsc G (((v4 : Int32) + 2))).bind fun w163 =>
    zb2 (fL_offer h (u1) (w162) (w163) (u3)) fun w164 h165 =>
    (zsc G (((v4 : Int32) + 1))).bind fun w166 =>
    (zsc G (((v4 : Int32) + 2))).bind fun w167 =>
    zb2 (fX7_offer h165 (u2) (w166) (w167)) fun w168 h169 =>
    zb2 (fX7_thrown h169 (u2)) fun w170 h171 =>
    if (w170 : Int32) = w164 then
    if (w164 : Int32) = 0 then
    (zaJ h171 u3 (0)).bind fun w174 =>
    if ((lg_cmp w174 (w168 : Int32).toInt64) : Int32) = 0 then
    fL_law_L23 G k u1 u2 u3 n h171 ((v4 + 4))
    else
    some (0, h171)
    else
    fL_law_L23 G k u1 u2 u3 n h171 ((v4 + 4))
    else
    some (0, h171)
    else
    if (((w2 : Int32) &&& 63) : Int32) = 11 then
    (zsc G (((v4 : Int32) + 1))).bind fun w177 =>
    (zsc G (((v4 : Int32) + 2))).bind fun w178 =>
    zb2 (fL_paste h (u1) (w177) (w178) (u3)) fun w179 h180 =>
    (zsc G (((v4 : Int32) + 1))).bind fun w181 =>
    (zsc G (((v4 : Int32) + 2))).bind fun w182 =>
    zb2 (fX7_paste h180 (u2) (w181) (w182)) fun w183 h184 =>
    zb2 (fX7_thrown h184 (u2)) fun w185 h186 =>
    if (w185 : Int32) = w179 then
    if (w179 : Int32) = 0 then
    (zaJ h186 u3 (0)).bind fun w189 =>
    if ((lg_cmp w189 (w183 : Int32).toInt64) : Int32) = 0 then
    fL_law_L23 G k u1 u2 u3 n h186 ((v4 + 4))
    else
    some (0, h186)
    else
    fL_law_L23 G k u1 u2 u3 n h186 ((v4 + 4))
    else
    some (0, h186)
    else
    if (((w2 : Int32) &&& 63) : Int32) = 12 then
    (zsc G (((v4 : Int32) + 1))).bind fun w192 =>
    zb2 (fL_togglePin h (u1) (w192) (u3)) fun w193 h194 =>
    (zsc G (((v4 : Int32) + 1))).bind fun w195 =>
    zb2 (fX7_togglePin h194 (u2) (w195)) fun w196 h197 =>
    zb2 (fX7_thrown h197 (u2)) fun w198 h199 =>
    if (w198 : Int32) = w193 then
    if (w193 : Int32) = 0 then
    (zaJ h199 u3 (0)).bind fun w202 =>
    if ((lg_cmp w202 (w196 : Int32).toInt64) : Int32) = 0 then
    fL_law_L23 G k u1 u2 u3 n h199 ((v4 + 4))
    else
    some (0, h199)
    else
    fL_law_L23 G k u1 u2 u3 n h199 ((v4 + 4))
    else
    some (0, h199)
    else
    if (((w2 : Int32) &&& 63) : Int32) = 13 then
    (zsc G (((v4 : Int32) + 1))).bind fun w205 =>
    zb2 (fL_remove h (u1) (w205) (u3)) fun w206 h207 =>
    (zsc G (((v4 : Int32) + 1))).bind fun w208 =>
    zb2 (fX7_remove h207 (u2) (w208)) fun w209 h210 =>
    zb2 (fX7_thrown h210 (u2)) fun w211 h212 =>
    if (w211 : Int32) = w206 then
    if (w206 : Int32) = 0 then
    (zaJ h212 u3 (0)).bind fun w215 =>
    if ((lg_cmp w215 (w209 : Int32).toInt64) : Int32) = 0 then
    fL_law_L23 G k u1 u2 u3 n h212 ((v4 + 4))
    else
    some (0, h212)
    else
    fL_law_L23 G k u1 u2 u3 n h212 ((v4 + 4))
    else
    some (0, h212)
    else
    if (((w2 : Int32) &&& 63) : Int32) = 14 then
    (zsc G (((v4 : Int32) + 1))).bind fun w218 =>
    zb2 (fL_setBudget h (u1) (w218) (u3)) fun w219 h220 =>
    (zsc G (((v4 : Int32) + 1))).bind fun w221 =>
    zb2 (fX7_setBudget h220 (u2) (w221)) fun w222 h223 =>
    zb2 (fX7_thrown h223 (u2)) fun w224 h225 =>
    if (w224 : Int32) = w219 then
    if (w219 : Int32) = 0 then
    (zaJ h225 u3 (0)).bind fun w228 =>
    if ((lg_cmp w228 (w222 : Int32).toInt64) : Int32) = 0 then
    fL_law_L23 G k u1 u2 u3 n h225 ((v4 + 4))
    else
    some (0, h225)
    else
    fL_law_L23 G k u1 u2 u3 n h225 ((v4 + 4))
    else
    some (0, h225)
    else
    if (((w2 : Int32) &&& 63) : Int32) = 15 then
    (zsc G (((v4 : Int32) + 1))).bind fun w231 =>
    (zsc G (((v4 : Int32) + 2))).bind fun w232 =>
    zb2 (fL_setCost h (u1) (w231) (w232) (u3)) fun w233 h234 =>
    (zsc G (((v4 : Int32) + 1))).bind fun w235 =>
    (zsc G (((v4 : Int32) + 2))).bind fun w236 =>
    zb2 (fX7_setCost h234 (u2) (w235) (w236)) fun w237 h238 =>
    zb2 (fX7_thrown h238 (u2)) fun w239 h240 =>
    if (w239 : Int32) = w233 then
    if (w233 : Int32) = 0 then
    (zaJ h240 u3 (0)).bind fun w243 =>
    if ((lg_cmp w243 (w237 : Int32).toInt64) : Int32) = 0 then
    fL_law_L23 G k u1 u2 u3 n h240 ((v4 + 4))
    else
    some (0, h240)
    else
    fL_law_L23 G k u1 u2 u3 n h240 ((v4 + 4))
    else
    some (0, h240)
    else
    if (((w2 : Int32) &&& 63) : Int32) = 16 then
    zb2 (fL_undo h (u1) (u3)) fun w246 h247 =>
    zb2 (fX7_undo h247 (u2)) fun w248 h249 =>
    zb2 (fX7_thrown h249 (u2)) fun w250 h251 =>
    if (w250 : Int32) = w246 then
    if (w246 : Int32) = 0 then
    (zaJ h251 u3 (0)).bind fun w254 =>
    if ((lg_cmp w254 (w248 : Int32).toInt64) : Int32) = 0 then
    fL_law_L23 G k u1 u2 u3 n h251 ((v4 + 4))
    else
    some (0, h251)
    else
    fL_law_L23 G k u1 u2 u3 n h251 ((v4 + 4))
    else
    some (0, h251)
    else
    if (((w2 : Int32) &&& 63) : Int32) = 17 then
    (zsc G (((v4 : Int32) + 1))).bind fun w257 =>
    (zsc G (((v4 : Int32) + 2))).bind fun w258 =>
    (zsc G (((v4 : Int32) + 3))).bind fun w259 =>
    zb2 (fL_path h (u1) (w257) (w258) (w259) (u3)) fun w260 h261 =>
    (zsc G (((v4 : Int32) + 1))).bind fun w262 =>
    (zsc G (((v4 : Int32) + 2))).bind fun w263 =>
    (zsc G (((v4 : Int32) + 3))).bind fun w264 =>
    zb2 (fX7_path h261 (u2) (w262) (w263) (w264)) fun w265 h266 =>
    zb2 (fX7_thrown h266 (u2)) fun w267 h268 =>
    if (w267 : Int32) = w260 then
    if (w260 : Int32) = 0 then
    (zaJ h268 u3 (0)).bind fun w271 =>
    if ((lg_cmp w271 (w265 : Int32).toInt64) : Int32) = 0 then
    fL_law_L23 G k u1 u2 u3 n h268 ((v4 + 4))
    else
    some (0, h268)
    else
    fL_law_L23 G k u1 u2 u3 n h268 ((v4 + 4))
    else
    some (0, h268)
    else
    if (((w2 : Int32) &&& 63) : Int32) = 18 then
    (zsc G (((v4 : Int32) + 1))).bind fun w274 =>
    (zsc G (((v4 : Int32) + 2))).bind fun w275 =>
    (zsc G (((v4 : Int32) + 3))).bind fun w276 =>
    zb2 (fL_step h (u1) (w274) (w275) (w276) (u3)) fun w277 h278 =>
    (zsc G (((v4 : Int32) + 1))).bind fun w279 =>
    (zsc G (((v4 : Int32) + 2))).bind fun w280 =>
    (zsc G (((v4 : Int32) + 3))).bind fun w281 =>
    zb2 (fX7_step h278 (u2) (w279) (w280) (w281)) fun w282 h283 =>
    zb2 (fX7_thrown h283 (u2)) fun w284 h285 =>
    if (w284 : Int32) = w277 then
    if (w277 : Int32) = 0 then
    (zaJ h285 u3 (0)).bind fun w288 =>
    if ((lg_cmp w288 (w282 : Int32).toInt64) : Int32) = 0 then
    fL_law_L23 G k u1 u2 u3 n h285 ((v4 + 4))
    else
    some (0, h285)
    else
    fL_law_L23 G k u1 u2 u3 n h285 ((v4 + 4))
    else
    some (0, h285)
    else
    if (((w2 : Int32) &&& 63) : Int32) = 19 then
    (zsc G (((v4 : Int32) + 1))).bind fun w291 =>
    (zsc G (((v4 : Int32) + 2))).bind fun w292 =>
    (zsc G (((v4 : Int32) + 3))).bind fun w293 =>
    zb2 (fL_sizeAfter h (u1) (w291) (w292) (w293) (u3)) fun w294 h295 =>
    (zsc G (((v4 : Int32) + 1))).bind fun w296 =>
    (zsc G (((v4 : Int32) + 2))).bind fun w297 =>
    (zsc G (((v4 : Int32) + 3))).bind fun w298 =>
    zb2 (fX7_sizeAfter h295 (u2) (w296) (w297) (w298)) fun w299 h300 =>
    zb2 (fX7_thrown h300 (u2)) fun w301 h302 =>
    if (w301 : Int32) = w294 then
    if (w294 : Int32) = 0 then
    (zaJ h302 u3 (0)).bind fun w305 =>
    if ((lg_cmp w305 (w299 : Int32).toInt64) : Int32) = 0 then
    fL_law_L23 G k u1 u2 u3 n h302 ((v4 + 4))
    else
    some (0, h302)
    else
    fL_law_L23 G k u1 u2 u3 n h302 ((v4 + 4))
    else
    some (0, h302)
    else
    if (((w2 : Int32) &&& 63) : Int32) = 20 then
    (zsc G (((v4 : Int32) + 1))).bind fun w308 =>
    zb2 (fL_reachable h (u1) (w308) (u3)) fun w309 h310 =>
    (zsc G (((v4 : Int32) + 1))).bind fun w311 =>
    zb2 (fX7_reachable h310 (u2) (w311)) fun w312 h313 =>
    zb2 (fX7_thrown h313 (u2)) fun w314 h315 =>
    if (w314 : Int32) = w309 then
    if (w309 : Int32) = 0 then
    (zaJ h315 u3 (0)).bind fun w318 =>
    if ((lg_cmp w318 (w312 : Int32).toInt64) : Int32) = 0 then
    fL_law_L23 G k u1 u2 u3 n h315 ((v4 + 4))
    else
    some (0, h315)
    else
    fL_law_L23 G k u1 u2 u3 n h315 ((v4 + 4))
    else
    some (0, h315)
    else
    if (((w2 : Int32) &&& 63) : Int32) = 21 then
    (zsc G (((v4 : Int32) + 1))).bind fun w321 =>
    (zsc G (((v4 : Int32) + 2))).bind fun w322 =>
    (zsc G (((v4 : Int32) + 3))).bind fun w323 =>
    zb2 (fL_without h (u1) (w321) (w322) (w323) (u3)) fun w324 h325 =>
    (zsc G (((v4 : Int32) + 1))).bind fun w326 =>
    (zsc G (((v4 : Int32) + 2))).bind fun w327 =>
    (zsc G (((v4 : Int32) + 3))).bind fun w328 =>
    zb2 (fX7_without h325 (u2) (w326) (w327) (w328)) fun w329 h330 =>
    zb2 (fX7_thrown h330 (u2)) fun w331 h332 =>
    if (w331 : Int32) = w324 then
    if (w324 : Int32) = 0 then
    (zaJ h332 u3 (0)).bind fun w335 =>
    if ((lg_cmp w335 (w329 : Int32).toInt64) : Int32) = 0 then
    fL_law_L23 G k u1 u2 u3 n h332 ((v4 + 4))
    else
    some (0, h332)
    else
    fL_law_L23 G k u1 u2 u3 n h332 ((v4 + 4))
    else
    some (0, h332)
    else
    if (((w2 : Int32) &&& 63) : Int32) = 22 then
    (zsc G (((v4 : Int32) + 1))).bind fun w338 =>
    zb2 (fL_worth h (u1) (w338) (u3)) fun w339 h340 =>
    (zsc G (((v4 : Int32) + 1))).bind fun w341 =>
    zb2 (fX7_worth h340 (u2) (w341)) fun w342 h343 =>
    zb2 (fX7_thrown h343 (u2)) fun w344 h345 =>
    if (w344 : Int32) = w339 then
    if (w339 : Int32) = 0 then
    (zaJ h345 u3 (0)).bind fun w348 =>
    if ((lg_cmp w348 (w342 : Int32).toInt64) : Int32) = 0 then
    fL_law_L23 G k u1 u2 u3 n h345 ((v4 + 4))
    else
    some (0, h345)
    else
    fL_law_L23 G k u1 u2 u3 n h345 ((v4 + 4))
    else
    some (0, h345)
    else
    if (((w2 : Int32) &&& 63) : Int32) = 23 then
    zb2 (fX6_idle h (u1)) fun w351 h352 =>
    zb2 (fX7_idle h352 (u2)) fun w353 h354 =>
    if (w351 : Int32) = w353 then
    fL_law_L23 G k u1 u2 u3 n h354 ((v4 + 4))
    else
    some (0, h354)
    else
    if (((w2 : Int32) &&& 63) : Int32) = 24 then
    (zsc G (((v4 : Int32) + 1))).bind fun w357 =>
    zb2 (fL_between h (u1) (w357) (u3)) fun w358 h359 =>
    (zsc G (((v4 : Int32) + 1))).bind fun w360 =>
    zb2 (fX7_between h359 (u2) (w360)) fun w361 h362 =>
    zb2 (fX7_thrown h362 (u2)) fun w363 h364 =>
    if (w363 : Int32) = w358 then
    if (w358 : Int32) = 0 then
    (zaJ h364 u3 (0)).bind fun w367 =>
    if ((lg_cmp w367 (w361 : Int32).toInt64) : Int32) = 0 then
    fL_law_L23 G k u1 u2 u3 n h364 ((v4 + 4))
    else
    some (0, h364)
    else
    fL_law_L23 G k u1 u2 u3 n h364 ((v4 + 4))
    else
    some (0, h364)
    else
    if (((w2 : Int32) &&& 63) : Int32) = 25 then
    (zsc G (((v4 : Int32) + 1))).bind fun w370 =>
    (zsc G (((v4 : Int32) + 2))).bind fun w371 =>
    (zsc G (((v4 : Int32) + 3))).bind fun w372 =>
    zb2 (fL_way h (u1) (w370) (w371) (w372) (u3)) fun w373 h374 =>
    (zsc G (((v4 : Int32) + 1))).bind fun w375 =>
    (zsc G (((v4 : Int32) + 2))).bind fun w376 =>
    (zsc G (((v4 : Int32) + 3))).bind fun w377 =>
    zb2 (fX7_way h374 (u2) (w375) (w376) (w377)) fun w378 h379 =>
    zb2 (fX7_thrown h379 (u2)) fun w380 h381 =>
    if (w380 : Int32) = w373 then
    if (w373 : Int32) = 0 then
    (zaJ h381 u3 (0)).bind fun w384 =>
    if ((lg_cmp w384 (w378 : Int32).toInt64) : Int32) = 0 then
    fL_law_L23 G k u1 u2 u3 n h381 ((v4 + 4))
    else
    some (0, h381)
    else
    fL_law_L23 G k u1 u2 u3 n h381 ((v4 + 4))
    else
    some (0, h381)
    else
    if (((w2 : Int32) &&& 63) : Int32) = 26 then
    (zsc G (((v4 : Int32) + 1))).bind fun w387 =>
    zb2 (fL_bestFor h (u1) (w387) (u3)) fun w388 h389 =>
    (zsc G (((v4 : Int32) + 1))).bind fun w390 =>
    zb2 (fX7_bestFor h389 (u2) (w390)) fun w391 h392 =>
    zb2 (fX7_thrown h392 (u2)) fun w393 h394 =>
    if (w393 : Int32) = w388 then
    if (w388 : Int32) = 0 then
    (zaJ h394 u3 (0)).bind fun w397 =>
    if ((lg_cmp w397 (w391 : Int32).toInt64) : Int32) = 0 then
    fL_law_L23 G k u1 u2 u3 n h394 ((v4 + 4))
    else
    some (0, h394)
    else
    fL_law_L23 G k u1 u2 u3 n h394 ((v4 + 4))
    else
    some (0, h394)
    else
    if (((w2 : Int32) &&& 63) : Int32) = 27 then
    (zsc G (((v4 : Int32) + 1))).bind fun w400 =>
    zb2 (fL_victims h (u1) (w400) (u3)) fun w401 h402 =>
    (zsc G (((v4 : Int32) + 1))).bind fun w403 =>
    zb2 (fX7_victims h402 (u2) (w403)) fun w404 h405 =>
    zb2 (fX7_thrown h405 (u2)) fun w406 h407 =>
    if (w406 : Int32) = w401 then
    if (w401 : Int32) = 0 then
    (zaJ h407 u3 (0)).bind fun w410 =>
    if ((lg_cmp w410 (w404 : Int32).toInt64) : Int32) = 0 then
    fL_law_L23 G k u1 u2 u3 n h407 ((v4 + 4))
    else
    some (0, h407)
    else
    fL_law_L23 G k u1 u2 u3 n h407 ((v4 + 4))
    else
    some (0, h407)
    else
    if (((w2 : Int32) &&& 63) : Int32) = 28 then
    zb2 (fX6_room h (u1)) fun w413 h414 =>
    zb2 (fX7_room h414 (u2)) fun w415 h416 =>
    if (w413 : Int32) = w415 then
    fL_law_L23 G k u1 u2 u3 n h416 ((v4 + 4))
    else
    some (0, h416)
    else
    if (((w2 : Int32) &&& 63) : Int32) = 29 then
    (zsc G (((v4 : Int32) + 1))).bind fun w419 =>
    zb2 (fL_ranked h (u1) (w419) (u3)) fun w420 h421 =>
    (zsc G (((v4 : Int32) + 1))).bind fun w422 =>
    zb2 (fX7_ranked h421 (u2) (w422)) fun w423 h424 =>
    zb2 (fX7_thrown h424 (u2)) fun w425 h426 =>
    if (w425 : Int32) = w420 then
    if (w420 : Int32) = 0 then
    (zaJ h426 u3 (0)).bind fun w429 =>
    if ((lg_cmp w429 (w423 : Int32).toInt64) : Int32) = 0 then
    fL_law_L23 G k u1 u2 u3 n h426 ((v4 + 4))
    else
    some (0, h426)
    else
    fL_law_L23 G k u1 u2 u3 n h426 ((v4 + 4))
    else
    some (0, h426)
    else
    if (((w2 : Int32) &&& 63) : Int32) = 30 then
    (zsc G (((v4 : Int32) + 1))).bind fun w432 =>
    (zsc G (((v4 : Int32) + 2))).bind fun w433 =>
    (zsc G (((v4 : Int32) + 3))).bind fun w434 =>
    zb2 (fL_runScript h (u1) (w432) ((((((w433 : Int32).toInt64 : Int64) <<< ((32 : Int32).toInt64 &&& 63)) : Int64) ||| (((w434 : Int32).toInt64 : Int64) &&& 4294967295))) (u3)) fun w435 h436 =>
    (zsc G (((v4 : Int32) + 1))).bind fun w437 =>
    (zsc G (((v4 : Int32) + 2))).bind fun w438 =>
    (zsc G (((v4 : Int32) + 3))).bind fun w439 =>
    zb2 (fX7_runScript h436 (u2) (w437) ((((((w438 : Int32).toInt64 : Int64) <<< ((32 : Int32).toInt64 &&& 63)) : Int64) ||| (((w439 : Int32).toInt64 : Int64) &&& 4294967295)))) fun w440 h441 =>
    zb2 (fX7_thrown h441 (u2)) fun w442 h443 =>
    if (w442 : Int32) = w435 then
    if (w435 : Int32) = 0 then
    (zaJ h443 u3 (0)).bind fun w446 =>
    if ((lg_cmp w446 (w440 : Int32).toInt64) : Int32) = 0 then
    fL_law_L23 G k u1 u2 u3 n h443 ((v4 + 4))
    else
    some (0, h443)
    else
    fL_law_L23 G k u1 u2 u3 n h443 ((v4 + 4))
    else
    some (0, h443)
    else
    if (((w2 : Int32) &&& 63) : Int32) = 31 then
    (zsc G (((v4 : Int32) + 1))).bind fun w449 =>
    (zsc G (((v4 : Int32) + 2))).bind fun w450 =>
    (zsc G (((v4 : Int32) + 3))).bind fun w451 =>
    zb2 (fL_simulate h (u1) ((((((w449 : Int32).toInt64 : Int64) <<< ((32 : Int32).toInt64 &&& 63)) : Int64) ||| (((w450 : Int32).toInt64 : Int64) &&& 4294967295))) (w451) (u3)) fun w452 h453 =>
    (zsc G (((v4 : Int32) + 1))).bind fun w454 =>
    (zsc G (((v4 : Int32) + 2))).bind fun w455 =>
    (zsc G (((v4 : Int32) + 3))).bind fun w456 =>
    zb2 (fX7_simulate h453 (u2) ((((((w454 : Int32).toInt64 : Int64) <<< ((32 : Int32).toInt64 &&& 63)) : Int64) ||| (((w455 : Int32).toInt64 : Int64) &&& 4294967295))) (w456)) fun w457 h458 =>
    zb2 (fX7_thrown h458 (u2)) fun w459 h460 =>
    if (w459 : Int32) = w452 then
    if (w452 : Int32) = 0 then
    (zaJ h460 u3 (0)).bind fun w463 =>
    if ((lg_cmp w463 (w457 : Int32).toInt64) : Int32) = 0 then
    fL_law_L23 G k u1 u2 u3 n h460 ((v4 + 4))
    else
    some (0, h460)
    else
    fL_law_L23 G k u1 u2 u3 n h460 ((v4 + 4))
    else
    some (0, h460)
    else
    if (((w2 : Int32) &&& 63) : Int32) = 32 then
    (zsc G (((v4 : Int32) + 1))).bind fun w466 =>
    zb2 (fL_save h (u1) (w466) (u3)) fun w467 h468 =>
    (zsc G (((v4 : Int32) + 1))).bind fun w469 =>
    zb2 (fX7_save h468 (u2) (w469)) fun w470 h471 =>
    zb2 (fX7_thrown h471 (u2)) fun w472 h473 =>
    if (w472 : Int32) = w467 then
    if (w467 : Int32) = 0 then
    (zaJ h473 u3 (0)).bind fun w476 =>
    if ((lg_cmp w476 (w470 : Int32).toInt64) : Int32) = 0 then
    fL_law_L23 G k u1 u2 u3 n h473 ((v4 + 4))
    else
    some (0, h473)
    else
    fL_law_L23 G k u1 u2 u3 n h473 ((v4 + 4))
    else
    some (0, h473)
    else
    if (((w2 : Int32) &&& 63) : Int32) = 33 then
    (zsc G (((v4 : Int32) + 1))).bind fun w479 =>
    zb2 (fL_restore h (u1) (w479) (u3)) fun w480 h481 =>
    (zsc G (((v4 : Int32) + 1))).bind fun w482 =>
    zb2 (fX7_restore h481 (u2) (w482)) fun w483 h484 =>
    zb2 (fX7_thrown h484 (u2)) fun w485 h486 =>
    if (w485 : Int32) = w480 then
    if (w480 : Int32) = 0 then
    (zaJ h486 u3 (0)).bind fun w489 =>
    if ((lg_cmp w489 (w483 : Int32).toInt64) : Int32) = 0 then
    fL_law_L23 G k u1 u2 u3 n h486 ((v4 + 4))
    else
    some (0, h486)
    else
    fL_law_L23 G k u1 u2 u3 n h486 ((v4 + 4))
    else
    some (0, h486)
    else
    fL_law_L23 G k u1 u2 u3 n h ((v4 + 4))
def fL_law (G : zG) (h : zH) : Option (Int32 × zH) :=
    (zmk h 7 0).bind fun h1 =>
    (fX6_init h1 ((zn h))).bind fun h2 =>
    (zmk h2 8 0).bind fun h3 =>
    (fX7_init h3 ((zn h2))).bind fun h4 =>
    (zmk h4 10 1).bind fun h5 =>
    fL_law_L23 G (fun h6 y7 =>
    some (1, h6)) ((zn h)) ((zn h2)) ((zn h4)) 514 h5 (0)
set_option maxRecDepth 100000 in
set_option maxHeartbeats 8000000 in
theorem fL_law_L23_ok {G : zG} {x : zX} (B : zB G x cL_law 7 RL (zt x).name room_1 (some .boolean)) (hst : (zl x).stackTraces = false) (hB : (zs x).heap.size ≤ zgB G) (ha : za x = #[Value.ref (zgb G)]) {r : Int32 × zH} (hr1 : r.1 = 1) {k : zH → Int32 → Option (Int32 × zH)} {u1 : Nat} {u2 : Nat} {u3 : Nat} (hk : ∀ h v4, k h v4 = some r → zV G x 7 (lw_Z (zb x) (za x) (zs x)) h 2506 25404 2234 [(0, .ref (zgb G)), (1, .ref u1), (2, .ref u2), (3, .ref u3), (4, .int v4)] []) : ∀ (n : Nat) (h : zH) v4 (cs ss : Nat), cs + n * 3 ≤ 2506 → ss + n * 18 ≤ 25404 → fL_law_L23 G k u1 u2 u3 n h v4 = some r → zV G x 7 (lw_Z (zb x) (za x) (zs x)) h cs ss 23 [(0, .ref (zgb G)), (1, .ref u1), (2, .ref u2), (3, .ref u3), (4, .int v4)] [] := by
  intro n
  induction n with
  | zero =>
    intro h v4 cs ss hc1 hs1 hf
    have hf : (none : Option (Int32 × zH)) = some r := hf
    cases hf
  | succ n ih =>
    intro h v4 cs ss hc1 hs1 hf
    rw [fL_law_L23] at hf
    refine z_iload B dL_law_23 4 rfl ?_
    refine z_aload_n B dL_law_25 rfl 0 rfl ?_
    refine z_slen B dL_law_26 ?_
    refine z_iconst (v := 4) B dL_law_27 (by decide) ?_
    refine z_isub B dL_law_28 ?_
    rcases zite hf with ⟨c1, hf⟩ | ⟨c1, hf⟩
    · refine z_icmp_gt B 2234 dL_law_29 (by decide) (fun _ => ?_) (fun e => absurd c1 e)
      refine zV.wid (show cs ≤ 2506 by omega) (show ss ≤ 25404 by omega) ?_
      exact hk _ _ hf
    refine z_icmp_gt B 2234 dL_law_29 (by decide) (fun e => absurd e c1) (fun _ => ?_)
    refine z_aload_n B dL_law_32 rfl 0 rfl ?_
    refine z_iload B dL_law_33 4 rfl ?_
    obtain ⟨w2, ew2, hf⟩ := zbs hf
    refine z_sc B ew2 dL_law_35 ?_
    refine z_bipush (v := 63) B dL_law_36 (by decide) ?_
    refine z_iand B dL_law_38 ?_
    rcases zite hf with ⟨c3, hf⟩ | ⟨c3, hf⟩
    · refine z_tabIn B 0 188 dL_law_39 c3 (by decide) (by decide) rfl (by decide) ?_
      refine z_aload_n B dL_law_188 rfl 1 rfl ?_
      refine z_aload_n B dL_law_189 rfl 0 rfl ?_
      refine z_iload B dL_law_190 4 rfl ?_
      refine z_iconst (v := 1) B dL_law_192 (by decide) ?_
      refine z_iadd B dL_law_193 ?_
      obtain ⟨w4, ew4, hf⟩ := zbs hf
      refine z_sc B ew4 dL_law_194 ?_
      refine z_aload_n B dL_law_195 rfl 3 rfl ?_
      obtain ⟨w5, h6, ew5, hf⟩ := zb2s hf
      refine z_callSW B [.ref u1, .int w4, .ref u3] [] cw_L_append mt_RL_116 (tL_append hst ew5) ⟨rfl, rfl, (Nat.le_of_ble_eq_true rfl), (Nat.le_of_ble_eq_true rfl), (show cs + 1 ≤ 601024 by omega), (show ss + 6 ≤ 7293034 by omega)⟩ rfl rfl (Nat.le_of_ble_eq_true rfl) dL_law_196 ?_
      refine z_istore (lv' := [(5, .int w5), (0, .ref (zgb G)), (1, .ref u1), (2, .ref u2), (3, .ref u3), (4, .int v4)]) B dL_law_199 (by decide) rfl ?_
      refine z_aload_n B dL_law_201 rfl 3 rfl ?_
      refine z_aload_n B dL_law_202 rfl 1 rfl ?_
      refine z_iload B dL_law_203 5 rfl ?_
      refine z_iconst (v := 1) B dL_law_205 (by decide) ?_
      refine z_iadd B dL_law_206 ?_
      obtain ⟨w7, ew7, hf⟩ := zbs hf
      refine z_sc B ew7 dL_law_207 ?_
      obtain ⟨w8, h9, ew8, hf⟩ := zb2s hf
      refine z_callVi B [.int w7] [] cw_X7_append mv_RL_121 (tX7_append hst ew8) rfl (by decide) (kfX7_append ew8) ⟨rfl, rfl, (Nat.le_of_ble_eq_true rfl), (Nat.le_of_ble_eq_true rfl), (show cs + 1 ≤ 601024 by omega), (show ss + 6 ≤ 7293034 by omega)⟩ rfl rfl (Nat.le_of_ble_eq_true rfl) dL_law_208 ?_
      refine z_istore (lv' := [(6, .int w8), (5, .int w5), (0, .ref (zgb G)), (1, .ref u1), (2, .ref u2), (3, .ref u3), (4, .int v4)]) B dL_law_211 (by decide) rfl ?_
      refine z_aload_n B dL_law_213 rfl 4 rfl ?_
      obtain ⟨w10, h11, ew10, hf⟩ := zb2s hf
      refine z_callVi B [] [] cw_X7_thrown mv_RL_122 (tX7_thrown hst ew10) rfl (by decide) (kfX7_thrown ew10) ⟨rfl, rfl, (Nat.le_of_ble_eq_true rfl), (Nat.le_of_ble_eq_true rfl), (show cs + 1 ≤ 601024 by omega), (show ss + 6 ≤ 7293034 by omega)⟩ rfl rfl (Nat.le_of_ble_eq_true rfl) dL_law_214 ?_
      refine z_iload B dL_law_217 1 rfl ?_
      rcases zite hf with ⟨c12, hf⟩ | ⟨c12, hf⟩
      · refine z_icmp_eq B 224 dL_law_219 (by decide) (fun _ => ?_) (fun e => absurd c12 e)
        refine z_iload B dL_law_224 1 rfl ?_
        rcases zite hf with ⟨c13, hf⟩ | ⟨c13, hf⟩
        · refine z_if_ne B 241 dL_law_226 (by decide) (fun e => absurd c13 e) (fun _ => ?_)
          refine z_aload_n B dL_law_229 rfl 5 rfl ?_
          refine z_iconst (v := 0) B dL_law_230 (by decide) ?_
          obtain ⟨w14, ew14, hf⟩ := zbs hf
          refine z_aJ B ew14 dL_law_231 ?_
          refine z_iload B dL_law_232 0 rfl ?_
          refine z_i2l B dL_law_234 ?_
          refine z_lcmp B dL_law_235 ?_
          rcases zite hf with ⟨c15, hf⟩ | ⟨c15, hf⟩
          · refine z_if_eq B 241 dL_law_236 (by decide) (fun _ => ?_) (fun e => absurd c15 e)
            refine z_goto B 2228 dL_law_241 (by decide) ?_
            refine z_iinc (v' := (v4 + 4)) (lv' := [(4, .int (v4 + 4)), (6, .int w8), (5, .int w5), (0, .ref (zgb G)), (1, .ref u1), (2, .ref u2), (3, .ref u3)]) B dL_law_2228 6 rfl rfl (by decide) rfl ?_
            refine z_goto B 23 dL_law_2231 (by decide) ?_
            refine zV.sub [3, 4, 5, 6, 0] rfl ?_
            exact ih _ _ _ _ (show cs + 1 + n * 3 ≤ 2506 by omega) (show ss + 6 + n * 18 ≤ 25404 by omega) hf
          refine z_if_eq B 241 dL_law_236 (by decide) (fun e => absurd e c15) (fun _ => ?_)
          refine z_iconst (v := 0) B dL_law_239 (by decide) ?_
          exact absurd hf (zfalse hr1)
        refine z_if_ne B 241 dL_law_226 (by decide) (fun _ => ?_) (fun e => absurd e c13)
        refine z_goto B 2228 dL_law_241 (by decide) ?_
        refine z_iinc (v' := (v4 + 4)) (lv' := [(4, .int (v4 + 4)), (6, .int w8), (5, .int w5), (0, .ref (zgb G)), (1, .ref u1), (2, .ref u2), (3, .ref u3)]) B dL_law_2228 6 rfl rfl (by decide) rfl ?_
        refine z_goto B 23 dL_law_2231 (by decide) ?_
        refine zV.sub [3, 4, 5, 6, 0] rfl ?_
        exact ih _ _ _ _ (show cs + 1 + n * 3 ≤ 2506 by omega) (show ss + 6 + n * 18 ≤ 25404 by omega) hf
      refine z_icmp_eq B 224 dL_law_219 (by decide) (fun e => absurd e c12) (fun _ => ?_)
      refine z_iconst (v := 0) B dL_law_222 (by decide) ?_
      exact absurd hf (zfalse hr1)
    rcases zite hf with ⟨c16, hf⟩ | ⟨c16, hf⟩
    · refine z_tabIn B 1 244 dL_law_39 c16 (by decide) (by decide) rfl (by decide) ?_
      refine z_aload_n B dL_law_244 rfl 1 rfl ?_
      obtain ⟨w17, h18, ew17, hf⟩ := zb2s hf
      refine z_callVi B [] [] cw_X6_clearText mv_RL_125 (tX6_clearText hst ew17) rfl (by decide) (kfX6_clearText ew17) ⟨rfl, rfl, (Nat.le_of_ble_eq_true rfl), (Nat.le_of_ble_eq_true rfl), (show cs ≤ 601024 by omega), (show ss ≤ 7293034 by omega)⟩ rfl rfl (Nat.le_of_ble_eq_true rfl) dL_law_245 ?_
      refine z_aload_n B dL_law_248 rfl 2 rfl ?_
      obtain ⟨w19, h20, ew19, hf⟩ := zb2s hf
      refine z_callVi B [] [.int w17] cw_X7_clearText mv_RL_128 (tX7_clearText hst ew19) rfl (by decide) (kfX7_clearText ew19) ⟨rfl, rfl, (Nat.le_of_ble_eq_true rfl), (Nat.le_of_ble_eq_true rfl), (show cs ≤ 601024 by omega), (show ss ≤ 7293034 by omega)⟩ rfl rfl (Nat.le_of_ble_eq_true rfl) dL_law_249 ?_
      rcases zite hf with ⟨c21, hf⟩ | ⟨c21, hf⟩
      · refine z_icmp_eq B 2228 dL_law_252 (by decide) (fun _ => ?_) (fun e => absurd c21 e)
        refine z_iinc (v' := (v4 + 4)) (lv' := [(4, .int (v4 + 4)), (0, .ref (zgb G)), (1, .ref u1), (2, .ref u2), (3, .ref u3)]) B dL_law_2228 4 rfl rfl (by decide) rfl ?_
        refine z_goto B 23 dL_law_2231 (by decide) ?_
        refine zV.sub [1, 2, 3, 4, 0] rfl ?_
        exact ih _ _ _ _ (show cs + n * 3 ≤ 2506 by omega) (show ss + n * 18 ≤ 25404 by omega) hf
      refine z_icmp_eq B 2228 dL_law_252 (by decide) (fun e => absurd e c21) (fun _ => ?_)
      refine z_iconst (v := 0) B dL_law_255 (by decide) ?_
      exact absurd hf (zfalse hr1)
    rcases zite hf with ⟨c22, hf⟩ | ⟨c22, hf⟩
    · refine z_tabIn B 2 257 dL_law_39 c22 (by decide) (by decide) rfl (by decide) ?_
      refine z_aload_n B dL_law_257 rfl 1 rfl ?_
      obtain ⟨w23, h24, ew23, hf⟩ := zb2s hf
      refine z_callVi B [] [] cw_X6_errorPosition mv_RL_129 (tX6_errorPosition hst ew23) rfl (by decide) (kfX6_errorPosition ew23) ⟨rfl, rfl, (Nat.le_of_ble_eq_true rfl), (Nat.le_of_ble_eq_true rfl), (show cs ≤ 601024 by omega), (show ss ≤ 7293034 by omega)⟩ rfl rfl (Nat.le_of_ble_eq_true rfl) dL_law_258 ?_
      refine z_aload_n B dL_law_261 rfl 2 rfl ?_
      obtain ⟨w25, h26, ew25, hf⟩ := zb2s hf
      refine z_callVi B [] [.int w23] cw_X7_errorPosition mv_RL_132 (tX7_errorPosition hst ew25) rfl (by decide) (kfX7_errorPosition ew25) ⟨rfl, rfl, (Nat.le_of_ble_eq_true rfl), (Nat.le_of_ble_eq_true rfl), (show cs ≤ 601024 by omega), (show ss ≤ 7293034 by omega)⟩ rfl rfl (Nat.le_of_ble_eq_true rfl) dL_law_262 ?_
      rcases zite hf with ⟨c27, hf⟩ | ⟨c27, hf⟩
      · refine z_icmp_eq B 2228 dL_law_265 (by decide) (fun _ => ?_) (fun e => absurd c27 e)
        refine z_iinc (v' := (v4 + 4)) (lv' := [(4, .int (v4 + 4)), (0, .ref (zgb G)), (1, .ref u1), (2, .ref u2), (3, .ref u3)]) B dL_law_2228 4 rfl rfl (by decide) rfl ?_
        refine z_goto B 23 dL_law_2231 (by decide) ?_
        refine zV.sub [1, 2, 3, 4, 0] rfl ?_
        exact ih _ _ _ _ (show cs + n * 3 ≤ 2506 by omega) (show ss + n * 18 ≤ 25404 by omega) hf
      refine z_icmp_eq B 2228 dL_law_265 (by decide) (fun e => absurd e c27) (fun _ => ?_)
      refine z_iconst (v := 0) B dL_law_268 (by decide) ?_
      exact absurd hf (zfalse hr1)
    rcases zite hf with ⟨c28, hf⟩ | ⟨c28, hf⟩
    · refine z_tabIn B 3 270 dL_law_39 c28 (by decide) (by decide) rfl (by decide) ?_
      refine z_aload_n B dL_law_270 rfl 1 rfl ?_
      refine z_aload_n B dL_law_271 rfl 3 rfl ?_
      obtain ⟨w29, h30, ew29, hf⟩ := zb2s hf
      refine z_callSW B [.ref u1, .ref u3] [] cw_L_load mt_RL_133 (tL_load hst ew29) ⟨rfl, rfl, (Nat.le_of_ble_eq_true rfl), (Nat.le_of_ble_eq_true rfl), (show cs + 1 ≤ 601024 by omega), (show ss + 6 ≤ 7293034 by omega)⟩ rfl rfl (Nat.le_of_ble_eq_true rfl) dL_law_272 ?_
      refine z_istore (lv' := [(5, .int w29), (0, .ref (zgb G)), (1, .ref u1), (2, .ref u2), (3, .ref u3), (4, .int v4)]) B dL_law_275 (by decide) rfl ?_
      refine z_aload_n B dL_law_277 rfl 3 rfl ?_
      obtain ⟨w31, h32, ew31, hf⟩ := zb2s hf
      refine z_callVi B [] [] cw_X7_load mv_RL_136 (tX7_load hst ew31) rfl (by decide) (kfX7_load ew31) ⟨rfl, rfl, (Nat.le_of_ble_eq_true rfl), (Nat.le_of_ble_eq_true rfl), (show cs + 1 ≤ 601024 by omega), (show ss + 6 ≤ 7293034 by omega)⟩ rfl rfl (Nat.le_of_ble_eq_true rfl) dL_law_278 ?_
      refine z_istore (lv' := [(6, .int w31), (5, .int w29), (0, .ref (zgb G)), (1, .ref u1), (2, .ref u2), (3, .ref u3), (4, .int v4)]) B dL_law_281 (by decide) rfl ?_
      refine z_aload_n B dL_law_283 rfl 4 rfl ?_
      obtain ⟨w33, h34, ew33, hf⟩ := zb2s hf
      refine z_callVi B [] [] cw_X7_thrown mv_RL_122 (tX7_thrown hst ew33) rfl (by decide) (kfX7_thrown ew33) ⟨rfl, rfl, (Nat.le_of_ble_eq_true rfl), (Nat.le_of_ble_eq_true rfl), (show cs + 1 ≤ 601024 by omega), (show ss + 6 ≤ 7293034 by omega)⟩ rfl rfl (Nat.le_of_ble_eq_true rfl) dL_law_284 ?_
      refine z_iload B dL_law_287 1 rfl ?_
      rcases zite hf with ⟨c35, hf⟩ | ⟨c35, hf⟩
      · refine z_icmp_eq B 294 dL_law_289 (by decide) (fun _ => ?_) (fun e => absurd c35 e)
        refine z_iload B dL_law_294 1 rfl ?_
        rcases zite hf with ⟨c36, hf⟩ | ⟨c36, hf⟩
        · refine z_if_ne B 311 dL_law_296 (by decide) (fun e => absurd c36 e) (fun _ => ?_)
          refine z_aload_n B dL_law_299 rfl 5 rfl ?_
          refine z_iconst (v := 0) B dL_law_300 (by decide) ?_
          obtain ⟨w37, ew37, hf⟩ := zbs hf
          refine z_aJ B ew37 dL_law_301 ?_
          refine z_iload B dL_law_302 0 rfl ?_
          refine z_i2l B dL_law_304 ?_
          refine z_lcmp B dL_law_305 ?_
          rcases zite hf with ⟨c38, hf⟩ | ⟨c38, hf⟩
          · refine z_if_eq B 311 dL_law_306 (by decide) (fun _ => ?_) (fun e => absurd c38 e)
            refine z_goto B 2228 dL_law_311 (by decide) ?_
            refine z_iinc (v' := (v4 + 4)) (lv' := [(4, .int (v4 + 4)), (6, .int w31), (5, .int w29), (0, .ref (zgb G)), (1, .ref u1), (2, .ref u2), (3, .ref u3)]) B dL_law_2228 6 rfl rfl (by decide) rfl ?_
            refine z_goto B 23 dL_law_2231 (by decide) ?_
            refine zV.sub [3, 4, 5, 6, 0] rfl ?_
            exact ih _ _ _ _ (show cs + 1 + n * 3 ≤ 2506 by omega) (show ss + 6 + n * 18 ≤ 25404 by omega) hf
          refine z_if_eq B 311 dL_law_306 (by decide) (fun e => absurd e c38) (fun _ => ?_)
          refine z_iconst (v := 0) B dL_law_309 (by decide) ?_
          exact absurd hf (zfalse hr1)
        refine z_if_ne B 311 dL_law_296 (by decide) (fun _ => ?_) (fun e => absurd e c36)
        refine z_goto B 2228 dL_law_311 (by decide) ?_
        refine z_iinc (v' := (v4 + 4)) (lv' := [(4, .int (v4 + 4)), (6, .int w31), (5, .int w29), (0, .ref (zgb G)), (1, .ref u1), (2, .ref u2), (3, .ref u3)]) B dL_law_2228 6 rfl rfl (by decide) rfl ?_
        refine z_goto B 23 dL_law_2231 (by decide) ?_
        refine zV.sub [3, 4, 5, 6, 0] rfl ?_
        exact ih _ _ _ _ (show cs + 1 + n * 3 ≤ 2506 by omega) (show ss + 6 + n * 18 ≤ 25404 by omega) hf
      refine z_icmp_eq B 294 dL_law_289 (by decide) (fun e => absurd e c35) (fun _ => ?_)
      refine z_iconst (v := 0) B dL_law_292 (by decide) ?_
      exact absurd hf (zfalse hr1)
    rcases zite hf with ⟨c39, hf⟩ | ⟨c39, hf⟩
    · refine z_tabIn B 4 314 dL_law_39 c39 (by decide) (by decide) rfl (by decide) ?_
      refine z_aload_n B dL_law_314 rfl 1 rfl ?_
      refine z_aload_n B dL_law_315 rfl 0 rfl ?_
      refine z_iload B dL_law_316 4 rfl ?_
      refine z_iconst (v := 1) B dL_law_318 (by decide) ?_
      refine z_iadd B dL_law_319 ?_
      obtain ⟨w40, ew40, hf⟩ := zbs hf
      refine z_sc B ew40 dL_law_320 ?_
      refine z_aload_n B dL_law_321 rfl 3 rfl ?_
      obtain ⟨w41, h42, ew41, hf⟩ := zb2s hf
      refine z_callSW B [.ref u1, .int w40, .ref u3] [] cw_L_about mt_RL_137 (tL_about hst ew41) ⟨rfl, rfl, (Nat.le_of_ble_eq_true rfl), (Nat.le_of_ble_eq_true rfl), (show cs + 1 ≤ 601024 by omega), (show ss + 6 ≤ 7293034 by omega)⟩ rfl rfl (Nat.le_of_ble_eq_true rfl) dL_law_322 ?_
      refine z_istore (lv' := [(5, .int w41), (0, .ref (zgb G)), (1, .ref u1), (2, .ref u2), (3, .ref u3), (4, .int v4)]) B dL_law_325 (by decide) rfl ?_
      refine z_aload_n B dL_law_327 rfl 3 rfl ?_
      refine z_aload_n B dL_law_328 rfl 1 rfl ?_
      refine z_iload B dL_law_329 5 rfl ?_
      refine z_iconst (v := 1) B dL_law_331 (by decide) ?_
      refine z_iadd B dL_law_332 ?_
      obtain ⟨w43, ew43, hf⟩ := zbs hf
      refine z_sc B ew43 dL_law_333 ?_
      obtain ⟨w44, h45, ew44, hf⟩ := zb2s hf
      refine z_callVi B [.int w43] [] cw_X7_about mv_RL_139 (tX7_about hst ew44) rfl (by decide) (kfX7_about ew44) ⟨rfl, rfl, (Nat.le_of_ble_eq_true rfl), (Nat.le_of_ble_eq_true rfl), (show cs + 1 ≤ 601024 by omega), (show ss + 6 ≤ 7293034 by omega)⟩ rfl rfl (Nat.le_of_ble_eq_true rfl) dL_law_334 ?_
      refine z_istore (lv' := [(6, .int w44), (5, .int w41), (0, .ref (zgb G)), (1, .ref u1), (2, .ref u2), (3, .ref u3), (4, .int v4)]) B dL_law_337 (by decide) rfl ?_
      refine z_aload_n B dL_law_339 rfl 4 rfl ?_
      obtain ⟨w46, h47, ew46, hf⟩ := zb2s hf
      refine z_callVi B [] [] cw_X7_thrown mv_RL_122 (tX7_thrown hst ew46) rfl (by decide) (kfX7_thrown ew46) ⟨rfl, rfl, (Nat.le_of_ble_eq_true rfl), (Nat.le_of_ble_eq_true rfl), (show cs + 1 ≤ 601024 by omega), (show ss + 6 ≤ 7293034 by omega)⟩ rfl rfl (Nat.le_of_ble_eq_true rfl) dL_law_340 ?_
      refine z_iload B dL_law_343 1 rfl ?_
      rcases zite hf with ⟨c48, hf⟩ | ⟨c48, hf⟩
      · refine z_icmp_eq B 350 dL_law_345 (by decide) (fun _ => ?_) (fun e => absurd c48 e)
        refine z_iload B dL_law_350 1 rfl ?_
        rcases zite hf with ⟨c49, hf⟩ | ⟨c49, hf⟩
        · refine z_if_ne B 367 dL_law_352 (by decide) (fun e => absurd c49 e) (fun _ => ?_)
          refine z_aload_n B dL_law_355 rfl 5 rfl ?_
          refine z_iconst (v := 0) B dL_law_356 (by decide) ?_
          obtain ⟨w50, ew50, hf⟩ := zbs hf
          refine z_aJ B ew50 dL_law_357 ?_
          refine z_iload B dL_law_358 0 rfl ?_
          refine z_i2l B dL_law_360 ?_
          refine z_lcmp B dL_law_361 ?_
          rcases zite hf with ⟨c51, hf⟩ | ⟨c51, hf⟩
          · refine z_if_eq B 367 dL_law_362 (by decide) (fun _ => ?_) (fun e => absurd c51 e)
            refine z_goto B 2228 dL_law_367 (by decide) ?_
            refine z_iinc (v' := (v4 + 4)) (lv' := [(4, .int (v4 + 4)), (6, .int w44), (5, .int w41), (0, .ref (zgb G)), (1, .ref u1), (2, .ref u2), (3, .ref u3)]) B dL_law_2228 6 rfl rfl (by decide) rfl ?_
            refine z_goto B 23 dL_law_2231 (by decide) ?_
            refine zV.sub [3, 4, 5, 6, 0] rfl ?_
            exact ih _ _ _ _ (show cs + 1 + n * 3 ≤ 2506 by omega) (show ss + 6 + n * 18 ≤ 25404 by omega) hf
          refine z_if_eq B 367 dL_law_362 (by decide) (fun e => absurd e c51) (fun _ => ?_)
          refine z_iconst (v := 0) B dL_law_365 (by decide) ?_
          exact absurd hf (zfalse hr1)
        refine z_if_ne B 367 dL_law_352 (by decide) (fun _ => ?_) (fun e => absurd e c49)
        refine z_goto B 2228 dL_law_367 (by decide) ?_
        refine z_iinc (v' := (v4 + 4)) (lv' := [(4, .int (v4 + 4)), (6, .int w44), (5, .int w41), (0, .ref (zgb G)), (1, .ref u1), (2, .ref u2), (3, .ref u3)]) B dL_law_2228 6 rfl rfl (by decide) rfl ?_
        refine z_goto B 23 dL_law_2231 (by decide) ?_
        refine zV.sub [3, 4, 5, 6, 0] rfl ?_
        exact ih _ _ _ _ (show cs + 1 + n * 3 ≤ 2506 by omega) (show ss + 6 + n * 18 ≤ 25404 by omega) hf
      refine z_icmp_eq B 350 dL_law_345 (by decide) (fun e => absurd e c48) (fun _ => ?_)
      refine z_iconst (v := 0) B dL_law_348 (by decide) ?_
      exact absurd hf (zfalse hr1)
    rcases zite hf with ⟨c52, hf⟩ | ⟨c52, hf⟩
    · refine z_tabIn B 5 370 dL_law_39 c52 (by decide) (by decide) rfl (by decide) ?_
      refine z_aload_n B dL_law_370 rfl 1 rfl ?_
      refine z_aload_n B dL_law_371 rfl 0 rfl ?_
      refine z_iload B dL_law_372 4 rfl ?_
      refine z_iconst (v := 1) B dL_law_374 (by decide) ?_
      refine z_iadd B dL_law_375 ?_
      obtain ⟨w53, ew53, hf⟩ := zbs hf
      refine z_sc B ew53 dL_law_376 ?_
      refine z_aload_n B dL_law_377 rfl 0 rfl ?_
      refine z_iload B dL_law_378 4 rfl ?_
      refine z_iconst (v := 2) B dL_law_380 (by decide) ?_
      refine z_iadd B dL_law_381 ?_
      obtain ⟨w54, ew54, hf⟩ := zbs hf
      refine z_sc B ew54 dL_law_382 ?_
      refine z_aload_n B dL_law_383 rfl 3 rfl ?_
      obtain ⟨w55, h56, ew55, hf⟩ := zb2s hf
      refine z_callSW B [.ref u1, .int w53, .int w54, .ref u3] [] cw_L_conversion mt_RL_140 (tL_conversion hst ew55) ⟨rfl, rfl, (Nat.le_of_ble_eq_true rfl), (Nat.le_of_ble_eq_true rfl), (show cs + 2 ≤ 601024 by omega), (show ss + 12 ≤ 7293034 by omega)⟩ rfl rfl (Nat.le_of_ble_eq_true rfl) dL_law_384 ?_
      refine z_istore (lv' := [(5, .int w55), (0, .ref (zgb G)), (1, .ref u1), (2, .ref u2), (3, .ref u3), (4, .int v4)]) B dL_law_387 (by decide) rfl ?_
      refine z_aload_n B dL_law_389 rfl 3 rfl ?_
      refine z_aload_n B dL_law_390 rfl 1 rfl ?_
      refine z_iload B dL_law_391 5 rfl ?_
      refine z_iconst (v := 1) B dL_law_393 (by decide) ?_
      refine z_iadd B dL_law_394 ?_
      obtain ⟨w57, ew57, hf⟩ := zbs hf
      refine z_sc B ew57 dL_law_395 ?_
      refine z_aload_n B dL_law_396 rfl 1 rfl ?_
      refine z_iload B dL_law_397 5 rfl ?_
      refine z_iconst (v := 2) B dL_law_399 (by decide) ?_
      refine z_iadd B dL_law_400 ?_
      obtain ⟨w58, ew58, hf⟩ := zbs hf
      refine z_sc B ew58 dL_law_401 ?_
      obtain ⟨w59, h60, ew59, hf⟩ := zb2s hf
      refine z_callVi B [.int w57, .int w58] [] cw_X7_conversion mv_RL_143 (tX7_conversion hst ew59) rfl (by decide) (kfX7_conversion ew59) ⟨rfl, rfl, (Nat.le_of_ble_eq_true rfl), (Nat.le_of_ble_eq_true rfl), (show cs + 2 ≤ 601024 by omega), (show ss + 12 ≤ 7293034 by omega)⟩ rfl rfl (Nat.le_of_ble_eq_true rfl) dL_law_402 ?_
      refine z_istore (lv' := [(6, .int w59), (5, .int w55), (0, .ref (zgb G)), (1, .ref u1), (2, .ref u2), (3, .ref u3), (4, .int v4)]) B dL_law_405 (by decide) rfl ?_
      refine z_aload_n B dL_law_407 rfl 4 rfl ?_
      obtain ⟨w61, h62, ew61, hf⟩ := zb2s hf
      refine z_callVi B [] [] cw_X7_thrown mv_RL_122 (tX7_thrown hst ew61) rfl (by decide) (kfX7_thrown ew61) ⟨rfl, rfl, (Nat.le_of_ble_eq_true rfl), (Nat.le_of_ble_eq_true rfl), (show cs + 2 ≤ 601024 by omega), (show ss + 12 ≤ 7293034 by omega)⟩ rfl rfl (Nat.le_of_ble_eq_true rfl) dL_law_408 ?_
      refine z_iload B dL_law_411 1 rfl ?_
      rcases zite hf with ⟨c63, hf⟩ | ⟨c63, hf⟩
      · refine z_icmp_eq B 418 dL_law_413 (by decide) (fun _ => ?_) (fun e => absurd c63 e)
        refine z_iload B dL_law_418 1 rfl ?_
        rcases zite hf with ⟨c64, hf⟩ | ⟨c64, hf⟩
        · refine z_if_ne B 435 dL_law_420 (by decide) (fun e => absurd c64 e) (fun _ => ?_)
          refine z_aload_n B dL_law_423 rfl 5 rfl ?_
          refine z_iconst (v := 0) B dL_law_424 (by decide) ?_
          obtain ⟨w65, ew65, hf⟩ := zbs hf
          refine z_aJ B ew65 dL_law_425 ?_
          refine z_iload B dL_law_426 0 rfl ?_
          refine z_i2l B dL_law_428 ?_
          refine z_lcmp B dL_law_429 ?_
          rcases zite hf with ⟨c66, hf⟩ | ⟨c66, hf⟩
          · refine z_if_eq B 435 dL_law_430 (by decide) (fun _ => ?_) (fun e => absurd c66 e)
            refine z_goto B 2228 dL_law_435 (by decide) ?_
            refine z_iinc (v' := (v4 + 4)) (lv' := [(4, .int (v4 + 4)), (6, .int w59), (5, .int w55), (0, .ref (zgb G)), (1, .ref u1), (2, .ref u2), (3, .ref u3)]) B dL_law_2228 6 rfl rfl (by decide) rfl ?_
            refine z_goto B 23 dL_law_2231 (by decide) ?_
            refine zV.sub [3, 4, 5, 6, 0] rfl ?_
            exact ih _ _ _ _ (show cs + 2 + n * 3 ≤ 2506 by omega) (show ss + 12 + n * 18 ≤ 25404 by omega) hf
          refine z_if_eq B 435 dL_law_430 (by decide) (fun e => absurd e c66) (fun _ => ?_)
          refine z_iconst (v := 0) B dL_law_433 (by decide) ?_
          exact absurd hf (zfalse hr1)
        refine z_if_ne B 435 dL_law_420 (by decide) (fun _ => ?_) (fun e => absurd e c64)
        refine z_goto B 2228 dL_law_435 (by decide) ?_
        refine z_iinc (v' := (v4 + 4)) (lv' := [(4, .int (v4 + 4)), (6, .int w59), (5, .int w55), (0, .ref (zgb G)), (1, .ref u1), (2, .ref u2), (3, .ref u3)]) B dL_law_2228 6 rfl rfl (by decide) rfl ?_
        refine z_goto B 23 dL_law_2231 (by decide) ?_
        refine zV.sub [3, 4, 5, 6, 0] rfl ?_
        exact ih _ _ _ _ (show cs + 2 + n * 3 ≤ 2506 by omega) (show ss + 12 + n * 18 ≤ 25404 by omega) hf
      refine z_icmp_eq B 418 dL_law_413 (by decide) (fun e => absurd e c63) (fun _ => ?_)
      refine z_iconst (v := 0) B dL_law_416 (by decide) ?_
      exact absurd hf (zfalse hr1)
    rcases zite hf with ⟨c67, hf⟩ | ⟨c67, hf⟩
    · refine z_tabIn B 6 438 dL_law_39 c67 (by decide) (by decide) rfl (by decide) ?_
      refine z_aload_n B dL_law_438 rfl 1 rfl ?_
      refine z_aload_n B dL_law_439 rfl 0 rfl ?_
      refine z_iload B dL_law_440 4 rfl ?_
      refine z_iconst (v := 1) B dL_law_442 (by decide) ?_
      refine z_iadd B dL_law_443 ?_
      obtain ⟨w68, ew68, hf⟩ := zbs hf
      refine z_sc B ew68 dL_law_444 ?_
      refine z_aload_n B dL_law_445 rfl 0 rfl ?_
      refine z_iload B dL_law_446 4 rfl ?_
      refine z_iconst (v := 2) B dL_law_448 (by decide) ?_
      refine z_iadd B dL_law_449 ?_
      obtain ⟨w69, ew69, hf⟩ := zbs hf
      refine z_sc B ew69 dL_law_450 ?_
      refine z_aload_n B dL_law_451 rfl 3 rfl ?_
      obtain ⟨w70, h71, ew70, hf⟩ := zb2s hf
      refine z_callSW B [.ref u1, .int w68, .int w69, .ref u3] [] cw_L_place mt_RL_144 (tL_place hst ew70) ⟨rfl, rfl, (Nat.le_of_ble_eq_true rfl), (Nat.le_of_ble_eq_true rfl), (show cs + 2 ≤ 601024 by omega), (show ss + 12 ≤ 7293034 by omega)⟩ rfl rfl (Nat.le_of_ble_eq_true rfl) dL_law_452 ?_
      refine z_istore (lv' := [(5, .int w70), (0, .ref (zgb G)), (1, .ref u1), (2, .ref u2), (3, .ref u3), (4, .int v4)]) B dL_law_455 (by decide) rfl ?_
      refine z_aload_n B dL_law_457 rfl 3 rfl ?_
      refine z_aload_n B dL_law_458 rfl 1 rfl ?_
      refine z_iload B dL_law_459 5 rfl ?_
      refine z_iconst (v := 1) B dL_law_461 (by decide) ?_
      refine z_iadd B dL_law_462 ?_
      obtain ⟨w72, ew72, hf⟩ := zbs hf
      refine z_sc B ew72 dL_law_463 ?_
      refine z_aload_n B dL_law_464 rfl 1 rfl ?_
      refine z_iload B dL_law_465 5 rfl ?_
      refine z_iconst (v := 2) B dL_law_467 (by decide) ?_
      refine z_iadd B dL_law_468 ?_
      obtain ⟨w73, ew73, hf⟩ := zbs hf
      refine z_sc B ew73 dL_law_469 ?_
      obtain ⟨w74, h75, ew74, hf⟩ := zb2s hf
      refine z_callVi B [.int w72, .int w73] [] cw_X7_place mv_RL_146 (tX7_place hst ew74) rfl (by decide) (kfX7_place ew74) ⟨rfl, rfl, (Nat.le_of_ble_eq_true rfl), (Nat.le_of_ble_eq_true rfl), (show cs + 2 ≤ 601024 by omega), (show ss + 12 ≤ 7293034 by omega)⟩ rfl rfl (Nat.le_of_ble_eq_true rfl) dL_law_470 ?_
      refine z_istore (lv' := [(6, .int w74), (5, .int w70), (0, .ref (zgb G)), (1, .ref u1), (2, .ref u2), (3, .ref u3), (4, .int v4)]) B dL_law_473 (by decide) rfl ?_
      refine z_aload_n B dL_law_475 rfl 4 rfl ?_
      obtain ⟨w76, h77, ew76, hf⟩ := zb2s hf
      refine z_callVi B [] [] cw_X7_thrown mv_RL_122 (tX7_thrown hst ew76) rfl (by decide) (kfX7_thrown ew76) ⟨rfl, rfl, (Nat.le_of_ble_eq_true rfl), (Nat.le_of_ble_eq_true rfl), (show cs + 2 ≤ 601024 by omega), (show ss + 12 ≤ 7293034 by omega)⟩ rfl rfl (Nat.le_of_ble_eq_true rfl) dL_law_476 ?_
      refine z_iload B dL_law_479 1 rfl ?_
      rcases zite hf with ⟨c78, hf⟩ | ⟨c78, hf⟩
      · refine z_icmp_eq B 486 dL_law_481 (by decide) (fun _ => ?_) (fun e => absurd c78 e)
        refine z_iload B dL_law_486 1 rfl ?_
        rcases zite hf with ⟨c79, hf⟩ | ⟨c79, hf⟩
        · refine z_if_ne B 503 dL_law_488 (by decide) (fun e => absurd c79 e) (fun _ => ?_)
          refine z_aload_n B dL_law_491 rfl 5 rfl ?_
          refine z_iconst (v := 0) B dL_law_492 (by decide) ?_
          obtain ⟨w80, ew80, hf⟩ := zbs hf
          refine z_aJ B ew80 dL_law_493 ?_
          refine z_iload B dL_law_494 0 rfl ?_
          refine z_i2l B dL_law_496 ?_
          refine z_lcmp B dL_law_497 ?_
          rcases zite hf with ⟨c81, hf⟩ | ⟨c81, hf⟩
          · refine z_if_eq B 503 dL_law_498 (by decide) (fun _ => ?_) (fun e => absurd c81 e)
            refine z_goto B 2228 dL_law_503 (by decide) ?_
            refine z_iinc (v' := (v4 + 4)) (lv' := [(4, .int (v4 + 4)), (6, .int w74), (5, .int w70), (0, .ref (zgb G)), (1, .ref u1), (2, .ref u2), (3, .ref u3)]) B dL_law_2228 6 rfl rfl (by decide) rfl ?_
            refine z_goto B 23 dL_law_2231 (by decide) ?_
            refine zV.sub [3, 4, 5, 6, 0] rfl ?_
            exact ih _ _ _ _ (show cs + 2 + n * 3 ≤ 2506 by omega) (show ss + 12 + n * 18 ≤ 25404 by omega) hf
          refine z_if_eq B 503 dL_law_498 (by decide) (fun e => absurd e c81) (fun _ => ?_)
          refine z_iconst (v := 0) B dL_law_501 (by decide) ?_
          exact absurd hf (zfalse hr1)
        refine z_if_ne B 503 dL_law_488 (by decide) (fun _ => ?_) (fun e => absurd e c79)
        refine z_goto B 2228 dL_law_503 (by decide) ?_
        refine z_iinc (v' := (v4 + 4)) (lv' := [(4, .int (v4 + 4)), (6, .int w74), (5, .int w70), (0, .ref (zgb G)), (1, .ref u1), (2, .ref u2), (3, .ref u3)]) B dL_law_2228 6 rfl rfl (by decide) rfl ?_
        refine z_goto B 23 dL_law_2231 (by decide) ?_
        refine zV.sub [3, 4, 5, 6, 0] rfl ?_
        exact ih _ _ _ _ (show cs + 2 + n * 3 ≤ 2506 by omega) (show ss + 12 + n * 18 ≤ 25404 by omega) hf
      refine z_icmp_eq B 486 dL_law_481 (by decide) (fun e => absurd e c78) (fun _ => ?_)
      refine z_iconst (v := 0) B dL_law_484 (by decide) ?_
      exact absurd hf (zfalse hr1)
    rcases zite hf with ⟨c82, hf⟩ | ⟨c82, hf⟩
    · refine z_tabIn B 7 506 dL_law_39 c82 (by decide) (by decide) rfl (by decide) ?_
      refine z_aload_n B dL_law_506 rfl 1 rfl ?_
      refine z_aload_n B dL_law_507 rfl 0 rfl ?_
      refine z_iload B dL_law_508 4 rfl ?_
      refine z_iconst (v := 1) B dL_law_510 (by decide) ?_
      refine z_iadd B dL_law_511 ?_
      obtain ⟨w83, ew83, hf⟩ := zbs hf
      refine z_sc B ew83 dL_law_512 ?_
      refine z_aload_n B dL_law_513 rfl 0 rfl ?_
      refine z_iload B dL_law_514 4 rfl ?_
      refine z_iconst (v := 2) B dL_law_516 (by decide) ?_
      refine z_iadd B dL_law_517 ?_
      obtain ⟨w84, ew84, hf⟩ := zbs hf
      refine z_sc B ew84 dL_law_518 ?_
      refine z_aload_n B dL_law_519 rfl 3 rfl ?_
      obtain ⟨w85, h86, ew85, hf⟩ := zb2s hf
      refine z_callSW B [.ref u1, .int w83, .int w84, .ref u3] [] cw_L_entry mt_RL_147 (tL_entry hst ew85) ⟨rfl, rfl, (Nat.le_of_ble_eq_true rfl), (Nat.le_of_ble_eq_true rfl), (show cs + 2 ≤ 601024 by omega), (show ss + 12 ≤ 7293034 by omega)⟩ rfl rfl (Nat.le_of_ble_eq_true rfl) dL_law_520 ?_
      refine z_istore (lv' := [(5, .int w85), (0, .ref (zgb G)), (1, .ref u1), (2, .ref u2), (3, .ref u3), (4, .int v4)]) B dL_law_523 (by decide) rfl ?_
      refine z_aload_n B dL_law_525 rfl 3 rfl ?_
      refine z_aload_n B dL_law_526 rfl 1 rfl ?_
      refine z_iload B dL_law_527 5 rfl ?_
      refine z_iconst (v := 1) B dL_law_529 (by decide) ?_
      refine z_iadd B dL_law_530 ?_
      obtain ⟨w87, ew87, hf⟩ := zbs hf
      refine z_sc B ew87 dL_law_531 ?_
      refine z_aload_n B dL_law_532 rfl 1 rfl ?_
      refine z_iload B dL_law_533 5 rfl ?_
      refine z_iconst (v := 2) B dL_law_535 (by decide) ?_
      refine z_iadd B dL_law_536 ?_
      obtain ⟨w88, ew88, hf⟩ := zbs hf
      refine z_sc B ew88 dL_law_537 ?_
      obtain ⟨w89, h90, ew89, hf⟩ := zb2s hf
      refine z_callVi B [.int w87, .int w88] [] cw_X7_entry mv_RL_149 (tX7_entry hst ew89) rfl (by decide) (kfX7_entry ew89) ⟨rfl, rfl, (Nat.le_of_ble_eq_true rfl), (Nat.le_of_ble_eq_true rfl), (show cs + 2 ≤ 601024 by omega), (show ss + 12 ≤ 7293034 by omega)⟩ rfl rfl (Nat.le_of_ble_eq_true rfl) dL_law_538 ?_
      refine z_istore (lv' := [(6, .int w89), (5, .int w85), (0, .ref (zgb G)), (1, .ref u1), (2, .ref u2), (3, .ref u3), (4, .int v4)]) B dL_law_541 (by decide) rfl ?_
      refine z_aload_n B dL_law_543 rfl 4 rfl ?_
      obtain ⟨w91, h92, ew91, hf⟩ := zb2s hf
      refine z_callVi B [] [] cw_X7_thrown mv_RL_122 (tX7_thrown hst ew91) rfl (by decide) (kfX7_thrown ew91) ⟨rfl, rfl, (Nat.le_of_ble_eq_true rfl), (Nat.le_of_ble_eq_true rfl), (show cs + 2 ≤ 601024 by omega), (show ss + 12 ≤ 7293034 by omega)⟩ rfl rfl (Nat.le_of_ble_eq_true rfl) dL_law_544 ?_
      refine z_iload B dL_law_547 1 rfl ?_
      rcases zite hf with ⟨c93, hf⟩ | ⟨c93, hf⟩
      · refine z_icmp_eq B 554 dL_law_549 (by decide) (fun _ => ?_) (fun e => absurd c93 e)
        refine z_iload B dL_law_554 1 rfl ?_
        rcases zite hf with ⟨c94, hf⟩ | ⟨c94, hf⟩
        · refine z_if_ne B 571 dL_law_556 (by decide) (fun e => absurd c94 e) (fun _ => ?_)
          refine z_aload_n B dL_law_559 rfl 5 rfl ?_
          refine z_iconst (v := 0) B dL_law_560 (by decide) ?_
          obtain ⟨w95, ew95, hf⟩ := zbs hf
          refine z_aJ B ew95 dL_law_561 ?_
          refine z_iload B dL_law_562 0 rfl ?_
          refine z_i2l B dL_law_564 ?_
          refine z_lcmp B dL_law_565 ?_
          rcases zite hf with ⟨c96, hf⟩ | ⟨c96, hf⟩
          · refine z_if_eq B 571 dL_law_566 (by decide) (fun _ => ?_) (fun e => absurd c96 e)
            refine z_goto B 2228 dL_law_571 (by decide) ?_
            refine z_iinc (v' := (v4 + 4)) (lv' := [(4, .int (v4 + 4)), (6, .int w89), (5, .int w85), (0, .ref (zgb G)), (1, .ref u1), (2, .ref u2), (3, .ref u3)]) B dL_law_2228 6 rfl rfl (by decide) rfl ?_
            refine z_goto B 23 dL_law_2231 (by decide) ?_
            refine zV.sub [3, 4, 5, 6, 0] rfl ?_
            exact ih _ _ _ _ (show cs + 2 + n * 3 ≤ 2506 by omega) (show ss + 12 + n * 18 ≤ 25404 by omega) hf
          refine z_if_eq B 571 dL_law_566 (by decide) (fun e => absurd e c96) (fun _ => ?_)
          refine z_iconst (v := 0) B dL_law_569 (by decide) ?_
          exact absurd hf (zfalse hr1)
        refine z_if_ne B 571 dL_law_556 (by decide) (fun _ => ?_) (fun e => absurd e c94)
        refine z_goto B 2228 dL_law_571 (by decide) ?_
        refine z_iinc (v' := (v4 + 4)) (lv' := [(4, .int (v4 + 4)), (6, .int w89), (5, .int w85), (0, .ref (zgb G)), (1, .ref u1), (2, .ref u2), (3, .ref u3)]) B dL_law_2228 6 rfl rfl (by decide) rfl ?_
        refine z_goto B 23 dL_law_2231 (by decide) ?_
        refine zV.sub [3, 4, 5, 6, 0] rfl ?_
        exact ih _ _ _ _ (show cs + 2 + n * 3 ≤ 2506 by omega) (show ss + 12 + n * 18 ≤ 25404 by omega) hf
      refine z_icmp_eq B 554 dL_law_549 (by decide) (fun e => absurd e c93) (fun _ => ?_)
      refine z_iconst (v := 0) B dL_law_552 (by decide) ?_
      exact absurd hf (zfalse hr1)
    rcases zite hf with ⟨c97, hf⟩ | ⟨c97, hf⟩
    · refine z_tabIn B 8 574 dL_law_39 c97 (by decide) (by decide) rfl (by decide) ?_
      refine z_aload_n B dL_law_574 rfl 1 rfl ?_
      refine z_aload_n B dL_law_575 rfl 0 rfl ?_
      refine z_iload B dL_law_576 4 rfl ?_
      refine z_iconst (v := 1) B dL_law_578 (by decide) ?_
      refine z_iadd B dL_law_579 ?_
      obtain ⟨w98, ew98, hf⟩ := zbs hf
      refine z_sc B ew98 dL_law_580 ?_
      refine z_aload_n B dL_law_581 rfl 0 rfl ?_
      refine z_iload B dL_law_582 4 rfl ?_
      refine z_iconst (v := 2) B dL_law_584 (by decide) ?_
      refine z_iadd B dL_law_585 ?_
      obtain ⟨w99, ew99, hf⟩ := zbs hf
      refine z_sc B ew99 dL_law_586 ?_
      refine z_aload_n B dL_law_587 rfl 0 rfl ?_
      refine z_iload B dL_law_588 4 rfl ?_
      refine z_iconst (v := 3) B dL_law_590 (by decide) ?_
      refine z_iadd B dL_law_591 ?_
      obtain ⟨w100, ew100, hf⟩ := zbs hf
      refine z_sc B ew100 dL_law_592 ?_
      rcases zite hf with ⟨c101, hf⟩ | ⟨c101, hf⟩
      · refine z_if_eq B 600 dL_law_593 (by decide) (fun _ => ?_) (fun e => absurd c101 e)
        refine z_iconst (v := 0) B dL_law_600 (by decide) ?_
        refine z_aload_n B dL_law_601 rfl 3 rfl ?_
        obtain ⟨w102, h103, ew102, hf⟩ := zb2s hf
        refine z_callSW B [.ref u1, .int w98, .int w99, .int 0, .ref u3] [] cw_L_form mt_RL_150 (tL_form hst ew102) ⟨rfl, rfl, (Nat.le_of_ble_eq_true rfl), (Nat.le_of_ble_eq_true rfl), (show cs + 2 ≤ 601024 by omega), (show ss + 12 ≤ 7293034 by omega)⟩ rfl rfl (Nat.le_of_ble_eq_true rfl) dL_law_602 ?_
        refine z_istore (lv' := [(5, .int w102), (0, .ref (zgb G)), (1, .ref u1), (2, .ref u2), (3, .ref u3), (4, .int v4)]) B dL_law_605 (by decide) rfl ?_
        refine z_aload_n B dL_law_607 rfl 3 rfl ?_
        refine z_aload_n B dL_law_608 rfl 1 rfl ?_
        refine z_iload B dL_law_609 5 rfl ?_
        refine z_iconst (v := 1) B dL_law_611 (by decide) ?_
        refine z_iadd B dL_law_612 ?_
        obtain ⟨w104, ew104, hf⟩ := zbs hf
        refine z_sc B ew104 dL_law_613 ?_
        refine z_aload_n B dL_law_614 rfl 1 rfl ?_
        refine z_iload B dL_law_615 5 rfl ?_
        refine z_iconst (v := 2) B dL_law_617 (by decide) ?_
        refine z_iadd B dL_law_618 ?_
        obtain ⟨w105, ew105, hf⟩ := zbs hf
        refine z_sc B ew105 dL_law_619 ?_
        refine z_aload_n B dL_law_620 rfl 1 rfl ?_
        refine z_iload B dL_law_621 5 rfl ?_
        refine z_iconst (v := 3) B dL_law_623 (by decide) ?_
        refine z_iadd B dL_law_624 ?_
        obtain ⟨w106, ew106, hf⟩ := zbs hf
        refine z_sc B ew106 dL_law_625 ?_
        rcases zite hf with ⟨c107, hf⟩ | ⟨c107, hf⟩
        · refine z_if_eq B 633 dL_law_626 (by decide) (fun _ => ?_) (fun e => absurd c107 e)
          refine z_iconst (v := 0) B dL_law_633 (by decide) ?_
          obtain ⟨w108, h109, ew108, hf⟩ := zb2s hf
          refine z_callVi B [.int w104, .int w105, .int 0] [] cw_X7_form mv_RL_153 (tX7_form hst ew108) rfl (by decide) (kfX7_form ew108) ⟨rfl, rfl, (Nat.le_of_ble_eq_true rfl), (Nat.le_of_ble_eq_true rfl), (show cs + 2 ≤ 601024 by omega), (show ss + 12 ≤ 7293034 by omega)⟩ rfl rfl (Nat.le_of_ble_eq_true rfl) dL_law_634 ?_
          refine z_istore (lv' := [(6, .int w108), (5, .int w102), (0, .ref (zgb G)), (1, .ref u1), (2, .ref u2), (3, .ref u3), (4, .int v4)]) B dL_law_637 (by decide) rfl ?_
          refine z_aload_n B dL_law_639 rfl 4 rfl ?_
          obtain ⟨w110, h111, ew110, hf⟩ := zb2s hf
          refine z_callVi B [] [] cw_X7_thrown mv_RL_122 (tX7_thrown hst ew110) rfl (by decide) (kfX7_thrown ew110) ⟨rfl, rfl, (Nat.le_of_ble_eq_true rfl), (Nat.le_of_ble_eq_true rfl), (show cs + 2 ≤ 601024 by omega), (show ss + 12 ≤ 7293034 by omega)⟩ rfl rfl (Nat.le_of_ble_eq_true rfl) dL_law_640 ?_
          refine z_iload B dL_law_643 1 rfl ?_
          rcases zite hf with ⟨c112, hf⟩ | ⟨c112, hf⟩
          · refine z_icmp_eq B 650 dL_law_645 (by decide) (fun _ => ?_) (fun e => absurd c112 e)
            refine z_iload B dL_law_650 1 rfl ?_
            rcases zite hf with ⟨c113, hf⟩ | ⟨c113, hf⟩
            · refine z_if_ne B 667 dL_law_652 (by decide) (fun e => absurd c113 e) (fun _ => ?_)
              refine z_aload_n B dL_law_655 rfl 5 rfl ?_
              refine z_iconst (v := 0) B dL_law_656 (by decide) ?_
              obtain ⟨w114, ew114, hf⟩ := zbs hf
              refine z_aJ B ew114 dL_law_657 ?_
              refine z_iload B dL_law_658 0 rfl ?_
              refine z_i2l B dL_law_660 ?_
              refine z_lcmp B dL_law_661 ?_
              rcases zite hf with ⟨c115, hf⟩ | ⟨c115, hf⟩
              · refine z_if_eq B 667 dL_law_662 (by decide) (fun _ => ?_) (fun e => absurd c115 e)
                refine z_goto B 2228 dL_law_667 (by decide) ?_
                refine z_iinc (v' := (v4 + 4)) (lv' := [(4, .int (v4 + 4)), (6, .int w108), (5, .int w102), (0, .ref (zgb G)), (1, .ref u1), (2, .ref u2), (3, .ref u3)]) B dL_law_2228 6 rfl rfl (by decide) rfl ?_
                refine z_goto B 23 dL_law_2231 (by decide) ?_
                refine zV.sub [3, 4, 5, 6, 0] rfl ?_
                exact ih _ _ _ _ (show cs + 2 + n * 3 ≤ 2506 by omega) (show ss + 12 + n * 18 ≤ 25404 by omega) hf
              refine z_if_eq B 667 dL_law_662 (by decide) (fun e => absurd e c115) (fun _ => ?_)
              refine z_iconst (v := 0) B dL_law_665 (by decide) ?_
              exact absurd hf (zfalse hr1)
            refine z_if_ne B 667 dL_law_652 (by decide) (fun _ => ?_) (fun e => absurd e c113)
            refine z_goto B 2228 dL_law_667 (by decide) ?_
            refine z_iinc (v' := (v4 + 4)) (lv' := [(4, .int (v4 + 4)), (6, .int w108), (5, .int w102), (0, .ref (zgb G)), (1, .ref u1), (2, .ref u2), (3, .ref u3)]) B dL_law_2228 6 rfl rfl (by decide) rfl ?_
            refine z_goto B 23 dL_law_2231 (by decide) ?_
            refine zV.sub [3, 4, 5, 6, 0] rfl ?_
            exact ih _ _ _ _ (show cs + 2 + n * 3 ≤ 2506 by omega) (show ss + 12 + n * 18 ≤ 25404 by omega) hf
          refine z_icmp_eq B 650 dL_law_645 (by decide) (fun e => absurd e c112) (fun _ => ?_)
          refine z_iconst (v := 0) B dL_law_648 (by decide) ?_
          exact absurd hf (zfalse hr1)
        refine z_if_eq B 633 dL_law_626 (by decide) (fun e => absurd e c107) (fun _ => ?_)
        refine z_iconst (v := 1) B dL_law_629 (by decide) ?_
        refine z_goto B 634 dL_law_630 (by decide) ?_
        obtain ⟨w116, h117, ew116, hf⟩ := zb2s hf
        refine z_callVi B [.int w104, .int w105, .int 1] [] cw_X7_form mv_RL_153 (tX7_form hst ew116) rfl (by decide) (kfX7_form ew116) ⟨rfl, rfl, (Nat.le_of_ble_eq_true rfl), (Nat.le_of_ble_eq_true rfl), (show cs + 2 ≤ 601024 by omega), (show ss + 12 ≤ 7293034 by omega)⟩ rfl rfl (Nat.le_of_ble_eq_true rfl) dL_law_634 ?_
        refine z_istore (lv' := [(6, .int w116), (5, .int w102), (0, .ref (zgb G)), (1, .ref u1), (2, .ref u2), (3, .ref u3), (4, .int v4)]) B dL_law_637 (by decide) rfl ?_
        refine z_aload_n B dL_law_639 rfl 4 rfl ?_
        obtain ⟨w118, h119, ew118, hf⟩ := zb2s hf
        refine z_callVi B [] [] cw_X7_thrown mv_RL_122 (tX7_thrown hst ew118) rfl (by decide) (kfX7_thrown ew118) ⟨rfl, rfl, (Nat.le_of_ble_eq_true rfl), (Nat.le_of_ble_eq_true rfl), (show cs + 2 ≤ 601024 by omega), (show ss + 12 ≤ 7293034 by omega)⟩ rfl rfl (Nat.le_of_ble_eq_true rfl) dL_law_640 ?_
        refine z_iload B dL_law_643 1 rfl ?_
        rcases zite hf with ⟨c120, hf⟩ | ⟨c120, hf⟩
        · refine z_icmp_eq B 650 dL_law_645 (by decide) (fun _ => ?_) (fun e => absurd c120 e)
          refine z_iload B dL_law_650 1 rfl ?_
          rcases zite hf with ⟨c121, hf⟩ | ⟨c121, hf⟩
          · refine z_if_ne B 667 dL_law_652 (by decide) (fun e => absurd c121 e) (fun _ => ?_)
            refine z_aload_n B dL_law_655 rfl 5 rfl ?_
            refine z_iconst (v := 0) B dL_law_656 (by decide) ?_
            obtain ⟨w122, ew122, hf⟩ := zbs hf
            refine z_aJ B ew122 dL_law_657 ?_
            refine z_iload B dL_law_658 0 rfl ?_
            refine z_i2l B dL_law_660 ?_
            refine z_lcmp B dL_law_661 ?_
            rcases zite hf with ⟨c123, hf⟩ | ⟨c123, hf⟩
            · refine z_if_eq B 667 dL_law_662 (by decide) (fun _ => ?_) (fun e => absurd c123 e)
              refine z_goto B 2228 dL_law_667 (by decide) ?_
              refine z_iinc (v' := (v4 + 4)) (lv' := [(4, .int (v4 + 4)), (6, .int w116), (5, .int w102), (0, .ref (zgb G)), (1, .ref u1), (2, .ref u2), (3, .ref u3)]) B dL_law_2228 6 rfl rfl (by decide) rfl ?_
              refine z_goto B 23 dL_law_2231 (by decide) ?_
              refine zV.sub [3, 4, 5, 6, 0] rfl ?_
              exact ih _ _ _ _ (show cs + 2 + n * 3 ≤ 2506 by omega) (show ss + 12 + n * 18 ≤ 25404 by omega) hf
            refine z_if_eq B 667 dL_law_662 (by decide) (fun e => absurd e c123) (fun _ => ?_)
            refine z_iconst (v := 0) B dL_law_665 (by decide) ?_
            exact absurd hf (zfalse hr1)
          refine z_if_ne B 667 dL_law_652 (by decide) (fun _ => ?_) (fun e => absurd e c121)
          refine z_goto B 2228 dL_law_667 (by decide) ?_
          refine z_iinc (v' := (v4 + 4)) (lv' := [(4, .int (v4 + 4)), (6, .int w116), (5, .int w102), (0, .ref (zgb G)), (1, .ref u1), (2, .ref u2), (3, .ref u3)]) B dL_law_2228 6 rfl rfl (by decide) rfl ?_
          refine z_goto B 23 dL_law_2231 (by decide) ?_
          refine zV.sub [3, 4, 5, 6, 0] rfl ?_
          exact ih _ _ _ _ (show cs + 2 + n * 3 ≤ 2506 by omega) (show ss + 12 + n * 18 ≤ 25404 by omega) hf
        refine z_icmp_eq B 650 dL_law_645 (by decide) (fun e => absurd e c120) (fun _ => ?_)
        refine z_iconst (v := 0) B dL_law_648 (by decide) ?_
        exact absurd hf (zfalse hr1)
      refine z_if_eq B 600 dL_law_593 (by decide) (fun e => absurd e c101) (fun _ => ?_)
      refine z_iconst (v := 1) B dL_law_596 (by decide) ?_
      refine z_goto B 601 dL_law_597 (by decide) ?_
      refine z_aload_n B dL_law_601 rfl 3 rfl ?_
      obtain ⟨w124, h125, ew124, hf⟩ := zb2s hf
      refine z_callSW B [.ref u1, .int w98, .int w99, .int 1, .ref u3] [] cw_L_form mt_RL_150 (tL_form hst ew124) ⟨rfl, rfl, (Nat.le_of_ble_eq_true rfl), (Nat.le_of_ble_eq_true rfl), (show cs + 2 ≤ 601024 by omega), (show ss + 12 ≤ 7293034 by omega)⟩ rfl rfl (Nat.le_of_ble_eq_true rfl) dL_law_602 ?_
      refine z_istore (lv' := [(5, .int w124), (0, .ref (zgb G)), (1, .ref u1), (2, .ref u2), (3, .ref u3), (4, .int v4)]) B dL_law_605 (by decide) rfl ?_
      refine z_aload_n B dL_law_607 rfl 3 rfl ?_
      refine z_aload_n B dL_law_608 rfl 1 rfl ?_
      refine z_iload B dL_law_609 5 rfl ?_
      refine z_iconst (v := 1) B dL_law_611 (by decide) ?_
      refine z_iadd B dL_law_612 ?_
      obtain ⟨w126, ew126, hf⟩ := zbs hf
      refine z_sc B ew126 dL_law_613 ?_
      refine z_aload_n B dL_law_614 rfl 1 rfl ?_
      refine z_iload B dL_law_615 5 rfl ?_
      refine z_iconst (v := 2) B dL_law_617 (by decide) ?_
      refine z_iadd B dL_law_618 ?_
      obtain ⟨w127, ew127, hf⟩ := zbs hf
      refine z_sc B ew127 dL_law_619 ?_
      refine z_aload_n B dL_law_620 rfl 1 rfl ?_
      refine z_iload B dL_law_621 5 rfl ?_
      refine z_iconst (v := 3) B dL_law_623 (by decide) ?_
      refine z_iadd B dL_law_624 ?_
      obtain ⟨w128, ew128, hf⟩ := zbs hf
      refine z_sc B ew128 dL_law_625 ?_
      rcases zite hf with ⟨c129, hf⟩ | ⟨c129, hf⟩
      · refine z_if_eq B 633 dL_law_626 (by decide) (fun _ => ?_) (fun e => absurd c129 e)
        refine z_iconst (v := 0) B dL_law_633 (by decide) ?_
        obtain ⟨w130, h131, ew130, hf⟩ := zb2s hf
        refine z_callVi B [.int w126, .int w127, .int 0] [] cw_X7_form mv_RL_153 (tX7_form hst ew130) rfl (by decide) (kfX7_form ew130) ⟨rfl, rfl, (Nat.le_of_ble_eq_true rfl), (Nat.le_of_ble_eq_true rfl), (show cs + 2 ≤ 601024 by omega), (show ss + 12 ≤ 7293034 by omega)⟩ rfl rfl (Nat.le_of_ble_eq_true rfl) dL_law_634 ?_
        refine z_istore (lv' := [(6, .int w130), (5, .int w124), (0, .ref (zgb G)), (1, .ref u1), (2, .ref u2), (3, .ref u3), (4, .int v4)]) B dL_law_637 (by decide) rfl ?_
        refine z_aload_n B dL_law_639 rfl 4 rfl ?_
        obtain ⟨w132, h133, ew132, hf⟩ := zb2s hf
        refine z_callVi B [] [] cw_X7_thrown mv_RL_122 (tX7_thrown hst ew132) rfl (by decide) (kfX7_thrown ew132) ⟨rfl, rfl, (Nat.le_of_ble_eq_true rfl), (Nat.le_of_ble_eq_true rfl), (show cs + 2 ≤ 601024 by omega), (show ss + 12 ≤ 7293034 by omega)⟩ rfl rfl (Nat.le_of_ble_eq_true rfl) dL_law_640 ?_
        refine z_iload B dL_law_643 1 rfl ?_
        rcases zite hf with ⟨c134, hf⟩ | ⟨c134, hf⟩
        · refine z_icmp_eq B 650 dL_law_645 (by decide) (fun _ => ?_) (fun e => absurd c134 e)
          refine z_iload B dL_law_650 1 rfl ?_
          rcases zite hf with ⟨c135, hf⟩ | ⟨c135, hf⟩
          · refine z_if_ne B 667 dL_law_652 (by decide) (fun e => absurd c135 e) (fun _ => ?_)
            refine z_aload_n B dL_law_655 rfl 5 rfl ?_
            refine z_iconst (v := 0) B dL_law_656 (by decide) ?_
            obtain ⟨w136, ew136, hf⟩ := zbs hf
            refine z_aJ B ew136 dL_law_657 ?_
            refine z_iload B dL_law_658 0 rfl ?_
            refine z_i2l B dL_law_660 ?_
            refine z_lcmp B dL_law_661 ?_
            rcases zite hf with ⟨c137, hf⟩ | ⟨c137, hf⟩
            · refine z_if_eq B 667 dL_law_662 (by decide) (fun _ => ?_) (fun e => absurd c137 e)
              refine z_goto B 2228 dL_law_667 (by decide) ?_
              refine z_iinc (v' := (v4 + 4)) (lv' := [(4, .int (v4 + 4)), (6, .int w130), (5, .int w124), (0, .ref (zgb G)), (1, .ref u1), (2, .ref u2), (3, .ref u3)]) B dL_law_2228 6 rfl rfl (by decide) rfl ?_
              refine z_goto B 23 dL_law_2231 (by decide) ?_
              refine zV.sub [3, 4, 5, 6, 0] rfl ?_
              exact ih _ _ _ _ (show cs + 2 + n * 3 ≤ 2506 by omega) (show ss + 12 + n * 18 ≤ 25404 by omega) hf
            refine z_if_eq B 667 dL_law_662 (by decide) (fun e => absurd e c137) (fun _ => ?_)
            refine z_iconst (v := 0) B dL_law_665 (by decide) ?_
            exact absurd hf (zfalse hr1)
          refine z_if_ne B 667 dL_law_652 (by decide) (fun _ => ?_) (fun e => absurd e c135)
          refine z_goto B 2228 dL_law_667 (by decide) ?_
          refine z_iinc (v' := (v4 + 4)) (lv' := [(4, .int (v4 + 4)), (6, .int w130), (5, .int w124), (0, .ref (zgb G)), (1, .ref u1), (2, .ref u2), (3, .ref u3)]) B dL_law_2228 6 rfl rfl (by decide) rfl ?_
          refine z_goto B 23 dL_law_2231 (by decide) ?_
          refine zV.sub [3, 4, 5, 6, 0] rfl ?_
          exact ih _ _ _ _ (show cs + 2 + n * 3 ≤ 2506 by omega) (show ss + 12 + n * 18 ≤ 25404 by omega) hf
        refine z_icmp_eq B 650 dL_law_645 (by decide) (fun e => absurd e c134) (fun _ => ?_)
        refine z_iconst (v := 0) B dL_law_648 (by decide) ?_
        exact absurd hf (zfalse hr1)
      refine z_if_eq B 633 dL_law_626 (by decide) (fun e => absurd e c129) (fun _ => ?_)
      refine z_iconst (v := 1) B dL_law_629 (by decide) ?_
      refine z_goto B 634 dL_law_630 (by decide) ?_
      obtain ⟨w138, h139, ew138, hf⟩ := zb2s hf
      refine z_callVi B [.int w126, .int w127, .int 1] [] cw_X7_form mv_RL_153 (tX7_form hst ew138) rfl (by decide) (kfX7_form ew138) ⟨rfl, rfl, (Nat.le_of_ble_eq_true rfl), (Nat.le_of_ble_eq_true rfl), (show cs + 2 ≤ 601024 by omega), (show ss + 12 ≤ 7293034 by omega)⟩ rfl rfl (Nat.le_of_ble_eq_true rfl) dL_law_634 ?_
      refine z_istore (lv' := [(6, .int w138), (5, .int w124), (0, .ref (zgb G)), (1, .ref u1), (2, .ref u2), (3, .ref u3), (4, .int v4)]) B dL_law_637 (by decide) rfl ?_
      refine z_aload_n B dL_law_639 rfl 4 rfl ?_
      obtain ⟨w140, h141, ew140, hf⟩ := zb2s hf
      refine z_callVi B [] [] cw_X7_thrown mv_RL_122 (tX7_thrown hst ew140) rfl (by decide) (kfX7_thrown ew140) ⟨rfl, rfl, (Nat.le_of_ble_eq_true rfl), (Nat.le_of_ble_eq_true rfl), (show cs + 2 ≤ 601024 by omega), (show ss + 12 ≤ 7293034 by omega)⟩ rfl rfl (Nat.le_of_ble_eq_true rfl) dL_law_640 ?_
      refine z_iload B dL_law_643 1 rfl ?_
      rcases zite hf with ⟨c142, hf⟩ | ⟨c142, hf⟩
      · refine z_icmp_eq B 650 dL_law_645 (by decide) (fun _ => ?_) (fun e => absurd c142 e)
        refine z_iload B dL_law_650 1 rfl ?_
        rcases zite hf with ⟨c143, hf⟩ | ⟨c143, hf⟩
        · refine z_if_ne B 667 dL_law_652 (by decide) (fun e => absurd c143 e) (fun _ => ?_)
          refine z_aload_n B dL_law_655 rfl 5 rfl ?_
          refine z_iconst (v := 0) B dL_law_656 (by decide) ?_
          obtain ⟨w144, ew144, hf⟩ := zbs hf
          refine z_aJ B ew144 dL_law_657 ?_
          refine z_iload B dL_law_658 0 rfl ?_
          refine z_i2l B dL_law_660 ?_
          refine z_lcmp B dL_law_661 ?_
          rcases zite hf with ⟨c145, hf⟩ | ⟨c145, hf⟩
          · refine z_if_eq B 667 dL_law_662 (by decide) (fun _ => ?_) (fun e => absurd c145 e)
            refine z_goto B 2228 dL_law_667 (by decide) ?_
            refine z_iinc (v' := (v4 + 4)) (lv' := [(4, .int (v4 + 4)), (6, .int w138), (5, .int w124), (0, .ref (zgb G)), (1, .ref u1), (2, .ref u2), (3, .ref u3)]) B dL_law_2228 6 rfl rfl (by decide) rfl ?_
            refine z_goto B 23 dL_law_2231 (by decide) ?_
            refine zV.sub [3, 4, 5, 6, 0] rfl ?_
            exact ih _ _ _ _ (show cs + 2 + n * 3 ≤ 2506 by omega) (show ss + 12 + n * 18 ≤ 25404 by omega) hf
          refine z_if_eq B 667 dL_law_662 (by decide) (fun e => absurd e c145) (fun _ => ?_)
          refine z_iconst (v := 0) B dL_law_665 (by decide) ?_
          exact absurd hf (zfalse hr1)
        refine z_if_ne B 667 dL_law_652 (by decide) (fun _ => ?_) (fun e => absurd e c143)
        refine z_goto B 2228 dL_law_667 (by decide) ?_
        refine z_iinc (v' := (v4 + 4)) (lv' := [(4, .int (v4 + 4)), (6, .int w138), (5, .int w124), (0, .ref (zgb G)), (1, .ref u1), (2, .ref u2), (3, .ref u3)]) B dL_law_2228 6 rfl rfl (by decide) rfl ?_
        refine z_goto B 23 dL_law_2231 (by decide) ?_
        refine zV.sub [3, 4, 5, 6, 0] rfl ?_
        exact ih _ _ _ _ (show cs + 2 + n * 3 ≤ 2506 by omega) (show ss + 12 + n * 18 ≤ 25404 by omega) hf
      refine z_icmp_eq B 650 dL_law_645 (by decide) (fun e => absurd e c142) (fun _ => ?_)
      refine z_iconst (v := 0) B dL_law_648 (by decide) ?_
      exact absurd hf (zfalse hr1)
    rcases zite hf with ⟨c146, hf⟩ | ⟨c146, hf⟩
    · refine z_tabIn B 9 670 dL_law_39 c146 (by decide) (by decide) rfl (by decide) ?_
      refine z_aload_n B dL_law_670 rfl 1 rfl ?_
      refine z_aload_n B dL_law_671 rfl 0 rfl ?_
      refine z_iload B dL_law_672 4 rfl ?_
      refine z_iconst (v := 1) B dL_law_674 (by decide) ?_
      refine z_iadd B dL_law_675 ?_
      obtain ⟨w147, ew147, hf⟩ := zbs hf
      refine z_sc B ew147 dL_law_676 ?_
      refine z_aload_n B dL_law_677 rfl 0 rfl ?_
      refine z_iload B dL_law_678 4 rfl ?_
      refine z_iconst (v := 2) B dL_law_680 (by decide) ?_
      refine z_iadd B dL_law_681 ?_
      obtain ⟨w148, ew148, hf⟩ := zbs hf
      refine z_sc B ew148 dL_law_682 ?_
      refine z_aload_n B dL_law_683 rfl 3 rfl ?_
      obtain ⟨w149, h150, ew149, hf⟩ := zb2s hf
      refine z_callSW B [.ref u1, .int w147, .int w148, .ref u3] [] cw_L_copy mt_RL_154 (tL_copy hst ew149) ⟨rfl, rfl, (Nat.le_of_ble_eq_true rfl), (Nat.le_of_ble_eq_true rfl), (show cs + 3 ≤ 601024 by omega), (show ss + 18 ≤ 7293034 by omega)⟩ rfl rfl (Nat.le_of_ble_eq_true rfl) dL_law_684 ?_
      refine z_istore (lv' := [(5, .int w149), (0, .ref (zgb G)), (1, .ref u1), (2, .ref u2), (3, .ref u3), (4, .int v4)]) B dL_law_687 (by decide) rfl ?_
      refine z_aload_n B dL_law_689 rfl 3 rfl ?_
      refine z_aload_n B dL_law_690 rfl 1 rfl ?_
      refine z_iload B dL_law_691 5 rfl ?_
      refine z_iconst (v := 1) B dL_law_693 (by decide) ?_
      refine z_iadd B dL_law_694 ?_
      obtain ⟨w151, ew151, hf⟩ := zbs hf
      refine z_sc B ew151 dL_law_695 ?_
      refine z_aload_n B dL_law_696 rfl 1 rfl ?_
      refine z_iload B dL_law_697 5 rfl ?_
      refine z_iconst (v := 2) B dL_law_699 (by decide) ?_
      refine z_iadd B dL_law_700 ?_
      obtain ⟨w152, ew152, hf⟩ := zbs hf
      refine z_sc B ew152 dL_law_701 ?_
      obtain ⟨w153, h154, ew153, hf⟩ := zb2s hf
      refine z_callVi B [.int w151, .int w152] [] cw_X7_copy mv_RL_156 (tX7_copy hst ew153) rfl (by decide) (kfX7_copy ew153) ⟨rfl, rfl, (Nat.le_of_ble_eq_true rfl), (Nat.le_of_ble_eq_true rfl), (show cs + 3 ≤ 601024 by omega), (show ss + 18 ≤ 7293034 by omega)⟩ rfl rfl (Nat.le_of_ble_eq_true rfl) dL_law_702 ?_
      refine z_istore (lv' := [(6, .int w153), (5, .int w149), (0, .ref (zgb G)), (1, .ref u1), (2, .ref u2), (3, .ref u3), (4, .int v4)]) B dL_law_705 (by decide) rfl ?_
      refine z_aload_n B dL_law_707 rfl 4 rfl ?_
      obtain ⟨w155, h156, ew155, hf⟩ := zb2s hf
      refine z_callVi B [] [] cw_X7_thrown mv_RL_122 (tX7_thrown hst ew155) rfl (by decide) (kfX7_thrown ew155) ⟨rfl, rfl, (Nat.le_of_ble_eq_true rfl), (Nat.le_of_ble_eq_true rfl), (show cs + 3 ≤ 601024 by omega), (show ss + 18 ≤ 7293034 by omega)⟩ rfl rfl (Nat.le_of_ble_eq_true rfl) dL_law_708 ?_
      refine z_iload B dL_law_711 1 rfl ?_
      rcases zite hf with ⟨c157, hf⟩ | ⟨c157, hf⟩
      · refine z_icmp_eq B 718 dL_law_713 (by decide) (fun _ => ?_) (fun e => absurd c157 e)
        refine z_iload B dL_law_718 1 rfl ?_
        rcases zite hf with ⟨c158, hf⟩ | ⟨c158, hf⟩
        · refine z_if_ne B 735 dL_law_720 (by decide) (fun e => absurd c158 e) (fun _ => ?_)
          refine z_aload_n B dL_law_723 rfl 5 rfl ?_
          refine z_iconst (v := 0) B dL_law_724 (by decide) ?_
          obtain ⟨w159, ew159, hf⟩ := zbs hf
          refine z_aJ B ew159 dL_law_725 ?_
          refine z_iload B dL_law_726 0 rfl ?_
          refine z_i2l B dL_law_728 ?_
          refine z_lcmp B dL_law_729 ?_
          rcases zite hf with ⟨c160, hf⟩ | ⟨c160, hf⟩
          · refine z_if_eq B 735 dL_law_730 (by decide) (fun _ => ?_) (fun e => absurd c160 e)
            refine z_goto B 2228 dL_law_735 (by decide) ?_
            refine z_iinc (v' := (v4 + 4)) (lv' := [(4, .int (v4 + 4)), (6, .int w153), (5, .int w149), (0, .ref (zgb G)), (1, .ref u1), (2, .ref u2), (3, .ref u3)]) B dL_law_2228 6 rfl rfl (by decide) rfl ?_
            refine z_goto B 23 dL_law_2231 (by decide) ?_
            refine zV.sub [3, 4, 5, 6, 0] rfl ?_
            exact ih _ _ _ _ (show cs + 3 + n * 3 ≤ 2506 by omega) (show ss + 18 + n * 18 ≤ 25404 by omega) hf
          refine z_if_eq B 735 dL_law_730 (by decide) (fun e => absurd e c160) (fun _ => ?_)
          refine z_iconst (v := 0) B dL_law_733 (by decide) ?_
          exact absurd hf (zfalse hr1)
        refine z_if_ne B 735 dL_law_720 (by decide) (fun _ => ?_) (fun e => absurd e c158)
        refine z_goto B 2228 dL_law_735 (by decide) ?_
        refine z_iinc (v' := (v4 + 4)) (lv' := [(4, .int (v4 + 4)), (6, .int w153), (5, .int w149), (0, .ref (zgb G)), (1, .ref u1), (2, .ref u2), (3, .ref u3)]) B dL_law_2228 6 rfl rfl (by decide) rfl ?_
        refine z_goto B 23 dL_law_2231 (by decide) ?_
        refine zV.sub [3, 4, 5, 6, 0] rfl ?_
        exact ih _ _ _ _ (show cs + 3 + n * 3 ≤ 2506 by omega) (show ss + 18 + n * 18 ≤ 25404 by omega) hf
      refine z_icmp_eq B 718 dL_law_713 (by decide) (fun e => absurd e c157) (fun _ => ?_)
      refine z_iconst (v := 0) B dL_law_716 (by decide) ?_
      exact absurd hf (zfalse hr1)
    rcases zite hf with ⟨c161, hf⟩ | ⟨c161, hf⟩
    · refine z_tabIn B 10 738 dL_law_39 c161 (by decide) (by decide) rfl (by decide) ?_
      refine z_aload_n B dL_law_738 rfl 1 rfl ?_
      refine z_aload_n B dL_law_739 rfl 0 rfl ?_
      refine z_iload B dL_law_740 4 rfl ?_
      refine z_iconst (v := 1) B dL_law_742 (by decide) ?_
      refine z_iadd B dL_law_743 ?_
      obtain ⟨w162, ew162, hf⟩ := zbs hf
      refine z_sc B ew162 dL_law_744 ?_
      refine z_aload_n B dL_law_745 rfl 0 rfl ?_
      refine z_iload B dL_law_746 4 rfl ?_
      refine z_iconst (v := 2) B dL_law_748 (by decide) ?_
      refine z_iadd B dL_law_749 ?_
      obtain ⟨w163, ew163, hf⟩ := zbs hf
      refine z_sc B ew163 dL_law_750 ?_
      refine z_aload_n B dL_law_751 rfl 3 rfl ?_
      obtain ⟨w164, h165, ew164, hf⟩ := zb2s hf
      refine z_callSW B [.ref u1, .int w162, .int w163, .ref u3] [] cw_L_offer mt_RL_157 (tL_offer hst ew164) ⟨rfl, rfl, (Nat.le_of_ble_eq_true rfl), (Nat.le_of_ble_eq_true rfl), (show cs + 3 ≤ 601024 by omega), (show ss + 18 ≤ 7293034 by omega)⟩ rfl rfl (Nat.le_of_ble_eq_true rfl) dL_law_752 ?_
      refine z_istore (lv' := [(5, .int w164), (0, .ref (zgb G)), (1, .ref u1), (2, .ref u2), (3, .ref u3), (4, .int v4)]) B dL_law_755 (by decide) rfl ?_
      refine z_aload_n B dL_law_757 rfl 3 rfl ?_
      refine z_aload_n B dL_law_758 rfl 1 rfl ?_
      refine z_iload B dL_law_759 5 rfl ?_
      refine z_iconst (v := 1) B dL_law_761 (by decide) ?_
      refine z_iadd B dL_law_762 ?_
      obtain ⟨w166, ew166, hf⟩ := zbs hf
      refine z_sc B ew166 dL_law_763 ?_
      refine z_aload_n B dL_law_764 rfl 1 rfl ?_
      refine z_iload B dL_law_765 5 rfl ?_
      refine z_iconst (v := 2) B dL_law_767 (by decide) ?_
      refine z_iadd B dL_law_768 ?_
      obtain ⟨w167, ew167, hf⟩ := zbs hf
      refine z_sc B ew167 dL_law_769 ?_
      obtain ⟨w168, h169, ew168, hf⟩ := zb2s hf
      refine z_callVi B [.int w166, .int w167] [] cw_X7_offer mv_RL_159 (tX7_offer hst ew168) rfl (by decide) (kfX7_offer ew168) ⟨rfl, rfl, (Nat.le_of_ble_eq_true rfl), (Nat.le_of_ble_eq_true rfl), (show cs + 3 ≤ 601024 by omega), (show ss + 18 ≤ 7293034 by omega)⟩ rfl rfl (Nat.le_of_ble_eq_true rfl) dL_law_770 ?_
      refine z_istore (lv' := [(6, .int w168), (5, .int w164), (0, .ref (zgb G)), (1, .ref u1), (2, .ref u2), (3, .ref u3), (4, .int v4)]) B dL_law_773 (by decide) rfl ?_
      refine z_aload_n B dL_law_775 rfl 4 rfl ?_
      obtain ⟨w170, h171, ew170, hf⟩ := zb2s hf
      refine z_callVi B [] [] cw_X7_thrown mv_RL_122 (tX7_thrown hst ew170) rfl (by decide) (kfX7_thrown ew170) ⟨rfl, rfl, (Nat.le_of_ble_eq_true rfl), (Nat.le_of_ble_eq_true rfl), (show cs + 3 ≤ 601024 by omega), (show ss + 18 ≤ 7293034 by omega)⟩ rfl rfl (Nat.le_of_ble_eq_true rfl) dL_law_776 ?_
      refine z_iload B dL_law_779 1 rfl ?_
      rcases zite hf with ⟨c172, hf⟩ | ⟨c172, hf⟩
      · refine z_icmp_eq B 786 dL_law_781 (by decide) (fun _ => ?_) (fun e => absurd c172 e)
        refine z_iload B dL_law_786 1 rfl ?_
        rcases zite hf with ⟨c173, hf⟩ | ⟨c173, hf⟩
        · refine z_if_ne B 803 dL_law_788 (by decide) (fun e => absurd c173 e) (fun _ => ?_)
          refine z_aload_n B dL_law_791 rfl 5 rfl ?_
          refine z_iconst (v := 0) B dL_law_792 (by decide) ?_
          obtain ⟨w174, ew174, hf⟩ := zbs hf
          refine z_aJ B ew174 dL_law_793 ?_
          refine z_iload B dL_law_794 0 rfl ?_
          refine z_i2l B dL_law_796 ?_
          refine z_lcmp B dL_law_797 ?_
          rcases zite hf with ⟨c175, hf⟩ | ⟨c175, hf⟩
          · refine z_if_eq B 803 dL_law_798 (by decide) (fun _ => ?_) (fun e => absurd c175 e)
            refine z_goto B 2228 dL_law_803 (by decide) ?_
            refine z_iinc (v' := (v4 + 4)) (lv' := [(4, .int (v4 + 4)), (6, .int w168), (5, .int w164), (0, .ref (zgb G)), (1, .ref u1), (2, .ref u2), (3, .ref u3)]) B dL_law_2228 6 rfl rfl (by decide) rfl ?_
            refine z_goto B 23 dL_law_2231 (by decide) ?_
            refine zV.sub [3, 4, 5, 6, 0] rfl ?_
            exact ih _ _ _ _ (show cs + 3 + n * 3 ≤ 2506 by omega) (show ss + 18 + n * 18 ≤ 25404 by omega) hf
          refine z_if_eq B 803 dL_law_798 (by decide) (fun e => absurd e c175) (fun _ => ?_)
          refine z_iconst (v := 0) B dL_law_801 (by decide) ?_
          exact absurd hf (zfalse hr1)
        refine z_if_ne B 803 dL_law_788 (by decide) (fun _ => ?_) (fun e => absurd e c173)
        refine z_goto B 2228 dL_law_803 (by decide) ?_
        refine z_iinc (v' := (v4 + 4)) (lv' := [(4, .int (v4 + 4)), (6, .int w168), (5, .int w164), (0, .ref (zgb G)), (1, .ref u1), (2, .ref u2), (3, .ref u3)]) B dL_law_2228 6 rfl rfl (by decide) rfl ?_
        refine z_goto B 23 dL_law_2231 (by decide) ?_
        refine zV.sub [3, 4, 5, 6, 0] rfl ?_
        exact ih _ _ _ _ (show cs + 3 + n * 3 ≤ 2506 by omega) (show ss + 18 + n * 18 ≤ 25404 by omega) hf
      refine z_icmp_eq B 786 dL_law_781 (by decide) (fun e => absurd e c172) (fun _ => ?_)
      refine z_iconst (v := 0) B dL_law_784 (by decide) ?_
      exact absurd hf (zfalse hr1)
    rcases zite hf with ⟨c176, hf⟩ | ⟨c176, hf⟩
    · refine z_tabIn B 11 806 dL_law_39 c176 (by decide) (by decide) rfl (by decide) ?_
      refine z_aload_n B dL_law_806 rfl 1 rfl ?_
      refine z_aload_n B dL_law_807 rfl 0 rfl ?_
      refine z_iload B dL_law_808 4 rfl ?_
      refine z_iconst (v := 1) B dL_law_810 (by decide) ?_
      refine z_iadd B dL_law_811 ?_
      obtain ⟨w177, ew177, hf⟩ := zbs hf
      refine z_sc B ew177 dL_law_812 ?_
      refine z_aload_n B dL_law_813 rfl 0 rfl ?_
      refine z_iload B dL_law_814 4 rfl ?_
      refine z_iconst (v := 2) B dL_law_816 (by decide) ?_
      refine z_iadd B dL_law_817 ?_
      obtain ⟨w178, ew178, hf⟩ := zbs hf
      refine z_sc B ew178 dL_law_818 ?_
      refine z_aload_n B dL_law_819 rfl 3 rfl ?_
      obtain ⟨w179, h180, ew179, hf⟩ := zb2s hf
      refine z_callSW B [.ref u1, .int w177, .int w178, .ref u3] [] cw_L_paste mt_RL_160 (tL_paste hst ew179) ⟨rfl, rfl, (Nat.le_of_ble_eq_true rfl), (Nat.le_of_ble_eq_true rfl), (show cs + 3 ≤ 601024 by omega), (show ss + 18 ≤ 7293034 by omega)⟩ rfl rfl (Nat.le_of_ble_eq_true rfl) dL_law_820 ?_
      refine z_istore (lv' := [(5, .int w179), (0, .ref (zgb G)), (1, .ref u1), (2, .ref u2), (3, .ref u3), (4, .int v4)]) B dL_law_823 (by decide) rfl ?_
      refine z_aload_n B dL_law_825 rfl 3 rfl ?_
      refine z_aload_n B dL_law_826 rfl 1 rfl ?_
      refine z_iload B dL_law_827 5 rfl ?_
      refine z_iconst (v := 1) B dL_law_829 (by decide) ?_
      refine z_iadd B dL_law_830 ?_
      obtain ⟨w181, ew181, hf⟩ := zbs hf
      refine z_sc B ew181 dL_law_831 ?_
      refine z_aload_n B dL_law_832 rfl 1 rfl ?_
      refine z_iload B dL_law_833 5 rfl ?_
      refine z_iconst (v := 2) B dL_law_835 (by decide) ?_
      refine z_iadd B dL_law_836 ?_
      obtain ⟨w182, ew182, hf⟩ := zbs hf
      refine z_sc B ew182 dL_law_837 ?_
      obtain ⟨w183, h184, ew183, hf⟩ := zb2s hf
      refine z_callVi B [.int w181, .int w182] [] cw_X7_paste mv_RL_162 (tX7_paste hst ew183) rfl (by decide) (kfX7_paste ew183) ⟨rfl, rfl, (Nat.le_of_ble_eq_true rfl), (Nat.le_of_ble_eq_true rfl), (show cs + 3 ≤ 601024 by omega), (show ss + 18 ≤ 7293034 by omega)⟩ rfl rfl (Nat.le_of_ble_eq_true rfl) dL_law_838 ?_
      refine z_istore (lv' := [(6, .int w183), (5, .int w179), (0, .ref (zgb G)), (1, .ref u1), (2, .ref u2), (3, .ref u3), (4, .int v4)]) B dL_law_841 (by decide) rfl ?_
      refine z_aload_n B dL_law_843 rfl 4 rfl ?_
      obtain ⟨w185, h186, ew185, hf⟩ := zb2s hf
      refine z_callVi B [] [] cw_X7_thrown mv_RL_122 (tX7_thrown hst ew185) rfl (by decide) (kfX7_thrown ew185) ⟨rfl, rfl, (Nat.le_of_ble_eq_true rfl), (Nat.le_of_ble_eq_true rfl), (show cs + 3 ≤ 601024 by omega), (show ss + 18 ≤ 7293034 by omega)⟩ rfl rfl (Nat.le_of_ble_eq_true rfl) dL_law_844 ?_
      refine z_iload B dL_law_847 1 rfl ?_
      rcases zite hf with ⟨c187, hf⟩ | ⟨c187, hf⟩
      · refine z_icmp_eq B 854 dL_law_849 (by decide) (fun _ => ?_) (fun e => absurd c187 e)
        refine z_iload B dL_law_854 1 rfl ?_
        rcases zite hf with ⟨c188, hf⟩ | ⟨c188, hf⟩
        · refine z_if_ne B 871 dL_law_856 (by decide) (fun e => absurd c188 e) (fun _ => ?_)
          refine z_aload_n B dL_law_859 rfl 5 rfl ?_
          refine z_iconst (v := 0) B dL_law_860 (by decide) ?_
          obtain ⟨w189, ew189, hf⟩ := zbs hf
          refine z_aJ B ew189 dL_law_861 ?_
          refine z_iload B dL_law_862 0 rfl ?_
          refine z_i2l B dL_law_864 ?_
          refine z_lcmp B dL_law_865 ?_
          rcases zite hf with ⟨c190, hf⟩ | ⟨c190, hf⟩
          · refine z_if_eq B 871 dL_law_866 (by decide) (fun _ => ?_) (fun e => absurd c190 e)
            refine z_goto B 2228 dL_law_871 (by decide) ?_
            refine z_iinc (v' := (v4 + 4)) (lv' := [(4, .int (v4 + 4)), (6, .int w183), (5, .int w179), (0, .ref (zgb G)), (1, .ref u1), (2, .ref u2), (3, .ref u3)]) B dL_law_2228 6 rfl rfl (by decide) rfl ?_
            refine z_goto B 23 dL_law_2231 (by decide) ?_
            refine zV.sub [3, 4, 5, 6, 0] rfl ?_
            exact ih _ _ _ _ (show cs + 3 + n * 3 ≤ 2506 by omega) (show ss + 18 + n * 18 ≤ 25404 by omega) hf
          refine z_if_eq B 871 dL_law_866 (by decide) (fun e => absurd e c190) (fun _ => ?_)
          refine z_iconst (v := 0) B dL_law_869 (by decide) ?_
          exact absurd hf (zfalse hr1)
        refine z_if_ne B 871 dL_law_856 (by decide) (fun _ => ?_) (fun e => absurd e c188)
        refine z_goto B 2228 dL_law_871 (by decide) ?_
        refine z_iinc (v' := (v4 + 4)) (lv' := [(4, .int (v4 + 4)), (6, .int w183), (5, .int w179), (0, .ref (zgb G)), (1, .ref u1), (2, .ref u2), (3, .ref u3)]) B dL_law_2228 6 rfl rfl (by decide) rfl ?_
        refine z_goto B 23 dL_law_2231 (by decide) ?_
        refine zV.sub [3, 4, 5, 6, 0] rfl ?_
        exact ih _ _ _ _ (show cs + 3 + n * 3 ≤ 2506 by omega) (show ss + 18 + n * 18 ≤ 25404 by omega) hf
      refine z_icmp_eq B 854 dL_law_849 (by decide) (fun e => absurd e c187) (fun _ => ?_)
      refine z_iconst (v := 0) B dL_law_852 (by decide) ?_
      exact absurd hf (zfalse hr1)
    rcases zite hf with ⟨c191, hf⟩ | ⟨c191, hf⟩
    · refine z_tabIn B 12 874 dL_law_39 c191 (by decide) (by decide) rfl (by decide) ?_
      refine z_aload_n B dL_law_874 rfl 1 rfl ?_
      refine z_aload_n B dL_law_875 rfl 0 rfl ?_
      refine z_iload B dL_law_876 4 rfl ?_
      refine z_iconst (v := 1) B dL_law_878 (by decide) ?_
      refine z_iadd B dL_law_879 ?_
      obtain ⟨w192, ew192, hf⟩ := zbs hf
      refine z_sc B ew192 dL_law_880 ?_
      refine z_aload_n B dL_law_881 rfl 3 rfl ?_
      obtain ⟨w193, h194, ew193, hf⟩ := zb2s hf
      refine z_callSW B [.ref u1, .int w192, .ref u3] [] cw_L_togglePin mt_RL_163 (tL_togglePin hst ew193) ⟨rfl, rfl, (Nat.le_of_ble_eq_true rfl), (Nat.le_of_ble_eq_true rfl), (show cs + 1 ≤ 601024 by omega), (show ss + 6 ≤ 7293034 by omega)⟩ rfl rfl (Nat.le_of_ble_eq_true rfl) dL_law_882 ?_
      refine z_istore (lv' := [(5, .int w193), (0, .ref (zgb G)), (1, .ref u1), (2, .ref u2), (3, .ref u3), (4, .int v4)]) B dL_law_885 (by decide) rfl ?_
      refine z_aload_n B dL_law_887 rfl 3 rfl ?_
      refine z_aload_n B dL_law_888 rfl 1 rfl ?_
      refine z_iload B dL_law_889 5 rfl ?_
      refine z_iconst (v := 1) B dL_law_891 (by decide) ?_
      refine z_iadd B dL_law_892 ?_
      obtain ⟨w195, ew195, hf⟩ := zbs hf
      refine z_sc B ew195 dL_law_893 ?_
      obtain ⟨w196, h197, ew196, hf⟩ := zb2s hf
      refine z_callVi B [.int w195] [] cw_X7_togglePin mv_RL_165 (tX7_togglePin hst ew196) rfl (by decide) (kfX7_togglePin ew196) ⟨rfl, rfl, (Nat.le_of_ble_eq_true rfl), (Nat.le_of_ble_eq_true rfl), (show cs + 1 ≤ 601024 by omega), (show ss + 6 ≤ 7293034 by omega)⟩ rfl rfl (Nat.le_of_ble_eq_true rfl) dL_law_894 ?_
      refine z_istore (lv' := [(6, .int w196), (5, .int w193), (0, .ref (zgb G)), (1, .ref u1), (2, .ref u2), (3, .ref u3), (4, .int v4)]) B dL_law_897 (by decide) rfl ?_
      refine z_aload_n B dL_law_899 rfl 4 rfl ?_
      obtain ⟨w198, h199, ew198, hf⟩ := zb2s hf
      refine z_callVi B [] [] cw_X7_thrown mv_RL_122 (tX7_thrown hst ew198) rfl (by decide) (kfX7_thrown ew198) ⟨rfl, rfl, (Nat.le_of_ble_eq_true rfl), (Nat.le_of_ble_eq_true rfl), (show cs + 1 ≤ 601024 by omega), (show ss + 6 ≤ 7293034 by omega)⟩ rfl rfl (Nat.le_of_ble_eq_true rfl) dL_law_900 ?_
      refine z_iload B dL_law_903 1 rfl ?_
      rcases zite hf with ⟨c200, hf⟩ | ⟨c200, hf⟩
      · refine z_icmp_eq B 910 dL_law_905 (by decide) (fun _ => ?_) (fun e => absurd c200 e)
        refine z_iload B dL_law_910 1 rfl ?_
        rcases zite hf with ⟨c201, hf⟩ | ⟨c201, hf⟩
        · refine z_if_ne B 927 dL_law_912 (by decide) (fun e => absurd c201 e) (fun _ => ?_)
          refine z_aload_n B dL_law_915 rfl 5 rfl ?_
          refine z_iconst (v := 0) B dL_law_916 (by decide) ?_
          obtain ⟨w202, ew202, hf⟩ := zbs hf
          refine z_aJ B ew202 dL_law_917 ?_
          refine z_iload B dL_law_918 0 rfl ?_
          refine z_i2l B dL_law_920 ?_
          refine z_lcmp B dL_law_921 ?_
          rcases zite hf with ⟨c203, hf⟩ | ⟨c203, hf⟩
          · refine z_if_eq B 927 dL_law_922 (by decide) (fun _ => ?_) (fun e => absurd c203 e)
            refine z_goto B 2228 dL_law_927 (by decide) ?_
            refine z_iinc (v' := (v4 + 4)) (lv' := [(4, .int (v4 + 4)), (6, .int w196), (5, .int w193), (0, .ref (zgb G)), (1, .ref u1), (2, .ref u2), (3, .ref u3)]) B dL_law_2228 6 rfl rfl (by decide) rfl ?_
            refine z_goto B 23 dL_law_2231 (by decide) ?_
            refine zV.sub [3, 4, 5, 6, 0] rfl ?_
            exact ih _ _ _ _ (show cs + 1 + n * 3 ≤ 2506 by omega) (show ss + 6 + n * 18 ≤ 25404 by omega) hf
          refine z_if_eq B 927 dL_law_922 (by decide) (fun e => absurd e c203) (fun _ => ?_)
          refine z_iconst (v := 0) B dL_law_925 (by decide) ?_
          exact absurd hf (zfalse hr1)
        refine z_if_ne B 927 dL_law_912 (by decide) (fun _ => ?_) (fun e => absurd e c201)
        refine z_goto B 2228 dL_law_927 (by decide) ?_
        refine z_iinc (v' := (v4 + 4)) (lv' := [(4, .int (v4 + 4)), (6, .int w196), (5, .int w193), (0, .ref (zgb G)), (1, .ref u1), (2, .ref u2), (3, .ref u3)]) B dL_law_2228 6 rfl rfl (by decide) rfl ?_
        refine z_goto B 23 dL_law_2231 (by decide) ?_
        refine zV.sub [3, 4, 5, 6, 0] rfl ?_
        exact ih _ _ _ _ (show cs + 1 + n * 3 ≤ 2506 by omega) (show ss + 6 + n * 18 ≤ 25404 by omega) hf
      refine z_icmp_eq B 910 dL_law_905 (by decide) (fun e => absurd e c200) (fun _ => ?_)
      refine z_iconst (v := 0) B dL_law_908 (by decide) ?_
      exact absurd hf (zfalse hr1)
    rcases zite hf with ⟨c204, hf⟩ | ⟨c204, hf⟩
    · refine z_tabIn B 13 930 dL_law_39 c204 (by decide) (by decide) rfl (by decide) ?_
      refine z_aload_n B dL_law_930 rfl 1 rfl ?_
      refine z_aload_n B dL_law_931 rfl 0 rfl ?_
      refine z_iload B dL_law_932 4 rfl ?_
      refine z_iconst (v := 1) B dL_law_934 (by decide) ?_
      refine z_iadd B dL_law_935 ?_
      obtain ⟨w205, ew205, hf⟩ := zbs hf
      refine z_sc B ew205 dL_law_936 ?_
      refine z_aload_n B dL_law_937 rfl 3 rfl ?_
      obtain ⟨w206, h207, ew206, hf⟩ := zb2s hf
      refine z_callSW B [.ref u1, .int w205, .ref u3] [] cw_L_remove mt_RL_166 (tL_remove hst ew206) ⟨rfl, rfl, (Nat.le_of_ble_eq_true rfl), (Nat.le_of_ble_eq_true rfl), (show cs + 1 ≤ 601024 by omega), (show ss + 6 ≤ 7293034 by omega)⟩ rfl rfl (Nat.le_of_ble_eq_true rfl) dL_law_938 ?_
      refine z_istore (lv' := [(5, .int w206), (0, .ref (zgb G)), (1, .ref u1), (2, .ref u2), (3, .ref u3), (4, .int v4)]) B dL_law_941 (by decide) rfl ?_
      refine z_aload_n B dL_law_943 rfl 3 rfl ?_
      refine z_aload_n B dL_law_944 rfl 1 rfl ?_
      refine z_iload B dL_law_945 5 rfl ?_
      refine z_iconst (v := 1) B dL_law_947 (by decide) ?_
      refine z_iadd B dL_law_948 ?_
      obtain ⟨w208, ew208, hf⟩ := zbs hf
      refine z_sc B ew208 dL_law_949 ?_
      obtain ⟨w209, h210, ew209, hf⟩ := zb2s hf
      refine z_callVi B [.int w208] [] cw_X7_remove mv_RL_168 (tX7_remove hst ew209) rfl (by decide) (kfX7_remove ew209) ⟨rfl, rfl, (Nat.le_of_ble_eq_true rfl), (Nat.le_of_ble_eq_true rfl), (show cs + 1 ≤ 601024 by omega), (show ss + 6 ≤ 7293034 by omega)⟩ rfl rfl (Nat.le_of_ble_eq_true rfl) dL_law_950 ?_
      refine z_istore (lv' := [(6, .int w209), (5, .int w206), (0, .ref (zgb G)), (1, .ref u1), (2, .ref u2), (3, .ref u3), (4, .int v4)]) B dL_law_953 (by decide) rfl ?_
      refine z_aload_n B dL_law_955 rfl 4 rfl ?_
      obtain ⟨w211, h212, ew211, hf⟩ := zb2s hf
      refine z_callVi B [] [] cw_X7_thrown mv_RL_122 (tX7_thrown hst ew211) rfl (by decide) (kfX7_thrown ew211) ⟨rfl, rfl, (Nat.le_of_ble_eq_true rfl), (Nat.le_of_ble_eq_true rfl), (show cs + 1 ≤ 601024 by omega), (show ss + 6 ≤ 7293034 by omega)⟩ rfl rfl (Nat.le_of_ble_eq_true rfl) dL_law_956 ?_
      refine z_iload B dL_law_959 1 rfl ?_
      rcases zite hf with ⟨c213, hf⟩ | ⟨c213, hf⟩
      · refine z_icmp_eq B 966 dL_law_961 (by decide) (fun _ => ?_) (fun e => absurd c213 e)
        refine z_iload B dL_law_966 1 rfl ?_
        rcases zite hf with ⟨c214, hf⟩ | ⟨c214, hf⟩
        · refine z_if_ne B 983 dL_law_968 (by decide) (fun e => absurd c214 e) (fun _ => ?_)
          refine z_aload_n B dL_law_971 rfl 5 rfl ?_
          refine z_iconst (v := 0) B dL_law_972 (by decide) ?_
          obtain ⟨w215, ew215, hf⟩ := zbs hf
          refine z_aJ B ew215 dL_law_973 ?_
          refine z_iload B dL_law_974 0 rfl ?_
          refine z_i2l B dL_law_976 ?_
          refine z_lcmp B dL_law_977 ?_
          rcases zite hf with ⟨c216, hf⟩ | ⟨c216, hf⟩
          · refine z_if_eq B 983 dL_law_978 (by decide) (fun _ => ?_) (fun e => absurd c216 e)
            refine z_goto B 2228 dL_law_983 (by decide) ?_
            refine z_iinc (v' := (v4 + 4)) (lv' := [(4, .int (v4 + 4)), (6, .int w209), (5, .int w206), (0, .ref (zgb G)), (1, .ref u1), (2, .ref u2), (3, .ref u3)]) B dL_law_2228 6 rfl rfl (by decide) rfl ?_
            refine z_goto B 23 dL_law_2231 (by decide) ?_
            refine zV.sub [3, 4, 5, 6, 0] rfl ?_
            exact ih _ _ _ _ (show cs + 1 + n * 3 ≤ 2506 by omega) (show ss + 6 + n * 18 ≤ 25404 by omega) hf
          refine z_if_eq B 983 dL_law_978 (by decide) (fun e => absurd e c216) (fun _ => ?_)
          refine z_iconst (v := 0) B dL_law_981 (by decide) ?_
          exact absurd hf (zfalse hr1)
        refine z_if_ne B 983 dL_law_968 (by decide) (fun _ => ?_) (fun e => absurd e c214)
        refine z_goto B 2228 dL_law_983 (by decide) ?_
        refine z_iinc (v' := (v4 + 4)) (lv' := [(4, .int (v4 + 4)), (6, .int w209), (5, .int w206), (0, .ref (zgb G)), (1, .ref u1), (2, .ref u2), (3, .ref u3)]) B dL_law_2228 6 rfl rfl (by decide) rfl ?_
        refine z_goto B 23 dL_law_2231 (by decide) ?_
        refine zV.sub [3, 4, 5, 6, 0] rfl ?_
        exact ih _ _ _ _ (show cs + 1 + n * 3 ≤ 2506 by omega) (show ss + 6 + n * 18 ≤ 25404 by omega) hf
      refine z_icmp_eq B 966 dL_law_961 (by decide) (fun e => absurd e c213) (fun _ => ?_)
      refine z_iconst (v := 0) B dL_law_964 (by decide) ?_
      exact absurd hf (zfalse hr1)
    rcases zite hf with ⟨c217, hf⟩ | ⟨c217, hf⟩
    · refine z_tabIn B 14 986 dL_law_39 c217 (by decide) (by decide) rfl (by decide) ?_
      refine z_aload_n B dL_law_986 rfl 1 rfl ?_
      refine z_aload_n B dL_law_987 rfl 0 rfl ?_
      refine z_iload B dL_law_988 4 rfl ?_
      refine z_iconst (v := 1) B dL_law_990 (by decide) ?_
      refine z_iadd B dL_law_991 ?_
      obtain ⟨w218, ew218, hf⟩ := zbs hf
      refine z_sc B ew218 dL_law_992 ?_
      refine z_aload_n B dL_law_993 rfl 3 rfl ?_
      obtain ⟨w219, h220, ew219, hf⟩ := zb2s hf
      refine z_callSW B [.ref u1, .int w218, .ref u3] [] cw_L_setBudget mt_RL_169 (tL_setBudget hst ew219) ⟨rfl, rfl, (Nat.le_of_ble_eq_true rfl), (Nat.le_of_ble_eq_true rfl), (show cs + 1 ≤ 601024 by omega), (show ss + 6 ≤ 7293034 by omega)⟩ rfl rfl (Nat.le_of_ble_eq_true rfl) dL_law_994 ?_
      refine z_istore (lv' := [(5, .int w219), (0, .ref (zgb G)), (1, .ref u1), (2, .ref u2), (3, .ref u3), (4, .int v4)]) B dL_law_997 (by decide) rfl ?_
      refine z_aload_n B dL_law_999 rfl 3 rfl ?_
      refine z_aload_n B dL_law_1000 rfl 1 rfl ?_
      refine z_iload B dL_law_1001 5 rfl ?_
      refine z_iconst (v := 1) B dL_law_1003 (by decide) ?_
      refine z_iadd B dL_law_1004 ?_
      obtain ⟨w221, ew221, hf⟩ := zbs hf
      refine z_sc B ew221 dL_law_1005 ?_
      obtain ⟨w222, h223, ew222, hf⟩ := zb2s hf
      refine z_callVi B [.int w221] [] cw_X7_setBudget mv_RL_171 (tX7_setBudget hst ew222) rfl (by decide) (kfX7_setBudget ew222) ⟨rfl, rfl, (Nat.le_of_ble_eq_true rfl), (Nat.le_of_ble_eq_true rfl), (show cs + 1 ≤ 601024 by omega), (show ss + 6 ≤ 7293034 by omega)⟩ rfl rfl (Nat.le_of_ble_eq_true rfl) dL_law_1006 ?_
      refine z_istore (lv' := [(6, .int w222), (5, .int w219), (0, .ref (zgb G)), (1, .ref u1), (2, .ref u2), (3, .ref u3), (4, .int v4)]) B dL_law_1009 (by decide) rfl ?_
      refine z_aload_n B dL_law_1011 rfl 4 rfl ?_
      obtain ⟨w224, h225, ew224, hf⟩ := zb2s hf
      refine z_callVi B [] [] cw_X7_thrown mv_RL_122 (tX7_thrown hst ew224) rfl (by decide) (kfX7_thrown ew224) ⟨rfl, rfl, (Nat.le_of_ble_eq_true rfl), (Nat.le_of_ble_eq_true rfl), (show cs + 1 ≤ 601024 by omega), (show ss + 6 ≤ 7293034 by omega)⟩ rfl rfl (Nat.le_of_ble_eq_true rfl) dL_law_1012 ?_
      refine z_iload B dL_law_1015 1 rfl ?_
      rcases zite hf with ⟨c226, hf⟩ | ⟨c226, hf⟩
      · refine z_icmp_eq B 1022 dL_law_1017 (by decide) (fun _ => ?_) (fun e => absurd c226 e)
        refine z_iload B dL_law_1022 1 rfl ?_
        rcases zite hf with ⟨c227, hf⟩ | ⟨c227, hf⟩
        · refine z_if_ne B 1039 dL_law_1024 (by decide) (fun e => absurd c227 e) (fun _ => ?_)
          refine z_aload_n B dL_law_1027 rfl 5 rfl ?_
          refine z_iconst (v := 0) B dL_law_1028 (by decide) ?_
          obtain ⟨w228, ew228, hf⟩ := zbs hf
          refine z_aJ B ew228 dL_law_1029 ?_
          refine z_iload B dL_law_1030 0 rfl ?_
          refine z_i2l B dL_law_1032 ?_
          refine z_lcmp B dL_law_1033 ?_
          rcases zite hf with ⟨c229, hf⟩ | ⟨c229, hf⟩
          · refine z_if_eq B 1039 dL_law_1034 (by decide) (fun _ => ?_) (fun e => absurd c229 e)
            refine z_goto B 2228 dL_law_1039 (by decide) ?_
            refine z_iinc (v' := (v4 + 4)) (lv' := [(4, .int (v4 + 4)), (6, .int w222), (5, .int w219), (0, .ref (zgb G)), (1, .ref u1), (2, .ref u2), (3, .ref u3)]) B dL_law_2228 6 rfl rfl (by decide) rfl ?_
            refine z_goto B 23 dL_law_2231 (by decide) ?_
            refine zV.sub [3, 4, 5, 6, 0] rfl ?_
            exact ih _ _ _ _ (show cs + 1 + n * 3 ≤ 2506 by omega) (show ss + 6 + n * 18 ≤ 25404 by omega) hf
          refine z_if_eq B 1039 dL_law_1034 (by decide) (fun e => absurd e c229) (fun _ => ?_)
          refine z_iconst (v := 0) B dL_law_1037 (by decide) ?_
          exact absurd hf (zfalse hr1)
        refine z_if_ne B 1039 dL_law_1024 (by decide) (fun _ => ?_) (fun e => absurd e c227)
        refine z_goto B 2228 dL_law_1039 (by decide) ?_
        refine z_iinc (v' := (v4 + 4)) (lv' := [(4, .int (v4 + 4)), (6, .int w222), (5, .int w219), (0, .ref (zgb G)), (1, .ref u1), (2, .ref u2), (3, .ref u3)]) B dL_law_2228 6 rfl rfl (by decide) rfl ?_
        refine z_goto B 23 dL_law_2231 (by decide) ?_
        refine zV.sub [3, 4, 5, 6, 0] rfl ?_
        exact ih _ _ _ _ (show cs + 1 + n * 3 ≤ 2506 by omega) (show ss + 6 + n * 18 ≤ 25404 by omega) hf
      refine z_icmp_eq B 1022 dL_law_1017 (by decide) (fun e => absurd e c226) (fun _ => ?_)
      refine z_iconst (v := 0) B dL_law_1020 (by decide) ?_
      exact absurd hf (zfalse hr1)
    rcases zite hf with ⟨c230, hf⟩ | ⟨c230, hf⟩
    · refine z_tabIn B 15 1042 dL_law_39 c230 (by decide) (by decide) rfl (by decide) ?_
      refine z_aload_n B dL_law_1042 rfl 1 rfl ?_
      refine z_aload_n B dL_law_1043 rfl 0 rfl ?_
      refine z_iload B dL_law_1044 4 rfl ?_
      refine z_iconst (v := 1) B dL_law_1046 (by decide) ?_
      refine z_iadd B dL_law_1047 ?_
      obtain ⟨w231, ew231, hf⟩ := zbs hf
      refine z_sc B ew231 dL_law_1048 ?_
      refine z_aload_n B dL_law_1049 rfl 0 rfl ?_
      refine z_iload B dL_law_1050 4 rfl ?_
      refine z_iconst (v := 2) B dL_law_1052 (by decide) ?_
      refine z_iadd B dL_law_1053 ?_
      obtain ⟨w232, ew232, hf⟩ := zbs hf
      refine z_sc B ew232 dL_law_1054 ?_
      refine z_aload_n B dL_law_1055 rfl 3 rfl ?_
      obtain ⟨w233, h234, ew233, hf⟩ := zb2s hf
      refine z_callSW B [.ref u1, .int w231, .int w232, .ref u3] [] cw_L_setCost mt_RL_172 (tL_setCost hst ew233) ⟨rfl, rfl, (Nat.le_of_ble_eq_true rfl), (Nat.le_of_ble_eq_true rfl), (show cs + 2 ≤ 601024 by omega), (show ss + 12 ≤ 7293034 by omega)⟩ rfl rfl (Nat.le_of_ble_eq_true rfl) dL_law_1056 ?_
      refine z_istore (lv' := [(5, .int w233), (0, .ref (zgb G)), (1, .ref u1), (2, .ref u2), (3, .ref u3), (4, .int v4)]) B dL_law_1059 (by decide) rfl ?_
      refine z_aload_n B dL_law_1061 rfl 3 rfl ?_
      refine z_aload_n B dL_law_1062 rfl 1 rfl ?_
      refine z_iload B dL_law_1063 5 rfl ?_
      refine z_iconst (v := 1) B dL_law_1065 (by decide) ?_
      refine z_iadd B dL_law_1066 ?_
      obtain ⟨w235, ew235, hf⟩ := zbs hf
      refine z_sc B ew235 dL_law_1067 ?_
      refine z_aload_n B dL_law_1068 rfl 1 rfl ?_
      refine z_iload B dL_law_1069 5 rfl ?_
      refine z_iconst (v := 2) B dL_law_1071 (by decide) ?_
      refine z_iadd B dL_law_1072 ?_
      obtain ⟨w236, ew236, hf⟩ := zbs hf
      refine z_sc B ew236 dL_law_1073 ?_
      obtain ⟨w237, h238, ew237, hf⟩ := zb2s hf
      refine z_callVi B [.int w235, .int w236] [] cw_X7_setCost mv_RL_174 (tX7_setCost hst ew237) rfl (by decide) (kfX7_setCost ew237) ⟨rfl, rfl, (Nat.le_of_ble_eq_true rfl), (Nat.le_of_ble_eq_true rfl), (show cs + 2 ≤ 601024 by omega), (show ss + 12 ≤ 7293034 by omega)⟩ rfl rfl (Nat.le_of_ble_eq_true rfl) dL_law_1074 ?_
      refine z_istore (lv' := [(6, .int w237), (5, .int w233), (0, .ref (zgb G)), (1, .ref u1), (2, .ref u2), (3, .ref u3), (4, .int v4)]) B dL_law_1077 (by decide) rfl ?_
      refine z_aload_n B dL_law_1079 rfl 4 rfl ?_
      obtain ⟨w239, h240, ew239, hf⟩ := zb2s hf
      refine z_callVi B [] [] cw_X7_thrown mv_RL_122 (tX7_thrown hst ew239) rfl (by decide) (kfX7_thrown ew239) ⟨rfl, rfl, (Nat.le_of_ble_eq_true rfl), (Nat.le_of_ble_eq_true rfl), (show cs + 2 ≤ 601024 by omega), (show ss + 12 ≤ 7293034 by omega)⟩ rfl rfl (Nat.le_of_ble_eq_true rfl) dL_law_1080 ?_
      refine z_iload B dL_law_1083 1 rfl ?_
      rcases zite hf with ⟨c241, hf⟩ | ⟨c241, hf⟩
      · refine z_icmp_eq B 1090 dL_law_1085 (by decide) (fun _ => ?_) (fun e => absurd c241 e)
        refine z_iload B dL_law_1090 1 rfl ?_
        rcases zite hf with ⟨c242, hf⟩ | ⟨c242, hf⟩
        · refine z_if_ne B 1107 dL_law_1092 (by decide) (fun e => absurd c242 e) (fun _ => ?_)
          refine z_aload_n B dL_law_1095 rfl 5 rfl ?_
          refine z_iconst (v := 0) B dL_law_1096 (by decide) ?_
          obtain ⟨w243, ew243, hf⟩ := zbs hf
          refine z_aJ B ew243 dL_law_1097 ?_
          refine z_iload B dL_law_1098 0 rfl ?_
          refine z_i2l B dL_law_1100 ?_
          refine z_lcmp B dL_law_1101 ?_
          rcases zite hf with ⟨c244, hf⟩ | ⟨c244, hf⟩
          · refine z_if_eq B 1107 dL_law_1102 (by decide) (fun _ => ?_) (fun e => absurd c244 e)
            refine z_goto B 2228 dL_law_1107 (by decide) ?_
            refine z_iinc (v' := (v4 + 4)) (lv' := [(4, .int (v4 + 4)), (6, .int w237), (5, .int w233), (0, .ref (zgb G)), (1, .ref u1), (2, .ref u2), (3, .ref u3)]) B dL_law_2228 6 rfl rfl (by decide) rfl ?_
            refine z_goto B 23 dL_law_2231 (by decide) ?_
            refine zV.sub [3, 4, 5, 6, 0] rfl ?_
            exact ih _ _ _ _ (show cs + 2 + n * 3 ≤ 2506 by omega) (show ss + 12 + n * 18 ≤ 25404 by omega) hf
          refine z_if_eq B 1107 dL_law_1102 (by decide) (fun e => absurd e c244) (fun _ => ?_)
          refine z_iconst (v := 0) B dL_law_1105 (by decide) ?_
          exact absurd hf (zfalse hr1)
        refine z_if_ne B 1107 dL_law_1092 (by decide) (fun _ => ?_) (fun e => absurd e c242)
        refine z_goto B 2228 dL_law_1107 (by decide) ?_
        refine z_iinc (v' := (v4 + 4)) (lv' := [(4, .int (v4 + 4)), (6, .int w237), (5, .int w233), (0, .ref (zgb G)), (1, .ref u1), (2, .ref u2), (3, .ref u3)]) B dL_law_2228 6 rfl rfl (by decide) rfl ?_
        refine z_goto B 23 dL_law_2231 (by decide) ?_
        refine zV.sub [3, 4, 5, 6, 0] rfl ?_
        exact ih _ _ _ _ (show cs + 2 + n * 3 ≤ 2506 by omega) (show ss + 12 + n * 18 ≤ 25404 by omega) hf
      refine z_icmp_eq B 1090 dL_law_1085 (by decide) (fun e => absurd e c241) (fun _ => ?_)
      refine z_iconst (v := 0) B dL_law_1088 (by decide) ?_
      exact absurd hf (zfalse hr1)
    rcases zite hf with ⟨c245, hf⟩ | ⟨c245, hf⟩
    · refine z_tabIn B 16 1110 dL_law_39 c245 (by decide) (by decide) rfl (by decide) ?_
      refine z_aload_n B dL_law_1110 rfl 1 rfl ?_
      refine z_aload_n B dL_law_1111 rfl 3 rfl ?_
      obtain ⟨w246, h247, ew246, hf⟩ := zb2s hf
      refine z_callSW B [.ref u1, .ref u3] [] cw_L_undo mt_RL_175 (tL_undo hst ew246) ⟨rfl, rfl, (Nat.le_of_ble_eq_true rfl), (Nat.le_of_ble_eq_true rfl), (show cs + 1 ≤ 601024 by omega), (show ss + 6 ≤ 7293034 by omega)⟩ rfl rfl (Nat.le_of_ble_eq_true rfl) dL_law_1112 ?_
      refine z_istore (lv' := [(5, .int w246), (0, .ref (zgb G)), (1, .ref u1), (2, .ref u2), (3, .ref u3), (4, .int v4)]) B dL_law_1115 (by decide) rfl ?_
      refine z_aload_n B dL_law_1117 rfl 3 rfl ?_
      obtain ⟨w248, h249, ew248, hf⟩ := zb2s hf
      refine z_callVi B [] [] cw_X7_undo mv_RL_177 (tX7_undo hst ew248) rfl (by decide) (kfX7_undo ew248) ⟨rfl, rfl, (Nat.le_of_ble_eq_true rfl), (Nat.le_of_ble_eq_true rfl), (show cs + 1 ≤ 601024 by omega), (show ss + 6 ≤ 7293034 by omega)⟩ rfl rfl (Nat.le_of_ble_eq_true rfl) dL_law_1118 ?_
      refine z_istore (lv' := [(6, .int w248), (5, .int w246), (0, .ref (zgb G)), (1, .ref u1), (2, .ref u2), (3, .ref u3), (4, .int v4)]) B dL_law_1121 (by decide) rfl ?_
      refine z_aload_n B dL_law_1123 rfl 4 rfl ?_
      obtain ⟨w250, h251, ew250, hf⟩ := zb2s hf
      refine z_callVi B [] [] cw_X7_thrown mv_RL_122 (tX7_thrown hst ew250) rfl (by decide) (kfX7_thrown ew250) ⟨rfl, rfl, (Nat.le_of_ble_eq_true rfl), (Nat.le_of_ble_eq_true rfl), (show cs + 1 ≤ 601024 by omega), (show ss + 6 ≤ 7293034 by omega)⟩ rfl rfl (Nat.le_of_ble_eq_true rfl) dL_law_1124 ?_
      refine z_iload B dL_law_1127 1 rfl ?_
      rcases zite hf with ⟨c252, hf⟩ | ⟨c252, hf⟩
      · refine z_icmp_eq B 1134 dL_law_1129 (by decide) (fun _ => ?_) (fun e => absurd c252 e)
        refine z_iload B dL_law_1134 1 rfl ?_
        rcases zite hf with ⟨c253, hf⟩ | ⟨c253, hf⟩
        · refine z_if_ne B 1151 dL_law_1136 (by decide) (fun e => absurd c253 e) (fun _ => ?_)
          refine z_aload_n B dL_law_1139 rfl 5 rfl ?_
          refine z_iconst (v := 0) B dL_law_1140 (by decide) ?_
          obtain ⟨w254, ew254, hf⟩ := zbs hf
          refine z_aJ B ew254 dL_law_1141 ?_
          refine z_iload B dL_law_1142 0 rfl ?_
          refine z_i2l B dL_law_1144 ?_
          refine z_lcmp B dL_law_1145 ?_
          rcases zite hf with ⟨c255, hf⟩ | ⟨c255, hf⟩
          · refine z_if_eq B 1151 dL_law_1146 (by decide) (fun _ => ?_) (fun e => absurd c255 e)
            refine z_goto B 2228 dL_law_1151 (by decide) ?_
            refine z_iinc (v' := (v4 + 4)) (lv' := [(4, .int (v4 + 4)), (6, .int w248), (5, .int w246), (0, .ref (zgb G)), (1, .ref u1), (2, .ref u2), (3, .ref u3)]) B dL_law_2228 6 rfl rfl (by decide) rfl ?_
            refine z_goto B 23 dL_law_2231 (by decide) ?_
            refine zV.sub [3, 4, 5, 6, 0] rfl ?_
            exact ih _ _ _ _ (show cs + 1 + n * 3 ≤ 2506 by omega) (show ss + 6 + n * 18 ≤ 25404 by omega) hf
          refine z_if_eq B 1151 dL_law_1146 (by decide) (fun e => absurd e c255) (fun _ => ?_)
          refine z_iconst (v := 0) B dL_law_1149 (by decide) ?_
          exact absurd hf (zfalse hr1)
        refine z_if_ne B 1151 dL_law_1136 (by decide) (fun _ => ?_) (fun e => absurd e c253)
        refine z_goto B 2228 dL_law_1151 (by decide) ?_
        refine z_iinc (v' := (v4 + 4)) (lv' := [(4, .int (v4 + 4)), (6, .int w248), (5, .int w246), (0, .ref (zgb G)), (1, .ref u1), (2, .ref u2), (3, .ref u3)]) B dL_law_2228 6 rfl rfl (by decide) rfl ?_
        refine z_goto B 23 dL_law_2231 (by decide) ?_
        refine zV.sub [3, 4, 5, 6, 0] rfl ?_
        exact ih _ _ _ _ (show cs + 1 + n * 3 ≤ 2506 by omega) (show ss + 6 + n * 18 ≤ 25404 by omega) hf
      refine z_icmp_eq B 1134 dL_law_1129 (by decide) (fun e => absurd e c252) (fun _ => ?_)
      refine z_iconst (v := 0) B dL_law_1132 (by decide) ?_
      exact absurd hf (zfalse hr1)
    rcases zite hf with ⟨c256, hf⟩ | ⟨c256, hf⟩
    · refine z_tabIn B 17 1154 dL_law_39 c256 (by decide) (by decide) rfl (by decide) ?_
      refine z_aload_n B dL_law_1154 rfl 1 rfl ?_
      refine z_aload_n B dL_law_1155 rfl 0 rfl ?_
      refine z_iload B dL_law_1156 4 rfl ?_
      refine z_iconst (v := 1) B dL_law_1158 (by decide) ?_
      refine z_iadd B dL_law_1159 ?_
      obtain ⟨w257, ew257, hf⟩ := zbs hf
      refine z_sc B ew257 dL_law_1160 ?_
      refine z_aload_n B dL_law_1161 rfl 0 rfl ?_
      refine z_iload B dL_law_1162 4 rfl ?_
      refine z_iconst (v := 2) B dL_law_1164 (by decide) ?_
      refine z_iadd B dL_law_1165 ?_
      obtain ⟨w258, ew258, hf⟩ := zbs hf
      refine z_sc B ew258 dL_law_1166 ?_
      refine z_aload_n B dL_law_1167 rfl 0 rfl ?_
      refine z_iload B dL_law_1168 4 rfl ?_
      refine z_iconst (v := 3) B dL_law_1170 (by decide) ?_
      refine z_iadd B dL_law_1171 ?_
      obtain ⟨w259, ew259, hf⟩ := zbs hf
      refine z_sc B ew259 dL_law_1172 ?_
      refine z_aload_n B dL_law_1173 rfl 3 rfl ?_
      obtain ⟨w260, h261, ew260, hf⟩ := zb2s hf
      refine z_callSW B [.ref u1, .int w257, .int w258, .int w259, .ref u3] [] cw_L_path mt_RL_178 (tL_path hst ew260) ⟨rfl, rfl, (Nat.le_of_ble_eq_true rfl), (Nat.le_of_ble_eq_true rfl), (show cs + 3 ≤ 601024 by omega), (show ss + 18 ≤ 7293034 by omega)⟩ rfl rfl (Nat.le_of_ble_eq_true rfl) dL_law_1174 ?_
      refine z_istore (lv' := [(5, .int w260), (0, .ref (zgb G)), (1, .ref u1), (2, .ref u2), (3, .ref u3), (4, .int v4)]) B dL_law_1177 (by decide) rfl ?_
      refine z_aload_n B dL_law_1179 rfl 3 rfl ?_
      refine z_aload_n B dL_law_1180 rfl 1 rfl ?_
      refine z_iload B dL_law_1181 5 rfl ?_
      refine z_iconst (v := 1) B dL_law_1183 (by decide) ?_
      refine z_iadd B dL_law_1184 ?_
      obtain ⟨w262, ew262, hf⟩ := zbs hf
      refine z_sc B ew262 dL_law_1185 ?_
      refine z_aload_n B dL_law_1186 rfl 1 rfl ?_
      refine z_iload B dL_law_1187 5 rfl ?_
      refine z_iconst (v := 2) B dL_law_1189 (by decide) ?_
      refine z_iadd B dL_law_1190 ?_
      obtain ⟨w263, ew263, hf⟩ := zbs hf
      refine z_sc B ew263 dL_law_1191 ?_
      refine z_aload_n B dL_law_1192 rfl 1 rfl ?_
      refine z_iload B dL_law_1193 5 rfl ?_
      refine z_iconst (v := 3) B dL_law_1195 (by decide) ?_
      refine z_iadd B dL_law_1196 ?_
      obtain ⟨w264, ew264, hf⟩ := zbs hf
      refine z_sc B ew264 dL_law_1197 ?_
      obtain ⟨w265, h266, ew265, hf⟩ := zb2s hf
      refine z_callVi B [.int w262, .int w263, .int w264] [] cw_X7_path mv_RL_181 (tX7_path hst ew265) rfl (by decide) (kfX7_path ew265) ⟨rfl, rfl, (Nat.le_of_ble_eq_true rfl), (Nat.le_of_ble_eq_true rfl), (show cs + 3 ≤ 601024 by omega), (show ss + 18 ≤ 7293034 by omega)⟩ rfl rfl (Nat.le_of_ble_eq_true rfl) dL_law_1198 ?_
      refine z_istore (lv' := [(6, .int w265), (5, .int w260), (0, .ref (zgb G)), (1, .ref u1), (2, .ref u2), (3, .ref u3), (4, .int v4)]) B dL_law_1201 (by decide) rfl ?_
      refine z_aload_n B dL_law_1203 rfl 4 rfl ?_
      obtain ⟨w267, h268, ew267, hf⟩ := zb2s hf
      refine z_callVi B [] [] cw_X7_thrown mv_RL_122 (tX7_thrown hst ew267) rfl (by decide) (kfX7_thrown ew267) ⟨rfl, rfl, (Nat.le_of_ble_eq_true rfl), (Nat.le_of_ble_eq_true rfl), (show cs + 3 ≤ 601024 by omega), (show ss + 18 ≤ 7293034 by omega)⟩ rfl rfl (Nat.le_of_ble_eq_true rfl) dL_law_1204 ?_
      refine z_iload B dL_law_1207 1 rfl ?_
      rcases zite hf with ⟨c269, hf⟩ | ⟨c269, hf⟩
      · refine z_icmp_eq B 1214 dL_law_1209 (by decide) (fun _ => ?_) (fun e => absurd c269 e)
        refine z_iload B dL_law_1214 1 rfl ?_
        rcases zite hf with ⟨c270, hf⟩ | ⟨c270, hf⟩
        · refine z_if_ne B 1231 dL_law_1216 (by decide) (fun e => absurd c270 e) (fun _ => ?_)
          refine z_aload_n B dL_law_1219 rfl 5 rfl ?_
          refine z_iconst (v := 0) B dL_law_1220 (by decide) ?_
          obtain ⟨w271, ew271, hf⟩ := zbs hf
          refine z_aJ B ew271 dL_law_1221 ?_
          refine z_iload B dL_law_1222 0 rfl ?_
          refine z_i2l B dL_law_1224 ?_
          refine z_lcmp B dL_law_1225 ?_
          rcases zite hf with ⟨c272, hf⟩ | ⟨c272, hf⟩
          · refine z_if_eq B 1231 dL_law_1226 (by decide) (fun _ => ?_) (fun e => absurd c272 e)
            refine z_goto B 2228 dL_law_1231 (by decide) ?_
            refine z_iinc (v' := (v4 + 4)) (lv' := [(4, .int (v4 + 4)), (6, .int w265), (5, .int w260), (0, .ref (zgb G)), (1, .ref u1), (2, .ref u2), (3, .ref u3)]) B dL_law_2228 6 rfl rfl (by decide) rfl ?_
            refine z_goto B 23 dL_law_2231 (by decide) ?_
            refine zV.sub [3, 4, 5, 6, 0] rfl ?_
            exact ih _ _ _ _ (show cs + 3 + n * 3 ≤ 2506 by omega) (show ss + 18 + n * 18 ≤ 25404 by omega) hf
          refine z_if_eq B 1231 dL_law_1226 (by decide) (fun e => absurd e c272) (fun _ => ?_)
          refine z_iconst (v := 0) B dL_law_1229 (by decide) ?_
          exact absurd hf (zfalse hr1)
        refine z_if_ne B 1231 dL_law_1216 (by decide) (fun _ => ?_) (fun e => absurd e c270)
        refine z_goto B 2228 dL_law_1231 (by decide) ?_
        refine z_iinc (v' := (v4 + 4)) (lv' := [(4, .int (v4 + 4)), (6, .int w265), (5, .int w260), (0, .ref (zgb G)), (1, .ref u1), (2, .ref u2), (3, .ref u3)]) B dL_law_2228 6 rfl rfl (by decide) rfl ?_
        refine z_goto B 23 dL_law_2231 (by decide) ?_
        refine zV.sub [3, 4, 5, 6, 0] rfl ?_
        exact ih _ _ _ _ (show cs + 3 + n * 3 ≤ 2506 by omega) (show ss + 18 + n * 18 ≤ 25404 by omega) hf
      refine z_icmp_eq B 1214 dL_law_1209 (by decide) (fun e => absurd e c269) (fun _ => ?_)
      refine z_iconst (v := 0) B dL_law_1212 (by decide) ?_
      exact absurd hf (zfalse hr1)
    rcases zite hf with ⟨c273, hf⟩ | ⟨c273, hf⟩
    · refine z_tabIn B 18 1234 dL_law_39 c273 (by decide) (by decide) rfl (by decide) ?_
      refine z_aload_n B dL_law_1234 rfl 1 rfl ?_
      refine z_aload_n B dL_law_1235 rfl 0 rfl ?_
      refine z_iload B dL_law_1236 4 rfl ?_
      refine z_iconst (v := 1) B dL_law_1238 (by decide) ?_
      refine z_iadd B dL_law_1239 ?_
      obtain ⟨w274, ew274, hf⟩ := zbs hf
      refine z_sc B ew274 dL_law_1240 ?_
      refine z_aload_n B dL_law_1241 rfl 0 rfl ?_
      refine z_iload B dL_law_1242 4 rfl ?_
      refine z_iconst (v := 2) B dL_law_1244 (by decide) ?_
      refine z_iadd B dL_law_1245 ?_
      obtain ⟨w275, ew275, hf⟩ := zbs hf
      refine z_sc B ew275 dL_law_1246 ?_
      refine z_aload_n B dL_law_1247 rfl 0 rfl ?_
      refine z_iload B dL_law_1248 4 rfl ?_
      refine z_iconst (v := 3) B dL_law_1250 (by decide) ?_
      refine z_iadd B dL_law_1251 ?_
      obtain ⟨w276, ew276, hf⟩ := zbs hf
      refine z_sc B ew276 dL_law_1252 ?_
      refine z_aload_n B dL_law_1253 rfl 3 rfl ?_
      obtain ⟨w277, h278, ew277, hf⟩ := zb2s hf
      refine z_callSW B [.ref u1, .int w274, .int w275, .int w276, .ref u3] [] cw_L_step mt_RL_182 (tL_step hst ew277) ⟨rfl, rfl, (Nat.le_of_ble_eq_true rfl), (Nat.le_of_ble_eq_true rfl), (show cs + 3 ≤ 601024 by omega), (show ss + 18 ≤ 7293034 by omega)⟩ rfl rfl (Nat.le_of_ble_eq_true rfl) dL_law_1254 ?_
      refine z_istore (lv' := [(5, .int w277), (0, .ref (zgb G)), (1, .ref u1), (2, .ref u2), (3, .ref u3), (4, .int v4)]) B dL_law_1257 (by decide) rfl ?_
      refine z_aload_n B dL_law_1259 rfl 3 rfl ?_
      refine z_aload_n B dL_law_1260 rfl 1 rfl ?_
      refine z_iload B dL_law_1261 5 rfl ?_
      refine z_iconst (v := 1) B dL_law_1263 (by decide) ?_
      refine z_iadd B dL_law_1264 ?_
      obtain ⟨w279, ew279, hf⟩ := zbs hf
      refine z_sc B ew279 dL_law_1265 ?_
      refine z_aload_n B dL_law_1266 rfl 1 rfl ?_
      refine z_iload B dL_law_1267 5 rfl ?_
      refine z_iconst (v := 2) B dL_law_1269 (by decide) ?_
      refine z_iadd B dL_law_1270 ?_
      obtain ⟨w280, ew280, hf⟩ := zbs hf
      refine z_sc B ew280 dL_law_1271 ?_
      refine z_aload_n B dL_law_1272 rfl 1 rfl ?_
      refine z_iload B dL_law_1273 5 rfl ?_
      refine z_iconst (v := 3) B dL_law_1275 (by decide) ?_
      refine z_iadd B dL_law_1276 ?_
      obtain ⟨w281, ew281, hf⟩ := zbs hf
      refine z_sc B ew281 dL_law_1277 ?_
      obtain ⟨w282, h283, ew282, hf⟩ := zb2s hf
      refine z_callVi B [.int w279, .int w280, .int w281] [] cw_X7_step mv_RL_184 (tX7_step hst ew282) rfl (by decide) (kfX7_step ew282) ⟨rfl, rfl, (Nat.le_of_ble_eq_true rfl), (Nat.le_of_ble_eq_true rfl), (show cs + 3 ≤ 601024 by omega), (show ss + 18 ≤ 7293034 by omega)⟩ rfl rfl (Nat.le_of_ble_eq_true rfl) dL_law_1278 ?_
      refine z_istore (lv' := [(6, .int w282), (5, .int w277), (0, .ref (zgb G)), (1, .ref u1), (2, .ref u2), (3, .ref u3), (4, .int v4)]) B dL_law_1281 (by decide) rfl ?_
      refine z_aload_n B dL_law_1283 rfl 4 rfl ?_
      obtain ⟨w284, h285, ew284, hf⟩ := zb2s hf
      refine z_callVi B [] [] cw_X7_thrown mv_RL_122 (tX7_thrown hst ew284) rfl (by decide) (kfX7_thrown ew284) ⟨rfl, rfl, (Nat.le_of_ble_eq_true rfl), (Nat.le_of_ble_eq_true rfl), (show cs + 3 ≤ 601024 by omega), (show ss + 18 ≤ 7293034 by omega)⟩ rfl rfl (Nat.le_of_ble_eq_true rfl) dL_law_1284 ?_
      refine z_iload B dL_law_1287 1 rfl ?_
      rcases zite hf with ⟨c286, hf⟩ | ⟨c286, hf⟩
      · refine z_icmp_eq B 1294 dL_law_1289 (by decide) (fun _ => ?_) (fun e => absurd c286 e)
        refine z_iload B dL_law_1294 1 rfl ?_
        rcases zite hf with ⟨c287, hf⟩ | ⟨c287, hf⟩
        · refine z_if_ne B 1311 dL_law_1296 (by decide) (fun e => absurd c287 e) (fun _ => ?_)
          refine z_aload_n B dL_law_1299 rfl 5 rfl ?_
          refine z_iconst (v := 0) B dL_law_1300 (by decide) ?_
          obtain ⟨w288, ew288, hf⟩ := zbs hf
          refine z_aJ B ew288 dL_law_1301 ?_
          refine z_iload B dL_law_1302 0 rfl ?_
          refine z_i2l B dL_law_1304 ?_
          refine z_lcmp B dL_law_1305 ?_
          rcases zite hf with ⟨c289, hf⟩ | ⟨c289, hf⟩
          · refine z_if_eq B 1311 dL_law_1306 (by decide) (fun _ => ?_) (fun e => absurd c289 e)
            refine z_goto B 2228 dL_law_1311 (by decide) ?_
            refine z_iinc (v' := (v4 + 4)) (lv' := [(4, .int (v4 + 4)), (6, .int w282), (5, .int w277), (0, .ref (zgb G)), (1, .ref u1), (2, .ref u2), (3, .ref u3)]) B dL_law_2228 6 rfl rfl (by decide) rfl ?_
            refine z_goto B 23 dL_law_2231 (by decide) ?_
            refine zV.sub [3, 4, 5, 6, 0] rfl ?_
            exact ih _ _ _ _ (show cs + 3 + n * 3 ≤ 2506 by omega) (show ss + 18 + n * 18 ≤ 25404 by omega) hf
          refine z_if_eq B 1311 dL_law_1306 (by decide) (fun e => absurd e c289) (fun _ => ?_)
          refine z_iconst (v := 0) B dL_law_1309 (by decide) ?_
          exact absurd hf (zfalse hr1)
        refine z_if_ne B 1311 dL_law_1296 (by decide) (fun _ => ?_) (fun e => absurd e c287)
        refine z_goto B 2228 dL_law_1311 (by decide) ?_
        refine z_iinc (v' := (v4 + 4)) (lv' := [(4, .int (v4 + 4)), (6, .int w282), (5, .int w277), (0, .ref (zgb G)), (1, .ref u1), (2, .ref u2), (3, .ref u3)]) B dL_law_2228 6 rfl rfl (by decide) rfl ?_
        refine z_goto B 23 dL_law_2231 (by decide) ?_
        refine zV.sub [3, 4, 5, 6, 0] rfl ?_
        exact ih _ _ _ _ (show cs + 3 + n * 3 ≤ 2506 by omega) (show ss + 18 + n * 18 ≤ 25404 by omega) hf
      refine z_icmp_eq B 1294 dL_law_1289 (by decide) (fun e => absurd e c286) (fun _ => ?_)
      refine z_iconst (v := 0) B dL_law_1292 (by decide) ?_
      exact absurd hf (zfalse hr1)
    rcases zite hf with ⟨c290, hf⟩ | ⟨c290, hf⟩
    · refine z_tabIn B 19 1314 dL_law_39 c290 (by decide) (by decide) rfl (by decide) ?_
      refine z_aload_n B dL_law_1314 rfl 1 rfl ?_
      refine z_aload_n B dL_law_1315 rfl 0 rfl ?_
      refine z_iload B dL_law_1316 4 rfl ?_
      refine z_iconst (v := 1) B dL_law_1318 (by decide) ?_
      refine z_iadd B dL_law_1319 ?_
      obtain ⟨w291, ew291, hf⟩ := zbs hf
      refine z_sc B ew291 dL_law_1320 ?_
      refine z_aload_n B dL_law_1321 rfl 0 rfl ?_
      refine z_iload B dL_law_1322 4 rfl ?_
      refine z_iconst (v := 2) B dL_law_1324 (by decide) ?_
      refine z_iadd B dL_law_1325 ?_
      obtain ⟨w292, ew292, hf⟩ := zbs hf
      refine z_sc B ew292 dL_law_1326 ?_
      refine z_aload_n B dL_law_1327 rfl 0 rfl ?_
      refine z_iload B dL_law_1328 4 rfl ?_
      refine z_iconst (v := 3) B dL_law_1330 (by decide) ?_
      refine z_iadd B dL_law_1331 ?_
      obtain ⟨w293, ew293, hf⟩ := zbs hf
      refine z_sc B ew293 dL_law_1332 ?_
      refine z_aload_n B dL_law_1333 rfl 3 rfl ?_
      obtain ⟨w294, h295, ew294, hf⟩ := zb2s hf
      refine z_callSW B [.ref u1, .int w291, .int w292, .int w293, .ref u3] [] cw_L_sizeAfter mt_RL_185 (tL_sizeAfter hst ew294) ⟨rfl, rfl, (Nat.le_of_ble_eq_true rfl), (Nat.le_of_ble_eq_true rfl), (show cs + 3 ≤ 601024 by omega), (show ss + 18 ≤ 7293034 by omega)⟩ rfl rfl (Nat.le_of_ble_eq_true rfl) dL_law_1334 ?_
      refine z_istore (lv' := [(5, .int w294), (0, .ref (zgb G)), (1, .ref u1), (2, .ref u2), (3, .ref u3), (4, .int v4)]) B dL_law_1337 (by decide) rfl ?_
      refine z_aload_n B dL_law_1339 rfl 3 rfl ?_
      refine z_aload_n B dL_law_1340 rfl 1 rfl ?_
      refine z_iload B dL_law_1341 5 rfl ?_
      refine z_iconst (v := 1) B dL_law_1343 (by decide) ?_
      refine z_iadd B dL_law_1344 ?_
      obtain ⟨w296, ew296, hf⟩ := zbs hf
      refine z_sc B ew296 dL_law_1345 ?_
      refine z_aload_n B dL_law_1346 rfl 1 rfl ?_
      refine z_iload B dL_law_1347 5 rfl ?_
      refine z_iconst (v := 2) B dL_law_1349 (by decide) ?_
      refine z_iadd B dL_law_1350 ?_
      obtain ⟨w297, ew297, hf⟩ := zbs hf
      refine z_sc B ew297 dL_law_1351 ?_
      refine z_aload_n B dL_law_1352 rfl 1 rfl ?_
      refine z_iload B dL_law_1353 5 rfl ?_
      refine z_iconst (v := 3) B dL_law_1355 (by decide) ?_
      refine z_iadd B dL_law_1356 ?_
      obtain ⟨w298, ew298, hf⟩ := zbs hf
      refine z_sc B ew298 dL_law_1357 ?_
      obtain ⟨w299, h300, ew299, hf⟩ := zb2s hf
      refine z_callVi B [.int w296, .int w297, .int w298] [] cw_X7_sizeAfter mv_RL_187 (tX7_sizeAfter hst ew299) rfl (by decide) (kfX7_sizeAfter ew299) ⟨rfl, rfl, (Nat.le_of_ble_eq_true rfl), (Nat.le_of_ble_eq_true rfl), (show cs + 3 ≤ 601024 by omega), (show ss + 18 ≤ 7293034 by omega)⟩ rfl rfl (Nat.le_of_ble_eq_true rfl) dL_law_1358 ?_
      refine z_istore (lv' := [(6, .int w299), (5, .int w294), (0, .ref (zgb G)), (1, .ref u1), (2, .ref u2), (3, .ref u3), (4, .int v4)]) B dL_law_1361 (by decide) rfl ?_
      refine z_aload_n B dL_law_1363 rfl 4 rfl ?_
      obtain ⟨w301, h302, ew301, hf⟩ := zb2s hf
      refine z_callVi B [] [] cw_X7_thrown mv_RL_122 (tX7_thrown hst ew301) rfl (by decide) (kfX7_thrown ew301) ⟨rfl, rfl, (Nat.le_of_ble_eq_true rfl), (Nat.le_of_ble_eq_true rfl), (show cs + 3 ≤ 601024 by omega), (show ss + 18 ≤ 7293034 by omega)⟩ rfl rfl (Nat.le_of_ble_eq_true rfl) dL_law_1364 ?_
      refine z_iload B dL_law_1367 1 rfl ?_
      rcases zite hf with ⟨c303, hf⟩ | ⟨c303, hf⟩
      · refine z_icmp_eq B 1374 dL_law_1369 (by decide) (fun _ => ?_) (fun e => absurd c303 e)
        refine z_iload B dL_law_1374 1 rfl ?_
        rcases zite hf with ⟨c304, hf⟩ | ⟨c304, hf⟩
        · refine z_if_ne B 1391 dL_law_1376 (by decide) (fun e => absurd c304 e) (fun _ => ?_)
          refine z_aload_n B dL_law_1379 rfl 5 rfl ?_
          refine z_iconst (v := 0) B dL_law_1380 (by decide) ?_
          obtain ⟨w305, ew305, hf⟩ := zbs hf
          refine z_aJ B ew305 dL_law_1381 ?_
          refine z_iload B dL_law_1382 0 rfl ?_
          refine z_i2l B dL_law_1384 ?_
          refine z_lcmp B dL_law_1385 ?_
          rcases zite hf with ⟨c306, hf⟩ | ⟨c306, hf⟩
          · refine z_if_eq B 1391 dL_law_1386 (by decide) (fun _ => ?_) (fun e => absurd c306 e)
            refine z_goto B 2228 dL_law_1391 (by decide) ?_
            refine z_iinc (v' := (v4 + 4)) (lv' := [(4, .int (v4 + 4)), (6, .int w299), (5, .int w294), (0, .ref (zgb G)), (1, .ref u1), (2, .ref u2), (3, .ref u3)]) B dL_law_2228 6 rfl rfl (by decide) rfl ?_
            refine z_goto B 23 dL_law_2231 (by decide) ?_
            refine zV.sub [3, 4, 5, 6, 0] rfl ?_
            exact ih _ _ _ _ (show cs + 3 + n * 3 ≤ 2506 by omega) (show ss + 18 + n * 18 ≤ 25404 by omega) hf
          refine z_if_eq B 1391 dL_law_1386 (by decide) (fun e => absurd e c306) (fun _ => ?_)
          refine z_iconst (v := 0) B dL_law_1389 (by decide) ?_
          exact absurd hf (zfalse hr1)
        refine z_if_ne B 1391 dL_law_1376 (by decide) (fun _ => ?_) (fun e => absurd e c304)
        refine z_goto B 2228 dL_law_1391 (by decide) ?_
        refine z_iinc (v' := (v4 + 4)) (lv' := [(4, .int (v4 + 4)), (6, .int w299), (5, .int w294), (0, .ref (zgb G)), (1, .ref u1), (2, .ref u2), (3, .ref u3)]) B dL_law_2228 6 rfl rfl (by decide) rfl ?_
        refine z_goto B 23 dL_law_2231 (by decide) ?_
        refine zV.sub [3, 4, 5, 6, 0] rfl ?_
        exact ih _ _ _ _ (show cs + 3 + n * 3 ≤ 2506 by omega) (show ss + 18 + n * 18 ≤ 25404 by omega) hf
      refine z_icmp_eq B 1374 dL_law_1369 (by decide) (fun e => absurd e c303) (fun _ => ?_)
      refine z_iconst (v := 0) B dL_law_1372 (by decide) ?_
      exact absurd hf (zfalse hr1)
    rcases zite hf with ⟨c307, hf⟩ | ⟨c307, hf⟩
    · refine z_tabIn B 20 1394 dL_law_39 c307 (by decide) (by decide) rfl (by decide) ?_
      refine z_aload_n B dL_law_1394 rfl 1 rfl ?_
      refine z_aload_n B dL_law_1395 rfl 0 rfl ?_
      refine z_iload B dL_law_1396 4 rfl ?_
      refine z_iconst (v := 1) B dL_law_1398 (by decide) ?_
      refine z_iadd B dL_law_1399 ?_
      obtain ⟨w308, ew308, hf⟩ := zbs hf
      refine z_sc B ew308 dL_law_1400 ?_
      refine z_aload_n B dL_law_1401 rfl 3 rfl ?_
      obtain ⟨w309, h310, ew309, hf⟩ := zb2s hf
      refine z_callSW B [.ref u1, .int w308, .ref u3] [] cw_L_reachable mt_RL_188 (tL_reachable hst ew309) ⟨rfl, rfl, (Nat.le_of_ble_eq_true rfl), (Nat.le_of_ble_eq_true rfl), (show cs + 1 ≤ 601024 by omega), (show ss + 6 ≤ 7293034 by omega)⟩ rfl rfl (Nat.le_of_ble_eq_true rfl) dL_law_1402 ?_
      refine z_istore (lv' := [(5, .int w309), (0, .ref (zgb G)), (1, .ref u1), (2, .ref u2), (3, .ref u3), (4, .int v4)]) B dL_law_1405 (by decide) rfl ?_
      refine z_aload_n B dL_law_1407 rfl 3 rfl ?_
      refine z_aload_n B dL_law_1408 rfl 1 rfl ?_
      refine z_iload B dL_law_1409 5 rfl ?_
      refine z_iconst (v := 1) B dL_law_1411 (by decide) ?_
      refine z_iadd B dL_law_1412 ?_
      obtain ⟨w311, ew311, hf⟩ := zbs hf
      refine z_sc B ew311 dL_law_1413 ?_
      obtain ⟨w312, h313, ew312, hf⟩ := zb2s hf
      refine z_callVi B [.int w311] [] cw_X7_reachable mv_RL_190 (tX7_reachable hst ew312) rfl (by decide) (kfX7_reachable ew312) ⟨rfl, rfl, (Nat.le_of_ble_eq_true rfl), (Nat.le_of_ble_eq_true rfl), (show cs + 1 ≤ 601024 by omega), (show ss + 6 ≤ 7293034 by omega)⟩ rfl rfl (Nat.le_of_ble_eq_true rfl) dL_law_1414 ?_
      refine z_istore (lv' := [(6, .int w312), (5, .int w309), (0, .ref (zgb G)), (1, .ref u1), (2, .ref u2), (3, .ref u3), (4, .int v4)]) B dL_law_1417 (by decide) rfl ?_
      refine z_aload_n B dL_law_1419 rfl 4 rfl ?_
      obtain ⟨w314, h315, ew314, hf⟩ := zb2s hf
      refine z_callVi B [] [] cw_X7_thrown mv_RL_122 (tX7_thrown hst ew314) rfl (by decide) (kfX7_thrown ew314) ⟨rfl, rfl, (Nat.le_of_ble_eq_true rfl), (Nat.le_of_ble_eq_true rfl), (show cs + 1 ≤ 601024 by omega), (show ss + 6 ≤ 7293034 by omega)⟩ rfl rfl (Nat.le_of_ble_eq_true rfl) dL_law_1420 ?_
      refine z_iload B dL_law_1423 1 rfl ?_
      rcases zite hf with ⟨c316, hf⟩ | ⟨c316, hf⟩
      · refine z_icmp_eq B 1430 dL_law_1425 (by decide) (fun _ => ?_) (fun e => absurd c316 e)
        refine z_iload B dL_law_1430 1 rfl ?_
        rcases zite hf with ⟨c317, hf⟩ | ⟨c317, hf⟩
        · refine z_if_ne B 1447 dL_law_1432 (by decide) (fun e => absurd c317 e) (fun _ => ?_)
          refine z_aload_n B dL_law_1435 rfl 5 rfl ?_
          refine z_iconst (v := 0) B dL_law_1436 (by decide) ?_
          obtain ⟨w318, ew318, hf⟩ := zbs hf
          refine z_aJ B ew318 dL_law_1437 ?_
          refine z_iload B dL_law_1438 0 rfl ?_
          refine z_i2l B dL_law_1440 ?_
          refine z_lcmp B dL_law_1441 ?_
          rcases zite hf with ⟨c319, hf⟩ | ⟨c319, hf⟩
          · refine z_if_eq B 1447 dL_law_1442 (by decide) (fun _ => ?_) (fun e => absurd c319 e)
            refine z_goto B 2228 dL_law_1447 (by decide) ?_
            refine z_iinc (v' := (v4 + 4)) (lv' := [(4, .int (v4 + 4)), (6, .int w312), (5, .int w309), (0, .ref (zgb G)), (1, .ref u1), (2, .ref u2), (3, .ref u3)]) B dL_law_2228 6 rfl rfl (by decide) rfl ?_
            refine z_goto B 23 dL_law_2231 (by decide) ?_
            refine zV.sub [3, 4, 5, 6, 0] rfl ?_
            exact ih _ _ _ _ (show cs + 1 + n * 3 ≤ 2506 by omega) (show ss + 6 + n * 18 ≤ 25404 by omega) hf
          refine z_if_eq B 1447 dL_law_1442 (by decide) (fun e => absurd e c319) (fun _ => ?_)
          refine z_iconst (v := 0) B dL_law_1445 (by decide) ?_
          exact absurd hf (zfalse hr1)
        refine z_if_ne B 1447 dL_law_1432 (by decide) (fun _ => ?_) (fun e => absurd e c317)
        refine z_goto B 2228 dL_law_1447 (by decide) ?_
        refine z_iinc (v' := (v4 + 4)) (lv' := [(4, .int (v4 + 4)), (6, .int w312), (5, .int w309), (0, .ref (zgb G)), (1, .ref u1), (2, .ref u2), (3, .ref u3)]) B dL_law_2228 6 rfl rfl (by decide) rfl ?_
        refine z_goto B 23 dL_law_2231 (by decide) ?_
        refine zV.sub [3, 4, 5, 6, 0] rfl ?_
        exact ih _ _ _ _ (show cs + 1 + n * 3 ≤ 2506 by omega) (show ss + 6 + n * 18 ≤ 25404 by omega) hf
      refine z_icmp_eq B 1430 dL_law_1425 (by decide) (fun e => absurd e c316) (fun _ => ?_)
      refine z_iconst (v := 0) B dL_law_1428 (by decide) ?_
      exact absurd hf (zfalse hr1)
    rcases zite hf with ⟨c320, hf⟩ | ⟨c320, hf⟩
    · refine z_tabIn B 21 1450 dL_law_39 c320 (by decide) (by decide) rfl (by decide) ?_
      refine z_aload_n B dL_law_1450 rfl 1 rfl ?_
      refine z_aload_n B dL_law_1451 rfl 0 rfl ?_
      refine z_iload B dL_law_1452 4 rfl ?_
      refine z_iconst (v := 1) B dL_law_1454 (by decide) ?_
      refine z_iadd B dL_law_1455 ?_
      obtain ⟨w321, ew321, hf⟩ := zbs hf
      refine z_sc B ew321 dL_law_1456 ?_
      refine z_aload_n B dL_law_1457 rfl 0 rfl ?_
      refine z_iload B dL_law_1458 4 rfl ?_
      refine z_iconst (v := 2) B dL_law_1460 (by decide) ?_
      refine z_iadd B dL_law_1461 ?_
      obtain ⟨w322, ew322, hf⟩ := zbs hf
      refine z_sc B ew322 dL_law_1462 ?_
      refine z_aload_n B dL_law_1463 rfl 0 rfl ?_
      refine z_iload B dL_law_1464 4 rfl ?_
      refine z_iconst (v := 3) B dL_law_1466 (by decide) ?_
      refine z_iadd B dL_law_1467 ?_
      obtain ⟨w323, ew323, hf⟩ := zbs hf
      refine z_sc B ew323 dL_law_1468 ?_
      refine z_aload_n B dL_law_1469 rfl 3 rfl ?_
      obtain ⟨w324, h325, ew324, hf⟩ := zb2s hf
      refine z_callSW B [.ref u1, .int w321, .int w322, .int w323, .ref u3] [] cw_L_without mt_RL_191 (tL_without hst ew324) ⟨rfl, rfl, (Nat.le_of_ble_eq_true rfl), (Nat.le_of_ble_eq_true rfl), (show cs + 3 ≤ 601024 by omega), (show ss + 18 ≤ 7293034 by omega)⟩ rfl rfl (Nat.le_of_ble_eq_true rfl) dL_law_1470 ?_
      refine z_istore (lv' := [(5, .int w324), (0, .ref (zgb G)), (1, .ref u1), (2, .ref u2), (3, .ref u3), (4, .int v4)]) B dL_law_1473 (by decide) rfl ?_
      refine z_aload_n B dL_law_1475 rfl 3 rfl ?_
      refine z_aload_n B dL_law_1476 rfl 1 rfl ?_
      refine z_iload B dL_law_1477 5 rfl ?_
      refine z_iconst (v := 1) B dL_law_1479 (by decide) ?_
      refine z_iadd B dL_law_1480 ?_
      obtain ⟨w326, ew326, hf⟩ := zbs hf
      refine z_sc B ew326 dL_law_1481 ?_
      refine z_aload_n B dL_law_1482 rfl 1 rfl ?_
      refine z_iload B dL_law_1483 5 rfl ?_
      refine z_iconst (v := 2) B dL_law_1485 (by decide) ?_
      refine z_iadd B dL_law_1486 ?_
      obtain ⟨w327, ew327, hf⟩ := zbs hf
      refine z_sc B ew327 dL_law_1487 ?_
      refine z_aload_n B dL_law_1488 rfl 1 rfl ?_
      refine z_iload B dL_law_1489 5 rfl ?_
      refine z_iconst (v := 3) B dL_law_1491 (by decide) ?_
      refine z_iadd B dL_law_1492 ?_
      obtain ⟨w328, ew328, hf⟩ := zbs hf
      refine z_sc B ew328 dL_law_1493 ?_
      obtain ⟨w329, h330, ew329, hf⟩ := zb2s hf
      refine z_callVi B [.int w326, .int w327, .int w328] [] cw_X7_without mv_RL_193 (tX7_without hst ew329) rfl (by decide) (kfX7_without ew329) ⟨rfl, rfl, (Nat.le_of_ble_eq_true rfl), (Nat.le_of_ble_eq_true rfl), (show cs + 3 ≤ 601024 by omega), (show ss + 18 ≤ 7293034 by omega)⟩ rfl rfl (Nat.le_of_ble_eq_true rfl) dL_law_1494 ?_
      refine z_istore (lv' := [(6, .int w329), (5, .int w324), (0, .ref (zgb G)), (1, .ref u1), (2, .ref u2), (3, .ref u3), (4, .int v4)]) B dL_law_1497 (by decide) rfl ?_
      refine z_aload_n B dL_law_1499 rfl 4 rfl ?_
      obtain ⟨w331, h332, ew331, hf⟩ := zb2s hf
      refine z_callVi B [] [] cw_X7_thrown mv_RL_122 (tX7_thrown hst ew331) rfl (by decide) (kfX7_thrown ew331) ⟨rfl, rfl, (Nat.le_of_ble_eq_true rfl), (Nat.le_of_ble_eq_true rfl), (show cs + 3 ≤ 601024 by omega), (show ss + 18 ≤ 7293034 by omega)⟩ rfl rfl (Nat.le_of_ble_eq_true rfl) dL_law_1500 ?_
      refine z_iload B dL_law_1503 1 rfl ?_
      rcases zite hf with ⟨c333, hf⟩ | ⟨c333, hf⟩
      · refine z_icmp_eq B 1510 dL_law_1505 (by decide) (fun _ => ?_) (fun e => absurd c333 e)
        refine z_iload B dL_law_1510 1 rfl ?_
        rcases zite hf with ⟨c334, hf⟩ | ⟨c334, hf⟩
        · refine z_if_ne B 1527 dL_law_1512 (by decide) (fun e => absurd c334 e) (fun _ => ?_)
          refine z_aload_n B dL_law_1515 rfl 5 rfl ?_
          refine z_iconst (v := 0) B dL_law_1516 (by decide) ?_
          obtain ⟨w335, ew335, hf⟩ := zbs hf
          refine z_aJ B ew335 dL_law_1517 ?_
          refine z_iload B dL_law_1518 0 rfl ?_
          refine z_i2l B dL_law_1520 ?_
          refine z_lcmp B dL_law_1521 ?_
          rcases zite hf with ⟨c336, hf⟩ | ⟨c336, hf⟩
          · refine z_if_eq B 1527 dL_law_1522 (by decide) (fun _ => ?_) (fun e => absurd c336 e)
            refine z_goto B 2228 dL_law_1527 (by decide) ?_
            refine z_iinc (v' := (v4 + 4)) (lv' := [(4, .int (v4 + 4)), (6, .int w329), (5, .int w324), (0, .ref (zgb G)), (1, .ref u1), (2, .ref u2), (3, .ref u3)]) B dL_law_2228 6 rfl rfl (by decide) rfl ?_
            refine z_goto B 23 dL_law_2231 (by decide) ?_
            refine zV.sub [3, 4, 5, 6, 0] rfl ?_
            exact ih _ _ _ _ (show cs + 3 + n * 3 ≤ 2506 by omega) (show ss + 18 + n * 18 ≤ 25404 by omega) hf
          refine z_if_eq B 1527 dL_law_1522 (by decide) (fun e => absurd e c336) (fun _ => ?_)
          refine z_iconst (v := 0) B dL_law_1525 (by decide) ?_
          exact absurd hf (zfalse hr1)
        refine z_if_ne B 1527 dL_law_1512 (by decide) (fun _ => ?_) (fun e => absurd e c334)
        refine z_goto B 2228 dL_law_1527 (by decide) ?_
        refine z_iinc (v' := (v4 + 4)) (lv' := [(4, .int (v4 + 4)), (6, .int w329), (5, .int w324), (0, .ref (zgb G)), (1, .ref u1), (2, .ref u2), (3, .ref u3)]) B dL_law_2228 6 rfl rfl (by decide) rfl ?_
        refine z_goto B 23 dL_law_2231 (by decide) ?_
        refine zV.sub [3, 4, 5, 6, 0] rfl ?_
        exact ih _ _ _ _ (show cs + 3 + n * 3 ≤ 2506 by omega) (show ss + 18 + n * 18 ≤ 25404 by omega) hf
      refine z_icmp_eq B 1510 dL_law_1505 (by decide) (fun e => absurd e c333) (fun _ => ?_)
      refine z_iconst (v := 0) B dL_law_1508 (by decide) ?_
      exact absurd hf (zfalse hr1)
    rcases zite hf with ⟨c337, hf⟩ | ⟨c337, hf⟩
    · refine z_tabIn B 22 1530 dL_law_39 c337 (by decide) (by decide) rfl (by decide) ?_
      refine z_aload_n B dL_law_1530 rfl 1 rfl ?_
      refine z_aload_n B dL_law_1531 rfl 0 rfl ?_
      refine z_iload B dL_law_1532 4 rfl ?_
      refine z_iconst (v := 1) B dL_law_1534 (by decide) ?_
      refine z_iadd B dL_law_1535 ?_
      obtain ⟨w338, ew338, hf⟩ := zbs hf
      refine z_sc B ew338 dL_law_1536 ?_
      refine z_aload_n B dL_law_1537 rfl 3 rfl ?_
      obtain ⟨w339, h340, ew339, hf⟩ := zb2s hf
      refine z_callSW B [.ref u1, .int w338, .ref u3] [] cw_L_worth mt_RL_194 (tL_worth hst ew339) ⟨rfl, rfl, (Nat.le_of_ble_eq_true rfl), (Nat.le_of_ble_eq_true rfl), (show cs + 1 ≤ 601024 by omega), (show ss + 6 ≤ 7293034 by omega)⟩ rfl rfl (Nat.le_of_ble_eq_true rfl) dL_law_1538 ?_
      refine z_istore (lv' := [(5, .int w339), (0, .ref (zgb G)), (1, .ref u1), (2, .ref u2), (3, .ref u3), (4, .int v4)]) B dL_law_1541 (by decide) rfl ?_
      refine z_aload_n B dL_law_1543 rfl 3 rfl ?_
      refine z_aload_n B dL_law_1544 rfl 1 rfl ?_
      refine z_iload B dL_law_1545 5 rfl ?_
      refine z_iconst (v := 1) B dL_law_1547 (by decide) ?_
      refine z_iadd B dL_law_1548 ?_
      obtain ⟨w341, ew341, hf⟩ := zbs hf
      refine z_sc B ew341 dL_law_1549 ?_
      obtain ⟨w342, h343, ew342, hf⟩ := zb2s hf
      refine z_callVi B [.int w341] [] cw_X7_worth mv_RL_196 (tX7_worth hst ew342) rfl (by decide) (kfX7_worth ew342) ⟨rfl, rfl, (Nat.le_of_ble_eq_true rfl), (Nat.le_of_ble_eq_true rfl), (show cs + 1 ≤ 601024 by omega), (show ss + 6 ≤ 7293034 by omega)⟩ rfl rfl (Nat.le_of_ble_eq_true rfl) dL_law_1550 ?_
      refine z_istore (lv' := [(6, .int w342), (5, .int w339), (0, .ref (zgb G)), (1, .ref u1), (2, .ref u2), (3, .ref u3), (4, .int v4)]) B dL_law_1553 (by decide) rfl ?_
      refine z_aload_n B dL_law_1555 rfl 4 rfl ?_
      obtain ⟨w344, h345, ew344, hf⟩ := zb2s hf
      refine z_callVi B [] [] cw_X7_thrown mv_RL_122 (tX7_thrown hst ew344) rfl (by decide) (kfX7_thrown ew344) ⟨rfl, rfl, (Nat.le_of_ble_eq_true rfl), (Nat.le_of_ble_eq_true rfl), (show cs + 1 ≤ 601024 by omega), (show ss + 6 ≤ 7293034 by omega)⟩ rfl rfl (Nat.le_of_ble_eq_true rfl) dL_law_1556 ?_
      refine z_iload B dL_law_1559 1 rfl ?_
      rcases zite hf with ⟨c346, hf⟩ | ⟨c346, hf⟩
      · refine z_icmp_eq B 1566 dL_law_1561 (by decide) (fun _ => ?_) (fun e => absurd c346 e)
        refine z_iload B dL_law_1566 1 rfl ?_
        rcases zite hf with ⟨c347, hf⟩ | ⟨c347, hf⟩
        · refine z_if_ne B 1583 dL_law_1568 (by decide) (fun e => absurd c347 e) (fun _ => ?_)
          refine z_aload_n B dL_law_1571 rfl 5 rfl ?_
          refine z_iconst (v := 0) B dL_law_1572 (by decide) ?_
          obtain ⟨w348, ew348, hf⟩ := zbs hf
          refine z_aJ B ew348 dL_law_1573 ?_
          refine z_iload B dL_law_1574 0 rfl ?_
          refine z_i2l B dL_law_1576 ?_
          refine z_lcmp B dL_law_1577 ?_
          rcases zite hf with ⟨c349, hf⟩ | ⟨c349, hf⟩
          · refine z_if_eq B 1583 dL_law_1578 (by decide) (fun _ => ?_) (fun e => absurd c349 e)
            refine z_goto B 2228 dL_law_1583 (by decide) ?_
            refine z_iinc (v' := (v4 + 4)) (lv' := [(4, .int (v4 + 4)), (6, .int w342), (5, .int w339), (0, .ref (zgb G)), (1, .ref u1), (2, .ref u2), (3, .ref u3)]) B dL_law_2228 6 rfl rfl (by decide) rfl ?_
            refine z_goto B 23 dL_law_2231 (by decide) ?_
            refine zV.sub [3, 4, 5, 6, 0] rfl ?_
            exact ih _ _ _ _ (show cs + 1 + n * 3 ≤ 2506 by omega) (show ss + 6 + n * 18 ≤ 25404 by omega) hf
          refine z_if_eq B 1583 dL_law_1578 (by decide) (fun e => absurd e c349) (fun _ => ?_)
          refine z_iconst (v := 0) B dL_law_1581 (by decide) ?_
          exact absurd hf (zfalse hr1)
        refine z_if_ne B 1583 dL_law_1568 (by decide) (fun _ => ?_) (fun e => absurd e c347)
        refine z_goto B 2228 dL_law_1583 (by decide) ?_
        refine z_iinc (v' := (v4 + 4)) (lv' := [(4, .int (v4 + 4)), (6, .int w342), (5, .int w339), (0, .ref (zgb G)), (1, .ref u1), (2, .ref u2), (3, .ref u3)]) B dL_law_2228 6 rfl rfl (by decide) rfl ?_
        refine z_goto B 23 dL_law_2231 (by decide) ?_
        refine zV.sub [3, 4, 5, 6, 0] rfl ?_
        exact ih _ _ _ _ (show cs + 1 + n * 3 ≤ 2506 by omega) (show ss + 6 + n * 18 ≤ 25404 by omega) hf
      refine z_icmp_eq B 1566 dL_law_1561 (by decide) (fun e => absurd e c346) (fun _ => ?_)
      refine z_iconst (v := 0) B dL_law_1564 (by decide) ?_
      exact absurd hf (zfalse hr1)
    rcases zite hf with ⟨c350, hf⟩ | ⟨c350, hf⟩
    · refine z_tabIn B 23 1586 dL_law_39 c350 (by decide) (by decide) rfl (by decide) ?_
      refine z_aload_n B dL_law_1586 rfl 1 rfl ?_
      obtain ⟨w351, h352, ew351, hf⟩ := zb2s hf
      refine z_callVi B [] [] cw_X6_idle mv_RL_197 (tX6_idle hst ew351) rfl (by decide) (kfX6_idle ew351) ⟨rfl, rfl, (Nat.le_of_ble_eq_true rfl), (Nat.le_of_ble_eq_true rfl), (show cs ≤ 601024 by omega), (show ss ≤ 7293034 by omega)⟩ rfl rfl (Nat.le_of_ble_eq_true rfl) dL_law_1587 ?_
      refine z_aload_n B dL_law_1590 rfl 2 rfl ?_
      obtain ⟨w353, h354, ew353, hf⟩ := zb2s hf
      refine z_callVi B [] [.int w351] cw_X7_idle mv_RL_200 (tX7_idle hst ew353) rfl (by decide) (kfX7_idle ew353) ⟨rfl, rfl, (Nat.le_of_ble_eq_true rfl), (Nat.le_of_ble_eq_true rfl), (show cs ≤ 601024 by omega), (show ss ≤ 7293034 by omega)⟩ rfl rfl (Nat.le_of_ble_eq_true rfl) dL_law_1591 ?_
      rcases zite hf with ⟨c355, hf⟩ | ⟨c355, hf⟩
      · refine z_icmp_eq B 2228 dL_law_1594 (by decide) (fun _ => ?_) (fun e => absurd c355 e)
        refine z_iinc (v' := (v4 + 4)) (lv' := [(4, .int (v4 + 4)), (0, .ref (zgb G)), (1, .ref u1), (2, .ref u2), (3, .ref u3)]) B dL_law_2228 4 rfl rfl (by decide) rfl ?_
        refine z_goto B 23 dL_law_2231 (by decide) ?_
        refine zV.sub [1, 2, 3, 4, 0] rfl ?_
        exact ih _ _ _ _ (show cs + n * 3 ≤ 2506 by omega) (show ss + n * 18 ≤ 25404 by omega) hf
      refine z_icmp_eq B 2228 dL_law_1594 (by decide) (fun e => absurd e c355) (fun _ => ?_)
      refine z_iconst (v := 0) B dL_law_1597 (by decide) ?_
      exact absurd hf (zfalse hr1)
    rcases zite hf with ⟨c356, hf⟩ | ⟨c356, hf⟩
    · refine z_tabIn B 24 1599 dL_law_39 c356 (by decide) (by decide) rfl (by decide) ?_
      refine z_aload_n B dL_law_1599 rfl 1 rfl ?_
      refine z_aload_n B dL_law_1600 rfl 0 rfl ?_
      refine z_iload B dL_law_1601 4 rfl ?_
      refine z_iconst (v := 1) B dL_law_1603 (by decide) ?_
      refine z_iadd B dL_law_1604 ?_
      obtain ⟨w357, ew357, hf⟩ := zbs hf
      refine z_sc B ew357 dL_law_1605 ?_
      refine z_aload_n B dL_law_1606 rfl 3 rfl ?_
      obtain ⟨w358, h359, ew358, hf⟩ := zb2s hf
      refine z_callSW B [.ref u1, .int w357, .ref u3] [] cw_L_between mt_RL_201 (tL_between hst ew358) ⟨rfl, rfl, (Nat.le_of_ble_eq_true rfl), (Nat.le_of_ble_eq_true rfl), (show cs + 1 ≤ 601024 by omega), (show ss + 6 ≤ 7293034 by omega)⟩ rfl rfl (Nat.le_of_ble_eq_true rfl) dL_law_1607 ?_
      refine z_istore (lv' := [(5, .int w358), (0, .ref (zgb G)), (1, .ref u1), (2, .ref u2), (3, .ref u3), (4, .int v4)]) B dL_law_1610 (by decide) rfl ?_
      refine z_aload_n B dL_law_1612 rfl 3 rfl ?_
      refine z_aload_n B dL_law_1613 rfl 1 rfl ?_
      refine z_iload B dL_law_1614 5 rfl ?_
      refine z_iconst (v := 1) B dL_law_1616 (by decide) ?_
      refine z_iadd B dL_law_1617 ?_
      obtain ⟨w360, ew360, hf⟩ := zbs hf
      refine z_sc B ew360 dL_law_1618 ?_
      obtain ⟨w361, h362, ew361, hf⟩ := zb2s hf
      refine z_callVi B [.int w360] [] cw_X7_between mv_RL_203 (tX7_between hst ew361) rfl (by decide) (kfX7_between ew361) ⟨rfl, rfl, (Nat.le_of_ble_eq_true rfl), (Nat.le_of_ble_eq_true rfl), (show cs + 1 ≤ 601024 by omega), (show ss + 6 ≤ 7293034 by omega)⟩ rfl rfl (Nat.le_of_ble_eq_true rfl) dL_law_1619 ?_
      refine z_istore (lv' := [(6, .int w361), (5, .int w358), (0, .ref (zgb G)), (1, .ref u1), (2, .ref u2), (3, .ref u3), (4, .int v4)]) B dL_law_1622 (by decide) rfl ?_
      refine z_aload_n B dL_law_1624 rfl 4 rfl ?_
      obtain ⟨w363, h364, ew363, hf⟩ := zb2s hf
      refine z_callVi B [] [] cw_X7_thrown mv_RL_122 (tX7_thrown hst ew363) rfl (by decide) (kfX7_thrown ew363) ⟨rfl, rfl, (Nat.le_of_ble_eq_true rfl), (Nat.le_of_ble_eq_true rfl), (show cs + 1 ≤ 601024 by omega), (show ss + 6 ≤ 7293034 by omega)⟩ rfl rfl (Nat.le_of_ble_eq_true rfl) dL_law_1625 ?_
      refine z_iload B dL_law_1628 1 rfl ?_
      rcases zite hf with ⟨c365, hf⟩ | ⟨c365, hf⟩
      · refine z_icmp_eq B 1635 dL_law_1630 (by decide) (fun _ => ?_) (fun e => absurd c365 e)
        refine z_iload B dL_law_1635 1 rfl ?_
        rcases zite hf with ⟨c366, hf⟩ | ⟨c366, hf⟩
        · refine z_if_ne B 1652 dL_law_1637 (by decide) (fun e => absurd c366 e) (fun _ => ?_)
          refine z_aload_n B dL_law_1640 rfl 5 rfl ?_
          refine z_iconst (v := 0) B dL_law_1641 (by decide) ?_
          obtain ⟨w367, ew367, hf⟩ := zbs hf
          refine z_aJ B ew367 dL_law_1642 ?_
          refine z_iload B dL_law_1643 0 rfl ?_
          refine z_i2l B dL_law_1645 ?_
          refine z_lcmp B dL_law_1646 ?_
          rcases zite hf with ⟨c368, hf⟩ | ⟨c368, hf⟩
          · refine z_if_eq B 1652 dL_law_1647 (by decide) (fun _ => ?_) (fun e => absurd c368 e)
            refine z_goto B 2228 dL_law_1652 (by decide) ?_
            refine z_iinc (v' := (v4 + 4)) (lv' := [(4, .int (v4 + 4)), (6, .int w361), (5, .int w358), (0, .ref (zgb G)), (1, .ref u1), (2, .ref u2), (3, .ref u3)]) B dL_law_2228 6 rfl rfl (by decide) rfl ?_
            refine z_goto B 23 dL_law_2231 (by decide) ?_
            refine zV.sub [3, 4, 5, 6, 0] rfl ?_
            exact ih _ _ _ _ (show cs + 1 + n * 3 ≤ 2506 by omega) (show ss + 6 + n * 18 ≤ 25404 by omega) hf
          refine z_if_eq B 1652 dL_law_1647 (by decide) (fun e => absurd e c368) (fun _ => ?_)
          refine z_iconst (v := 0) B dL_law_1650 (by decide) ?_
          exact absurd hf (zfalse hr1)
        refine z_if_ne B 1652 dL_law_1637 (by decide) (fun _ => ?_) (fun e => absurd e c366)
        refine z_goto B 2228 dL_law_1652 (by decide) ?_
        refine z_iinc (v' := (v4 + 4)) (lv' := [(4, .int (v4 + 4)), (6, .int w361), (5, .int w358), (0, .ref (zgb G)), (1, .ref u1), (2, .ref u2), (3, .ref u3)]) B dL_law_2228 6 rfl rfl (by decide) rfl ?_
        refine z_goto B 23 dL_law_2231 (by decide) ?_
        refine zV.sub [3, 4, 5, 6, 0] rfl ?_
        exact ih _ _ _ _ (show cs + 1 + n * 3 ≤ 2506 by omega) (show ss + 6 + n * 18 ≤ 25404 by omega) hf
      refine z_icmp_eq B 1635 dL_law_1630 (by decide) (fun e => absurd e c365) (fun _ => ?_)
      refine z_iconst (v := 0) B dL_law_1633 (by decide) ?_
      exact absurd hf (zfalse hr1)
    rcases zite hf with ⟨c369, hf⟩ | ⟨c369, hf⟩
    · refine z_tabIn B 25 1655 dL_law_39 c369 (by decide) (by decide) rfl (by decide) ?_
      refine z_aload_n B dL_law_1655 rfl 1 rfl ?_
      refine z_aload_n B dL_law_1656 rfl 0 rfl ?_
      refine z_iload B dL_law_1657 4 rfl ?_
      refine z_iconst (v := 1) B dL_law_1659 (by decide) ?_
      refine z_iadd B dL_law_1660 ?_
      obtain ⟨w370, ew370, hf⟩ := zbs hf
      refine z_sc B ew370 dL_law_1661 ?_
      refine z_aload_n B dL_law_1662 rfl 0 rfl ?_
      refine z_iload B dL_law_1663 4 rfl ?_
      refine z_iconst (v := 2) B dL_law_1665 (by decide) ?_
      refine z_iadd B dL_law_1666 ?_
      obtain ⟨w371, ew371, hf⟩ := zbs hf
      refine z_sc B ew371 dL_law_1667 ?_
      refine z_aload_n B dL_law_1668 rfl 0 rfl ?_
      refine z_iload B dL_law_1669 4 rfl ?_
      refine z_iconst (v := 3) B dL_law_1671 (by decide) ?_
      refine z_iadd B dL_law_1672 ?_
      obtain ⟨w372, ew372, hf⟩ := zbs hf
      refine z_sc B ew372 dL_law_1673 ?_
      refine z_aload_n B dL_law_1674 rfl 3 rfl ?_
      obtain ⟨w373, h374, ew373, hf⟩ := zb2s hf
      refine z_callSW B [.ref u1, .int w370, .int w371, .int w372, .ref u3] [] cw_L_way mt_RL_204 (tL_way hst ew373) ⟨rfl, rfl, (Nat.le_of_ble_eq_true rfl), (Nat.le_of_ble_eq_true rfl), (show cs + 3 ≤ 601024 by omega), (show ss + 18 ≤ 7293034 by omega)⟩ rfl rfl (Nat.le_of_ble_eq_true rfl) dL_law_1675 ?_
      refine z_istore (lv' := [(5, .int w373), (0, .ref (zgb G)), (1, .ref u1), (2, .ref u2), (3, .ref u3), (4, .int v4)]) B dL_law_1678 (by decide) rfl ?_
      refine z_aload_n B dL_law_1680 rfl 3 rfl ?_
      refine z_aload_n B dL_law_1681 rfl 1 rfl ?_
      refine z_iload B dL_law_1682 5 rfl ?_
      refine z_iconst (v := 1) B dL_law_1684 (by decide) ?_
      refine z_iadd B dL_law_1685 ?_
      obtain ⟨w375, ew375, hf⟩ := zbs hf
      refine z_sc B ew375 dL_law_1686 ?_
      refine z_aload_n B dL_law_1687 rfl 1 rfl ?_
      refine z_iload B dL_law_1688 5 rfl ?_
      refine z_iconst (v := 2) B dL_law_1690 (by decide) ?_
      refine z_iadd B dL_law_1691 ?_
      obtain ⟨w376, ew376, hf⟩ := zbs hf
      refine z_sc B ew376 dL_law_1692 ?_
      refine z_aload_n B dL_law_1693 rfl 1 rfl ?_
      refine z_iload B dL_law_1694 5 rfl ?_
      refine z_iconst (v := 3) B dL_law_1696 (by decide) ?_
      refine z_iadd B dL_law_1697 ?_
      obtain ⟨w377, ew377, hf⟩ := zbs hf
      refine z_sc B ew377 dL_law_1698 ?_
      obtain ⟨w378, h379, ew378, hf⟩ := zb2s hf
      refine z_callVi B [.int w375, .int w376, .int w377] [] cw_X7_way mv_RL_206 (tX7_way hst ew378) rfl (by decide) (kfX7_way ew378) ⟨rfl, rfl, (Nat.le_of_ble_eq_true rfl), (Nat.le_of_ble_eq_true rfl), (show cs + 3 ≤ 601024 by omega), (show ss + 18 ≤ 7293034 by omega)⟩ rfl rfl (Nat.le_of_ble_eq_true rfl) dL_law_1699 ?_
      refine z_istore (lv' := [(6, .int w378), (5, .int w373), (0, .ref (zgb G)), (1, .ref u1), (2, .ref u2), (3, .ref u3), (4, .int v4)]) B dL_law_1702 (by decide) rfl ?_
      refine z_aload_n B dL_law_1704 rfl 4 rfl ?_
      obtain ⟨w380, h381, ew380, hf⟩ := zb2s hf
      refine z_callVi B [] [] cw_X7_thrown mv_RL_122 (tX7_thrown hst ew380) rfl (by decide) (kfX7_thrown ew380) ⟨rfl, rfl, (Nat.le_of_ble_eq_true rfl), (Nat.le_of_ble_eq_true rfl), (show cs + 3 ≤ 601024 by omega), (show ss + 18 ≤ 7293034 by omega)⟩ rfl rfl (Nat.le_of_ble_eq_true rfl) dL_law_1705 ?_
      refine z_iload B dL_law_1708 1 rfl ?_
      rcases zite hf with ⟨c382, hf⟩ | ⟨c382, hf⟩
      · refine z_icmp_eq B 1715 dL_law_1710 (by decide) (fun _ => ?_) (fun e => absurd c382 e)
        refine z_iload B dL_law_1715 1 rfl ?_
        rcases zite hf with ⟨c383, hf⟩ | ⟨c383, hf⟩
        · refine z_if_ne B 1732 dL_law_1717 (by decide) (fun e => absurd c383 e) (fun _ => ?_)
          refine z_aload_n B dL_law_1720 rfl 5 rfl ?_
          refine z_iconst (v := 0) B dL_law_1721 (by decide) ?_
          obtain ⟨w384, ew384, hf⟩ := zbs hf
          refine z_aJ B ew384 dL_law_1722 ?_
          refine z_iload B dL_law_1723 0 rfl ?_
          refine z_i2l B dL_law_1725 ?_
          refine z_lcmp B dL_law_1726 ?_
          rcases zite hf with ⟨c385, hf⟩ | ⟨c385, hf⟩
          · refine z_if_eq B 1732 dL_law_1727 (by decide) (fun _ => ?_) (fun e => absurd c385 e)
            refine z_goto B 2228 dL_law_1732 (by decide) ?_
            refine z_iinc (v' := (v4 + 4)) (lv' := [(4, .int (v4 + 4)), (6, .int w378), (5, .int w373), (0, .ref (zgb G)), (1, .ref u1), (2, .ref u2), (3, .ref u3)]) B dL_law_2228 6 rfl rfl (by decide) rfl ?_
            refine z_goto B 23 dL_law_2231 (by decide) ?_
            refine zV.sub [3, 4, 5, 6, 0] rfl ?_
            exact ih _ _ _ _ (show cs + 3 + n * 3 ≤ 2506 by omega) (show ss + 18 + n * 18 ≤ 25404 by omega) hf
          refine z_if_eq B 1732 dL_law_1727 (by decide) (fun e => absurd e c385) (fun _ => ?_)
          refine z_iconst (v := 0) B dL_law_1730 (by decide) ?_
          exact absurd hf (zfalse hr1)
        refine z_if_ne B 1732 dL_law_1717 (by decide) (fun _ => ?_) (fun e => absurd e c383)
        refine z_goto B 2228 dL_law_1732 (by decide) ?_
        refine z_iinc (v' := (v4 + 4)) (lv' := [(4, .int (v4 + 4)), (6, .int w378), (5, .int w373), (0, .ref (zgb G)), (1, .ref u1), (2, .ref u2), (3, .ref u3)]) B dL_law_2228 6 rfl rfl (by decide) rfl ?_
        refine z_goto B 23 dL_law_2231 (by decide) ?_
        refine zV.sub [3, 4, 5, 6, 0] rfl ?_
        exact ih _ _ _ _ (show cs + 3 + n * 3 ≤ 2506 by omega) (show ss + 18 + n * 18 ≤ 25404 by omega) hf
      refine z_icmp_eq B 1715 dL_law_1710 (by decide) (fun e => absurd e c382) (fun _ => ?_)
      refine z_iconst (v := 0) B dL_law_1713 (by decide) ?_
      exact absurd hf (zfalse hr1)
    rcases zite hf with ⟨c386, hf⟩ | ⟨c386, hf⟩
    · refine z_tabIn B 26 1735 dL_law_39 c386 (by decide) (by decide) rfl (by decide) ?_
      refine z_aload_n B dL_law_1735 rfl 1 rfl ?_
      refine z_aload_n B dL_law_1736 rfl 0 rfl ?_
      refine z_iload B dL_law_1737 4 rfl ?_
      refine z_iconst (v := 1) B dL_law_1739 (by decide) ?_
      refine z_iadd B dL_law_1740 ?_
      obtain ⟨w387, ew387, hf⟩ := zbs hf
      refine z_sc B ew387 dL_law_1741 ?_
      refine z_aload_n B dL_law_1742 rfl 3 rfl ?_
      obtain ⟨w388, h389, ew388, hf⟩ := zb2s hf
      refine z_callSW B [.ref u1, .int w387, .ref u3] [] cw_L_bestFor mt_RL_207 (tL_bestFor hst ew388) ⟨rfl, rfl, (Nat.le_of_ble_eq_true rfl), (Nat.le_of_ble_eq_true rfl), (show cs + 1 ≤ 601024 by omega), (show ss + 6 ≤ 7293034 by omega)⟩ rfl rfl (Nat.le_of_ble_eq_true rfl) dL_law_1743 ?_
      refine z_istore (lv' := [(5, .int w388), (0, .ref (zgb G)), (1, .ref u1), (2, .ref u2), (3, .ref u3), (4, .int v4)]) B dL_law_1746 (by decide) rfl ?_
      refine z_aload_n B dL_law_1748 rfl 3 rfl ?_
      refine z_aload_n B dL_law_1749 rfl 1 rfl ?_
      refine z_iload B dL_law_1750 5 rfl ?_
      refine z_iconst (v := 1) B dL_law_1752 (by decide) ?_
      refine z_iadd B dL_law_1753 ?_
      obtain ⟨w390, ew390, hf⟩ := zbs hf
      refine z_sc B ew390 dL_law_1754 ?_
      obtain ⟨w391, h392, ew391, hf⟩ := zb2s hf
      refine z_callVi B [.int w390] [] cw_X7_bestFor mv_RL_209 (tX7_bestFor hst ew391) rfl (by decide) (kfX7_bestFor ew391) ⟨rfl, rfl, (Nat.le_of_ble_eq_true rfl), (Nat.le_of_ble_eq_true rfl), (show cs + 1 ≤ 601024 by omega), (show ss + 6 ≤ 7293034 by omega)⟩ rfl rfl (Nat.le_of_ble_eq_true rfl) dL_law_1755 ?_
      refine z_istore (lv' := [(6, .int w391), (5, .int w388), (0, .ref (zgb G)), (1, .ref u1), (2, .ref u2), (3, .ref u3), (4, .int v4)]) B dL_law_1758 (by decide) rfl ?_
      refine z_aload_n B dL_law_1760 rfl 4 rfl ?_
      obtain ⟨w393, h394, ew393, hf⟩ := zb2s hf
      refine z_callVi B [] [] cw_X7_thrown mv_RL_122 (tX7_thrown hst ew393) rfl (by decide) (kfX7_thrown ew393) ⟨rfl, rfl, (Nat.le_of_ble_eq_true rfl), (Nat.le_of_ble_eq_true rfl), (show cs + 1 ≤ 601024 by omega), (show ss + 6 ≤ 7293034 by omega)⟩ rfl rfl (Nat.le_of_ble_eq_true rfl) dL_law_1761 ?_
      refine z_iload B dL_law_1764 1 rfl ?_
      rcases zite hf with ⟨c395, hf⟩ | ⟨c395, hf⟩
      · refine z_icmp_eq B 1771 dL_law_1766 (by decide) (fun _ => ?_) (fun e => absurd c395 e)
        refine z_iload B dL_law_1771 1 rfl ?_
        rcases zite hf with ⟨c396, hf⟩ | ⟨c396, hf⟩
        · refine z_if_ne B 1788 dL_law_1773 (by decide) (fun e => absurd c396 e) (fun _ => ?_)
          refine z_aload_n B dL_law_1776 rfl 5 rfl ?_
          refine z_iconst (v := 0) B dL_law_1777 (by decide) ?_
          obtain ⟨w397, ew397, hf⟩ := zbs hf
          refine z_aJ B ew397 dL_law_1778 ?_
          refine z_iload B dL_law_1779 0 rfl ?_
          refine z_i2l B dL_law_1781 ?_
          refine z_lcmp B dL_law_1782 ?_
          rcases zite hf with ⟨c398, hf⟩ | ⟨c398, hf⟩
          · refine z_if_eq B 1788 dL_law_1783 (by decide) (fun _ => ?_) (fun e => absurd c398 e)
            refine z_goto B 2228 dL_law_1788 (by decide) ?_
            refine z_iinc (v' := (v4 + 4)) (lv' := [(4, .int (v4 + 4)), (6, .int w391), (5, .int w388), (0, .ref (zgb G)), (1, .ref u1), (2, .ref u2), (3, .ref u3)]) B dL_law_2228 6 rfl rfl (by decide) rfl ?_
            refine z_goto B 23 dL_law_2231 (by decide) ?_
            refine zV.sub [3, 4, 5, 6, 0] rfl ?_
            exact ih _ _ _ _ (show cs + 1 + n * 3 ≤ 2506 by omega) (show ss + 6 + n * 18 ≤ 25404 by omega) hf
          refine z_if_eq B 1788 dL_law_1783 (by decide) (fun e => absurd e c398) (fun _ => ?_)
          refine z_iconst (v := 0) B dL_law_1786 (by decide) ?_
          exact absurd hf (zfalse hr1)
        refine z_if_ne B 1788 dL_law_1773 (by decide) (fun _ => ?_) (fun e => absurd e c396)
        refine z_goto B 2228 dL_law_1788 (by decide) ?_
        refine z_iinc (v' := (v4 + 4)) (lv' := [(4, .int (v4 + 4)), (6, .int w391), (5, .int w388), (0, .ref (zgb G)), (1, .ref u1), (2, .ref u2), (3, .ref u3)]) B dL_law_2228 6 rfl rfl (by decide) rfl ?_
        refine z_goto B 23 dL_law_2231 (by decide) ?_
        refine zV.sub [3, 4, 5, 6, 0] rfl ?_
        exact ih _ _ _ _ (show cs + 1 + n * 3 ≤ 2506 by omega) (show ss + 6 + n * 18 ≤ 25404 by omega) hf
      refine z_icmp_eq B 1771 dL_law_1766 (by decide) (fun e => absurd e c395) (fun _ => ?_)
      refine z_iconst (v := 0) B dL_law_1769 (by decide) ?_
      exact absurd hf (zfalse hr1)
    rcases zite hf with ⟨c399, hf⟩ | ⟨c399, hf⟩
    · refine z_tabIn B 27 1791 dL_law_39 c399 (by decide) (by decide) rfl (by decide) ?_
      refine z_aload_n B dL_law_1791 rfl 1 rfl ?_
      refine z_aload_n B dL_law_1792 rfl 0 rfl ?_
      refine z_iload B dL_law_1793 4 rfl ?_
      refine z_iconst (v := 1) B dL_law_1795 (by decide) ?_
      refine z_iadd B dL_law_1796 ?_
      obtain ⟨w400, ew400, hf⟩ := zbs hf
      refine z_sc B ew400 dL_law_1797 ?_
      refine z_aload_n B dL_law_1798 rfl 3 rfl ?_
      obtain ⟨w401, h402, ew401, hf⟩ := zb2s hf
      refine z_callSW B [.ref u1, .int w400, .ref u3] [] cw_L_victims mt_RL_210 (tL_victims hst ew401) ⟨rfl, rfl, (Nat.le_of_ble_eq_true rfl), (Nat.le_of_ble_eq_true rfl), (show cs + 1 ≤ 601024 by omega), (show ss + 6 ≤ 7293034 by omega)⟩ rfl rfl (Nat.le_of_ble_eq_true rfl) dL_law_1799 ?_
      refine z_istore (lv' := [(5, .int w401), (0, .ref (zgb G)), (1, .ref u1), (2, .ref u2), (3, .ref u3), (4, .int v4)]) B dL_law_1802 (by decide) rfl ?_
      refine z_aload_n B dL_law_1804 rfl 3 rfl ?_
      refine z_aload_n B dL_law_1805 rfl 1 rfl ?_
      refine z_iload B dL_law_1806 5 rfl ?_
      refine z_iconst (v := 1) B dL_law_1808 (by decide) ?_
      refine z_iadd B dL_law_1809 ?_
      obtain ⟨w403, ew403, hf⟩ := zbs hf
      refine z_sc B ew403 dL_law_1810 ?_
      obtain ⟨w404, h405, ew404, hf⟩ := zb2s hf
      refine z_callVi B [.int w403] [] cw_X7_victims mv_RL_212 (tX7_victims hst ew404) rfl (by decide) (kfX7_victims ew404) ⟨rfl, rfl, (Nat.le_of_ble_eq_true rfl), (Nat.le_of_ble_eq_true rfl), (show cs + 1 ≤ 601024 by omega), (show ss + 6 ≤ 7293034 by omega)⟩ rfl rfl (Nat.le_of_ble_eq_true rfl) dL_law_1811 ?_
      refine z_istore (lv' := [(6, .int w404), (5, .int w401), (0, .ref (zgb G)), (1, .ref u1), (2, .ref u2), (3, .ref u3), (4, .int v4)]) B dL_law_1814 (by decide) rfl ?_
      refine z_aload_n B dL_law_1816 rfl 4 rfl ?_
      obtain ⟨w406, h407, ew406, hf⟩ := zb2s hf
      refine z_callVi B [] [] cw_X7_thrown mv_RL_122 (tX7_thrown hst ew406) rfl (by decide) (kfX7_thrown ew406) ⟨rfl, rfl, (Nat.le_of_ble_eq_true rfl), (Nat.le_of_ble_eq_true rfl), (show cs + 1 ≤ 601024 by omega), (show ss + 6 ≤ 7293034 by omega)⟩ rfl rfl (Nat.le_of_ble_eq_true rfl) dL_law_1817 ?_
      refine z_iload B dL_law_1820 1 rfl ?_
      rcases zite hf with ⟨c408, hf⟩ | ⟨c408, hf⟩
      · refine z_icmp_eq B 1827 dL_law_1822 (by decide) (fun _ => ?_) (fun e => absurd c408 e)
        refine z_iload B dL_law_1827 1 rfl ?_
        rcases zite hf with ⟨c409, hf⟩ | ⟨c409, hf⟩
        · refine z_if_ne B 1844 dL_law_1829 (by decide) (fun e => absurd c409 e) (fun _ => ?_)
          refine z_aload_n B dL_law_1832 rfl 5 rfl ?_
          refine z_iconst (v := 0) B dL_law_1833 (by decide) ?_
          obtain ⟨w410, ew410, hf⟩ := zbs hf
          refine z_aJ B ew410 dL_law_1834 ?_
          refine z_iload B dL_law_1835 0 rfl ?_
          refine z_i2l B dL_law_1837 ?_
          refine z_lcmp B dL_law_1838 ?_
          rcases zite hf with ⟨c411, hf⟩ | ⟨c411, hf⟩
          · refine z_if_eq B 1844 dL_law_1839 (by decide) (fun _ => ?_) (fun e => absurd c411 e)
            refine z_goto B 2228 dL_law_1844 (by decide) ?_
            refine z_iinc (v' := (v4 + 4)) (lv' := [(4, .int (v4 + 4)), (6, .int w404), (5, .int w401), (0, .ref (zgb G)), (1, .ref u1), (2, .ref u2), (3, .ref u3)]) B dL_law_2228 6 rfl rfl (by decide) rfl ?_
            refine z_goto B 23 dL_law_2231 (by decide) ?_
            refine zV.sub [3, 4, 5, 6, 0] rfl ?_
            exact ih _ _ _ _ (show cs + 1 + n * 3 ≤ 2506 by omega) (show ss + 6 + n * 18 ≤ 25404 by omega) hf
          refine z_if_eq B 1844 dL_law_1839 (by decide) (fun e => absurd e c411) (fun _ => ?_)
          refine z_iconst (v := 0) B dL_law_1842 (by decide) ?_
          exact absurd hf (zfalse hr1)
        refine z_if_ne B 1844 dL_law_1829 (by decide) (fun _ => ?_) (fun e => absurd e c409)
        refine z_goto B 2228 dL_law_1844 (by decide) ?_
        refine z_iinc (v' := (v4 + 4)) (lv' := [(4, .int (v4 + 4)), (6, .int w404), (5, .int w401), (0, .ref (zgb G)), (1, .ref u1), (2, .ref u2), (3, .ref u3)]) B dL_law_2228 6 rfl rfl (by decide) rfl ?_
        refine z_goto B 23 dL_law_2231 (by decide) ?_
        refine zV.sub [3, 4, 5, 6, 0] rfl ?_
        exact ih _ _ _ _ (show cs + 1 + n * 3 ≤ 2506 by omega) (show ss + 6 + n * 18 ≤ 25404 by omega) hf
      refine z_icmp_eq B 1827 dL_law_1822 (by decide) (fun e => absurd e c408) (fun _ => ?_)
      refine z_iconst (v := 0) B dL_law_1825 (by decide) ?_
      exact absurd hf (zfalse hr1)
    rcases zite hf with ⟨c412, hf⟩ | ⟨c412, hf⟩
    · refine z_tabIn B 28 1847 dL_law_39 c412 (by decide) (by decide) rfl (by decide) ?_
      refine z_aload_n B dL_law_1847 rfl 1 rfl ?_
      obtain ⟨w413, h414, ew413, hf⟩ := zb2s hf
      refine z_callVi B [] [] cw_X6_room mv_RL_213 (tX6_room hst ew413) rfl (by decide) (kfX6_room ew413) ⟨rfl, rfl, (Nat.le_of_ble_eq_true rfl), (Nat.le_of_ble_eq_true rfl), (show cs ≤ 601024 by omega), (show ss ≤ 7293034 by omega)⟩ rfl rfl (Nat.le_of_ble_eq_true rfl) dL_law_1848 ?_
      refine z_aload_n B dL_law_1851 rfl 2 rfl ?_
      obtain ⟨w415, h416, ew415, hf⟩ := zb2s hf
      refine z_callVi B [] [.int w413] cw_X7_room mv_RL_216 (tX7_room hst ew415) rfl (by decide) (kfX7_room ew415) ⟨rfl, rfl, (Nat.le_of_ble_eq_true rfl), (Nat.le_of_ble_eq_true rfl), (show cs ≤ 601024 by omega), (show ss ≤ 7293034 by omega)⟩ rfl rfl (Nat.le_of_ble_eq_true rfl) dL_law_1852 ?_
      rcases zite hf with ⟨c417, hf⟩ | ⟨c417, hf⟩
      · refine z_icmp_eq B 2228 dL_law_1855 (by decide) (fun _ => ?_) (fun e => absurd c417 e)
        refine z_iinc (v' := (v4 + 4)) (lv' := [(4, .int (v4 + 4)), (0, .ref (zgb G)), (1, .ref u1), (2, .ref u2), (3, .ref u3)]) B dL_law_2228 4 rfl rfl (by decide) rfl ?_
        refine z_goto B 23 dL_law_2231 (by decide) ?_
        refine zV.sub [1, 2, 3, 4, 0] rfl ?_
        exact ih _ _ _ _ (show cs + n * 3 ≤ 2506 by omega) (show ss + n * 18 ≤ 25404 by omega) hf
      refine z_icmp_eq B 2228 dL_law_1855 (by decide) (fun e => absurd e c417) (fun _ => ?_)
      refine z_iconst (v := 0) B dL_law_1858 (by decide) ?_
      exact absurd hf (zfalse hr1)
    rcases zite hf with ⟨c418, hf⟩ | ⟨c418, hf⟩
    · refine z_tabIn B 29 1860 dL_law_39 c418 (by decide) (by decide) rfl (by decide) ?_
      refine z_aload_n B dL_law_1860 rfl 1 rfl ?_
      refine z_aload_n B dL_law_1861 rfl 0 rfl ?_
      refine z_iload B dL_law_1862 4 rfl ?_
      refine z_iconst (v := 1) B dL_law_1864 (by decide) ?_
      refine z_iadd B dL_law_1865 ?_
      obtain ⟨w419, ew419, hf⟩ := zbs hf
      refine z_sc B ew419 dL_law_1866 ?_
      refine z_aload_n B dL_law_1867 rfl 3 rfl ?_
      obtain ⟨w420, h421, ew420, hf⟩ := zb2s hf
      refine z_callSW B [.ref u1, .int w419, .ref u3] [] cw_L_ranked mt_RL_217 (tL_ranked hst ew420) ⟨rfl, rfl, (Nat.le_of_ble_eq_true rfl), (Nat.le_of_ble_eq_true rfl), (show cs + 1 ≤ 601024 by omega), (show ss + 6 ≤ 7293034 by omega)⟩ rfl rfl (Nat.le_of_ble_eq_true rfl) dL_law_1868 ?_
      refine z_istore (lv' := [(5, .int w420), (0, .ref (zgb G)), (1, .ref u1), (2, .ref u2), (3, .ref u3), (4, .int v4)]) B dL_law_1871 (by decide) rfl ?_
      refine z_aload_n B dL_law_1873 rfl 3 rfl ?_
      refine z_aload_n B dL_law_1874 rfl 1 rfl ?_
      refine z_iload B dL_law_1875 5 rfl ?_
      refine z_iconst (v := 1) B dL_law_1877 (by decide) ?_
      refine z_iadd B dL_law_1878 ?_
      obtain ⟨w422, ew422, hf⟩ := zbs hf
      refine z_sc B ew422 dL_law_1879 ?_
      obtain ⟨w423, h424, ew423, hf⟩ := zb2s hf
      refine z_callVi B [.int w422] [] cw_X7_ranked mv_RL_219 (tX7_ranked hst ew423) rfl (by decide) (kfX7_ranked ew423) ⟨rfl, rfl, (Nat.le_of_ble_eq_true rfl), (Nat.le_of_ble_eq_true rfl), (show cs + 1 ≤ 601024 by omega), (show ss + 6 ≤ 7293034 by omega)⟩ rfl rfl (Nat.le_of_ble_eq_true rfl) dL_law_1880 ?_
      refine z_istore (lv' := [(6, .int w423), (5, .int w420), (0, .ref (zgb G)), (1, .ref u1), (2, .ref u2), (3, .ref u3), (4, .int v4)]) B dL_law_1883 (by decide) rfl ?_
      refine z_aload_n B dL_law_1885 rfl 4 rfl ?_
      obtain ⟨w425, h426, ew425, hf⟩ := zb2s hf
      refine z_callVi B [] [] cw_X7_thrown mv_RL_122 (tX7_thrown hst ew425) rfl (by decide) (kfX7_thrown ew425) ⟨rfl, rfl, (Nat.le_of_ble_eq_true rfl), (Nat.le_of_ble_eq_true rfl), (show cs + 1 ≤ 601024 by omega), (show ss + 6 ≤ 7293034 by omega)⟩ rfl rfl (Nat.le_of_ble_eq_true rfl) dL_law_1886 ?_
      refine z_iload B dL_law_1889 1 rfl ?_
      rcases zite hf with ⟨c427, hf⟩ | ⟨c427, hf⟩
      · refine z_icmp_eq B 1896 dL_law_1891 (by decide) (fun _ => ?_) (fun e => absurd c427 e)
        refine z_iload B dL_law_1896 1 rfl ?_
        rcases zite hf with ⟨c428, hf⟩ | ⟨c428, hf⟩
        · refine z_if_ne B 1913 dL_law_1898 (by decide) (fun e => absurd c428 e) (fun _ => ?_)
          refine z_aload_n B dL_law_1901 rfl 5 rfl ?_
          refine z_iconst (v := 0) B dL_law_1902 (by decide) ?_
          obtain ⟨w429, ew429, hf⟩ := zbs hf
          refine z_aJ B ew429 dL_law_1903 ?_
          refine z_iload B dL_law_1904 0 rfl ?_
          refine z_i2l B dL_law_1906 ?_
          refine z_lcmp B dL_law_1907 ?_
          rcases zite hf with ⟨c430, hf⟩ | ⟨c430, hf⟩
          · refine z_if_eq B 1913 dL_law_1908 (by decide) (fun _ => ?_) (fun e => absurd c430 e)
            refine z_goto B 2228 dL_law_1913 (by decide) ?_
            refine z_iinc (v' := (v4 + 4)) (lv' := [(4, .int (v4 + 4)), (6, .int w423), (5, .int w420), (0, .ref (zgb G)), (1, .ref u1), (2, .ref u2), (3, .ref u3)]) B dL_law_2228 6 rfl rfl (by decide) rfl ?_
            refine z_goto B 23 dL_law_2231 (by decide) ?_
            refine zV.sub [3, 4, 5, 6, 0] rfl ?_
            exact ih _ _ _ _ (show cs + 1 + n * 3 ≤ 2506 by omega) (show ss + 6 + n * 18 ≤ 25404 by omega) hf
          refine z_if_eq B 1913 dL_law_1908 (by decide) (fun e => absurd e c430) (fun _ => ?_)
          refine z_iconst (v := 0) B dL_law_1911 (by decide) ?_
          exact absurd hf (zfalse hr1)
        refine z_if_ne B 1913 dL_law_1898 (by decide) (fun _ => ?_) (fun e => absurd e c428)
        refine z_goto B 2228 dL_law_1913 (by decide) ?_
        refine z_iinc (v' := (v4 + 4)) (lv' := [(4, .int (v4 + 4)), (6, .int w423), (5, .int w420), (0, .ref (zgb G)), (1, .ref u1), (2, .ref u2), (3, .ref u3)]) B dL_law_2228 6 rfl rfl (by decide) rfl ?_
        refine z_goto B 23 dL_law_2231 (by decide) ?_
        refine zV.sub [3, 4, 5, 6, 0] rfl ?_
        exact ih _ _ _ _ (show cs + 1 + n * 3 ≤ 2506 by omega) (show ss + 6 + n * 18 ≤ 25404 by omega) hf
      refine z_icmp_eq B 1896 dL_law_1891 (by decide) (fun e => absurd e c427) (fun _ => ?_)
      refine z_iconst (v := 0) B dL_law_1894 (by decide) ?_
      exact absurd hf (zfalse hr1)
    rcases zite hf with ⟨c431, hf⟩ | ⟨c431, hf⟩
    · refine z_tabIn B 30 1916 dL_law_39 c431 (by decide) (by decide) rfl (by decide) ?_
      refine z_aload_n B dL_law_1916 rfl 1 rfl ?_
      refine z_aload_n B dL_law_1917 rfl 0 rfl ?_
      refine z_iload B dL_law_1918 4 rfl ?_
      refine z_iconst (v := 1) B dL_law_1920 (by decide) ?_
      refine z_iadd B dL_law_1921 ?_
      obtain ⟨w432, ew432, hf⟩ := zbs hf
      refine z_sc B ew432 dL_law_1922 ?_
      refine z_aload_n B dL_law_1923 rfl 0 rfl ?_
      refine z_iload B dL_law_1924 4 rfl ?_
      refine z_iconst (v := 2) B dL_law_1926 (by decide) ?_
      refine z_iadd B dL_law_1927 ?_
      obtain ⟨w433, ew433, hf⟩ := zbs hf
      refine z_sc B ew433 dL_law_1928 ?_
      refine z_i2l B dL_law_1929 ?_
      refine z_bipush (v := 32) B dL_law_1930 (by decide) ?_
      refine z_lshl B dL_law_1932 ?_
      refine z_aload_n B dL_law_1933 rfl 0 rfl ?_
      refine z_iload B dL_law_1934 4 rfl ?_
      refine z_iconst (v := 3) B dL_law_1936 (by decide) ?_
      refine z_iadd B dL_law_1937 ?_
      obtain ⟨w434, ew434, hf⟩ := zbs hf
      refine z_sc B ew434 dL_law_1938 ?_
      refine z_i2l B dL_law_1939 ?_
      refine z_ldc2 B dL_law_1940 kl_RL_220 ?_
      refine z_land B dL_law_1943 ?_
      refine z_lor B dL_law_1944 ?_
      refine z_aload_n B dL_law_1945 rfl 3 rfl ?_
      obtain ⟨w435, h436, ew435, hf⟩ := zb2s hf
      refine z_callSW B [.ref u1, .int w432, .long (((((w433 : Int32).toInt64 : Int64) <<< ((32 : Int32).toInt64 &&& 63)) : Int64) ||| (((w434 : Int32).toInt64 : Int64) &&& 4294967295)), .ref u3] [] cw_L_runScript mt_RL_222 (tL_runScript hst ew435) ⟨rfl, rfl, (Nat.le_of_ble_eq_true rfl), (Nat.le_of_ble_eq_true rfl), (show cs + 1 ≤ 601024 by omega), (show ss + 6 ≤ 7293034 by omega)⟩ rfl rfl (Nat.le_of_ble_eq_true rfl) dL_law_1946 ?_
      refine z_istore (lv' := [(5, .int w435), (0, .ref (zgb G)), (1, .ref u1), (2, .ref u2), (3, .ref u3), (4, .int v4)]) B dL_law_1949 (by decide) rfl ?_
      refine z_aload_n B dL_law_1951 rfl 3 rfl ?_
      refine z_aload_n B dL_law_1952 rfl 1 rfl ?_
      refine z_iload B dL_law_1953 5 rfl ?_
      refine z_iconst (v := 1) B dL_law_1955 (by decide) ?_
      refine z_iadd B dL_law_1956 ?_
      obtain ⟨w437, ew437, hf⟩ := zbs hf
      refine z_sc B ew437 dL_law_1957 ?_
      refine z_aload_n B dL_law_1958 rfl 1 rfl ?_
      refine z_iload B dL_law_1959 5 rfl ?_
      refine z_iconst (v := 2) B dL_law_1961 (by decide) ?_
      refine z_iadd B dL_law_1962 ?_
      obtain ⟨w438, ew438, hf⟩ := zbs hf
      refine z_sc B ew438 dL_law_1963 ?_
      refine z_i2l B dL_law_1964 ?_
      refine z_bipush (v := 32) B dL_law_1965 (by decide) ?_
      refine z_lshl B dL_law_1967 ?_
      refine z_aload_n B dL_law_1968 rfl 1 rfl ?_
      refine z_iload B dL_law_1969 5 rfl ?_
      refine z_iconst (v := 3) B dL_law_1971 (by decide) ?_
      refine z_iadd B dL_law_1972 ?_
      obtain ⟨w439, ew439, hf⟩ := zbs hf
      refine z_sc B ew439 dL_law_1973 ?_
      refine z_i2l B dL_law_1974 ?_
      refine z_ldc2 B dL_law_1975 kl_RL_220 ?_
      refine z_land B dL_law_1978 ?_
      refine z_lor B dL_law_1979 ?_
      obtain ⟨w440, h441, ew440, hf⟩ := zb2s hf
      refine z_callVi B [.int w437, .long (((((w438 : Int32).toInt64 : Int64) <<< ((32 : Int32).toInt64 &&& 63)) : Int64) ||| (((w439 : Int32).toInt64 : Int64) &&& 4294967295))] [] cw_X7_runScript mv_RL_225 (tX7_runScript hst ew440) rfl (by decide) (kfX7_runScript ew440) ⟨rfl, rfl, (Nat.le_of_ble_eq_true rfl), (Nat.le_of_ble_eq_true rfl), (show cs + 1 ≤ 601024 by omega), (show ss + 6 ≤ 7293034 by omega)⟩ rfl rfl (Nat.le_of_ble_eq_true rfl) dL_law_1980 ?_
      refine z_istore (lv' := [(6, .int w440), (5, .int w435), (0, .ref (zgb G)), (1, .ref u1), (2, .ref u2), (3, .ref u3), (4, .int v4)]) B dL_law_1983 (by decide) rfl ?_
      refine z_aload_n B dL_law_1985 rfl 4 rfl ?_
      obtain ⟨w442, h443, ew442, hf⟩ := zb2s hf
      refine z_callVi B [] [] cw_X7_thrown mv_RL_122 (tX7_thrown hst ew442) rfl (by decide) (kfX7_thrown ew442) ⟨rfl, rfl, (Nat.le_of_ble_eq_true rfl), (Nat.le_of_ble_eq_true rfl), (show cs + 1 ≤ 601024 by omega), (show ss + 6 ≤ 7293034 by omega)⟩ rfl rfl (Nat.le_of_ble_eq_true rfl) dL_law_1986 ?_
      refine z_iload B dL_law_1989 1 rfl ?_
      rcases zite hf with ⟨c444, hf⟩ | ⟨c444, hf⟩
      · refine z_icmp_eq B 1996 dL_law_1991 (by decide) (fun _ => ?_) (fun e => absurd c444 e)
        refine z_iload B dL_law_1996 1 rfl ?_
        rcases zite hf with ⟨c445, hf⟩ | ⟨c445, hf⟩
        · refine z_if_ne B 2013 dL_law_1998 (by decide) (fun e => absurd c445 e) (fun _ => ?_)
          refine z_aload_n B dL_law_2001 rfl 5 rfl ?_
          refine z_iconst (v := 0) B dL_law_2002 (by decide) ?_
          obtain ⟨w446, ew446, hf⟩ := zbs hf
          refine z_aJ B ew446 dL_law_2003 ?_
          refine z_iload B dL_law_2004 0 rfl ?_
          refine z_i2l B dL_law_2006 ?_
          refine z_lcmp B dL_law_2007 ?_
          rcases zite hf with ⟨c447, hf⟩ | ⟨c447, hf⟩
          · refine z_if_eq B 2013 dL_law_2008 (by decide) (fun _ => ?_) (fun e => absurd c447 e)
            refine z_goto B 2228 dL_law_2013 (by decide) ?_
            refine z_iinc (v' := (v4 + 4)) (lv' := [(4, .int (v4 + 4)), (6, .int w440), (5, .int w435), (0, .ref (zgb G)), (1, .ref u1), (2, .ref u2), (3, .ref u3)]) B dL_law_2228 6 rfl rfl (by decide) rfl ?_
            refine z_goto B 23 dL_law_2231 (by decide) ?_
            refine zV.sub [3, 4, 5, 6, 0] rfl ?_
            exact ih _ _ _ _ (show cs + 1 + n * 3 ≤ 2506 by omega) (show ss + 6 + n * 18 ≤ 25404 by omega) hf
          refine z_if_eq B 2013 dL_law_2008 (by decide) (fun e => absurd e c447) (fun _ => ?_)
          refine z_iconst (v := 0) B dL_law_2011 (by decide) ?_
          exact absurd hf (zfalse hr1)
        refine z_if_ne B 2013 dL_law_1998 (by decide) (fun _ => ?_) (fun e => absurd e c445)
        refine z_goto B 2228 dL_law_2013 (by decide) ?_
        refine z_iinc (v' := (v4 + 4)) (lv' := [(4, .int (v4 + 4)), (6, .int w440), (5, .int w435), (0, .ref (zgb G)), (1, .ref u1), (2, .ref u2), (3, .ref u3)]) B dL_law_2228 6 rfl rfl (by decide) rfl ?_
        refine z_goto B 23 dL_law_2231 (by decide) ?_
        refine zV.sub [3, 4, 5, 6, 0] rfl ?_
        exact ih _ _ _ _ (show cs + 1 + n * 3 ≤ 2506 by omega) (show ss + 6 + n * 18 ≤ 25404 by omega) hf
      refine z_icmp_eq B 1996 dL_law_1991 (by decide) (fun e => absurd e c444) (fun _ => ?_)
      refine z_iconst (v := 0) B dL_law_1994 (by decide) ?_
      exact absurd hf (zfalse hr1)
    rcases zite hf with ⟨c448, hf⟩ | ⟨c448, hf⟩
    · refine z_tabIn B 31 2016 dL_law_39 c448 (by decide) (by decide) rfl (by decide) ?_
      refine z_aload_n B dL_law_2016 rfl 1 rfl ?_
      refine z_aload_n B dL_law_2017 rfl 0 rfl ?_
      refine z_iload B dL_law_2018 4 rfl ?_
      refine z_iconst (v := 1) B dL_law_2020 (by decide) ?_
      refine z_iadd B dL_law_2021 ?_
      obtain ⟨w449, ew449, hf⟩ := zbs hf
      refine z_sc B ew449 dL_law_2022 ?_
      refine z_i2l B dL_law_2023 ?_
      refine z_bipush (v := 32) B dL_law_2024 (by decide) ?_
      refine z_lshl B dL_law_2026 ?_
      refine z_aload_n B dL_law_2027 rfl 0 rfl ?_
      refine z_iload B dL_law_2028 4 rfl ?_
      refine z_iconst (v := 2) B dL_law_2030 (by decide) ?_
      refine z_iadd B dL_law_2031 ?_
      obtain ⟨w450, ew450, hf⟩ := zbs hf
      refine z_sc B ew450 dL_law_2032 ?_
      refine z_i2l B dL_law_2033 ?_
      refine z_ldc2 B dL_law_2034 kl_RL_220 ?_
      refine z_land B dL_law_2037 ?_
      refine z_lor B dL_law_2038 ?_
      refine z_aload_n B dL_law_2039 rfl 0 rfl ?_
      refine z_iload B dL_law_2040 4 rfl ?_
      refine z_iconst (v := 3) B dL_law_2042 (by decide) ?_
      refine z_iadd B dL_law_2043 ?_
      obtain ⟨w451, ew451, hf⟩ := zbs hf
      refine z_sc B ew451 dL_law_2044 ?_
      refine z_aload_n B dL_law_2045 rfl 3 rfl ?_
      obtain ⟨w452, h453, ew452, hf⟩ := zb2s hf
      refine z_callSW B [.ref u1, .long (((((w449 : Int32).toInt64 : Int64) <<< ((32 : Int32).toInt64 &&& 63)) : Int64) ||| (((w450 : Int32).toInt64 : Int64) &&& 4294967295)), .int w451, .ref u3] [] cw_L_simulate mt_RL_226 (tL_simulate hst ew452) ⟨rfl, rfl, (Nat.le_of_ble_eq_true rfl), (Nat.le_of_ble_eq_true rfl), (show cs + 1 ≤ 601024 by omega), (show ss + 6 ≤ 7293034 by omega)⟩ rfl rfl (Nat.le_of_ble_eq_true rfl) dL_law_2046 ?_
      refine z_istore (lv' := [(5, .int w452), (0, .ref (zgb G)), (1, .ref u1), (2, .ref u2), (3, .ref u3), (4, .int v4)]) B dL_law_2049 (by decide) rfl ?_
      refine z_aload_n B dL_law_2051 rfl 3 rfl ?_
      refine z_aload_n B dL_law_2052 rfl 1 rfl ?_
      refine z_iload B dL_law_2053 5 rfl ?_
      refine z_iconst (v := 1) B dL_law_2055 (by decide) ?_
      refine z_iadd B dL_law_2056 ?_
      obtain ⟨w454, ew454, hf⟩ := zbs hf
      refine z_sc B ew454 dL_law_2057 ?_
      refine z_i2l B dL_law_2058 ?_
      refine z_bipush (v := 32) B dL_law_2059 (by decide) ?_
      refine z_lshl B dL_law_2061 ?_
      refine z_aload_n B dL_law_2062 rfl 1 rfl ?_
      refine z_iload B dL_law_2063 5 rfl ?_
      refine z_iconst (v := 2) B dL_law_2065 (by decide) ?_
      refine z_iadd B dL_law_2066 ?_
      obtain ⟨w455, ew455, hf⟩ := zbs hf
      refine z_sc B ew455 dL_law_2067 ?_
      refine z_i2l B dL_law_2068 ?_
      refine z_ldc2 B dL_law_2069 kl_RL_220 ?_
      refine z_land B dL_law_2072 ?_
      refine z_lor B dL_law_2073 ?_
      refine z_aload_n B dL_law_2074 rfl 1 rfl ?_
      refine z_iload B dL_law_2075 5 rfl ?_
      refine z_iconst (v := 3) B dL_law_2077 (by decide) ?_
      refine z_iadd B dL_law_2078 ?_
      obtain ⟨w456, ew456, hf⟩ := zbs hf
      refine z_sc B ew456 dL_law_2079 ?_
      obtain ⟨w457, h458, ew457, hf⟩ := zb2s hf
      refine z_callVi B [.long (((((w454 : Int32).toInt64 : Int64) <<< ((32 : Int32).toInt64 &&& 63)) : Int64) ||| (((w455 : Int32).toInt64 : Int64) &&& 4294967295)), .int w456] [] cw_X7_simulate mv_RL_229 (tX7_simulate hst ew457) rfl (by decide) (kfX7_simulate ew457) ⟨rfl, rfl, (Nat.le_of_ble_eq_true rfl), (Nat.le_of_ble_eq_true rfl), (show cs + 1 ≤ 601024 by omega), (show ss + 6 ≤ 7293034 by omega)⟩ rfl rfl (Nat.le_of_ble_eq_true rfl) dL_law_2080 ?_
      refine z_istore (lv' := [(6, .int w457), (5, .int w452), (0, .ref (zgb G)), (1, .ref u1), (2, .ref u2), (3, .ref u3), (4, .int v4)]) B dL_law_2083 (by decide) rfl ?_
      refine z_aload_n B dL_law_2085 rfl 4 rfl ?_
      obtain ⟨w459, h460, ew459, hf⟩ := zb2s hf
      refine z_callVi B [] [] cw_X7_thrown mv_RL_122 (tX7_thrown hst ew459) rfl (by decide) (kfX7_thrown ew459) ⟨rfl, rfl, (Nat.le_of_ble_eq_true rfl), (Nat.le_of_ble_eq_true rfl), (show cs + 1 ≤ 601024 by omega), (show ss + 6 ≤ 7293034 by omega)⟩ rfl rfl (Nat.le_of_ble_eq_true rfl) dL_law_2086 ?_
      refine z_iload B dL_law_2089 1 rfl ?_
      rcases zite hf with ⟨c461, hf⟩ | ⟨c461, hf⟩
      · refine z_icmp_eq B 2096 dL_law_2091 (by decide) (fun _ => ?_) (fun e => absurd c461 e)
        refine z_iload B dL_law_2096 1 rfl ?_
        rcases zite hf with ⟨c462, hf⟩ | ⟨c462, hf⟩
        · refine z_if_ne B 2113 dL_law_2098 (by decide) (fun e => absurd c462 e) (fun _ => ?_)
          refine z_aload_n B dL_law_2101 rfl 5 rfl ?_
          refine z_iconst (v := 0) B dL_law_2102 (by decide) ?_
          obtain ⟨w463, ew463, hf⟩ := zbs hf
          refine z_aJ B ew463 dL_law_2103 ?_
          refine z_iload B dL_law_2104 0 rfl ?_
          refine z_i2l B dL_law_2106 ?_
          refine z_lcmp B dL_law_2107 ?_
          rcases zite hf with ⟨c464, hf⟩ | ⟨c464, hf⟩
          · refine z_if_eq B 2113 dL_law_2108 (by decide) (fun _ => ?_) (fun e => absurd c464 e)
            refine z_goto B 2228 dL_law_2113 (by decide) ?_
            refine z_iinc (v' := (v4 + 4)) (lv' := [(4, .int (v4 + 4)), (6, .int w457), (5, .int w452), (0, .ref (zgb G)), (1, .ref u1), (2, .ref u2), (3, .ref u3)]) B dL_law_2228 6 rfl rfl (by decide) rfl ?_
            refine z_goto B 23 dL_law_2231 (by decide) ?_
            refine zV.sub [3, 4, 5, 6, 0] rfl ?_
            exact ih _ _ _ _ (show cs + 1 + n * 3 ≤ 2506 by omega) (show ss + 6 + n * 18 ≤ 25404 by omega) hf
          refine z_if_eq B 2113 dL_law_2108 (by decide) (fun e => absurd e c464) (fun _ => ?_)
          refine z_iconst (v := 0) B dL_law_2111 (by decide) ?_
          exact absurd hf (zfalse hr1)
        refine z_if_ne B 2113 dL_law_2098 (by decide) (fun _ => ?_) (fun e => absurd e c462)
        refine z_goto B 2228 dL_law_2113 (by decide) ?_
        refine z_iinc (v' := (v4 + 4)) (lv' := [(4, .int (v4 + 4)), (6, .int w457), (5, .int w452), (0, .ref (zgb G)), (1, .ref u1), (2, .ref u2), (3, .ref u3)]) B dL_law_2228 6 rfl rfl (by decide) rfl ?_
        refine z_goto B 23 dL_law_2231 (by decide) ?_
        refine zV.sub [3, 4, 5, 6, 0] rfl ?_
        exact ih _ _ _ _ (show cs + 1 + n * 3 ≤ 2506 by omega) (show ss + 6 + n * 18 ≤ 25404 by omega) hf
      refine z_icmp_eq B 2096 dL_law_2091 (by decide) (fun e => absurd e c461) (fun _ => ?_)
      refine z_iconst (v := 0) B dL_law_2094 (by decide) ?_
      exact absurd hf (zfalse hr1)
    rcases zite hf with ⟨c465, hf⟩ | ⟨c465, hf⟩
    · refine z_tabIn B 32 2116 dL_law_39 c465 (by decide) (by decide) rfl (by decide) ?_
      refine z_aload_n B dL_law_2116 rfl 1 rfl ?_
      refine z_aload_n B dL_law_2117 rfl 0 rfl ?_
      refine z_iload B dL_law_2118 4 rfl ?_
      refine z_iconst (v := 1) B dL_law_2120 (by decide) ?_
      refine z_iadd B dL_law_2121 ?_
      obtain ⟨w466, ew466, hf⟩ := zbs hf
      refine z_sc B ew466 dL_law_2122 ?_
      refine z_aload_n B dL_law_2123 rfl 3 rfl ?_
      obtain ⟨w467, h468, ew467, hf⟩ := zb2s hf
      refine z_callSW B [.ref u1, .int w466, .ref u3] [] cw_L_save mt_RL_230 (tL_save hst ew467) ⟨rfl, rfl, (Nat.le_of_ble_eq_true rfl), (Nat.le_of_ble_eq_true rfl), (show cs + 1 ≤ 601024 by omega), (show ss + 6 ≤ 7293034 by omega)⟩ rfl rfl (Nat.le_of_ble_eq_true rfl) dL_law_2124 ?_
      refine z_istore (lv' := [(5, .int w467), (0, .ref (zgb G)), (1, .ref u1), (2, .ref u2), (3, .ref u3), (4, .int v4)]) B dL_law_2127 (by decide) rfl ?_
      refine z_aload_n B dL_law_2129 rfl 3 rfl ?_
      refine z_aload_n B dL_law_2130 rfl 1 rfl ?_
      refine z_iload B dL_law_2131 5 rfl ?_
      refine z_iconst (v := 1) B dL_law_2133 (by decide) ?_
      refine z_iadd B dL_law_2134 ?_
      obtain ⟨w469, ew469, hf⟩ := zbs hf
      refine z_sc B ew469 dL_law_2135 ?_
      obtain ⟨w470, h471, ew470, hf⟩ := zb2s hf
      refine z_callVi B [.int w469] [] cw_X7_save mv_RL_232 (tX7_save hst ew470) rfl (by decide) (kfX7_save ew470) ⟨rfl, rfl, (Nat.le_of_ble_eq_true rfl), (Nat.le_of_ble_eq_true rfl), (show cs + 1 ≤ 601024 by omega), (show ss + 6 ≤ 7293034 by omega)⟩ rfl rfl (Nat.le_of_ble_eq_true rfl) dL_law_2136 ?_
      refine z_istore (lv' := [(6, .int w470), (5, .int w467), (0, .ref (zgb G)), (1, .ref u1), (2, .ref u2), (3, .ref u3), (4, .int v4)]) B dL_law_2139 (by decide) rfl ?_
      refine z_aload_n B dL_law_2141 rfl 4 rfl ?_
      obtain ⟨w472, h473, ew472, hf⟩ := zb2s hf
      refine z_callVi B [] [] cw_X7_thrown mv_RL_122 (tX7_thrown hst ew472) rfl (by decide) (kfX7_thrown ew472) ⟨rfl, rfl, (Nat.le_of_ble_eq_true rfl), (Nat.le_of_ble_eq_true rfl), (show cs + 1 ≤ 601024 by omega), (show ss + 6 ≤ 7293034 by omega)⟩ rfl rfl (Nat.le_of_ble_eq_true rfl) dL_law_2142 ?_
      refine z_iload B dL_law_2145 1 rfl ?_
      rcases zite hf with ⟨c474, hf⟩ | ⟨c474, hf⟩
      · refine z_icmp_eq B 2152 dL_law_2147 (by decide) (fun _ => ?_) (fun e => absurd c474 e)
        refine z_iload B dL_law_2152 1 rfl ?_
        rcases zite hf with ⟨c475, hf⟩ | ⟨c475, hf⟩
        · refine z_if_ne B 2169 dL_law_2154 (by decide) (fun e => absurd c475 e) (fun _ => ?_)
          refine z_aload_n B dL_law_2157 rfl 5 rfl ?_
          refine z_iconst (v := 0) B dL_law_2158 (by decide) ?_
          obtain ⟨w476, ew476, hf⟩ := zbs hf
          refine z_aJ B ew476 dL_law_2159 ?_
          refine z_iload B dL_law_2160 0 rfl ?_
          refine z_i2l B dL_law_2162 ?_
          refine z_lcmp B dL_law_2163 ?_
          rcases zite hf with ⟨c477, hf⟩ | ⟨c477, hf⟩
          · refine z_if_eq B 2169 dL_law_2164 (by decide) (fun _ => ?_) (fun e => absurd c477 e)
            refine z_goto B 2228 dL_law_2169 (by decide) ?_
            refine z_iinc (v' := (v4 + 4)) (lv' := [(4, .int (v4 + 4)), (6, .int w470), (5, .int w467), (0, .ref (zgb G)), (1, .ref u1), (2, .ref u2), (3, .ref u3)]) B dL_law_2228 6 rfl rfl (by decide) rfl ?_
            refine z_goto B 23 dL_law_2231 (by decide) ?_
            refine zV.sub [3, 4, 5, 6, 0] rfl ?_
            exact ih _ _ _ _ (show cs + 1 + n * 3 ≤ 2506 by omega) (show ss + 6 + n * 18 ≤ 25404 by omega) hf
          refine z_if_eq B 2169 dL_law_2164 (by decide) (fun e => absurd e c477) (fun _ => ?_)
          refine z_iconst (v := 0) B dL_law_2167 (by decide) ?_
          exact absurd hf (zfalse hr1)
        refine z_if_ne B 2169 dL_law_2154 (by decide) (fun _ => ?_) (fun e => absurd e c475)
        refine z_goto B 2228 dL_law_2169 (by decide) ?_
        refine z_iinc (v' := (v4 + 4)) (lv' := [(4, .int (v4 + 4)), (6, .int w470), (5, .int w467), (0, .ref (zgb G)), (1, .ref u1), (2, .ref u2), (3, .ref u3)]) B dL_law_2228 6 rfl rfl (by decide) rfl ?_
        refine z_goto B 23 dL_law_2231 (by decide) ?_
        refine zV.sub [3, 4, 5, 6, 0] rfl ?_
        exact ih _ _ _ _ (show cs + 1 + n * 3 ≤ 2506 by omega) (show ss + 6 + n * 18 ≤ 25404 by omega) hf
      refine z_icmp_eq B 2152 dL_law_2147 (by decide) (fun e => absurd e c474) (fun _ => ?_)
      refine z_iconst (v := 0) B dL_law_2150 (by decide) ?_
      exact absurd hf (zfalse hr1)
    rcases zite hf with ⟨c478, hf⟩ | ⟨c478, hf⟩
    · refine z_tabIn B 33 2172 dL_law_39 c478 (by decide) (by decide) rfl (by decide) ?_
      refine z_aload_n B dL_law_2172 rfl 1 rfl ?_
      refine z_aload_n B dL_law_2173 rfl 0 rfl ?_
      refine z_iload B dL_law_2174 4 rfl ?_
      refine z_iconst (v := 1) B dL_law_2176 (by decide) ?_
      refine z_iadd B dL_law_2177 ?_
      obtain ⟨w479, ew479, hf⟩ := zbs hf
      refine z_sc B ew479 dL_law_2178 ?_
      refine z_aload_n B dL_law_2179 rfl 3 rfl ?_
      obtain ⟨w480, h481, ew480, hf⟩ := zb2s hf
      refine z_callSW B [.ref u1, .int w479, .ref u3] [] cw_L_restore mt_RL_233 (tL_restore hst ew480) ⟨rfl, rfl, (Nat.le_of_ble_eq_true rfl), (Nat.le_of_ble_eq_true rfl), (show cs + 2 ≤ 601024 by omega), (show ss + 12 ≤ 7293034 by omega)⟩ rfl rfl (Nat.le_of_ble_eq_true rfl) dL_law_2180 ?_
      refine z_istore (lv' := [(5, .int w480), (0, .ref (zgb G)), (1, .ref u1), (2, .ref u2), (3, .ref u3), (4, .int v4)]) B dL_law_2183 (by decide) rfl ?_
      refine z_aload_n B dL_law_2185 rfl 3 rfl ?_
      refine z_aload_n B dL_law_2186 rfl 1 rfl ?_
      refine z_iload B dL_law_2187 5 rfl ?_
      refine z_iconst (v := 1) B dL_law_2189 (by decide) ?_
      refine z_iadd B dL_law_2190 ?_
      obtain ⟨w482, ew482, hf⟩ := zbs hf
      refine z_sc B ew482 dL_law_2191 ?_
      obtain ⟨w483, h484, ew483, hf⟩ := zb2s hf
      refine z_callVi B [.int w482] [] cw_X7_restore mv_RL_235 (tX7_restore hst ew483) rfl (by decide) (kfX7_restore ew483) ⟨rfl, rfl, (Nat.le_of_ble_eq_true rfl), (Nat.le_of_ble_eq_true rfl), (show cs + 2 ≤ 601024 by omega), (show ss + 12 ≤ 7293034 by omega)⟩ rfl rfl (Nat.le_of_ble_eq_true rfl) dL_law_2192 ?_
      refine z_istore (lv' := [(6, .int w483), (5, .int w480), (0, .ref (zgb G)), (1, .ref u1), (2, .ref u2), (3, .ref u3), (4, .int v4)]) B dL_law_2195 (by decide) rfl ?_
      refine z_aload_n B dL_law_2197 rfl 4 rfl ?_
      obtain ⟨w485, h486, ew485, hf⟩ := zb2s hf
      refine z_callVi B [] [] cw_X7_thrown mv_RL_122 (tX7_thrown hst ew485) rfl (by decide) (kfX7_thrown ew485) ⟨rfl, rfl, (Nat.le_of_ble_eq_true rfl), (Nat.le_of_ble_eq_true rfl), (show cs + 2 ≤ 601024 by omega), (show ss + 12 ≤ 7293034 by omega)⟩ rfl rfl (Nat.le_of_ble_eq_true rfl) dL_law_2198 ?_
      refine z_iload B dL_law_2201 1 rfl ?_
      rcases zite hf with ⟨c487, hf⟩ | ⟨c487, hf⟩
      · refine z_icmp_eq B 2208 dL_law_2203 (by decide) (fun _ => ?_) (fun e => absurd c487 e)
        refine z_iload B dL_law_2208 1 rfl ?_
        rcases zite hf with ⟨c488, hf⟩ | ⟨c488, hf⟩
        · refine z_if_ne B 2225 dL_law_2210 (by decide) (fun e => absurd c488 e) (fun _ => ?_)
          refine z_aload_n B dL_law_2213 rfl 5 rfl ?_
          refine z_iconst (v := 0) B dL_law_2214 (by decide) ?_
          obtain ⟨w489, ew489, hf⟩ := zbs hf
          refine z_aJ B ew489 dL_law_2215 ?_
          refine z_iload B dL_law_2216 0 rfl ?_
          refine z_i2l B dL_law_2218 ?_
          refine z_lcmp B dL_law_2219 ?_
          rcases zite hf with ⟨c490, hf⟩ | ⟨c490, hf⟩
          · refine z_if_eq B 2225 dL_law_2220 (by decide) (fun _ => ?_) (fun e => absurd c490 e)
            refine z_goto B 2228 dL_law_2225 (by decide) ?_
            refine z_iinc (v' := (v4 + 4)) (lv' := [(4, .int (v4 + 4)), (6, .int w483), (5, .int w480), (0, .ref (zgb G)), (1, .ref u1), (2, .ref u2), (3, .ref u3)]) B dL_law_2228 6 rfl rfl (by decide) rfl ?_
            refine z_goto B 23 dL_law_2231 (by decide) ?_
            refine zV.sub [3, 4, 5, 6, 0] rfl ?_
            exact ih _ _ _ _ (show cs + 2 + n * 3 ≤ 2506 by omega) (show ss + 12 + n * 18 ≤ 25404 by omega) hf
          refine z_if_eq B 2225 dL_law_2220 (by decide) (fun e => absurd e c490) (fun _ => ?_)
          refine z_iconst (v := 0) B dL_law_2223 (by decide) ?_
          exact absurd hf (zfalse hr1)
        refine z_if_ne B 2225 dL_law_2210 (by decide) (fun _ => ?_) (fun e => absurd e c488)
        refine z_goto B 2228 dL_law_2225 (by decide) ?_
        refine z_iinc (v' := (v4 + 4)) (lv' := [(4, .int (v4 + 4)), (6, .int w483), (5, .int w480), (0, .ref (zgb G)), (1, .ref u1), (2, .ref u2), (3, .ref u3)]) B dL_law_2228 6 rfl rfl (by decide) rfl ?_
        refine z_goto B 23 dL_law_2231 (by decide) ?_
        refine zV.sub [3, 4, 5, 6, 0] rfl ?_
        exact ih _ _ _ _ (show cs + 2 + n * 3 ≤ 2506 by omega) (show ss + 12 + n * 18 ≤ 25404 by omega) hf
      refine z_icmp_eq B 2208 dL_law_2203 (by decide) (fun e => absurd e c487) (fun _ => ?_)
      refine z_iconst (v := 0) B dL_law_2206 (by decide) ?_
      exact absurd hf (zfalse hr1)
    refine z_tabOut B 2228 dL_law_39 (z_outL 0 34 (by decide) (fun j hj0 hj => by rcases (show j = 0 ∨ j = 1 ∨ j = 2 ∨ j = 3 ∨ j = 4 ∨ j = 5 ∨ j = 6 ∨ j = 7 ∨ j = 8 ∨ j = 9 ∨ j = 10 ∨ j = 11 ∨ j = 12 ∨ j = 13 ∨ j = 14 ∨ j = 15 ∨ j = 16 ∨ j = 17 ∨ j = 18 ∨ j = 19 ∨ j = 20 ∨ j = 21 ∨ j = 22 ∨ j = 23 ∨ j = 24 ∨ j = 25 ∨ j = 26 ∨ j = 27 ∨ j = 28 ∨ j = 29 ∨ j = 30 ∨ j = 31 ∨ j = 32 ∨ j = 33 by omega) with rfl | rfl | rfl | rfl | rfl | rfl | rfl | rfl | rfl | rfl | rfl | rfl | rfl | rfl | rfl | rfl | rfl | rfl | rfl | rfl | rfl | rfl | rfl | rfl | rfl | rfl | rfl | rfl | rfl | rfl | rfl | rfl | rfl | rfl <;> assumption)) (by decide) ?_
    refine z_iinc (v' := (v4 + 4)) (lv' := [(4, .int (v4 + 4)), (0, .ref (zgb G)), (1, .ref u1), (2, .ref u2), (3, .ref u3)]) B dL_law_2228 4 rfl rfl (by decide) rfl ?_
    refine z_goto B 23 dL_law_2231 (by decide) ?_
    refine zV.sub [1, 2, 3, 4, 0] rfl ?_
    exact ih _ _ _ _ (show cs + n * 3 ≤ 2506 by omega) (show ss + n * 18 ≤ 25404 by omega) hf
set_option maxRecDepth 100000 in
set_option maxHeartbeats 8000000 in
theorem tL_law {G : zG} {x : zX} (B : zB G x cL_law 7 RL (zt x).name room_1 (some .boolean)) (hst : (zl x).stackTraces = false) (hB : (zs x).heap.size ≤ zgB G) (ha : za x = #[Value.ref (zgb G)]) {r : Int32 × zH} (hr1 : r.1 = 1) {h : zH} (hf : fL_law G h = some r) : zV G x 7 (lw_Z (zb x) (za x) (zs x)) h 0 0 0 [(0, .ref (zgb G))] [] := by
  unfold fL_law at hf
  obtain ⟨h1, eh1, hf⟩ := zbs hf
  refine z_newS B nw_RL_8 eh1 dL_law_0 (Nat.le_of_ble_eq_true rfl) (Nat.le_of_ble_eq_true rfl) ?_
  refine z_dup B dL_law_3 rfl ?_
  obtain ⟨h2, eh2, hf⟩ := zbs hf
  refine z_callI B [] [.ref (zn h)] cw_X6_init mi_RL_112 (tX6_init hst eh2) ⟨rfl, rfl, (Nat.le_of_ble_eq_true rfl), (Nat.le_of_ble_eq_true rfl), (Nat.le_of_ble_eq_true rfl), (Nat.le_of_ble_eq_true rfl)⟩ rfl rfl (Nat.le_of_ble_eq_true rfl) dL_law_4 ?_
  refine z_astore_n (lv' := [(1, .ref (zn h)), (0, .ref (zgb G))]) B dL_law_7 rfl (by decide) rfl ?_
  obtain ⟨h3, eh3, hf⟩ := zbs hf
  refine z_newS B nw_RL_113 eh3 dL_law_8 (Nat.le_of_ble_eq_true rfl) (Nat.le_of_ble_eq_true rfl) ?_
  refine z_dup B dL_law_11 rfl ?_
  obtain ⟨h4, eh4, hf⟩ := zbs hf
  refine z_callI B [] [.ref (zn h2)] cw_X7_init mi_RL_115 (tX7_init hst eh4) ⟨rfl, rfl, (Nat.le_of_ble_eq_true rfl), (Nat.le_of_ble_eq_true rfl), (Nat.le_of_ble_eq_true rfl), (Nat.le_of_ble_eq_true rfl)⟩ rfl rfl (Nat.le_of_ble_eq_true rfl) dL_law_12 ?_
  refine z_astore_n (lv' := [(2, .ref (zn h2)), (1, .ref (zn h)), (0, .ref (zgb G))]) B dL_law_15 rfl (by decide) rfl ?_
  refine z_iconst (v := 1) B dL_law_16 (by decide) ?_
  obtain ⟨h5, eh5, hf⟩ := zbs hf
  refine z_newaJS (N := 1) B kw_aj eh5 (by decide) rfl (Nat.le_of_ble_eq_true rfl) dL_law_17 (Nat.le_of_ble_eq_true rfl) (Nat.le_of_ble_eq_true rfl) ?_
  refine z_astore_n (lv' := [(3, .ref (zn h4)), (2, .ref (zn h2)), (1, .ref (zn h)), (0, .ref (zgb G))]) B dL_law_19 rfl (by decide) rfl ?_
  refine z_iconst (v := 0) B dL_law_20 (by decide) ?_
  refine z_istore (lv' := [(4, .int 0), (3, .ref (zn h4)), (2, .ref (zn h2)), (1, .ref (zn h)), (0, .ref (zgb G))]) B dL_law_21 (by decide) rfl ?_
  refine zV.sub [4, 3, 2, 1, 0] rfl ?_
  refine fL_law_L23_ok B hst hB ha hr1 (fun h6 y7 hf => ?_) _ _ _ _ _ (Nat.le_of_ble_eq_true rfl) (Nat.le_of_ble_eq_true rfl) hf
  refine z_iconst (v := 1) B dL_law_2234 (by decide) ?_
  exact z_lawret B hB ha dL_law_2235.1 (Nat.le_of_ble_eq_true rfl) (Nat.le_of_ble_eq_true rfl)
